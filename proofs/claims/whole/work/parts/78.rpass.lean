/-! One token of the pass, for the class and for the reference. -/
def sst (k : Nat) (h4 : Bool) (t : Nat) (s : List Nat) : List (Nat × Nat × Nat) × List Nat := if (k = 1 ∧ h4 = true) ∧ s.length < 12 then ([], t :: s) else if k = 5 then (match s with
    | f :: s' => ([(f, t, s'.length)], s')
    | [] => ([], [])) else if k = 1 ∨ k = 2 then ([(t, t, s.length)], s) else ([], s)
theorem scn_sst (n k t : Nat) (r s : List Nat) : scn (n + 1) (k :: r) t s = ((sst k (hd4 r) t s).1 ++ (scn n r (t + 1) (sst k (hd4 r) t s).2).1, (scn n r (t + 1) (sst k (hd4 r) t s).2).2) := by
  rw [scn_c]
  unfold sst
  by_cases h1 : (k = 1 ∧ hd4 r = true) ∧ s.length < 12
  · rw [if_pos h1, if_pos h1]; rfl
  · rw [if_neg h1, if_neg h1]
    by_cases h5 : k = 5
    · rw [if_pos h5, if_pos h5]
      cases s with
      | nil => rfl
      | cons f s' => rfl
    · rw [if_neg h5, if_neg h5]
      by_cases h12 : k = 1 ∨ k = 2
      · rw [if_pos h12, if_pos h12]; rfl
      · rw [if_neg h12, if_neg h12]; rfl
theorem sst_cs {k : Nat} {h4 : Bool} {t : Nat} {s s' : List Nat} {es : List (Nat × Nat × Nat)} (h : sst k h4 t s = (es, s')) : (es = [] ∧ ((k = 1 ∧ s' = t :: s) ∨ s' = s)) ∨ ∃ f, es = [(f, t, s'.length)] ∧ ((k = 5 ∧ s = f :: s') ∨ ((k = 1 ∨ k = 2) ∧ f = t ∧ s' = s)) := by
  unfold sst at h
  split at h
  · rename_i h1
    cases h
    exact Or.inl ⟨rfl, Or.inl ⟨h1.1.1, rfl⟩⟩
  · split at h
    · rename_i h5
      split at h
      · cases h
        exact Or.inr ⟨_, rfl, Or.inl ⟨h5, rfl⟩⟩
      · cases h
        exact Or.inl ⟨rfl, Or.inr rfl⟩
    · split at h
      · rename_i h12
        cases h
        exact Or.inr ⟨t, rfl, Or.inr ⟨h12, rfl, rfl⟩⟩
      · cases h
        exact Or.inl ⟨rfl, Or.inr rfl⟩
theorem ps_sst {Zr : List ItC} {tr : List Int32} {ar suf0 : Nat} (z : MIt) (S X : List MIt) (st : List Nat) (R : Nat) : ps Zr tr ar suf0 (z :: S) X st R = match sst (mkd z) (hd4 (kdi S)) X.length st with
    | ([], s') => ps Zr tr ar suf0 S (X ++ [z]) s' R
    | ((f, _, a) :: _, s') => (match tri Zr tr ar (X ++ [z]) f a (ftl (S.map un) + suf0) R with
      | some (X2, R2) => ps Zr tr ar suf0 S X2 s' R2
      | none => none) := by
  conv => lhs; unfold ps
  unfold sst
  by_cases h1 : (mkd z = 1 ∧ hd4 (kdi S) = true) ∧ st.length < 12
  · rw [if_pos h1, if_pos h1]
  · rw [if_neg h1, if_neg h1]
    by_cases h5 : mkd z = 5
    · rw [if_pos h5, if_pos h5]
      cases st with
      | nil => rfl
      | cons f s' => rfl
    · rw [if_neg h5, if_neg h5]
      by_cases h12 : mkd z = 1 ∨ mkd z = 2
      · rw [if_pos h12, if_pos h12]
        rfl
      · rw [if_neg h12, if_neg h12]
section IV
variable (tl : List Int32) (Xp : List MIt) (c : MIt) (C : List MIt)
def IVS (X' S : List MIt) (st : List Nat) (p : Nat) : Prop :=
  LX ((Xp ++ (X' ++ (S ++ c :: C))).map un) tl ∧ gl (kdi (X' ++ S)) = true ∧
  (∃ Ed, (outl (kdi (Xp ++ (X' ++ (S ++ c :: C))))).2 = Ed ++ ((scn S.length (kdi (S ++ c :: C)) (Xp.length + X'.length) st).1 ++ (oln (kdi (Xp ++ (X' ++ (S ++ c :: C)))) C.length (Xp.length + X'.length + S.length + 1) (Xp.length + X'.length + S.length + 1)).2) ∧ ∀ q ∈ Ed, ten (psn 0 ((Xp ++ (X' ++ (S ++ c :: C))).map un)) q.2.1 ≤ p) ∧
  (scn X'.length (kdi (X' ++ (S ++ c :: C))) Xp.length []).2 = st ∧ SKs (kdi (X' ++ (S ++ c :: C))) Xp.length st ∧ p < ten (psn 0 ((Xp ++ (X' ++ (S ++ c :: C))).map un)) (Xp.length + X'.length) ∧ ums [] (Xp ++ (X' ++ (S ++ c :: C)))
end IV
section IW
variable {tl : List Int32} {Xp : List MIt} {c : MIt} {C : List MIt}
theorem tenm {M : List MIt} (hLX : LX (M.map un) tl) {i j : Nat} (h : i < j) (hj : j < M.length) : ten (psn 0 (M.map un)) i < ten (psn 0 (M.map un)) j := ten_mono (LX_w _ _ hLX) h (by rw [List.length_map]; exact hj)
theorem app_zs (X' S : List MIt) (z : MIt) : X' ++ (z :: S ++ c :: C) = (X' ++ [z]) ++ (S ++ c :: C) := by simp
/-- a token is passed -/
theorem IVS.copy {X' S : List MIt} {z : MIt} {st s' : List Nat} {p p' : Nat} {es : List (Nat × Nat × Nat)} (hc : mkd c = 7) (h : IVS tl Xp c C X' (z :: S) st p) (hst : sst (mkd z) (hd4 (kdi S)) (Xp.length + X'.length) st = (es, s')) (hpp : p ≤ p') (he : ∀ q ∈ es, ten (psn 0 ((Xp ++ (X' ++ (z :: S ++ c :: C))).map un)) q.2.1 ≤ p') (hp' : p' < ten (psn 0 ((Xp ++ (X' ++ (z :: S ++ c :: C))).map un)) (Xp.length + X'.length + 1)) : IVS tl Xp c C (X' ++ [z]) S s' p' := by
  obtain ⟨h1, h2, ⟨Ed, h3, h4⟩, h5, h6, h7, h8⟩ := h
  have h4' : hd4 (kdi (S ++ c :: C)) = hd4 (kdi S) := by
    rw [kdi_app]
    exact hd4_app (by show Nat.beq (mkd c) 4 = false; rw [hc]; rfl)
  have hk : kdi (z :: S ++ c :: C) = mkd z :: kdi (S ++ c :: C) := rfl
  have hs1 : scn (S.length + 1) (kdi (z :: S ++ c :: C)) (Xp.length + X'.length) st = (es ++ (scn S.length (kdi (S ++ c :: C)) (Xp.length + X'.length + 1) s').1, (scn S.length (kdi (S ++ c :: C)) (Xp.length + X'.length + 1) s').2) := by
    rw [hk, scn_sst, h4', hst]
  have hs2 : (scn 1 (kdi (z :: S ++ c :: C)) (Xp.length + X'.length) st).2 = s' := by
    rw [hk, scn_sst, h4', hst]
    rfl
  have hd : (kdi (X' ++ (z :: S ++ c :: C))).drop X'.length = kdi (z :: S ++ c :: C) := by
    rw [kdi_app X', ← kdi_len X', List.drop_left]
  have hl1 : (X' ++ [z]).length = X'.length + 1 := by rw [List.length_append, List.length_singleton]
  have hsc : (scn (X' ++ [z]).length (kdi ((X' ++ [z]) ++ (S ++ c :: C))) Xp.length []).2 = s' := by
    rw [hl1, ← app_zs, scn_app, hd, h5]
    exact hs2
  refine ⟨by rw [← app_zs]; exact h1, ?_, ⟨Ed ++ es, ?_, fun q hq => ?_⟩, hsc, ?_, ?_, by rw [← app_zs]; exact h8⟩
  · rw [List.append_assoc]
    exact h2
  · rw [← app_zs, h3, List.length_cons, hs1, hl1]
    dsimp only
    rw [List.append_assoc, List.append_assoc, show Xp.length + (X'.length + 1) = Xp.length + X'.length + 1 by omega, show Xp.length + X'.length + (S.length + 1) + 1 = Xp.length + X'.length + 1 + S.length + 1 by omega]
  · rw [← app_zs]
    rcases List.mem_append.mp hq with q1 | q1
    · have := h4 q q1
      omega
    · exact he q q1
  · rw [← app_zs]
    rcases sst_cs hst with ⟨-, ⟨k1, rfl⟩ | rfl⟩ | ⟨f, -, ⟨-, rfl⟩ | ⟨-, -, rfl⟩⟩
    · refine h6.push (by omega) ?_ (by rw [Nat.add_sub_cancel_left]; exact h5)
      rw [Nat.add_sub_cancel_left, kdi_app, List.getElem?_append_right (by rw [kdi_len]; omega), kdi_len, Nat.sub_self]
      show some (mkd z) = _
      rw [k1]
    · exact h6
    · exact h6.tl
    · exact h6
  · rw [← app_zs, hl1, show Xp.length + (X'.length + 1) = Xp.length + X'.length + 1 by omega]
    exact hp'
theorem fit_eq {Z : List ItC} {tr : List Int32} {ar : Nat} {X W : List MIt} {f t dp : Nat} (ht : t + 1 = X.length) (hft : f ≤ t) (h : le_ false ((kdi (X ++ W)).drop f) = some (X.length - f, dp)) (hdp : dp ≤ 12) : fitB Z tr ar tl (X ++ W) f t = mtx Z tr ar X f := by
  have key := mtc_pre (s := fl Z tr) (P := psn 0 Z) (tl := tl) (tl' := []) h hdp ar 0 f B0 (Nat.le_refl _) (by omega) (fun d f b e => by cases e)
  apply Option.ext
  intro B
  have e1 : fitB Z tr ar tl (X ++ W) f t = some B ↔ mtc (fl Z tr) (psn 0 Z) (fl ((X ++ W).map un) tl) (psn 0 ((X ++ W).map un)) ar 0 f B0 = some (X.length, B) := by
    unfold fitB
    cases hm : mtc (fl Z tr) (psn 0 Z) (fl ((X ++ W).map un) tl) (psn 0 ((X ++ W).map un)) ar 0 f B0 with
    | none => simp
    | some v =>
      obtain ⟨e, B'⟩ := v
      dsimp only
      rw [ht]
      by_cases c : e = X.length
      · rw [if_pos c, c]
        simp
      · rw [if_neg c]
        constructor
        · intro q; cases q
        · intro q; injection q with q; injection q with q1 _; exact absurd q1 c
  have e2 : mtx Z tr ar X f = some B ↔ mtc (fl Z tr) (psn 0 Z) (fl (X.map un) []) (psn 0 (X.map un)) ar 0 f B0 = some (X.length, B) := by
    unfold mtx
    cases hm : mtc (fl Z tr) (psn 0 Z) (fl (X.map un) []) (psn 0 (X.map un)) ar 0 f B0 with
    | none => simp
    | some v =>
      obtain ⟨e, B'⟩ := v
      dsimp only
      by_cases c : e = X.length
      · rw [if_pos c, c]
        simp
      · rw [if_neg c]
        constructor
        · intro q; cases q
        · intro q; injection q with q; injection q with q1 _; exact absurd q1 c
  rw [e1, e2, key]
end IW
