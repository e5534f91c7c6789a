/-! Program.pass. -/
theorem uPv {P : mP} {a k m j : Nat} {v : Nat} : uP P a k v m j = if m = a ∧ j = k then v else P m j := by
  unfold uP sP va_up
  by_cases hm : m = a
  · subst hm
    rw [if_pos rfl]
    by_cases hj : j = k
    · rw [if_pos hj, if_pos ⟨rfl, hj⟩]
    · rw [if_neg hj, if_neg (fun c => hj c.2)]
  · rw [if_neg hm, if_neg (fun c => hm c.1)]
def swp (P : mP) : mP := uP (uP P 60 0 (P 60 1)) 60 1 (P 60 0)
theorem swp_n {P : mP} {m j : Nat} (h : m ≠ 60 ∨ (j ≠ 0 ∧ j ≠ 1)) : swp P m j = P m j := by
  unfold swp
  rw [uPv, if_neg (by omega), uPv, if_neg (by omega)]
theorem swp_0 {P : mP} : swp P 60 0 = P 60 1 := by
  unfold swp
  rw [uPv, if_neg (by omega), uPv, if_pos ⟨rfl, rfl⟩]
theorem swp_1 {P : mP} : swp P 60 1 = P 60 0 := by
  unfold swp
  rw [uPv, if_pos ⟨rfl, rfl⟩]
theorem swp_m {P : mP} {m : Nat} (h : m ≠ 60) : swp P m = P m := funext fun j => swp_n (Or.inl h)
theorem Sh.sww {P : mP} (h : Sh P) : Sh (swp P) := by
  obtain ⟨h1, h2, h3, h4, h5, h6, h7, h8⟩ := h
  unfold Sh
  have e : ∀ o, o ≠ 60 → TRW P o → TRW (swp P) o := fun o ho hh => by unfold TRW at hh ⊢; rw [swp_m ho]; exact hh
  refine ⟨by rw [swp_m (by decide)]; exact h1, fun r hr => ?_, ⟨e 61 (by decide) h3.1, e 67 (by decide) h3.2.1, e 73 (by decide) h3.2.2.1, e 79 (by decide) h3.2.2.2⟩, ?_, ?_, ?_, by rw [swp_m (by decide)]; exact h7, ?_⟩
  · obtain ⟨a, b, c, d', f⟩ := h2 r hr
    rw [swp_m (by decide), swp_m (by omega)]
    exact ⟨a, b, c, d', e _ (by omega) f⟩
  · rw [swp_0, swp_1]
    rcases h4 with ⟨a, b⟩ | ⟨a, b⟩
    · exact Or.inr ⟨b, a⟩
    · exact Or.inl ⟨b, a⟩
  · rw [swp_n (Or.inr (by decide)), swp_n (Or.inr (by decide)), swp_n (Or.inr (by decide)), swp_n (Or.inr (by decide))]
    exact h5
  · unfold OO at h6 ⊢
    rw [swp_m (by decide)]
    exact h6
  · unfold MO at h8 ⊢
    rw [swp_m (by decide)]
    exact h8
/-- the class's program: its tokens, what follows them, and how many rewritings were made -/
def PG (I : mI) (P : mP) (N : List MIt) (tl : List Int32) (mt : Int32) (R : Nat) : Prop := TZ I (P 60 0) N tl mt ∧ OS I (outl (kdi N)).1 ∧ OE I (outl (kdi N)).2 ∧ I 60 6 = nI R ∧ WN N ∧ k10 (kdi N) ∧ (fl (N.map un) tl).length ≤ 120
abbrev RlT : Type := List ItC × List Int32 × Nat
def RLS (I : mI) (rs : List RlT) : Prop := ∀ r Z t ar, rs[r]? = some (Z, t, ar) → ∃ mk, RLz I (6 + 9 * r) Z t mk ar
def FrC (I I' : mI) : Prop := ∀ m, m < 6 ∨ (73 ≤ m ∧ m ≤ 78) ∨ 91 < m → I' m = I m
theorem FrC.rf {I : mI} : FrC I I := fun _ _ => rfl
theorem FrC.tr {I I' I'' : mI} (h : FrC I I') (h' : FrC I' I'') : FrC I I'' := fun m hm => (h' m hm).trans (h m hm)
theorem ps_same {Zr : List ItC} {tr : List Int32} {ar suf : Nat} : ∀ (S X : List MIt) (st : List Nat) (R : Nat) (X' : List MIt), ps Zr tr ar suf S X st R = some (X', R) → X' = X ++ S := by
  have key : ∀ (X X2 : List MIt) (f a s R : Nat), tri Zr tr ar X f a s R = some (X2, R) → X2 = X := by
    intro X X2 f a s R h
    unfold tri at h
    cases hm : mtx Zr tr ar X f with
    | none => rw [hm] at h; cases h; rfl
    | some B =>
      rw [hm] at h
      dsimp only at h
      cases hr : rwx Zr ar X f a s R B with
      | none => rw [hr] at h; cases h
      | some X3 =>
        rw [hr] at h
        have := congrArg (fun o => o.map Prod.snd) h
        simp at this
  intro S
  induction S with
  | nil =>
    intro X st R X' h
    cases h
    simp
  | cons z S ih =>
    intro X st R X' h
    have go : ∀ st', ps Zr tr ar suf S (X ++ [z]) st' R = some (X', R) → X' = X ++ z :: S := fun st' h' => by
      have := ih _ _ _ _ h'
      rw [this]
      simp
    have go2 : ∀ f a s st', (match tri Zr tr ar (X ++ [z]) f a s R with
        | some (X2, R2) => ps Zr tr ar suf S X2 st' R2
        | none => none) = some (X', R) → X' = X ++ z :: S := fun f a s st' h' => by
      cases ht : tri Zr tr ar (X ++ [z]) f a s R with
      | none => rw [ht] at h'; cases h'
      | some q =>
        obtain ⟨X2, R2⟩ := q
        rw [ht] at h'
        dsimp only at h'
        have h1 := tri_R ht
        have h2 := ps_R _ _ _ _ _ _ h'
        have e : R2 = R := by omega
        subst e
        have e2 := key _ _ _ _ _ _ ht
        subst e2
        exact go st' h'
    unfold ps at h
    split at h
    · exact go _ h
    · split at h
      · split at h
        · exact go2 _ _ _ _ h
        · exact go _ h
      · split at h
        · exact go2 _ _ _ _ h
        · exact go _ h
theorem pp_same {Zr : List ItC} {tr : List Int32} {ar : Nat} {tl : List Int32} : ∀ (n : Nat) (N X : List MIt) (R : Nat) (X' : List MIt), pp Zr tr ar tl n N X R = some (X', R) → X' = X ++ N
  | 0, N, X, R, X', h => by cases h; rfl
  | n + 1, N, X, R, X', h => by
    have hN := tdw N
    unfold pp at h
    split at h
    · cases h; rfl
    · rename_i c N' hd
      rw [hd] at hN
      split at h
      · split at h
        · rename_i X2 R2 hp
          have h1 := ps_R _ _ _ _ _ _ hp
          have h2 := pp_R n _ _ _ _ _ h
          have e : R2 = R := by omega
          subst e
          have e1 := ps_same _ _ _ _ _ hp
          have e2 := pp_same n _ _ _ _ h
          rw [e2, e1]
          conv => rhs; rw [← hN]
          simp
        · cases h
      · have e2 := pp_same n _ _ _ _ h
        rw [e2]
        conv => rhs; rw [← hN]
        simp
