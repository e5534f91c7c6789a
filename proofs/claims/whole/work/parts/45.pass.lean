/-! A pass over one good statement. -/
theorem scn_ge : ∀ (n : Nat) (l : List Nat) (t : Nat) (s : List Nat), ∀ q ∈ (scn n l t s).1, t ≤ q.2.1 ∧ q.2.1 < t + n
  | 0, _, _, _ => fun q hq => by simp [scn] at hq
  | n + 1, [], _, _ => fun q hq => by simp [scn] at hq
  | n + 1, k :: r, t, s => fun q hq => by
    rw [scn_c] at hq
    have i := fun s' q' hq' => scn_ge n r (t + 1) s' q' hq'
    split at hq
    · have := i _ q hq
      omega
    · split at hq
      · cases s with
        | nil =>
          have := i _ q hq
          omega
        | cons f s' =>
          rcases List.mem_cons.mp hq with rfl | hq
          · dsimp only
            omega
          · have := i _ q hq
            omega
      · split at hq
        · rcases List.mem_cons.mp hq with rfl | hq
          · dsimp only
            omega
          · have := i _ q hq
            omega
        · have := i _ q hq
          omega
theorem hd4_app {a b : List Nat} (h : hd4 b = false) : hd4 (a ++ b) = hd4 a := by
  cases a with
  | nil => exact h
  | cons k r => rfl
theorem drop_s {α : Type} {l a b : List α} {k : Nat} (h : l.drop k = a ++ b) : l.drop (k + a.length) = b := by
  rw [← List.drop_drop, h, List.drop_left]
section PI
variable {E : XE} {d : Nat} {Q : Int32 → mI → mP → Prop} {P : mP} {oc on o : Nat} {N : List MIt} {tl : List Int32} {mt : Int32} {ex : List (Nat × Nat × Nat)} {Zr : List ItC} {tr : List Int32} {ar : Nat}
theorem l_ps (hC : PC P oc on o) (hWN : WN N) (hNl : (fl (N.map un) tl).length ≤ 120) (hk10 : k10 (kdi N)) (hG : RG Zr ar) (hex : ex.length ≤ 120) (hexb : ∀ q ∈ ex, q.2.1 < 2 ^ 20) {rest : List MIt} {E2 : List (Nat × Nat × Nat)} {x2 : Int32} (hr4 : hd4 (kdi rest) = false) : ∀ (S : List MIt) (t k R : Nat) (pr : List (Nat × Nat)) (X : List MIt) (I : mI), N.drop t = S ++ rest → ex.drop k = (scn S.length (kdi (S ++ rest)) t (pr.map Prod.fst)).1 ++ E2 → k ≤ ex.length → (∀ q ∈ E2, t + S.length ≤ q.2.1) → (∀ p ∈ pr, p.1 < t ∧ I 91 p.1 = nI p.2 ∧ p.2 < X.length) → pr.Pairwise (fun a b => b.2 < a.2) → pr.length ≤ 12 → PL I oc on o N tl mt ex Zr tr ar X R → ftl (X.map un) + (fl ((S ++ rest).map un) tl).length ≤ 120 →
    (∀ I' X' R' k', ps Zr tr ar (fl (rest.map un) tl).length S X (pr.map Prod.snd) R = some (X', R') → FrS on o I I' → ex.drop k' = E2 → k' ≤ ex.length → PL I' oc on o N tl mt ex Zr tr ar X' R' → ftl (X'.map un) + (fl (rest.map un) tl).length ≤ 120 → V E (d + 28) m_Program_pass 112 Q 17 [some (.inr 60), some (.inr o), some (.inl x2), some (.inl (nI k')), some (.inl (nI (t + S.length))), none, none] [] 112 I' P) →
    (∀ I', ps Zr tr ar (fl (rest.map un) tl).length S X (pr.map Prod.snd) R = none → FrS on o I I' → (∃ mk, RLz I' o Zr tr mk ar) → Q (nI 0) I' P) → V E (d + 28) m_Program_pass 112 Q 17 [some (.inr 60), some (.inr o), some (.inl x2), some (.inl (nI k)), some (.inl (nI t)), none, none] [] 112 I P := by
  intro S
  induction S with
  | nil =>
    intro t k R pr X I hN hE hk hE2 hpr hpw hp12 hL hroom h1 h0
    have e : (scn ([] : List MIt).length (kdi ([] ++ rest)) t (pr.map Prod.fst)).1 = [] := rfl
    rw [e, List.nil_append] at hE
    exact h1 I X R k rfl FrS.rf hE hk hL hroom
  | cons z S ih =>
    intro t k R pr X I hN hE hk hE2 hpr hpw hp12 hL hroom h1 h0
    have hz : N[t]? = some z := by
      have := congrArg (fun l => l[0]?) hN
      simpa using this
    have htl : t < N.length := (List.getElem?_eq_some_iff.mp hz).1
    have hN1 : N.drop (t + 1) = S ++ rest := by
      have := drop_it hz
      rw [hN] at this
      injection this with _ h2
      exact h2.symm
    have hNn := hWN.len
    have hfN := fl_len (N.map un) tl
    have hsz : (fl ((z :: S ++ rest).map un) tl).length = ftl ([z].map un) + (fl ((S ++ rest).map un) tl).length := by
      rw [fl_len, fl_len]
      have : ftl ((z :: S ++ rest).map un) = ftl ([z].map un) + ftl ((S ++ rest).map un) := by
        rw [← ftl_app, ← List.map_append]
        rfl
      omega
    have hX1 : ftl ((X ++ [z]).map un) = ftl (X.map un) + ftl ([z].map un) := by rw [List.map_append, ftl_app]
    have hsuf : (fl ((N.drop (t + 1)).map un) tl).length = ftl (S.map un) + (fl (rest.map un) tl).length := by
      rw [hN1, List.map_append, fl_app, fl_len]
    have hsuf2 : (fl ((S ++ rest).map un) tl).length = ftl (S.map un) + (fl (rest.map un) tl).length := by rw [← hsuf, hN1]
    have hkd : kdi (z :: S ++ rest) = mkd z :: kdi (S ++ rest) := rfl
    have h4 : hd4 (kdi (S ++ rest)) = hd4 (kdi S) := by rw [kdi_app]; exact hd4_app hr4
    have hpl : (pr.map Prod.fst).length = pr.length := List.length_map _
    have hps : (pr.map Prod.snd).length = pr.length := List.length_map _
    have hE2' : ∀ q ∈ E2, t + 1 + S.length ≤ q.2.1 := fun q hq => by
      have := hE2 q hq
      rw [List.length_cons] at this
      omega
    -- no entry at t
    have noat : ∀ s', ex.drop k = (scn S.length (kdi (S ++ rest)) (t + 1) s').1 ++ E2 → ∀ f l a, ex[k]? = some (f, l, a) → l ≠ t := by
      intro s' he f l a hq
      have hm : (f, l, a) ∈ ex.drop k := by
        rw [drop_it hq]
        exact List.mem_cons_self
      rw [he] at hm
      rcases List.mem_append.mp hm with h' | h'
      · have := scn_ge _ _ _ _ _ h'
        dsimp only at this
        omega
      · have := hE2' _ h'
        dsimp only at this
        omega
    -- copying, then going on without an entry
    have plain : ∀ (pr' : List (Nat × Nat)), (∀ I' : mI, I' 91 t = nI X.length → (∀ j, j ≠ t → I' 91 j = I 91 j) → ∀ p ∈ pr', p.1 < t + 1 ∧ I' 91 p.1 = nI p.2 ∧ p.2 < (X ++ [z]).length) → pr'.Pairwise (fun a b => b.2 < a.2) → pr'.length ≤ 12 → ex.drop k = (scn S.length (kdi (S ++ rest)) (t + 1) (pr'.map Prod.fst)).1 ++ E2 → ps Zr tr ar (fl (rest.map un) tl).length (z :: S) X (pr.map Prod.snd) R = ps Zr tr ar (fl (rest.map un) tl).length S (X ++ [z]) (pr'.map Prod.snd) R → V E (d + 28) m_Program_pass 112 Q 17 [some (.inr 60), some (.inr o), some (.inl x2), some (.inl (nI k)), some (.inl (nI t)), none, none] [] 112 I P := by
      intro pr' hp1 hp2 hp3 he hps'
      refine v_copy hC hWN hNl hk10 hL hz (by omega) (fun I' f' g1 g2 hL' => ?_)
      refine v_skip hC hL' hex hk hexb (by omega) (noat _ he) ?_
      refine ih (t + 1) k R pr' (X ++ [z]) I' hN1 he hk hE2' (hp1 I' g1 g2) hp2 hp3 hL' (by omega) (fun I2 X2 R2 k2 e2 f2 => ?_) (fun I2 e2 f2 => ?_)
      · rw [show t + 1 + S.length = t + (z :: S).length by rw [List.length_cons]; omega]
        exact h1 I2 X2 R2 k2 (by rw [hps']; exact e2) (f'.tr f2)
      · exact h0 I2 (by rw [hps']; exact e2) (f'.tr f2)
    -- copying, then trying the entry
    have entry : ∀ (pr' : List (Nat × Nat)) (fN f : Nat), ex.drop k = (fN, t, pr'.length) :: ((scn S.length (kdi (S ++ rest)) (t + 1) (pr'.map Prod.fst)).1 ++ E2) → fN ≤ t → (∀ I' : mI, I' 91 t = nI X.length → (∀ j, j ≠ t → I' 91 j = I 91 j) → I' 91 fN = nI f) → f < (X ++ [z]).length → (∀ p ∈ pr', p.1 < t ∧ I 91 p.1 = nI p.2 ∧ p.2 < f) → pr'.Pairwise (fun a b => b.2 < a.2) → pr'.length ≤ 12 → ps Zr tr ar (fl (rest.map un) tl).length (z :: S) X (pr.map Prod.snd) R = (match tri Zr tr ar (X ++ [z]) f pr'.length (ftl (S.map un) + (fl (rest.map un) tl).length) R with
        | some (X2, R2) => ps Zr tr ar (fl (rest.map un) tl).length S X2 (pr'.map Prod.snd) R2
        | none => none) → V E (d + 28) m_Program_pass 112 Q 17 [some (.inr 60), some (.inr o), some (.inl x2), some (.inl (nI k)), some (.inl (nI t)), none, none] [] 112 I P := by
      intro pr' fN f he hfN hf hfX hp1 hp2 hp3 hps'
      have hq : ex[k]? = some (fN, t, pr'.length) := by
        have := congrArg (fun l => l[0]?) he
        simpa using this
      have hk1 : ex.drop (k + 1) = (scn S.length (kdi (S ++ rest)) (t + 1) (pr'.map Prod.fst)).1 ++ E2 := by
        have := drop_it hq
        rw [he] at this
        injection this with _ h2
        exact h2.symm
      have hkl : k < ex.length := (List.getElem?_eq_some_iff.mp hq).1
      refine v_copy hC hWN hNl hk10 hL hz (by omega) (fun I' f' g1 g2 hL' => ?_)
      refine v_try hC hWN hNl hG hL' hex hq htl (by omega) (by omega) (hf I' g1 g2) hfX (by omega) (fun I2 X2 R2 e2 f2 g3 hL2 hr2 hf2 => ?_) (fun I2 e2 f2 g6 hr2 => ?_)
      · rw [hsuf] at e2
        rw [e2] at hps'
        dsimp only at hps'
        refine ih (t + 1) (k + 1) R2 pr' X2 I2 hN1 hk1 (by omega) hE2' (fun p hp => ?_) hp2 hp3 hL2 (by omega) (fun I3 X3 R3 k3 e3 f3 => ?_) (fun I3 e3 f3 => ?_)
        · obtain ⟨a1, a2, a3⟩ := hp1 p hp
          refine ⟨by omega, ?_, by omega⟩
          rw [g3, g2 p.1 (by omega)]
          exact a2
        · rw [show t + 1 + S.length = t + (z :: S).length by rw [List.length_cons]; omega]
          exact h1 I3 X3 R3 k3 (by rw [hps']; exact e3) ((f'.tr f2).tr f3)
        · exact h0 I3 (by rw [hps']; exact e3) ((f'.tr f2).tr f3)
      · rw [hsuf] at e2
        rw [e2] at hps'
        exact h0 I2 hps' (f'.tr f2) hr2
    have hpsc : ps Zr tr ar (fl (rest.map un) tl).length (z :: S) X (pr.map Prod.snd) R = if (mkd z = 1 ∧ hd4 (kdi S) = true) ∧ (pr.map Prod.snd).length < 12 then ps Zr tr ar (fl (rest.map un) tl).length S (X ++ [z]) (X.length :: pr.map Prod.snd) R
      else if mkd z = 5 then (match pr.map Prod.snd with
        | f :: st' => (match tri Zr tr ar (X ++ [z]) f st'.length (ftl (S.map un) + (fl (rest.map un) tl).length) R with
          | some (X2, R2) => ps Zr tr ar (fl (rest.map un) tl).length S X2 st' R2
          | none => none)
        | [] => ps Zr tr ar (fl (rest.map un) tl).length S (X ++ [z]) [] R)
      else if mkd z = 1 ∨ mkd z = 2 then (match tri Zr tr ar (X ++ [z]) X.length (pr.map Prod.snd).length (ftl (S.map un) + (fl (rest.map un) tl).length) R with
          | some (X2, R2) => ps Zr tr ar (fl (rest.map un) tl).length S X2 (pr.map Prod.snd) R2
          | none => none)
      else ps Zr tr ar (fl (rest.map un) tl).length S (X ++ [z]) (pr.map Prod.snd) R := rfl
    rw [List.length_cons, hkd, scn_c, h4, hpl] at hE
    rw [hps] at hpsc
    have keep : ∀ I' : mI, I' 91 t = nI X.length → (∀ j, j ≠ t → I' 91 j = I 91 j) → ∀ p ∈ pr, p.1 < t + 1 ∧ I' 91 p.1 = nI p.2 ∧ p.2 < (X ++ [z]).length := by
      intro I' g1 g2 p hp
      obtain ⟨a1, a2, a3⟩ := hpr p hp
      refine ⟨by omega, by rw [g2 p.1 (by omega)]; exact a2, by rw [List.length_append]; omega⟩
    by_cases c1 : (mkd z = 1 ∧ hd4 (kdi S) = true) ∧ pr.length < 12
    · rw [if_pos c1] at hE hpsc
      refine plain ((t, X.length) :: pr) (fun I' g1 g2 p hp => ?_) ?_ (by rw [List.length_cons]; omega) hE hpsc
      · rcases List.mem_cons.mp hp with rfl | hp
        · exact ⟨by omega, g1, by rw [List.length_append, List.length_singleton]; omega⟩
        · exact keep I' g1 g2 p hp
      · exact List.pairwise_cons.mpr ⟨fun p hp => (hpr p hp).2.2, hpw⟩
    · rw [if_neg c1] at hE hpsc
      by_cases c2 : mkd z = 5
      · rw [if_pos c2] at hE hpsc
        cases pr with
        | nil => exact plain [] (fun I' g1 g2 p hp => by simp at hp) List.Pairwise.nil (by simp) hE hpsc
        | cons p0 pr' =>
          obtain ⟨fN, f⟩ := p0
          obtain ⟨a1, a2, a3⟩ := hpr (fN, f) List.mem_cons_self
          dsimp only at a1 a2 a3
          have hpw' := List.pairwise_cons.mp hpw
          refine entry pr' fN f ?_ (by omega) (fun I' g1 g2 => by rw [g2 fN (by omega)]; exact a2) (by rw [List.length_append]; omega) (fun p hp => ?_) hpw'.2 (by rw [List.length_cons] at hp12; omega) ?_
          · rw [hE]
            show (fN, t, (pr'.map Prod.fst).length) :: _ ++ _ = _
            rw [List.length_map]
            rfl
          · obtain ⟨b1, b2, b3⟩ := hpr p (List.mem_cons_of_mem _ hp)
            exact ⟨b1, b2, hpw'.1 p hp⟩
          · rw [hpsc]
            show (match tri Zr tr ar (X ++ [z]) f (pr'.map Prod.snd).length _ R with
              | some (X2, R2) => ps Zr tr ar (fl (rest.map un) tl).length S X2 (pr'.map Prod.snd) R2
              | none => none) = _
            rw [List.length_map]
      · rw [if_neg c2] at hE hpsc
        by_cases c3 : mkd z = 1 ∨ mkd z = 2
        · rw [if_pos c3] at hE hpsc
          refine entry pr t X.length ?_ (Nat.le_refl _) (fun I' g1 g2 => g1) (by rw [List.length_append, List.length_singleton]; omega) hpr hpw hp12 hpsc
          rw [hE]
          rfl
        · rw [if_neg c3] at hE hpsc
          exact plain pr keep hpw hp12 hE hpsc
end PI
