/-! The scan of expressions, in pieces; expressions in a part of the tokens. -/
theorem scn_nil (n t : Nat) (s : List Nat) : scn n [] t s = ([], s) := by cases n <;> rfl
theorem scn_app : ∀ (m n : Nat) (l : List Nat) (t : Nat) (s : List Nat), scn (m + n) l t s = ((scn m l t s).1 ++ (scn n (l.drop m) (t + m) (scn m l t s).2).1, (scn n (l.drop m) (t + m) (scn m l t s).2).2)
  | 0, n, l, t, s => by
    rw [Nat.zero_add]
    rfl
  | m + 1, n, [], t, s => by
    rw [scn_nil, scn_nil, List.drop_nil, scn_nil]
    rfl
  | m + 1, n, k :: r, t, s => by
    rw [show m + 1 + n = m + n + 1 by omega, scn_c, scn_c, List.drop_succ_cons]
    have ih := scn_app m n r (t + 1)
    rw [show t + (m + 1) = t + 1 + m by omega]
    by_cases h1 : (k = 1 ∧ hd4 r = true) ∧ s.length < 12
    · rw [if_pos h1, if_pos h1, ih]
    · rw [if_neg h1, if_neg h1]
      by_cases h5 : k = 5
      · rw [if_pos h5, if_pos h5]
        cases s with
        | nil => dsimp only; rw [ih]
        | cons f s' => dsimp only; rw [ih]; rfl
      · rw [if_neg h5, if_neg h5]
        by_cases h12 : k = 1 ∨ k = 2
        · rw [if_pos h12, if_pos h12, ih]; rfl
        · rw [if_neg h12, if_neg h12, ih]
theorem scn_pre : ∀ (m : Nat) (l l2 : List Nat) (t : Nat) (s : List Nat), l2.take m = l.take m → hd4 (l2.drop m) = hd4 (l.drop m) → scn m l2 t s = scn m l t s
  | 0, l, l2, t, s, _, _ => rfl
  | m + 1, [], l2, t, s, h, _ => by
    cases l2 with
    | nil => rfl
    | cons k r => cases h
  | m + 1, k :: r, [], t, s, h, _ => by cases h
  | m + 1, k :: r, k2 :: r2, t, s, h, h4 => by
    rw [List.take_succ_cons, List.take_succ_cons] at h
    injection h with e1 e2
    subst e1
    rw [List.drop_succ_cons, List.drop_succ_cons] at h4
    have ih := scn_pre m r r2 (t + 1)
    have hh : hd4 r2 = hd4 r := by
      cases m with
      | zero => exact h4
      | succ m =>
        cases r with
        | nil =>
          cases r2 with
          | nil => rfl
          | cons x y => cases e2
        | cons x y =>
          cases r2 with
          | nil => cases e2
          | cons x2 y2 =>
            injection e2 with e3 _
            subst e3
            rfl
    rw [scn_c, scn_c, hh]
    by_cases h1 : (k2 = 1 ∧ hd4 r = true) ∧ s.length < 12
    · rw [if_pos h1, if_pos h1, ih _ e2 h4]
    · rw [if_neg h1, if_neg h1]
      by_cases h5 : k2 = 5
      · rw [if_pos h5, if_pos h5]
        cases s with
        | nil => dsimp only; rw [ih _ e2 h4]
        | cons f s' => dsimp only; rw [ih _ e2 h4]
      · rw [if_neg h5, if_neg h5]
        by_cases h12 : k2 = 1 ∨ k2 = 2
        · rw [if_pos h12, if_pos h12, ih _ e2 h4]
        · rw [if_neg h12, if_neg h12, ih _ e2 h4]
theorem rn_mxm {hol : Bool} : ∀ (L : List Nat) (q n mx : Nat) (z : Nat × Nat × Nat), rn hol q n mx L = some z → mx ≤ z.2.2 := by
  intro L q n mx z h
  rw [rn_0] at h
  cases hr : rn hol q n 0 L with
  | none => rw [hr] at h; cases h
  | some v =>
    rw [hr] at h
    cases h
    exact Nat.le_max_left _ _
/-- as many calls are open as brackets -/
theorem scn_dep : ∀ (A B r : List Nat) (q n mx t : Nat) (s : List Nat) (z z' : Nat × Nat × Nat), rn false q n mx (A ++ B) = some z' → z'.2.2 ≤ 12 → rn false q n mx A = some z → hd4 r = false → s.length = n + (if q = 2 ∧ hd4 (A ++ (B ++ r)) = true then 1 else 0) → (scn A.length (A ++ (B ++ r)) t s).2.length = z.2.1 + (if z.1 = 2 ∧ hd4 (B ++ r) = true then 1 else 0)
  | [], B, r, q, n, mx, t, s, z, z', _, _, hz, _, hs => by
    cases hz
    exact hs
  | k :: A, B, r, q, n, mx, t, s, z, z', h, h12, hz, hr, hs => by
    rw [List.cons_append, rn_c] at h
    rw [rn_c] at hz
    cases ha : ast false q n mx k with
    | none => rw [ha] at hz; cases hz
    | some v =>
      obtain ⟨q1, n1, m1⟩ := v
      rw [ha] at h hz
      dsimp only at h hz
      obtain ⟨k1, k2, k3⟩ := ast_k ha
      have ih := scn_dep A B r q1 n1 m1 (t + 1)
      rw [List.length_cons, List.cons_append, scn_c]
      rw [List.cons_append] at hs
      by_cases c1 : k = 1
      · subst c1
        have hq := (k3 (Or.inl rfl)).1
        rw [ast_1 hq] at ha
        cases ha
        rw [if_neg (by omega)] at hs
        by_cases h4 : hd4 (A ++ (B ++ r)) = true
        · have hn12 : n < 12 := by
            -- a bracket follows
            have e : hd4 (A ++ B) = true := by
              rw [← List.append_assoc, hd4_app hr] at h4
              exact h4
            cases hAB : A ++ B with
            | nil => rw [hAB] at e; cases e
            | cons k' L' =>
              rw [hAB] at e h
              have e : k' = 4 := Nat.eq_of_beq_eq_true e
              subst e
              rw [rn_c, ast_24] at h
              dsimp only at h
              have := rn_mxm _ _ _ _ _ h
              omega
          rw [if_pos ⟨⟨rfl, h4⟩, by omega⟩]
          exact ih (t :: s) z z' h h12 hz hr (by rw [List.length_cons, if_pos ⟨rfl, h4⟩]; omega)
        · rw [if_neg (fun c => h4 c.1.2), if_neg (by decide), if_pos (Or.inl rfl)]
          exact ih s z z' h h12 hz hr (by rw [if_neg (fun c => h4 c.2)]; omega)
      · rw [if_neg (fun c => c1 c.1.1)]
        by_cases c5 : k = 5
        · subst c5
          obtain ⟨a1, a2⟩ := ast_5 ha
          cases a2
          rw [if_pos rfl]
          rw [if_neg (fun c => by cases c.2)] at hs
          cases s with
          | nil => simp at hs; omega
          | cons f s' =>
            dsimp only
            rw [List.length_cons] at hs
            exact ih s' z z' h h12 hz hr (by rw [if_neg (by omega)]; omega)
        · rw [if_neg c5]
          by_cases c2 : k = 2
          · subst c2
            have hq := (k3 (Or.inr rfl)).1
            rw [ast_2 hq] at ha
            cases ha
            rw [if_pos (Or.inr rfl)]
            rw [if_neg (by omega)] at hs
            exact ih s z z' h h12 hz hr (by rw [if_neg (by omega)]; omega)
          · rw [if_neg (by omega)]
            by_cases c4 : k = 4
            · subst c4
              obtain ⟨a1, a2⟩ := ast_4 ha
              cases a2
              rw [if_pos ⟨a1, rfl⟩] at hs
              exact ih s z z' h h12 hz hr (by rw [if_neg (by omega)]; omega)
            · have c6 : k = 6 := by omega
              subst c6
              have a2 := ast_o (by decide) (by decide) ha
              cases a2
              have hq1 : q1 = 0 := by
                unfold ast at ha
                split at ha
                · simp at ha
                · rw [if_neg (by omega), if_neg (by omega)] at ha
                  split at ha
                  · cases ha; rfl
                  · cases ha
              rw [if_neg (fun c => by cases c.2)] at hs
              exact ih s z z' h h12 hz hr (by rw [if_neg (by omega)]; omega)
theorem ldg_take {hol : Bool} : ∀ (n : Nat) (b : Bool) (l : List Nat) (m dp N : Nat), ldg hol n b l = some (m, dp) → m ≤ N → ldg hol n b (l.take N) = some (m, dp)
  | 0, _, _, _, _, _, h, _ => by cases h
  | n + 1, true, l, m, dp, N, h, hN => by
    unfold ldg at h
    split at h
    · cases h
      obtain ⟨N', rfl⟩ : ∃ N', N = N' + 3 := ⟨N - 3, by omega⟩
      rfl
    · rename_i a hne
      cases ha : ldg hol n false a with
      | none => rw [ha] at h; cases h
      | some q =>
        obtain ⟨m', dp'⟩ := q
        rw [ha] at h
        cases h
        obtain ⟨N', rfl⟩ : ∃ N', N = N' + 2 := ⟨N - 2, by omega⟩
        have ih := ldg_take n false a m' dp' N' ha (by omega)
        rw [List.take_succ_cons, List.take_succ_cons]
        unfold ldg
        split
        · rename_i r e
          injection e with _ e
          injection e with _ e
          exfalso
          cases a with
          | nil => simp at e
          | cons x y =>
            cases N' with
            | zero => simp at e
            | succ N' =>
              rw [List.take_succ_cons] at e
              injection e with e1 _
              exact hne y (by rw [e1])
        · rename_i a' hne' e
          injection e with _ e
          injection e with _ e
          rw [← e, ih]
          rfl
        · rename_i e1 e2 e3
          injection e3 with _ e3
          exact absurd e3.symm (e2 _)
        · rename_i e; cases e
        · rename_i e; cases e
        · rename_i e1 e2 e3 e4 e5; exact absurd rfl (e2 _)
    · rename_i r h1 h2
      cases h
      obtain ⟨N', rfl⟩ : ∃ N', N = N' + 1 := ⟨N - 1, by omega⟩
      rw [List.take_succ_cons]
      unfold ldg
      have hn4 : ∀ y, r.take N' ≠ 4 :: y := fun y c => by
        cases r with
        | nil => simp at c
        | cons x z =>
          cases N' with
          | zero => simp at c
          | succ N' =>
            rw [List.take_succ_cons] at c
            injection c with c1 _
            subst c1
            exact h2 z rfl
      split
      · rename_i e
        injection e with _ e
        exact absurd e (hn4 _)
      · rename_i e
        injection e with _ e
        exact absurd e (hn4 _)
      · rfl
      · rfl
      · rename_i e; cases e
      · rename_i e1 e2 e3 e4 e5; exact absurd rfl (e3 _)
    · cases h
      obtain ⟨N', rfl⟩ : ∃ N', N = N' + 1 := ⟨N - 1, by omega⟩
      rfl
    · split at h
      · rename_i hh
        cases h
        obtain ⟨N', rfl⟩ : ∃ N', N = N' + 1 := ⟨N - 1, by omega⟩
        rw [List.take_succ_cons]
        unfold ldg
        rw [if_pos hh]
        rfl
      · cases h
    · cases h
  | n + 1, false, l, m, dp, N, h, hN => by
    unfold ldg at h
    cases ha : ldg hol n true l with
    | none => rw [ha] at h; cases h
    | some q =>
      obtain ⟨m', dp'⟩ := q
      rw [ha] at h
      dsimp only at h
      unfold ldg
      split at h
      · rename_i r hr
        have h : some (m' + 1, dp') = some (m, dp) := h
        injection h with h
        injection h with e1 e2
        subst e1; subst e2
        have ih := ldg_take n true l m' dp' N ha (by omega)
        rw [ih]
        dsimp only
        have e : (l.take N).drop m' = 5 :: r.take (N - m' - 1) := by
          rw [List.drop_take, hr, show N - m' = N - m' - 1 + 1 by omega, List.take_succ_cons]
          rfl
        rw [e]
        rfl
      · rename_i r hr
        cases hb : ldg hol n false r with
        | none => rw [hb] at h; cases h
        | some q2 =>
          obtain ⟨m2, dp2⟩ := q2
          rw [hb] at h
          have h : some (m' + 1 + m2, max dp' dp2) = some (m, dp) := h
          cases h
          have ih := ldg_take n true l m' dp' N ha (by omega)
          rw [ih]
          dsimp only
          have e : (l.take N).drop m' = 6 :: r.take (N - m' - 1) := by
            rw [List.drop_take, hr, show N - m' = N - m' - 1 + 1 by omega, List.take_succ_cons]
            rfl
          rw [e]
          show (ldg hol n false (r.take (N - m' - 1))).map (fun q => (m' + 1 + q.1, max dp' q.2)) = _
          rw [ldg_take n false r m2 dp2 (N - m' - 1) hb (by omega)]
          rfl
      · cases h
theorem le_take {hol : Bool} {l : List Nat} {m dp N : Nat} (h : le_ hol l = some (m, dp)) (hN : m ≤ N) : le_ hol (l.take N) = some (m, dp) := by
  unfold le_ at h ⊢
  have h2 := ldg_take _ _ _ _ _ N h hN
  rw [← h2]
  exact ldg_f _ _ _ _ (Nat.le_refl _) (by
    unfold lmu
    have : (l.take N).length ≤ l.length := by rw [List.length_take]; omega
    dsimp only
    omega)
