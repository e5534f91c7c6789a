/-! Good statements are the same for both. -/
def no3 (l : List Nat) : Prop := ∀ k ∈ l, k ≠ 3
theorem hf1 : ∀ (n : Nat) (b : Bool) (l : List Nat) (m dp : Nat), ldg false n b l = some (m, dp) → ldg true n b l = some (m, dp) ∧ no3 (l.take m)
  | 0, _, _, _, _, h => by cases h
  | n + 1, true, l, m, dp, h => by
    unfold ldg at h ⊢
    split at h
    · cases h
      refine ⟨rfl, fun k hk => ?_⟩
      simp at hk
      omega
    · rename_i a hne
      cases ha : ldg false n false a with
      | none => rw [ha] at h; cases h
      | some q =>
        obtain ⟨m', dp'⟩ := q
        rw [ha] at h
        cases h
        obtain ⟨g1, g2⟩ := hf1 n false a m' dp' ha
        refine ⟨?_, fun k hk => ?_⟩
        · rw [g1]
          rfl
        · rw [List.take_succ_cons, List.take_succ_cons] at hk
          rcases List.mem_cons.mp hk with rfl | hk
          · decide
          · rcases List.mem_cons.mp hk with rfl | hk
            · decide
            · exact g2 k hk
    · cases h
      refine ⟨?_, fun k hk => ?_⟩
      · rfl
      · simp at hk
        omega
    · cases h
      refine ⟨rfl, fun k hk => ?_⟩
      simp at hk
      omega
    · cases h
    · cases h
  | n + 1, false, l, m, dp, h => by
    unfold ldg at h ⊢
    cases ha : ldg false n true l with
    | none => rw [ha] at h; cases h
    | some q =>
      obtain ⟨m', dp'⟩ := q
      rw [ha] at h
      dsimp only at h
      obtain ⟨g1, g2⟩ := hf1 n true l m' dp' ha
      have hb := ldg_b _ _ _ _ _ ha
      rw [g1]
      dsimp only
      split at h
      · rename_i r hr
        cases h
        refine ⟨rfl, fun k hk => ?_⟩
        rw [List.take_add, hr] at hk
        rcases List.mem_append.mp hk with hk | hk
        · exact g2 k hk
        · simp at hk
          omega
      · rename_i r hr
        cases hb2 : ldg false n false r with
        | none => rw [hb2] at h; cases h
        | some q =>
          obtain ⟨m2, dp2⟩ := q
          rw [hb2] at h
          cases h
          obtain ⟨g3, g4⟩ := hf1 n false r m2 dp2 hb2
          refine ⟨?_, fun k hk => ?_⟩
          · rw [g3]
            rfl
          · rw [show (m' + 1 + m2 : Nat) = m' + (1 + m2) by omega, List.take_add, hr] at hk
            rcases List.mem_append.mp hk with hk | hk
            · exact g2 k hk
            · rw [show 1 + m2 = m2 + 1 by omega, List.take_succ_cons] at hk
              rcases List.mem_cons.mp hk with rfl | hk
              · decide
              · exact g4 k hk
      · cases h
theorem hf2 : ∀ (n : Nat) (b : Bool) (l : List Nat) (m dp : Nat), ldg true n b l = some (m, dp) → no3 (l.take m) → ldg false n b l = some (m, dp)
  | 0, _, _, _, _, h, _ => by cases h
  | n + 1, true, l, m, dp, h, h3 => by
    unfold ldg at h ⊢
    split at h
    · exact h
    · rename_i a hne
      cases ha : ldg true n false a with
      | none => rw [ha] at h; cases h
      | some q =>
        obtain ⟨m', dp'⟩ := q
        rw [ha] at h
        cases h
        have g := hf2 n false a m' dp' ha (fun k hk => h3 k (by
          show k ∈ List.take (m' + 2) (1 :: 4 :: a)
          rw [List.take_succ_cons, List.take_succ_cons]
          exact List.mem_cons_of_mem _ (List.mem_cons_of_mem _ hk)))
        rw [g]
        rfl
    · exact h
    · exact h
    · rename_i r
      cases h
      exact absurd rfl (h3 3 (by simp))
    · cases h
  | n + 1, false, l, m, dp, h, h3 => by
    unfold ldg at h ⊢
    cases ha : ldg true n true l with
    | none => rw [ha] at h; cases h
    | some q =>
      obtain ⟨m', dp'⟩ := q
      rw [ha] at h
      dsimp only at h
      have hsub : m' ≤ m := by
        split at h
        · cases h
          omega
        · rename_i r hr
          cases hb2 : ldg true n false r with
          | none => rw [hb2] at h; cases h
          | some q => rw [hb2] at h; cases h; omega
        · cases h
      have g := hf2 n true l m' dp' ha (fun k hk => h3 k (List.take_subset_take_left l hsub hk))
      rw [g]
      dsimp only
      split at h
      · exact h
      · rename_i r hr
        cases hb2 : ldg true n false r with
        | none => rw [hb2] at h; cases h
        | some q =>
          obtain ⟨m2, dp2⟩ := q
          rw [hb2] at h
          cases h
          have g2 := hf2 n false r m2 dp2 hb2 (fun k hk => h3 k (by
            show k ∈ List.take (m' + 1 + m2) l
            rw [show (m' + 1 + m2 : Nat) = m' + (1 + m2) by omega, List.take_add, hr, show 1 + m2 = m2 + 1 by omega, List.take_succ_cons]
            exact List.mem_append_right _ (List.mem_cons_of_mem _ hk)))
          rw [g2]
          rfl
      · cases h
theorem gds_gdr (ks : List Nat) (f e : Nat) : gds ks f e = gdr ks f e := by
  unfold gds gdr
  cases h : le_ false (ks.drop f) with
  | some q =>
    obtain ⟨m, dp⟩ := q
    obtain ⟨g1, g2⟩ := hf1 _ _ _ _ _ h
    have g1 : le_ true (ks.drop f) = some (m, dp) := g1
    rw [g1]
    dsimp only
    by_cases hc : dp ≤ 12 ∧ f + m = e
    · rw [decide_eq_true hc, Bool.true_and]
      rw [show e - f = m by omega]
      rw [show ((ks.drop f).take m).any (fun k => k == 3) = false from ?_]
      · rfl
      · rw [List.any_eq_false]
        intro k hk
        have := g2 k hk
        simpa using this
    · rw [decide_eq_false hc, Bool.false_and]
  | none =>
    cases h2 : le_ true (ks.drop f) with
    | none => rfl
    | some q =>
      obtain ⟨m, dp⟩ := q
      dsimp only
      by_cases hc : dp ≤ 12 ∧ f + m = e
      · rw [decide_eq_true hc, Bool.true_and, show e - f = m by omega]
        cases ha : ((ks.drop f).take m).any (fun k => k == 3) with
        | true => rfl
        | false =>
          have := hf2 _ _ _ _ _ h2 (fun k hk => by
            have := (List.any_eq_false.mp ha) k hk
            simpa using this)
          have : le_ false (ks.drop f) = some (m, dp) := this
          rw [h] at this
          cases this
      · rw [decide_eq_false hc, Bool.false_and]
