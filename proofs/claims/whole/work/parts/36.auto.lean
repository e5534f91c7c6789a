/-! Reading of expressions token by token is the grammar. -/
theorem rn_app (hol : Bool) : ∀ (A B : List Nat) (q n mx : Nat), rn hol q n mx (A ++ B) = match rn hol q n mx A with
    | some (q', n', mx') => rn hol q' n' mx' B
    | none => none
  | [], B, q, n, mx => rfl
  | k :: A, B, q, n, mx => by
    show rn hol q n mx (k :: (A ++ B)) = _
    rw [rn_c, rn_c]
    cases ast hol q n mx k with
    | none => rfl
    | some z => exact rn_app hol A B _ _ _
theorem rn_then {hol : Bool} {A B : List Nat} {q n mx q' n' mx' : Nat} (h : rn hol q n mx A = some (q', n', mx')) : rn hol q n mx (A ++ B) = rn hol q' n' mx' B := by
  rw [rn_app, h]
theorem ast_1 {hol : Bool} {q n mx : Nat} (h : q ≤ 1) : ast hol q n mx 1 = some (2, n, mx) := by
  unfold ast
  rw [if_pos h, if_pos rfl]
theorem ast_2 {hol : Bool} {q n mx : Nat} (h : q ≤ 1) : ast hol q n mx 2 = some (3, n, mx) := by
  unfold ast
  rw [if_pos h, if_neg (by decide), if_pos (Or.inl rfl)]
theorem ast_3 {q n mx : Nat} (h : q ≤ 1) : ast true q n mx 3 = some (3, n, mx) := by
  unfold ast
  rw [if_pos h, if_neg (by decide), if_pos (Or.inr ⟨rfl, rfl⟩)]
theorem ast_24 {hol : Bool} {n mx : Nat} : ast hol 2 n mx 4 = some (1, n + 1, max mx (n + 1)) := by
  unfold ast
  rw [if_neg (by decide), if_pos ⟨rfl, rfl⟩]
theorem ast_15 {hol : Bool} {n mx : Nat} : ast hol 1 (n + 1) mx 5 = some (3, n, mx) := by
  unfold ast
  rw [if_pos (by decide), if_neg (by decide), if_neg (by omega), if_pos ⟨rfl, rfl, by omega⟩]
  rfl
theorem ast_n5 {hol : Bool} {q n mx : Nat} (h : q = 2 ∨ q = 3) : ast hol q (n + 1) mx 5 = some (3, n, mx) := by
  unfold ast
  rw [if_neg (by omega), if_neg (by omega), if_pos ⟨rfl, by omega⟩]
  rfl
theorem ast_n6 {hol : Bool} {q n mx : Nat} (h : q = 2 ∨ q = 3) : ast hol q (n + 1) mx 6 = some (0, n + 1, mx) := by
  unfold ast
  rw [if_neg (by omega), if_neg (by omega), if_neg (by omega), if_pos ⟨rfl, by omega⟩]
def AuE (hol : Bool) (l : List Nat) : Prop := ∀ m dp, le_ hol l = some (m, dp) → ∀ q a mx, q ≤ 1 → a ≤ mx → ∃ q', (q' = 2 ∨ q' = 3) ∧ (q' = 2 → ∀ r, l.drop m ≠ 4 :: r) ∧ rn hol q a mx (l.take m) = some (q', a, max mx (a + dp))
def AuA (hol : Bool) (l : List Nat) : Prop := ∀ m dp, la_ hol l = some (m, dp) → ∀ q a mx, q ≤ 1 → a + 1 ≤ mx → rn hol q (a + 1) mx (l.take m) = some (3, a, max mx (a + 1 + dp))
theorem au_leaf {hol : Bool} {k q a mx : Nat} {r : List Nat} {z : Nat} (hz : z = 2 ∨ z = 3) (h4 : z = 2 → ∀ r', r ≠ 4 :: r') (ha : a ≤ mx) (h : ast hol q a mx k = some (z, a, mx)) : ∃ q', (q' = 2 ∨ q' = 3) ∧ (q' = 2 → ∀ r', (k :: r).drop 1 ≠ 4 :: r') ∧ rn hol q a mx ((k :: r).take 1) = some (q', a, max mx (a + 0)) := by
  refine ⟨z, hz, h4, ?_⟩
  show rn hol q a mx [k] = _
  rw [rn_c, h]
  show some (z, a, mx) = _
  rw [Nat.max_eq_left (by omega)]
theorem au_all (hol : Bool) : ∀ N : Nat, (∀ l : List Nat, l.length ≤ N → AuE hol l) ∧ (∀ l : List Nat, l.length ≤ N → AuA hol l) := by
  intro N
  induction N with
  | zero =>
    constructor
    · intro l hl m dp h
      have : l = [] := List.length_eq_zero_iff.mp (by omega)
      subst this
      rw [le_nil] at h
      cases h
    · intro l hl m dp h
      have : l = [] := List.length_eq_zero_iff.mp (by omega)
      subst this
      rw [la_nil] at h
      cases h
  | succ N ih =>
    have hE : ∀ l : List Nat, l.length ≤ N + 1 → AuE hol l := by
      intro l hl m dp h q a mx hq hmx
      cases l with
      | nil => rw [le_nil] at h; cases h
      | cons k r =>
        have hrl : r.length ≤ N := by simpa using hl
        by_cases k1 : k = 1
        · subst k1
          by_cases h4 : ∃ r2, r = 4 :: r2
          · obtain ⟨r2, rfl⟩ := h4
            by_cases h5 : ∃ r3, r2 = 5 :: r3
            · obtain ⟨r3, rfl⟩ := h5
              rw [le_c5] at h
              cases h
              refine ⟨3, Or.inr rfl, (fun e => absurd e (by decide)), ?_⟩
              show rn hol q a mx [1, 4, 5] = _
              rw [rn_c, ast_1 hq]
              dsimp only
              rw [rn_c, ast_24]
              dsimp only
              rw [rn_c, ast_15]
              rfl
            · have hne : ∀ r', r2 ≠ 5 :: r' := fun r' e => h5 ⟨r', e⟩
              rw [le_call hne] at h
              cases hla : la_ hol r2 with
              | none => rw [hla] at h; cases h
              | some z =>
                obtain ⟨m', dp'⟩ := z
                rw [hla] at h
                cases h
                refine ⟨3, Or.inr rfl, (fun e => absurd e (by decide)), ?_⟩
                show rn hol q a mx (1 :: 4 :: r2.take m') = some (3, a, max mx (a + (dp' + 1)))
                rw [rn_c, ast_1 hq]
                dsimp only
                rw [rn_c, ast_24]
                dsimp only
                rw [ih.2 r2 (by simp at hrl; omega) m' dp' hla 1 a _ (by omega) (by omega)]
                rw [show max (max mx (a + 1)) (a + 1 + dp') = max mx (a + (dp' + 1)) by omega]
          · have hne : ∀ r', r ≠ 4 :: r' := fun r' e => h4 ⟨r', e⟩
            rw [le_name hne] at h
            cases h
            exact au_leaf (Or.inl rfl) (fun _ => hne) hmx (ast_1 hq)
        · by_cases k2 : k = 2
          · subst k2
            rw [le_num] at h
            cases h
            exact au_leaf (z := 3) (Or.inr rfl) (fun e => absurd e (by decide)) hmx (ast_2 hq)
          · by_cases k3 : k = 3
            · subst k3
              rw [le_hole] at h
              by_cases hh : hol = true
              · subst hh
                rw [if_pos rfl] at h
                cases h
                exact au_leaf (z := 3) (Or.inr rfl) (fun e => absurd e (by decide)) hmx (ast_3 hq)
              · rw [if_neg hh] at h
                cases h
            · rw [le_oth r k1 k2 k3] at h
              cases h
    refine ⟨hE, ?_⟩
    intro l hl m dp h q a mx hq hmx
    cases hle : le_ hol l with
    | none => rw [la_n hle] at h; cases h
    | some z =>
      obtain ⟨m1, d1⟩ := z
      have hb := le_b hle
      obtain ⟨q', hq', hn4, hrn⟩ := hE l hl m1 d1 hle q (a + 1) mx hq hmx
      by_cases h5 : ∃ r, l.drop m1 = 5 :: r
      · obtain ⟨r, h5⟩ := h5
        rw [la_5 hle h5] at h
        cases h
        have e : l.take (m1 + 1) = l.take m1 ++ [5] := by
          rw [List.take_add, h5]
          rfl
        rw [e, rn_then hrn, rn_c, ast_n5 hq']
        rfl
      · by_cases h6 : ∃ r, l.drop m1 = 6 :: r
        · obtain ⟨r, h6⟩ := h6
          rw [la_6 hle h6] at h
          cases hla : la_ hol r with
          | none => rw [hla] at h; cases h
          | some z =>
            obtain ⟨m2, d2⟩ := z
            rw [hla] at h
            cases h
            have hr : r.length ≤ N := by
              have := congrArg List.length h6
              rw [List.length_drop, List.length_cons] at this
              omega
            have e : l.take (m1 + 1 + m2) = l.take m1 ++ (6 :: r.take m2) := by
              rw [Nat.add_assoc, List.take_add, h6, Nat.add_comm 1 m2]
              rfl
            dsimp only
            rw [e, rn_then hrn, rn_c, ast_n6 hq']
            dsimp only
            rw [ih.2 r hr m2 d2 hla 0 a _ (by omega) (by omega)]
            rw [show max (max mx (a + 1 + d1)) (a + 1 + d2) = max mx (a + 1 + max d1 d2) by omega]
        · rw [la_o hle (fun r e => h5 ⟨r, e⟩) (fun r e => h6 ⟨r, e⟩)] at h
          cases h
theorem au_e {hol : Bool} {l : List Nat} {m dp : Nat} (h : le_ hol l = some (m, dp)) {q a mx : Nat} (hq : q ≤ 1) (ha : a ≤ mx) : ∃ q', (q' = 2 ∨ q' = 3) ∧ (q' = 2 → ∀ r, l.drop m ≠ 4 :: r) ∧ rn hol q a mx (l.take m) = some (q', a, max mx (a + dp)) := (au_all hol l.length).1 l (Nat.le_refl _) m dp h q a mx hq ha
def BuE (hol : Bool) (l : List Nat) : Prop := ∀ (L r : List Nat), l = L ++ r → (∀ r', r ≠ 4 :: r') → ∀ q a mx z, q ≤ 1 → a ≤ mx → (q = 1 → ∀ l', l ≠ 5 :: l') → rn hol q a mx L = some z → z.2.1 ≤ a → 2 ≤ z.1 → ∃ m dp, le_ hol l = some (m, dp) ∧ m ≤ L.length
def BuA (hol : Bool) (l : List Nat) : Prop := ∀ (L r : List Nat), l = L ++ r → (∀ r', r ≠ 4 :: r') → ∀ q a mx z, q ≤ 1 → a + 1 ≤ mx → (q = 1 → ∀ l', l ≠ 5 :: l') → rn hol q (a + 1) mx L = some z → z.2.1 ≤ a → 2 ≤ z.1 → ∃ m dp, la_ hol l = some (m, dp) ∧ m ≤ L.length
theorem bu_all (hol : Bool) : ∀ N : Nat, (∀ l : List Nat, l.length ≤ N → BuE hol l) ∧ (∀ l : List Nat, l.length ≤ N → BuA hol l) := by
  intro N
  induction N with
  | zero =>
    constructor
    · intro l hl L r e hr q a mx z hq ha h5 h hz1 hz2
      have : L = [] := List.length_eq_zero_iff.mp (by rw [e, List.length_append] at hl; omega)
      subst this
      cases h
      dsimp only at hz2
      omega
    · intro l hl L r e hr q a mx z hq ha h5 h hz1 hz2
      have : L = [] := List.length_eq_zero_iff.mp (by rw [e, List.length_append] at hl; omega)
      subst this
      cases h
      dsimp only at hz2
      omega
  | succ N ih =>
    have hE : ∀ l : List Nat, l.length ≤ N + 1 → BuE hol l := by
      intro l hl L r e hr q a mx z hq ha h5 h hz1 hz2
      subst e
      cases L with
      | nil =>
        cases h
        dsimp only at hz2
        omega
      | cons k L =>
        rw [rn_c] at h
        by_cases k1 : k = 1
        · subst k1
          rw [ast_1 hq] at h
          dsimp only at h
          by_cases h4 : ∃ r4, L ++ r = 4 :: r4
          · obtain ⟨r4, h4⟩ := h4
            cases L with
            | nil => exact absurd h4 (hr r4)
            | cons k4 L =>
              injection h4 with e1 e2
              subst e1
              subst e2
              rw [rn_c, ast_24] at h
              dsimp only at h
              cases L with
              | nil =>
                cases h
                dsimp only at hz2
                omega
              | cons k5 L =>
                by_cases hk5 : k5 = 5
                · subst hk5
                  exact ⟨3, 1, le_c5 _, by simp⟩
                · have hne : ∀ r', (k5 :: L) ++ r ≠ 5 :: r' := fun r' e => by
                    injection e with e1 e2
                    exact hk5 e1
                  obtain ⟨m, dp, hla, hm⟩ := ih.2 ((k5 :: L) ++ r) (by simp at hl ⊢; omega) (k5 :: L) r rfl hr 1 a _ z (by omega) (by omega) (fun _ => hne) h hz1 hz2
                  refine ⟨m + 2, dp + 1, ?_, by simp at hm ⊢; omega⟩
                  show le_ hol (1 :: 4 :: ((k5 :: L) ++ r)) = _
                  rw [le_call hne, hla]
                  rfl
          · exact ⟨1, 0, le_name (fun r' e => h4 ⟨r', e⟩), by simp⟩
        · by_cases k2 : k = 2
          · subst k2
            exact ⟨1, 0, le_num _, by simp⟩
          · by_cases k3 : k = 3 ∧ hol = true
            · obtain ⟨rfl, rfl⟩ := k3
              exact ⟨1, 0, by show le_ true (3 :: (L ++ r)) = _; rw [le_hole, if_pos rfl], by simp⟩
            · exfalso
              have : ast hol q a mx k = none := by
                unfold ast
                rw [if_pos hq, if_neg k1, if_neg (fun c => c.elim k2 k3), if_neg (fun c => h5 c.1 (L ++ r) (by rw [c.2.1]; rfl))]
              rw [this] at h
              cases h
    refine ⟨hE, ?_⟩
    intro l hl L r e hr q a mx z hq ha h5 h hz1 hz2
    obtain ⟨m, dp, hle, hm⟩ := hE l hl L r e hr q (a + 1) mx z hq ha h5 h (by omega) hz2
    obtain ⟨q', hq', hn4, hrn⟩ := au_e hle (q := q) (a := a + 1) (mx := mx) hq ha
    have et : l.take m = L.take m := by rw [e, List.take_append_of_le_length hm]
    have ed : l.drop m = L.drop m ++ r := by rw [e, List.drop_append_of_le_length hm]
    rw [et] at hrn
    have h2 : rn hol q (a + 1) mx (L.take m ++ L.drop m) = some z := by rw [List.take_append_drop]; exact h
    rw [rn_then hrn] at h2
    cases hd : L.drop m with
    | nil =>
      rw [hd] at h2
      cases h2
      dsimp only at hz1
      omega
    | cons k L3 =>
      rw [hd] at h2 ed
      rw [rn_c] at h2
      have hlen : L.length = m + 1 + L3.length := by
        have := congrArg List.length hd
        rw [List.length_drop, List.length_cons] at this
        omega
      by_cases k5 : k = 5
      · subst k5
        exact ⟨m + 1, dp, la_5 hle ed, by omega⟩
      · by_cases k6 : k = 6
        · subst k6
          rw [ast_n6 hq'] at h2
          dsimp only at h2
          have hll : (L3 ++ r).length ≤ N := by
            have := congrArg List.length e
            rw [List.length_append] at this ⊢
            omega
          obtain ⟨m2, d2, hla, hm2⟩ := ih.2 (L3 ++ r) hll L3 r rfl hr 0 a _ z (by omega) (by omega) (fun c => absurd c (by decide)) h2 hz1 hz2
          refine ⟨m + 1 + m2, max dp d2, ?_, by omega⟩
          rw [la_6 (r := L3 ++ r) hle ed, hla]
          rfl
        · exfalso
          have : ast hol q' (a + 1) (max mx (a + 1 + dp)) k = none := by
            unfold ast
            rw [if_neg (by omega), if_neg (fun c => hn4 c.1 (L3 ++ r) (by rw [ed, c.2]; rfl)), if_neg (by omega), if_neg (by omega)]
          rw [this] at h2
          cases h2
/-- what is read to its end is an expression -/
theorem bu_e {hol : Bool} {L r : List Nat} {q' mx : Nat} (hr : ∀ r', r ≠ 4 :: r') (h : rn hol 0 0 0 L = some (q', 0, mx)) (hq : 2 ≤ q') : le_ hol (L ++ r) = some (L.length, mx) := by
  obtain ⟨m, dp, hle, hm⟩ := (bu_all hol _).1 (L ++ r) (Nat.le_refl _) L r rfl hr 0 0 0 _ (by omega) (by omega) (fun c => absurd c (by decide)) h (Nat.le_refl _) hq
  obtain ⟨q2, hq2, hn4, hrn⟩ := au_e hle (q := 0) (a := 0) (mx := 0) (by omega) (by omega)
  have et : (L ++ r).take m = L.take m := List.take_append_of_le_length hm
  have ed : (L ++ r).drop m = L.drop m ++ r := List.drop_append_of_le_length hm
  rw [et] at hrn
  have h2 : rn hol 0 0 0 (L.take m ++ L.drop m) = some (q', 0, mx) := by rw [List.take_append_drop]; exact h
  rw [rn_then hrn] at h2
  cases hd : L.drop m with
  | nil =>
    rw [hd] at h2
    cases h2
    have : L.length ≤ m := List.drop_eq_nil_iff.mp hd
    rw [hle, show m = L.length by omega]
    congr 2
    omega
  | cons k L3 =>
    exfalso
    rw [hd] at h2 ed
    rw [rn_c] at h2
    have : ast hol q2 0 (max 0 (0 + dp)) k = none := by
      unfold ast
      rw [if_neg (by omega), if_neg (fun c => hn4 c.1 (L3 ++ r) (by rw [ed, c.2]; rfl)), if_neg (by omega), if_neg (by omega)]
    rw [this] at h2
    cases h2
