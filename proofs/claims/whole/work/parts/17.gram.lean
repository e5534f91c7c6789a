/-! Expressions over the kinds of tokens: how many tokens, how deep. -/
def ldg (hol : Bool) : Nat → Bool → List Nat → Option (Nat × Nat)
  | 0, _, _ => none
  | n + 1, true, l => (match l with
    | 1 :: 4 :: 5 :: _ => some (3, 1)
    | 1 :: 4 :: a => (ldg hol n false a).map (fun q => (q.1 + 2, q.2 + 1))
    | 1 :: _ => some (1, 0)
    | 2 :: _ => some (1, 0)
    | 3 :: _ => if hol = true then some (1, 0) else none
    | _ => none)
  | n + 1, false, l => (match ldg hol n true l with
    | none => none
    | some (m, dp) => (match l.drop m with
      | 5 :: _ => some (m + 1, dp)
      | 6 :: r => (ldg hol n false r).map (fun q => (m + 1 + q.1, max dp q.2))
      | _ => none))
def lmu (b : Bool) (l : List Nat) : Nat := 2 * l.length + (match b with
  | true => 1
  | false => 2)
theorem ldg_b {hol : Bool} : ∀ (n : Nat) (b : Bool) (l : List Nat) (m dp : Nat), ldg hol n b l = some (m, dp) → 1 ≤ m ∧ m ≤ l.length
  | 0, _, _, _, _, h => by cases h
  | n + 1, true, l, m, dp, h => by
    unfold ldg at h
    split at h
    · cases h
      simp
    · rename_i a _
      cases ha : ldg hol n false a with
      | none => rw [ha] at h; cases h
      | some q =>
        obtain ⟨m', dp'⟩ := q
        rw [ha] at h
        cases h
        have := ldg_b n false a m' dp' ha
        simp
        omega
    · cases h
      simp
    · cases h
      simp
    · split at h
      · cases h
        simp
      · cases h
    · cases h
  | n + 1, false, l, m, dp, h => by
    unfold ldg at h
    cases ha : ldg hol n true l with
    | none => rw [ha] at h; cases h
    | some q =>
      obtain ⟨m', dp'⟩ := q
      rw [ha] at h
      dsimp only at h
      have h1 := ldg_b n true l m' dp' ha
      split at h
      · rename_i r hr
        cases h
        have : (l.drop m').length = r.length + 1 := by rw [hr]; rfl
        rw [List.length_drop] at this
        omega
      · rename_i r hr
        have hl : (l.drop m').length = r.length + 1 := by rw [hr]; rfl
        rw [List.length_drop] at hl
        cases hb : ldg hol n false r with
        | none => rw [hb] at h; cases h
        | some q =>
          obtain ⟨m2, dp2⟩ := q
          rw [hb] at h
          cases h
          have := ldg_b n false r m2 dp2 hb
          omega
      · cases h
theorem ldg_f {hol : Bool} : ∀ (n n' : Nat) (b : Bool) (l : List Nat), lmu b l ≤ n → lmu b l ≤ n' → ldg hol n b l = ldg hol n' b l
  | 0, _, b, l, h, _ => by cases b <;> simp [lmu] at h
  | _, 0, b, l, _, h => by cases b <;> simp [lmu] at h
  | n + 1, n' + 1, true, l, h, h' => by
    unfold ldg
    split
    · rfl
    · rename_i a _
      rw [ldg_f n n' false a (by simp [lmu] at h ⊢; omega) (by simp [lmu] at h' ⊢; omega)]
    · rfl
    · rfl
    · rfl
    · rfl
  | n + 1, n' + 1, false, l, h, h' => by
    unfold ldg
    rw [ldg_f n n' true l (by simp [lmu] at h ⊢; omega) (by simp [lmu] at h' ⊢; omega)]
    cases ha : ldg hol n' true l with
    | none => rfl
    | some q =>
      obtain ⟨m, dp⟩ := q
      dsimp only
      have h1 := ldg_b n' true l m dp ha
      split
      · rfl
      · rename_i r hr
        have hl : (l.drop m).length = r.length + 1 := by rw [hr]; rfl
        rw [List.length_drop] at hl
        rw [ldg_f n n' false r (by simp [lmu] at h ⊢; omega) (by simp [lmu] at h' ⊢; omega)]
      · rfl
/-- an expression at the front: its number of tokens and its depth -/
def le_ (hol : Bool) (l : List Nat) : Option (Nat × Nat) := ldg hol (lmu true l) true l
/-- arguments at the front, at least one, with the closing bracket -/
def la_ (hol : Bool) (l : List Nat) : Option (Nat × Nat) := ldg hol (lmu false l) false l
theorem le_eq (hol : Bool) (l : List Nat) : le_ hol l = (match l with
    | 1 :: 4 :: 5 :: _ => some (3, 1)
    | 1 :: 4 :: a => (la_ hol a).map (fun q => (q.1 + 2, q.2 + 1))
    | 1 :: _ => some (1, 0)
    | 2 :: _ => some (1, 0)
    | 3 :: _ => if hol = true then some (1, 0) else none
    | _ => none) := by
  unfold le_
  rw [show lmu true l = 2 * l.length + 1 from rfl]
  unfold ldg
  split
  · rfl
  · rename_i a _
    unfold la_
    rw [ldg_f _ (lmu false a) false a (by simp [lmu]; omega) (Nat.le_refl _)]
  · rfl
  · rfl
  · rfl
  · rfl
theorem la_eq (hol : Bool) (l : List Nat) : la_ hol l = (match le_ hol l with
    | none => none
    | some (m, dp) => (match l.drop m with
      | 5 :: _ => some (m + 1, dp)
      | 6 :: r => (la_ hol r).map (fun q => (m + 1 + q.1, max dp q.2))
      | _ => none)) := by
  unfold la_ le_
  rw [show lmu false l = 2 * l.length + 1 + 1 from rfl, show lmu true l = 2 * l.length + 1 from rfl]
  conv => lhs; unfold ldg
  cases ha : ldg hol (2 * l.length + 1) true l with
  | none => rfl
  | some q =>
    obtain ⟨m, dp⟩ := q
    dsimp only
    have h1 := ldg_b _ true l m dp ha
    split
    · rfl
    · rename_i r hr
      have hl : (l.drop m).length = r.length + 1 := by rw [hr]; rfl
      rw [List.length_drop] at hl
      rw [ldg_f _ (lmu false r) false r (by simp [lmu]; omega) (Nat.le_refl _)]
    · rfl
theorem le_b {hol : Bool} {l : List Nat} {m dp : Nat} (h : le_ hol l = some (m, dp)) : 1 ≤ m ∧ m ≤ l.length := ldg_b _ _ _ _ _ h
theorem la_b {hol : Bool} {l : List Nat} {m dp : Nat} (h : la_ hol l = some (m, dp)) : 1 ≤ m ∧ m ≤ l.length := ldg_b _ _ _ _ _ h
theorem le_c5 {hol : Bool} (r : List Nat) : le_ hol (1 :: 4 :: 5 :: r) = some (3, 1) := by rw [le_eq]; rfl
theorem le_call {hol : Bool} {a : List Nat} (h : ∀ r, a ≠ 5 :: r) : le_ hol (1 :: 4 :: a) = (la_ hol a).map (fun q => (q.1 + 2, q.2 + 1)) := by
  rw [le_eq]
  split
  · rename_i r hq
    injection hq with _ hq
    injection hq with _ hq
    exact absurd hq (h _)
  · rename_i hq
    injection hq with _ hq
    injection hq with _ hq
    rw [hq]
  · rename_i _ h2 hq
    injection hq with _ hq
    exact absurd hq.symm (h2 _)
  · rename_i hq
    injection hq with hq _
    cases hq
  · rename_i hq
    injection hq with hq _
    cases hq
  · rename_i _ h2 _ _ _
    exact absurd rfl (h2 _)
theorem le_name {hol : Bool} {r : List Nat} (h : ∀ r', r ≠ 4 :: r') : le_ hol (1 :: r) = some (1, 0) := by
  rw [le_eq]
  split
  · rename_i hq
    injection hq with _ hq
    exact absurd hq (h _)
  · rename_i hq
    injection hq with _ hq
    exact absurd hq (h _)
  · rfl
  · rfl
  · rename_i hq
    injection hq with hq _
    cases hq
  · rename_i _ _ h3 _ _
    exact absurd rfl (h3 _)
theorem le_num {hol : Bool} (r : List Nat) : le_ hol (2 :: r) = some (1, 0) := by rw [le_eq]; rfl
theorem le_hole {hol : Bool} (r : List Nat) : le_ hol (3 :: r) = if hol = true then some (1, 0) else none := by rw [le_eq]; rfl
theorem le_oth {hol : Bool} {k : Nat} (r : List Nat) (h1 : k ≠ 1) (h2 : k ≠ 2) (h3 : k ≠ 3) : le_ hol (k :: r) = none := by
  rw [le_eq]
  split
  · rename_i hq
    injection hq with hq _
    exact absurd hq h1
  · rename_i hq
    injection hq with hq _
    exact absurd hq h1
  · rename_i hq
    injection hq with hq _
    exact absurd hq h1
  · rename_i hq
    injection hq with hq _
    exact absurd hq h2
  · rename_i hq
    injection hq with hq _
    exact absurd hq h3
  · rfl
theorem le_nil {hol : Bool} : le_ hol [] = none := by cases hol <;> decide
theorem la_nil {hol : Bool} : la_ hol [] = none := by cases hol <;> decide
theorem la_n {hol : Bool} {l : List Nat} (h : le_ hol l = none) : la_ hol l = none := by rw [la_eq, h]
theorem la_5 {hol : Bool} {l r : List Nat} {m dp : Nat} (h : le_ hol l = some (m, dp)) (h5 : l.drop m = 5 :: r) : la_ hol l = some (m + 1, dp) := by rw [la_eq, h]; dsimp only; rw [h5]; rfl
theorem la_6 {hol : Bool} {l r : List Nat} {m dp : Nat} (h : le_ hol l = some (m, dp)) (h6 : l.drop m = 6 :: r) : la_ hol l = (la_ hol r).map (fun q => (m + 1 + q.1, max dp q.2)) := by
  conv => lhs; rw [la_eq, h]
  dsimp only
  rw [h6]
  rfl
theorem la_o {hol : Bool} {l : List Nat} {m dp : Nat} (h : le_ hol l = some (m, dp)) (h5 : ∀ r, l.drop m ≠ 5 :: r) (h6 : ∀ r, l.drop m ≠ 6 :: r) : la_ hol l = none := by
  rw [la_eq, h]
  dsimp only
  split
  · rename_i hq
    exact absurd hq (h5 _)
  · rename_i hq
    exact absurd hq (h6 _)
  · rfl
