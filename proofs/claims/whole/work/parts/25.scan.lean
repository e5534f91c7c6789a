/-! What the scan of an expression adds: just the expressions in it, by their ends. -/
def n12 (o : Option Nat) : Prop := o = some 1 ∨ o = some 2
def EX (l : List Nat) (t lo hi a D : Nat) (X : List (Nat × Nat × Nat)) : Prop :=
  (∀ (i j b : Nat), (i, j, b) ∈ X → lo ≤ i ∧ i ≤ j ∧ j < hi ∧ a ≤ b ∧ n12 l[i - t]? ∧ ∃ dp, le_ false (l.drop (i - t)) = some (j - i + 1, dp) ∧ b + dp ≤ D) ∧
  (∀ i, lo ≤ i → i < hi → n12 l[i - t]? → ∃ j b, (i, j, b) ∈ X) ∧ X.Pairwise (fun x y => x.2.1 < y.2.1)
theorem EX.shift {l : List Nat} {t c lo hi a D : Nat} {X : List (Nat × Nat × Nat)} (h : EX (l.drop c) (t + c) lo hi a D X) (hl : t + c ≤ lo) : EX l t lo hi a D X := by
  refine ⟨fun i j b hx => ?_, fun i h1 h2 h3 => h.2.1 i h1 h2 ?_, h.2.2⟩
  · obtain ⟨g1, g2, g3, g4, g5, dp, g6, g7⟩ := h.1 i j b hx
    rw [List.getElem?_drop, show c + (i - (t + c)) = i - t by omega] at g5
    rw [List.drop_drop, show c + (i - (t + c)) = i - t by omega] at g6
    exact ⟨g1, g2, g3, g4, g5, dp, g6, g7⟩
  · rw [List.getElem?_drop, show c + (i - (t + c)) = i - t by omega]
    exact h3
theorem EX.cat {l : List Nat} {t lo mid hi a a2 D D2 : Nat} {X Y : List (Nat × Nat × Nat)} (h : EX l t lo mid a D X) (h2 : EX l t mid hi a2 D2 Y) (h3 : lo ≤ mid) (h4 : mid ≤ hi) : EX l t lo hi (min a a2) (max D D2) (X ++ Y) := by
  refine ⟨fun i j b hx => ?_, fun i g1 g2 g3 => ?_, ?_⟩
  · rcases List.mem_append.mp hx with hx | hx
    · obtain ⟨g1, g2, g3, g4, g5, dp, g6, g7⟩ := h.1 i j b hx
      exact ⟨g1, g2, by omega, by omega, g5, dp, g6, by omega⟩
    · obtain ⟨g1, g2, g3, g4, g5, dp, g6, g7⟩ := h2.1 i j b hx
      exact ⟨by omega, g2, g3, by omega, g5, dp, g6, by omega⟩
  · by_cases hm : i < mid
    · obtain ⟨j, b, hx⟩ := h.2.1 i g1 hm g3
      exact ⟨j, b, List.mem_append_left _ hx⟩
    · obtain ⟨j, b, hx⟩ := h2.2.1 i (by omega) g2 g3
      exact ⟨j, b, List.mem_append_right _ hx⟩
  · rw [List.pairwise_append]
    refine ⟨h.2.2, h2.2.2, fun x hx y hy => ?_⟩
    obtain ⟨i, j, b⟩ := x
    obtain ⟨i', j', b'⟩ := y
    have g1 := h.1 i j b hx
    have g2 := h2.1 i' j' b' hy
    show j < j'
    omega
/-- tokens without a name or a number add nothing -/
theorem EX.nil {l : List Nat} {t lo hi a D : Nat} (h : ∀ i, lo ≤ i → i < hi → ¬ n12 l[i - t]?) : EX l t lo hi a D [] :=
  ⟨fun i j b hx => by simp at hx, fun i h1 h2 h3 => absurd h3 (h i h1 h2), List.Pairwise.nil⟩
theorem EX.mono {l : List Nat} {t lo hi a a' D D' : Nat} {X : List (Nat × Nat × Nat)} (h : EX l t lo hi a D X) (ha : a' ≤ a) (hD : D ≤ D') : EX l t lo hi a' D' X := by
  refine ⟨fun i j b hx => ?_, h.2.1, h.2.2⟩
  obtain ⟨g1, g2, g3, g4, g5, dp, g6, g7⟩ := h.1 i j b hx
  exact ⟨g1, g2, g3, by omega, g5, dp, g6, by omega⟩
theorem sc_sk (n k t : Nat) (r s : List Nat) (h1 : k ≠ 1) (h2 : k ≠ 2) (h5 : k ≠ 5) : scn (n + 1) (k :: r) t s = scn n r (t + 1) s := by
  rw [scn_c, if_neg (fun q => h1 q.1.1), if_neg h5, if_neg (by omega)]
theorem sc_5 (n t f : Nat) (r s : List Nat) : scn (n + 1) (5 :: r) t (f :: s) = ((f, t, s.length) :: (scn n r (t + 1) s).1, (scn n r (t + 1) s).2) := by
  rw [scn_c, if_neg (fun q => by cases q.1.1), if_pos rfl]
theorem sc_p (n t : Nat) (r s : List Nat) (h : hd4 r = true) (hs : s.length < 12) : scn (n + 1) (1 :: r) t s = scn n r (t + 1) (t :: s) := by
  rw [scn_c, if_pos ⟨⟨rfl, h⟩, hs⟩]
theorem sc_l1 (n t : Nat) (r s : List Nat) (h : hd4 r = false) : scn (n + 1) (1 :: r) t s = ((t, t, s.length) :: (scn n r (t + 1) s).1, (scn n r (t + 1) s).2) := by
  rw [scn_c, if_neg (fun q => by rw [h] at q; cases q.1.2), if_neg (by decide), if_pos (Or.inl rfl)]
theorem sc_l2 (n t : Nat) (r s : List Nat) : scn (n + 1) (2 :: r) t s = ((t, t, s.length) :: (scn n r (t + 1) s).1, (scn n r (t + 1) s).2) := by
  rw [scn_c, if_neg (fun q => by cases q.1.1), if_neg (by decide), if_pos (Or.inr rfl)]
def ScE (l : List Nat) : Prop := ∀ (m dp : Nat), le_ false l = some (m, dp) → ∀ (t a : Nat), a + dp ≤ 12 → ∃ X, (∀ (n : Nat) (s : List Nat), s.length = a → scn (m + n) l t s = (X ++ (scn n (l.drop m) (t + m) s).1, (scn n (l.drop m) (t + m) s).2)) ∧ EX l t t (t + m) a (a + dp) X
def ScA (l : List Nat) : Prop := ∀ (m dp : Nat), la_ false l = some (m, dp) → ∀ (t a : Nat), a + 1 + dp ≤ 12 → ∃ X, (∀ (n f : Nat) (s : List Nat), s.length = a → scn (m + n) l t (f :: s) = (X ++ (f, t + m - 1, a) :: (scn n (l.drop m) (t + m) s).1, (scn n (l.drop m) (t + m) s).2)) ∧ EX l t t (t + m - 1) (a + 1) (a + 1 + dp) X ∧ l[m - 1]? = some 5
theorem leaf_EX {k : Nat} {r : List Nat} {t a : Nat} (hk : k = 1 ∨ k = 2) (h : le_ false (k :: r) = some (1, 0)) : EX (k :: r) t t (t + 1) a (a + 0) [(t, t, a)] := by
  refine ⟨fun i j b hx => ?_, fun i h1 h2 _ => ⟨t, a, ?_⟩, List.pairwise_singleton _ _⟩
  · simp at hx
    obtain ⟨rfl, rfl, rfl⟩ := hx
    rw [Nat.sub_self]
    refine ⟨Nat.le_refl _, Nat.le_refl _, by omega, Nat.le_refl _, ?_, 0, h, by omega⟩
    rcases hk with rfl | rfl
    · exact Or.inl rfl
    · exact Or.inr rfl
  · have : i = t := by omega
    rw [this]
    simp
theorem sc_all : ∀ N : Nat, (∀ l : List Nat, l.length ≤ N → ScE l) ∧ (∀ l : List Nat, l.length ≤ N → ScA l) := by
  intro N
  induction N with
  | zero =>
    constructor
    · intro l hl m dp h
      have : l = [] := List.length_eq_zero_iff.mp (by omega)
      subst this
      rw [le_nil] at h
      cases h
    · intro l hl m dp h
      have : l = [] := List.length_eq_zero_iff.mp (by omega)
      subst this
      rw [la_nil] at h
      cases h
  | succ N ih =>
    have hE : ∀ l : List Nat, l.length ≤ N + 1 → ScE l := by
      intro l hl m dp h t a ha
      cases l with
      | nil => rw [le_nil] at h; cases h
      | cons k r =>
        have hrl : r.length ≤ N := by simpa using hl
        by_cases k1 : k = 1
        · subst k1
          cases r with
          | nil =>
            rw [le_name (fun r' e => by cases e)] at h
            cases h
            refine ⟨[(t, t, a)], fun n s hs => ?_, leaf_EX (Or.inl rfl) (le_name (fun r' e => by cases e))⟩
            rw [Nat.add_comm 1 n, sc_l1 n t [] s rfl, hs]
            rfl
          | cons k2 r2 =>
            by_cases k4 : k2 = 4
            · subst k4
              by_cases h5 : ∃ r3, r2 = 5 :: r3
              · obtain ⟨r3, rfl⟩ := h5
                rw [le_c5] at h
                cases h
                refine ⟨[(t, t + 2, a)], fun n s hs => ?_, ?_⟩
                · rw [show 3 + n = n + 1 + 1 + 1 by omega, sc_p _ t _ s rfl (by omega), sc_sk _ 4 _ _ _ (by decide) (by decide) (by decide), sc_5, hs]
                  rfl
                · refine ⟨fun i j b hx => ?_, fun i g1 g2 g3 => ?_, List.pairwise_singleton _ _⟩
                  · simp at hx
                    obtain ⟨rfl, rfl, rfl⟩ := hx
                    rw [Nat.sub_self]
                    exact ⟨Nat.le_refl _, by omega, by omega, Nat.le_refl _, Or.inl rfl, 1, by rw [List.drop_zero, le_c5, show i + 2 - i + 1 = 3 by omega], Nat.le_refl _⟩
                  · have hi : i = t ∨ i = t + 1 ∨ i = t + 2 := by omega
                    rcases hi with rfl | rfl | rfl
                    · exact ⟨i + 2, a, by simp⟩
                    · rw [show t + 1 - t = 1 by omega] at g3
                      rcases g3 with g3 | g3 <;> cases g3
                    · rw [show t + 2 - t = 2 by omega] at g3
                      rcases g3 with g3 | g3 <;> cases g3
              · have hne : ∀ r', r2 ≠ 5 :: r' := fun r' e => h5 ⟨r', e⟩
                rw [le_call hne] at h
                cases hla : la_ false r2 with
                | none => rw [hla] at h; cases h
                | some q =>
                  obtain ⟨m', dp'⟩ := q
                  rw [hla] at h
                  cases h
                  have hbm := la_b hla
                  dsimp only at ha ⊢
                  obtain ⟨X, hX, hEX, hc5⟩ := ih.2 r2 (by simp at hrl; omega) m' dp' hla (t + 2) a (by omega)
                  have hlec : le_ false (1 :: 4 :: r2) = some (m' + 2, dp' + 1) := by rw [le_call hne, hla]; rfl
                  refine ⟨X ++ [(t, t + (m' + 2) - 1, a)], fun n s hs => ?_, ?_⟩
                  · rw [show m' + 2 + n = m' + n + 1 + 1 by omega, sc_p _ t _ s rfl (by omega), sc_sk _ 4 _ _ _ (by decide) (by decide) (by decide), hX n t s hs]
                    rw [show t + 2 + m' - 1 = t + (m' + 2) - 1 by omega, show t + 2 + m' = t + (m' + 2) by omega]
                    simp
                  · have h1 : EX (1 :: 4 :: r2) t (t + 2) (t + 2 + m' - 1) (a + 1) (a + 1 + dp') X := EX.shift (c := 2) hEX (Nat.le_refl _)
                    refine ⟨fun i j b hx => ?_, fun i g1 g2 g3 => ?_, ?_⟩
                    · rcases List.mem_append.mp hx with hx | hx
                      · obtain ⟨g1, g2, g3, g4, g5, dp, g6, g7⟩ := h1.1 i j b hx
                        exact ⟨by omega, g2, by omega, by omega, g5, dp, g6, by omega⟩
                      · have hx := List.mem_singleton.mp hx
                        injection hx with hx1 hx
                        injection hx with hx2 hx3
                        subst hx1; subst hx2; subst hx3
                        rw [Nat.sub_self]
                        exact ⟨Nat.le_refl _, by omega, by omega, Nat.le_refl _, Or.inl rfl, dp' + 1, by rw [List.drop_zero, hlec, show i + (m' + 2) - 1 - i + 1 = m' + 2 by omega], Nat.le_refl _⟩
                    · by_cases hi : i = t
                      · exact ⟨t + (m' + 2) - 1, a, by rw [hi]; simp⟩
                      · by_cases hi1 : i = t + 1
                        · subst hi1
                          rw [show t + 1 - t = 1 by omega] at g3
                          rcases g3 with g3 | g3 <;> cases g3
                        · by_cases hi2 : i = t + 1 + m'
                          · rw [hi2, show t + 1 + m' - t = (m' - 1) + 1 + 1 by omega, List.getElem?_cons_succ, List.getElem?_cons_succ, hc5] at g3
                            rcases g3 with g3 | g3 <;> cases g3
                          · obtain ⟨j, b, hx⟩ := h1.2.1 i (by omega) (by omega) g3
                            exact ⟨j, b, List.mem_append_left _ hx⟩
                    · rw [List.pairwise_append]
                      refine ⟨h1.2.2, List.pairwise_singleton _ _, fun x hx y hy => ?_⟩
                      obtain ⟨i, j, b⟩ := x
                      have hy := List.mem_singleton.mp hy
                      subst hy
                      have g := h1.1 i j b hx
                      show j < t + (m' + 2) - 1
                      omega
            · have hno : ∀ r', k2 :: r2 ≠ 4 :: r' := fun r' e => k4 (by injection e)
              have hh : hd4 (k2 :: r2) = false := by
                show Nat.beq k2 4 = false
                cases hb : Nat.beq k2 4 with
                | false => rfl
                | true => exact absurd (Nat.eq_of_beq_eq_true hb) k4
              rw [le_name hno] at h
              cases h
              refine ⟨[(t, t, a)], fun n s hs => ?_, leaf_EX (Or.inl rfl) (le_name hno)⟩
              rw [Nat.add_comm 1 n, sc_l1 n t _ s hh, hs]
              rfl
        · by_cases k2 : k = 2
          · subst k2
            rw [le_num] at h
            cases h
            refine ⟨[(t, t, a)], fun n s hs => ?_, leaf_EX (Or.inr rfl) (le_num _)⟩
            rw [Nat.add_comm 1 n, sc_l2 n t _ s, hs]
            rfl
          · by_cases k3 : k = 3
            · subst k3
              rw [le_hole] at h
              cases h
            · rw [le_oth _ k1 k2 k3] at h
              cases h
    refine ⟨hE, fun l hl m dp h t a ha => ?_⟩
    cases hle : le_ false l with
    | none => rw [la_n hle] at h; cases h
    | some q =>
      obtain ⟨m1, d1⟩ := q
      have hb1 := le_b hle
      by_cases h5 : ∃ r, l.drop m1 = 5 :: r
      · obtain ⟨r, hr⟩ := h5
        rw [la_5 hle hr] at h
        injection h with h
        injection h with e1 e2
        subst e1; subst e2
        have h5' : l[m1]? = some 5 := by
          have := List.getElem?_drop (xs := l) (i := m1) (j := 0)
          rw [hr] at this
          simpa using this.symm
        obtain ⟨X, hX, hEX⟩ := hE l hl m1 d1 hle t (a + 1) (by omega)
        refine ⟨X, fun n f s hs => ?_, hEX, h5'⟩
        rw [show m1 + 1 + n = m1 + (n + 1) by omega, hX (n + 1) (f :: s) (by simp [hs]), hr, sc_5, hs]
        have : l.drop (m1 + 1) = r := by rw [← List.drop_drop, hr]; rfl
        rw [this]
        rfl
      · by_cases h6 : ∃ r, l.drop m1 = 6 :: r
        · obtain ⟨r, hr⟩ := h6
          rw [la_6 hle hr] at h
          cases hla : la_ false r with
          | none => rw [hla] at h; cases h
          | some q =>
            obtain ⟨m2, d2⟩ := q
            rw [hla] at h
            cases h
            dsimp only at ha ⊢
            have hrl : (l.drop m1).length = r.length + 1 := by rw [hr]; rfl
            rw [List.length_drop] at hrl
            have hrr : l.drop (m1 + 1) = r := by rw [← List.drop_drop, hr]; rfl
            obtain ⟨X, hX, hEX⟩ := hE l hl m1 d1 hle t (a + 1) (by omega)
            obtain ⟨Y, hY, hEY, hY5⟩ := ih.2 r (by omega) m2 d2 hla (t + (m1 + 1)) a (by omega)
            refine ⟨X ++ Y, fun n f s hs => ?_, ?_, ?_⟩
            · rw [show m1 + 1 + m2 + n = m1 + (m2 + n + 1) by omega, hX _ (f :: s) (by simp [hs]), hr, sc_sk _ 6 _ _ _ (by decide) (by decide) (by decide)]
              rw [show t + m1 + 1 = t + (m1 + 1) by omega, hY n f s hs]
              have : l.drop (m1 + 1 + m2) = r.drop m2 := by rw [← List.drop_drop, hrr]
              rw [this, show t + (m1 + 1) + m2 - 1 = t + (m1 + 1 + m2) - 1 by omega, show t + (m1 + 1) + m2 = t + (m1 + 1 + m2) by omega]
              simp
            · have h0 : EX l t (t + m1) (t + (m1 + 1)) (a + 1) (a + 1 + d2) [] := EX.nil (fun i g1 g2 g3 => by
                have hi : i = t + m1 := by omega
                rw [hi, show t + m1 - t = m1 by omega] at g3
                have : l[m1]? = some 6 := by
                  have := List.getElem?_drop (xs := l) (i := m1) (j := 0)
                  rw [hr] at this
                  simpa using this.symm
                rw [this] at g3
                rcases g3 with g3 | g3 <;> cases g3)
              rw [← hrr] at hEY
              have h2 : EX l t (t + (m1 + 1)) (t + (m1 + 1) + m2 - 1) (a + 1) (a + 1 + d2) Y := EX.shift (c := m1 + 1) hEY (Nat.le_refl _)
              have hbm2 := la_b hla
              have h3 := EX.cat (EX.cat hEX h0 (by omega) (by omega)) h2 (by omega) (by omega)
              rw [List.append_nil] at h3
              rw [show t + (m1 + 1 + m2) - 1 = t + (m1 + 1) + m2 - 1 by omega]
              exact h3.mono (by omega) (by omega)
            · have hbm := la_b hla
              rw [← hrr, List.getElem?_drop] at hY5
              rw [show m1 + 1 + m2 - 1 = m1 + 1 + (m2 - 1) by omega]
              exact hY5
        · rw [la_o hle (fun r e => h5 ⟨r, e⟩) (fun r e => h6 ⟨r, e⟩)] at h
          cases h
