/-! The outline against statements and ends of expressions. -/
def kd1 (ks : List Nat) (q : Nat × Nat × Bool) : Nat := if q.2.2 = true then (if icn ks q.1 = true then 3 else if ks[q.1]? = some 1 then 1 else 2) else 0
theorem rst_kd (ks : List Nat) (f e : Nat) : rst ks f e = kd1 ks (f, e, gdr ks f e) := by
  unfold rst kd1
  rw [gds_gdr]
theorem rsx_ex {ks : List Nat} {f e : Nat} (h : gdr ks f e = true) : f < e ∧ (∃ dp, dp ≤ 12 ∧ le_ false (ks.drop f) = some (e - f, dp)) ∧ EX ks 0 f e 0 12 (rsx ks f e) := by
  unfold rsx
  rw [gds_gdr, if_pos h]
  unfold gdr at h
  cases hle : le_ false (ks.drop f) with
  | none => rw [hle] at h; cases h
  | some q =>
    obtain ⟨m, dp⟩ := q
    rw [hle] at h
    have h := of_decide_eq_true h
    have hb := le_b hle
    obtain ⟨X, hX, hE⟩ := (sc_all (ks.drop f).length).1 (ks.drop f) (Nat.le_refl _) m dp hle f 0 (by omega)
    have hm : e - f = m := by omega
    have h0 := hX 0 [] rfl
    rw [Nat.add_zero] at h0
    rw [hm, h0]
    refine ⟨by omega, ⟨dp, h.1, rfl⟩, ?_⟩
    have h1 : (scn 0 ((ks.drop f).drop m) (f + m) []).1 = [] := rfl
    rw [h1, List.append_nil]
    have h2 : EX (ks.drop f) (0 + f) f (f + m) 0 (0 + dp) X := by rw [Nat.zero_add f]; exact hE
    have h3 := EX.shift (c := f) h2 (by omega)
    rw [h.2] at h3
    exact h3.mono (Nat.le_refl _) (by omega)
theorem rsx_no {ks : List Nat} {f e : Nat} (h : gdr ks f e = false) : rsx ks f e = [] := by
  unfold rsx
  rw [gds_gdr, if_neg (by rw [h]; decide)]
theorem out_all (ks : List Nat) : ∀ (n f t : Nat), t + n = ks.length → f ≤ t →
    (oln ks n f t).1 = (spn ks n f t).map (kd1 ks) ∧
    (∀ (i l b : Nat), (i, l, b) ∈ (oln ks n f t).2 → ∃ f' e', (f', e', true) ∈ spn ks n f t ∧ f ≤ f' ∧ f' ≤ i ∧ i ≤ l ∧ l < e' ∧ e' < ks.length ∧ n12 ks[i]? ∧ ∃ dp, le_ false (ks.drop i) = some (l - i + 1, dp) ∧ b + dp ≤ 12) ∧
    (∀ (f' e' : Nat), (f', e', true) ∈ spn ks n f t → ∀ i, f' ≤ i → i < e' → n12 ks[i]? → ∃ l b, (i, l, b) ∈ (oln ks n f t).2) ∧
    (oln ks n f t).2.Pairwise (fun x y => x.2.1 < y.2.1) ∧
    (∀ (f' e' : Nat) (g : Bool), (f', e', g) ∈ spn ks n f t → f ≤ f' ∧ f' ≤ e' ∧ e' < ks.length ∧ (g = true → f' < e' ∧ ks[e']? = some 7 ∧ ∃ dp, dp ≤ 12 ∧ le_ false (ks.drop f') = some (e' - f', dp))) ∧
    (spn ks n f t).Pairwise (fun x y => x.2.1 < y.1) := by
  intro n
  induction n with
  | zero =>
    intro f t hn hf
    unfold oln spn
    by_cases h : f < t
    · rw [if_pos h, if_pos h]
      refine ⟨by simp [kd1], fun i l b hx => by simp at hx, fun f' e' hx => by simp at hx, List.Pairwise.nil, fun f' e' g hx => ?_, List.pairwise_singleton _ _⟩
      have hx := List.mem_singleton.mp hx
      injection hx with h1 hx
      injection hx with h2 h3
      subst h1; subst h2; subst h3
      exact ⟨Nat.le_refl _, by omega, by omega, fun q => by cases q⟩
    · rw [if_neg h, if_neg h]
      exact ⟨rfl, fun i l b hx => by simp at hx, fun f' e' hx => by simp at hx, List.Pairwise.nil, fun f' e' g hx => by simp at hx, List.Pairwise.nil⟩
  | succ n ih =>
    intro f t hn hf
    rw [oln_s, spn_s]
    by_cases h7 : ks[t]? = some 7
    · rw [if_pos h7, if_pos h7]
      obtain ⟨g1, g2, g3, g4, g5, g6⟩ := ih (t + 1) (t + 1) (by omega) (Nat.le_refl _)
      refine ⟨?_, fun i l b hx => ?_, fun f' e' hx i h1 h2 h3 => ?_, ?_, fun f' e' g hx => ?_, ?_⟩
      · rw [g1, List.map_cons, rst_kd]
      · dsimp only at hx
        rcases List.mem_append.mp hx with hx | hx
        · cases hg : gdr ks f t with
          | false => rw [rsx_no hg] at hx; simp at hx
          | true =>
            obtain ⟨r1, r2, r3⟩ := rsx_ex hg
            obtain ⟨q1, q2, q3, q4, q5, dp, q6, q7⟩ := r3.1 i l b hx
            rw [Nat.sub_zero] at q5 q6
            exact ⟨f, t, List.mem_cons_self, Nat.le_refl _, q1, q2, q3, by omega, q5, dp, q6, q7⟩
        · obtain ⟨f', e', q1, q2, q3, q4, q5, q6⟩ := g2 i l b hx
          exact ⟨f', e', List.mem_cons_of_mem _ q1, by omega, q3, q4, q5, q6⟩
      · dsimp only
        rcases List.mem_cons.mp hx with hx | hx
        · injection hx with e1 hx
          injection hx with e2 e3
          subst e1; subst e2
          obtain ⟨r1, r2, r3⟩ := rsx_ex e3.symm
          obtain ⟨l, b, hl⟩ := r3.2.1 i h1 h2 (by rw [Nat.sub_zero]; exact h3)
          exact ⟨l, b, List.mem_append_left _ hl⟩
        · obtain ⟨l, b, hl⟩ := g3 f' e' hx i h1 h2 h3
          exact ⟨l, b, List.mem_append_right _ hl⟩
      · dsimp only
        rw [List.pairwise_append]
        have hp : (rsx ks f t).Pairwise (fun x y => x.2.1 < y.2.1) ∧ ∀ x ∈ rsx ks f t, x.2.1 < t := by
          cases hg : gdr ks f t with
          | false => rw [rsx_no hg]; exact ⟨List.Pairwise.nil, fun x hx => by simp at hx⟩
          | true =>
            obtain ⟨r1, r2, r3⟩ := rsx_ex hg
            refine ⟨r3.2.2, fun x hx => ?_⟩
            obtain ⟨i, l, b⟩ := x
            exact (r3.1 i l b hx).2.2.1
        refine ⟨hp.1, g4, fun x hx y hy => ?_⟩
        obtain ⟨i, l, b⟩ := y
        obtain ⟨f', e', q1, q2, q3, q4, q5, q6⟩ := g2 i l b hy
        have := hp.2 x hx
        show x.2.1 < l
        omega
      · rcases List.mem_cons.mp hx with hx | hx
        · injection hx with e1 hx
          injection hx with e2 e3
          subst e1; subst e2
          refine ⟨Nat.le_refl _, hf, by omega, fun q => ?_⟩
          obtain ⟨r1, r2, r3⟩ := rsx_ex (by rw [← e3]; exact q : gdr ks f' e' = true)
          exact ⟨r1, h7, r2⟩
        · obtain ⟨q1, q2⟩ := g5 f' e' g hx
          exact ⟨by omega, q2⟩
      · rw [List.pairwise_cons]
        refine ⟨fun x hx => ?_, g6⟩
        obtain ⟨f', e', g⟩ := x
        have := g5 f' e' g hx
        show t < f'
        omega
    · rw [if_neg h7, if_neg h7]
      exact ih f (t + 1) (by omega) (by omega)
