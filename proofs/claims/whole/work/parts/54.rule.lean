section RD
variable {E : XE} {d : Nat} {Q : Int32 → mI → mP → Prop} {P : mP} {rs : List RlT} {tl : List Int32} {mt : Int32} {N : List MIt} {R : Nat} {bf ld : List Int32} {I : mI}
theorem c_rule (hP : CP I P bf ld rs N tl mt R) (h6 : rs.length = 6 → Q (-(nI 1)) I P)
    (h0 : ∀ I', rs.length < 6 → isR (lxT bf).1 = none → CP I' P bf ld rs N tl mt R → (∀ m, m < 6 ∨ 60 ≤ m → I' m = I m) → Q (-(nI 1)) I' P)
    (h1 : ∀ I' ar, rs.length < 6 → isR (lxT bf).1 = some ar → CP I' P [] ld (rs ++ [((lxT bf).1, (lxT bf).2, ar)]) N tl mt R → (∀ m, 60 ≤ m → I' m = I m) → I' 2 7 = I 2 7 → Q (nI rs.length) I' P) : V E (d + 27) m_RR_rule 112 Q 0 [some (.inr 2)] [] 112 I P := by
  have hP' := hP
  obtain ⟨hS, b1, b2, b3, b4, b5, b6, b7, b8, hL, hG, hPG⟩ := hP'
  have hP4 : P 2 4 = 5 := hS.1.2.2.1
  have hP0 : P 2 0 = 3 := hS.1.1
  refine x_RR_rule_0 _ ⟨k2_, ?_⟩
  rw [b7]
  refine pk_le 6 rs.length (fun q => h6 (by omega)) (fun q => ?_)
  have hP5 : P 5 rs.length = 6 + 9 * rs.length := (hS.2.1 rs.length q).1
  have hO := hS.ro q
  simp only [k2_, hP4, hP0, k5_, nzl 5 (by decide), nzl 3 (by decide), true_and]
  rw [clp (show rs.length < 2 ^ 31 by omega), hP5, b1]
  refine ⟨vp_in_nI (by omega) (by decide), by omega, hO.1, ?_⟩
  have keep : ∀ (I' : mI), (∀ m, m < 6 + 9 * rs.length ∨ 6 + 9 * rs.length + 6 < m → I' m = I m) → RLS I' rs := by
    intro I' hf r Z t ar hq
    obtain ⟨mk, hm⟩ := hL r Z t ar hq
    have hr := (List.getElem?_eq_some_iff.mp hq).1
    exact ⟨mk, hm.fr (fun m a b => hf m (by omega))⟩
  refine s_become_R hO (by omega) b3 b2 (fun I1 mk ar e1 f1 r1 => ?_) (fun I1 e1 f1 => ?_)
  · refine ⟨fun _ => ?_, fun c => absurd c (by decide)⟩
    have e5 : I1 2 5 = nI rs.length := by rw [f1 2 (by omega)]; exact b7
    rw [uI_o (show 5 ≠ 1 by decide), e5, uI_s, n1, pk_sub (by omega), Nat.add_sub_cancel]
    have hf2 : ∀ m, m ≠ 2 → uI (uI I1 2 1 (nI 0)) 2 5 (nI (rs.length + 1)) m = I1 m := fun m hm => by rw [uI_n hm, uI_n hm]
    refine h1 _ ar q e1 ⟨hS, ?_, fun j x hx => by simp at hx, by simp, ?_, ?_, b6, ?_, ?_, ?_, ?_, ?_⟩ (fun m hm => ?_) ?_
    · rw [uI_o (by decide), uI_s]
      rfl
    · rw [uI_o (by decide), uI_o (by decide), f1 2 (by omega)]
      exact b4
    · rw [hf2 4 (by decide), f1 4 (by omega)]
      exact b5
    · rw [uI_s, List.length_append]
      rfl
    · rw [List.length_append, List.length_singleton]
      omega
    · intro r Z t ar' hq
      by_cases hr : r < rs.length
      · rw [List.getElem?_append_left hr] at hq
        obtain ⟨mk', hm⟩ := keep I1 f1 r Z t ar' hq
        exact ⟨mk', hm.fr (fun m a b => hf2 m (by omega))⟩
      · rw [List.getElem?_append_right (by omega)] at hq
        have e : r - rs.length = 0 := by
          have := (List.getElem?_eq_some_iff.mp hq).1
          rw [List.length_singleton] at this
          omega
        rw [e] at hq
        cases hq
        have er : r = rs.length := by omega
        subst er
        exact ⟨mk, r1.fr (fun m a b => hf2 m (by omega))⟩
    · intro Z t ar' hm
      rcases List.mem_append.mp hm with hm | hm
      · exact hG Z t ar' hm
      · rw [List.mem_singleton] at hm
        cases hm
        exact (isR_rg e1).2
    · exact hPG.fr hS (fun m a b => by rw [hf2 m (by omega), f1 m (by omega)])
    · rw [hf2 m (by omega), f1 m (by omega)]
    · rw [uI_o (by decide), uI_o (by decide), f1 2 (by omega)]
  · refine ⟨fun c => absurd rfl c, fun _ => h0 I1 q e1 (hP.fr hS (fun m hm => f1 m (by omega)) (keep I1 f1) (hPG.fr hS (fun m a b => f1 m (by omega)))) (fun m hm => f1 m (by omega))⟩
/-- may the character be typed -/
def okc (x : Int32) : Bool := decide (x.toInt = 10 ∨ (32 ≤ x.toInt ∧ x.toInt ≤ 126))
theorem c_type (hP : CP I P bf ld rs N tl mt R) {x : Int32} (h0 : ¬ (okc x = true ∧ bf.length < 60) → Q (nI 0) I P) (h1 : ∀ I', okc x = true → bf.length < 60 → CP I' P (bf ++ [x]) ld rs N tl mt R → (∀ m, 4 ≤ m → I' m = I m) → I' 2 7 = I 2 7 → Q (nI 1) I' P) : V E d m_RR_type 112 Q 0 [some (.inr 2), some (.inl x), none] [] 112 I P := by
  have hP' := hP
  obtain ⟨hS, b1, b2, b3, b4, b5, b6, b7, b8, hL, hG, hPG⟩ := hP'
  have hP0 : P 2 0 = 3 := hS.1.1
  have v24 : ∀ b : Bool, b = okc x → V E d m_RR_type 112 Q 24 [some (.inr 2), some (.inl x), some (.inl (bI b))] [] 112 I P := by
    intro b hb
    refine x_RR_type_24 _ _ _ (bz_i (fun c => ⟨rfl, h0 (fun cc => by rw [← hb, c] at cc; exact absurd cc.1 (by decide))⟩) (fun c => ⟨k2_, ?_⟩))
    rw [b1]
    refine pk_lt bf.length 60 (fun q => ?_) (fun q => ⟨rfl, h0 (fun cc => by omega)⟩)
    simp only [k2_, hP0, k3_, nzl 3 (by decide), true_and]
    rw [clp (show bf.length < 2 ^ 31 by omega), uI_n (show 2 ≠ 3 by decide), b1, n1]
    refine ⟨vp_in_nI q (by decide), rfl, h1 _ (by rw [← hb]; exact c) q ⟨hS, ?_, ?_, ?_, ?_, ?_, b6, ?_, b8, ?_, hG, ?_⟩ (fun m hm => ?_) ?_⟩
    · rw [uI_s, List.length_append]
      rfl
    · rw [uI_n (by decide)]
      unfold uI
      rw [sI_s]
      have := b2.psh (v := x)
      rw [Nat.zero_add] at this
      exact this
    · rw [List.length_append, List.length_singleton]
      omega
    · rw [uI_o (by decide), uI_n (by decide)]
      exact b4
    · rw [uI_n (by decide), uI_n (by decide)]
      exact b5
    · rw [uI_o (by decide), uI_n (by decide)]
      exact b7
    · exact hL.fr b8 (fun m a b => by rw [uI_n (by omega), uI_n (by omega)])
    · exact hPG.fr hS (fun m a b => by rw [uI_n (by omega), uI_n (by omega)])
    · rw [uI_n (by omega), uI_n (by omega)]
    · rw [uI_o (by decide), uI_n (by decide)]
  refine x_RR_type_0 _ _ ⟨fun c => v24 true ?_, fun c => ⟨fun c2 => v24 false ?_, fun c2 => ⟨fun c3 => v24 false ?_, fun c3 => v24 true ?_⟩⟩⟩
  · rw [eqn (by decide)] at c
    exact (decide_eq_true (Or.inl c)).symm
  · rw [eqn (by decide)] at c
    rw [ltn (by decide)] at c2
    exact (decide_eq_false (by omega)).symm
  · rw [eqn (by decide)] at c
    rw [nlt (by decide)] at c3
    rw [ltn (by decide)] at c2
    exact (decide_eq_false (by omega)).symm
  · rw [nlt (by decide)] at c3
    rw [ltn (by decide)] at c2
    exact (decide_eq_true (Or.inr ⟨by omega, by omega⟩)).symm
end RD
