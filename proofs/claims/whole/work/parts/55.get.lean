/-! The class's plain readers, and clear. -/
section GF
variable {E : XE} {d : Nat} {Q : Int32 → mI → mP → Prop} {P : mP} {rs : List RlT} {tl : List Int32} {mt : Int32} {N : List MIt} {R : Nat} {bf ld : List Int32} {I : mI}
theorem c_clear (hP : CP I P bf ld rs N tl mt R) (h : ∀ I', CP I' P [] ld rs N tl mt R → (∀ m, 3 ≤ m → I' m = I m) → I' 2 7 = I 2 7 → Q (nI 0) I' P) : V E d m_RR_clear 112 Q 0 [some (.inr 2)] [] 112 I P := by
  obtain ⟨hS, b1, b2, b3, b4, b5, b6, b7, b8, hL, hG, hPG⟩ := hP
  refine x_RR_clear_0 _ ⟨k2_, h _ ⟨hS, uI_s, fun j x hx => by simp at hx, by simp, ?_, ?_, b6, ?_, b8, ?_, hG, ?_⟩ (fun m hm => uI_n (by omega)) (uI_o (by decide))⟩
  · rw [uI_o (by decide)]; exact b4
  · rw [uI_n (by decide)]; exact b5
  · rw [uI_o (by decide)]; exact b7
  · exact hL.fr b8 (fun m a b => uI_n (by omega))
  · exact hPG.fr hS (fun m a b => uI_n (by omega))
theorem c_buffered (hP : CP I P bf ld rs N tl mt R) (h : Q (nI bf.length) I P) : V E d m_RR_buffered 112 Q 0 [some (.inr 2)] [] 112 I P :=
  x_RR_buffered_0 _ ⟨k2_, by rw [hP.2.1]; exact h⟩
theorem c_rules (hP : CP I P bf ld rs N tl mt R) (h : Q (nI rs.length) I P) : V E d m_RR_rules 112 Q 0 [some (.inr 2)] [] 112 I P :=
  x_RR_rules_0 _ ⟨k2_, by rw [hP.2.2.2.2.2.2.2.1]; exact h⟩
theorem c_cycles {cy : Int32} (h7 : I 2 7 = cy) (h : Q cy I P) : V E d m_RR_cycles 112 Q 0 [some (.inr 2)] [] 112 I P :=
  x_RR_cycles_0 _ ⟨k2_, by rw [h7]; exact h⟩
theorem c_rewritings (hP : CP I P bf ld rs N tl mt R) (h : Q (nI R) I P) : V E d m_RR_rewritings 112 Q 0 [some (.inr 2)] [] 112 I P := by
  obtain ⟨hS, -, -, -, -, -, -, -, -, -, -, hPG⟩ := hP
  refine x_RR_rewritings_0 _ ?_
  simp only [k2_, hS.1.2.2.2.1, k60, nzl 60 (by decide), true_and]
  rw [hPG.2.2.2.1]
  exact h
theorem c_length (hP : CP I P bf ld rs N tl mt R) (h : Q (nI (fl (N.map un) tl).length) I P) : V E d m_RR_length 112 Q 0 [some (.inr 2)] [] 112 I P := by
  obtain ⟨hS, -, -, -, -, -, -, -, -, -, -, hPG⟩ := hP
  obtain ⟨hT, hoc⟩ := PG.tn hS
  have hc0 : (P 60 0 ≠ 0) = True := by rcases hoc with h | h <;> rw [h] <;> simp
  refine x_RR_length_0 _ ?_
  simp only [k2_, hS.1.2.2.2.1, k60, hc0, hT.1, nzl 60 (by decide), true_and]
  rw [hPG.1.1]
  exact h
theorem c_statements (hP : CP I P bf ld rs N tl mt R) (h : Q (nI (outl (kdi N)).1.length) I P) : V E d m_RR_statements 112 Q 0 [some (.inr 2)] [] 112 I P := by
  obtain ⟨hS, -, -, -, -, -, -, -, -, -, -, hPG⟩ := hP
  have hP4 : P 60 4 = 85 := hS.2.2.2.2.1.2.2.1
  refine x_RR_statements_0 _ ?_
  simp only [k2_, hS.1.2.2.2.1, k60, hP4, k85, nzl 60 (by decide), nzl 85 (by decide), true_and]
  rw [hPG.2.1.1]
  exact h
theorem c_expressions (hP : CP I P bf ld rs N tl mt R) (h : Q (nI (outl (kdi N)).2.length) I P) : V E d m_RR_expressions 112 Q 0 [some (.inr 2)] [] 112 I P := by
  obtain ⟨hS, -, -, -, -, -, -, -, -, -, -, hPG⟩ := hP
  have hP4 : P 60 4 = 85 := hS.2.2.2.2.1.2.2.1
  refine x_RR_expressions_0 _ ?_
  simp only [k2_, hS.1.2.2.2.1, k60, hP4, k85, nzl 60 (by decide), nzl 85 (by decide), true_and]
  rw [hPG.2.2.1.1]
  exact h
end GF
