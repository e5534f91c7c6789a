/-! What the reference's cells hold, and its plain methods. -/
def MC (I : mI) (bf ld s mk : List Int32) (rl : List (List Int32)) (R : Nat) (cy : Int32) : Prop :=
  (I 95 4 = nI bf.length ∧ Rc (I 96) 192 bf ∧ bf.length ≤ 60) ∧ (I 95 3 = nI ld.length ∧ Rc (I 96) 128 ld ∧ ld.length ≤ 60) ∧ (I 95 2 = nI s.length ∧ Rc (I 96) 0 s ∧ s.length ≤ 120) ∧ (Rc (I 97) 0 mk ∧ mk.length = s.length) ∧ (I 95 5 = nI rl.length ∧ rl.length ≤ 6 ∧ ∀ r x, rl[r]? = some x → I 98 r = nI x.length ∧ Rc (I 96) (256 + 64 * r) x ∧ x.length ≤ 60) ∧ I 95 7 = nI R ∧ I 95 8 = cy
section MG
variable {E : XE} {d : Nat} {Q : Int32 → mI → mP → Prop} {P : mP} {bf ld s mk : List Int32} {rl : List (List Int32)} {R : Nat} {cy : Int32} {I : mI}
/-- the reference keeps what lies in these places -/
theorem MC.fr {I' : mI} (h : MC I bf ld s mk rl R cy) (h95 : ∀ j, j < 9 → I' 95 j = I 95 j) (hf : ∀ m, 96 ≤ m → m ≤ 98 → I' m = I m) : MC I' bf ld s mk rl R cy := by
  obtain ⟨⟨a1, a2, a3⟩, ⟨b1, b2, b3⟩, ⟨c1, c2, c3⟩, ⟨d1, d2⟩, ⟨e1, e2, e3⟩, f1, g1⟩ := h
  have e96 := hf 96 (by omega) (by omega)
  have e97 := hf 97 (by omega) (by omega)
  have e98 := hf 98 (by omega) (by omega)
  refine ⟨⟨by rw [h95 4 (by omega)]; exact a1, by rw [e96]; exact a2, a3⟩, ⟨by rw [h95 3 (by omega)]; exact b1, by rw [e96]; exact b2, b3⟩, ⟨by rw [h95 2 (by omega)]; exact c1, by rw [e96]; exact c2, c3⟩, ⟨by rw [e97]; exact d1, d2⟩, ⟨by rw [h95 5 (by omega)]; exact e1, e2, fun r x hx => ?_⟩, by rw [h95 7 (by omega)]; exact f1, by rw [h95 8 (by omega)]; exact g1⟩
  rw [e96, e98]
  exact e3 r x hx
theorem m_length (h : MC I bf ld s mk rl R cy) (hq : Q (nI s.length) I P) : V E d m_Model_length 112 Q 0 [some (.inr 95)] [] 112 I P := x_Model_length_0 _ ⟨k95, by rw [h.2.2.1.1]; exact hq⟩
theorem m_buffered (h : MC I bf ld s mk rl R cy) (hq : Q (nI bf.length) I P) : V E d m_Model_buffered 112 Q 0 [some (.inr 95)] [] 112 I P := x_Model_buffered_0 _ ⟨k95, by rw [h.1.1]; exact hq⟩
theorem m_rules (h : MC I bf ld s mk rl R cy) (hq : Q (nI rl.length) I P) : V E d m_Model_rules 112 Q 0 [some (.inr 95)] [] 112 I P := x_Model_rules_0 _ ⟨k95, by rw [h.2.2.2.2.1.1]; exact hq⟩
theorem m_rewritings (h : MC I bf ld s mk rl R cy) (hq : Q (nI R) I P) : V E d m_Model_rewritings 112 Q 0 [some (.inr 95)] [] 112 I P := x_Model_rewritings_0 _ ⟨k95, by rw [h.2.2.2.2.2.1]; exact hq⟩
theorem m_cycles (h : MC I bf ld s mk rl R cy) (hq : Q cy I P) : V E d m_Model_cycles 112 Q 0 [some (.inr 95)] [] 112 I P := x_Model_cycles_0 _ ⟨k95, by rw [h.2.2.2.2.2.2]; exact hq⟩
theorem m_at (hM : MO P) (h : MC I bf ld s mk rl R cy) {x : Int32} (hq : Q (gat s x) I P) : V E d m_Model_at 112 Q 0 [some (.inr 95), some (.inl x)] [] 112 I P := by
  obtain ⟨-, -, ⟨c1, c2, c3⟩, -⟩ := h
  refine x_Model_at_0 _ _ ?_
  simp only [k95, hM.1, k96, nzl 96 (by decide), true_and]
  rw [c1]
  refine idx (Q' := fun v => Q v I P) (B := fun x => vp_in x 640 ∧ Q (I 96 x.toNatClampNeg) I P) (by omega) hq (fun i v e ex hv => ?_)
  subst ex
  have hi := (List.getElem?_eq_some_iff.mp e).1
  rw [clp (show i < 2 ^ 31 by omega), c2.at0 e]
  exact ⟨vp_in_nI (by omega) (by decide), hv⟩
theorem m_clear (h : MC I bf ld s mk rl R cy) (hq : ∀ I', MC I' [] ld s mk rl R cy → (∀ m, m ≠ 95 → I' m = I m) → Q (nI 0) I' P) : V E d m_Model_clear 112 Q 0 [some (.inr 95)] [] 112 I P := by
  refine x_Model_clear_0 _ ⟨k95, hq _ ?_ (fun m hm => uI_n hm)⟩
  obtain ⟨⟨a1, a2, a3⟩, ⟨b1, b2, b3⟩, ⟨c1, c2, c3⟩, ⟨d1, d2⟩, ⟨e1, e2, e3⟩, f1, g1⟩ := h
  refine ⟨⟨uI_s, fun j x hx => by simp at hx, by simp⟩, ⟨by rw [uI_o (by decide)]; exact b1, by rw [uI_n (by decide)]; exact b2, b3⟩, ⟨by rw [uI_o (by decide)]; exact c1, by rw [uI_n (by decide)]; exact c2, c3⟩, ⟨by rw [uI_n (by decide)]; exact d1, d2⟩, ⟨by rw [uI_o (by decide)]; exact e1, e2, fun r x hx => ?_⟩, by rw [uI_o (by decide)]; exact f1, by rw [uI_o (by decide)]; exact g1⟩
  rw [uI_n (by decide), uI_n (by decide)]
  exact e3 r x hx
/-- text elsewhere stays when one place changes -/
theorem Rc.upo {f : Nat → Int32} {o p : Nat} {l : List Int32} {v : Int32} (h : Rc f o l) (hp : p < o ∨ o + l.length ≤ p) : Rc (upd f p v) o l := by
  intro j x hx
  have hj := (List.getElem?_eq_some_iff.mp hx).1
  unfold upd
  rw [if_neg (by omega)]
  exact h j x hx
theorem m_type (hM : MO P) (h : MC I bf ld s mk rl R cy) {x : Int32} (h0 : ¬ (okc x = true ∧ bf.length < 60) → Q (nI 0) I P) (h1 : ∀ I', okc x = true → bf.length < 60 → MC I' (bf ++ [x]) ld s mk rl R cy → (∀ m, m ≠ 95 → m ≠ 96 → I' m = I m) → Q (nI 1) I' P) : V E d m_Model_type 112 Q 0 [some (.inr 95), some (.inl x)] [] 112 I P := by
  obtain ⟨⟨a1, a2, a3⟩, ⟨b1, b2, b3⟩, ⟨c1, c2, c3⟩, ⟨d1, d2⟩, ⟨e1, e2, e3⟩, f1, g1⟩ := h
  have put : okc x = true → bf.length < 60 → vp_in (nI (192 + bf.length)) 640 ∧ zb (nI 1) ∧ Q (nI 1) (uI (uI I 96 (192 + bf.length) x) 95 4 (nI (bf.length + 1))) P := by
    intro ok q
    refine ⟨vp_in_nI (by omega) (by decide), rfl, h1 _ ok q ?_ (fun m n1 n2 => by rw [uI_n n1, uI_n n2])⟩
    have e96 : uI (uI I 96 (192 + bf.length) x) 95 4 (nI (bf.length + 1)) 96 = upd (I 96) (192 + bf.length) x := by
      rw [uI_n (by decide)]
      unfold uI
      rw [sI_s]
    refine ⟨⟨by rw [uI_s, List.length_append]; rfl, by rw [e96]; exact a2.psh, by rw [List.length_append, List.length_singleton]; omega⟩, ⟨by rw [uI_o (by decide), uI_n (by decide)]; exact b1, by rw [e96]; exact b2.upo (by omega), b3⟩, ⟨by rw [uI_o (by decide), uI_n (by decide)]; exact c1, by rw [e96]; exact c2.upo (by omega), c3⟩, ⟨by rw [uI_n (by decide), uI_n (by decide)]; exact d1, d2⟩, ⟨by rw [uI_o (by decide), uI_n (by decide)]; exact e1, e2, fun r y hy => ?_⟩, by rw [uI_o (by decide), uI_n (by decide)]; exact f1, by rw [uI_o (by decide), uI_n (by decide)]; exact g1⟩
    obtain ⟨q1, q2, q3⟩ := e3 r y hy
    rw [e96, uI_n (by decide), uI_n (by decide)]
    exact ⟨q1, q2.upo (by omega), q3⟩
  refine x_Model_type_0 _ _ ?_
  simp only [k95, hM.1, k96, nzl 96 (by decide), true_and]
  rw [uI_n (show 95 ≠ 96 by decide), a1, nI_add, clp (show 192 + bf.length < 2 ^ 31 by omega), n1]
  refine ⟨fun c => ?_, fun c => ⟨fun c2 => ⟨rfl, h0 (fun cc => ?_)⟩, fun c2 => ⟨fun c3 => ⟨rfl, h0 (fun cc => ?_)⟩, fun c3 => ?_⟩⟩⟩
  · rw [eqn (by decide)] at c
    exact pk_lt bf.length 60 (fun q => put (decide_eq_true (Or.inl c)) q) (fun q => ⟨rfl, h0 (fun cc => by omega)⟩)
  · rw [eqn (by decide)] at c
    rw [ltn (by decide)] at c2
    have := of_decide_eq_true cc.1
    omega
  · rw [eqn (by decide)] at c
    rw [nlt (by decide)] at c3
    rw [ltn (by decide)] at c2
    have := of_decide_eq_true cc.1
    omega
  · rw [nlt (by decide)] at c3
    rw [ltn (by decide)] at c2
    exact pk_lt bf.length 60 (fun q => put (decide_eq_true (Or.inr ⟨by omega, by omega⟩)) q) (fun q => ⟨rfl, h0 (fun cc => by omega)⟩)
end MG
