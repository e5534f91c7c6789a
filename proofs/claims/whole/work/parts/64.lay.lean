/-! Model.put, layOut. -/
def FS (I : mI) (F M : List Int32) : Prop := I 95 22 = nI (min F.length 121) ∧ Rc (I 107) 0 (F.take 121) ∧ Rc (I 108) 0 (M.take 121) ∧ M.length = F.length
def FrF (I I' : mI) : Prop := (∀ m, m ≠ 95 → m ≠ 107 → m ≠ 108 → I' m = I m) ∧ ∀ j, j ≠ 22 → I' 95 j = I 95 j
theorem FrF.rf {I : mI} : FrF I I := ⟨fun _ _ _ _ => rfl, fun _ _ => rfl⟩
theorem FrF.tr {I I' I'' : mI} (h : FrF I I') (h' : FrF I' I'') : FrF I I'' := ⟨fun m a b c => (h'.1 m a b c).trans (h.1 m a b c), fun j hj => (h'.2 j hj).trans (h.2 j hj)⟩
theorem FrF.rd {I I' : mI} {s : List Int32} (hf : FrF I I') (hR : RDs I s) : RDs I' s := by
  obtain ⟨a, b, c, e⟩ := hR
  have f : ∀ m, 99 ≤ m → m ≤ 105 → I' m = I m := fun m x y => hf.1 m (by omega) (by omega) (by omega)
  refine ⟨by rw [hf.2 16 (by decide)]; exact a, fun t k p q ht => ?_, fun t ht => ?_, ?_⟩
  · rw [f 99 (by decide) (by decide), f 100 (by decide) (by decide), f 101 (by decide) (by decide)]
    exact b t k p q ht
  · exact (c t ht).kept (by rw [f 102 (by decide) (by decide)]) (by rw [f 103 (by decide) (by decide)])
  · refine ⟨by rw [hf.2 17 (by decide)]; exact e.1, fun j f' e' g hj k h1 h2 => ?_⟩
    rw [f 104 (by decide) (by decide), f 105 (by decide) (by decide)]
    exact e.2 j f' e' g hj k h1 h2
theorem FrF.rr {I I' : mI} {off : Nat} {x : List Int32} (hf : FrF I I') (h : RdR I off x) : RdR I' off x :=
  h.fr (hf.2 18 (by decide)) (fun m j a b _ => by rw [hf.1 m (by omega) (by omega) (by omega)]) (fun j _ => by rw [hf.1 96 (by decide) (by decide) (by decide)])
theorem FrF.mc {I I' : mI} {bf ld s mk : List Int32} {rl : List (List Int32)} {R : Nat} {cy : Int32} (hf : FrF I I') (h : MC I bf ld s mk rl R cy) : MC I' bf ld s mk rl R cy := h.fr (fun j hj => hf.2 j (by omega)) (fun m a b => hf.1 m (by omega) (by omega) (by omega))
theorem sub_c {x : List Int32} {p b : Nat} (h : p < b) (hb : b ≤ x.length) : ∃ v, x[p]? = some v ∧ sub x p b = v :: sub x (p + 1) b := by
  have hp : p < x.length := by omega
  refine ⟨x[p], List.getElem?_eq_getElem hp, ?_⟩
  unfold sub
  rw [List.drop_eq_getElem_cons hp, show b - p = b - (p + 1) + 1 by omega, List.take_succ_cons]
theorem rep_c {n : Nat} {v : Int32} (h : 0 < n) : List.replicate n v = v :: List.replicate (n - 1) v := by
  cases n with
  | zero => omega
  | succ n => rfl
section LO
variable {E : XE} {d : Nat} {Q : Int32 → mI → mP → Prop} {P : mP}
theorem m_put (hM : MO P) {I : mI} {F M : List Int32} {c m : Int32} (hF : FS I F M) (h : ∀ I', FrF I I' → FS I' (F ++ [c]) (M ++ [m]) → Q (nI 0) I' P) : V E d m_Model_put 112 Q 0 [some (.inr 95), some (.inl c), some (.inl m)] [] 112 I P := by
  obtain ⟨a1, a2, a3, a4⟩ := hF
  obtain ⟨p0, p1, -, p9, p10, p11, p12, p13, p14, p15, p19, p20, p21, -⟩ := hM
  refine x_Model_put_0 _ _ _ ?_
  simp only [k95, p20, p21, k107, k108, nzl 107 (by decide), nzl 108 (by decide), true_and]
  rw [uI_n (show 95 ≠ 107 by decide), uI_n (show 95 ≠ 108 by decide), uI_n (show 95 ≠ 107 by decide), a1, clp (show min F.length 121 < 2 ^ 31 by omega), n1]
  refine pk_lt 120 (min F.length 121) (fun c1 => h I FrF.rf ⟨?_, ?_, ?_, ?_⟩) (fun c1 => ⟨vp_in_nI (by omega) (by decide), vp_in_nI (by omega) (by decide), h _ ⟨fun m' h1 h2 h3 => ?_, fun j hj => ?_⟩ ⟨?_, ?_, ?_, ?_⟩⟩)
  · rw [a1, List.length_append, List.length_singleton]
    congr 1
    omega
  · rw [List.take_append_of_le_length (by omega)]
    exact a2
  · rw [List.take_append_of_le_length (by omega)]
    exact a3
  · rw [List.length_append, List.length_append, a4]
    rfl
  · rw [uI_n h1, uI_n h3, uI_n h2]
  · rw [uI_o hj, uI_n (by decide), uI_n (by decide)]
  · rw [uI_s, List.length_append, List.length_singleton]
    congr 1
    omega
  · rw [uI_n (by decide), uI_n (by decide)]
    have e1 : (F ++ [c]).take 121 = F ++ [c] := List.take_of_length_le (by rw [List.length_append, List.length_singleton]; omega)
    have e2 : F.take 121 = F := List.take_of_length_le (by omega)
    have e3 : min F.length 121 = F.length := by omega
    rw [e1, e3]
    rw [e2] at a2
    unfold uI
    rw [sI_s]
    have := a2.psh (v := c)
    rw [Nat.zero_add] at this
    exact this
  · rw [uI_n (by decide)]
    have e1 : (M ++ [m]).take 121 = M ++ [m] := List.take_of_length_le (by rw [List.length_append, List.length_singleton]; omega)
    have e2 : M.take 121 = M := List.take_of_length_le (by omega)
    have e3 : min F.length 121 = M.length := by omega
    rw [e1, e3]
    rw [e2] at a3
    unfold uI
    rw [sI_s]
    have : (sI I 107 (upd (I 107) M.length c)) 108 = I 108 := sI_n (by decide)
    rw [this]
    have := a3.psh (v := m)
    rw [Nat.zero_add] at this
    exact this
  · rw [List.length_append, List.length_append, a4]
    rfl
variable {off : Nat} {x : List Int32} {num : Int32} {fr k : Nat}
theorem l_lay58 (hM : MO P) (ho : off + x.length ≤ 640) (hk : k < 192) {b : Nat} (hb : b ≤ x.length) : ∀ (n p : Nat) (F M : List Int32) (I : mI), p + n = b → Rc (I 96) off x → I 100 k = nI (off + b) → FS I F M → (∀ I', FrF I I' → FS I' (F ++ sub x p b) (M ++ List.replicate (b - p) num) → V E (d + 1) m_Model_layOut 112 Q 58 [some (.inr 95), some (.inl num), some (.inl (nI fr)), some (.inl (nI k)), some (.inl (nI (off + b))), none] [] 112 I' P) → V E (d + 1) m_Model_layOut 112 Q 58 [some (.inr 95), some (.inl num), some (.inl (nI fr)), some (.inl (nI k)), some (.inl (nI (off + p))), none] [] 112 I P := by
  have hM' := hM
  obtain ⟨p0, p1, -, p9, p10, -⟩ := hM'
  intro n
  induction n with
  | zero =>
    intro p F M I hp hc h1 hF h
    have : p = b := by omega
    subst this
    have := h I FrF.rf (by rw [sub_nil (Nat.le_refl _), Nat.sub_self, List.replicate_zero, List.append_nil, List.append_nil]; exact hF)
    exact this
  | succ n ih =>
    intro p F M I hp hc h1 hF h
    obtain ⟨v, hv, es⟩ := sub_c (x := x) (p := p) (b := b) (by omega) hb
    refine x_Model_layOut_58 _ _ _ _ _ ?_
    simp only [k95, p0, p10, k96, k100, nzl 96 (by decide), nzl 100 (by decide), true_and]
    rw [clp (show k < 2 ^ 31 by omega), h1, clp (show off + p < 2 ^ 31 by omega), hc p v hv, n1 (off + p)]
    refine ⟨vp_in_nI (by omega) (by decide), pk_le (off + b) (off + p) (fun c => by omega) (fun _ => ⟨vp_in_nI (by omega) (by decide), m_put hM hF (fun I1 f1 hF1 => ?_)⟩)⟩
    rw [show off + p + 1 = off + (p + 1) by omega]
    refine ih (p + 1) _ _ I1 (by omega) (by rw [f1.1 96 (by decide) (by decide) (by decide)]; exact hc) (by rw [f1.1 100 (by decide) (by decide) (by decide)]; exact h1) hF1 (fun I' f' hF' => h I' (f1.tr f') ?_)
    rw [es, rep_c (by omega : 0 < b - p), show b - p - 1 = b - (p + 1) by omega]
    rw [List.append_assoc, List.append_assoc] at hF'
    exact hF'
theorem l_lay175 (hM : MO P) (ho : off + x.length ≤ 640) (hk : k < 192) {b : Nat} (hb : b ≤ x.length) : ∀ (n p : Nat) (F M : List Int32) (I : mI), p + n = b → Rc (I 96) off x → I 101 k = nI (off + b) → FS I F M → (∀ I', FrF I I' → FS I' (F ++ sub x p b) (M ++ List.replicate (b - p) num) → V E (d + 1) m_Model_layOut 112 Q 22 [some (.inr 95), some (.inl num), some (.inl (nI fr)), some (.inl (nI (k + 1))), none, none] [] 112 I' P) → V E (d + 1) m_Model_layOut 112 Q 175 [some (.inr 95), some (.inl num), some (.inl (nI fr)), some (.inl (nI k)), some (.inl (nI (off + p))), none] [] 112 I P := by
  have hM' := hM
  obtain ⟨p0, p1, -, p9, p10, p11, -⟩ := hM'
  intro n
  induction n with
  | zero =>
    intro p F M I hp hc h1 hF h
    have : p = b := by omega
    subst this
    have h := h I FrF.rf (by rw [sub_nil (Nat.le_refl _), Nat.sub_self, List.replicate_zero, List.append_nil, List.append_nil]; exact hF)
    refine x_Model_layOut_175 _ _ _ _ _ ?_
    simp only [k95, p11, k101, nzl 101 (by decide), true_and]
    rw [clp (show k < 2 ^ 31 by omega), h1, n1]
    exact ⟨vp_in_nI (by omega) (by decide), pk_le (off + p) (off + p) (fun _ => h) (fun c => by omega)⟩
  | succ n ih =>
    intro p F M I hp hc h1 hF h
    obtain ⟨v, hv, es⟩ := sub_c (x := x) (p := p) (b := b) (by omega) hb
    refine x_Model_layOut_175 _ _ _ _ _ ?_
    simp only [k95, p0, p11, k96, k101, nzl 96 (by decide), nzl 101 (by decide), true_and]
    rw [clp (show k < 2 ^ 31 by omega), h1, clp (show off + p < 2 ^ 31 by omega), hc p v hv, n1, n1]
    refine ⟨vp_in_nI (by omega) (by decide), pk_le (off + b) (off + p) (fun c => by omega) (fun _ => ⟨vp_in_nI (by omega) (by decide), m_put hM hF (fun I1 f1 hF1 => ?_)⟩)⟩
    rw [show off + p + 1 = off + (p + 1) by omega]
    refine ih (p + 1) _ _ I1 (by omega) (by rw [f1.1 96 (by decide) (by decide) (by decide)]; exact hc) (by rw [f1.1 101 (by decide) (by decide) (by decide)]; exact h1) hF1 (fun I' f' hF' => h I' (f1.tr f') ?_)
    rw [es, rep_c (by omega : 0 < b - p), show b - p - 1 = b - (p + 1) by omega]
    rw [List.append_assoc, List.append_assoc] at hF'
    exact hF'
variable {s mk : List Int32}
theorem l_lay129 (hM : MO P) (hs : s.length ≤ 120) (hmk : mk.length = s.length) (hk : k < 192) {i l b : Nat} (he : (i, l, b) ∈ (outl (kds s)).2) : ∀ (n p : Nat) (F M : List Int32) (I : mI), p + n = ten (tks s) l → RDs I s → Rc (I 96) 0 s → Rc (I 97) 0 mk → FS I F M → (∀ I', FrF I I' → FS I' (F ++ sub s p (ten (tks s) l)) (M ++ sub mk p (ten (tks s) l)) → V E (d + 1) m_Model_layOut 112 Q 22 [some (.inr 95), some (.inl num), some (.inl (nI fr)), some (.inl (nI (k + 1))), none, none] [] 112 I' P) → V E (d + 1) m_Model_layOut 112 Q 129 [some (.inr 95), some (.inl num), some (.inl (nI fr)), some (.inl (nI k)), some (.inl (nI i)), some (.inl (nI p))] [] 112 I P := by
  have hM' := hM
  obtain ⟨p0, p1, -, p9, p10, p11, -⟩ := hM'
  obtain ⟨g1, g2, g3, g4, g5⟩ := ent_i hs he
  have hb := (tst_bd g2).2
  intro n
  induction n with
  | zero =>
    intro p F M I hp hR hc hm hF h
    have : p = ten (tks s) l := by omega
    subst this
    have h := h I FrF.rf (by rw [sub_nil (Nat.le_refl _), sub_nil (Nat.le_refl _), List.append_nil, List.append_nil]; exact hF)
    refine x_Model_layOut_129 _ _ _ _ _ _ ⟨k95, m_spanEnd hM hs hR he ?_⟩
    rw [n1]
    exact pk_le (ten (tks s) l) (ten (tks s) l) (fun _ => h) (fun c => by omega)
  | succ n ih =>
    intro p F M I hp hR hc hm hF h
    obtain ⟨v, hv, es⟩ := sub_c (x := s) (p := p) (b := ten (tks s) l) (by omega) hb
    obtain ⟨v', hv', es'⟩ := sub_c (x := mk) (p := p) (b := ten (tks s) l) (by omega) (by omega)
    refine x_Model_layOut_129 _ _ _ _ _ _ ⟨k95, m_spanEnd hM hs hR he ?_⟩
    simp only [k95, p0, p1, k96, k97, nzl 96 (by decide), nzl 97 (by decide), true_and]
    rw [clp (show p < 2 ^ 31 by omega), hc.at0 hv, hm.at0 hv', n1, n1]
    refine pk_le (ten (tks s) l) p (fun c => by omega) (fun _ => ⟨vp_in_nI (by omega) (by decide), vp_in_nI (by omega) (by decide), m_put hM hF (fun I1 f1 hF1 => ?_)⟩)
    refine ih (p + 1) _ _ I1 (by omega) (f1.rd hR) (by rw [f1.1 96 (by decide) (by decide) (by decide)]; exact hc) (by rw [f1.1 97 (by decide) (by decide) (by decide)]; exact hm) hF1 (fun I' f' hF' => h I' (f1.tr f') ?_)
    rw [es, es']
    rw [List.append_assoc, List.append_assoc] at hF'
    exact hF'
end LO
