theorem psn_bd : ∀ (Z : List ItC) (p : Nat), (∀ z ∈ Z, z.2.2 ≠ []) → ∀ q ∈ psn p Z, p ≤ q.2.1 ∧ q.2.1 < q.2.2 ∧ q.2.2 ≤ p + ftl Z
  | [], p, _, q, hq => by simp [psn] at hq
  | (sp, k, w) :: Z, p, hw, q, hq => by
    have hf : ftl ((sp, k, w) :: Z) = sp.length + w.length + ftl Z := by
      unfold ftl
      show (sp ++ (w ++ fl Z [])).length = _
      rw [List.length_append, List.length_append]
      omega
    have hw0 : 0 < w.length := List.length_pos_iff.mpr (hw (sp, k, w) List.mem_cons_self)
    rw [psn_c] at hq
    rcases List.mem_cons.mp hq with rfl | hq
    · dsimp only
      omega
    · have := psn_bd Z (p + sp.length + w.length) (fun z hz => hw z (List.mem_cons_of_mem _ hz)) q hq
      omega
theorem LX_w : ∀ (Z : List ItC) (t : List Int32), LX Z t → ∀ z ∈ Z, z.2.2 ≠ []
  | [], _, _, z, hz => by simp at hz
  | (sp, k, w) :: Z, t, h, z, hz => by
    obtain ⟨-, ⟨c, cs, hw, -⟩, h3⟩ := h
    rcases List.mem_cons.mp hz with rfl | hz
    · rw [hw]
      simp
    · exact LX_w Z t h3 z hz
theorem fl_len (Z : List ItC) (t : List Int32) : (fl Z t).length = ftl Z + t.length := by
  unfold ftl
  induction Z with
  | nil => simp [fl]
  | cons z Z ih =>
    obtain ⟨sp, k, w⟩ := z
    show (sp ++ (w ++ fl Z t)).length = (sp ++ (w ++ fl Z [])).length + t.length
    rw [List.length_append, List.length_append, List.length_append, List.length_append, ih]
    omega
theorem tks_bd (s : List Int32) : ∀ q ∈ tks s, q.2.1 < q.2.2 ∧ q.2.2 ≤ s.length := by
  intro q hq
  obtain ⟨h1, h2⟩ := lxT_ok s
  have := psn_bd (lxT s).1 0 (LX_w _ _ h1) q hq
  have hl := fl_len (lxT s).1 (lxT s).2
  rw [h2] at hl
  omega
theorem oln_len (ks : List Nat) : ∀ (n f t : Nat), f ≤ t → (oln ks n f t).2.length + f ≤ t + n
  | 0, f, t, h => by
    unfold oln
    split <;> simp <;> omega
  | n + 1, f, t, h => by
    rw [oln_s]
    split
    · have := oln_len ks n (t + 1) (t + 1) (Nat.le_refl _)
      have hr : (rsx ks f t).length ≤ t - f := by
        unfold rsx
        split
        · exact scn_len _ _ _ _
        · simp
      simp only [List.length_append]
      omega
    · have := oln_len ks n f (t + 1) (by omega)
      omega
theorem outl_len (ks : List Nat) : (outl ks).2.length ≤ ks.length := by
  have := oln_len ks ks.length 0 0 (Nat.le_refl _)
  unfold outl
  omega
theorem outl_lt (ks : List Nat) : ∀ q ∈ (outl ks).2, q.1 < ks.length ∧ q.2.1 < ks.length := by
  intro q hq
  obtain ⟨i, l, b⟩ := q
  obtain ⟨f', e', -, -, h1, h2, h3, h4, -⟩ := (out_all ks ks.length 0 0 (by omega) (Nat.le_refl _)).2.1 i l b hq
  exact ⟨by show i < _; omega, by show l < _; omega⟩
def cov (A : List (Nat × Nat × Nat)) (n : Nat) (ex : List (Nat × Nat × Nat)) (p : Nat) : Bool := ex.any (fun q => decide (tst A q.1 ≤ p ∧ p < min (ten A q.2.1) n))
theorem mkx_p (A : List (Nat × Nat × Nat)) (n : Nat) (v : Int32) : ∀ (ex : List (Nat × Nat × Nat)) (f : Nat → Int32) (p : Nat), mkx A n v ex f p = if cov A n ex p = true then v else f p
  | [], f, p => rfl
  | q :: ex, f, p => by
    rw [mkx_c, mkx_p A n v ex]
    have hc : cov A n (q :: ex) p = (decide (tst A q.1 ≤ p ∧ p < min (ten A q.2.1) n) || cov A n ex p) := rfl
    rw [hc]
    cases h1 : cov A n ex p with
    | true => simp
    | false =>
      unfold mkf
      by_cases h2 : tst A q.1 ≤ p ∧ p < min (ten A q.2.1) n
      · rw [if_pos h2, decide_eq_true h2]
        simp
      · rw [if_neg h2, decide_eq_false h2]
        simp
/-- the marks of a text that was just loaded -/
def mk0 (s : List Int32) : List Int32 := (List.range s.length).map (fun p => if cov (tks s) s.length (outl (kds s)).2 p = true then nI 0 else -(nI 1))
section LO
variable {E : XE} {d : Nat} {Q : Int32 → mI → mP → Prop} {P : mP}
/-- what changes in the class's memory when the program changes -/
def FrP (o : Nat) (I I' : mI) : Prop := (∀ m, m ≠ 60 → (m < o ∨ o + 5 < m) → (m < 85 ∨ 90 < m) → I' m = I m) ∧ ∀ j, j ≠ 6 → I' 60 j = I 60 j
theorem s_become_P (hS : Sh P) {I : mI} {fr M : Nat} (hM : kk 112 fr = (1, M)) (hM2 : M < 2 ^ 20) (hfr : fr < 60) {s : List Int32} (hs : s.length ≤ 60) (hs2 : s.length ≤ M) (hc : Rc (I fr) 0 s)
    (h : ∀ I', FrP (P 60 0) I I' → TXT I' (P 60 0) s (mk0 s) (tks s) → OS I' (outl (kds s)).1 → OE I' (outl (kds s)).2 → I' 60 6 = nI 0 → Q (nI 0) I' P) : V E (d + 28) m_Program_become 112 Q 0 [some (.inr 60), some (.inr fr), some (.inl (nI s.length)), none] [] 112 I P := by
  obtain ⟨ho, hT⟩ := hS.now
  obtain ⟨-, -, -, -, ⟨-, -, p4, -⟩, hO, -⟩ := hS
  generalize ho0 : P 60 0 = o at ho hT h
  have ho1 : o + 5 < 85 := by omega
  have ho2 : 60 < o := by omega
  have hne : (o ≠ 0) = True := by simp; omega
  have htl := tks_len s
  have hkl : (kds s).length = (tks s).length := by unfold kds; rw [List.length_map]
  refine x_Program_become_0 _ _ _ ?_
  simp only [k60, ho0, hne, true_and, hT.1]
  refine s_become_T (d := d + 23) hT (by decide) hM hM2 (by omega) (by omega) hs2 hc (fun I1 hf1 ht1 => ?_)
  simp only [ho0, p4, k85, hne, nzl 85 (by decide), true_and]
  obtain ⟨a1, a2, a3, a4, a5⟩ := ht1
  refine s_become_O (d := d) (ks := kds s) hO hT ho1 (by decide) (by omega) (by omega) (kds_k10 s) a5.kr (fun I2 hf2 hs2 he2 => ?_)
  have g2 : ∀ m, o ≤ m → m ≤ o + 5 → I2 m = I1 m := fun m h1 h2 => hf2 m (by omega)
  refine l_become_P (d := d + 26) ⟨ho0, p4⟩ hO hT ho1 ho2 (n := s.length) (by omega) (A := tks s) (by omega) (fun q hq => by have := tks_bd s q hq; omega) (by have := outl_len (kds s); omega) (fun q hq => by have := outl_lt (kds s) q hq; omega) (outl (kds s)).2.length 0 I2 (by omega) (by omega) (by rw [g2 o (by omega) (by omega)]; exact a1) ?_ he2 ?_
  · refine ⟨by rw [g2 o (by omega) (by omega)]; exact a5.1, fun t k' a' b' ht => ?_⟩
    rw [g2 (o + 3) (by omega) (by omega), g2 (o + 4) (by omega) (by omega), g2 (o + 5) (by omega) (by omega)]
    exact a5.2 t k' a' b' ht
  · rw [List.drop_zero]
    generalize hI3 : uI (sI I2 (o + 2) (mkx (tks s) s.length (nI 0) (outl (kds s)).2 (I2 (o + 2)))) 60 6 (nI 0) = I3
    have f3 : ∀ m, m ≠ 60 → m ≠ o + 2 → I3 m = I2 m := fun m h1 h2 => by rw [← hI3, uI_n h1, sI_n h2]
    refine h I3 ⟨fun m h1 h2 h3 => ?_, fun j hj => ?_⟩ ⟨?_, ?_, ?_, ?_, ?_⟩ ?_ ?_ ?_
    · rw [f3 m h1 (by omega), hf2 m (by omega), hf1 m (by omega)]
    · rw [← hI3, uI_o hj, sI_n (by omega), hf2 60 (by omega), hf1 60 (by omega)]
    · rw [f3 o (by omega) (by omega), g2 o (by omega) (by omega)]
      exact a1
    · rw [f3 (o + 1) (by omega) (by omega), g2 (o + 1) (by omega) (by omega)]
      exact a2
    · unfold mk0
      simp
    · intro p x hx
      have hp : p < s.length := by
        have := (List.getElem?_eq_some_iff.mp hx).1
        unfold mk0 at this
        simpa using this
      unfold mk0 at hx
      rw [List.getElem?_map, List.getElem?_range hp] at hx
      injection hx with hx
      rw [Nat.zero_add, ← hI3, uI_n (by omega), sI_s, mkx_p, ← hx, g2 (o + 2) (by omega) (by omega)]
      have := a4 p (-(nI 1)) (by rw [List.getElem?_replicate, if_pos hp])
      rw [Nat.zero_add] at this
      rw [this]
    · refine ⟨by rw [f3 o (by omega) (by omega), g2 o (by omega) (by omega)]; exact a5.1, fun t k' a' b' ht => ?_⟩
      rw [f3 (o + 3) (by omega) (by omega), f3 (o + 4) (by omega) (by omega), f3 (o + 5) (by omega) (by omega), g2 (o + 3) (by omega) (by omega), g2 (o + 4) (by omega) (by omega), g2 (o + 5) (by omega) (by omega)]
      exact a5.2 t k' a' b' ht
    · exact ⟨by rw [f3 85 (by decide) (by omega)]; exact hs2.1, fun k x hx => by rw [f3 86 (by decide) (by omega)]; exact hs2.2 k x hx⟩
    · refine ⟨by rw [f3 85 (by decide) (by omega)]; exact he2.1, fun k a b c hx => ?_⟩
      rw [f3 87 (by decide) (by omega), f3 88 (by decide) (by omega), f3 89 (by decide) (by omega)]
      exact he2.2 k a b c hx
    · rw [← hI3, uI_s]
end LO
