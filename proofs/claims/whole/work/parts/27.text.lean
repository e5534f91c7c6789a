/-! Texts become. -/
def mkf (f : Nat → Int32) (a b : Nat) (v : Int32) : Nat → Int32 := fun p => if a ≤ p ∧ p < b then v else f p
def TXT (I : mI) (o : Nat) (s mk : List Int32) (A : List (Nat × Nat × Nat)) : Prop := I o 5 = nI s.length ∧ Rc (I (o + 1)) 0 s ∧ mk.length = s.length ∧ Rc (I (o + 2)) 0 mk ∧ TR I o A
def FrK (o : Nat) (I I' : mI) : Prop := ∀ m, m < o ∨ o + 5 < m → I' m = I m
theorem TR.kr {I : mI} {o : Nat} {A : List (Nat × Nat × Nat)} (h : TR I o A) : KR I o (A.map Prod.fst) := by
  refine ⟨by rw [List.length_map]; exact h.1, fun t k hk => ?_⟩
  rw [List.getElem?_map] at hk
  cases hq : A[t]? with
  | none => rw [hq] at hk; cases hk
  | some q =>
    obtain ⟨k', a, b⟩ := q
    rw [hq] at hk
    cases hk
    exact (h.2 t k' a b hq).1
theorem sI_id {I : mI} {a : Nat} : sI I a (I a) = I := by
  funext m
  by_cases h : m = a
  · rw [h, sI_s]
  · rw [sI_n h]
theorem mkf_id {f : Nat → Int32} {a b : Nat} {v : Int32} (h : b ≤ a) : mkf f a b v = f := by
  funext p
  unfold mkf
  rw [if_neg (by omega)]
theorem mkf_step {I : mI} {o p b : Nat} {v : Int32} (h : p < b) : sI (uI I o p v) o (mkf (uI I o p v o) (p + 1) b v) = sI I o (mkf (I o) p b v) := by
  funext m
  by_cases hm : m = o
  · subst hm
    rw [sI_s, sI_s]
    funext j
    unfold mkf
    by_cases hj : j = p
    · subst hj
      rw [if_neg (by omega), if_pos (by omega), uI_s]
    · by_cases h2 : p + 1 ≤ j ∧ j < b
      · rw [if_pos h2, if_pos (by omega)]
      · rw [if_neg h2, if_neg (by omega), uI_o hj]
  · rw [sI_n hm, sI_n hm, uI_n hm]
section TB
variable {E : XE} {d : Nat} {Q : Int32 → mI → mP → Prop} {P : mP} {o N : Nat}
theorem l_markSpan (hT : TO P o N) (hN : N < 2 ^ 20) {n e : Nat} {v : Int32} (hn : n ≤ N) (he : e < 2 ^ 31) : ∀ (m p : Nat) (I : mI), n - p ≤ m → p < 2 ^ 31 → I o 5 = nI n → Q (nI 0) (sI I (o + 2) (mkf (I (o + 2)) p (min e n) v)) P → V E (d + 1) m_Text_markSpan 112 Q 7 [some (.inr o), none, some (.inl (nI e)), some (.inl v), some (.inl (nI p))] [] 112 I P := by
  obtain ⟨t0, -, ⟨p1, k1⟩, -⟩ := hT
  intro m
  induction m with
  | zero =>
    intro p I hm hp h5 h
    rw [mkf_id (by omega), sI_id] at h
    refine x_Text_markSpan_7 _ _ _ _ (pk_le e p (fun _ => h) (fun g => ⟨t0, ?_⟩))
    rw [h5]
    exact pk_le n p (fun _ => h) (fun g2 => by omega)
  | succ m ih =>
    intro p I hm hp h5 h
    refine x_Text_markSpan_7 _ _ _ _ (pk_le e p (fun g => ?_) (fun g => ⟨t0, ?_⟩))
    · rw [mkf_id (by omega), sI_id] at h
      exact h
    · rw [h5]
      refine pk_le n p (fun g2 => ?_) (fun g2 => ?_)
      · rw [mkf_id (by omega), sI_id] at h
        exact h
      · simp only [t0, p1, k1, nzz 2 (by decide), true_and]
        refine ⟨vp_in_nI (by omega) (by omega), ?_⟩
        rw [clp (by omega), n1]
        refine ih (p + 1) _ (by omega) (by omega) (by rw [uI_n (by omega)]; exact h5) ?_
        rw [mkf_step (by omega)]
        exact h
theorem s_markSpan (hT : TO P o N) (hN : N < 2 ^ 20) {n a e : Nat} {v : Int32} {I : mI} (hn : n ≤ N) (ha : a < 2 ^ 31) (he : e < 2 ^ 31) (h5 : I o 5 = nI n) (h : Q (nI 0) (sI I (o + 2) (mkf (I (o + 2)) a (min e n) v)) P) : V E (d + 1) m_Text_markSpan 112 Q 0 [some (.inr o), some (.inl (nI a)), some (.inl (nI e)), some (.inl v), none] [] 112 I P := by
  refine x_Text_markSpan_0 _ _ _ _ ?_
  rw [mxx (by omega) ha, Nat.max_eq_right (Nat.zero_le _)]
  exact l_markSpan hT hN hn he n a I (by omega) ha h5 h
theorem s_empty (hT : TO P o N) {I : mI} (h : Q (nI 0) (uI (uI I o 5 (nI 0)) o 6 (nI 0)) P) : V E d m_Text_empty 112 Q 0 [some (.inr o)] [] 112 I P := x_Text_empty_0 _ ⟨hT.1, hT.1, h⟩
theorem mnn {a b : Nat} (ha : a < 2 ^ 31) (hb : b < 2 ^ 31) : (if nI b < nI a then nI b else nI a) = nI (min a b) := by
  by_cases h : nI b < nI a
  · rw [if_pos h]
    rw [nI_ltI hb ha] at h
    rw [Nat.min_eq_right (by omega)]
  · rw [if_neg h]
    rw [nI_ltI hb ha] at h
    rw [Nat.min_eq_left (by omega)]
theorem s_become_T (hT : TO P o N) (hN : N < 2 ^ 20) {I : mI} {fr M : Nat} (hM : kk 112 fr = (1, M)) (hM2 : M < 2 ^ 20) (hfo : fr < o ∨ o + 5 < fr) {s : List Int32} (hs : s.length ≤ N) (hs2 : s.length ≤ M) (hc : Rc (I fr) 0 s) (h : ∀ I', FrK o I I' → TXT I' o s (List.replicate s.length (-(nI 1))) (tks s) → Q (nI 0) I' P) : V E (d + 4) m_Text_become 112 Q 0 [some (.inr o), some (.inr fr), some (.inl (nI s.length))] [] 112 I P := by
  have hT' := hT
  obtain ⟨t0, ⟨p0, k0⟩, ⟨p1, k1⟩, -⟩ := hT'
  refine x_Text_become_0 _ _ _ ⟨t0, s_empty hT ?_⟩
  simp only [t0, p0, k0, hM, nzz 1 (by decide), true_and]
  refine ⟨by decide, by decide, by decide, by decide, ?_⟩
  rw [mnn (by omega) (by omega), mnn (by omega) (by omega), mxx (by omega) (by omega)]
  have e1 : max 0 (min s.length (min M N)) = s.length := by omega
  rw [e1]
  generalize hI1 : uI (uI (uI I o 5 (nI 0)) o 6 (nI 0)) o 5 (nI s.length) = I1
  have f1 : ∀ m, m ≠ o → I1 m = I m := fun m hm => by rw [← hI1, uI_n hm, uI_n hm, uI_n hm]
  have h5 : I1 o 5 = nI s.length := by rw [← hI1, uI_s]
  have h6 : I1 o 6 = nI 0 := by rw [← hI1, uI_o (by decide), uI_s]
  refine x_Text_become_26 _ _ ?_
  simp only [t0, p0, k0, hM, nzz 1 (by decide), true_and, h5]
  rw [clp (show 0 < 2 ^ 31 by decide), clp (by omega)]
  refine ⟨by decide, by decide, nI_pos (by omega), by omega, by omega, ?_⟩
  generalize hI2 : sI I1 (o + 1) (va_cpy (I1 fr) (I1 (o + 1)) 0 0 s.length) = I2
  have f2 : ∀ m, m ≠ o + 1 → I2 m = I1 m := fun m hm => by rw [← hI2, sI_n hm]
  have c2 : Rc (I2 (o + 1)) 0 s := by
    intro j x hx
    have hj : j < s.length := (List.getElem?_eq_some_iff.mp hx).1
    rw [← hI2, sI_s, pk_cpy_in (by omega) (by omega), f1 fr (by omega)]
    rw [show 0 + (0 + j - 0) = 0 + j by omega]
    exact hc j x hx
  refine x_Text_become_40 _ ⟨t0, t0, ?_⟩
  rw [f2 o (by omega), h5]
  refine s_markSpan (n := s.length) hT hN hs (by omega) (by omega) (by rw [f2 o (by omega), h5]) ⟨t0, ?_⟩
  rw [Nat.min_self]
  generalize hI3 : sI I2 (o + 2) (mkf (I2 (o + 2)) 0 s.length (-(nI 1))) = I3
  have f3 : ∀ m, m ≠ o + 2 → I3 m = I2 m := fun m hm => by rw [← hI3, sI_n hm]
  refine s_findTokens (d := d) hT (by omega) hs (by rw [f3 o (by omega), f2 o (by omega), h5]) (by rw [f3 (o + 1) (by omega)]; exact c2) (by rw [f3 o (by omega), f2 o (by omega), h6]) (fun I4 hf4 hr4 => h I4 (fun m hm => ?_) ⟨?_, ?_, by simp, ?_, hr4⟩)
  · rw [hf4.1 m (by omega) (by omega) (by omega) (by omega), f3 m (by omega), f2 m (by omega), f1 m (by omega)]
  · rw [hf4.2 5 (by decide), f3 o (by omega), f2 o (by omega), h5]
  · rw [hf4.1 (o + 1) (by omega) (by omega) (by omega) (by omega), f3 (o + 1) (by omega)]
    exact c2
  · intro j x hx
    rw [hf4.1 (o + 2) (by omega) (by omega) (by omega) (by omega), ← hI3, sI_s]
    have hj : j < s.length := by
      have := (List.getElem?_eq_some_iff.mp hx).1
      simpa using this
    unfold mkf
    rw [if_pos (by omega)]
    rw [List.getElem?_replicate, if_pos hj] at hx
    injection hx
end TB
