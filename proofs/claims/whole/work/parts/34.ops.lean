/-! Operations of the class's texts. -/
def sub (l : List Int32) (a b : Nat) : List Int32 := (l.drop a).take (b - a)
theorem sub_len {l : List Int32} {a b : Nat} (h : b ≤ l.length) : (sub l a b).length = b - a := by
  unfold sub
  rw [List.length_take, List.length_drop]
  omega
theorem sub_nil {l : List Int32} {a b : Nat} (h : b ≤ a) : sub l a b = [] := by
  unfold sub
  rw [show b - a = 0 by omega]
  rfl
theorem sub_at {l : List Int32} {a b j : Nat} {x : Int32} (h : (sub l a b)[j]? = some x) : l[a + j]? = some x ∧ j < b - a := by
  unfold sub at h
  by_cases hj : j < b - a
  · rw [List.getElem?_take_of_lt hj, List.getElem?_drop] at h
    exact ⟨h, hj⟩
  · rw [List.getElem?_take_eq_none (by omega)] at h
    cases h
theorem Rc.cpy {f g : Nat → Int32} {s s' : List Int32} {a b : Nat} (h : Rc g 0 s) (h' : Rc f 0 s') : Rc (va_cpy f g a s.length (b - a)) 0 (s ++ sub s' a b) := by
  intro j x hx
  by_cases hj : j < s.length
  · rw [List.getElem?_append_left hj] at hx
    rw [pk_cpy_out (by omega)]
    exact h j x hx
  · rw [List.getElem?_append_right (by omega)] at hx
    obtain ⟨h1, h2⟩ := sub_at hx
    rw [pk_cpy_in (by omega) (by omega)]
    have := h' _ x h1
    rw [show a + (0 + j - s.length) = 0 + (a + (j - s.length)) by omega]
    exact this
theorem TR.fr {I I' : mI} {o : Nat} {A : List (Nat × Nat × Nat)} (h : TR I o A) (h0 : I' o 6 = I o 6) (h3 : I' (o + 3) = I (o + 3)) (h4 : I' (o + 4) = I (o + 4)) (h5 : I' (o + 5) = I (o + 5)) : TR I' o A := by
  refine ⟨h0.trans h.1, fun t k a b e => ?_⟩
  rw [h3, h4, h5]
  exact h.2 t k a b e
theorem TXT.fr {I I' : mI} {o : Nat} {s mk : List Int32} {A : List (Nat × Nat × Nat)} (h : TXT I o s mk A) (hf : ∀ m, o ≤ m → m ≤ o + 5 → I' m = I m) : TXT I' o s mk A := by
  obtain ⟨h1, h2, h3, h4, h5⟩ := h
  refine ⟨by rw [hf o (by omega) (by omega)]; exact h1, by rw [hf (o + 1) (by omega) (by omega)]; exact h2, h3, by rw [hf (o + 2) (by omega) (by omega)]; exact h4, h5.fr ?_ ?_ ?_ ?_⟩
  · rw [hf o (by omega) (by omega)]
  · rw [hf (o + 3) (by omega) (by omega)]
  · rw [hf (o + 4) (by omega) (by omega)]
  · rw [hf (o + 5) (by omega) (by omega)]
theorem FrK.rf {o : Nat} {I : mI} : FrK o I I := fun _ _ => rfl
theorem FrK.tr {o : Nat} {I I' I'' : mI} (h : FrK o I I') (h' : FrK o I' I'') : FrK o I I'' := fun m hm => (h' m hm).trans (h m hm)
/-- the two texts lie apart -/
def apt (o o' : Nat) : Prop := o + 5 < o' ∨ o' + 5 < o
theorem FrK.txt {I I' : mI} {o o' : Nat} {s mk : List Int32} {A : List (Nat × Nat × Nat)} (h : FrK o I I') (ha : apt o o') (hx : TXT I o' s mk A) : TXT I' o' s mk A := hx.fr (fun m h1 h2 => h m (by unfold apt at ha; omega))
section OP
variable {E : XE} {d : Nat} {Q : Int32 → mI → mP → Prop} {P : mP} {o o' N N' : Nat} {s mk s' mk' : List Int32} {A A' : List (Nat × Nat × Nat)}
theorem s_appendCharacters (hT : TO P o N) (hT' : TO P o' N') (hN : N < 2 ^ 20) (hN' : N' < 2 ^ 20) (hap : apt o o') {I : mI} (hx : TXT I o s mk A) (hx' : TXT I o' s' mk' A') (hs' : s'.length ≤ N') {a b : Nat} (hab : a ≤ b) (hb : b ≤ s'.length) (hr : s.length + (b - a) ≤ N) (h : ∀ I', FrK o I I' → TXT I' o (s ++ sub s' a b) (mk ++ sub mk' a b) A → Q (nI 0) I' P) : V E (d + 1) m_Text_appendCharacters 112 Q 0 [some (.inr o), some (.inr o'), some (.inl (nI a)), some (.inl (nI b)), none] [] 112 I P := by
  obtain ⟨t0, ⟨p0, k0⟩, ⟨p1, k1⟩, -⟩ := hT
  obtain ⟨t0', ⟨p0', k0'⟩, ⟨p1', k1'⟩, -⟩ := hT'
  have hxx := hx
  obtain ⟨h5, hc, hm, hk, hA⟩ := hx
  obtain ⟨h5', hc', hm', hk', hA'⟩ := hx'
  unfold apt at hap
  refine x_Text_appendCharacters_0 _ _ _ _ ?_
  rw [pk_sub hab]
  refine pk_le (b - a) 0 (fun q => ?_) (fun q => ?_)
  · refine h I FrK.rf ?_
    rw [sub_nil (by omega), sub_nil (by omega), List.append_nil, List.append_nil]
    exact hxx
  · simp only [t0, t0', p0, p1, p0', p1', k0, k1, k0', k1', nzz 1 (by decide), nzz 2 (by decide), true_and]
    have e1 : ∀ f, sI I (o + 1) f o = I o := fun f => sI_n (by omega)
    rw [e1, sI_n (show o ≠ o + 2 by omega), e1, h5, nI_add, clp (show a < 2 ^ 31 by omega), clp (show b - a < 2 ^ 31 by omega), clp (show s.length < 2 ^ 31 by omega), sI_n (show o' + 2 ≠ o + 1 by omega), sI_n (show o + 2 ≠ o + 1 by omega)]
    refine ⟨by decide, by decide, pk_le (s.length + (b - a)) N (fun _ => ?_) (fun q2 => by omega)⟩
    refine ⟨nI_pos (by omega), nI_pos (by omega), nI_pos (by omega), by omega, by omega, nI_pos (by omega), nI_pos (by omega), nI_pos (by omega), by omega, by omega, ?_⟩
    refine h _ (fun m hm => ?_) ⟨?_, ?_, ?_, ?_, ?_⟩
    · rw [uI_n (by omega), sI_n (by omega), sI_n (by omega)]
    · rw [uI_s, List.length_append, sub_len hb]
    · rw [uI_n (by omega), sI_n (by omega), sI_s]
      exact hc.cpy hc'
    · rw [List.length_append, List.length_append, hm, sub_len hb, sub_len (by omega)]
    · rw [uI_n (by omega), sI_s, ← hm]
      exact hk.cpy hk'
    · refine hA.fr ?_ ?_ ?_ ?_
      · rw [uI_o (by decide), sI_n (by omega), sI_n (by omega)]
      · rw [uI_n (by omega), sI_n (by omega), sI_n (by omega)]
      · rw [uI_n (by omega), sI_n (by omega), sI_n (by omega)]
      · rw [uI_n (by omega), sI_n (by omega), sI_n (by omega)]
theorem s_spanSize (hT : TO P o N) (hN : N < 2 ^ 20) {I : mI} (hA : TR I o A) (hl : A.length ≤ N) {f b : Nat} (hfb : f < b) (hb : b ≤ A.length) (h2 : tst A f ≤ ten A (b - 1)) (h : Q (nI (ten A (b - 1) - tst A f)) I P) : V E d m_Text_spanSize 112 Q 0 [some (.inr o), some (.inl (nI f)), some (.inl (nI b))] [] 112 I P := by
  obtain ⟨t0, -, -, -, ⟨p3, k3⟩, ⟨p4, k4⟩⟩ := hT
  refine x_Text_spanSize_0 _ _ _ ⟨fun q => absurd q (nI_pos (by omega)), fun _ => pk_le b f (fun q => by omega) (fun _ => ⟨t0, ?_⟩)⟩
  rw [hA.1]
  refine pk_lt A.length b (fun q => by omega) (fun _ => ?_)
  simp only [t0, p3, k3, p4, k4, nzz 4 (by decide), nzz 5 (by decide), true_and]
  rw [pk_sub (show 1 ≤ b by omega), clp (show b - 1 < 2 ^ 31 by omega), clp (show f < 2 ^ 31 by omega), (hA.st (show b - 1 < A.length by omega)).2, (hA.st (show f < A.length by omega)).1, pk_sub h2]
  exact ⟨vp_in_nI (by omega) (by omega), vp_in_nI (by omega) (by omega), h⟩
/-- tokens f .. b - 1, moved from place st to place n -/
def shf (A : List (Nat × Nat × Nat)) (f b n : Nat) : List (Nat × Nat × Nat) := ((A.drop f).take (b - f)).map (fun q => (q.1, q.2.1 + n - tst A f, q.2.2 + n - tst A f))
theorem sub3 {a b c : Nat} (h : c ≤ a + b) : nI a + (nI b - nI c) = nI (a + b - c) := by
  rw [← pk_sub h, ← nI_add, Int32.sub_eq_add_neg, Int32.sub_eq_add_neg, Int32.add_assoc]
theorem l_appendSpan (hT : TO P o N) (hT' : TO P o' N') (hN : N < 2 ^ 20) (hN' : N' < 2 ^ 20) (hap : apt o o') (hl : A'.length ≤ N') {f b : Nat} (hfb : f < b) (hb : b ≤ A'.length) (hst : ∀ q ∈ A', q.2.1 < 2 ^ 20 ∧ q.2.2 < 2 ^ 20) {n : Nat} (hn : n < 2 ^ 20) (hge : ∀ t k a e, f ≤ t → A'[t]? = some (k, a, e) → tst A' f ≤ a ∧ tst A' f ≤ e) : ∀ (m t : Nat) (A1 : List (Nat × Nat × Nat)) (I : mI), b - t = m → f ≤ t → t ≤ b → A1.length + (b - t) ≤ N → TR I o A1 → TR I o' A' →
    (∀ I', FrT o I I' → TR I' o (A1 ++ ((A'.drop t).take (b - t)).map (fun q => (q.1, q.2.1 + n - tst A' f, q.2.2 + n - tst A' f))) → V E (d + 1) m_Text_appendSpan 112 Q 121 [some (.inr o), some (.inr o'), some (.inl (nI f)), some (.inl (nI b)), none, none, none] [] 112 I' P) → V E (d + 1) m_Text_appendSpan 112 Q 45 [some (.inr o), some (.inr o'), some (.inl (nI f)), some (.inl (nI b)), none, some (.inl (nI n - nI (tst A' f))), some (.inl (nI t))] [] 112 I P := by
  obtain ⟨t0, -, -, ⟨p2, k2⟩, ⟨p3, k3⟩, ⟨p4, k4⟩⟩ := hT
  obtain ⟨t0', -, -, ⟨p2', k2'⟩, ⟨p3', k3'⟩, ⟨p4', k4'⟩⟩ := hT'
  unfold apt at hap
  intro m
  induction m with
  | zero =>
    intro t A1 I hm h1 h2 hr hA1 hA' h
    refine x_Text_appendSpan_45 _ _ _ _ _ _ (pk_le b t (fun _ => ?_) (fun q => by omega))
    rw [show b - t = 0 by omega] at h
    refine h I FrT.rf ?_
    simpa using hA1
  | succ m ih =>
    intro t A1 I hm h1 h2 hr hA1 hA' h
    have htl : t < A'.length := by omega
    obtain ⟨⟨k, a, e⟩, hq⟩ : ∃ q, A'[t]? = some q := ⟨_, List.getElem?_eq_getElem htl⟩
    have hmem : (k, a, e) ∈ A' := List.mem_of_getElem? hq
    have hae := hst _ hmem
    dsimp only at hae
    have hg := hge t k a e h1 hq
    obtain ⟨r1, r2, r3⟩ := hA'.2 t k a e hq
    refine x_Text_appendSpan_45 _ _ _ _ _ _ (pk_le b t (fun q => by omega) (fun _ => ?_))
    simp only [t0, t0', p2, k2, p2', k2', nzz 3 (by decide), true_and]
    rw [hA1.1, clp (show t < 2 ^ 31 by omega), clp (show A1.length < 2 ^ 31 by omega), r1]
    refine ⟨vp_in_nI (by omega) (by omega), vp_in_nI (by omega) (by omega), x_Text_appendSpan_67 _ _ _ _ _ _ ?_⟩
    simp only [t0, t0', p3, k3, p3', k3', nzz 4 (by decide), true_and]
    rw [uI_n (show o ≠ o + 3 by omega), hA1.1, clp (show t < 2 ^ 31 by omega), clp (show A1.length < 2 ^ 31 by omega), uI_n (show o' + 4 ≠ o + 3 by omega), r2, sub3 (by omega)]
    refine ⟨vp_in_nI (by omega) (by omega), vp_in_nI (by omega) (by omega), x_Text_appendSpan_86 _ _ _ _ _ _ ?_⟩
    simp only [t0, t0', p4, k4, p4', k4', nzz 5 (by decide), true_and]
    rw [uI_n (show o ≠ o + 4 by omega), uI_n (show o ≠ o + 3 by omega), hA1.1, clp (show t < 2 ^ 31 by omega), clp (show A1.length < 2 ^ 31 by omega), uI_n (show o' + 5 ≠ o + 4 by omega), uI_n (show o' + 5 ≠ o + 3 by omega), r3, sub3 (by omega)]
    refine ⟨vp_in_nI (by omega) (by omega), vp_in_nI (by omega) (by omega), x_Text_appendSpan_105 _ _ _ _ _ _ ⟨t0, t0, ?_⟩⟩
    rw [uI_n (show o ≠ o + 5 by omega), uI_n (show o ≠ o + 4 by omega), uI_n (show o ≠ o + 3 by omega), hA1.1, n1, n1]
    have htr := ad1_tr (k := k) (a := a + n - tst A' f) (b := e + n - tst A' f) hA1
    have hfr : FrT o I (ad1 I o A1.length (nI k) (nI (a + n - tst A' f)) (nI (e + n - tst A' f))) := ad1_fr
    refine ih (t + 1) _ _ (by omega) (by omega) (by omega) (by rw [List.length_append, List.length_singleton]; omega) htr (hA'.fr ?_ ?_ ?_ ?_) (fun I' hf' hr' => h I' (hfr.tr hf') ?_)
    · exact congrFun (hfr.1 o' (by omega) (by omega) (by omega) (by omega)) 6
    · exact hfr.1 (o' + 3) (by omega) (by omega) (by omega) (by omega)
    · exact hfr.1 (o' + 4) (by omega) (by omega) (by omega) (by omega)
    · exact hfr.1 (o' + 5) (by omega) (by omega) (by omega) (by omega)
    · have e2 : (A'.drop t).take (b - t) = (k, a, e) :: (A'.drop (t + 1)).take (b - (t + 1)) := by
        rw [List.drop_eq_getElem_cons htl, show b - t = b - (t + 1) + 1 by omega, List.take_succ_cons]
        congr 1
        exact Option.some.inj ((List.getElem?_eq_getElem htl).symm.trans hq)
      rw [e2, List.map_cons]
      rw [List.append_assoc] at hr'
      exact hr'
theorem s_appendSpan (hT : TO P o N) (hT' : TO P o' N') (hN : N < 2 ^ 20) (hN' : N' < 2 ^ 20) (hap : apt o o') {I : mI} (hx : TXT I o s mk A) (hx' : TXT I o' s' mk' A') (hs' : s'.length ≤ N') (hl : A'.length ≤ N') {f b : Nat} (hfb : f < b) (hb : b ≤ A'.length) (hst : ∀ q ∈ A', q.2.1 < q.2.2 ∧ q.2.2 ≤ s'.length) (hge : ∀ t k a e, f ≤ t → A'[t]? = some (k, a, e) → tst A' f ≤ a) (hlt : tst A' f < ten A' (b - 1)) (hs : s.length + (ten A' (b - 1) - tst A' f) ≤ N) (hA : A.length + (b - f) ≤ N) (h : ∀ I', FrK o I I' → TXT I' o (s ++ sub s' (tst A' f) (ten A' (b - 1))) (mk ++ sub mk' (tst A' f) (ten A' (b - 1))) (A ++ shf A' f b s.length) → Q (nI 0) I' P) : V E (d + 2) m_Text_appendSpan 112 Q 0 [some (.inr o), some (.inr o'), some (.inl (nI f)), some (.inl (nI b)), none, none, none] [] 112 I P := by
  have hTT := hT
  have hTT' := hT'
  have hxx := hx
  have hxx' := hx'
  obtain ⟨t0, ⟨p0, k0⟩, -, -, ⟨p3, k3⟩, ⟨p4, k4⟩⟩ := hT
  obtain ⟨t0', ⟨p0', k0'⟩, -, -, ⟨p3', k3'⟩, ⟨p4', k4'⟩⟩ := hT'
  obtain ⟨h5, hc, hm, hk, hAA⟩ := hx
  obtain ⟨h5', hc', hm', hk', hAA'⟩ := hx'
  have hte : ten A' (b - 1) ≤ s'.length := by
    unfold ten
    rw [List.getElem?_eq_getElem (show b - 1 < A'.length by omega)]
    exact (hst _ (List.getElem_mem _)).2
  have hap' := hap
  unfold apt at hap'
  refine x_Text_appendSpan_0 _ _ _ _ ⟨t0', s_spanSize hTT' hN' hAA' hl hfb hb (by omega) ⟨fun q => ?_, fun _ => ?_⟩⟩
  · exact absurd ((nI_eq (a := ten A' (b - 1) - tst A' f) (b := 0) (by omega) (by omega)).mp q) (by omega)
  simp only [t0, t0', p0, k0, p3', k3', nzz 1 (by decide), nzz 4 (by decide), true_and]
  rw [h5, nI_add]
  refine ⟨by decide, by decide, pk_le (s.length + (ten A' (b - 1) - tst A' f)) N (fun _ => ⟨vp_in_nI (by omega) (by omega), ?_⟩) (fun q => by omega)⟩
  rw [clp (show f < 2 ^ 31 by omega), (hAA'.st (show f < A'.length by omega)).1]
  refine l_appendSpan hTT hTT' hN hN' hap hl hfb hb (fun q hq => by have := hst q hq; omega) (by omega) (fun t k a e h1 h2 => ⟨hge t k a e h1 h2, ?_⟩) (b - f) f A I rfl (Nat.le_refl _) (by omega) (by omega) hAA hAA' (fun I1 f1 r1 => ?_)
  · have h3 := hge t k a e h1 h2
    have h4 := (hst _ (List.mem_of_getElem? h2)).1
    dsimp only at h4
    omega
  have fK : FrK o I I1 := fun m hm => f1.1 m (by omega) (by omega) (by omega) (by omega)
  refine x_Text_appendSpan_121 _ _ _ _ ?_
  simp only [t0, t0', p3', k3', p4', k4', nzz 5 (by decide), nzz 4 (by decide), true_and]
  have x1' := fK.txt hap hxx'
  rw [pk_sub (show 1 ≤ b by omega), clp (show b - 1 < 2 ^ 31 by omega), clp (show f < 2 ^ 31 by omega), (x1'.2.2.2.2.st (show b - 1 < A'.length by omega)).2, (x1'.2.2.2.2.st (show f < A'.length by omega)).1]
  refine ⟨vp_in_nI (by omega) (by omega), vp_in_nI (by omega) (by omega), ?_⟩
  have x1 : TXT I1 o s mk (A ++ shf A' f b s.length) := by
    refine ⟨by rw [f1.2 5 (by decide)]; exact h5, by rw [f1.1 (o + 1) (by omega) (by omega) (by omega) (by omega)]; exact hc, hm, by rw [f1.1 (o + 2) (by omega) (by omega) (by omega) (by omega)]; exact hk, r1⟩
  exact s_appendCharacters hTT hTT' hN hN' hap x1 x1' hs' (by omega) hte hs (fun I2 f2 x2 => h I2 (fK.tr f2) x2)
theorem s_cutAt (hT : TO P o N) (hN : N < 2 ^ 20) {I : mI} (hx : TXT I o s mk A) (hl : A.length ≤ N) (hs : s.length ≤ N) {t : Nat} (ht : t < A.length) (hst : tst A t ≤ s.length) (h : ∀ I', FrK o I I' → TXT I' o (s.take (tst A t)) (mk.take (tst A t)) (A.take t) → Q (nI 0) I' P) : V E d m_Text_cutAt 112 Q 0 [some (.inr o), some (.inl (nI t))] [] 112 I P := by
  obtain ⟨t0, -, -, -, ⟨p3, k3⟩, -⟩ := hT
  obtain ⟨h5, hc, hm, hk, hA⟩ := hx
  refine x_Text_cutAt_0 _ _ ⟨fun q => absurd q (nI_pos (by omega)), fun _ => ⟨t0, ?_⟩⟩
  rw [hA.1]
  refine pk_le A.length t (fun q => by omega) (fun _ => ?_)
  simp only [t0, p3, k3, nzz 4 (by decide), true_and]
  rw [clp (show t < 2 ^ 31 by omega), (hA.st ht).1]
  refine ⟨vp_in_nI (by omega) (by omega), h _ (fun m hm => ?_) ⟨?_, ?_, ?_, ?_, ?_, ?_⟩⟩
  · rw [uI_n (by omega), uI_n (by omega)]
  · rw [uI_o (by decide), uI_s, List.length_take, Nat.min_eq_left hst]
  · rw [uI_n (by omega), uI_n (by omega)]
    intro j x hx
    have hj : j < tst A t := by
      have := (List.getElem?_eq_some_iff.mp hx).1
      rw [List.length_take] at this
      omega
    rw [List.getElem?_take_of_lt hj] at hx
    exact hc j x hx
  · rw [List.length_take, List.length_take, hm]
  · rw [uI_n (by omega), uI_n (by omega)]
    intro j x hx
    have hj : j < tst A t := by
      have := (List.getElem?_eq_some_iff.mp hx).1
      rw [List.length_take] at this
      omega
    rw [List.getElem?_take_of_lt hj] at hx
    exact hk j x hx
  · rw [uI_s, List.length_take, Nat.min_eq_left (by omega)]
  · intro t' k a b e
    have ht' : t' < t := by
      have := (List.getElem?_eq_some_iff.mp e).1
      rw [List.length_take] at this
      omega
    rw [List.getElem?_take_of_lt ht'] at e
    rw [uI_n (by omega), uI_n (by omega), uI_n (by omega), uI_n (by omega), uI_n (by omega), uI_n (by omega)]
    exact hA.2 t' k a b e
/-- where the space before token t begins, and where it ends -/
def spa (A : List (Nat × Nat × Nat)) (t : Nat) : Nat := match t with
  | 0 => 0
  | t + 1 => ten A t
def spe (A : List (Nat × Nat × Nat)) (n t : Nat) : Nat := if t < A.length then tst A t else n
theorem s_appendSpace (hT : TO P o N) (hT' : TO P o' N') (hN : N < 2 ^ 20) (hN' : N' < 2 ^ 20) (hap : apt o o') {I : mI} (hx : TXT I o s mk A) (hx' : TXT I o' s' mk' A') (hs' : s'.length ≤ N') (hl : A'.length ≤ N') {t : Nat} (ht : t ≤ A'.length) (hab : spa A' t ≤ spe A' s'.length t) (hb : spe A' s'.length t ≤ s'.length) (hr : s.length + (spe A' s'.length t - spa A' t) ≤ N) (h : ∀ I', FrK o I I' → TXT I' o (s ++ sub s' (spa A' t) (spe A' s'.length t)) (mk ++ sub mk' (spa A' t) (spe A' s'.length t)) A → Q (nI 0) I' P) : V E (d + 2) m_Text_appendSpace 112 Q 0 [some (.inr o), some (.inr o'), some (.inl (nI t)), none, none] [] 112 I P := by
  have hTT := hT
  have hTT' := hT'
  obtain ⟨t0, -⟩ := hT
  obtain ⟨t0', -, -, -, ⟨p3', k3'⟩, ⟨p4', k4'⟩⟩ := hT'
  have hAA' := hx'.2.2.2.2
  have fin : V E (d + 2) m_Text_appendSpace 112 Q 52 [some (.inr o), some (.inr o'), none, some (.inl (nI (spa A' t))), some (.inl (nI (spe A' s'.length t)))] [] 112 I P :=
    x_Text_appendSpace_52 _ _ _ _ ⟨t0, s_appendCharacters hTT hTT' hN hN' hap hx hx' hs' hab hb hr h⟩
  have s25 : V E (d + 2) m_Text_appendSpace 112 Q 25 [some (.inr o), some (.inr o'), some (.inl (nI t)), some (.inl (nI (spa A' t))), none] [] 112 I P := by
    refine x_Text_appendSpace_25 _ _ _ _ ⟨fun q => absurd q (nI_pos (by omega)), fun _ => ⟨t0', ?_⟩⟩
    rw [hAA'.1, hx'.1]
    refine pk_le A'.length t (fun q => ⟨t0', ?_⟩) (fun q => ?_)
    · rw [show spe A' s'.length t = s'.length by unfold spe; rw [if_neg (by omega)]] at fin
      exact fin
    · simp only [t0', p3', k3', nzz 4 (by decide), true_and]
      rw [clp (show t < 2 ^ 31 by omega), (hAA'.st q).1]
      rw [show spe A' s'.length t = tst A' t by unfold spe; rw [if_pos q]] at fin
      exact ⟨vp_in_nI (by omega) (by omega), fin⟩
  cases t with
  | zero => exact x_Text_appendSpace_0 _ _ _ ⟨fun _ => s25, fun q => absurd (show nI 0 ≤ 0 by decide) q⟩
  | succ t =>
    refine x_Text_appendSpace_0 _ _ _ (pk_le (t + 1) 0 (fun q => by omega) (fun _ => ⟨t0', ?_⟩))
    rw [hAA'.1]
    refine pk_lt A'.length (t + 1) (fun q => by omega) (fun _ => ?_)
    simp only [t0', p4', k4', nzz 5 (by decide), true_and]
    rw [pk_sub (show 1 ≤ t + 1 by omega), Nat.add_sub_cancel, clp (show t < 2 ^ 31 by omega), (hAA'.st (show t < A'.length by omega)).2]
    exact ⟨vp_in_nI (by omega) (by omega), s25⟩
end OP
