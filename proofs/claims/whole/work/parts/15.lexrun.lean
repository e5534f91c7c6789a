/-! The class's reading of characters. -/
def Rc (f : Nat → Int32) (off : Nat) (s : List Int32) : Prop := ∀ (j : Nat) (x : Int32), s[j]? = some x → f (off + j) = x
theorem Rc.at0 {f : Nat → Int32} {s : List Int32} {j : Nat} {x : Int32} (h : Rc f 0 s) (hx : s[j]? = some x) : f j = x := by
  have := h j x hx
  rwa [Nat.zero_add] at this
theorem drop_c {s : List Int32} {p : Nat} (h : p < s.length) : ∃ x, s[p]? = some x ∧ s.drop p = x :: s.drop (p + 1) := by
  refine ⟨s[p], List.getElem?_eq_getElem h, ?_⟩
  rw [List.drop_eq_getElem_cons h]
theorem n1 (p : Nat) : nI p + nI 1 = nI (p + 1) := nI_add p 1
section RD
variable {E : XE} {d : Nat} {Q : Int32 → mI → mP → Prop} {I : mI} {P : mP} {o N : Nat} {s : List Int32}
theorem l_behindComment (hT : TO P o N) (hN : N < 2 ^ 30) (hn : I o 5 = nI s.length) (hs : s.length ≤ N) (hc : Rc (I (o + 1)) 0 s) : ∀ (m p : Nat), s.length - p = m → p ≤ s.length → Q (nI (p + cmL (s.drop p))) I P → V E d m_Text_behindComment 112 Q 2 [some (.inr o), none, some (.inl (nI p))] [] 112 I P := by
  have hT' := hT
  obtain ⟨t0, ⟨p0, k0⟩, -⟩ := hT'
  intro m
  induction m with
  | zero =>
    intro p hm hp hq
    have : p = s.length := by omega
    subst this
    refine x_Text_behindComment_2 _ _ ?_
    rw [hn]
    refine ⟨t0, pk_le s.length s.length (fun _ => ?_) (fun h => absurd h (Nat.lt_irrefl _))⟩
    rw [List.drop_length] at hq
    exact hq
  | succ m ih =>
    intro p hm hp hq
    obtain ⟨x, hx, hd⟩ := drop_c (s := s) (p := p) (by omega)
    refine x_Text_behindComment_2 _ _ ?_
    rw [hn]
    refine ⟨t0, pk_le s.length p (fun h => by omega) (fun _ => ⟨t0, ?_⟩)⟩
    simp only [p0, k0, nzz 1 (by decide), true_and]
    refine ⟨vp_in_nI (by omega) (by omega), ?_⟩
    rw [clp (by omega), hc.at0 hx]
    rw [hd] at hq
    unfold cmL at hq
    refine ⟨fun e => ?_, fun e => ?_⟩
    · rw [show tw (fun x => !(x == nI 10)) (x :: s.drop (p + 1)) = 0 from by unfold tw; rw [e]; rfl] at hq
      exact hq
    · rw [n1]
      refine ih (p + 1) (by omega) (by omega) ?_
      rw [show tw (fun x => !(x == nI 10)) (x :: s.drop (p + 1)) = cmL (s.drop (p + 1)) + 1 from by
        show (if (!(x == nI 10)) = true then _ else _) = _
        rw [if_pos (by simpa using e)]
        rfl] at hq
      rw [show p + 1 + cmL (s.drop (p + 1)) = p + (cmL (s.drop (p + 1)) + 1) by omega]
      exact hq
theorem s_behindComment (hT : TO P o N) (hN : N < 2 ^ 30) (hn : I o 5 = nI s.length) (hs : s.length ≤ N) (hc : Rc (I (o + 1)) 0 s) {p : Nat} (hp : p ≤ s.length) (h : Q (nI (p + cmL (s.drop p))) I P) : V E d m_Text_behindComment 112 Q 0 [some (.inr o), some (.inl (nI p)), none] [] 112 I P :=
  x_Text_behindComment_0 _ _ (l_behindComment hT hN hn hs hc _ p rfl hp h)
theorem s_tokenKind (hT : TO P o N) (hN : N < 2 ^ 30) (hn : I o 5 = nI s.length) (hs : s.length ≤ N) (hc : Rc (I (o + 1)) 0 s) {p : Nat} {c : Int32} (hp : s[p]? = some c) (h : Q (nI (tkK c (s.drop (p + 1)))) I P) : V E (d + 1) m_Text_tokenKind 112 Q 0 [some (.inr o), some (.inl (nI p)), none] [] 112 I P := by
  obtain ⟨t0, ⟨p0, k0⟩, -⟩ := hT
  have hpl : p < s.length := (List.getElem?_eq_some_iff.mp hp).1
  refine x_Text_tokenKind_0 _ _ ?_
  simp only [t0, p0, k0, nzz 1 (by decide), true_and]
  refine ⟨vp_in_nI (by omega) (by omega), ?_⟩
  rw [clp (by omega), hc.at0 hp]
  unfold tkK at h
  refine s_isLetter (bz_i (fun a => ?_) (fun a => ?_))
  · rw [if_neg (by rw [a]; decide)] at h
    refine s_isDigit (bz_i (fun b => ?_) (fun b => ?_))
    · rw [if_neg (by rw [b]; decide)] at h
      refine ⟨fun e => ?_, fun e => ?_⟩
      · rw [if_pos e] at h
        rw [hn, n1]
        refine pk_le s.length (p + 1) (fun g => ?_) (fun g => ?_)
        · rw [List.drop_eq_nil_of_le g] at h
          exact h
        · simp only [p0, k0, nzz 1 (by decide), true_and]
          refine ⟨vp_in_nI (by omega) (by omega), ?_⟩
          obtain ⟨x, hx, hd⟩ := drop_c (s := s) (p := p + 1) g
          rw [clp (by omega), hc.at0 hx]
          rw [hd] at h
          refine s_isDigit (bz_i (fun c' => ?_) (fun c' => ?_))
          · dsimp only at h
            rw [if_neg (by rw [c']; decide)] at h
            exact h
          · dsimp only at h
            rw [if_pos c'] at h
            exact h
      · rw [if_neg e] at h
        refine ⟨fun e => ?_, fun e => ?_⟩
        · rw [if_pos e] at h
          exact h
        · rw [if_neg e] at h
          refine ⟨fun e => ?_, fun e => ?_⟩
          · rw [if_pos e] at h
            exact h
          · rw [if_neg e] at h
            refine ⟨fun e => ?_, fun e => ?_⟩
            · rw [if_pos e] at h
              exact h
            · rw [if_neg e] at h
              refine ⟨fun e => ?_, fun e => ?_⟩
              · rw [if_pos e] at h
                exact h
              · rw [if_neg e] at h
                refine ⟨fun e => ?_, fun e => ?_⟩
                · rw [if_pos e] at h
                  exact h
                · rw [if_neg e] at h
                  exact h
    · rw [if_pos b] at h
      exact h
  · rw [if_pos a] at h
    exact h
theorem l_behindToken (hT : TO P o N) (hN : N < 2 ^ 30) (hn : I o 5 = nI s.length) (hs : s.length ≤ N) (hc : Rc (I (o + 1)) 0 s) {k : Nat} (hk : k < 2 ^ 31) : ∀ (m p : Nat), s.length - p = m → p ≤ s.length → Q (nI (p + tw (gO k) (s.drop p))) I P → V E (d + 2) m_Text_behindToken 112 Q 23 [some (.inr o), none, some (.inl (nI k)), some (.inl (nI p))] [] 112 I P := by
  have hT' := hT
  obtain ⟨t0, ⟨p0, k0⟩, -⟩ := hT'
  intro m
  induction m with
  | zero =>
    intro p hm hp hq
    have : p = s.length := by omega
    subst this
    refine x_Text_behindToken_23 _ _ _ ?_
    rw [hn]
    refine ⟨t0, pk_le s.length s.length (fun _ => ?_) (fun h => absurd h (Nat.lt_irrefl _))⟩
    rw [List.drop_length] at hq
    exact hq
  | succ m ih =>
    intro p hm hp hq
    obtain ⟨x, hx, hd⟩ := drop_c (s := s) (p := p) (by omega)
    refine x_Text_behindToken_23 _ _ _ ?_
    rw [hn]
    refine ⟨t0, pk_le s.length p (fun h => by omega) (fun _ => ⟨t0, ?_⟩)⟩
    simp only [p0, k0, nzz 1 (by decide), true_and]
    refine ⟨vp_in_nI (by omega) (by omega), ?_⟩
    rw [clp (by omega), hc.at0 hx]
    rw [hd] at hq
    refine s_goesOn hk (bz_i (fun e => ?_) (fun e => ?_))
    · rw [show tw (gO k) (x :: s.drop (p + 1)) = 0 from by unfold tw; rw [e]; rfl] at hq
      exact hq
    · rw [n1]
      refine ih (p + 1) (by omega) (by omega) ?_
      rw [show tw (gO k) (x :: s.drop (p + 1)) = tw (gO k) (s.drop (p + 1)) + 1 from by
        show (if gO k x = true then _ else _) = _
        rw [if_pos e]] at hq
      rw [show p + 1 + tw (gO k) (s.drop (p + 1)) = p + (tw (gO k) (s.drop (p + 1)) + 1) by omega]
      exact hq
theorem s_behindToken (hT : TO P o N) (hN : N < 2 ^ 30) (hn : I o 5 = nI s.length) (hs : s.length ≤ N) (hc : Rc (I (o + 1)) 0 s) {k p : Nat} (hk : k < 100) (hp : p < s.length) (h : Q (nI (p + 1 + tkN k (s.drop (p + 1)))) I P) : V E (d + 2) m_Text_behindToken 112 Q 0 [some (.inr o), some (.inl (nI p)), some (.inl (nI k)), none] [] 112 I P := by
  refine x_Text_behindToken_0 _ _ _ ?_
  unfold tkN at h
  rw [n1, nI_add p 2]
  refine ⟨fun a => ?_, fun a => ?_⟩
  · have a3 : k ≠ 3 := fun e => a (by rw [e])
    rw [if_neg a3] at h
    refine ⟨fun b => ?_, fun b => ⟨fun c => ?_, fun c => ?_⟩⟩
    · have b1 : k = 1 := (nI_eq (by omega) (by decide)).mp b
      rw [if_pos (Or.inl b1)] at h
      exact l_behindToken hT hN hn hs hc (by omega) _ (p + 1) rfl (by omega) h
    · have b1 : k ≠ 1 := fun e => b (by rw [e])
      have c1 : k ≠ 2 := fun e => c (by rw [e])
      rw [if_neg (by omega)] at h
      exact h
    · have c1 : k = 2 := (nI_eq (by omega) (by decide)).mp c
      rw [if_pos (Or.inr c1)] at h
      exact l_behindToken hT hN hn hs hc (by omega) _ (p + 1) rfl (by omega) h
  · have a3 : k = 3 := (nI_eq (by omega) (by decide)).mp a
    rw [if_pos a3] at h
    exact h
end RD
/-! memory, read through writes -/
theorem uI_n {I : mI} {a k m : Nat} {v : Int32} (h : m ≠ a) : uI I a k v m = I m := sI_n h
theorem uI_s {I : mI} {a k : Nat} {v : Int32} : uI I a k v a k = v := by unfold uI; rw [sI_s]; unfold upd; rw [if_pos rfl]
theorem uI_o {I : mI} {a k j : Nat} {v : Int32} (h : j ≠ k) : uI I a k v a j = I a j := by unfold uI; rw [sI_s]; unfold upd; rw [if_neg h]
theorem mxx {a b : Nat} (ha : a < 2 ^ 31) (hb : b < 2 ^ 31) : (if nI a < nI b then nI b else nI a) = nI (max a b) := by
  by_cases h : nI a < nI b
  · rw [if_pos h]
    rw [nI_ltI ha hb] at h
    rw [Nat.max_eq_right (by omega)]
  · rw [if_neg h]
    rw [nI_ltI ha hb] at h
    rw [Nat.max_eq_left (by omega)]
def TR (I : mI) (o : Nat) (A : List (Nat × Nat × Nat)) : Prop := I o 6 = nI A.length ∧ ∀ (t k a b : Nat), A[t]? = some (k, a, b) → I (o + 3) t = nI k ∧ I (o + 4) t = nI a ∧ I (o + 5) t = nI b
def FrT (o : Nat) (I I' : mI) : Prop := (∀ m, m ≠ o → m ≠ o + 3 → m ≠ o + 4 → m ≠ o + 5 → I' m = I m) ∧ ∀ j, j ≠ 6 → I' o j = I o j
theorem FrT.rf {o : Nat} {I : mI} : FrT o I I := ⟨fun _ _ _ _ _ => rfl, fun _ _ => rfl⟩
theorem FrT.tr {o : Nat} {I I' I'' : mI} (h : FrT o I I') (h' : FrT o I' I'') : FrT o I I'' := ⟨fun m a b c e => (h'.1 m a b c e).trans (h.1 m a b c e), fun j hj => (h'.2 j hj).trans (h.2 j hj)⟩
/-- one token more -/
def ad1 (I : mI) (o t : Nat) (k a b : Int32) : mI := uI (uI (uI (uI I (o + 3) t k) (o + 4) t a) (o + 5) t b) o 6 (nI (t + 1))
theorem ad1_fr {I : mI} {o t : Nat} {k a b : Int32} : FrT o I (ad1 I o t k a b) := by
  unfold ad1
  refine ⟨fun m h1 h2 h3 h4 => ?_, fun j hj => ?_⟩
  · rw [uI_n h1, uI_n h4, uI_n h3, uI_n h2]
  · rw [uI_o hj, uI_n (by omega), uI_n (by omega), uI_n (by omega)]
theorem ad1_tr {I : mI} {o : Nat} {A : List (Nat × Nat × Nat)} {k a b : Nat} (h : TR I o A) : TR (ad1 I o A.length (nI k) (nI a) (nI b)) o (A ++ [(k, a, b)]) := by
  unfold ad1
  refine ⟨by rw [uI_s, List.length_append]; rfl, fun t k' a' b' ht => ?_⟩
  rw [uI_n (by omega : o + 3 ≠ o), uI_n (by omega : o + 4 ≠ o), uI_n (by omega : o + 5 ≠ o), uI_n (by omega : o + 3 ≠ o + 5), uI_n (by omega : o + 4 ≠ o + 5), uI_n (by omega : o + 3 ≠ o + 4)]
  by_cases hl : t < A.length
  · rw [List.getElem?_append_left hl] at ht
    obtain ⟨g1, g2, g3⟩ := h.2 t k' a' b' ht
    rw [uI_o (by omega), uI_o (by omega), uI_o (by omega), uI_n (by omega : o + 4 ≠ o + 3), uI_n (by omega : o + 5 ≠ o + 4), uI_n (by omega : o + 5 ≠ o + 3)]
    exact ⟨g1, g2, g3⟩
  · have e : t = A.length := by
      have := (List.getElem?_eq_some_iff.mp ht).1
      rw [List.length_append] at this
      simp at this
      omega
    subst e
    rw [List.getElem?_append_right (Nat.le_refl _), Nat.sub_self] at ht
    cases ht
    exact ⟨uI_s, uI_s, uI_s⟩
section FT
variable {E : XE} {d : Nat} {Q : Int32 → mI → mP → Prop} {P : mP} {o N : Nat} {s : List Int32}
theorem tkK_lt (c : Int32) (r : List Int32) : tkK c r < 100 := by
  unfold tkK
  repeat' split
  all_goals decide
theorem l_findTokens (hT : TO P o N) (hN : N < 2 ^ 30) (hs : s.length ≤ N) : ∀ (m p b : Nat) (acc : List Int32) (A : List (Nat × Nat × Nat)) (I : mI), s.length - p ≤ m → p ≤ s.length → b ≤ p → acc.length ≤ p → A.length ≤ p → I o 5 = nI s.length → Rc (I (o + 1)) 0 s → TR I o A →
    (∀ I', FrT o I I' → TR I' o (A ++ psn (p - acc.length) (lx s.length (s.drop p) acc).1) → Q (nI 0) I' P) → V E (d + 3) m_Text_findTokens 112 Q 4 [some (.inr o), some (.inl (nI b)), some (.inl (nI p)), none, none] [] 112 I P := by
  have hT' := hT
  obtain ⟨t0, ⟨p0, k0⟩, -, ⟨p2, k2⟩, ⟨p3, k3⟩, ⟨p4, k4⟩⟩ := hT'
  have fin : ∀ (p b : Nat) (acc : List Int32) (A : List (Nat × Nat × Nat)) (I : mI), p = s.length → I o 5 = nI s.length → TR I o A →
    (∀ I', FrT o I I' → TR I' o (A ++ psn (p - acc.length) (lx s.length (s.drop p) acc).1) → Q (nI 0) I' P) → V E (d + 3) m_Text_findTokens 112 Q 4 [some (.inr o), some (.inl (nI b)), some (.inl (nI p)), none, none] [] 112 I P := by
    intro p b acc A I hp hn hR h
    subst hp
    refine x_Text_findTokens_4 _ _ _ ?_
    rw [hn]
    refine ⟨t0, pk_le s.length s.length (fun _ => ?_) (fun h => absurd h (Nat.lt_irrefl _))⟩
    refine h I FrT.rf ?_
    rw [List.drop_length, lx_nil]
    simpa [psn] using hR
  intro m
  induction m with
  | zero =>
    intro p b acc A I hm hp hb ha hA hn hc hR h
    exact fin p b acc A I (by omega) hn hR h
  | succ m ih =>
    intro p b acc A I hm hp hb ha hA hn hc hR h
    by_cases hpl : p < s.length
    · obtain ⟨c, hx, hd⟩ := drop_c (s := s) (p := p) hpl
      obtain ⟨n0, hn0⟩ : ∃ n0, s.length = n0 + 1 := ⟨s.length - 1, by omega⟩
      have hrl : (s.drop (p + 1)).length ≤ n0 := by rw [List.length_drop]; omega
      have hfu : ∀ k a, lx n0 ((s.drop (p + 1)).drop k) a = lx s.length (s.drop (p + 1 + k)) a := fun k a => by
        rw [List.drop_drop]
        exact lx_fuel _ _ _ _ (by rw [List.length_drop]; omega) (by rw [List.length_drop]; omega)
      rw [hd] at h
      have hlx := lx_cons n0 c (s.drop (p + 1)) acc
      rw [← hn0] at hlx
      rw [hlx] at h
      clear hlx
      refine x_Text_findTokens_4 _ _ _ ?_
      rw [hn]
      refine ⟨t0, pk_le s.length p (fun h => by omega) (fun _ => ⟨t0, ?_⟩)⟩
      simp only [t0, p0, k0, nzz 1 (by decide), true_and]
      refine ⟨vp_in_nI (by omega) (by omega), ?_⟩
      rw [clp (by omega), hc.at0 hx]
      have blank : isSp c = true → V E (d + 3) m_Text_findTokens 112 Q 4 [some (.inr o), some (.inl (nI b)), some (.inl (if (nI p + nI 1) < nI b then nI b else (nI p + nI 1))), none, none] [] 112 I P := by
        intro hsp
        rw [n1, mxx (by omega) (by omega), Nat.max_eq_left (by omega)]
        refine ih (p + 1) b (acc ++ [c]) A I (by omega) (by omega) (by omega) (by simp; omega) (by omega) hn hc hR (fun I' hf hr => h I' hf ?_)
        rw [if_pos hsp]
        have e1 := hfu 0 (acc ++ [c])
        rw [List.drop_zero, Nat.add_zero] at e1
        rw [e1]
        rw [show p + 1 - (acc ++ [c]).length = p - acc.length by simp] at hr
        exact hr
      refine ⟨fun a35 => ⟨fun a32 => blank (by unfold isSp; rw [a32]; decide), fun a32 => ⟨fun a10 => blank (by unfold isSp; rw [a10]; decide), fun a10 => ?_⟩⟩, fun a35 => ?_⟩
      · have hsp : isSp c = false := by
          unfold isSp
          simp [a32, a10]
        rw [if_neg (by rw [hsp]; decide), if_neg a35] at h
        refine s_tokenKind hT hN hn hs hc hx ?_
        refine s_behindToken hT hN hn hs hc (tkK_lt _ _) hpl ?_
        have hkl := tkN_le c (s.drop (p + 1))
        rw [List.length_drop] at hkl
        simp only [p2, k2, p3, k3, p4, k4, nzz 3 (by decide), nzz 4 (by decide), nzz 5 (by decide), true_and]
        have e6 : I o 6 = nI A.length := hR.1
        simp only [uI_n (show o ≠ o + 3 by omega), uI_n (show o ≠ o + 4 by omega), uI_n (show o ≠ o + 5 by omega), e6]
        refine ⟨vp_in_nI (by omega) (by omega), vp_in_nI (by omega) (by omega), vp_in_nI (by omega) (by omega), ?_⟩
        rw [clp (by omega), n1, n1, mxx (by omega) (by omega), Nat.max_eq_right (by omega)]
        refine ih (p + 1 + tkN (tkK c (s.drop (p + 1))) (s.drop (p + 1))) _ [] (A ++ [(tkK c (s.drop (p + 1)), p, p + 1 + tkN (tkK c (s.drop (p + 1))) (s.drop (p + 1)))]) (ad1 I o A.length _ _ _) (by omega) (by omega) (by omega) (by simp) (by simp; omega) ?_ ?_ (ad1_tr hR) (fun I' hf hr => h I' (ad1_fr.tr hf) ?_)
        · rw [ad1_fr.2 5 (by decide)]
          exact hn
        · rw [ad1_fr.1 (o + 1) (by omega) (by omega) (by omega) (by omega)]
          exact hc
        · rw [hfu]
          show TR I' o (A ++ (tkK c (s.drop (p + 1)), p - acc.length + acc.length, p - acc.length + acc.length + (c :: (s.drop (p + 1)).take (tkN (tkK c (s.drop (p + 1))) (s.drop (p + 1)))).length) :: psn (p - acc.length + acc.length + (c :: (s.drop (p + 1)).take (tkN (tkK c (s.drop (p + 1))) (s.drop (p + 1)))).length) _)
          have e2 : p - acc.length + acc.length = p := by omega
          have e3 : (c :: (s.drop (p + 1)).take (tkN (tkK c (s.drop (p + 1))) (s.drop (p + 1)))).length = 1 + tkN (tkK c (s.drop (p + 1))) (s.drop (p + 1)) := by
            rw [List.length_cons, List.length_take, List.length_drop, Nat.min_eq_left (by omega)]
            omega
          rw [e2, e3, ← Nat.add_assoc]
          simpa using hr
      · have hsp : isSp c = false := by rw [a35]; decide
        rw [if_neg (by rw [hsp]; decide), if_pos a35] at h
        refine s_behindComment hT hN hn hs hc hp ?_
        have hcl : cmL (s.drop (p + 1)) ≤ s.length - (p + 1) := by
          have := tw_le (fun x => !(x == nI 10)) (s.drop (p + 1))
          rw [List.length_drop] at this
          exact this
        have e1 : cmL (s.drop p) = 1 + cmL (s.drop (p + 1)) := by
          rw [hd]
          unfold cmL
          show (if (!(c == nI 10)) = true then _ else _) = _
          rw [if_pos (by rw [a35]; decide), Nat.add_comm]
        rw [e1, n1, ← Nat.add_assoc, mxx (by omega) (by omega), Nat.max_eq_right (by omega)]
        refine ih (p + 1 + cmL (s.drop (p + 1))) _ (acc ++ c :: (s.drop (p + 1)).take (cmL (s.drop (p + 1)))) A I (by omega) (by omega) (by omega) ?_ (by omega) hn hc hR (fun I' hf hr => h I' hf ?_)
        · rw [List.length_append, List.length_cons, List.length_take, List.length_drop]
          omega
        · rw [hfu]
          have e2 : (acc ++ c :: (s.drop (p + 1)).take (cmL (s.drop (p + 1)))).length = acc.length + (1 + cmL (s.drop (p + 1))) := by
            rw [List.length_append, List.length_cons, List.length_take, List.length_drop, Nat.min_eq_left hcl]
            omega
          rw [e2] at hr
          rw [show p + 1 + cmL (s.drop (p + 1)) - (acc.length + (1 + cmL (s.drop (p + 1)))) = p - acc.length by omega] at hr
          exact hr
    · exact fin p b acc A I (by omega) hn hR h
theorem s_findTokens (hT : TO P o N) (hN : N < 2 ^ 30) (hs : s.length ≤ N) {I : mI} (hn : I o 5 = nI s.length) (hc : Rc (I (o + 1)) 0 s) (h0 : I o 6 = nI 0) (h : ∀ I', FrT o I I' → TR I' o (tks s) → Q (nI 0) I' P) : V E (d + 3) m_Text_findTokens 112 Q 0 [some (.inr o), none, none, none, none] [] 112 I P := by
  refine x_Text_findTokens_0 _ (l_findTokens hT hN hs s.length 0 0 [] [] I (by omega) (by omega) (by omega) (by simp) (by simp) hn hc ⟨h0, fun t k a b ht => by simp at ht⟩ (fun I' hf hr => h I' hf ?_))
  simpa [tks, lxT] using hr
end FT
