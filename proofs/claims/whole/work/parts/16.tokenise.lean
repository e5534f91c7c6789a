/-! The reference's reading of characters. -/
def MO (P : mP) : Prop := P 95 0 = 96 ∧ P 95 1 = 97 ∧ P 95 6 = 98 ∧ P 95 9 = 99 ∧ P 95 10 = 100 ∧ P 95 11 = 101 ∧ P 95 12 = 102 ∧ P 95 13 = 103 ∧ P 95 14 = 104 ∧ P 95 15 = 105 ∧ P 95 19 = 106 ∧ P 95 20 = 107 ∧ P 95 21 = 108 ∧ P 95 23 = 109 ∧ P 95 24 = 110 ∧ P 95 25 = 111
theorem k95 : kk 112 95 = (0, 6) := rfl
theorem k96 : kk 112 96 = (1, 640) := rfl
theorem k97 : kk 112 97 = (1, 128) := rfl
theorem k98 : kk 112 98 = (1, 6) := rfl
theorem k99 : kk 112 99 = (1, 192) := rfl
theorem k100 : kk 112 100 = (1, 192) := rfl
theorem k101 : kk 112 101 = (1, 192) := rfl
theorem k102 : kk 112 102 = (1, 192) := rfl
theorem k103 : kk 112 103 = (1, 192) := rfl
theorem k104 : kk 112 104 = (2, 128) := rfl
theorem k105 : kk 112 105 = (1, 128) := rfl
theorem k106 : kk 112 106 = (1, 10) := rfl
theorem k107 : kk 112 107 = (1, 128) := rfl
theorem k108 : kk 112 108 = (1, 128) := rfl
theorem k109 : kk 112 109 = (1, 128) := rfl
theorem k110 : kk 112 110 = (1, 128) := rfl
theorem k111 : kk 112 111 = (1, 7381) := rfl
theorem nzl (k : Nat) (h : k ≠ 0) : (k ≠ 0) = True := by simp [h]
def rc (k : Nat) : Nat := match k with
  | 4 => 40
  | 5 => 41
  | 6 => 44
  | 7 => 59
  | 8 => 62
  | 9 => 4
  | k => k
section MT
variable {E : XE} {d : Nat} {Q : Int32 → mI → mP → Prop} {I : mI} {P : mP} {s : List Int32} {off : Nat}
theorem s_letter {x : Int32} (h : Q (bI (isL x)) I P) : V E d m_Model_letter 112 Q 0 [some (.inl x)] [] 112 I P := by
  refine x_Model_letter_0 x ?_
  simp only [ltn (n := 97) (by decide), ltn (n := 65) (by decide), nlt (n := 90) (by decide), len (n := 122) (by decide)]
  have ht : (97 ≤ x.toInt ∧ x.toInt ≤ 122) ∨ (65 ≤ x.toInt ∧ x.toInt ≤ 90) → zb (nI 1) ∧ Q (nI 1) I P := fun q => ⟨rfl, by rw [isL, decide_eq_true q] at h; exact h⟩
  have hf : ¬ ((97 ≤ x.toInt ∧ x.toInt ≤ 122) ∨ (65 ≤ x.toInt ∧ x.toInt ≤ 90)) → zb (nI 0) ∧ Q (nI 0) I P := fun q => ⟨rfl, by rw [isL, decide_eq_false q] at h; exact h⟩
  refine ⟨fun a => ⟨fun b => hf (by omega), fun b => ⟨fun c => hf (by omega), fun c => ht (by omega)⟩⟩, fun a => ⟨fun b => ht (by omega), fun b => ⟨fun c => hf (by omega), fun c => ⟨fun e => hf (by omega), fun e => ht (by omega)⟩⟩⟩⟩
theorem s_figure {x : Int32} (h : Q (bI (isD x)) I P) : V E d m_Model_figure 112 Q 0 [some (.inl x)] [] 112 I P := by
  refine x_Model_figure_0 x ?_
  simp only [ltn (n := 48) (by decide), nlt (n := 57) (by decide)]
  have ht : (48 ≤ x.toInt ∧ x.toInt ≤ 57) → zb (nI 1) ∧ Q (nI 1) I P := fun q => ⟨rfl, by rw [isD, decide_eq_true q] at h; exact h⟩
  have hf : ¬ (48 ≤ x.toInt ∧ x.toInt ≤ 57) → zb (nI 0) ∧ Q (nI 0) I P := fun q => ⟨rfl, by rw [isD, decide_eq_false q] at h; exact h⟩
  exact ⟨fun a => hf (by omega), fun a => ⟨fun b => hf (by omega), fun b => ht (by omega)⟩⟩
def isM (x : Int32) : Bool := x == nI 40 || x == nI 41 || x == nI 44 || x == nI 59 || x == nI 62
theorem s_mere {x : Int32} (h : Q (bI (isM x)) I P) : V E d m_Model_mere 112 Q 0 [some (.inl x)] [] 112 I P := by
  refine x_Model_mere_0 x ?_
  unfold isM at h
  refine ⟨fun a => ?_, fun a => ⟨fun b => ?_, fun b => ⟨fun c => ?_, fun c => ⟨fun e => ?_, fun e => ⟨fun g => ?_, fun g => ?_⟩⟩⟩⟩⟩
  · simp [a] at h; exact ⟨rfl, h⟩
  · simp [b] at h; exact ⟨rfl, h⟩
  · simp [c] at h; exact ⟨rfl, h⟩
  · simp [e] at h; exact ⟨rfl, h⟩
  · rw [beq_eq_false_iff_ne.mpr a, beq_eq_false_iff_ne.mpr b, beq_eq_false_iff_ne.mpr c, beq_eq_false_iff_ne.mpr e, beq_eq_false_iff_ne.mpr g] at h
    exact ⟨rfl, h⟩
  · simp [g] at h; exact ⟨rfl, h⟩
theorem isM_val {c : Int32} {r : List Int32} (h1 : isL c = false) (h2 : isD c = false) (h3 : c ≠ nI 36) (hm : isM c = true) : c = nI (rc (tkK c r)) := by
  unfold isM at hm
  simp only [Bool.or_eq_true, beq_iff_eq] at hm
  unfold tkK
  rw [if_neg (by rw [h1]; decide), if_neg (by rw [h2]; decide), if_neg h3]
  rcases hm with (((hm | hm) | hm) | hm) | hm <;> subst hm <;> rfl
theorem isM_not {c : Int32} {r : List Int32} (h1 : isL c = false) (h2 : isD c = false) (h3 : c ≠ nI 36) (hm : isM c = false) : nI 4 = nI (rc (tkK c r)) := by
  unfold isM at hm
  simp only [Bool.or_eq_false_iff, beq_eq_false_iff_ne] at hm
  unfold tkK
  rw [if_neg (by rw [h1]; decide), if_neg (by rw [h2]; decide), if_neg h3, if_neg hm.1.1.1.1, if_neg hm.1.1.1.2, if_neg hm.1.1.2, if_neg hm.1.2, if_neg hm.2]
  rfl
theorem s_sortAt (hM : MO P) (ho : off + s.length ≤ 640) (hc : Rc (I 96) off s) {p : Nat} {c : Int32} (hp : s[p]? = some c) (h : Q (nI (rc (tkK c (s.drop (p + 1))))) I P) : V E (d + 1) m_Model_sortAt 112 Q 0 [some (.inr 95), some (.inl (nI (off + p))), some (.inl (nI (off + s.length))), none] [] 112 I P := by
  have p0 := hM.1
  have hpl : p < s.length := (List.getElem?_eq_some_iff.mp hp).1
  refine x_Model_sortAt_0 _ _ _ ?_
  simp only [k95, p0, k96, nzl 96 (by decide), true_and]
  refine ⟨vp_in_nI (by omega) (by omega), ?_⟩
  rw [clp (by omega), hc p c hp]
  refine s_letter (bz_i (fun a => ?_) (fun a => ?_))
  · refine s_figure (bz_i (fun b => ?_) (fun b => ?_))
    · have odd : c = nI 36 → tkK c (s.drop (p + 1)) = 9 → (Q (nI 4) I P) ∧ isM c = false := fun e h9 => by
        rw [h9] at h
        exact ⟨h, by rw [e]; decide⟩
      refine ⟨fun e => ?_, fun e => ?_⟩
      · refine s_mere (bz_i (fun g => ?_) (fun g => ?_))
        · rw [isM_not a b e g (r := s.drop (p + 1))]
          exact h
        · rw [isM_val a b e g (r := s.drop (p + 1))]
          exact h
      · rw [n1]
        have hk : tkK c (s.drop (p + 1)) = (match s.drop (p + 1) with
          | x :: _ => if isD x = true then 3 else 9
          | [] => 9) := by
          unfold tkK
          rw [if_neg (by rw [a]; decide), if_neg (by rw [b]; decide), if_pos e]
          cases s.drop (p + 1) <;> rfl
        refine pk_le (off + s.length) (off + p + 1) (fun g => ?_) (fun g => ?_)
        · rw [List.drop_eq_nil_of_le (by omega)] at hk odd
          obtain ⟨o1, o2⟩ := odd e hk
          exact s_mere (bz_i (fun _ => o1) (fun q => by rw [o2] at q; cases q))
        · obtain ⟨x, hx, hd⟩ := drop_c (s := s) (p := p + 1) (by omega)
          simp only [p0, k96, nzl 96 (by decide), true_and]
          refine ⟨vp_in_nI (by omega) (by omega), ?_⟩
          rw [clp (by omega), Nat.add_assoc, hc (p + 1) x hx]
          rw [hd] at hk
          dsimp only at hk
          rw [← hd] at hk
          refine s_figure (bz_i (fun c' => ?_) (fun c' => ?_))
          · rw [if_neg (by rw [c']; decide)] at hk
            obtain ⟨o1, o2⟩ := odd e hk
            exact s_mere (bz_i (fun _ => o1) (fun q => by rw [o2] at q; cases q))
          · rw [if_pos c'] at hk
            rw [hk] at h
            exact h
    · have hk : tkK c (s.drop (p + 1)) = 2 := by
        unfold tkK
        rw [if_neg (by rw [a]; decide), if_pos b]
      rw [hk] at h
      exact h
  · have hk : tkK c (s.drop (p + 1)) = 1 := by
      unfold tkK
      rw [if_pos a]
    rw [hk] at h
    exact h
theorem l_endAt1 (hM : MO P) (ho : off + s.length ≤ 640) (hc : Rc (I 96) off s) : ∀ (m p : Nat), s.length - p = m → p ≤ s.length → Q (nI (off + p + tw (gO 1) (s.drop p))) I P → V E (d + 1) m_Model_endAt 112 Q 20 [some (.inr 95), none, some (.inl (nI (off + s.length))), none, some (.inl (nI (off + p)))] [] 112 I P := by
  have p0 := hM.1
  intro m
  induction m with
  | zero =>
    intro p hm hp hq
    have : p = s.length := by omega
    subst this
    refine x_Model_endAt_20 _ _ _ (pk_le (off + s.length) (off + s.length) (fun _ => ?_) (fun h => absurd h (Nat.lt_irrefl _)))
    rw [List.drop_length] at hq
    exact hq
  | succ m ih =>
    intro p hm hp hq
    obtain ⟨x, hx, hd⟩ := drop_c (s := s) (p := p) (by omega)
    have nxt : gO 1 x = true → V E (d + 1) m_Model_endAt 112 Q 20 [some (.inr 95), none, some (.inl (nI (off + s.length))), none, some (.inl (nI (off + p) + nI 1))] [] 112 I P := by
      intro e
      rw [n1, Nat.add_assoc]
      refine ih (p + 1) (by omega) (by omega) ?_
      rw [hd, show tw (gO 1) (x :: s.drop (p + 1)) = tw (gO 1) (s.drop (p + 1)) + 1 from by
        show (if gO 1 x = true then _ else _) = _
        rw [if_pos e]] at hq
      rw [show off + (p + 1) + tw (gO 1) (s.drop (p + 1)) = off + p + (tw (gO 1) (s.drop (p + 1)) + 1) by omega]
      exact hq
    refine x_Model_endAt_20 _ _ _ (pk_le (off + s.length) (off + p) (fun h => by omega) (fun _ => ?_))
    simp only [k95, p0, k96, nzl 96 (by decide), true_and]
    refine ⟨vp_in_nI (by omega) (by omega), ?_⟩
    rw [clp (by omega), hc p x hx]
    refine s_letter (bn_i (fun a => nxt (by unfold gO; rw [a]; cases isD x <;> rfl)) (fun a => ?_))
    simp only [p0, k96, nzl 96 (by decide), true_and]
    refine ⟨vp_in_nI (by omega) (by omega), ?_⟩
    rw [hc p x hx]
    refine s_figure (bz_i (fun b => ?_) (fun b => nxt (by unfold gO; rw [b]; rfl)))
    rw [hd, show tw (gO 1) (x :: s.drop (p + 1)) = 0 from by unfold tw gO; rw [a, b]; rfl] at hq
    exact hq
theorem l_endAt2 (hM : MO P) (ho : off + s.length ≤ 640) (hc : Rc (I 96) off s) : ∀ (m p : Nat), s.length - p = m → p ≤ s.length → Q (nI (off + p + tw (gO 2) (s.drop p))) I P → V E (d + 1) m_Model_endAt 112 Q 63 [some (.inr 95), none, some (.inl (nI (off + s.length))), none, some (.inl (nI (off + p)))] [] 112 I P := by
  have p0 := hM.1
  intro m
  induction m with
  | zero =>
    intro p hm hp hq
    have : p = s.length := by omega
    subst this
    refine x_Model_endAt_63 _ _ _ (pk_le (off + s.length) (off + s.length) (fun _ => ?_) (fun h => absurd h (Nat.lt_irrefl _)))
    rw [List.drop_length] at hq
    exact hq
  | succ m ih =>
    intro p hm hp hq
    obtain ⟨x, hx, hd⟩ := drop_c (s := s) (p := p) (by omega)
    refine x_Model_endAt_63 _ _ _ (pk_le (off + s.length) (off + p) (fun h => by omega) (fun _ => ?_))
    simp only [k95, p0, k96, nzl 96 (by decide), true_and]
    refine ⟨vp_in_nI (by omega) (by omega), ?_⟩
    rw [clp (by omega), hc p x hx]
    refine s_figure (bz_i (fun b => ?_) (fun e => ?_))
    · rw [hd, show tw (gO 2) (x :: s.drop (p + 1)) = 0 from by unfold tw gO; rw [b]; rfl] at hq
      exact hq
    · rw [n1, Nat.add_assoc]
      refine ih (p + 1) (by omega) (by omega) ?_
      rw [hd, show tw (gO 2) (x :: s.drop (p + 1)) = tw (gO 2) (s.drop (p + 1)) + 1 from by
        show (if gO 2 x = true then _ else _) = _
        rw [if_pos (by unfold gO; rw [e]; rfl)]] at hq
      rw [show off + (p + 1) + tw (gO 2) (s.drop (p + 1)) = off + p + (tw (gO 2) (s.drop (p + 1)) + 1) by omega]
      exact hq
theorem rc_eq {k j : Nat} (hk : k < 10) (hj : j = 1 ∨ j = 2 ∨ j = 3) : nI (rc k) = nI j ↔ k = j := by
  have hk' : k = 0 ∨ k = 1 ∨ k = 2 ∨ k = 3 ∨ k = 4 ∨ k = 5 ∨ k = 6 ∨ k = 7 ∨ k = 8 ∨ k = 9 := by omega
  rcases hk' with rfl | rfl | rfl | rfl | rfl | rfl | rfl | rfl | rfl | rfl <;> rcases hj with rfl | rfl | rfl <;> decide
theorem tkK_10 (c : Int32) (r : List Int32) : tkK c r < 10 := by
  unfold tkK
  repeat' split
  all_goals decide
theorem s_endAt (hM : MO P) (ho : off + s.length ≤ 640) (hc : Rc (I 96) off s) {p k : Nat} (hk : k < 10) (hp : p < s.length) (h : Q (nI (off + (p + 1 + tkN k (s.drop (p + 1))))) I P) : V E (d + 1) m_Model_endAt 112 Q 0 [some (.inr 95), some (.inl (nI (off + p))), some (.inl (nI (off + s.length))), some (.inl (nI (rc k))), none] [] 112 I P := by
  refine x_Model_endAt_0 _ _ _ _ ?_
  simp only [rc_eq hk (Or.inl rfl), rc_eq hk (Or.inr (Or.inl rfl)), rc_eq hk (Or.inr (Or.inr rfl))]
  unfold tkN at h
  rw [n1, n1]
  refine ⟨fun a => ?_, fun a => ?_⟩
  · rw [if_neg a] at h
    refine ⟨fun b => ⟨fun c => ?_, fun c => ?_⟩, fun b => ?_⟩
    · rw [if_neg (by omega)] at h
      exact h
    · rw [if_pos (Or.inr c)] at h
      rw [c] at h
      rw [Nat.add_assoc]
      exact l_endAt2 hM ho hc _ (p + 1) rfl (by omega) (by rw [Nat.add_assoc]; exact h)
    · rw [if_pos (Or.inl b)] at h
      rw [b] at h
      rw [Nat.add_assoc]
      exact l_endAt1 hM ho hc _ (p + 1) rfl (by omega) (by rw [Nat.add_assoc]; exact h)
  · rw [if_pos a] at h
    exact h
/-- tokens in the reference's rows, from place base on; their places in c from off on -/
def MR (I : mI) (base off : Nat) (A : List (Nat × Nat × Nat)) : Prop := ∀ (t k a b : Nat), A[t]? = some (k, a, b) → I 99 (base + t) = nI (rc k) ∧ I 100 (base + t) = nI (off + a) ∧ I 101 (base + t) = nI (off + b)
/-- only the rows sort, first and behind change, between lo and hi -/
def FrM (lo hi : Nat) (I I' : mI) : Prop := (∀ m, m ≠ 99 → m ≠ 100 → m ≠ 101 → I' m = I m) ∧ ∀ m j, (j < lo ∨ hi ≤ j) → I' m j = I m j
theorem FrM.rf {lo hi : Nat} {I : mI} : FrM lo hi I I := ⟨fun _ _ _ _ => rfl, fun _ _ _ => rfl⟩
theorem FrM.tr {lo hi : Nat} {I I' I'' : mI} (h : FrM lo hi I I') (h' : FrM lo hi I' I'') : FrM lo hi I I'' := ⟨fun m a b c => (h'.1 m a b c).trans (h.1 m a b c), fun m j hj => (h'.2 m j hj).trans (h.2 m j hj)⟩
def md1 (I : mI) (t : Nat) (k a b : Int32) : mI := uI (uI (uI I 99 t k) 100 t a) 101 t b
theorem md1_fr {I : mI} {t lo hi : Nat} {k a b : Int32} (h1 : lo ≤ t) (h2 : t < hi) : FrM lo hi I (md1 I t k a b) := by
  unfold md1
  refine ⟨fun m h1 h2 h3 => ?_, fun m j hj => ?_⟩
  · rw [uI_n h3, uI_n h2, uI_n h1]
  · have hjt : j ≠ t := by omega
    by_cases e1 : m = 101
    · subst e1
      rw [uI_o hjt, uI_n (by decide), uI_n (by decide)]
    · rw [uI_n e1]
      by_cases e2 : m = 100
      · subst e2
        rw [uI_o hjt, uI_n (by decide)]
      · rw [uI_n e2]
        by_cases e3 : m = 99
        · subst e3
          rw [uI_o hjt]
        · rw [uI_n e3]
theorem md1_mr {I : mI} {base off : Nat} {A : List (Nat × Nat × Nat)} {k a b : Nat} (h : MR I base off A) : MR (md1 I (base + A.length) (nI (rc k)) (nI (off + a)) (nI (off + b))) base off (A ++ [(k, a, b)]) := by
  unfold md1
  intro t k' a' b' ht
  rw [uI_n (by decide : 99 ≠ 101), uI_n (by decide : 99 ≠ 100), uI_n (by decide : 100 ≠ 101)]
  by_cases hl : t < A.length
  · rw [List.getElem?_append_left hl] at ht
    obtain ⟨g1, g2, g3⟩ := h t k' a' b' ht
    rw [uI_o (by omega), uI_o (by omega), uI_o (by omega), uI_n (by decide : 100 ≠ 99), uI_n (by decide : 101 ≠ 100), uI_n (by decide : 101 ≠ 99)]
    exact ⟨g1, g2, g3⟩
  · have e : t = A.length := by
      have := (List.getElem?_eq_some_iff.mp ht).1
      rw [List.length_append] at this
      simp at this
      omega
    subst e
    rw [List.getElem?_append_right (Nat.le_refl _), Nat.sub_self] at ht
    cases ht
    exact ⟨uI_s, uI_s, uI_s⟩
theorem l_comment (hM : MO P) (ho : off + s.length ≤ 640) (hc : Rc (I 96) off s) {base n : Nat} : ∀ (m p : Nat), s.length - p = m → p ≤ s.length → V E (d + 1) m_Model_tokenise 112 Q 11 [some (.inr 95), none, none, some (.inl (nI base)), some (.inl (nI n)), some (.inl (nI (off + (p + cmL (s.drop p))))), some (.inl (nI (off + s.length))), none] [] 112 I P →
    V E (d + 1) m_Model_tokenise 112 Q 60 [some (.inr 95), none, none, some (.inl (nI base)), some (.inl (nI n)), some (.inl (nI (off + p))), some (.inl (nI (off + s.length))), none] [] 112 I P := by
  have p0 := hM.1
  intro m
  induction m with
  | zero =>
    intro p hm hp hq
    have : p = s.length := by omega
    subst this
    refine x_Model_tokenise_60 _ _ _ _ _ (pk_le (off + s.length) (off + s.length) (fun _ => ?_) (fun h => absurd h (Nat.lt_irrefl _)))
    rw [List.drop_length] at hq
    exact hq
  | succ m ih =>
    intro p hm hp hq
    obtain ⟨x, hx, hd⟩ := drop_c (s := s) (p := p) (by omega)
    refine x_Model_tokenise_60 _ _ _ _ _ (pk_le (off + s.length) (off + p) (fun h => by omega) (fun _ => ?_))
    simp only [k95, p0, k96, nzl 96 (by decide), true_and]
    refine ⟨vp_in_nI (by omega) (by omega), ?_⟩
    rw [clp (by omega), hc p x hx]
    rw [hd] at hq
    refine ⟨fun e => ?_, fun e => ?_⟩
    · rw [show cmL (x :: s.drop (p + 1)) = 0 from by unfold cmL tw; rw [e]; rfl] at hq
      exact hq
    · rw [n1, Nat.add_assoc]
      refine ih (p + 1) (by omega) (by omega) ?_
      rw [show cmL (x :: s.drop (p + 1)) = cmL (s.drop (p + 1)) + 1 from by
        unfold cmL
        show (if (!(x == nI 10)) = true then _ else _) = _
        rw [if_pos (by simpa using e)]] at hq
      rw [show p + 1 + cmL (s.drop (p + 1)) = p + (cmL (s.drop (p + 1)) + 1) by omega]
      exact hq
end MT
section MK
variable {E : XE} {d : Nat} {Q : Int32 → mI → mP → Prop} {P : mP} {s : List Int32} {off base : Nat}
theorem l_tokenise (hM : MO P) (ho : off + s.length ≤ 640) (hb : base + s.length ≤ 192) : ∀ (m p : Nat) (acc : List Int32) (A : List (Nat × Nat × Nat)) (I : mI), s.length - p ≤ m → p ≤ s.length → acc.length ≤ p → A.length ≤ p → Rc (I 96) off s → MR I base off A →
    (∀ I', FrM base (base + s.length) I I' → MR I' base off (A ++ psn (p - acc.length) (lx s.length (s.drop p) acc).1) → Q (nI (A ++ psn (p - acc.length) (lx s.length (s.drop p) acc).1).length) I' P) →
    V E (d + 2) m_Model_tokenise 112 Q 11 [some (.inr 95), none, none, some (.inl (nI base)), some (.inl (nI A.length)), some (.inl (nI (off + p))), some (.inl (nI (off + s.length))), none] [] 112 I P := by
  have hM' := hM
  obtain ⟨p0, -, -, p9, p10, p11, -⟩ := hM'
  have fin : ∀ (p : Nat) (acc : List Int32) (A : List (Nat × Nat × Nat)) (I : mI), p = s.length → MR I base off A →
    (∀ I', FrM base (base + s.length) I I' → MR I' base off (A ++ psn (p - acc.length) (lx s.length (s.drop p) acc).1) → Q (nI (A ++ psn (p - acc.length) (lx s.length (s.drop p) acc).1).length) I' P) →
    V E (d + 2) m_Model_tokenise 112 Q 11 [some (.inr 95), none, none, some (.inl (nI base)), some (.inl (nI A.length)), some (.inl (nI (off + p))), some (.inl (nI (off + s.length))), none] [] 112 I P := by
    intro p acc A I hp hR h
    subst hp
    refine x_Model_tokenise_11 _ _ _ _ _ (pk_le (off + s.length) (off + s.length) (fun _ => ?_) (fun h => absurd h (Nat.lt_irrefl _)))
    have := h I FrM.rf
    rw [List.drop_length, lx_nil] at this
    simp only [psn, List.append_nil] at this
    exact this hR
  intro m
  induction m with
  | zero =>
    intro p acc A I hm hp ha hA hc hR h
    exact fin p acc A I (by omega) hR h
  | succ m ih =>
    intro p acc A I hm hp ha hA hc hR h
    by_cases hpl : p < s.length
    · obtain ⟨c, hx, hd⟩ := drop_c (s := s) (p := p) hpl
      obtain ⟨n0, hn0⟩ : ∃ n0, s.length = n0 + 1 := ⟨s.length - 1, by omega⟩
      have hfu : ∀ k a, lx n0 ((s.drop (p + 1)).drop k) a = lx s.length (s.drop (p + 1 + k)) a := fun k a => by
        rw [List.drop_drop]
        exact lx_fuel _ _ _ _ (by rw [List.length_drop]; omega) (by rw [List.length_drop]; omega)
      rw [hd] at h
      have hlx := lx_cons n0 c (s.drop (p + 1)) acc
      rw [← hn0] at hlx
      rw [hlx] at h
      clear hlx
      refine x_Model_tokenise_11 _ _ _ _ _ (pk_le (off + s.length) (off + p) (fun h => by omega) (fun _ => ?_))
      simp only [k95, p0, k96, nzl 96 (by decide), true_and]
      have hin : vp_in (nI (off + p)) 640 := vp_in_nI (by omega) (by omega)
      rw [clp (by omega), hc p c hx]
      have blank : isSp c = true → V E (d + 2) m_Model_tokenise 112 Q 11 [some (.inr 95), none, none, some (.inl (nI base)), some (.inl (nI A.length)), some (.inl (nI (off + p) + nI 1)), some (.inl (nI (off + s.length))), none] [] 112 I P := by
        intro hsp
        rw [n1, Nat.add_assoc]
        rw [if_pos hsp] at h
        have e1 := hfu 0 (acc ++ [c])
        rw [List.drop_zero, Nat.add_zero] at e1
        rw [e1] at h
        refine ih (p + 1) (acc ++ [c]) A I (by omega) (by omega) (by simp; omega) (by omega) hc hR ?_
        rw [show p + 1 - (acc ++ [c]).length = p - acc.length by simp]
        exact h
      refine ⟨hin, fun a32 => blank (by unfold isSp; rw [a32]; decide), fun a32 => ⟨hin, fun a10 => ⟨hin, fun a35 => ?_, fun a35 => ?_⟩, fun a10 => blank (by unfold isSp; rw [a10]; decide)⟩⟩
      · have hsp : isSp c = false := by
          unfold isSp
          simp [a32, a10]
        rw [if_neg (by rw [hsp]; decide), if_neg a35, hfu] at h
        refine s_sortAt hM ho hc hx ?_
        have hkl := tkN_le c (s.drop (p + 1))
        rw [List.length_drop] at hkl
        simp only [p9, p10, k99, k100, nzl 99 (by decide), nzl 100 (by decide), true_and]
        have hin2 : vp_in (nI base + nI A.length) 192 := by rw [nI_add]; exact vp_in_nI (by omega) (by omega)
        refine ⟨hin2, hin2, ?_⟩
        refine s_endAt hM ho ?_ (tkK_10 _ _) hpl ?_
        · rw [uI_n (by decide), uI_n (by decide)]
          exact hc
        · simp only [p11, k101, nzl 101 (by decide), true_and]
          refine ⟨hin2, ?_⟩
          rw [n1, nI_add base, clp (by omega)]
          have e2 : p - acc.length + acc.length = p := by omega
          have e3 : (c :: (s.drop (p + 1)).take (tkN (tkK c (s.drop (p + 1))) (s.drop (p + 1)))).length = 1 + tkN (tkK c (s.drop (p + 1))) (s.drop (p + 1)) := by
            rw [List.length_cons, List.length_take, List.length_drop, Nat.min_eq_left (by omega)]
            omega
          have e4 : A ++ psn (p - acc.length) ((acc, tkK c (s.drop (p + 1)), c :: (s.drop (p + 1)).take (tkN (tkK c (s.drop (p + 1))) (s.drop (p + 1)))) :: (lx s.length (s.drop (p + 1 + tkN (tkK c (s.drop (p + 1))) (s.drop (p + 1)))) []).1) =
              (A ++ [(tkK c (s.drop (p + 1)), p, p + 1 + tkN (tkK c (s.drop (p + 1))) (s.drop (p + 1)))]) ++ psn (p + 1 + tkN (tkK c (s.drop (p + 1))) (s.drop (p + 1))) (lx s.length (s.drop (p + 1 + tkN (tkK c (s.drop (p + 1))) (s.drop (p + 1)))) []).1 := by
            rw [psn_c, e2, e3, ← Nat.add_assoc]
            simp
          dsimp only at h
          rw [e4] at h
          have hR' := md1_mr (k := tkK c (s.drop (p + 1))) (a := p) (b := p + 1 + tkN (tkK c (s.drop (p + 1))) (s.drop (p + 1))) hR
          have hf0 := md1_fr (I := I) (t := base + A.length) (lo := base) (hi := base + s.length) (k := nI (rc (tkK c (s.drop (p + 1))))) (a := nI (off + p)) (b := nI (off + (p + 1 + tkN (tkK c (s.drop (p + 1))) (s.drop (p + 1))))) (by omega) (by omega)
          have hV := ih (p + 1 + tkN (tkK c (s.drop (p + 1))) (s.drop (p + 1))) [] (A ++ [(tkK c (s.drop (p + 1)), p, p + 1 + tkN (tkK c (s.drop (p + 1))) (s.drop (p + 1)))]) _ (by omega) (by omega) (by simp) (by simp; omega) (by rw [hf0.1 96 (by decide) (by decide) (by decide)]; exact hc) hR' (fun I' hf hr => h I' (hf0.tr hf) hr)
          rw [show (A ++ [(tkK c (s.drop (p + 1)), p, p + 1 + tkN (tkK c (s.drop (p + 1))) (s.drop (p + 1)))]).length = A.length + 1 by simp] at hV
          exact hV
      · have hsp : isSp c = false := by rw [a35]; decide
        rw [if_neg (by rw [hsp]; decide), if_pos a35, hfu] at h
        refine l_comment hM ho hc _ p rfl hp ?_
        have hcl : cmL (s.drop (p + 1)) ≤ s.length - (p + 1) := by
          have := tw_le (fun x => !(x == nI 10)) (s.drop (p + 1))
          rw [List.length_drop] at this
          exact this
        have e1 : cmL (s.drop p) = 1 + cmL (s.drop (p + 1)) := by
          rw [hd]
          unfold cmL
          show (if (!(c == nI 10)) = true then _ else _) = _
          rw [if_pos (by rw [a35]; decide), Nat.add_comm]
        have e2 : (acc ++ c :: (s.drop (p + 1)).take (cmL (s.drop (p + 1)))).length = acc.length + (1 + cmL (s.drop (p + 1))) := by
          rw [List.length_append, List.length_cons, List.length_take, List.length_drop, Nat.min_eq_left hcl]
          omega
        rw [e1, ← Nat.add_assoc p]
        refine ih (p + 1 + cmL (s.drop (p + 1))) (acc ++ c :: (s.drop (p + 1)).take (cmL (s.drop (p + 1)))) A I (by omega) (by omega) (by omega) (by omega) hc hR ?_
        rw [e2, show p + 1 + cmL (s.drop (p + 1)) - (acc.length + (1 + cmL (s.drop (p + 1)))) = p - acc.length by omega]
        exact h
    · exact fin p acc A I (by omega) hR h
theorem s_tokenise (hM : MO P) (ho : off + s.length ≤ 640) (hb : base + s.length ≤ 192) {I : mI} (hc : Rc (I 96) off s) (h : ∀ I', FrM base (base + s.length) I I' → MR I' base off (tks s) → Q (nI (tks s).length) I' P) : V E (d + 2) m_Model_tokenise 112 Q 0 [some (.inr 95), some (.inl (nI off)), some (.inl (nI s.length)), some (.inl (nI base)), none, none, none, none] [] 112 I P := by
  refine x_Model_tokenise_0 _ _ _ _ ?_
  rw [nI_add]
  exact l_tokenise hM ho hb s.length 0 [] [] I (by omega) (by omega) (by simp) (by simp) hc (fun t k a b ht => by simp at ht) (fun I' hf hr => h I' hf hr)
end MK
