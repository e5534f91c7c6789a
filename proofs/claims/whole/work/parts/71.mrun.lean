/-! Model.back, run. -/
theorem rpl_R {Z : List ItC} {tr : List Int32} {ar : Nat} {tl : List Int32} : ∀ (n : Nat) (M : List MIt) (p R : Nat) (M' : List MIt) (R' : Nat), rpl Z tr ar tl n M p R = some (M', R') → R ≤ R' ∧ R' ≤ R + n
  | 0, M, p, R, M', R', h => by cases h; omega
  | n + 1, M, p, R, M', R', h => by
    rw [rpl_s] at h
    split at h
    · cases h; omega
    · split at h
      · have := rpl_R n _ _ _ _ _ h
        omega
      · split at h
        · have := rpl_R n _ _ _ _ _ h
          omega
        · cases h
def rcyc (tl : List Int32) : List RlT → List MIt → Nat → Option (List MIt × Nat)
  | [], M, R => some (M, R)
  | (Z, t, ar) :: rs, M, R => match rpl Z t ar tl 1000 M 0 R with
    | some (M2, R2) => rcyc tl rs M2 R2
    | none => none
def rrun (tl : List Int32) (rs : List RlT) : Nat → List MIt → Nat → Nat → Option (List MIt × Nat × Nat)
  | 0, M, R, m => some (M, R, m)
  | n + 1, M, R, m => match rcyc tl rs M R with
    | some (M2, R2) => if R2 ≤ R then some (M2, R2, m + 1) else rrun tl rs n M2 R2 (m + 1)
    | none => none
theorem rcyc_R {tl : List Int32} : ∀ (rs : List RlT) (M : List MIt) (R : Nat) (M' : List MIt) (R' : Nat), rcyc tl rs M R = some (M', R') → R ≤ R' ∧ R' ≤ R + 1000 * rs.length
  | [], M, R, M', R', h => by cases h; simp
  | (Z, t, ar) :: rs, M, R, M', R', h => by
    unfold rcyc at h
    split at h
    · rename_i M2 R2 hp
      have h1 := rpl_R _ _ _ _ _ _ hp
      have h2 := rcyc_R rs _ _ _ _ h
      rw [List.length_cons]
      omega
    · cases h
/-- the rules of the reference -/
def rtx (rs : List RlT) : List (List Int32) := rs.map (fun q => fl q.1 q.2.1)
def RGd (rs : List RlT) : Prop := ∀ Z t ar, (Z, t, ar) ∈ rs → LX Z t ∧ RG Z ar ∧ ∃ dp, le_ true (Z.map (fun z => z.2.1)) = some (ar, dp)
section MU
variable {E : XE} {d : Nat} {Q : Int32 → mI → mP → Prop} {P : mP} {bf ld tl : List Int32} {rs : List RlT} {cy : Int32}
theorem l_mback (hM : MO P) {s mk : List Int32} (hs : s.length ≤ 120) (hmk : mk.length = s.length) {I0 : mI} (hq : ∀ I', (∀ m, m ≠ 96 → m ≠ 97 → I' m = I0 m) → (∀ j, 120 ≤ j → I' 96 j = I0 96 j) → Rc (I' 96) 0 s → Rc (I' 97) 0 mk → Q (nI 0) I' P) : ∀ (n k : Nat) (I : mI), k + n = s.length → I 95 2 = nI s.length → Rc (I 109) 0 s → Rc (I 110) 0 mk → (∀ m, m ≠ 96 → m ≠ 97 → I m = I0 m) → (∀ j, 120 ≤ j → I 96 j = I0 96 j) → Rc (I 96) 0 (s.take k) → Rc (I 97) 0 (mk.take k) → V E d m_Model_back 112 Q 12 [some (.inr 95), none, none, some (.inl (nI k))] [] 112 I P := by
  obtain ⟨p0, p1, -, p9, p10, p11, p12, p13, p14, p15, p19, p20, p21, p23, p24, -⟩ := hM
  intro n
  induction n with
  | zero =>
    intro k I hk h2 a b f1 f2 c1 c2
    refine x_Model_back_12 _ _ ⟨k95, ?_⟩
    rw [h2]
    refine pk_le s.length k (fun _ => hq I f1 f2 ?_ ?_) (fun c => by omega)
    · rw [List.take_of_length_le (by omega)] at c1; exact c1
    · rw [List.take_of_length_le (by omega)] at c2; exact c2
  | succ n ih =>
    intro k I hk h2 a b f1 f2 c1 c2
    have v1 : s[k]? = some s[k] := List.getElem?_eq_getElem (by omega)
    have v2 : mk[k]? = some mk[k] := List.getElem?_eq_getElem (by omega)
    refine x_Model_back_12 _ _ ⟨k95, ?_⟩
    simp only [k95, p0, p1, p23, p24, k96, k97, k109, k110, nzl 96 (by decide), nzl 97 (by decide), nzl 109 (by decide), nzl 110 (by decide), true_and]
    have e110 : (uI I 96 (nI k).toNatClampNeg (I 109 (nI k).toNatClampNeg)) 110 = I 110 := uI_n (by decide)
    rw [e110, h2, clp (show k < 2 ^ 31 by omega), a.at0 v1, b.at0 v2, n1]
    have e96 : (uI (uI I 96 k s[k]) 97 k mk[k]) 96 = upd (I 96) k s[k] := by
      rw [uI_n (by decide)]
      unfold uI
      rw [sI_s]
    have e97 : (uI (uI I 96 k s[k]) 97 k mk[k]) 97 = upd (I 97) k mk[k] := by
      have : (uI I 96 k s[k]) 97 = I 97 := uI_n (by decide)
      show (sI (uI I 96 k s[k]) 97 (upd ((uI I 96 k s[k]) 97) k mk[k])) 97 = _
      rw [sI_s, this]
    have tk1 : s.take (k + 1) = s.take k ++ [s[k]] := List.take_succ_eq_append_getElem (by omega)
    have tk2 : mk.take (k + 1) = mk.take k ++ [mk[k]] := List.take_succ_eq_append_getElem (by omega)
    have l1 : (s.take k).length = k := by rw [List.length_take]; omega
    have l2 : (mk.take k).length = k := by rw [List.length_take]; omega
    refine pk_le s.length k (fun c => by omega) (fun _ => ⟨vp_in_nI (by omega) (by decide), vp_in_nI (by omega) (by decide), vp_in_nI (by omega) (by decide), vp_in_nI (by omega) (by decide), ih (k + 1) _ (by omega) ?_ ?_ ?_ (fun m n1 n2 => ?_) (fun j hj => ?_) ?_ ?_⟩)
    · rw [uI_n (by decide), uI_n (by decide)]; exact h2
    · rw [uI_n (by decide), uI_n (by decide)]; exact a
    · rw [uI_n (by decide), uI_n (by decide)]; exact b
    · rw [uI_n n2, uI_n n1]; exact f1 m n1 n2
    · rw [e96, upd_o (by omega)]; exact f2 j hj
    · rw [e96, tk1]
      have := c1.psh (v := s[k])
      rw [l1, Nat.zero_add] at this
      exact this
    · rw [e97, tk2]
      have := c2.psh (v := mk[k])
      rw [l2, Nat.zero_add] at this
      exact this
theorem m_back (hM : MO P) {s mk s' mk' : List Int32} {rl : List (List Int32)} {R R' : Nat} {I : mI} (hs : s.length ≤ 120) (hmk : mk.length = s.length) (hC : MC I bf ld s' mk' rl R' cy) (a : Rc (I 109) 0 s) (b : Rc (I 110) 0 mk) (hq : ∀ I', FrY I I' → MC I' bf ld s mk rl R cy → Q (nI 0) I' P) : V E d m_Model_back 112 Q 0 [some (.inr 95), some (.inl (nI s.length)), some (.inl (nI R)), none] [] 112 I P := by
  refine x_Model_back_0 _ _ _ ⟨k95, k95, ?_⟩
  obtain ⟨⟨b1, b2, b3⟩, ⟨c1, c2, c3⟩, -, -, ⟨e1, e2, e3⟩, -, g1⟩ := hC
  refine l_mback (I0 := uI (uI I 95 2 (nI s.length)) 95 7 (nI R)) hM hs hmk (fun I' f1 f2 r1 r2 => hq I' (fun m hm => ?_) ?_) s.length 0 _ (by omega) ?_ ?_ ?_ (fun _ _ _ => rfl) (fun _ _ => rfl) (fun j x hx => by simp at hx) (fun j x hx => by simp at hx)
  · rw [f1 m (by omega) (by omega), uI_n (by omega), uI_n (by omega)]
  · have e95 : ∀ j, j ≠ 2 → j ≠ 7 → I' 95 j = I 95 j := fun j n1 n2 => by rw [f1 95 (by decide) (by decide), uI_o n2, uI_o n1]
    have e96 : ∀ j, 120 ≤ j → I' 96 j = I 96 j := fun j hj => by rw [f2 j hj, uI_n (by decide), uI_n (by decide)]
    refine ⟨⟨by rw [e95 4 (by decide) (by decide)]; exact b1, fun j v hv => ?_, b3⟩, ⟨by rw [e95 3 (by decide) (by decide)]; exact c1, fun j v hv => ?_, c3⟩, ⟨?_, r1, hs⟩, ⟨r2, hmk⟩, ⟨by rw [e95 5 (by decide) (by decide)]; exact e1, e2, fun r v hv => ?_⟩, ?_, by rw [e95 8 (by decide) (by decide)]; exact g1⟩
    · rw [e96 _ (by omega)]; exact b2 j v hv
    · rw [e96 _ (by omega)]; exact c2 j v hv
    · rw [f1 95 (by decide) (by decide), uI_o (by decide), uI_s]
    · obtain ⟨q1, q2, q3⟩ := e3 r v hv
      refine ⟨by rw [f1 98 (by decide) (by decide), uI_n (by decide), uI_n (by decide)]; exact q1, fun j w hw => ?_, q3⟩
      rw [e96 _ (by omega)]
      exact q2 j w hw
    · rw [f1 95 (by decide) (by decide), uI_s]
  · rw [uI_o (by decide), uI_s]
  · rw [uI_n (by decide), uI_n (by decide)]; exact a
  · rw [uI_n (by decide), uI_n (by decide)]; exact b
theorem FrY.o {I I' : mI} (h : FrY I I') : I' 109 = I 109 ∧ I' 110 = I 110 := ⟨h 109 (by omega), h 110 (by omega)⟩
/-- one cycle -/
theorem l_mcyc (hM : MO P) (hG : RGd rs) {N0 : List MIt} {R0 : Nat} (h120 : (fl (N0.map un) tl).length ≤ 120) {x1 x4 x6 : Int32} {I0 : mI} {M0 : List MIt} {Rb : Nat}
    (hno : ∀ I', rcyc tl rs M0 Rb = none → (∀ m, (m < 95 ∨ 110 < m) → I' m = I0 m) → MCz I' bf ld N0 tl (rtx rs) R0 cy → Q (-(nI 2)) I' P)
    (hyes : ∀ I' M' R', rcyc tl rs M0 Rb = some (M', R') → FrY I0 I' → MCz I' bf ld M' tl (rtx rs) R' cy → LX (M'.map un) tl → V E (d + 6) m_Model_run 112 Q 95 [some (.inr 95), some (.inl x1), some (.inl (nI (fl (N0.map un) tl).length)), some (.inl (nI R0)), some (.inl x4), none, some (.inl x6), some (.inl (nI rs.length))] [] 112 I' P) (h109 : Rc (I0 109) 0 (fl (N0.map un) tl)) (h110 : Rc (I0 110) 0 (fl (N0.map um) (List.replicate tl.length (nI 0)))) : ∀ (n r : Nat) (M : List MIt) (R : Nat) (I : mI), r + n = rs.length → R + 1000 * n < 2 ^ 28 → rcyc tl rs M0 Rb = rcyc tl (rs.drop r) M R → FrY I0 I → MCz I bf ld M tl (rtx rs) R cy → LX (M.map un) tl → V E (d + 6) m_Model_run 112 Q 95 [some (.inr 95), some (.inl x1), some (.inl (nI (fl (N0.map un) tl).length)), some (.inl (nI R0)), some (.inl x4), none, some (.inl x6), some (.inl (nI r))] [] 112 I P := by
  intro n
  induction n with
  | zero =>
    intro r M R I hr hR he fr hC hL
    have : r = rs.length := by omega
    subst this
    rw [List.drop_length] at he
    exact hyes I M R he fr hC hL
  | succ n ih =>
    intro r M R I hr hR he fr hC hL
    obtain ⟨⟨Z, t, ar⟩, hz⟩ : ∃ q, rs[r]? = some q := ⟨_, List.getElem?_eq_getElem (by omega)⟩
    obtain ⟨hLZ, hRG, dp, hle⟩ := hG Z t ar (List.mem_of_getElem? hz)
    have hrl : (rtx rs)[r]? = some (fl Z t) := by unfold rtx; rw [List.getElem?_map, hz]; rfl
    have e6 : (rtx rs).length = rs.length := List.length_map _
    have h6 := hC.2.2.2.2.1.2.1
    rw [drop_it hz] at he
    have he2 : rcyc tl ((Z, t, ar) :: rs.drop (r + 1)) M R = match rpl Z t ar tl 1000 M 0 R with
      | some (M2, R2) => rcyc tl (rs.drop (r + 1)) M2 R2
      | none => none := rfl
    rw [he2] at he
    refine x_Model_run_95 _ _ _ _ _ _ _ ⟨k95, ?_⟩
    rw [hC.2.2.2.2.1.1, e6]
    refine pk_le rs.length r (fun c => by omega) (fun _ => ⟨k95, m_pass (d := d) hM hrl hLZ hle hRG (by omega) hC hL (fun I1 M1 R1 e1 f1 hC1 hL1 => ⟨fun _ => ?_, fun c => absurd c (by decide)⟩) (fun I1 s1 mk1 R1 e1 f1 hC1 => ⟨fun c => absurd rfl c, fun _ => ⟨k95, ?_⟩⟩)⟩)
    · rw [n1]
      rw [e1] at he
      have := rpl_R _ _ _ _ _ _ e1
      exact ih (r + 1) M1 R1 I1 (by omega) (by omega) he (fr.tr f1) hC1 hL1
    · rw [e1] at he
      have fo := (fr.tr f1).o
      exact m_back hM h120 (fl_ul N0 tl (nI 0)) hC1 (by rw [fo.1]; exact h109) (by rw [fo.2]; exact h110) (fun I2 f2 hC2 => hno I2 he (fun m hm => by rw [f2 m (by omega), f1 m (by omega), fr m (by omega)]) hC2)
theorem l_mrun (hM : MO P) (hG : RGd rs) {N0 : List MIt} {R0 most : Nat} (hm9 : most ≤ 9) (h6 : rs.length ≤ 6) (h120 : (fl (N0.map un) tl).length ≤ 120) {I0 : mI} {M0 : List MIt} {Rb : Nat} {n0 : Nat}
    (hno : ∀ I', rrun tl rs n0 M0 Rb 0 = none → (∀ m, (m < 95 ∨ 110 < m) → I' m = I0 m) → MCz I' bf ld N0 tl (rtx rs) R0 cy → Q (-(nI 2)) I' P)
    (hyes : ∀ I' M' R' m', rrun tl rs n0 M0 Rb 0 = some (M', R', m') → (∀ m, (m < 95 ∨ 110 < m) → I' m = I0 m) → MCz I' bf ld M' tl (rtx rs) R' (nI m') → LX (M'.map un) tl → R0 ≤ R' → Q (nI (R' - R0)) I' P) (h109 : Rc (I0 109) 0 (fl (N0.map un) tl)) (h110 : Rc (I0 110) 0 (fl (N0.map um) (List.replicate tl.length (nI 0)))) : ∀ (n k : Nat) (M : List MIt) (R : Nat) (I : mI), k + n = most → R0 ≤ R → R + 6000 * n < 2 ^ 28 → rrun tl rs n0 M0 Rb 0 = rrun tl rs n M R k → FrY I0 I → MCz I bf ld M tl (rtx rs) R cy → LX (M.map un) tl → V E (d + 6) m_Model_run 112 Q 75 [some (.inr 95), some (.inl (nI most)), some (.inl (nI (fl (N0.map un) tl).length)), some (.inl (nI R0)), some (.inl (nI k)), some (.inl (nI 1)), none, none] [] 112 I P := by
  have fin : ∀ (M : List MIt) (R k : Nat) (I : mI), R0 ≤ R → R < 2 ^ 28 → rrun tl rs n0 M0 Rb 0 = some (M, R, k) → FrY I0 I → MCz I bf ld M tl (rtx rs) R cy → LX (M.map un) tl → Q ((uI I 95 8 (nI k)) 95 7 - nI R0) (uI I 95 8 (nI k)) P := by
    intro M R k I hRR hR he fr hC hL
    have h7 : (uI I 95 8 (nI k)) 95 7 = nI R := by rw [uI_o (by decide)]; exact hC.2.2.2.2.2.1
    rw [h7, pk_sub hRR]
    refine hyes _ M R k he (fun m hm => by rw [uI_n (by omega), fr m (by omega)]) ?_ hL hRR
    obtain ⟨⟨b1, b2, b3⟩, ⟨c1, c2, c3⟩, ⟨d1, d2, d3⟩, ⟨e1, e2⟩, ⟨g1, g2, g3⟩, i1, -⟩ := hC
    have u : ∀ m, m ≠ 95 → (uI I 95 8 (nI k)) m = I m := fun m hm => uI_n hm
    refine ⟨⟨by rw [uI_o (by decide)]; exact b1, by rw [u 96 (by decide)]; exact b2, b3⟩, ⟨by rw [uI_o (by decide)]; exact c1, by rw [u 96 (by decide)]; exact c2, c3⟩, ⟨by rw [uI_o (by decide)]; exact d1, by rw [u 96 (by decide)]; exact d2, d3⟩, ⟨by rw [u 97 (by decide)]; exact e1, e2⟩, ⟨by rw [uI_o (by decide)]; exact g1, g2, fun r v hv => ?_⟩, by rw [uI_o (by decide)]; exact i1, uI_s⟩
    rw [u 96 (by decide), u 98 (by decide)]
    exact g3 r v hv
  intro n
  induction n with
  | zero =>
    intro k M R I hk hRR hR he fr hC hL
    exact x_Model_run_75 _ _ _ _ _ _ (pk_le most k (fun _ => ⟨k95, k95, fin M R k I hRR (by omega) he fr hC hL⟩) (fun c => by omega))
  | succ n ih =>
    intro k M R I hk hRR hR he fr hC hL
    refine x_Model_run_75 _ _ _ _ _ _ (pk_le most k (fun c => by omega) (fun _ => ⟨fun c => absurd c (by decide), fun _ => ⟨k95, ?_⟩⟩))
    rw [hC.2.2.2.2.2.1]
    have he2 : rrun tl rs (n + 1) M R k = match rcyc tl rs M R with
      | some (M2, R2) => if R2 ≤ R then some (M2, R2, k + 1) else rrun tl rs n M2 R2 (k + 1)
      | none => none := rfl
    rw [he2] at he
    have fo := fr.o
    refine l_mcyc (I0 := I) (M0 := M) (Rb := R) hM hG h120 (fun I1 e1 f1 hC1 => ?_) (fun I1 M1 R1 e1 f1 hC1 hL1 => ?_) (by rw [fo.1]; exact h109) (by rw [fo.2]; exact h110) rs.length 0 M R I (by omega) (by omega) (by rw [List.drop_zero]) (fun _ _ => rfl) hC hL
    · rw [e1] at he
      exact hno I1 he (fun m hm => by rw [f1 m hm, fr m (by omega)]) hC1
    · rw [e1] at he
      dsimp only at he
      have hRR1 := rcyc_R _ _ _ _ _ e1
      have e6 : (rtx rs).length = rs.length := List.length_map _
      refine x_Model_run_95 _ _ _ _ _ _ _ ⟨k95, ?_⟩
      rw [hC1.2.2.2.2.1.1, e6, hC1.2.2.2.2.2.1]
      refine pk_le rs.length rs.length (fun _ => ⟨k95, pk_le R1 R (fun c => ?_) (fun c => ?_)⟩) (fun c => by omega)
      · rw [if_pos c] at he
        refine x_Model_run_144 _ _ _ _ _ _ ?_
        rw [n1]
        refine x_Model_run_75 _ _ _ _ _ _ (pk_le most (k + 1) (fun _ => ⟨k95, k95, fin M1 R1 (k + 1) I1 (by omega) (by omega) he (fr.tr f1) hC1 hL1⟩) (fun _ => ⟨fun _ => ⟨k95, k95, fin M1 R1 (k + 1) I1 (by omega) (by omega) he (fr.tr f1) hC1 hL1⟩, fun cc => absurd rfl cc⟩))
      · rw [if_neg (by omega)] at he
        refine x_Model_run_144 _ _ _ _ _ _ ?_
        rw [n1]
        exact ih (k + 1) M1 R1 I1 (by omega) (by omega) (by omega) he (fr.tr f1) hC1 hL1
theorem l_msave (hM : MO P) {s mk : List Int32} {rl : List (List Int32)} {R : Nat} {x1 x3 : Int32} (hs : s.length ≤ 120) {I0 : mI} (hq : ∀ I', (∀ m, m ≠ 109 → m ≠ 110 → I' m = I0 m) → Rc (I' 109) 0 s → Rc (I' 110) 0 mk → V E (d + 1) m_Model_run 112 Q 75 [some (.inr 95), some (.inl x1), some (.inl (nI s.length)), some (.inl x3), some (.inl (nI 0)), some (.inl (nI 1)), none, none] [] 112 I' P) : ∀ (n k : Nat) (I : mI), k + n = s.length → MC I bf ld s mk rl R cy → (∀ m, m ≠ 109 → m ≠ 110 → I m = I0 m) → Rc (I 109) 0 (s.take k) → Rc (I 110) 0 (mk.take k) → V E (d + 1) m_Model_run 112 Q 26 [some (.inr 95), some (.inl x1), some (.inl (nI s.length)), some (.inl x3), some (.inl (nI k)), none, none, none] [] 112 I P := by
  obtain ⟨p0, p1, -, p9, p10, p11, p12, p13, p14, p15, p19, p20, p21, p23, p24, -⟩ := hM
  intro n
  induction n with
  | zero =>
    intro k I hk hC f1 c1 c2
    refine x_Model_run_26 _ _ _ _ _ ⟨k95, ?_⟩
    rw [hC.2.2.1.1]
    have hmk := hC.2.2.2.1.2
    refine pk_le s.length k (fun _ => hq I f1 ?_ ?_) (fun c => by omega)
    · rw [List.take_of_length_le (by omega)] at c1; exact c1
    · rw [List.take_of_length_le (by omega)] at c2; exact c2
  | succ n ih =>
    intro k I hk hC f1 c1 c2
    have hmk := hC.2.2.2.1.2
    have v1 : s[k]? = some s[k] := List.getElem?_eq_getElem (by omega)
    have v2 : mk[k]? = some mk[k] := List.getElem?_eq_getElem (by omega)
    refine x_Model_run_26 _ _ _ _ _ ⟨k95, ?_⟩
    simp only [k95, p0, p1, p23, p24, k96, k97, k109, k110, nzl 96 (by decide), nzl 97 (by decide), nzl 109 (by decide), nzl 110 (by decide), true_and]
    have e97 : (uI I 109 (nI k).toNatClampNeg (I 96 (nI k).toNatClampNeg)) 97 = I 97 := uI_n (by decide)
    rw [e97, hC.2.2.1.1, clp (show k < 2 ^ 31 by omega), hC.2.2.1.2.1.at0 v1, hC.2.2.2.1.1.at0 v2, n1]
    have e109 : (uI (uI I 109 k s[k]) 110 k mk[k]) 109 = upd (I 109) k s[k] := by
      rw [uI_n (by decide)]
      unfold uI
      rw [sI_s]
    have e110 : (uI (uI I 109 k s[k]) 110 k mk[k]) 110 = upd (I 110) k mk[k] := by
      have : (uI I 109 k s[k]) 110 = I 110 := uI_n (by decide)
      show (sI (uI I 109 k s[k]) 110 (upd ((uI I 109 k s[k]) 110) k mk[k])) 110 = _
      rw [sI_s, this]
    have tk1 : s.take (k + 1) = s.take k ++ [s[k]] := List.take_succ_eq_append_getElem (by omega)
    have tk2 : mk.take (k + 1) = mk.take k ++ [mk[k]] := List.take_succ_eq_append_getElem (by omega)
    have l1 : (s.take k).length = k := by rw [List.length_take]; omega
    have l2 : (mk.take k).length = k := by rw [List.length_take]; omega
    refine pk_le s.length k (fun c => by omega) (fun _ => ⟨vp_in_nI (by omega) (by decide), vp_in_nI (by omega) (by decide), vp_in_nI (by omega) (by decide), vp_in_nI (by omega) (by decide), ih (k + 1) _ (by omega) ?_ (fun m n1 n2 => ?_) ?_ ?_⟩)
    · exact hC.fr (fun j _ => by rw [uI_n (by decide), uI_n (by decide)]) (fun m x1 x2 => by rw [uI_n (by omega), uI_n (by omega)])
    · rw [uI_n n2, uI_n n1]; exact f1 m n1 n2
    · rw [e109, tk1]
      have := c1.psh (v := s[k])
      rw [l1, Nat.zero_add] at this
      exact this
    · rw [e110, tk2]
      have := c2.psh (v := mk[k])
      rw [l2, Nat.zero_add] at this
      exact this
theorem m_run (hM : MO P) (hG : RGd rs) {M : List MIt} {R : Nat} (hR : R < 2 ^ 27) {I : mI} (hC : MCz I bf ld M tl (rtx rs) R cy) (hL : LX (M.map un) tl) {x : Int32}
    (hx : (∀ n, 1 ≤ n → n ≤ 9 → x ≠ nI n) → Q (-(nI 1)) I P)
    (h1 : ∀ n I' M' R' m', 1 ≤ n → n ≤ 9 → x = nI n → rrun tl rs n M R 0 = some (M', R', m') → R ≤ R' → (∀ m, (m < 95 ∨ 110 < m) → I' m = I m) → MCz I' bf ld M' tl (rtx rs) R' (nI m') → LX (M'.map un) tl → Q (nI (R' - R)) I' P)
    (h0 : ∀ n I', 1 ≤ n → n ≤ 9 → x = nI n → rrun tl rs n M R 0 = none → (∀ m, (m < 95 ∨ 110 < m) → I' m = I m) → MCz I' bf ld M tl (rtx rs) R cy → Q (-(nI 2)) I' P) : V E (d + 6) m_Model_run 112 Q 0 [some (.inr 95), some (.inl x), none, none, none, none, none, none] [] 112 I P := by
  have hs := hC.2.2.1.2.2
  have e6 : (rtx rs).length = rs.length := List.length_map _
  have h6 := hC.2.2.2.2.1.2.1
  refine x_Model_run_0 _ _ ⟨fun c => hx (fun n a b e => ?_), fun c => ⟨fun c2 => ⟨k95, k95, ?_⟩, fun c2 => hx (fun n a b e => ?_)⟩⟩
  · subst e
    rw [ltn (by decide), nI_t (by omega)] at c
    omega
  · rw [ltn (by decide)] at c
    rw [len (by decide)] at c2
    obtain ⟨n, hn, rfl⟩ : ∃ n : Nat, n ≤ 9 ∧ x = nI n := ⟨x.toInt.toNat, by omega, by rw [eqn (by omega)]; omega⟩
    rw [nI_t (by omega)] at c
    rw [hC.2.2.1.1, hC.2.2.2.2.2.1]
    refine l_msave (d := d + 5) (I0 := I) hM hs (fun I1 f1 r1 r2 => ?_) (fl (M.map un) tl).length 0 I (by omega) hC (fun _ _ _ => rfl) (fun j y hy => by simp at hy) (fun j y hy => by simp at hy)
    have hC1 : MCz I1 bf ld M tl (rtx rs) R cy := hC.fr (fun j _ => by rw [f1 95 (by decide) (by decide)]) (fun m a b => f1 m (by omega) (by omega))
    have fI : ∀ I' : mI, (∀ m, (m < 95 ∨ 110 < m) → I' m = I1 m) → ∀ m, (m < 95 ∨ 110 < m) → I' m = I m := fun I' h m hm => by rw [h m hm, f1 m (by omega) (by omega)]
    exact l_mrun (I0 := I1) (M0 := M) (Rb := R) (n0 := n) hM hG hn (by omega) hs (fun I2 e2 f2 hC2 => h0 n I2 (by omega) hn rfl e2 (fI I2 f2) hC2) (fun I2 M2 R2 m2 e2 f2 hC2 hL2 hR2 => h1 n I2 M2 R2 m2 (by omega) hn rfl e2 hR2 (fI I2 f2) hC2 hL2) r1 r2 n 0 M R I1 (by omega) (Nat.le_refl _) (by omega) rfl (fun _ _ => rfl) hC1 hL
  · subst e
    rw [len (by decide), nI_t (by omega)] at c2
    omega
end MU
