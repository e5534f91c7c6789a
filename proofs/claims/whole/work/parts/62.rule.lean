/-! Model.readRule, sameToken, sameTokens. -/
/-- a rule's text, read -/
def RdR (I : mI) (off : Nat) (x : List Int32) : Prop := I 95 18 = nI (tks x).length ∧ MR I 128 off (tks x) ∧ (∀ t, t < (kds x).length → LDR true I 128 (kds x) t) ∧ Rc (I 96) off x
theorem kds_len (s : List Int32) : (kds s).length = (tks s).length := by unfold kds; rw [List.length_map]
theorem RdR.fr {I I' : mI} {off : Nat} {x : List Int32} (h : RdR I off x) (h18 : I' 95 18 = I 95 18) (hf : ∀ m j, 99 ≤ m → m ≤ 103 → 128 ≤ j → I' m j = I m j) (h96 : ∀ j, off ≤ j → I' 96 j = I 96 j) : RdR I' off x := by
  obtain ⟨a, b, c, e⟩ := h
  refine ⟨by rw [h18]; exact a, fun t k p q ht => ?_, fun t ht => ?_, fun j y hy => ?_⟩
  · rw [hf 99 _ (by omega) (by omega) (by omega), hf 100 _ (by omega) (by omega) (by omega), hf 101 _ (by omega) (by omega) (by omega)]
    exact b t k p q ht
  · exact (c t ht).kept (hf 102 _ (by omega) (by omega) (by omega)) (hf 103 _ (by omega) (by omega) (by omega))
  · rw [h96 _ (by omega)]
    exact e j y hy
theorem RdR.rd {I I' : mI} {off : Nat} {x : List Int32} (h : RdR I off x) (hf : FrR I I') : RdR I' off x :=
  h.fr (hf.2.1 18 (by decide) (by decide)) (fun m j a b c => hf.2.2 m j a b (by omega)) (fun j _ => by rw [hf.1 96 (by decide) (by decide)])
/-- what readRule changes -/
def FrQ (I I' : mI) : Prop := (∀ m, m ≠ 95 → (m < 99 ∨ 103 < m) → I' m = I m) ∧ (∀ j, j ≠ 18 → I' 95 j = I 95 j) ∧ ∀ m j, 99 ≤ m → m ≤ 103 → j < 128 → I' m j = I m j
theorem FrQ.mc {I I' : mI} {bf ld s mk : List Int32} {rl : List (List Int32)} {R : Nat} {cy : Int32} (hf : FrQ I I') (h : MC I bf ld s mk rl R cy) : MC I' bf ld s mk rl R cy := h.fr (fun j hj => hf.2.1 j (by omega)) (fun m a b => hf.1 m (by omega) (by omega))
section RR
variable {E : XE} {d : Nat} {Q : Int32 → mI → mP → Prop} {P : mP}
theorem m_readRule (hM : MO P) {off : Nat} {x : List Int32} (hx : x.length ≤ 60) (ho : off + x.length ≤ 640) {I : mI} (hc : Rc (I 96) off x) (h : ∀ I', FrQ I I' → RdR I' off x → Q (nI 0) I' P) : V E (d + 3) m_Model_readRule 112 Q 0 [some (.inr 95), some (.inl (nI off)), some (.inl (nI x.length))] [] 112 I P := by
  have htl := tks_len x
  have hkl := kds_len x
  refine x_Model_readRule_0 _ _ _ ⟨k95, ?_⟩
  refine s_tokenise hM ho (by omega) hc (fun I1 hf1 hr1 => ⟨k95, k95, k95, ?_⟩)
  rw [uI_s, ← hkl]
  have hr1' : MR (uI I1 95 18 (nI (kds x).length)) 128 off (tks x) := fun t k a b ht => by
    rw [uI_n (by decide), uI_n (by decide), uI_n (by decide)]
    exact hr1 t k a b ht
  refine s_structure (hol := true) (ks := kds x) hM (by omega) (kds_k10 x) (by simp) hr1'.ms (fun I2 hf2 hl2 => h I2 ⟨fun m hm hm2 => ?_, fun j hj => ?_, fun m j h1 h2 hj => ?_⟩ ⟨?_, fun t k a b ht => ?_, hl2, fun j y hy => ?_⟩)
  · rw [hf2.1 m (by simp; omega), uI_n hm, hf1.1 m (by omega) (by omega) (by omega)]
  · rw [hf2.1 95 (by decide), uI_o hj, hf1.1 95 (by decide) (by decide) (by decide)]
  · rw [hf2.2 m j (by omega), uI_n (by omega), hf1.2 m j (by omega)]
  · rw [hf2.1 95 (by decide), uI_s, hkl]
  · rw [hf2.1 99 (by decide), hf2.1 100 (by decide), hf2.1 101 (by decide)]
    exact hr1' t k a b ht
  · rw [hf2.1 96 (by decide), uI_n (by decide), hf1.1 96 (by decide) (by decide) (by decide)]
    exact hc j y hy
/-- a word has one kind -/
theorem okw_k {k k' : Nat} {w r r' : List Int32} (h : okw k w r) (h' : okw k' w r') : k = k' := by
  obtain ⟨c, cs, rfl, -, -, h1, h2⟩ := h
  obtain ⟨c', cs', e, -, -, h3, h4⟩ := h'
  injection e with e1 e2
  subst e1; subst e2
  cases cs with
  | cons y ys =>
    rw [← h1, ← h3]
    rfl
  | nil =>
    have key : ∀ (k : Nat) (r : List Int32), tkK c r = k → tkN k r = 0 → k = tkK c [] := by
      intro k r a b
      unfold tkK at a ⊢
      split at a
      · rw [if_pos (by assumption)]; exact a.symm
      · rw [if_neg (by assumption)]
        split at a
        · rw [if_pos (by assumption)]; exact a.symm
        · rw [if_neg (by assumption)]
          split at a
          · rw [if_pos (by assumption)]
            cases r with
            | nil => exact a.symm
            | cons y ys =>
              dsimp only at a
              split at a
              · rw [← a] at b
                exact absurd b (by unfold tkN; rw [if_pos rfl]; decide)
              · exact a.symm
          · rw [if_neg (by assumption)]; exact a.symm
    exact (key k _ h1 h2).trans (key k' _ h3 h4).symm
theorem tkw_k {s s' : List Int32} {t u : Nat} (ht : t < (tks s).length) (hu : u < (tks s').length) (h : tkw s (tks s) t = tkw s' (tks s') u) : (kds s)[t]? = (kds s')[u]? := by
  have key : ∀ (s : List Int32) (t : Nat), t < (tks s).length → ∃ sp k w r, okw k w r ∧ (kds s)[t]? = some k ∧ tkw s (tks s) t = some w ∧ (lxT s).1[t]? = some (sp, k, w) := by
    intro s t ht
    have hZ : (tks s).length = (lxT s).1.length := by unfold tks; rw [psn_len]
    obtain ⟨z, hz⟩ : ∃ z, (lxT s).1[t]? = some z := ⟨_, List.getElem?_eq_getElem (by omega)⟩
    obtain ⟨sp, k, w⟩ := z
    have hok := (LX_at (lxT_ok s).1 hz).2
    refine ⟨sp, k, w, _, hok, ?_, ?_, hz⟩
    · unfold kds tks
      rw [kds_psn, List.getElem?_map, hz]
      rfl
    · unfold tkw
      rw [if_pos ht]
      have e := (sub_psn (Z := (lxT s).1) (R := []) (t := (lxT s).2) (f := t) (b := t + 1) (k := k) (sp := sp) (w := w) (by omega) (by omega) (by rw [drop_it hz, show t + 1 - t = 1 by omega]; rfl)).2.2
      rw [(lxT_ok s).2, Nat.add_sub_cancel] at e
      unfold tks
      rw [e]
      simp [fl]
  obtain ⟨-, k, w, r, a1, a2, a3, -⟩ := key s t ht
  obtain ⟨-, k', w', r', b1, b2, b3, -⟩ := key s' u hu
  rw [a3, b3] at h
  cases h
  rw [a2, b2, okw_k a1 b1]
/-- tokens of a text, as the reference has them -/
def TK (I : mI) (base off : Nat) (s : List Int32) : Prop := MR I base off (tks s) ∧ Rc (I 96) off s ∧ base + (tks s).length ≤ 192 ∧ off + s.length ≤ 640
theorem tst_bd {s : List Int32} {t : Nat} (ht : t < (tks s).length) : tst (tks s) t < ten (tks s) t ∧ ten (tks s) t ≤ s.length := by
  have e : (tks s)[t]? = some (tks s)[t] := List.getElem?_eq_getElem ht
  have := tks_bd s _ (List.getElem_mem ht)
  unfold tst ten
  rw [e]
  exact this
theorem l_mSameToken (hM : MO P) {I : mI} {b1 o1 b2 o2 : Nat} {s1 s2 : List Int32} (h1 : TK I b1 o1 s1) (h2 : TK I b2 o2 s2) {t u : Nat} (ht : t < (tks s1).length) (hu : u < (tks s2).length) (hw : ten (tks s1) t - tst (tks s1) t = ten (tks s2) u - tst (tks s2) u) : ∀ (m p : Nat), p + m = ten (tks s1) t - tst (tks s1) t → ((∀ j, p ≤ j → j < ten (tks s1) t - tst (tks s1) t → s1[tst (tks s1) t + j]? = s2[tst (tks s2) u + j]?) → Q (nI 1) I P) → (∀ j, p ≤ j → j < ten (tks s1) t - tst (tks s1) t → s1[tst (tks s1) t + j]? ≠ s2[tst (tks s2) u + j]? → Q (nI 0) I P) → V E d m_Model_sameToken 112 Q 48 [some (.inr 95), some (.inl (nI (b1 + t))), some (.inl (nI (b2 + u))), some (.inl (nI p))] [] 112 I P := by
  obtain ⟨m1, r1, c1, e1⟩ := h1
  obtain ⟨m2, r2, c2, e2⟩ := h2
  obtain ⟨p0, p1, -, p9, p10, p11, p12, -⟩ := hM
  obtain ⟨q1, q2⟩ := m1.at ht
  obtain ⟨q3, q4⟩ := m2.at hu
  obtain ⟨z1, z2⟩ := tst_bd ht
  obtain ⟨z3, z4⟩ := tst_bd hu
  intro m
  induction m with
  | zero =>
    intro p hp a b
    refine x_Model_sameToken_48 _ _ _ _ ?_
    simp only [k95, p10, p11, k100, k101, nzl 100 (by decide), nzl 101 (by decide), true_and]
    rw [clp (show b1 + t < 2 ^ 31 by omega), q1, q2, pk_sub (by omega), show o1 + ten (tks s1) t - (o1 + tst (tks s1) t) = ten (tks s1) t - tst (tks s1) t by omega]
    exact ⟨vp_in_nI (by omega) (by decide), vp_in_nI (by omega) (by decide), pk_le (ten (tks s1) t - tst (tks s1) t) p (fun _ => ⟨rfl, a (fun j h1 h2 => by omega)⟩) (fun c => by omega)⟩
  | succ m ih =>
    intro p hp a b
    refine x_Model_sameToken_48 _ _ _ _ ?_
    simp only [k95, p0, p10, p11, k96, k100, k101, nzl 96 (by decide), nzl 100 (by decide), nzl 101 (by decide), true_and]
    rw [clp (show b1 + t < 2 ^ 31 by omega), clp (show b2 + u < 2 ^ 31 by omega), q1, q2, q3, pk_sub (by omega), show o1 + ten (tks s1) t - (o1 + tst (tks s1) t) = ten (tks s1) t - tst (tks s1) t by omega, nI_add, nI_add, clp (show o1 + tst (tks s1) t + p < 2 ^ 31 by omega), clp (show o2 + tst (tks s2) u + p < 2 ^ 31 by omega), n1]
    have v1 : s1[tst (tks s1) t + p]? = some s1[tst (tks s1) t + p] := List.getElem?_eq_getElem (by omega)
    have v2 : s2[tst (tks s2) u + p]? = some s2[tst (tks s2) u + p] := List.getElem?_eq_getElem (by omega)
    have w1 := r1 _ _ v1
    have w2 := r2 _ _ v2
    rw [show o1 + (tst (tks s1) t + p) = o1 + tst (tks s1) t + p by omega] at w1
    rw [show o2 + (tst (tks s2) u + p) = o2 + tst (tks s2) u + p by omega] at w2
    rw [w1, w2]
    refine ⟨vp_in_nI (by omega) (by decide), vp_in_nI (by omega) (by decide), pk_le (ten (tks s1) t - tst (tks s1) t) p (fun c => by omega) (fun _ => ⟨vp_in_nI (by omega) (by decide), vp_in_nI (by omega) (by decide), vp_in_nI (by omega) (by decide), vp_in_nI (by omega) (by decide), fun c => ih (p + 1) (by omega) (fun hh => a (fun j h1 h2 => ?_)) (fun j h1 h2 => b j (by omega) h2), fun c => ⟨rfl, b p (Nat.le_refl _) (by omega) (by rw [v1, v2]; intro cc; exact c (Option.some.inj cc))⟩⟩)⟩
    by_cases cj : j = p
    · subst cj
      rw [v1, v2, c]
    · exact hh j (by omega) h2
theorem m_sameToken (hM : MO P) {I : mI} {b1 o1 b2 o2 : Nat} {s1 s2 : List Int32} (h1 : TK I b1 o1 s1) (h2 : TK I b2 o2 s2) {t u : Nat} (ht : t < (tks s1).length) (hu : u < (tks s2).length) (hq : Q (bI (sTk s1 (tks s1) t s2 (tks s2) u)) I P) : V E d m_Model_sameToken 112 Q 0 [some (.inr 95), some (.inl (nI (b1 + t))), some (.inl (nI (b2 + u))), none] [] 112 I P := by
  have h1' := h1
  have h2' := h2
  obtain ⟨m1, r1, c1, e1⟩ := h1'
  obtain ⟨m2, r2, c2, e2⟩ := h2'
  have hM' := hM
  obtain ⟨p0, p1, -, p9, p10, p11, p12, -⟩ := hM'
  obtain ⟨q1, q2⟩ := m1.at ht
  obtain ⟨q3, q4⟩ := m2.at hu
  obtain ⟨z1, z2⟩ := tst_bd ht
  obtain ⟨z3, z4⟩ := tst_bd hu
  have hlt : t < (kds s1).length := by rw [kds_len]; exact ht
  have hlu : u < (kds s2).length := by rw [kds_len]; exact hu
  have hkt : (kds s1)[t]? = some (kds s1)[t] := List.getElem?_eq_getElem hlt
  have hku : (kds s2)[u]? = some (kds s2)[u] := List.getElem?_eq_getElem hlu
  have g1 := m1.ms t _ hkt
  have g2 := m2.ms u _ hku
  have k1 := kds_k10 s1 _ (List.mem_of_getElem? hkt)
  have k2 := kds_k10 s2 _ (List.mem_of_getElem? hku)
  have hno : tkw s1 (tks s1) t ≠ tkw s2 (tks s2) u → Q (nI 0) I P := fun c => by
    have : sTk s1 (tks s1) t s2 (tks s2) u = false := decide_eq_false (fun cc => c cc.2)
    rw [this] at hq
    exact hq
  have hyes : tkw s1 (tks s1) t = tkw s2 (tks s2) u → Q (nI 1) I P := fun c => by
    have : sTk s1 (tks s1) t s2 (tks s2) u = true := decide_eq_true ⟨ht, c⟩
    rw [this] at hq
    exact hq
  have etk : tkw s1 (tks s1) t = tkw s2 (tks s2) u ↔ sub s1 (tst (tks s1) t) (ten (tks s1) t) = sub s2 (tst (tks s2) u) (ten (tks s2) u) := by
    unfold tkw
    rw [if_pos ht, if_pos hu]
    exact ⟨fun c => Option.some.inj c, fun c => by rw [c]⟩
  refine x_Model_sameToken_0 _ _ _ ?_
  simp only [k95, p9, p10, p11, k99, k100, k101, nzl 99 (by decide), nzl 100 (by decide), nzl 101 (by decide), true_and]
  rw [clp (show b1 + t < 2 ^ 31 by omega), clp (show b2 + u < 2 ^ 31 by omega), q1, q2, q3, q4, g1, g2, pk_sub (by omega), pk_sub (by omega), show o1 + ten (tks s1) t - (o1 + tst (tks s1) t) = ten (tks s1) t - tst (tks s1) t by omega, show o2 + ten (tks s2) u - (o2 + tst (tks s2) u) = ten (tks s2) u - tst (tks s2) u by omega]
  refine ⟨vp_in_nI (by omega) (by decide), vp_in_nI (by omega) (by decide), fun c => ⟨rfl, hno (fun cc => c ?_)⟩, fun _ => ⟨vp_in_nI (by omega) (by decide), vp_in_nI (by omega) (by decide), vp_in_nI (by omega) (by decide), vp_in_nI (by omega) (by decide), fun c => ?_, fun c => ⟨rfl, hno (fun cc => c ?_)⟩⟩⟩
  · have := tkw_k ht hu cc
    rw [hkt, hku] at this
    rw [Option.some.inj this]
  · have hw := (nI_eq (by omega) (by omega)).mp c
    refine l_mSameToken hM h1 h2 ht hu hw _ 0 (Nat.zero_add _) (fun hh => hyes (etk.mpr ((sub_eq hw z2 z4).mpr hh))) (fun j _ hj hne => hno (fun cc => ?_))
    exact hne ((sub_eq hw z2 z4).mp (etk.mp cc) j (Nat.zero_le _) hj)
  · have := congrArg List.length (etk.mp cc)
    rw [sub_len z2, sub_len z4] at this
    rw [this]
end RR
