/-! Model.isRule, rule. -/
def anyq (x : List Int32) (i : Nat) : Nat → Nat → Bool
  | 0, _ => false
  | n + 1, q => sTk x (tks x) i x (tks x) q || anyq x i n (q + 1)
def allk (x : List Int32) (ar : Nat) : Nat → Nat → Bool
  | 0, _ => true
  | n + 1, i => (!((kds x)[i]? == some 3) || anyq x i (ar + 1) 0) && allk x ar n (i + 1)
def rfR (x : List Int32) : Bool := match le_ true (kds x) with
  | none => false
  | some (ar, d1) => decide (d1 ≤ 12 ∧ (kds x)[ar]? = some 8) && (match le_ true ((kds x).drop (ar + 1)) with
    | none => false
    | some (m, d2) => decide (d2 ≤ 12 ∧ ar + 1 + m = (kds x).length)) && allk x ar ((kds x).length - (ar + 1)) (ar + 1)
section IR
variable {E : XE} {d : Nat} {Q : Int32 → mI → mP → Prop} {P : mP} {off : Nat} {x : List Int32} {I : mI}
theorem l_isR144 (hM : MO P) (hx : x.length ≤ 60) (ho : off + x.length ≤ 640) (hX : RdR I off x) {ar i : Nat} (har : ar + 1 < (tks x).length) (hi : i < (tks x).length) : ∀ (n q : Nat) (v : Bool), q + n = ar + 1 → ((v || anyq x i n q) = true → V E (d + 1) m_Model_isRule 112 Q 110 [some (.inr 95), none, some (.inl (nI (128 + (ar + 1)))), some (.inl (nI (128 + (i + 1)))), none, none] [] 112 I P) → ((v || anyq x i n q) = false → Q (nI 0) I P) → V E (d + 1) m_Model_isRule 112 Q 144 [some (.inr 95), none, some (.inl (nI (128 + (ar + 1)))), some (.inl (nI (128 + i))), some (.inl (bI v)), some (.inl (nI (128 + q)))] [] 112 I P := by
  have htl := tks_len x
  intro n
  induction n with
  | zero =>
    intro q v hq h1 h0
    have e0 : (v || anyq x i 0 q) = v := by show (v || false) = v; rw [Bool.or_false]
    rw [e0] at h1 h0
    refine x_Model_isRule_144 _ _ _ _ _ (pk_le (128 + (ar + 1)) (128 + q) (fun _ => bn_i (fun c => ?_) (fun c => ⟨rfl, h0 c⟩)) (fun c => by omega))
    rw [n1, show 128 + i + 1 = 128 + (i + 1) by omega]
    exact h1 c
  | succ n ih =>
    intro q v hq h1 h0
    have es : anyq x i (n + 1) q = (sTk x (tks x) i x (tks x) q || anyq x i n (q + 1)) := rfl
    rw [es, ← Bool.or_assoc] at h1 h0
    have go : ∀ b, b = (v || sTk x (tks x) i x (tks x) q) → V E (d + 1) m_Model_isRule 112 Q 172 [some (.inr 95), none, some (.inl (nI (128 + (ar + 1)))), some (.inl (nI (128 + i))), some (.inl (bI b)), some (.inl (nI (128 + q)))] [] 112 I P := by
      intro b hb
      refine x_Model_isRule_172 _ _ _ _ _ ?_
      rw [n1, show 128 + q + 1 = 128 + (q + 1) by omega]
      rw [← hb] at h1 h0
      exact ih (q + 1) b (by omega) h1 h0
    have tk := hX.tk hx ho
    refine x_Model_isRule_144 _ _ _ _ _ (pk_le (128 + (ar + 1)) (128 + q) (fun c => by omega) (fun _ => bn_i (fun c => go true (by rw [c]; rfl)) (fun c => ⟨k95, m_sameToken hM tk tk hi (by omega) (bz_i (fun e => go false (by rw [c, e]; rfl)) (fun e => go true (by rw [c, e]; rfl)))⟩)))
theorem l_isR110 (hM : MO P) (hx : x.length ≤ 60) (ho : off + x.length ≤ 640) (hX : RdR I off x) {ar : Nat} (har : ar + 1 < (tks x).length) : ∀ (n i : Nat), i + n = (tks x).length → Q (bI (allk x ar n i)) I P → V E (d + 1) m_Model_isRule 112 Q 110 [some (.inr 95), none, some (.inl (nI (128 + (ar + 1)))), some (.inl (nI (128 + i))), none, none] [] 112 I P := by
  have htl := tks_len x
  have hkl := kds_len x
  have hM' := hM
  obtain ⟨p0, p1, -, p9, -⟩ := hM'
  intro n
  induction n with
  | zero =>
    intro i hi hq
    refine x_Model_isRule_110 _ _ _ ⟨k95, ?_⟩
    rw [hX.1, nI_add]
    exact pk_le (128 + (tks x).length) (128 + i) (fun _ => ⟨rfl, hq⟩) (fun c => by omega)
  | succ n ih =>
    intro i hi hq
    have hil : i < (kds x).length := by omega
    have hk : (kds x)[i]? = some (kds x)[i] := List.getElem?_eq_getElem hil
    have h10 := kds_k10 x _ (List.mem_of_getElem? hk)
    have h99 := hX.2.1.ms i _ hk
    refine x_Model_isRule_110 _ _ _ ⟨k95, ?_⟩
    simp only [k95, p9, k99, nzl 99 (by decide), true_and]
    rw [hX.1, nI_add, clp (show 128 + i < 2 ^ 31 by omega), h99, rc_eq h10 (Or.inr (Or.inr rfl))]
    have es : allk x ar (n + 1) i = ((!((kds x)[i]? == some 3) || anyq x i (ar + 1) 0) && allk x ar n (i + 1)) := rfl
    rw [es, hk] at hq
    generalize (kds x)[i] = k at *
    have go : ∀ v, v = !(some k == some 3) → V E (d + 1) m_Model_isRule 112 Q 139 [some (.inr 95), none, some (.inl (nI (128 + (ar + 1)))), some (.inl (nI (128 + i))), some (.inl (bI v)), none] [] 112 I P := by
      intro v hv
      rw [← hv] at hq
      refine x_Model_isRule_139 _ _ _ _ (l_isR144 hM hx ho hX har (by omega) (ar + 1) 0 v (by omega) (fun e => ?_) (fun e => ?_))
      · rw [e, Bool.true_and] at hq
        exact ih (i + 1) (by omega) hq
      · rw [e] at hq
        exact hq
    refine pk_le (128 + (tks x).length) (128 + i) (fun c => by omega) (fun _ => ⟨vp_in_nI (by omega) (by decide), fun c => go false (by rw [c]; rfl), fun c => go true ?_⟩)
    have : (some k == some 3) = false := by simpa using c
    rw [this]
    rfl
theorem m_isRule (hM : MO P) (hx : x.length ≤ 60) (ho : off + x.length ≤ 640) (hX : RdR I off x) (hq : Q (bI (rfR x)) I P) : V E (d + 1) m_Model_isRule 112 Q 0 [some (.inr 95), none, none, none, none, none] [] 112 I P := by
  have htl := tks_len x
  have hkl := kds_len x
  have hM' := hM
  obtain ⟨p0, p1, -, p9, p10, p11, p12, p13, -⟩ := hM'
  have n3 : (kds x).length < 3 → rfR x = false := fun h3 => by
    unfold rfR
    cases h : le_ true (kds x) with
    | none => rfl
    | some z =>
      obtain ⟨ar, d1⟩ := z
      dsimp only
      have hb := le_b h
      cases h2 : le_ true ((kds x).drop (ar + 1)) with
      | none => simp
      | some z2 =>
        obtain ⟨m, d2⟩ := z2
        have hb2 := le_b h2
        have : decide (d2 ≤ 12 ∧ ar + 1 + m = (kds x).length) = false := decide_eq_false (by omega)
        dsimp only
        rw [this]
        simp
  refine x_Model_isRule_0 _ ⟨k95, ?_⟩
  simp only [k95, p9, p12, p13, k99, k102, k103, nzl 99 (by decide), nzl 102 (by decide), nzl 103 (by decide), true_and]
  rw [hX.1, clp (show 128 < 2 ^ 31 by decide)]
  refine pk_lt (tks x).length 3 (fun c => ⟨rfl, by rw [n3 (by omega)] at hq; exact hq⟩) (fun c => ⟨vp_in_nI (by decide) (by decide), ?_⟩)
  have hL0 := hX.2.2.1 0 (by omega)
  cases h : le_ true (kds x) with
  | none =>
    have hf : rfR x = false := by unfold rfR; rw [h]
    rw [hf] at hq
    have e := hL0.n (by rw [List.drop_zero]; exact h)
    rw [Nat.add_zero] at e
    rw [e]
    exact ⟨fun c => absurd c (by decide), fun _ => ⟨rfl, hq⟩⟩
  | some z =>
    obtain ⟨ar, d1⟩ := z
    have hb := le_b h
    obtain ⟨e, e'⟩ := hL0.s (by rw [List.drop_zero]; exact h)
    rw [Nat.add_zero, Nat.zero_add] at e
    rw [Nat.add_zero] at e'
    have hrf : rfR x = (decide (d1 ≤ 12 ∧ (kds x)[ar]? = some 8) && (match le_ true ((kds x).drop (ar + 1)) with
      | none => false
      | some (m, d2) => decide (d2 ≤ 12 ∧ ar + 1 + m = (kds x).length)) && allk x ar ((kds x).length - (ar + 1)) (ar + 1)) := by
      unfold rfR
      rw [h]
    have hdb : d1 ≤ 60 := by have := le_d h; omega
    rw [e, e', n1, show ar - 1 + 1 = ar by omega, n1, nI_add, n1 (128 + ar), show 128 + ar + 1 = 128 + (ar + 1) by omega]
    refine ⟨fun _ => ⟨vp_in_nI (by decide) (by decide), ?_⟩, fun c => absurd ((nle (x := nI (ar - 1)) (n := 0) (by decide)).mpr (by rw [nI_t (by omega)]; omega)) c⟩
    refine pk_le (tks x).length (ar + 1) (fun c => ⟨rfl, ?_⟩) (fun c => ?_)
    · have : rfR x = false := by
        rw [hrf]
        cases h2 : le_ true ((kds x).drop (ar + 1)) with
        | none => simp
        | some z2 =>
          have hb2 := le_b h2
          rw [List.length_drop] at hb2
          omega
      rw [this] at hq
      exact hq
    · have har : ar < (kds x).length := by omega
      have hk : (kds x)[ar]? = some (kds x)[ar] := List.getElem?_eq_getElem har
      have h10 := kds_k10 x _ (List.mem_of_getElem? hk)
      have h99 := hX.2.1.ms ar _ hk
      rw [clp (show 128 + ar < 2 ^ 31 by omega), clp (show 128 + (ar + 1) < 2 ^ 31 by omega), h99, rc_8 h10, pk_sub (by omega)]
      rw [hk] at hrf
      generalize (kds x)[ar] = k8 at *
      refine ⟨vp_in_nI (by omega) (by decide), fun c8 => ⟨rfl, ?_⟩, fun c8 => ⟨vp_in_nI (by omega) (by decide), ?_⟩⟩
      · have : rfR x = false := by
          rw [hrf, decide_eq_false (fun cc => c8 (Option.some.inj cc.2))]
          rfl
        rw [this] at hq
        exact hq
      · have hL1 := hX.2.2.1 (ar + 1) (by omega)
        cases h2 : le_ true ((kds x).drop (ar + 1)) with
        | none =>
          have : rfR x = false := by rw [hrf, h2]; simp
          rw [this] at hq
          rw [hL1.n h2]
          refine ⟨fun cc => ?_, fun _ => ⟨rfl, hq⟩⟩
          have e3 := congrArg Int32.toInt cc
          rw [nI_t (by omega)] at e3
          have : (-(nI 1)).toInt = -1 := by decide
          omega
        | some z2 =>
          obtain ⟨m, d2⟩ := z2
          have hb2 := le_b h2
          rw [List.length_drop] at hb2
          have hd2 : d2 ≤ 60 := by have := le_d h2; omega
          obtain ⟨f1, f2⟩ := hL1.s h2
          rw [h2] at hrf
          dsimp only at hrf
          rw [f1, f2, nI_eq (by omega) (by omega)]
          have lt12 : ∀ n, n ≤ 60 → (nI 12 < nI n ↔ 12 < n) := fun n hn => by rw [nlt (by decide), nI_t (by omega)]; omega
          have le12 : ∀ n, n ≤ 60 → (nI n ≤ nI 12 ↔ n ≤ 12) := fun n hn => by rw [len (by decide), nI_t (by omega)]; omega
          rw [lt12 d1 hdb, le12 d2 hd2]
          refine ⟨fun cl => ⟨vp_in_nI (by decide) (by decide), fun cd => ⟨rfl, ?_⟩, fun cd => ⟨vp_in_nI (by omega) (by decide), fun ce => ?_, fun ce => ⟨rfl, ?_⟩⟩⟩, fun cl => ⟨rfl, ?_⟩⟩
          · rw [hrf, decide_eq_false (fun cc => by omega : ¬ (d1 ≤ 12 ∧ some k8 = some 8))] at hq
            exact hq
          · rw [hrf, decide_eq_true (⟨by omega, by rw [c8]⟩ : d1 ≤ 12 ∧ some k8 = some 8), decide_eq_true (⟨ce, by omega⟩ : d2 ≤ 12 ∧ ar + 1 + m = (kds x).length), Bool.true_and, Bool.true_and] at hq
            refine l_isR110 hM hx ho hX (by omega) ((kds x).length - (ar + 1)) (ar + 1) (by omega) hq
          · rw [hrf, decide_eq_false (fun cc => by omega : ¬ (d2 ≤ 12 ∧ ar + 1 + m = (kds x).length)), Bool.and_false] at hq
            exact hq
          · rw [hrf, decide_eq_false (fun cc => by omega : ¬ (d2 ≤ 12 ∧ ar + 1 + m = (kds x).length)), Bool.and_false] at hq
            exact hq
end IR
