/-! The steps as the document tells them. -/
section ST
variable {E : XE} {d : Nat} {Q : Int32 → mI → mP → Prop} {P : mP} {a b : List Int32}
/-- the answer of step: the one asked for, or -1 -/
def sta (l : List Int32) (n : Nat) (w : Int32) : Int32 → Prop := fun v => (∃ k x, w = nI (n + k) ∧ l[k]? = some x ∧ v = x) ∨ (v = -(nI 1) ∧ ∀ k, k < l.length → w ≠ nI (n + k))
theorem sta_c {l : List Int32} {n : Nat} {w v y : Int32} (hw : w ≠ nI n) (h : sta l (n + 1) w v) : sta (y :: l) n w v := by
  rcases h with ⟨k, x, h1, h2, h3⟩ | ⟨h1, h2⟩
  · exact Or.inl ⟨k + 1, x, by rw [h1]; congr 1; omega, by simpa using h2, h3⟩
  · refine Or.inr ⟨h1, fun k hk => ?_⟩
    cases k with
    | zero => exact hw
    | succ k =>
      have := h2 k (by simpa using hk)
      rw [show n + (k + 1) = n + 1 + k by omega]
      exact this
theorem l_step (hM : MO P) (ha : a.length ≤ 60) (hb : b.length ≤ 120) {I : mI} {w : Int32} (h3 : I 95 3 = nI a.length) (h2 : I 95 2 = nI b.length) (hca : Rc (I 96) 128 a) (hcb : Rc (I 96) 0 b) (hD : DT (I 111) a b 0 0) : ∀ (f i j n : Nat), (a.length - i) + (b.length - j) ≤ f → i ≤ a.length → j ≤ b.length → (∀ v, sta (stp a b f i j) n w v → Q v I P) → V E (d + 1) m_Model_step 112 Q 11 [some (.inr 95), some (.inl w), some (.inl (nI i)), some (.inl (nI j)), some (.inl (nI n)), none, none, none] [] 112 I P := by
  have hM' := hM
  obtain ⟨p0, -, -, -, -, -, -, -, -, -, -, -, -, -, -, p25⟩ := hM'
  have out : ∀ (f i j n : Nat), a.length ≤ i → b.length ≤ j → (∀ v, sta (stp a b f i j) n w v → Q v I P) → Q (-(nI 1)) I P := by
    intro f i j n hi hj h
    refine h _ (Or.inr ⟨rfl, fun k hk => ?_⟩)
    exfalso
    cases f with
    | zero => exact absurd hk (by simp [stp])
    | succ f =>
      rw [stp_s, gno hi, gno hj] at hk
      exact absurd hk (by simp)
  intro f
  induction f with
  | zero =>
    intro i j n hf hi hj h
    refine x_Model_step_11 _ _ _ _ _ ⟨k95, ?_⟩
    rw [h3, h2]
    exact pk_lt i a.length (fun q => by omega) (fun q => ⟨k95, pk_le b.length j (fun q2 => out 0 i j n q q2 h) (fun q2 => by omega)⟩)
  | succ f ih =>
    intro i j n hf hi hj h
    have hij : 121 * i + j < 7381 := by omega
    have hin : vp_in (nI (121 * i + j)) 7381 := vp_in_nI hij (by decide)
    have e0 : I 111 (121 * i + j) = nI (wv a b i j) := hD i j hi hj (by omega)
    -- the choice is made: keep, drop
    have s219 : ∀ (y : Int32) (i' j' : Nat) (kd dd : Bool), stp a b (f + 1) i j = y :: stp a b f i' j' → w ≠ nI n → i' ≤ a.length → j' ≤ b.length → (a.length - i') + (b.length - j') ≤ f → (i' = if kd || dd then i + 1 else i) → (j' = if dd then j else j + 1) → V E (d + 1) m_Model_step 112 Q 201 [some (.inr 95), some (.inl w), some (.inl (nI i)), some (.inl (nI j)), some (.inl (nI n)), none, some (.inl (bI kd)), some (.inl (bI dd))] [] 112 I P := by
      intro y i' j' kd dd e hw hi' hj' hf' ei ej
      have fin : V E (d + 1) m_Model_step 112 Q 219 [some (.inr 95), some (.inl w), some (.inl (nI i')), some (.inl (nI j)), some (.inl (nI n)), none, none, some (.inl (bI dd))] [] 112 I P := by
        have g := ih i' j' (n + 1) hf' hi' hj' (fun v hv => h v (by rw [e]; exact sta_c hw hv))
        refine x_Model_step_219 _ _ _ _ _ _ (bz_i (fun c => ?_) (fun c => ?_))
        · rw [n1, n1]
          subst c
          rw [if_neg (by decide)] at ej
          subst ej
          exact g
        · rw [n1]
          subst c
          rw [if_pos rfl] at ej
          subst ej
          rw [nI_add]
          exact g
      refine x_Model_step_201 _ _ _ _ _ _ _ (bn_i (fun c => ?_) (fun c => bz_i (fun c2 => ?_) (fun c2 => ?_)))
      · subst c
        rw [Bool.true_or, if_pos rfl] at ei
        subst ei
        rw [n1]
        exact fin
      · subst c
        subst c2
        rw [if_neg (by decide)] at ei
        subst ei
        rw [nI_add]
        exact fin
      · subst c
        subst c2
        rw [if_pos (by decide)] at ei
        subst ei
        rw [n1]
        exact fin
    have hit : ∀ (y : Int32) (l : List Int32), stp a b (f + 1) i j = y :: l → nI n = w → Q y I P := by
      intro y l e hw
      refine h y (Or.inl ⟨0, y, hw.symm, ?_, rfl⟩)
      rw [e]
      rfl
    have s144 : ∀ (kd dd : Bool) (y : Int32) (i' j' : Nat), stp a b (f + 1) i j = y :: stp a b f i' j' → i' ≤ a.length → j' ≤ b.length → (a.length - i') + (b.length - j') ≤ f → (i' = if kd || dd then i + 1 else i) → (j' = if dd then j else j + 1) → (kd = true → j < b.length ∧ y = nI 1000 + I 96 j) → (kd = false → dd = true → i < a.length ∧ y = nI 2000 + I 96 (128 + i)) → (kd = false → dd = false → j < b.length ∧ y = nI 3000 + I 96 j) → V E (d + 1) m_Model_step 112 Q 144 [some (.inr 95), some (.inl w), some (.inl (nI i)), some (.inl (nI j)), some (.inl (nI n)), none, some (.inl (bI kd)), some (.inl (bI dd))] [] 112 I P := by
      intro kd dd y i' j' e hi' hj' hf' ei ej hk hd hn
      refine x_Model_step_144 _ _ _ _ _ _ _ ⟨fun c => s219 y i' j' kd dd e (fun hh => c hh.symm) hi' hj' hf' ei ej, fun c => bz_i (fun c1 => bz_i (fun c2 => ?_) (fun c2 => ?_)) (fun c1 => ?_)⟩
      · simp only [k95, p0, k96, nzl 96 (by decide), true_and]
        have hh := hn c1 c2
        refine ⟨vp_in_nI (by omega) (by decide), ?_⟩
        rw [clp (by omega), ← hh.2]
        exact hit y _ e c
      · simp only [k95, p0, k96, nzl 96 (by decide), true_and]
        have hh := hd c1 c2
        rw [nI_add 128 i]
        refine ⟨vp_in_nI (by omega) (by decide), ?_⟩
        rw [clp (by omega), ← hh.2]
        exact hit y _ e c
      · simp only [k95, p0, k96, nzl 96 (by decide), true_and]
        have hh := hk c1
        refine ⟨vp_in_nI (by omega) (by decide), ?_⟩
        rw [clp (by omega), ← hh.2]
        exact hit y _ e c
    have s103n : (i < a.length ∨ j < b.length) → (∀ x y, a[i]? = some x → b[j]? = some y → x ≠ y) → V E (d + 1) m_Model_step 112 Q 103 [some (.inr 95), some (.inl w), some (.inl (nI i)), some (.inl (nI j)), some (.inl (nI n)), some (.inl (nI (wv a b i j))), some (.inl (bI false)), none] [] 112 I P := by
      intro hor hne
      have ins : j < b.length → (∀ y, b[j]? = some y → stp a b (f + 1) i j = (nI 3000 + y) :: stp a b f i (j + 1)) → V E (d + 1) m_Model_step 112 Q 144 [some (.inr 95), some (.inl w), some (.inl (nI i)), some (.inl (nI j)), some (.inl (nI n)), none, some (.inl (bI false)), some (.inl (bI false))] [] 112 I P := by
        intro hj2 e
        obtain ⟨y, hy, -⟩ := drop_c (s := b) (p := j) hj2
        refine s144 false false (nI 3000 + y) i (j + 1) (e y hy) hi (by omega) (by omega) rfl rfl (fun c => by cases c) (fun _ c => by cases c) (fun _ _ => ⟨hj2, by rw [hcb.at0 hy]⟩)
      refine x_Model_step_103 _ _ _ _ _ _ _ (bn_i (fun c => by cases c) (fun _ => ⟨k95, ?_⟩))
      rw [h3]
      refine pk_le a.length i (fun q => ins (by omega) (fun y hy => by rw [stp_s, gno q, hy])) (fun q => ?_)
      obtain ⟨x, hx, -⟩ := drop_c (s := a) (p := i) q
      simp only [k95, p25, k111, nzl 111 (by decide), true_and]
      have e1 := hD (i + 1) j (by omega) hj (by omega)
      have b1 := wv_b a b i j
      have b2 := wv_b a b (i + 1) j
      rw [mxn, nI_add (121 * i) 121, nI_add (121 * i + 121) j, clp (show 121 * i + 121 + j < 2 ^ 31 by omega), show 121 * i + 121 + j = 121 * (i + 1) + j by omega, e1, n1, nI_eq (by omega) (by omega)]
      refine ⟨vp_in_nI (by omega) (by decide), fun c => ?_, fun c => ?_⟩
      · have hjl : j < b.length := by
          apply Classical.byContradiction
          intro hc
          rw [wv_m (by omega), wv_m (by omega)] at c
          omega
        refine ins hjl (fun y hy => ?_)
        rw [stp_s, hx, hy]
        have c' : ¬ wv a b i j = 1 + wv a b (i + 1) j := by omega
        simp only [if_neg (hne x y hx hy), if_neg c']
      · refine s144 false true (nI 2000 + x) (i + 1) j ?_ (by omega) hj (by omega) rfl rfl (fun c => by cases c) (fun _ _ => ⟨q, by rw [hca i x hx]⟩) (fun _ c => by cases c)
        rw [stp_s, hx]
        have c' : wv a b i j = 1 + wv a b (i + 1) j := by omega
        cases hb' : b[j]? with
        | none => rfl
        | some y => simp only [if_neg (hne x y hx hb'), if_pos c']
    have cmp : (i < a.length ∨ j < b.length) → kk 112 95 = (0, 6) ∧ P 95 25 ≠ 0 ∧ (kk 112 (P 95 25)).1 = 1 ∧ vp_in (((nI 121) * nI i) + nI j) (kk 112 (P 95 25)).2 ∧ kk 112 95 = (0, 6) ∧ (nI a.length ≤ nI i → V E (d + 1) m_Model_step 112 Q 103 [some (.inr 95), some (.inl w), some (.inl (nI i)), some (.inl (nI j)), some (.inl (nI n)), some (.inl (I (P 95 25) (((nI 121) * nI i) + nI j).toNatClampNeg)), some (.inl (nI 0)), none] [] 112 I P) ∧ (¬ nI a.length ≤ nI i → kk 112 95 = (0, 6) ∧ (nI b.length ≤ nI j → V E (d + 1) m_Model_step 112 Q 103 [some (.inr 95), some (.inl w), some (.inl (nI i)), some (.inl (nI j)), some (.inl (nI n)), some (.inl (I (P 95 25) (((nI 121) * nI i) + nI j).toNatClampNeg)), some (.inl (nI 0)), none] [] 112 I P) ∧ (¬ nI b.length ≤ nI j → kk 112 95 = (0, 6) ∧ P 95 0 ≠ 0 ∧ (kk 112 (P 95 0)).1 = 1 ∧ vp_in ((nI 128) + nI i) (kk 112 (P 95 0)).2 ∧ kk 112 95 = (0, 6) ∧ P 95 0 ≠ 0 ∧ (kk 112 (P 95 0)).1 = 1 ∧ vp_in (nI j) (kk 112 (P 95 0)).2 ∧ (¬ (I (P 95 0) ((nI 128) + nI i).toNatClampNeg) = (I (P 95 0) (nI j).toNatClampNeg) → V E (d + 1) m_Model_step 112 Q 103 [some (.inr 95), some (.inl w), some (.inl (nI i)), some (.inl (nI j)), some (.inl (nI n)), some (.inl (I (P 95 25) (((nI 121) * nI i) + nI j).toNatClampNeg)), some (.inl (nI 0)), none] [] 112 I P) ∧ ((I (P 95 0) ((nI 128) + nI i).toNatClampNeg) = (I (P 95 0) (nI j).toNatClampNeg) → kk 112 95 = (0, 6) ∧ P 95 25 ≠ 0 ∧ (kk 112 (P 95 25)).1 = 1 ∧ vp_in (((((nI 121) * nI i) + (nI 121)) + nI j) + (nI 1)) (kk 112 (P 95 25)).2 ∧ (¬ (I (P 95 25) (((((nI 121) * nI i) + (nI 121)) + nI j) + (nI 1)).toNatClampNeg) = (I (P 95 25) (((nI 121) * nI i) + nI j).toNatClampNeg) → V E (d + 1) m_Model_step 112 Q 103 [some (.inr 95), some (.inl w), some (.inl (nI i)), some (.inl (nI j)), some (.inl (nI n)), some (.inl (I (P 95 25) (((nI 121) * nI i) + nI j).toNatClampNeg)), some (.inl (nI 0)), none] [] 112 I P) ∧ ((I (P 95 25) (((((nI 121) * nI i) + (nI 121)) + nI j) + (nI 1)).toNatClampNeg) = (I (P 95 25) (((nI 121) * nI i) + nI j).toNatClampNeg) → V E (d + 1) m_Model_step 112 Q 103 [some (.inr 95), some (.inl w), some (.inl (nI i)), some (.inl (nI j)), some (.inl (nI n)), some (.inl (I (P 95 25) (((nI 121) * nI i) + nI j).toNatClampNeg)), some (.inl (nI 1)), none] [] 112 I P)))) := by
      intro hor
      simp only [k95, p25, k111, p0, k96, nzl 111 (by decide), nzl 96 (by decide), true_and]
      rw [mxn, nI_add (121 * i) j, clp (show 121 * i + j < 2 ^ 31 by omega), e0]
      refine ⟨hin, pk_le a.length i (fun q => s103n hor (fun x y hx _ => by rw [gno q] at hx; cases hx)) (fun q => pk_le b.length j (fun q2 => s103n hor (fun x y _ hy => by rw [gno q2] at hy; cases hy)) (fun q2 => ?_))⟩
      obtain ⟨x, hx, -⟩ := drop_c (s := a) (p := i) q
      obtain ⟨y, hy, -⟩ := drop_c (s := b) (p := j) q2
      have e3 := hD (i + 1) (j + 1) (by omega) (by omega) (by omega)
      have he := wv_e hx hy
      rw [nI_add 128 i, clp (show 128 + i < 2 ^ 31 by omega), clp (show j < 2 ^ 31 by omega), hca i x hx, hcb.at0 hy, nI_add (121 * i) 121, nI_add (121 * i + 121) j, nI_add (121 * i + 121 + j) 1, clp (show 121 * i + 121 + j + 1 < 2 ^ 31 by omega)]
      rw [show 121 * i + 121 + j + 1 = 121 * (i + 1) + (j + 1) by omega, e3]
      refine ⟨vp_in_nI (by omega) (by decide), vp_in_nI (by omega) (by decide), fun c => s103n hor (fun x' y' hx' hy' => ?_), fun c => ?_⟩
      · rw [hx] at hx'
        rw [hy] at hy'
        cases hx'
        cases hy'
        exact c
      · rw [if_pos c] at he
        rw [he]
        refine ⟨vp_in_nI (by omega) (by decide), fun c2 => absurd rfl c2, fun _ => ?_⟩
        refine x_Model_step_103 _ _ _ _ _ _ _ ⟨fun _ => ?_, fun c2 => absurd c2 (by decide)⟩
        exact s144 true false (nI 1000 + x) (i + 1) (j + 1) (by rw [stp_s, hx, hy]; simp only [if_pos c]) (by omega) (by omega) (by omega) rfl rfl (fun _ => ⟨q2, by rw [hcb.at0 hy, c]⟩) (fun c => by cases c) (fun c => by cases c)
    refine x_Model_step_11 _ _ _ _ _ ⟨k95, ?_⟩
    rw [h3, h2]
    exact pk_lt i a.length (fun q => cmp (Or.inl q)) (fun q => ⟨k95, pk_le b.length j (fun q2 => out (f + 1) i j n q q2 h) (fun q2 => cmp (Or.inr q2))⟩)
theorem s_step (hM : MO P) (ha : a.length ≤ 60) (hb : b.length ≤ 120) {I : mI} {w : Int32} (h3 : I 95 3 = nI a.length) (h2 : I 95 2 = nI b.length) (hca : Rc (I 96) 128 a) (hcb : Rc (I 96) 0 b)
    (h : ∀ I' v, (∀ m, m ≠ 111 → I' m = I m) → sta (stps a b) 0 w v → Q v I' P) : V E (d + 1) m_Model_step 112 Q 0 [some (.inr 95), some (.inl w), none, none, none, none, none, none] [] 112 I P := by
  refine x_Model_step_0 _ _ ⟨k95, s_compare hM ha hb h3 h2 hca hcb (fun I' f1 D1 => ?_)⟩
  exact l_step hM ha hb (by rw [f1 95 (by decide)]; exact h3) (by rw [f1 95 (by decide)]; exact h2) (by rw [f1 96 (by decide)]; exact hca) (by rw [f1 96 (by decide)]; exact hcb) D1 (a.length + b.length) 0 0 0 (by omega) (by omega) (by omega) (fun v hv => h I' v f1 hv)
theorem s_distance (hM : MO P) (ha : a.length ≤ 60) (hb : b.length ≤ 120) {I : mI} (h3 : I 95 3 = nI a.length) (h2 : I 95 2 = nI b.length) (hca : Rc (I 96) 128 a) (hcb : Rc (I 96) 0 b)
    (h : ∀ I', (∀ m, m ≠ 111 → I' m = I m) → Q (nI (wv a b 0 0)) I' P) : V E (d + 1) m_Model_distance 112 Q 0 [some (.inr 95)] [] 112 I P := by
  refine x_Model_distance_0 _ ⟨k95, s_compare hM ha hb h3 h2 hca hcb (fun I' f1 D1 => ?_)⟩
  have hM' := hM
  obtain ⟨p0, -, -, -, -, -, -, -, -, -, -, -, -, -, -, p25⟩ := hM'
  simp only [k95, p25, k111, nzl 111 (by decide), true_and]
  rw [clp (show 0 < 2 ^ 31 by decide), show I' 111 0 = nI (wv a b 0 0) from D1 0 0 (by omega) (by omega) (by omega)]
  exact ⟨vp_in_nI (by decide) (by decide), h I' f1⟩
end ST
