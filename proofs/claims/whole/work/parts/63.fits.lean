/-! Model.sameTokens, fitsAt. -/
theorem RDs.tk {I : mI} {s : List Int32} (hR : RDs I s) (h : Rc (I 96) 0 s) (hs : s.length ≤ 120) : TK I 0 0 s := ⟨hR.2.1, h, by have := tks_len s; omega, by omega⟩
theorem RdR.tk {I : mI} {off : Nat} {x : List Int32} (h : RdR I off x) (hx : x.length ≤ 60) (ho : off + x.length ≤ 640) : TK I 128 off x := ⟨h.2.1, h.2.2.2, by have := tks_len x; omega, ho⟩
theorem mtc_ge {s : List Int32} {A : List (Nat × Nat × Nat)} {s' : List Int32} {A' : List (Nat × Nat × Nat)} : ∀ (n p t : Nat) (B : BN) (e : Nat) (B' : BN), mtc s A s' A' n p t B = some (e, B') → t + n ≤ e
  | 0, p, t, B, e, B', h => by cases h; omega
  | n + 1, p, t, B, e, B', h => by
    unfold mtc at h
    split at h
    · split at h
      · rename_i t' B2 hb
        have := mtc_ge n _ _ _ _ _ h
        unfold bho at hb
        split at hb
        · rename_i m dp hle
          have hm := le_b hle
          split at hb
          · split at hb
            · cases hb; omega
            · split at hb
              · cases hb; omega
              · cases hb
          · cases hb
        · cases hb
      · cases h
    · split at h
      · have := mtc_ge n _ _ _ _ _ h
        omega
      · cases h
/-- what the holes are bound to are entries -/
def BEn (ks : List Nat) (B : BN) : Prop := ∀ d f b, B d = some (f, b) → ∃ l a, (f, l, a) ∈ (outl ks).2 ∧ b = l + 1
def BM (I : mI) (B : BN) : Prop := ∀ d, d < 10 → (B d = none → I 106 d = -(nI 1)) ∧ ∀ f b, B d = some (f, b) → I 106 d = nI f
/-- an expression in an expression ends in it -/
theorem ent_in {ks : List Nat} {i l j lj dpi dpj : Nat} (h : le_ false (ks.drop i) = some (l - i + 1, dpi)) (hd : dpi ≤ 12) (h' : le_ false (ks.drop j) = some (lj - j + 1, dpj)) (hn : n12 ks[j]?) (h1 : i ≤ j) (h2 : j ≤ l) : lj ≤ l := by
  obtain ⟨X, -, hE⟩ := (sc_all (ks.drop i).length).1 (ks.drop i) (Nat.le_refl _) _ _ h 0 0 (by omega)
  obtain ⟨j2, b2, hx⟩ := hE.2.1 (j - i) (by omega) (by omega) (by rw [Nat.sub_zero, List.getElem?_drop, show i + (j - i) = j by omega]; exact hn)
  obtain ⟨e1, e2, e3, e4, e5, dp, e6, e7⟩ := hE.1 _ _ _ hx
  rw [Nat.sub_zero, List.drop_drop, show i + (j - i) = j by omega, h'] at e6
  have := congrArg (fun o => o.map Prod.fst) e6
  simp at this
  omega
section FA
variable {E : XE} {d : Nat} {Q : Int32 → mI → mP → Prop} {P : mP} {s : List Int32}
theorem l_mSameTokens (hM : MO P) {I : mI} (hs : s.length ≤ 120) (hR : RDs I s) (h96 : Rc (I 96) 0 s) {f lf bf j lj bj : Nat} (he : (f, lf, bf) ∈ (outl (kds s)).2) (hj : (j, lj, bj) ∈ (outl (kds s)).2) (hl : lf - f = lj - j) : ∀ (m k : Nat), k + m = lj - j + 1 → ((∀ c, k ≤ c → c < lj - j + 1 → sTk s (tks s) (f + c) s (tks s) (j + c) = true) → Q (nI 1) I P) → (∀ c, k ≤ c → c < lj - j + 1 → sTk s (tks s) (f + c) s (tks s) (j + c) = false → Q (nI 0) I P) → V E (d + 1) m_Model_sameTokens 112 Q 23 [some (.inr 95), some (.inl (nI f)), some (.inl (nI j)), some (.inl (nI k))] [] 112 I P := by
  obtain ⟨g1, g2, g3, g4, g5⟩ := ent_i hs he
  obtain ⟨g1', g2', g3', g4', g5'⟩ := ent_i hs hj
  have hM' := hM
  obtain ⟨p0, p1, -, p9, p10, p11, p12, -⟩ := hM'
  have tk := hR.tk h96 hs
  intro m
  induction m with
  | zero =>
    intro k hk a b
    refine x_Model_sameTokens_23 _ _ _ _ ?_
    simp only [k95, p12, k102, nzl 102 (by decide), true_and]
    rw [clp (show f < 2 ^ 31 by omega), hR.lst he, pk_sub (by omega)]
    exact ⟨vp_in_nI (by omega) (by decide), pk_lt (lf - f) k (fun _ => ⟨rfl, a (fun c h1 h2 => by omega)⟩) (fun c => by omega)⟩
  | succ m ih =>
    intro k hk a b
    refine x_Model_sameTokens_23 _ _ _ _ ?_
    simp only [k95, p12, k102, nzl 102 (by decide), true_and]
    rw [clp (show f < 2 ^ 31 by omega), hR.lst he, pk_sub (by omega), nI_add, nI_add, nI_add]
    refine ⟨vp_in_nI (by omega) (by decide), pk_lt (lf - f) k (fun c => by omega) (fun _ => ?_)⟩
    have ms := m_sameToken (E := E) (d := d) (Q := fun r1 I1 P1 => (¬ r1 = 0 → V E (d + 1) m_Model_sameTokens 112 Q 23 [some (.inr 95), some (.inl (nI f)), some (.inl (nI j)), some (.inl (nI (k + 1)))] [] 112 I1 P1) ∧ (r1 = 0 → zb (nI 0) ∧ Q (nI 0) I1 P1)) hM tk tk (t := f + k) (u := j + k) (by omega) (by omega) (bn_i (fun c => ih (k + 1) (by omega) (fun hh => a (fun c' h1 h2 => ?_)) (fun c' h1 h2 => b c' (by omega) h2)) (fun c => ⟨rfl, b k (Nat.le_refl _) (by omega) c⟩))
    · rw [Nat.zero_add, Nat.zero_add] at ms
      exact ms
    · by_cases e : c' = k
      · subst e; exact c
      · exact hh c' (by omega) h2
theorem m_sameTokens (hM : MO P) {I : mI} (hs : s.length ≤ 120) (hR : RDs I s) (h96 : Rc (I 96) 0 s) {f lf bf j lj bj : Nat} (he : (f, lf, bf) ∈ (outl (kds s)).2) (hj : (j, lj, bj) ∈ (outl (kds s)).2) (hq : Q (bI (decide (lf - f = lj - j ∧ sTks s (tks s) f j (lj - j + 1) = true))) I P) : V E (d + 1) m_Model_sameTokens 112 Q 0 [some (.inr 95), some (.inl (nI f)), some (.inl (nI j)), none] [] 112 I P := by
  obtain ⟨g1, g2, g3, g4, g5⟩ := ent_i hs he
  obtain ⟨g1', g2', g3', g4', g5'⟩ := ent_i hs hj
  have hM' := hM
  obtain ⟨p0, p1, -, p9, p10, p11, p12, -⟩ := hM'
  refine x_Model_sameTokens_0 _ _ _ ?_
  simp only [k95, p12, k102, nzl 102 (by decide), true_and]
  rw [clp (show f < 2 ^ 31 by omega), clp (show j < 2 ^ 31 by omega), hR.lst he, hR.lst hj, pk_sub (by omega), pk_sub (by omega), nI_eq (by omega) (by omega)]
  refine ⟨vp_in_nI (by omega) (by decide), vp_in_nI (by omega) (by decide), fun c => l_mSameTokens hM hs hR h96 he hj c _ 0 (Nat.zero_add _) (fun hh => ?_) (fun c' _ h2 e => ?_), fun c => ⟨rfl, ?_⟩⟩
  · rw [decide_eq_true (⟨c, by unfold sTks; rw [List.all_eq_true]; exact fun y hy => hh y (Nat.zero_le _) (List.mem_range.mp hy)⟩ : _ ∧ _)] at hq
    exact hq
  · rw [decide_eq_false (fun cc => by
      have := cc.2
      unfold sTks at this
      rw [List.all_eq_true] at this
      have := this c' (List.mem_range.mpr h2)
      rw [e] at this
      cases this)] at hq
    exact hq
  · rw [decide_eq_false (fun cc => c cc.1)] at hq
    exact hq
/-- in a good statement a token that does not begin begins nothing -/
theorem le_nb {ks : List Nat} {f e j : Nat} (hm : (f, e, true) ∈ spns ks) (h1 : f ≤ j) (h2 : j < e) (hb : bgn ks j = false) : le_ true (ks.drop j) = none := by
  have ha := out_all ks ks.length 0 0 (by omega) (Nat.le_refl _)
  obtain ⟨-, a2, a3, a4⟩ := ha.2.2.2.2.1 f e true hm
  obtain ⟨b1, b2, dp, b3, b4⟩ := a4 rfl
  have h3 := (hf1 _ _ _ _ _ b4).2
  have hj : j < ks.length := by omega
  have hq : ks[j]? = some ks[j] := List.getElem?_eq_getElem hj
  unfold bgn at hb
  rw [gdi_of hm h1 (by omega), Bool.true_and, hq] at hb
  have n3 : ks[j] ≠ 3 := h3 _ (by
    rw [List.mem_iff_getElem?]
    refine ⟨j - f, ?_⟩
    rw [List.getElem?_take_of_lt (by omega), List.getElem?_drop, show f + (j - f) = j by omega, hq])
  rw [drop_it hq]
  generalize ks[j] = k at *
  have n1' : k ≠ 1 := fun c => by rw [c] at hb; simp at hb
  have n2' : k ≠ 2 := fun c => by rw [c] at hb; simp at hb
  exact le_oth _ n1' n2' n3
theorem ent_le {ks : List Nat} {j l b : Nat} (h : (j, l, b) ∈ (outl ks).2) : ∃ dp, dp ≤ 12 ∧ le_ true (ks.drop j) = some (l - j + 1, dp) := by
  obtain ⟨f, e, -, -, -, -, -, -, dp, h1, h2⟩ := ent_spn h
  exact ⟨dp, by omega, (hf1 _ _ _ _ _ h1).1⟩
theorem kds_tks (s : List Int32) : (tks s).map Prod.fst = kds s := rfl
def FrB (I I' : mI) : Prop := ∀ m, m ≠ 106 → I' m = I m
theorem FrB.rd {I I' : mI} (hf : FrB I I') (hR : RDs I s) : RDs I' s := by
  obtain ⟨a, b, c, e⟩ := hR
  refine ⟨by rw [hf 95 (by decide)]; exact a, fun t k p q ht => ?_, fun t ht => ?_, ?_⟩
  · rw [hf 99 (by decide), hf 100 (by decide), hf 101 (by decide)]
    exact b t k p q ht
  · exact (c t ht).kept (by rw [hf 102 (by decide)]) (by rw [hf 103 (by decide)])
  · refine ⟨by rw [hf 95 (by decide)]; exact e.1, fun j f e' g hj k h1 h2 => ?_⟩
    rw [hf 104 (by decide), hf 105 (by decide)]
    exact e.2 j f e' g hj k h1 h2
theorem FrB.rr {I I' : mI} {off : Nat} {x : List Int32} (hf : FrB I I') (h : RdR I off x) : RdR I' off x :=
  h.fr (by rw [hf 95 (by decide)]) (fun m j a b _ => by rw [hf m (by omega)]) (fun j _ => by rw [hf 96 (by decide)])
theorem l_fitsAt (hM : MO P) (hs : s.length ≤ 120) {off : Nat} {x : List Int32} (hx : x.length ≤ 60) (ho : off + x.length ≤ 640) {ar dpx : Nat} (har : le_ true (kds x) = some (ar, dpx)) {i l b : Nat} (he : (i, l, b) ∈ (outl (kds s)).2) : ∀ (n p j : Nat) (B : BN) (I : mI), p + n = ar → i ≤ j → j ≤ l + 1 → RDs I s → Rc (I 96) 0 s → RdR I off x → BM I B → BEn (kds s) B →
    (∀ I' B', FrB I I' → mtc x (tks x) s (tks s) n p j B = some (l + 1, B') → BM I' B' → BEn (kds s) B' → Q (nI 1) I' P) → (∀ I', FrB I I' → (∀ B', mtc x (tks x) s (tks s) n p j B ≠ some (l + 1, B')) → Q (nI 0) I' P) → V E (d + 2) m_Model_fitsAt 112 Q 27 [some (.inr 95), some (.inl (nI i)), some (.inl (nI j)), some (.inl (nI (128 + p))), none] [] 112 I P := by
  obtain ⟨g1, g2, g3, g4, g5⟩ := ent_i hs he
  obtain ⟨f0, e0, hsp, s1, s2, s3, s4, -⟩ := ent_spn he
  have hM' := hM
  obtain ⟨p0, p1, -, p9, p10, p11, p12, p13, p14, p15, p19, -⟩ := hM'
  have hal := le_b har
  have hkx := kds_len x
  have htx := tks_len x
  have hks := kds_len s
  intro n
  induction n with
  | zero =>
    intro p j B I hp hij hjl hR h96 hX hB hE h1 h0
    have hL : I 102 128 = nI (ar - 1) := by
      have := ((hX.2.2.1 0 (by omega)).s (by rw [List.drop_zero]; exact har)).1
      rw [Nat.zero_add, Nat.add_zero] at this
      exact this
    refine x_Model_fitsAt_27 _ _ _ _ ?_
    simp only [k95, p12, k102, nzl 102 (by decide), true_and]
    rw [clp (show 128 < 2 ^ 31 by decide), hL, nI_add]
    refine ⟨vp_in_nI (by decide) (by decide), pk_lt (128 + (ar - 1)) (128 + p) (fun _ => x_Model_fitsAt_178 _ _ _ ?_) (fun c => by omega)⟩
    simp only [k95, p12, k102, nzl 102 (by decide), true_and]
    rw [clp (show i < 2 ^ 31 by omega), hR.lst he, n1, nI_eq (by omega) (by omega)]
    refine ⟨vp_in_nI (by omega) (by decide), fun c => ⟨rfl, h0 I (fun _ _ => rfl) (fun B' e => ?_)⟩, fun c => ⟨rfl, h1 I B (fun _ _ => rfl) (by rw [c]; rfl) hB hE⟩⟩
    have e : some (j, B) = some (l + 1, B') := e
    cases e
    exact c rfl
  | succ n ih =>
    intro p j B I hp hij hjl hR h96 hX hB hE h1 h0
    have hL : I 102 128 = nI (ar - 1) := by
      have := ((hX.2.2.1 0 (by omega)).s (by rw [List.drop_zero]; exact har)).1
      rw [Nat.zero_add, Nat.add_zero] at this
      exact this
    have hpk : (kds x)[p]? = some (kds x)[p] := List.getElem?_eq_getElem (by omega)
    have h10 := kds_k10 x _ (List.mem_of_getElem? hpk)
    have h99 := hX.2.1.ms p _ hpk
    have h100 := (hX.2.1.at (show p < (tks x).length by omega)).1
    have hts := tst_bd (show p < (tks x).length by omega)
    have hgo : mtc x (tks x) s (tks s) (n + 1) p j B = if (kds x)[p]? = some 3 then (match bho s (tks s) (dgt x (tks x) p) j B with
      | some (t', B') => mtc x (tks x) s (tks s) n (p + 1) t' B'
      | none => none) else if sTk x (tks x) p s (tks s) j = true then mtc x (tks x) s (tks s) n (p + 1) (j + 1) B else none := rfl
    rw [hpk] at hgo
    have hhole : (kds x)[p] = 3 → dgt x (tks x) p < 10 ∧ x[tst (tks x) p + 1]? = some (nI (48 + dgt x (tks x) p)) := fun c3 => by
      have hlp : p < (tks x).length := by omega
      have e1 : (tks x)[p]? = some (tks x)[p] := List.getElem?_eq_getElem hlp
      generalize (tks x)[p] = q at e1
      obtain ⟨k', a', b'⟩ := q
      have e2 : (kds x)[p]? = some k' := by
        unfold kds
        rw [List.getElem?_map, e1]
        rfl
      rw [hpk, c3] at e2
      cases e2
      have hHD : HD x (tks x) := by
        have := (HD_LX (lxT_ok x).1).1
        rw [(lxT_ok x).2] at this
        exact this
      exact hHD p a' b' e1
    generalize (kds x)[p] = kp at *
    refine x_Model_fitsAt_27 _ _ _ _ ?_
    simp only [k95, p0, p9, p10, p12, k96, k99, k100, k102, nzl 96 (by decide), nzl 99 (by decide), nzl 100 (by decide), nzl 102 (by decide), true_and]
    rw [clp (show 128 < 2 ^ 31 by decide), clp (show i < 2 ^ 31 by omega), clp (show 128 + p < 2 ^ 31 by omega), hL, hR.lst he, nI_add, h99, h100, n1, n1, rc_eq h10 (Or.inr (Or.inr rfl)), clp (show off + tst (tks x) p + 1 < 2 ^ 31 by omega)]
    refine ⟨vp_in_nI (by decide) (by decide), pk_lt (128 + (ar - 1)) (128 + p) (fun c => by omega) (fun _ => ⟨vp_in_nI (by omega) (by decide), pk_le j l (fun hjl' => ⟨vp_in_nI (by omega) (by decide), fun c3 => ?_, fun c3 => ⟨vp_in_nI (by omega) (by decide), vp_in_nI (by have := (List.getElem?_eq_some_iff.mp (hhole c3).2).1; omega) (by decide), ?_⟩⟩) (fun c => ⟨rfl, h0 I (fun _ _ => rfl) (fun B' e => ?_)⟩)⟩)⟩
    · -- a token of its own
      rw [if_neg (fun c => c3 (Option.some.inj c))] at hgo
      have ms := m_sameToken (E := E) (d := d + 1) (Q := fun r1 I1 P1 => (¬ r1 = 0 → V E (d + 2) m_Model_fitsAt 112 Q 172 [some (.inr 95), some (.inl (nI i)), some (.inl (nI (j + 1))), some (.inl (nI (128 + p))), none] [] 112 I1 P1) ∧ (r1 = 0 → zb (nI 0) ∧ Q (nI 0) I1 P1)) hM (hX.tk hx ho) (hR.tk h96 hs) (t := p) (u := j) (by omega) (by omega) (bn_i (fun c => x_Model_fitsAt_172 _ _ _ _ ?_) (fun c => ⟨rfl, h0 I (fun _ _ => rfl) (fun B' e => ?_)⟩))
      · rw [Nat.zero_add] at ms
        exact ms
      · rw [n1, show 128 + p + 1 = 128 + (p + 1) by omega]
        rw [if_pos c] at hgo
        rw [hgo] at h1 h0
        exact ih (p + 1) (j + 1) B I (by omega) (by omega) (by omega) hR h96 hX hB hE h1 h0
      · rw [hgo, if_neg (by rw [c]; decide)] at e
        cases e
    · -- a hole
      subst c3
      rw [if_pos rfl] at hgo
      obtain ⟨hd10, hdc⟩ := hhole rfl
      have hc96 := hX.2.2.2 _ _ hdc
      rw [show off + (tst (tks x) p + 1) = off + tst (tks x) p + 1 by omega] at hc96
      rw [hc96, dig_e]
      generalize hdg : dgt x (tks x) p = dg at *
      refine x_Model_fitsAt_83 _ _ _ _ _ ⟨k95, m_begins hM hs hR (by omega) (bz_i (fun hb => ⟨rfl, h0 I (fun _ _ => rfl) (fun B' e => ?_)⟩) (fun hb => ?_))⟩
      · have hn := le_nb hsp (show f0 ≤ j by omega) (by omega) hb
        rw [hgo] at e
        unfold bho at e
        rw [kds_tks, hn] at e
        cases e
      · obtain ⟨lj, bj, hj⟩ := bgn_ent hb
        obtain ⟨dp, hdp, hle⟩ := ent_le hj
        obtain ⟨q1, q2, q3, q4, q5⟩ := ent_i hs hj
        -- the end lies in the expression
        have hljl : lj ≤ l := by
          obtain ⟨f1, e1, hsp1, t1, t2, t3, t4, t5, dpj, t6, -⟩ := ent_spn hj
          obtain ⟨f2, e2, hsp2, u1, u2, u3, u4, u5, dpi, u6, u7⟩ := ent_spn he
          exact ent_in u6 (by omega) t6 t5 hij hjl'
        have hbho : bho s (tks s) dg j B = (match B dg with
          | none => some (j + (lj - j + 1), fun y => if y = dg then some (j, j + (lj - j + 1)) else B y)
          | some (f, b') => if b' - f = lj - j + 1 ∧ sTks s (tks s) f j (lj - j + 1) = true then some (j + (lj - j + 1), B) else none) := by
          unfold bho
          rw [kds_tks, hle]
          dsimp only
          rw [if_pos hdp]
          cases B dg <;> rfl
        have hjm : j + (lj - j + 1) = lj + 1 := by omega
        rw [hjm] at hbho
        simp only [k95, p19, k106, nzl 106 (by decide), true_and]
        rw [clp (show dg < 2 ^ 31 by omega)]
        have hBd := hB dg hd10
        refine ⟨vp_in_nI (by omega) (by decide), ?_⟩
        cases hBv : B dg with
        | none =>
          rw [hBv] at hbho
          dsimp only at hbho
          rw [hBd.1 hBv]
          refine ⟨fun _ => x_Model_fitsAt_118 _ _ _ _ _ ?_, fun c => absurd neg_lt c⟩
          simp only [k95, p19, k106, nzl 106 (by decide), true_and]
          rw [clp (show dg < 2 ^ 31 by omega), hBd.1 hBv]
          refine ⟨vp_in_nI (by omega) (by decide), fun c => absurd c (by decide), fun _ => ⟨vp_in_nI (by omega) (by decide), x_Model_fitsAt_146 _ _ _ _ ?_⟩⟩
          have fb : FrB I (uI I 106 dg (nI j)) := fun m hm => uI_n hm
          simp only [k95, p12, k102, nzl 102 (by decide), true_and]
          rw [clp (show j < 2 ^ 31 by omega), (fb.rd hR).lst hj, n1]
          refine ⟨vp_in_nI (by omega) (by decide), x_Model_fitsAt_172 _ _ _ _ ?_⟩
          rw [n1, show 128 + p + 1 = 128 + (p + 1) by omega]
          rw [hbho] at hgo
          dsimp only at hgo
          rw [hgo] at h1 h0
          refine ih (p + 1) (lj + 1) _ _ (by omega) (by omega) (by omega) (fb.rd hR) (by rw [fb 96 (by decide)]; exact h96) (fb.rr hX) (fun d' hd' => ⟨fun e => ?_, fun f b' e => ?_⟩) (fun d' f b' e => ?_) (fun I' B' f' => h1 I' B' (fun m hm => (f' m hm).trans (fb m hm))) (fun I' f' => h0 I' (fun m hm => (f' m hm).trans (fb m hm)))
          · by_cases c : d' = dg
            · rw [if_pos c] at e; cases e
            · rw [if_neg c] at e
              rw [uI_o c]
              exact (hB d' hd').1 e
          · by_cases c : d' = dg
            · rw [if_pos c] at e
              cases e
              rw [c, uI_s]
            · rw [if_neg c] at e
              rw [uI_o c]
              exact (hB d' hd').2 f b' e
          · by_cases c : d' = dg
            · rw [if_pos c] at e
              cases e
              exact ⟨lj, bj, hj, rfl⟩
            · rw [if_neg c] at e
              exact hE d' f b' e
        | some fb0 =>
          obtain ⟨f, b'⟩ := fb0
          rw [hBv] at hbho
          dsimp only at hbho
          obtain ⟨lf, af, hf, rfl⟩ := hE dg f b' hBv
          obtain ⟨w1, w2, w3, w4, w5⟩ := ent_i hs hf
          have hBf := hBd.2 f _ hBv
          rw [hBf]
          refine ⟨fun c => absurd c (nn_lt (by omega)), fun _ => ⟨vp_in_nI (by omega) (by decide), m_sameTokens (d := d) hM hs hR h96 hf hj (bn_i (fun c => x_Model_fitsAt_118 _ _ _ _ _ ?_) (fun c => ⟨rfl, h0 I (fun _ _ => rfl) (fun B' e => ?_)⟩))⟩⟩
          · have c := of_decide_eq_true c
            rw [if_pos ⟨by omega, c.2⟩] at hbho
            rw [hbho] at hgo
            dsimp only at hgo
            rw [hgo] at h1 h0
            simp only [k95, p19, k106, nzl 106 (by decide), true_and]
            rw [clp (show dg < 2 ^ 31 by omega), hBf]
            refine ⟨vp_in_nI (by omega) (by decide), fun _ => ⟨vp_in_nI (by omega) (by decide), vp_in_nI (by omega) (by decide), x_Model_fitsAt_146 _ _ _ _ ?_⟩, fun cc => absurd ((nle (x := nI f) (n := 0) (by decide)).mpr (by rw [nI_t (by omega)]; omega)) cc⟩
            have fb : FrB I (uI I 106 dg (nI f)) := fun m hm => uI_n hm
            simp only [k95, p12, k102, nzl 102 (by decide), true_and]
            rw [clp (show j < 2 ^ 31 by omega), (fb.rd hR).lst hj, n1]
            refine ⟨vp_in_nI (by omega) (by decide), x_Model_fitsAt_172 _ _ _ _ ?_⟩
            rw [n1, show 128 + p + 1 = 128 + (p + 1) by omega]
            refine ih (p + 1) (lj + 1) B _ (by omega) (by omega) (by omega) (fb.rd hR) (by rw [fb 96 (by decide)]; exact h96) (fb.rr hX) (fun d' hd' => ?_) hE (fun I' B' f' => h1 I' B' (fun m hm => (f' m hm).trans (fb m hm))) (fun I' f' => h0 I' (fun m hm => (f' m hm).trans (fb m hm)))
            by_cases c' : d' = dg
            · subst c'
              rw [uI_s, ← hBf]
              exact hB d' hd'
            · rw [uI_o c']
              exact hB d' hd'
          · have c := of_decide_eq_false c
            rw [if_neg (fun cc => c ⟨by omega, cc.2⟩)] at hbho
            rw [hgo, hbho] at e
            cases e
    · have := mtc_ge _ _ _ _ _ _ e
      omega
theorem l_fits0 {i : Nat} (hM : MO P) : ∀ (n j : Nat) (I : mI), j + n = 10 → (∀ c, c < j → I 106 c = -(nI 1)) → (∀ I', FrB I I' → (∀ c, c < 10 → I' 106 c = -(nI 1)) → V E (d + 1) m_Model_fitsAt 112 Q 27 [some (.inr 95), some (.inl (nI i)), some (.inl (nI i)), some (.inl (nI 128)), none] [] 112 I' P) → V E (d + 1) m_Model_fitsAt 112 Q 2 [some (.inr 95), some (.inl (nI i)), some (.inl (nI j)), none, none] [] 112 I P := by
  intro n
  induction n with
  | zero =>
    intro j I hj hc h
    exact x_Model_fitsAt_2 _ _ _ (pk_le 10 j (fun _ => h I (fun _ _ => rfl) (fun c hc' => hc c (by omega))) (fun q => by omega))
  | succ n ih =>
    intro j I hj hc h
    obtain ⟨p0, p1, -, p9, p10, p11, p12, p13, p14, p15, p19, -⟩ := hM
    refine x_Model_fitsAt_2 _ _ _ (pk_le 10 j (fun q => by omega) (fun _ => ?_))
    simp only [k95, p19, k106, nzl 106 (by decide), true_and]
    rw [clp (show j < 2 ^ 31 by omega), n1]
    refine ⟨vp_in_nI (by omega) (by decide), ih (j + 1) _ (by omega) (fun c hc' => ?_) (fun I' f' h' => h I' (fun m hm => by rw [f' m hm, uI_n hm]) h')⟩
    by_cases e : c = j
    · rw [e, uI_s]
    · rw [uI_o e]
      exact hc c (by omega)
theorem m_fitsAt (hM : MO P) (hs : s.length ≤ 120) {off : Nat} {x : List Int32} (hx : x.length ≤ 60) (ho : off + x.length ≤ 640) {ar dpx : Nat} (har : le_ true (kds x) = some (ar, dpx)) {i l b : Nat} (he : (i, l, b) ∈ (outl (kds s)).2) {I : mI} (hR : RDs I s) (h96 : Rc (I 96) 0 s) (hX : RdR I off x)
    (h1 : ∀ I' B', FrB I I' → mtc x (tks x) s (tks s) ar 0 i B0 = some (l + 1, B') → BM I' B' → BEn (kds s) B' → Q (nI 1) I' P) (h0 : ∀ I', FrB I I' → (∀ B', mtc x (tks x) s (tks s) ar 0 i B0 ≠ some (l + 1, B')) → Q (nI 0) I' P) : V E (d + 2) m_Model_fitsAt 112 Q 0 [some (.inr 95), some (.inl (nI i)), none, none, none] [] 112 I P := by
  obtain ⟨g1, g2, g3, g4, g5⟩ := ent_i hs he
  refine x_Model_fitsAt_0 _ _ (l_fits0 hM 10 0 I (by omega) (fun c hc => by omega) (fun I1 f1 hb => ?_))
  exact l_fitsAt hM hs hx ho har he ar 0 i B0 I1 (by omega) (Nat.le_refl _) (by omega) (f1.rd hR) (by rw [f1 96 (by decide)]; exact h96) (f1.rr hX) (fun c hc => ⟨fun _ => hb c hc, fun f b e => by cases e⟩) (fun c f b e => by cases e) (fun I' B' f' => h1 I' B' (fun m hm => (f' m hm).trans (f1 m hm))) (fun I' f' => h0 I' (fun m hm => (f' m hm).trans (f1 m hm)))
end FA
