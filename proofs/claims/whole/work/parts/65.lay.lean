/-! Model.layOut: the filled template. -/
def MZ (I : mI) (M : List MIt) (tl : List Int32) : Prop := Rc (I 96) 0 (fl (M.map un) tl) ∧ Rc (I 97) 0 (fl (M.map um) (List.replicate tl.length (nI 0)))
theorem fl_ul (M : List MIt) (t : List Int32) (m : Int32) : (fl (M.map um) (List.replicate t.length m)).length = (fl (M.map un) t).length := by
  rw [fl_len, fl_len, ftl_um, List.length_replicate]
theorem tks_LX {Z : List ItC} {t : List Int32} (h : LX Z t) : tks (fl Z t) = psn 0 Z := by
  unfold tks
  rw [lxT_of h]
section LP
variable {E : XE} {d : Nat} {Q : Int32 → mI → mP → Prop} {P : mP}
theorem l_layOut (hM : MO P) {M : List MIt} {tl : List Int32} (hLX : LX (M.map un) tl) (hs : (fl (M.map un) tl).length ≤ 120) {off : Nat} {Z : List ItC} {tr : List Int32} (hLZ : LX Z tr) (hx : (fl Z tr).length ≤ 60) (ho : off + (fl Z tr).length ≤ 640) {num : Int32} {ar : Nat} {B : BN} (hBE : BEn (kds (fl (M.map un) tl)) B) : ∀ (n i : Nat) (F G : List Int32) (I : mI), i + n = Z.length → ar + 1 ≤ i → RDs I (fl (M.map un) tl) → MZ I M tl → RdR I off (fl Z tr) → BM I B → BK B M.length (Z.drop i) → FS I F G →
    (∀ I', FrF I I' → FS I' (F ++ fl ((fil M B num (decide (i = ar + 1)) (Z.drop i)).map un) []) (G ++ fl ((fil M B num (decide (i = ar + 1)) (Z.drop i)).map um) []) → Q (nI 0) I' P) → V E (d + 1) m_Model_layOut 112 Q 22 [some (.inr 95), some (.inl num), some (.inl (nI (128 + (ar + 1)))), some (.inl (nI (128 + i))), none, none] [] 112 I P := by
  have hM' := hM
  obtain ⟨p0, p1, -, p9, p10, p11, p12, p13, p14, p15, p19, -⟩ := hM'
  have hZl := LX_len hLZ
  have etk := tks_LX hLZ
  have etm := tks_LX hLX
  have hkz := kds_len (fl Z tr)
  have htz : (tks (fl Z tr)).length = Z.length := by rw [etk, psn_len]
  intro n
  induction n with
  | zero =>
    intro i F G I hi hai hR hm hX hB hBK hF h
    refine x_Model_layOut_22 _ _ _ _ ⟨k95, ?_⟩
    rw [hX.1, htz, nI_add]
    refine pk_le (128 + Z.length) (128 + i) (fun _ => ?_) (fun c => by omega)
    have : Z.drop i = [] := List.drop_eq_nil_of_le (by omega)
    rw [this] at h
    refine h I FrF.rf ?_
    show FS I (F ++ []) (G ++ [])
    rw [List.append_nil, List.append_nil]
    exact hF
  | succ n ih =>
    intro i F G I hi hai hR hm hX hB hBK hF h
    obtain ⟨z, hz⟩ : ∃ z, Z[i]? = some z := ⟨_, List.getElem?_eq_getElem (by omega)⟩
    obtain ⟨sp, k, w⟩ := z
    have hdr := drop_it hz
    have hit : i < (tks (fl Z tr)).length := by omega
    have hts := tst_bd hit
    obtain ⟨q1, q2⟩ := hX.2.1.at hit
    have hkk : (kds (fl Z tr))[i]? = some k := by
      unfold kds
      rw [etk, kds_psn, List.getElem?_map, hz]
      rfl
    have h10 := kds_k10 _ _ (List.mem_of_getElem? hkk)
    have h99 := hX.2.1.ms i _ hkk
    have hsw := sub_psn (Z := Z) (R := []) (t := tr) (f := i) (b := i + 1) (k := k) (sp := sp) (w := w) (by omega) (by omega) (by rw [hdr, show i + 1 - i = 1 by omega]; rfl)
    rw [← etk, Nat.add_sub_cancel] at hsw
    obtain ⟨s1, s2, s3⟩ := hsw
    have ew : w ++ fl ([] : List ItC) [] = w := by show w ++ [] = w; rw [List.append_nil]
    rw [ew] at s2 s3
    -- behind the space
    have go : ∀ (I1 : mI) (F1 G1 : List Int32), FrF I I1 → FS I1 F1 G1 → F1 = F ++ (if decide (i = ar + 1) = true then [] else sp) → G1 = G ++ List.replicate (if decide (i = ar + 1) = true then ([] : List Int32) else sp).length num → V E (d + 1) m_Model_layOut 112 Q 58 [some (.inr 95), some (.inl num), some (.inl (nI (128 + (ar + 1)))), some (.inl (nI (128 + i))), some (.inl (nI (off + tst (tks (fl Z tr)) i))), none] [] 112 I1 P := by
      intro I1 F1 G1 f1 hF1 eF eG
      have hX1 := f1.rr hX
      have hR1 := f1.rd hR
      have e96 : I1 96 = I 96 := f1.1 96 (by decide) (by decide) (by decide)
      have e97 : I1 97 = I 97 := f1.1 97 (by decide) (by decide) (by decide)
      have e106 : I1 106 = I 106 := f1.1 106 (by decide) (by decide) (by decide)
      have hm1 : MZ I1 M tl := ⟨by rw [e96]; exact hm.1, by rw [e97]; exact hm.2⟩
      have hB1 : BM I1 B := fun c hc => by rw [e106]; exact hB c hc
      have hBK' : BK B M.length (Z.drop (i + 1)) := fun sp' w' hmem => hBK sp' w' (by rw [hdr]; exact List.mem_cons_of_mem _ hmem)
      have edec : decide (i + 1 = ar + 1) = false := decide_eq_false (by omega)
      refine x_Model_layOut_58 _ _ _ _ _ ?_
      simp only [k95, p0, p9, p10, p19, k96, k99, k100, k106, nzl 96 (by decide), nzl 99 (by decide), nzl 100 (by decide), nzl 106 (by decide), true_and]
      rw [clp (show 128 + i < 2 ^ 31 by omega), (hX1.2.1.at hit).1, hX1.2.1.ms i _ hkk, rc_eq h10 (Or.inr (Or.inr rfl)), n1 (off + tst (tks (fl Z tr)) i), clp (show off + tst (tks (fl Z tr)) i + 1 < 2 ^ 31 by omega)]
      refine ⟨vp_in_nI (by omega) (by decide), pk_le (off + tst (tks (fl Z tr)) i) (off + tst (tks (fl Z tr)) i) (fun _ => ⟨vp_in_nI (by omega) (by decide), fun c3 => ⟨vp_in_nI (by omega) (by decide), ?_⟩, fun c3 => ?_⟩) (fun c => by omega)⟩
      · -- the template's own token
        have hb2 : I1 101 (128 + i) = nI (off + ten (tks (fl Z tr)) i) := (hX1.2.1.at hit).2
        refine l_lay175 hM ho (by omega) hts.2 (ten (tks (fl Z tr)) i - tst (tks (fl Z tr)) i) (tst (tks (fl Z tr)) i) F1 G1 I1 (by omega) hX1.2.2.2 hb2 hF1 (fun I2 f2 hF2 => ?_)
        rw [s3, show ten (tks (fl Z tr)) i - tst (tks (fl Z tr)) i = w.length by omega] at hF2
        have e96' : I2 96 = I1 96 := f2.1 96 (by decide) (by decide) (by decide)
        have e97' : I2 97 = I1 97 := f2.1 97 (by decide) (by decide) (by decide)
        have e106' : I2 106 = I1 106 := f2.1 106 (by decide) (by decide) (by decide)
        refine ih (i + 1) _ _ I2 (by omega) (by omega) (f2.rd hR1) ⟨by rw [e96']; exact hm1.1, by rw [e97']; exact hm1.2⟩ (f2.rr hX1) (fun c hc => by rw [e106']; exact hB1 c hc) hBK' hF2 (fun I' f' hF' => h I' ((f1.tr f2).tr f') ?_)
        rw [edec] at hF'
        rw [hdr, fil_tok c3, List.map_append, List.map_append, fl_app, fl_app]
        subst eF; subst eG
        have e1 : fl (List.map un [((if decide (i = ar + 1) = true then [] else sp), num, k, w, num)]) (fl ((fil M B num false (Z.drop (i + 1))).map un) []) = (if decide (i = ar + 1) = true then [] else sp) ++ (w ++ fl ((fil M B num false (Z.drop (i + 1))).map un) []) := rfl
        have e2 : fl (List.map um [((if decide (i = ar + 1) = true then ([] : List Int32) else sp), num, k, w, num)]) (fl ((fil M B num false (Z.drop (i + 1))).map um) []) = List.replicate (if decide (i = ar + 1) = true then ([] : List Int32) else sp).length num ++ (List.replicate w.length num ++ fl ((fil M B num false (Z.drop (i + 1))).map um) []) := rfl
        rw [e1, e2]
        simp only [List.append_assoc] at hF' ⊢
        exact hF'
      · -- a hole
        subst c3
        obtain ⟨dig1, dig2⟩ := HD_LX hLZ
        have hA3 : (psn 0 Z)[i]? = some (3, ftl (Z.take i) + sp.length, ftl (Z.take i) + sp.length + w.length) := by
          have := psn_get hz 0
          rw [Nat.zero_add] at this
          exact this
        obtain ⟨hd10, hdc⟩ := dig1 i _ _ hA3
        rw [dig2 i sp w hz, ← etk] at hdc
        rw [dig2 i sp w hz] at hd10
        have hc96 := hX1.2.2.2 _ _ hdc
        rw [show off + (tst (tks (fl Z tr)) i + 1) = off + tst (tks (fl Z tr)) i + 1 by omega] at hc96
        have hcl := (List.getElem?_eq_some_iff.mp hdc).1
        obtain ⟨f, b, hBv, hfb, hbM⟩ := hBK sp w (by rw [hdr]; exact List.mem_cons_self)
        obtain ⟨l, a, hent, rfl⟩ := hBE (dgw w) f b hBv
        obtain ⟨g1, g2, g3, g4, g5⟩ := ent_i hs hent
        have hI106 := (hB1 (dgw w) hd10).2 f _ hBv
        have hft := (hR1.2.1.at (show f < (tks (fl (M.map un) tl)).length by omega)).1
        rw [Nat.zero_add, Nat.zero_add] at hft
        have htf := tst_bd (show f < (tks (fl (M.map un) tl)).length by omega)
        rw [hc96, dig_e, clp (show dgw w < 2 ^ 31 by omega), hI106, clp (show f < 2 ^ 31 by omega), hft]
        refine ⟨vp_in_nI (by omega) (by decide), vp_in_nI (by omega) (by decide), vp_in_nI (by omega) (by decide), vp_in_nI (by omega) (by decide), ?_⟩
        obtain ⟨z, R, hzR⟩ := tkd hfb hbM
        obtain ⟨zs, zm, zk, zw, zmw⟩ := z
        have hu : (M.map un |>.drop f).take (l + 1 - f) = (zs, zk, zw) :: R.map un := by
          rw [← List.map_drop, ← List.map_take, hzR]
          rfl
        have hu2 : (M.map um |>.drop f).take (l + 1 - f) = (List.replicate zs.length zm, zk, List.replicate zw.length zmw) :: R.map um := by
          rw [← List.map_drop, ← List.map_take, hzR]
          rfl
        obtain ⟨a1, a2, a3⟩ := sub_psn (t := tl) hfb (by rw [List.length_map]; exact hbM) hu
        obtain ⟨b1, b2, b3⟩ := sub_psn (t := List.replicate tl.length (nI 0)) hfb (by rw [List.length_map]; exact hbM) hu2
        rw [Nat.add_sub_cancel, ← etm] at a2 a3
        rw [Nat.add_sub_cancel, psn_um, ← etm] at b3
        rw [← etm] at a1
        have htt : tst (tks (fl (M.map un) tl)) f ≤ ten (tks (fl (M.map un) tl)) l := by omega
        refine l_lay129 hM hs (fl_ul M tl (nI 0)) (by omega) hent (ten (tks (fl (M.map un) tl)) l - tst (tks (fl (M.map un) tl)) f) (tst (tks (fl (M.map un) tl)) f) F1 G1 I1 (by omega) hR1 hm1.1 hm1.2 hF1 (fun I2 f2 hF2 => ?_)
        rw [a3, b3] at hF2
        have e96' : I2 96 = I1 96 := f2.1 96 (by decide) (by decide) (by decide)
        have e97' : I2 97 = I1 97 := f2.1 97 (by decide) (by decide) (by decide)
        have e106' : I2 106 = I1 106 := f2.1 106 (by decide) (by decide) (by decide)
        refine ih (i + 1) _ _ I2 (by omega) (by omega) (f2.rd hR1) ⟨by rw [e96']; exact hm1.1, by rw [e97']; exact hm1.2⟩ (f2.rr hX1) (fun c hc => by rw [e106']; exact hB1 c hc) hBK' hF2 (fun I' f' hF' => h I' ((f1.tr f2).tr f') ?_)
        rw [edec] at hF'
        rw [hdr, fil_hole hBv hzR, List.map_append, List.map_append, fl_app, fl_app]
        subst eF; subst eG
        have e1 : fl (List.map un (sps (zs, zm, zk, zw, zmw) (if decide (i = ar + 1) = true then [] else sp) num :: R)) (fl ((fil M B num false (Z.drop (i + 1))).map un) []) = (if decide (i = ar + 1) = true then [] else sp) ++ (zw ++ (fl (R.map un) [] ++ fl ((fil M B num false (Z.drop (i + 1))).map un) [])) := by
          show (if decide (i = ar + 1) = true then [] else sp) ++ (zw ++ fl (R.map un) (fl ((fil M B num false (Z.drop (i + 1))).map un) [])) = _
          rw [fl_nl (R.map un)]
        have e2 : fl (List.map um (sps (zs, zm, zk, zw, zmw) (if decide (i = ar + 1) = true then [] else sp) num :: R)) (fl ((fil M B num false (Z.drop (i + 1))).map um) []) = List.replicate (if decide (i = ar + 1) = true then ([] : List Int32) else sp).length num ++ (List.replicate zw.length zmw ++ (fl (R.map um) [] ++ fl ((fil M B num false (Z.drop (i + 1))).map um) [])) := by
          show List.replicate (if decide (i = ar + 1) = true then ([] : List Int32) else sp).length num ++ (List.replicate zw.length zmw ++ fl (R.map um) (fl ((fil M B num false (Z.drop (i + 1))).map um) [])) = _
          rw [fl_nl (R.map um)]
        rw [e1, e2]
        simp only [List.append_assoc] at hF' ⊢
        exact hF'
    refine x_Model_layOut_22 _ _ _ _ ⟨k95, ?_⟩
    rw [hX.1, htz, nI_add]
    refine pk_le (128 + Z.length) (128 + i) (fun c => by omega) (fun _ => ?_)
    simp only [k95, p10, p11, k100, k101, nzl 100 (by decide), nzl 101 (by decide), true_and]
    rw [clp (show 128 + i < 2 ^ 31 by omega), q1, pk_sub (by omega), show 128 + i - 1 = 128 + (i - 1) by omega, clp (show 128 + (i - 1) < 2 ^ 31 by omega)]
    refine pk_le (128 + i) (128 + (ar + 1)) (fun c => ⟨vp_in_nI (by omega) (by decide), ?_⟩) (fun c => ⟨vp_in_nI (by omega) (by decide), ?_⟩)
    · have ei : decide (i = ar + 1) = true := decide_eq_true (by omega)
      refine go I F G FrF.rf hF ?_ ?_
      · rw [ei]; simp
      · rw [ei]; simp
    · have ei : decide (i = ar + 1) = false := decide_eq_false (by omega)
      have hpt := (hX.2.1.at (show i - 1 < (tks (fl Z tr)).length by omega)).2
      have ep : ten (tks (fl Z tr)) (i - 1) = ftl (Z.take i) := by
        rw [etk, ten_psn (by omega), show i - 1 + 1 = i by omega]
      rw [hpt]
      refine l_lay58 hM ho (by omega) (b := tst (tks (fl Z tr)) i) (by omega) sp.length (ten (tks (fl Z tr)) (i - 1)) F G I (by omega) hX.2.2.2 q1 hF (fun I1 f1 hF1 => ?_)
      have esp : sub (fl Z tr) (ten (tks (fl Z tr)) (i - 1)) (tst (tks (fl Z tr)) i) = sp := by
        rw [ep, s1, fl_at hz]
        unfold sub
        rw [show ftl (Z.take i) = (fl (Z.take i) []).length from rfl, List.drop_left, Nat.add_sub_cancel_left, List.take_left]
      rw [esp, show tst (tks (fl Z tr)) i - ten (tks (fl Z tr)) (i - 1) = sp.length by omega] at hF1
      refine go I1 _ _ f1 hF1 ?_ ?_
      · rw [ei]; simp
      · rw [ei]; simp
theorem m_layOut (hM : MO P) {M : List MIt} {tl : List Int32} (hLX : LX (M.map un) tl) (hs : (fl (M.map un) tl).length ≤ 120) {off : Nat} {Z : List ItC} {tr : List Int32} (hLZ : LX Z tr) (hx : (fl Z tr).length ≤ 60) (ho : off + (fl Z tr).length ≤ 640) {num : Int32} {ar dpx : Nat} (har : le_ true (Z.map (fun z => z.2.1)) = some (ar, dpx)) (hal : ar + 1 ≤ Z.length) {B : BN} (hBE : BEn (kds (fl (M.map un) tl)) B) {I : mI} (hR : RDs I (fl (M.map un) tl)) (hm : MZ I M tl) (hX : RdR I off (fl Z tr)) (hB : BM I B) (hBK : BK B M.length (Z.drop (ar + 1)))
    (h : ∀ I', FrF I I' → FS I' (fl ((fil M B num true (Z.drop (ar + 1))).map un) []) (fl ((fil M B num true (Z.drop (ar + 1))).map um) []) → Q (nI 0) I' P) : V E (d + 1) m_Model_layOut 112 Q 0 [some (.inr 95), some (.inl num), none, none, none, none] [] 112 I P := by
  have hM' := hM
  obtain ⟨p0, p1, -, p9, p10, p11, p12, -⟩ := hM'
  have hab := le_b har
  have hkd : kds (fl Z tr) = Z.map (fun z => z.2.1) := by
    unfold kds
    rw [tks_LX hLZ, kds_psn]
  have hZl := LX_len hLZ
  have hL : I 102 128 = nI (ar - 1) := by
    have := ((hX.2.2.1 0 (by rw [hkd, List.length_map]; omega)).s (by rw [List.drop_zero, hkd]; exact har)).1
    rw [Nat.zero_add, Nat.add_zero] at this
    exact this
  refine x_Model_layOut_0 _ _ ?_
  simp only [k95, p12, k102, nzl 102 (by decide), true_and]
  rw [clp (show 128 < 2 ^ 31 by decide), hL, nI_add, nI_add, show 128 + (ar - 1) + 2 = 128 + (ar + 1) by omega]
  refine ⟨vp_in_nI (by decide) (by decide), ?_⟩
  have fF : FrF I (uI I 95 22 (nI 0)) := ⟨fun m h1 _ _ => uI_n h1, fun j hj => uI_o hj⟩
  have e96 : (uI I 95 22 (nI 0)) 96 = I 96 := uI_n (by decide)
  have e97 : (uI I 95 22 (nI 0)) 97 = I 97 := uI_n (by decide)
  refine l_layOut hM hLX hs hLZ hx ho (num := num) (ar := ar) hBE (Z.length - (ar + 1)) (ar + 1) [] [] _ (by omega) (Nat.le_refl _) (fF.rd hR) ⟨by rw [e96]; exact hm.1, by rw [e97]; exact hm.2⟩ (fF.rr hX) (fun c hc => by rw [uI_n (by decide)]; exact hB c hc) hBK ⟨uI_s, fun j y hy => by simp at hy, fun j y hy => by simp at hy, rfl⟩ (fun I' f' hF' => h I' (fF.tr f') ?_)
  rw [decide_eq_true rfl] at hF'
  exact hF'
end LP
