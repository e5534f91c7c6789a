/-! Model.rewrite. -/
def rfx (M : List MIt) (Z : List ItC) (ar R i l : Nat) (B : BN) : List MIt := match M[i]?, fil M B (nI (R + 1)) true (Z.drop (ar + 1)) with
  | some z, y :: Y => M.take i ++ sps y z.1 z.2.1 :: (Y ++ M.drop (l + 1))
  | _, _ => M
/-- the text with a piece put in -/
theorem put_un {M Y : List MIt} {z y : MIt} {tl : List Int32} {i l : Nat} (hz : M[i]? = some z) (hil : i ≤ l) (hl : l < M.length) : (fl (M.map un) tl).take (tst (psn 0 (M.map un)) i) ++ (fl ((y :: Y).map un) [] ++ (fl (M.map un) tl).drop (ten (psn 0 (M.map un)) l)) = sub (fl (M.map un) tl) 0 (ftl ((M.take i).map un)) ++ (z.1 ++ (fl ((y :: Y).map un) [] ++ fl ((M.drop (l + 1)).map un) tl)) := by
  obtain ⟨sp, m, k, w, m'⟩ := z
  have hz' : (M.map un)[i]? = some (sp, k, w) := by rw [List.getElem?_map, hz]; rfl
  rw [tst_psn hz', ten_psn (by rw [List.length_map]; exact hl)]
  have e1 : (fl (M.map un) tl).drop (ftl ((M.map un).take (l + 1))) = fl ((M.drop (l + 1)).map un) tl := by
    conv => lhs; rw [← List.take_append_drop (l + 1) (M.map un), fl_app, fl_nl]
    rw [List.take_append_drop, show ftl ((M.map un).take (l + 1)) = (fl ((M.map un).take (l + 1)) []).length from rfl, List.drop_left, List.map_drop]
  rw [e1]
  have e2 : (fl (M.map un) tl).take (ftl ((M.map un).take i) + sp.length) = fl ((M.map un).take i) [] ++ sp := by
    rw [fl_at hz', ← List.append_assoc, show ftl ((M.map un).take i) + sp.length = (fl ((M.map un).take i) [] ++ sp).length by rw [List.length_append]; rfl, List.take_left]
  rw [e2]
  have e3 : sub (fl (M.map un) tl) 0 (ftl ((M.take i).map un)) = fl ((M.map un).take i) [] := by
    unfold sub
    rw [List.drop_zero, Nat.sub_zero, fl_at hz', List.map_take, show ftl ((M.map un).take i) = (fl ((M.map un).take i) []).length from rfl, List.take_left]
  rw [e3, List.append_assoc]
theorem fl_put (A C : List ItC) (sp w t : List Int32) (k : Nat) (Y : List ItC) : fl (A ++ (sp, k, w) :: (Y ++ C)) t = fl A [] ++ (sp ++ (w ++ (fl Y [] ++ fl C t))) := by
  rw [fl_app, fl_nl A]
  show fl A [] ++ (sp ++ (w ++ fl (Y ++ C) t)) = _
  rw [fl_app, fl_nl Y]
theorem rfx_un {M : List MIt} {Z : List ItC} {tl : List Int32} {ar R i l : Nat} {B : BN} {z y : MIt} {Y : List MIt} (hz : M[i]? = some z) (hY : fil M B (nI (R + 1)) true (Z.drop (ar + 1)) = y :: Y) (hy : y.1 = []) (hil : i ≤ l) (hl : l < M.length) : fl ((rfx M Z ar R i l B).map un) tl = (fl (M.map un) tl).take (tst (psn 0 (M.map un)) i) ++ (fl ((y :: Y).map un) [] ++ (fl (M.map un) tl).drop (ten (psn 0 (M.map un)) l)) := by
  rw [put_un hz hil hl]
  obtain ⟨sp, m, k, w, m'⟩ := z
  obtain ⟨ysp, ym, yk, yw, ym'⟩ := y
  dsimp only at hy
  subst hy
  unfold rfx
  rw [hz, hY]
  dsimp only
  rw [List.map_append, List.map_cons, List.map_append]
  have : un (sps ([], ym, yk, yw, ym') sp m) = (sp, yk, yw) := rfl
  rw [this, fl_put]
  have hz' : (M.map un)[i]? = some (sp, k, w) := by rw [List.getElem?_map, hz]; rfl
  have e3 : sub (fl (M.map un) tl) 0 (ftl ((M.take i).map un)) = fl ((M.map un).take i) [] := by
    unfold sub
    rw [List.drop_zero, Nat.sub_zero, fl_at hz', List.map_take, show ftl ((M.map un).take i) = (fl ((M.map un).take i) []).length from rfl, List.take_left]
  rw [e3, List.map_take]
  show _ = _ ++ (sp ++ (([] ++ (yw ++ fl (Y.map un) [])) ++ _))
  rw [List.nil_append, List.append_assoc]
theorem rfx_um {M : List MIt} {Z : List ItC} {tl : List Int32} {ar R i l : Nat} {B : BN} {z y : MIt} {Y : List MIt} (hz : M[i]? = some z) (hY : fil M B (nI (R + 1)) true (Z.drop (ar + 1)) = y :: Y) (hy : y.1 = []) (hil : i ≤ l) (hl : l < M.length) : fl ((rfx M Z ar R i l B).map um) tl = (fl (M.map um) tl).take (tst (psn 0 (M.map un)) i) ++ (fl ((y :: Y).map um) [] ++ (fl (M.map um) tl).drop (ten (psn 0 (M.map un)) l)) := by
  obtain ⟨sp, m, k, w, m'⟩ := z
  obtain ⟨ysp, ym, yk, yw, ym'⟩ := y
  dsimp only at hy
  subst hy
  have hz' : (M.map um)[i]? = some (List.replicate sp.length m, k, List.replicate w.length m') := by rw [List.getElem?_map, hz]; rfl
  rw [← psn_um, tst_psn hz', ten_psn (by rw [List.length_map]; exact hl)]
  have e1 : (fl (M.map um) tl).drop (ftl ((M.map um).take (l + 1))) = fl ((M.drop (l + 1)).map um) tl := by
    conv => lhs; rw [← List.take_append_drop (l + 1) (M.map um), fl_app, fl_nl]
    rw [List.take_append_drop, show ftl ((M.map um).take (l + 1)) = (fl ((M.map um).take (l + 1)) []).length from rfl, List.drop_left, List.map_drop]
  have e2 : (fl (M.map um) tl).take (ftl ((M.map um).take i) + (List.replicate sp.length m).length) = fl ((M.map um).take i) [] ++ List.replicate sp.length m := by
    rw [fl_at hz', ← List.append_assoc, show ftl ((M.map um).take i) + (List.replicate sp.length m).length = (fl ((M.map um).take i) [] ++ List.replicate sp.length m).length by rw [List.length_append]; rfl, List.take_left]
  rw [e1, e2]
  unfold rfx
  rw [hz, hY]
  dsimp only
  rw [List.map_append, List.map_cons, List.map_append]
  have : um (sps ([], ym, yk, yw, ym') sp m) = (List.replicate sp.length m, yk, List.replicate yw.length ym') := rfl
  rw [this, fl_put, List.map_take, List.append_assoc]
  show _ = _ ++ (List.replicate sp.length m ++ (([] ++ (List.replicate yw.length ym' ++ fl (Y.map um) [])) ++ _))
  rw [List.nil_append, List.append_assoc]
/-- the first item of a filled template has no space -/
theorem fil_sp0 {M : List MIt} {B : BN} {num : Int32} {T : List ItC} {y : MIt} {Y : List MIt} (hBK : BK B M.length T) (h : fil M B num true T = y :: Y) : y.1 = [] := by
  cases T with
  | nil => cases h
  | cons z T =>
    obtain ⟨sp, k, w⟩ := z
    by_cases hk : k = 3
    · subst hk
      obtain ⟨f, b, hB, hfb, hb⟩ := hBK sp w List.mem_cons_self
      obtain ⟨z, R, hzR⟩ := tkd hfb hb
      rw [fil_hole hB hzR] at h
      injection h with h1 _
      rw [← h1]
      rfl
    · rw [fil_tok hk] at h
      injection h with h1 _
      rw [← h1]
      rfl
def FrY (I I' : mI) : Prop := ∀ m, (m < 95 ∨ 108 < m) → I' m = I m
theorem FrF.y {I I' : mI} (h : FrF I I') : FrY I I' := fun m hm => h.1 m (by omega) (by omega) (by omega)
theorem FrB.y {I I' : mI} (h : FrB I I') : FrY I I' := fun m hm => h m (by omega)
theorem FrR.y {I I' : mI} (h : FrR I I') : FrY I I' := fun m hm => h.1 m (by omega) (by omega)
theorem FrQ.y {I I' : mI} (h : FrQ I I') : FrY I I' := fun m hm => h.1 m (by omega) (by omega)
theorem FrY.tr {I I' I'' : mI} (h : FrY I I') (h' : FrY I' I'') : FrY I I'' := fun m hm => (h' m hm).trans (h m hm)
theorem FrB.mc {I I' : mI} {bf ld s mk : List Int32} {rl : List (List Int32)} {R : Nat} {cy : Int32} (hf : FrB I I') (h : MC I bf ld s mk rl R cy) : MC I' bf ld s mk rl R cy := h.fr (fun j _ => by rw [hf 95 (by decide)]) (fun m a b => hf m (by omega))
section RW
variable {E : XE} {d : Nat} {Q : Int32 → mI → mP → Prop} {P : mP}
theorem l_rewrite (hM : MO P) {I : mI} {s2 : List Int32} (hs2 : s2.length ≤ 120) (hR : RDs I s2) {i s0 : Nat} (hi : i < (tks s2).length) (hs0 : tst (tks s2) i = s0) (hne : ∀ t, t < i → tst (tks s2) t ≠ s0) (hq : Q (bI (gdi (kds s2) i)) I P) : ∀ (n t : Nat), t + n = i → V E (d + 1) m_Model_rewrite 112 Q 66 [some (.inr 95), none, some (.inl (nI s0)), none, some (.inl (nI t))] [] 112 I P := by
  obtain ⟨p0, p1, -, p9, p10, p11, p12, p13, p14, -⟩ := hM
  have htl := tks_len s2
  have hkl := kds_len s2
  intro n
  induction n with
  | zero =>
    intro t ht
    have : t = i := by omega
    subst this
    have h100 := (hR.2.1.at hi).1
    rw [Nat.zero_add, Nat.zero_add, hs0] at h100
    obtain ⟨f, e, g, hm, h1, h2⟩ := spn_cov (kds s2) (kds s2).length 0 0 (by omega) (Nat.le_refl _) t (Nat.zero_le _) (by omega)
    have hg : gdi (kds s2) t = g := gdi_of hm h1 h2
    obtain ⟨j, hj, ej⟩ := List.getElem_of_mem hm
    have h104 : I 104 t = bI g := (hR.2.2.2.2 j f e g (by unfold spns; rw [List.getElem?_eq_getElem hj, ej]) t h1 h2).1
    refine x_Model_rewrite_66 _ _ _ ?_
    simp only [k95, p10, p14, k100, k104, nzl 100 (by decide), nzl 104 (by decide), true_and]
    rw [clp (show t < 2 ^ 31 by omega), h100, h104]
    rw [hg] at hq
    exact ⟨vp_in_nI (by omega) (by decide), fun _ => ⟨vp_in_nI (by omega) (by decide), by cases g <;> rfl, hq⟩, fun c => absurd rfl c⟩
  | succ n ih =>
    intro t ht
    have h100 := (hR.2.1.at (show t < (tks s2).length by omega)).1
    rw [Nat.zero_add, Nat.zero_add] at h100
    have hb := tst_bd (show t < (tks s2).length by omega)
    have hb2 := tst_bd hi
    refine x_Model_rewrite_66 _ _ _ ?_
    simp only [k95, p10, k100, nzl 100 (by decide), true_and]
    rw [clp (show t < 2 ^ 31 by omega), h100, n1]
    exact ⟨vp_in_nI (by omega) (by decide), fun c => absurd ((nI_eq (by omega) (by omega)).mp c) (hne t (by omega)), fun _ => ih (t + 1) (by omega)⟩
theorem m_rewrite (hM : MO P) {bf ld : List Int32} {M : List MIt} {tl : List Int32} {rl : List (List Int32)} {R : Nat} {cy : Int32} {I : mI} (hC : MC I bf ld (fl (M.map un) tl) (fl (M.map um) (List.replicate tl.length (nI 0))) rl R cy) (hRb : R < 2 ^ 30) (hLX : LX (M.map un) tl) {off : Nat} {Z : List ItC} {tr : List Int32} (hLZ : LX Z tr) (hx : (fl Z tr).length ≤ 60) (ho : off + (fl Z tr).length ≤ 640) (ho1 : 192 ≤ off) {ar dpx : Nat} (har : le_ true (Z.map (fun z => z.2.1)) = some (ar, dpx)) (hal : ar + 1 ≤ Z.length) {B : BN} (hBE : BEn (kds (fl (M.map un) tl)) B) (hR : RDs I (fl (M.map un) tl)) (hX : RdR I off (fl Z tr)) (hB : BM I B) (hBK : BK B M.length (Z.drop (ar + 1))) {i l b : Nat} (he : (i, l, b) ∈ (outl (kds (fl (M.map un) tl))).2) {y : MIt} {Y : List MIt} (hY : fil M B (nI (R + 1)) true (Z.drop (ar + 1)) = y :: Y) (hL2 : LX ((rfx M Z ar R i l B).map un) tl)
    (h1 : ∀ I', (fl ((rfx M Z ar R i l B).map un) tl).length ≤ 120 → FrY I I' → MC I' bf ld (fl ((rfx M Z ar R i l B).map un) tl) (fl ((rfx M Z ar R i l B).map um) (List.replicate tl.length (nI 0))) rl (R + 1) cy → RDs I' (fl ((rfx M Z ar R i l B).map un) tl) → RdR I' off (fl Z tr) → I' 95 22 = nI (ftl ((y :: Y).map un)) → Q (bI (gdi (kds (fl ((rfx M Z ar R i l B).map un) tl)) i)) I' P)
    (h0 : ∀ I', ¬ (fl ((rfx M Z ar R i l B).map un) tl).length ≤ 120 → FrY I I' → MC I' bf ld (fl (M.map un) tl) (fl (M.map um) (List.replicate tl.length (nI 0))) rl R cy → Q (nI 0) I' P) : V E (d + 4) m_Model_rewrite 112 Q 0 [some (.inr 95), some (.inl (nI i)), none, none, none] [] 112 I P := by
  have hs := hC.2.2.1.2.2
  have etm := tks_LX hLX
  have hMl : (tks (fl (M.map un) tl)).length = M.length := by rw [etm, psn_len, List.length_map]
  obtain ⟨g1, g2, g3, g4, g5⟩ := ent_i hs he
  have hM' := hM
  obtain ⟨p0, p1, -, p9, p10, p11, p12, -⟩ := hM'
  have hz : M[i]? = some M[i] := List.getElem?_eq_getElem (by omega)
  have hy0 := fil_sp0 hBK hY
  have eun := rfx_un (tl := tl) hz hY hy0 g1 (by omega)
  have eum := rfx_um (tl := List.replicate tl.length (nI 0)) hz hY hy0 g1 (by omega)
  rw [← etm] at eun eum
  have h100 := (hR.2.1.at (show i < (tks (fl (M.map un) tl)).length by omega)).1
  rw [Nat.zero_add, Nat.zero_add] at h100
  obtain ⟨t1, t2⟩ := tst_bd (show i < (tks (fl (M.map un) tl)).length by omega)
  obtain ⟨t3, t4⟩ := tst_bd g2
  have tse : tst (tks (fl (M.map un) tl)) i ≤ ten (tks (fl (M.map un) tl)) l := by
    by_cases c : i = l
    · subst c; omega
    · have := tks_mono (fl (M.map un) tl) i l (by omega) g2
      omega
  have hlen : (fl ((rfx M Z ar R i l B).map un) tl).length = tst (tks (fl (M.map un) tl)) i + (ftl ((y :: Y).map un) + ((fl (M.map un) tl).length - ten (tks (fl (M.map un) tl)) l)) := by
    rw [eun, List.length_append, List.length_append, List.length_take, List.length_drop]
    unfold ftl
    omega
  refine x_Model_rewrite_0 _ _ ?_
  simp only [k95, p10, k100, nzl 100 (by decide), true_and]
  rw [clp (show i < 2 ^ 31 by omega), h100]
  refine ⟨vp_in_nI (by omega) (by decide), m_spanEnd hM hs hR he ?_⟩
  rw [hC.2.2.2.2.2.1, n1]
  refine m_layOut (d := d + 2) hM hLX hs hLZ hx ho (num := nI (R + 1)) har hal hBE hR ⟨hC.2.2.1.2.1, hC.2.2.2.1.1⟩ hX hB hBK (fun I2 f2 hF2 => ?_)
  rw [hY] at hF2
  have hC2 := f2.mc hC
  have eF : (fl ((y :: Y).map un) []).length = ftl ((y :: Y).map un) := rfl
  rw [hC2.2.2.1.1, hF2.1, pk_sub (by omega), pk_sub (by omega), nI_add, eF]
  refine pk_le ((fl (M.map un) tl).length - (ten (tks (fl (M.map un) tl)) l - tst (tks (fl (M.map un) tl)) i) + min (ftl ((y :: Y).map un)) 121) 120 (fun hle => ?_) (fun hgt => ⟨rfl, h0 I2 (by omega) f2.y hC2⟩)
  refine m_putIn hM hs hC2.2.2.2.1.2 tse t4 hC2.2.2.1.1 hC2.2.2.1.2.1 hC2.2.2.2.1.1 hF2 (by rw [eF]; omega) (fun I3 a1 a2 a3 a4 a5 a6 => ?_)
  rw [← eun] at a4 a5
  rw [← eum] at a6
  have h7 : I3 95 7 = nI R := by rw [a2 7 (by decide)]; exact hC2.2.2.2.2.2.1
  rw [h7, n1]
  have hmkl : (fl ((rfx M Z ar R i l B).map um) (List.replicate tl.length (nI 0))).length = (fl ((rfx M Z ar R i l B).map un) tl).length := fl_ul _ _ _
  have hle2 : (fl ((rfx M Z ar R i l B).map un) tl).length ≤ 120 := by omega
  have e96 : ∀ j, 120 ≤ j → (uI I3 95 7 (nI (R + 1))) 96 j = I2 96 j := fun j hj => by rw [uI_n (by decide), a3 j hj]
  have hC3 : MC (uI I3 95 7 (nI (R + 1))) bf ld (fl ((rfx M Z ar R i l B).map un) tl) (fl ((rfx M Z ar R i l B).map um) (List.replicate tl.length (nI 0))) rl (R + 1) cy := by
    obtain ⟨⟨b1, b2, b3⟩, ⟨c1, c2, c3⟩, -, -, ⟨e1, e2, e3⟩, -, g1⟩ := hC2
    refine ⟨⟨?_, fun j v hv => ?_, b3⟩, ⟨?_, fun j v hv => ?_, c3⟩, ⟨?_, ?_, hle2⟩, ⟨?_, hmkl⟩, ⟨?_, e2, fun r v hv => ?_⟩, uI_s, ?_⟩
    · rw [uI_o (by decide), a2 4 (by decide)]; exact b1
    · rw [e96 _ (by omega)]; exact b2 j v hv
    · rw [uI_o (by decide), a2 3 (by decide)]; exact c1
    · rw [e96 _ (by omega)]; exact c2 j v hv
    · rw [uI_o (by decide)]; exact a4
    · rw [uI_n (by decide)]; exact a5
    · rw [uI_n (by decide)]; exact a6
    · rw [uI_o (by decide), a2 5 (by decide)]; exact e1
    · obtain ⟨q1, q2, q3⟩ := e3 r v hv
      refine ⟨by rw [uI_n (by decide), a1 98 (by decide) (by decide) (by decide)]; exact q1, fun j w hw => ?_, q3⟩
      rw [e96 _ (by omega)]
      exact q2 j w hw
    · rw [uI_o (by decide), a2 8 (by decide)]; exact g1
  refine m_read (d := d) hM hC3 (fun I4 f4 hC4 hR4 => ?_)
  have hX4 : RdR I4 off (fl Z tr) := by
    refine RdR.rd ?_ f4
    refine (f2.rr hX).fr (by rw [uI_o (by decide), a2 18 (by decide)]) (fun m j x1 x2 x3 => by rw [uI_n (by omega), a1 m (by omega) (by omega) (by omega)]) (fun j hj => e96 j (by omega))
  have h22 : I4 95 22 = nI (ftl ((y :: Y).map un)) := by
    rw [f4.2.1 22 (by decide) (by decide), uI_o (by decide), a2 22 (by decide), hF2.1]
    rw [eF, show min (ftl ((y :: Y).map un)) 121 = ftl ((y :: Y).map un) by omega]
  have fy : FrY I I4 := fun m hm => by rw [f4.y m hm, uI_n (by omega), a1 m (by omega) (by omega) (by omega), f2.y m hm]
  -- the token is where it was
  have et2 := tks_LX hL2
  generalize hzz : M[i] = z at hz
  obtain ⟨sp, m, k, w, m'⟩ := z
  obtain ⟨ysp, ym, yk, yw, ym'⟩ := y
  have hr2 : (rfx M Z ar R i l B) = M.take i ++ (sp, m, yk, yw, ym') :: (Y ++ M.drop (l + 1)) := by
    unfold rfx
    rw [hz, hY]
    rfl
  have hri : ((rfx M Z ar R i l B).map un)[i]? = some (sp, yk, yw) := by
    rw [List.getElem?_map, hr2, List.getElem?_append_right (by rw [List.length_take]; omega), List.length_take, show i - min i M.length = 0 by omega]
    rfl
  have hz' : (M.map un)[i]? = some (sp, k, w) := by rw [List.getElem?_map, hz]; rfl
  have htk : ((rfx M Z ar R i l B).map un).take i = (M.map un).take i := by
    rw [hr2, List.map_append, List.take_append_of_le_length (by rw [List.length_map, List.length_take]; omega), ← List.map_take, List.take_take, Nat.min_self, List.map_take]
  have hts0 : tst (tks (fl ((rfx M Z ar R i l B).map un) tl)) i = tst (tks (fl (M.map un) tl)) i := by
    rw [et2, etm, tst_psn hri, tst_psn hz', htk]
  have hil2 : i < (tks (fl ((rfx M Z ar R i l B).map un) tl)).length := by
    rw [et2, psn_len]
    exact (List.getElem?_eq_some_iff.mp hri).1
  refine l_rewrite hM hle2 hR4 hil2 hts0 (fun t ht c => ?_) (h1 I4 hle2 fy hC4 hR4 hX4 h22) i 0 (by omega)
  have q1 := tks_mono (fl ((rfx M Z ar R i l B).map un) tl) t i ht hil2
  have q2 := tst_bd hil2
  have q3 := tst_bd (show t < (tks (fl ((rfx M Z ar R i l B).map un) tl)).length by omega)
  -- starts grow
  have q4 : ten (tks (fl ((rfx M Z ar R i l B).map un) tl)) t ≤ tst (tks (fl ((rfx M Z ar R i l B).map un) tl)) i := by
    rw [et2, ten_psn (by rw [et2, psn_len] at hil2; omega), tst_psn hri]
    have : ((rfx M Z ar R i l B).map un).take i = ((rfx M Z ar R i l B).map un).take (t + 1) ++ (((rfx M Z ar R i l B).map un).drop (t + 1)).take (i - (t + 1)) := by
      rw [← List.take_add, show t + 1 + (i - (t + 1)) = i by omega]
    rw [this, ftl_app]
    omega
  omega
end RW
