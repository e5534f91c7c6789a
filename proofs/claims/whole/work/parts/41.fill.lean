theorem mkr_um (n : Int32) : ∀ (Z : List ItC) (t : List Int32), fl ((mkr n Z).map um) (List.replicate t.length n) = List.replicate (fl Z t).length n
  | [], t => rfl
  | (sp, k, w) :: Z, t => by
    show List.replicate sp.length n ++ (List.replicate w.length n ++ fl ((mkr n Z).map um) (List.replicate t.length n)) = List.replicate (sp ++ (w ++ fl Z t)).length n
    rw [mkr_um n Z t, List.replicate_append_replicate, List.replicate_append_replicate, List.length_append, List.length_append]
theorem mkr_wn {n : Int32} {Z : List ItC} {t : List Int32} (h : LX Z t) : WN (mkr n Z) := fun z hz => by
  obtain ⟨y, hy, rfl⟩ := List.mem_map.mp hz
  exact LX_w Z t h y hy
theorem mkr_len (n : Int32) (Z : List ItC) : (mkr n Z).length = Z.length := List.length_map _
theorem mkr_at {n : Int32} {Z : List ItC} {i k : Nat} {sp w : List Int32} (h : Z[i]? = some (sp, k, w)) : (mkr n Z)[i]? = some (sp, n, k, w, n) := by
  unfold mkr
  rw [List.getElem?_map, h]
  rfl
theorem WN.app {A B : List MIt} (h : WN A) (h' : WN B) : WN (A ++ B) := fun z hz => (List.mem_append.mp hz).elim (h z) (h' z)
section FF
variable {E : XE} {d : Nat} {Q : Int32 → mI → mP → Prop} {P : mP} {o o' op N' : Nat} {Z : List ItC} {t mk : List Int32} {Zo : List MIt} {to : List Int32} {mo : Int32} {ar : Nat} {B : BN} {num : Int32}
theorem l_fill (hO : RO P o) (hT' : TO P o' N') (hTp : TO P op 120) (hN' : N' < 2 ^ 20) (ha1 : apt op o') (ha2 : op + 5 < o ∨ o + 8 < op) (hLX : LX Z t) (h60 : (fl Z t).length ≤ 60) (hk10 : k10 (Z.map (fun z => z.2.1))) (hW' : WN Zo) (hs' : (fl (Zo.map un) to).length ≤ N') (har : ar + 1 < Z.length) : ∀ (n i : Nat) (X : List MIt) (I : mI) (fst : Bool), i + n = Z.length → ar + 1 ≤ i → (fst = true ↔ i ≤ ar + 1) → I o 1 = nI ar → TZ I (o + 1) (mkr num Z) t num → TZ I o' Zo to mo → BR I o B Zo.length → TZ I op X [] num → WN X → BK B Zo.length (Z.drop i) → ftl ((X ++ fil Zo B num fst (Z.drop i)).map un) ≤ 120 →
    (∀ I', FrK op I I' → TZ I' op (X ++ fil Zo B num fst (Z.drop i)) [] num → WN (X ++ fil Zo B num fst (Z.drop i)) → Q (nI 0) I' P) → V E (d + 3) m_Rule_fill 112 Q 28 [some (.inr o), some (.inr op), some (.inr o'), none, some (.inl (nI i)), none] [] 112 I P := by
  have hOO := hO
  obtain ⟨o0, o1, oT, ⟨o2, k2⟩, ⟨o3, k3⟩⟩ := hO
  have hZl := LX_len hLX
  have hpl : (psn 0 Z).length = Z.length := psn_len 0 Z
  have hZo := hW'.len
  have hfo := fl_len (Zo.map un) to
  have hkk := kds_psn Z 0
  have hfz := fl_len Z t
  have hap : apt op (o + 1) := by unfold apt; omega
  have hWr : WN (mkr num Z) := mkr_wn hLX
  have hmu := mkr_un num Z
  have hml := mkr_len num Z
  intro n
  induction n with
  | zero =>
    intro i X I fst hi hai hf h1 hx hx' hBR hX hWX hBK hr h
    refine x_Rule_fill_28 _ _ _ _ ?_
    simp only [o0, o1, oT.1, nzz 1 (by decide), true_and]
    rw [hx.2.2.2.2.1, hmu, hpl]
    refine pk_le Z.length i (fun _ => ?_) (fun q => by omega)
    rw [List.drop_eq_nil_of_le (by omega)] at h
    have e : fil Zo B num fst [] = [] := by cases fst <;> rfl
    rw [e, List.append_nil] at h
    exact h I FrK.rf hX hWX
  | succ n ih =>
    intro i X I fst hi hai hf h1 hx hx' hBR hX hWX hBK hr h
    have hil : i < Z.length := by omega
    obtain ⟨⟨sp, k, w⟩, hz⟩ : ∃ q, Z[i]? = some q := ⟨_, List.getElem?_eq_getElem hil⟩
    have hdr := drop_it hz
    have hk : (Z.map (fun z => z.2.1))[i]? = some k := by rw [List.getElem?_map, hz]; rfl
    have hBK2 : BK B Zo.length (Z.drop (i + 1)) := fun sp' w' hm => hBK sp' w' (by rw [hdr]; exact List.mem_cons_of_mem _ hm)
    rw [hdr] at hr h
    -- from 61 on: the space has been put
    have s61 : ∀ (I1 : mI), FrK op I I1 → TZ I1 op X (if fst = true then [] else sp) num → V E (d + 3) m_Rule_fill 112 Q 61 [some (.inr o), some (.inr op), some (.inr o'), none, some (.inl (nI i)), none] [] 112 I1 P := by
      intro I1 f1 hX1
      have hx1 : TZ I1 (o + 1) (mkr num Z) t num := f1.txt hap hx
      have hx1' : TZ I1 o' Zo to mo := f1.txt ha1 hx'
      have hB1 : BR I1 o B Zo.length := fun d' hd' => by
        rw [f1 (o + 7) (by omega), f1 (o + 8) (by omega)]
        exact hBR d' hd'
      have hkr := hx1.2.2.2.2.kr
      rw [hmu] at hkr
      have go : ∀ (Y : List MIt), WN Y → fil Zo B num fst ((sp, k, w) :: Z.drop (i + 1)) = Y ++ fil Zo B num false (Z.drop (i + 1)) → ∀ I2, FrK op I1 I2 → TZ I2 op (X ++ Y) [] num → V E (d + 3) m_Rule_fill 112 Q 120 [some (.inr o), some (.inr op), some (.inr o'), none, some (.inl (nI i)), none] [] 112 I2 P := by
        intro Y hY e I2 f2 hX2
        refine x_Rule_fill_120 _ _ _ _ ?_
        rw [n1]
        rw [e, ← List.append_assoc] at hr h
        have f12 := f1.tr f2
        refine ih (i + 1) (X ++ Y) I2 false (by omega) (by omega) ⟨fun c => by (cases c), fun c => by omega⟩ (by rw [f12 o (by omega)]; exact h1) (f2.txt hap hx1) (f2.txt ha1 hx1') (fun d' hd' => by rw [f2 (o + 7) (by omega), f2 (o + 8) (by omega)]; exact hB1 d' hd') hX2 (hWX.app hY) hBK2 hr (fun I3 f3 => h I3 (f12.tr f3))
      refine x_Rule_fill_61 _ _ _ _ ?_
      simp only [o0, o1, oT.1, nzz 1 (by decide), true_and]
      refine s_isHole (d := d + 1) oT (by decide) hkr (by rw [hkk, List.length_map]; omega) (by rw [hkk]; exact hk10) (by omega) (bz_i (fun c => ?_) (fun c => ?_))
      · have hk3 : k ≠ 3 := by
          intro e
          subst e
          rw [hkk, hk] at c
          exact absurd c (by decide)
        simp only [o0, o1, hTp.1, nzz 1 (by decide), true_and]
        rw [n1]
        have hR1 : ((mkr num Z).drop i).take (i + 1 - i) = (sp, num, k, w, num) :: [] := by rw [drop_it (mkr_at hz), show i + 1 - i = 1 by omega]; rfl
        have eF := fil_tok (Zo := Zo) (B := B) (num := num) (fst := fst) (sp := sp) (w := w) (T := Z.drop (i + 1)) hk3
        refine z_appendSpan hTp oT (by decide) (by decide) hap hX1 hx1 hWX hWr (by rw [hmu]; exact h60) (by omega) (by rw [hml]; omega) hR1 ?_ (fun I2 f2 hX2 => go [((if fst = true then [] else sp), num, k, w, num)] ?_ eF I2 f2 hX2)
        · rw [eF, ← List.append_assoc, List.map_append, ftl_app] at hr
          show ftl ((X ++ [((if fst = true then [] else sp), num, k, w, num)]).map un) ≤ 120
          omega
        · intro y hy
          rw [List.mem_singleton] at hy
          subst hy
          exact LX_w Z t hLX _ (List.mem_of_getElem? hz)
      · have hk3 : k = 3 := by
          rw [hkk, hk] at c
          simpa using c
        subst hk3
        obtain ⟨f, b, hB, hfb, hb⟩ := hBK sp w (by rw [hdr]; exact List.mem_cons_self)
        obtain ⟨z, R, hzR⟩ := tkd hfb hb
        obtain ⟨c0, dg, hd10, hww, hdw⟩ := okw3 (LX_at hLX hz).2
        have hch := dgt_psn (t := t) hz (x := nI (48 + dg)) (by rw [hww]; rfl)
        have hB' := hB
        rw [hdw] at hB'
        obtain ⟨b1, b2, -, -⟩ := (hB1 dg hd10).2 f b hB'
        simp only [o0, o1, oT.1, nzz 1 (by decide), true_and]
        have hxx1 : TXT I1 (o + 1) (fl Z t) (List.replicate (fl Z t).length num) (psn 0 Z) := by
          have := hx1
          unfold TZ at this
          rw [hmu, mkr_um] at this
          exact this
        refine s_digitOf oT (by decide) hxx1 h60 (by omega) (by omega) hch ?_
        rw [dig_e]
        simp only [o0, o2, k2, o3, k3, nzz 7 (by decide), nzz 8 (by decide), true_and]
        rw [clp (show dg < 2 ^ 31 by omega), b1, b2]
        refine ⟨vp_in_nI hd10 (by decide), vp_in_nI hd10 (by decide), hTp.1, ?_⟩
        have eF := fil_hole (Zo := Zo) (B := B) (num := num) (fst := fst) (sp := sp) (w := w) (T := Z.drop (i + 1)) hB hzR
        refine z_appendSpan hTp hT' (by decide) hN' ha1 hX1 hx1' hWX hW' hs' hfb hb hzR ?_ (fun I2 f2 hX2 => go _ ?_ eF I2 f2 hX2)
        · rw [eF, ← List.append_assoc, List.map_append, ftl_app] at hr
          omega
        · intro y hy
          have hmem : ∀ y', y' ∈ z :: R → y' ∈ Zo := fun y' h' => by
            rw [← hzR] at h'
            exact List.mem_of_mem_drop (List.mem_of_mem_take h')
          rcases List.mem_cons.mp hy with rfl | hy
          · exact hW' z (hmem z List.mem_cons_self)
          · exact hW' y (hmem y (List.mem_cons_of_mem _ hy))
    refine x_Rule_fill_28 _ _ _ _ ?_
    simp only [o0, o1, oT.1, nzz 1 (by decide), true_and]
    rw [hx.2.2.2.2.1, hmu, hpl]
    refine pk_le Z.length i (fun q => by omega) (fun _ => ?_)
    rw [h1, n1]
    refine pk_le i (ar + 1) (fun q => ?_) (fun q => ?_)
    · have hft : fst = true := hf.mpr q
      exact s61 I FrK.rf (by rw [if_pos hft]; exact hX)
    · have hft : ¬ fst = true := fun c => by have := hf.mp c; omega
      refine ⟨hTp.1, z_appendSpace hTp oT (by decide) (by decide) hap hX hx hWr (by rw [hmu]; exact h60) (by rw [hml]; omega) (Or.inl ⟨_, mkr_at hz⟩) ?_ (fun I1 f1 hX1 => s61 I1 f1 (by rw [if_neg hft]; exact hX1))⟩
      have hsl : sp.length ≤ ftl ((fil Zo B num fst ((sp, k, w) :: Z.drop (i + 1))).map un) := by
        by_cases hk3 : k = 3
        · subst hk3
          obtain ⟨f, b, hB, hfb, hb⟩ := hBK sp w (by rw [hdr]; exact List.mem_cons_self)
          obtain ⟨⟨a1, a2, a3, a4, a5⟩, R, hzR⟩ := tkd hfb hb
          rw [fil_hole hB hzR, if_neg hft]
          show sp.length ≤ ftl ((sp, a3, a4) :: (R ++ _).map un)
          rw [ftl_c]
          omega
        · rw [fil_tok hk3, if_neg hft]
          show sp.length ≤ ftl ((sp, k, w) :: List.map un _)
          rw [ftl_c]
          omega
      rw [List.map_append, ftl_app] at hr
      omega
theorem s_fill (hO : RO P o) (hT' : TO P o' N') (hTp : TO P op 120) (hN' : N' < 2 ^ 20) (ha1 : apt op o') (ha2 : op + 5 < o ∨ o + 8 < op) (ha3 : o' + 5 < o ∨ o + 8 < o') {I : mI} (hR : RLz I o Z t mk ar) (hx' : TZ I o' Zo to mo) (hW' : WN Zo) (hs' : (fl (Zo.map un) to).length ≤ N') (hBR : BR I o B Zo.length) (hBK : BK B Zo.length (Z.drop (ar + 1))) (hr : ftl ((fil Zo B num true (Z.drop (ar + 1))).map un) ≤ 120)
    (h : ∀ I', (∀ m, (m < op ∨ op + 5 < m) → m ≠ o + 3 → I' m = I m) → TZ I' op (fil Zo B num true (Z.drop (ar + 1))) [] num → WN (fil Zo B num true (Z.drop (ar + 1))) → RLz I' o Z t (List.replicate (fl Z t).length num) ar → Q (nI 0) I' P) : V E (d + 3) m_Rule_fill 112 Q 0 [some (.inr o), some (.inr op), some (.inr o'), some (.inl num), none, none] [] 112 I P := by
  have hOO := hO
  obtain ⟨o0, o1, oT, -, -⟩ := hO
  obtain ⟨hI1, hx, hLX, h60, hal, hk10⟩ := hR
  refine x_Rule_fill_0 _ _ _ _ ⟨hTp.1, s_empty hTp ?_⟩
  simp only [o0, o1, oT.1, nzz 1 (by decide), true_and]
  generalize hJ : uI (uI I op 5 (nI 0)) op 6 (nI 0) = J
  have fJ : FrK op I J := fun m hm => by rw [← hJ, uI_n (by omega), uI_n (by omega)]
  have hap : apt op (o + 1) := by unfold apt; omega
  have hxJ := fJ.txt hap hx
  have hXJ : TZ J op [] [] num := by
    refine ⟨?_, fun j x hx => by simp [fl] at hx, rfl, fun j x hx => by simp [fl] at hx, ?_, fun t' k a b e => by simp [psn] at e⟩
    · rw [← hJ, uI_o (by decide), uI_s]
      rfl
    · rw [← hJ, uI_s]
      rfl
  rw [hxJ.1]
  refine s_markSpan (n := (fl Z t).length) oT (by decide) h60 (by omega) (by omega) hxJ.1 ?_
  rw [Nat.min_self]
  generalize hK : sI J (o + 1 + 2) (mkf (J (o + 1 + 2)) 0 (fl Z t).length num) = K
  have fK : ∀ m, m ≠ o + 3 → K m = J m := fun m hm => by rw [← hK, sI_n hm]
  have hxK : TXT K (o + 1) (fl Z t) (List.replicate (fl Z t).length num) (psn 0 Z) := by
    obtain ⟨q1, q2, q3, q4, q5⟩ := hxJ
    refine ⟨by rw [fK (o + 1) (by omega)]; exact q1, by rw [fK (o + 1 + 1) (by omega)]; exact q2, List.length_replicate .., ?_, q5.fr (by rw [fK (o + 1) (by omega)]) (fK _ (by omega)) (fK _ (by omega)) (fK _ (by omega))⟩
    intro j x hj
    have hjl : j < (fl Z t).length := by
      have := (List.getElem?_eq_some_iff.mp hj).1
      rw [List.length_replicate] at this
      exact this
    rw [List.getElem?_replicate, if_pos hjl] at hj
    rw [← hK, sI_s]
    unfold mkf
    rw [if_pos (by omega)]
    injection hj
  have hxK2 : TZ K (o + 1) (mkr num Z) t num := by
    unfold TZ
    rw [mkr_un, mkr_um]
    exact hxK
  have e1 : K o 1 = nI ar := by rw [fK o (by omega), fJ o (by omega)]; exact hI1
  rw [e1, n1]
  refine l_fill (mo := mo) hOO hT' hTp hN' ha1 ha2 hLX h60 hk10 hW' hs' hal (Z.length - (ar + 1)) (ar + 1) [] K true (by omega) (Nat.le_refl _) ⟨fun _ => Nat.le_refl _, fun _ => rfl⟩ e1 hxK2 ?_ ?_ ?_ (fun z hz => by simp at hz) hBK (by rw [List.nil_append]; exact hr) (fun I' f' hX' hWX' => ?_)
  · refine (fJ.txt ha1 hx').fr (fun m h1 h2 => fK m (by omega))
  · intro d' hd'
    rw [fK (o + 7) (by omega), fK (o + 8) (by omega), fJ (o + 7) (by omega), fJ (o + 8) (by omega)]
    exact hBR d' hd'
  · exact hXJ.fr (fun m h1 h2 => fK m (by omega))
  · rw [List.nil_append] at hX' hWX'
    refine h I' (fun m hm hm2 => ?_) hX' hWX' ⟨by rw [f' o (by omega)]; exact e1, f'.txt hap hxK, hLX, h60, hal, hk10⟩
    rw [f' m hm, fK m hm2, fJ m hm]
end FF
