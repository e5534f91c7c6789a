/-! How long a filled template is, and the template filled: the class. -/
def mkr (n : Int32) (Z : List ItC) : List MIt := Z.map (fun z => (z.1, n, z.2.1, z.2.2, n))
theorem mkr_un (n : Int32) (Z : List ItC) : (mkr n Z).map un = Z := by
  unfold mkr
  rw [List.map_map]
  conv => rhs; rw [← List.map_id Z]
  rfl
/-- the rule in cell o: its tokens and where its arrow is -/
def RLz (I : mI) (o : Nat) (Z : List ItC) (t mk : List Int32) (ar : Nat) : Prop := I o 1 = nI ar ∧ TXT I (o + 1) (fl Z t) mk (psn 0 Z) ∧ LX Z t ∧ (fl Z t).length ≤ 60 ∧ ar + 1 < Z.length ∧ k10 (Z.map (fun z => z.2.1))
theorem kds_psn (Z : List ItC) : ∀ p, (psn p Z).map Prod.fst = Z.map (fun z => z.2.1) := by
  induction Z with
  | nil => intro p; rfl
  | cons z Z ih =>
    intro p
    obtain ⟨sp, k, w⟩ := z
    rw [psn_c, List.map_cons, ih]
    rfl
theorem LX_len {Z : List ItC} {t : List Int32} (h : LX Z t) : Z.length ≤ (fl Z t).length := by
  have h1 : WN (mkr 0 Z) := fun z hz => by
    obtain ⟨y, hy, rfl⟩ := List.mem_map.mp hz
    exact LX_w Z t h y hy
  have := h1.len
  rw [mkr_un] at this
  rw [fl_len]
  unfold mkr at this
  rw [List.length_map] at this
  omega
theorem LX_bd {Z : List ItC} {t : List Int32} (h : LX Z t) : ∀ q ∈ psn 0 Z, q.2.1 < q.2.2 ∧ q.2.2 ≤ (fl Z t).length := fun q hq => by
  have := psn_bd Z 0 (LX_w Z t h) q hq
  rw [fl_len]
  omega
/-- all holes of the template are bound, to tokens that are there -/
def BK (B : BN) (n : Nat) (T : List ItC) : Prop := ∀ sp w, (sp, 3, w) ∈ T → ∃ f b, B (dgw w) = some (f, b) ∧ f < b ∧ b ≤ n
def rem0 (fst : Bool) (T : List ItC) : Nat := ftl T - (if fst = true then (match T with
  | (sp, _, _) :: _ => sp.length
  | [] => 0) else 0)
section FZ
variable {E : XE} {d : Nat} {Q : Int32 → mI → mP → Prop} {P : mP} {o o' N' : Nat} {Z : List ItC} {t mk : List Int32} {Zo : List MIt} {to : List Int32} {mo : Int32} {ar : Nat} {B : BN}
theorem fil_hole {num : Int32} {fst : Bool} {sp w : List Int32} {T : List ItC} {f b : Nat} {z : MIt} {R : List MIt} (hB : B (dgw w) = some (f, b)) (hR : (Zo.drop f).take (b - f) = z :: R) : fil Zo B num fst ((sp, 3, w) :: T) = (sps z (if fst = true then [] else sp) num :: R) ++ fil Zo B num false T := by
  show (if 3 = 3 then _ else _) ++ _ = _
  rw [if_pos rfl, hB]
  dsimp only
  rw [hR]
theorem fil_tok {num : Int32} {fst : Bool} {sp w : List Int32} {k : Nat} {T : List ItC} (hk : k ≠ 3) : fil Zo B num fst ((sp, k, w) :: T) = [((if fst = true then [] else sp), num, k, w, num)] ++ fil Zo B num false T := by
  show (if k = 3 then _ else _) ++ _ = _
  rw [if_neg hk]
theorem tkd {f b : Nat} (h1 : f < b) (h2 : b ≤ Zo.length) : ∃ z R, (Zo.drop f).take (b - f) = z :: R := by
  refine ⟨Zo[f], (Zo.drop (f + 1)).take (b - f - 1), ?_⟩
  rw [List.drop_eq_getElem_cons (show f < Zo.length by omega), show b - f = b - f - 1 + 1 by omega, List.take_succ_cons]
  rfl
theorem l_filledSize (hO : RO P o) (hT' : TO P o' N') (hN' : N' < 2 ^ 20) {I : mI} (hR : RLz I o Z t mk ar) (hx' : TZ I o' Zo to mo) (hW' : WN Zo) (hs' : (fl (Zo.map un) to).length ≤ N') (hBR : BR I o B Zo.length) (num : Int32) : ∀ (n i L : Nat) (fst : Bool), i + n = Z.length → BK B Zo.length (Z.drop i) → Q (nI (L + ftl ((fil Zo B num fst (Z.drop i)).map un))) I P → V E (d + 2) m_Rule_filledSize 112 Q 28 [some (.inr o), some (.inr o'), some (.inl (nI (L + rem0 fst (Z.drop i)))), some (.inl (nI i)), none] [] 112 I P := by
  obtain ⟨o0, o1, oT, ⟨o2, k2⟩, ⟨o3, k3⟩⟩ := hO
  obtain ⟨hI1, hx, hLX, h60, hal, hk10⟩ := hR
  have hZl := LX_len hLX
  have hpl : (psn 0 Z).length = Z.length := psn_len 0 Z
  have hZo := hW'.len
  have hfo := fl_len (Zo.map un) to
  have hkk := kds_psn Z 0
  obtain ⟨hHD, hdg⟩ := HD_LX hLX
  intro n
  induction n with
  | zero =>
    intro i L fst hi hBK h
    refine x_Rule_filledSize_28 _ _ _ _ ?_
    simp only [o0, o1, oT.1, nzz 1 (by decide), true_and]
    rw [hx.2.2.2.2.1, hpl]
    refine pk_le Z.length i (fun _ => ?_) (fun q => by omega)
    rw [List.drop_eq_nil_of_le (by omega)] at h ⊢
    have e : rem0 fst [] = 0 := by cases fst <;> rfl
    rw [e]
    exact h
  | succ n ih =>
    intro i L fst hi hBK h
    have hil : i < Z.length := by omega
    obtain ⟨⟨sp, k, w⟩, hz⟩ : ∃ q, Z[i]? = some q := ⟨_, List.getElem?_eq_getElem hil⟩
    have hdr := drop_it hz
    refine x_Rule_filledSize_28 _ _ _ _ ?_
    simp only [o0, o1, oT.1, nzz 1 (by decide), true_and]
    rw [hx.2.2.2.2.1, hpl]
    refine pk_le Z.length i (fun q => by omega) (fun _ => ?_)
    have hk : (Z.map (fun z => z.2.1))[i]? = some k := by rw [List.getElem?_map, hz]; rfl
    have er : rem0 fst ((sp, k, w) :: Z.drop (i + 1)) = (if fst = true then ([] : List Int32) else sp).length + w.length + ftl (Z.drop (i + 1)) := by
      unfold rem0
      rw [ftl_c]
      cases fst
      · rw [if_neg (by decide), if_neg (by decide)]
        omega
      · rw [if_pos rfl, if_pos rfl]
        show _ - sp.length = 0 + _ + _
        omega
    have er2 : rem0 false (Z.drop (i + 1)) = ftl (Z.drop (i + 1)) := by
      unfold rem0
      rw [if_neg (by decide)]
      omega
    have hBK2 : BK B Zo.length (Z.drop (i + 1)) := fun sp' w' hm => hBK sp' w' (by rw [hdr]; exact List.mem_cons_of_mem _ hm)
    rw [hdr, er]
    refine s_isHole (d := d) oT (by decide) hx.2.2.2.2.kr (by rw [hkk, List.length_map]; omega) (by rw [hkk]; exact hk10) (by omega) (bz_i (fun c => ?_) (fun c => ?_))
    · have hk3 : k ≠ 3 := by
        intro e
        subst e
        rw [hkk, hk] at c
        exact absurd c (by decide)
      rw [n1]
      have g := ih (i + 1) (L + (if fst = true then ([] : List Int32) else sp).length + w.length) false (by omega) hBK2 (by
        rw [hdr, fil_tok hk3, List.map_append, ftl_app] at h
        have e : ftl (List.map un [((if fst = true then [] else sp), num, k, w, num)]) = (if fst = true then ([] : List Int32) else sp).length + w.length := by
          show ftl [((if fst = true then [] else sp), k, w)] = _
          rw [ftl_c]
          rfl
        rw [e] at h
        rw [show L + (if fst = true then ([] : List Int32) else sp).length + w.length + ftl (List.map un (fil Zo B num false (Z.drop (i + 1)))) = L + ((if fst = true then ([] : List Int32) else sp).length + w.length + ftl (List.map un (fil Zo B num false (Z.drop (i + 1))))) by omega]
        exact h)
      rw [er2] at g
      rw [show L + ((if fst = true then ([] : List Int32) else sp).length + w.length + ftl (Z.drop (i + 1))) = L + (if fst = true then ([] : List Int32) else sp).length + w.length + ftl (Z.drop (i + 1)) by omega]
      exact g
    · have hk3 : k = 3 := by
        rw [hkk, hk] at c
        simpa using c
      subst hk3
      obtain ⟨f, b, hB, hfb, hb⟩ := hBK sp w (by rw [hdr]; exact List.mem_cons_self)
      obtain ⟨z, R, hzR⟩ := tkd hfb hb
      obtain ⟨c0, dg, hd10, hww, hdw⟩ := okw3 (LX_at hLX hz).2
      have hch := dgt_psn (t := t) hz (x := nI (48 + dg)) (by rw [hww]; rfl)
      rw [hdw] at hB
      obtain ⟨b1, b2, -, -⟩ := (hBR dg hd10).2 f b hB
      simp only [o0, o1, oT.1, nzz 1 (by decide), true_and]
      refine s_digitOf oT (by decide) hx h60 (by omega) (by omega) hch ?_
      rw [dig_e]
      simp only [o0, o2, k2, o3, k3, nzz 7 (by decide), nzz 8 (by decide), true_and]
      rw [clp (show dg < 2 ^ 31 by omega), b1, b2]
      refine ⟨vp_in_nI hd10 (by decide), vp_in_nI hd10 (by decide), hT'.1, ?_⟩
      obtain ⟨spz, mz, kz, wz, mwz⟩ := z
      have hRu : ((Zo.map un).drop f).take (b - f) = (spz, kz, wz) :: R.map un := by rw [← List.map_drop, ← List.map_take, hzR]; rfl
      obtain ⟨e1, e2, -⟩ := sub_psn (t := to) hfb (by rw [List.length_map]; exact hb) hRu
      have hwR : (wz ++ fl (R.map un) []).length = wz.length + ftl (R.map un) := by rw [List.length_append]; rfl
      have hlo : (psn 0 (Zo.map un)).length = Zo.length := by rw [psn_len, List.length_map]
      refine s_spanSize hT' hN' hx'.2.2.2.2 (by rw [hlo]; omega) hfb (by rw [hlo]; exact hb) (by rw [e1, e2]; omega) ?_
      simp only [o0, o1, oT.1, nzz 1 (by decide), true_and]
      rw [n1]
      have hRu2 : (Z.drop i).take (i + 1 - i) = (sp, 3, w) :: [] := by rw [hdr, show i + 1 - i = 1 by omega]; rfl
      obtain ⟨g1, g2, -⟩ := sub_psn (t := t) (show i < i + 1 by omega) (by omega) hRu2
      have hw0 : (w ++ fl [] []).length = w.length := by rw [List.length_append]; rfl
      rw [hw0] at g2
      refine s_spanSize oT (by decide) hx.2.2.2.2 (by omega) (by omega) (by omega) (by rw [g1, g2]; omega) ?_
      rw [g1, g2, e1, e2, hwR, Nat.add_sub_cancel_left, Nat.add_sub_cancel_left, sub3 (by omega)]
      have g := ih (i + 1) (L + (if fst = true then ([] : List Int32) else sp).length + (wz.length + ftl (R.map un))) false (by omega) hBK2 (by
        rw [hdr, fil_hole (by rw [hdw]; exact hB) hzR, List.map_append, ftl_app] at h
        have e : ftl (List.map un (sps (spz, mz, kz, wz, mwz) (if fst = true then [] else sp) num :: R)) = (if fst = true then ([] : List Int32) else sp).length + (wz.length + ftl (R.map un)) := by
          show ftl (((if fst = true then [] else sp), kz, wz) :: R.map un) = _
          rw [ftl_c]
          omega
        rw [e] at h
        rw [Nat.add_assoc, Nat.add_assoc L] at *
        exact h)
      rw [er2] at g
      rw [show L + ((if fst = true then ([] : List Int32) else sp).length + w.length + ftl (Z.drop (i + 1))) + (wz.length + ftl (R.map un)) - w.length = L + (if fst = true then ([] : List Int32) else sp).length + (wz.length + ftl (R.map un)) + ftl (Z.drop (i + 1)) by omega]
      exact g
theorem s_filledSize (hO : RO P o) (hT' : TO P o' N') (hN' : N' < 2 ^ 20) {I : mI} (hR : RLz I o Z t mk ar) (hx' : TZ I o' Zo to mo) (hW' : WN Zo) (hs' : (fl (Zo.map un) to).length ≤ N') (hBR : BR I o B Zo.length) (num : Int32) (hBK : BK B Zo.length (Z.drop (ar + 1))) (h : Q (nI (ftl ((fil Zo B num true (Z.drop (ar + 1))).map un))) I P) : V E (d + 2) m_Rule_filledSize 112 Q 0 [some (.inr o), some (.inr o'), none, none, none] [] 112 I P := by
  have hOO := hO
  have hRR := hR
  obtain ⟨o0, o1, oT, -, -⟩ := hO
  obtain ⟨hI1, hx, hLX, h60, hal, hk10⟩ := hR
  have hpl : (psn 0 Z).length = Z.length := psn_len 0 Z
  have hZl := LX_len hLX
  obtain ⟨⟨sp, k, w⟩, hz⟩ : ∃ q, Z[ar + 1]? = some q := ⟨_, List.getElem?_eq_getElem hal⟩
  have hdr := drop_it hz
  refine x_Rule_filledSize_0 _ _ ?_
  simp only [o0, o1, oT.1, nzz 1 (by decide), true_and]
  rw [hI1, n1, hx.2.2.2.2.1, hpl]
  have hRu2 : (Z.drop (ar + 1)).take (Z.length - (ar + 1)) = (sp, k, w) :: Z.drop (ar + 2) := by
    rw [List.take_of_length_le (by rw [List.length_drop]; omega), hdr]
  obtain ⟨g1, g2, -⟩ := sub_psn (t := t) hal (Nat.le_refl _) hRu2
  have hw0 : (w ++ fl (Z.drop (ar + 2)) []).length = w.length + ftl (Z.drop (ar + 2)) := by rw [List.length_append]; rfl
  rw [hw0] at g2
  refine s_spanSize oT (by decide) hx.2.2.2.2 (by omega) hal (by omega) (by rw [g1, g2]; omega) ?_
  rw [hI1, n1, g1, g2, Nat.add_sub_cancel_left]
  have := l_filledSize (d := d) (E := E) (Q := Q) hOO hT' hN' hRR hx' hW' hs' hBR num (Z.length - (ar + 1)) (ar + 1) 0 true (by omega) hBK (by rw [Nat.zero_add]; exact h)
  have er : rem0 true (Z.drop (ar + 1)) = w.length + ftl (Z.drop (ar + 2)) := by
    rw [hdr]
    unfold rem0
    rw [ftl_c, if_pos rfl]
    show sp.length + w.length + ftl (Z.drop (ar + 2)) - sp.length = _
    omega
  rw [er, Nat.zero_add] at this
  exact this
end FZ
