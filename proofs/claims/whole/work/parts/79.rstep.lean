/-! An expression ends: the class tries it in what it has put, the reference in the program. -/
section ES
variable {tl : List Int32} {Xp : List MIt} {c : MIt} {C : List MIt} {Z : List ItC} {tr : List Int32} {ar : Nat}
theorem ent_step (hc : mkd c = 7) (hXp : clz Xp) (hLZ : LX Z tr) (hG : RG Z ar) {X' S : List MIt} {z : MIt} {st s' : List Nat} {p R f a n : Nat} (hRne : nI (R + 1) ≠ -(nI 1)) (h : IVS tl Xp c C X' (z :: S) st p) (hst : sst (mkd z) (hd4 (kdi S)) (Xp.length + X'.length) st = ([(f, Xp.length + X'.length, a)], s')) :
    (tri Z tr ar ((Xp ++ X') ++ [z]) f a (ftl (S.map un) + (fl ((c :: C).map un) tl).length) R = none → rpl Z tr ar tl (n + 1) (Xp ++ (X' ++ (z :: S ++ c :: C))) p R = none) ∧
    ∀ X2 R2, tri Z tr ar ((Xp ++ X') ++ [z]) f a (ftl (S.map un) + (fl ((c :: C).map un) tl).length) R = some (X2, R2) → ∃ X2' p2, X2 = Xp ++ X2' ∧ rpl Z tr ar tl (n + 1) (Xp ++ (X' ++ (z :: S ++ c :: C))) p R = rpl Z tr ar tl n (Xp ++ (X2' ++ (S ++ c :: C))) p2 R2 ∧ IVS tl Xp c C X2' S s' p2 := by
  have hcopy := h
  obtain ⟨hLX, hgl, ⟨Ed, hE, hEd⟩, hSc, hSk, hp, hU⟩ := h
  have hsf : (fl ((S ++ c :: C).map un) tl).length = ftl (S.map un) + (fl ((c :: C).map un) tl).length := by
    rw [List.map_append, fl_app, fl_len]
  rw [← hsf]
  generalize hb : Xp.length = b at *
  generalize ht : b + X'.length = t at *
  -- the entry
  have h4' : hd4 (kdi (S ++ c :: C)) = hd4 (kdi S) := by
    rw [kdi_app]
    exact hd4_app (by show Nat.beq (mkd c) 4 = false; rw [hc]; rfl)
  have hk : kdi (z :: S ++ c :: C) = mkd z :: kdi (S ++ c :: C) := rfl
  have hs1 : (scn (S.length + 1) (kdi (z :: S ++ c :: C)) t st).1 = (f, t, a) :: (scn S.length (kdi (S ++ c :: C)) (t + 1) s').1 := by
    rw [hk, scn_sst, h4', hst]
    rfl
  rw [List.length_cons, hs1] at hE
  have hent : (f, t, a) ∈ (outl (kdi (Xp ++ (X' ++ (z :: S ++ c :: C))))).2 := by rw [hE]; simp
  have hMl : (Xp ++ (X' ++ (z :: S ++ c :: C))).length = t + 1 + (S.length + 1 + C.length) := by
    simp only [List.length_append, List.length_cons]
    omega
  obtain ⟨f0, e0, hsp, s1, s2, s3, s4, s5, dp, s6, s7⟩ := ent_spn hent
  have hcs : a = s'.length ∧ ((mkd z = 5 ∧ st = f :: s') ∨ ((mkd z = 1 ∨ mkd z = 2) ∧ f = t ∧ s' = st)) := by
    rcases sst_cs hst with ⟨q, -⟩ | ⟨f', q, r⟩
    · cases q
    · injection q with q1 _
      injection q1 with q2 q3
      injection q3 with _ q4
      subst q2
      exact ⟨q4, r⟩
  obtain ⟨ha, hcs⟩ := hcs
  -- where it begins
  have hfb : b ≤ f ∧ (scn (f - b) (kdi (X' ++ (z :: S ++ c :: C))) b []).2 = s' ∧ ∃ k0, (kdi (X' ++ (z :: S ++ c :: C)))[f - b]? = some k0 ∧ k0 ≠ 4 := by
    rcases hcs with ⟨-, rfl⟩ | ⟨hz, rfl, rfl⟩
    · obtain ⟨q1, q2, q3⟩ := hSk [] f s' rfl
      exact ⟨q1, q3, 1, q2, by decide⟩
    · refine ⟨by omega, ?_, mkd z, ?_, by omega⟩
      · rw [← ht, Nat.add_sub_cancel_left]
        exact hSc
      · rw [← ht, Nat.add_sub_cancel_left, kdi_app, List.getElem?_append_right (by rw [kdi_len]; omega), kdi_len, Nat.sub_self]
        rfl
  obtain ⟨hbf, hscf, k0, hk0, hk04⟩ := hfb
  have hX1l : ((Xp ++ X') ++ [z]).length = t + 1 := by
    simp only [List.length_append, List.length_singleton]
    omega
  have hMX : Xp ++ (X' ++ (z :: S ++ c :: C)) = ((Xp ++ X') ++ [z]) ++ (S ++ c :: C) := by simp
  -- what comes next
  have hnx : nxb (psn 0 ((Xp ++ (X' ++ (z :: S ++ c :: C))).map un)) (outl (kdi (Xp ++ (X' ++ (z :: S ++ c :: C))))).2 p = some (f, t, a) := by
    rw [nxb_sp hLX hE hEd (fun q hq => ?_)]
    · rfl
    · have hq' : q ∈ (outl (kdi (Xp ++ (X' ++ (z :: S ++ c :: C))))).2 := by rw [hE]; exact List.mem_append_right _ hq
      have hlt : q.2.1 < (Xp ++ (X' ++ (z :: S ++ c :: C))).length := by
        obtain ⟨i, l, b'⟩ := q
        obtain ⟨_, _, _, _, _, w1, w2, _⟩ := ent_spn hq'
        rw [kdi_len] at w2
        show l < _
        omega
      have hge : t ≤ q.2.1 := by
        rcases List.mem_append.mp hq with q1 | q1
        · rcases List.mem_cons.mp q1 with rfl | q1
          · exact Nat.le_refl _
          · have := scn_ge _ _ _ _ q q1
            omega
        · have := oln_ge _ _ _ _ (Nat.le_refl _) q q1
          omega
      by_cases e : t = q.2.1
      · rw [← e]; exact hp
      · have := tenm hLX (show t < q.2.1 by omega) hlt
        omega
  have hfit : fitB Z tr ar tl (Xp ++ (X' ++ (z :: S ++ c :: C))) f t = mtx Z tr ar ((Xp ++ X') ++ [z]) f := by
    rw [hMX]
    refine fit_eq (dp := dp) hX1l.symm s2 ?_ (by omega)
    rw [← hMX, s6, hX1l]
    congr 2
    omega
  have hrs : rpl Z tr ar tl (n + 1) (Xp ++ (X' ++ (z :: S ++ c :: C))) p R = match mtx Z tr ar ((Xp ++ X') ++ [z]) f with
      | none => rpl Z tr ar tl n (Xp ++ (X' ++ (z :: S ++ c :: C))) (ten (psn 0 ((Xp ++ (X' ++ (z :: S ++ c :: C))).map un)) t) R
      | some B => if (fl ((rfx (Xp ++ (X' ++ (z :: S ++ c :: C))) Z ar R f t B).map un) tl).length ≤ 120 ∧ gdi (kdi (rfx (Xp ++ (X' ++ (z :: S ++ c :: C))) Z ar R f t B)) f = true then rpl Z tr ar tl n (rfx (Xp ++ (X' ++ (z :: S ++ c :: C))) Z ar R f t B) (tst (psn 0 ((Xp ++ (X' ++ (z :: S ++ c :: C))).map un)) f + ftl ((fil (Xp ++ (X' ++ (z :: S ++ c :: C))) B (nI (R + 1)) true (Z.drop (ar + 1))).map un)) (R + 1) else none := by
    rw [rpl_s, hnx]
    dsimp only
    rw [hfit]
    cases mtx Z tr ar ((Xp ++ X') ++ [z]) f <;> rfl
  unfold tri
  cases hmx : mtx Z tr ar ((Xp ++ X') ++ [z]) f with
  | none =>
    rw [hmx] at hrs
    dsimp only at hrs ⊢
    refine ⟨fun q => (by cases q), fun X2 R2 q => ?_⟩
    injection q with q
    injection q with q1 q2
    subst q1; subst q2
    refine ⟨X' ++ [z], ten (psn 0 ((Xp ++ (X' ++ (z :: S ++ c :: C))).map un)) t, by rw [List.append_assoc], by rw [hrs, ← app_zs], ?_⟩
    have hst' : sst (mkd z) (hd4 (kdi S)) (Xp.length + X'.length) st = ([(f, t, a)], s') := by rw [hb, ht]; exact hst
    refine hcopy.copy hc hst' (by omega) (fun q hq => ?_) ?_
    · rw [List.mem_singleton] at hq
      rw [hq]
      exact Nat.le_refl _
    · rw [hb, ht]
      exact tenm hLX (by omega) (by omega)
  | some B =>
    rw [hmx] at hrs
    dsimp only at hrs ⊢
    -- the match in the program
    have hmM : mtc (fl Z tr) (psn 0 Z) (fl ((Xp ++ (X' ++ (z :: S ++ c :: C))).map un) tl) (psn 0 ((Xp ++ (X' ++ (z :: S ++ c :: C))).map un)) ar 0 f B0 = some (t + 1, B) := by
      rw [hmx] at hfit
      unfold fitB at hfit
      split at hfit
      · rename_i e B' hm
        split at hfit
        · rename_i e1
          cases hfit
          rw [hm, e1]
        · cases hfit
      · cases hfit
    have hmX : mtc (fl Z tr) (psn 0 Z) (fl (((Xp ++ X') ++ [z]).map un) []) (psn 0 (((Xp ++ X') ++ [z]).map un)) ar 0 f B0 = some (t + 1, B) := by
      unfold mtx at hmx
      split at hmx
      · rename_i e B' hm
        split at hmx
        · rename_i e1
          cases hmx
          rw [hm, e1, hX1l]
        · cases hmx
      · cases hmx
    have hBE := mtc_ben hent ar 0 f B0 (Nat.le_refl _) (fun d f b e => by cases e) B hmM
    obtain ⟨-, y, Y, qy, my, hY, hry, hqy, hoy, hdpt⟩ := fil_good (nI (R + 1)) hLX hLZ hG hmM hBE
    have hBKX := (mtc_bk hLZ hG.1 hmX).2
    have hYX : fil ((Xp ++ X') ++ [z]) B (nI (R + 1)) true (Z.drop (ar + 1)) = y :: Y := by
      rw [← hY, hMX, fil_pre _ _ hBKX]
    have hy0 := fil_sp0 hBKX hYX
    have hfX : f < ((Xp ++ X') ++ [z]).length := by omega
    obtain ⟨z0, hz0⟩ : ∃ z0, ((Xp ++ X') ++ [z])[f]? = some z0 := ⟨_, List.getElem?_eq_getElem hfX⟩
    have hz0M : (Xp ++ (X' ++ (z :: S ++ c :: C)))[f]? = some z0 := by rw [hMX, List.getElem?_append_left hfX]; exact hz0
    -- the pieces
    have hP0 : ((Xp ++ X') ++ [z]).take f = Xp ++ (X' ++ [z]).take (f - b) := by
      rw [List.append_assoc, List.take_append, hb, List.take_of_length_le (by omega)]
    have hE0 : ((Xp ++ X') ++ [z]).drop f = (X' ++ [z]).drop (f - b) := by
      rw [List.append_assoc, List.drop_append, hb, List.drop_eq_nil_of_le (by omega)]
      rfl
    have hlP0 : ((X' ++ [z]).take (f - b)).length = f - b := by
      rw [List.length_take, List.length_append, List.length_singleton]
      omega
    have hrfx : rfx (Xp ++ (X' ++ (z :: S ++ c :: C))) Z ar R f t B = Xp ++ (((X' ++ [z]).take (f - b) ++ sps y z0.1 z0.2.1 :: Y) ++ (S ++ c :: C)) := by
      unfold rfx
      rw [hz0M, hY]
      dsimp only
      have e1 : (Xp ++ (X' ++ (z :: S ++ c :: C))).take f = ((Xp ++ X') ++ [z]).take f := by
        rw [hMX, List.take_append_of_le_length (by omega)]
      have e2 : (Xp ++ (X' ++ (z :: S ++ c :: C))).drop (t + 1) = S ++ c :: C := by
        rw [hMX, ← hX1l, List.drop_left]
      rw [e1, e2, hP0]
      simp only [List.append_assoc, List.cons_append]
    have hX2 : ((Xp ++ X') ++ [z]).take f ++ sps y z0.1 z0.2.1 :: Y = Xp ++ ((X' ++ [z]).take (f - b) ++ sps y z0.1 z0.2.1 :: Y) := by rw [hP0, List.append_assoc]
    generalize hX2' : (X' ++ [z]).take (f - b) ++ sps y z0.1 z0.2.1 :: Y = X2' at hrfx hX2
    have hlX2' : X2'.length = f - b + (Y.length + 1) := by
      rw [← hX2', List.length_append, hlP0, List.length_cons]
    -- sizes
    have hsz2 : ftl ((Xp ++ X2').map un) = ftl ((((Xp ++ X') ++ [z]).take f).map un) + z0.1.length + ftl ((y :: Y).map un) := by
      rw [← hX2, List.map_append, ftl_app]
      obtain ⟨ysp, ym, yk, yw, ym'⟩ := y
      dsimp only at hy0
      subst hy0
      have e1 : ftl ((sps ([], ym, yk, yw, ym') z0.1 z0.2.1 :: Y).map un) = z0.1.length + yw.length + ftl (Y.map un) := by
        rw [List.map_cons]
        exact ftl_c _ _ _ _
      have e2 : ftl ((([], ym, yk, yw, ym') :: Y : List MIt).map un) = 0 + yw.length + ftl (Y.map un) := by
        rw [List.map_cons]
        exact ftl_c _ _ _ _
      rw [e1, e2]
      omega
    have hszM : (fl ((Xp ++ (X2' ++ (S ++ c :: C))).map un) tl).length = ftl ((((Xp ++ X') ++ [z]).take f).map un) + z0.1.length + ftl ((y :: Y).map un) + (fl ((S ++ c :: C).map un) tl).length := by
      rw [← hsz2, ← List.append_assoc, List.map_append, fl_app, fl_len]
    -- the grammar
    have hkY : kdi (sps y z0.1 z0.2.1 :: Y) = kdi (y :: Y) := rfl
    obtain ⟨qf, mxf, hrn, hqf, hmxf⟩ := gl_rn hgl
    have hXzS : X' ++ z :: S = (X' ++ [z]).take (f - b) ++ ((X' ++ [z]).drop (f - b) ++ S) := by
      rw [← List.append_assoc, List.take_append_drop]
      simp
    rw [hXzS, kdi_app, kdi_app] at hrn
    have hdrop : (kdi (Xp ++ (X' ++ (z :: S ++ c :: C)))).drop f = kdi ((X' ++ [z]).drop (f - b)) ++ (kdi S ++ 7 :: kdi C) := by
      have e1 : (kdi (Xp ++ (X' ++ (z :: S ++ c :: C)))).drop f = kdi ((Xp ++ (X' ++ (z :: S ++ c :: C))).drop f) := by unfold kdi; rw [List.map_drop]
      rw [e1, hMX, List.drop_append_of_le_length (by omega), hE0, kdi_app, kdi_app]
      show _ ++ (_ ++ mkd c :: kdi C) = _
      rw [hc]
    have hlE : ((X' ++ [z]).drop (f - b)).length = t - f + 1 := by
      rw [List.length_drop, List.length_append, List.length_singleton]
      omega
    have hle : le_ false (kdi ((X' ++ [z]).drop (f - b)) ++ (kdi S ++ 7 :: kdi C)) = some ((kdi ((X' ++ [z]).drop (f - b))).length, dp) := by
      rw [← hdrop, s6, kdi_len, hlE]
    obtain ⟨q1, a', m1, hrA, hq1, q2, hq2, hrY, qf', mxf', hrn', hqf', hgood⟩ := rn_rep hrn hqf hle hry hqy
    have hL0 : kdi (X' ++ (z :: S ++ c :: C)) = kdi ((X' ++ [z]).take (f - b)) ++ ((kdi ((X' ++ [z]).drop (f - b)) ++ kdi S) ++ 7 :: kdi C) := by
      have e1 : X' ++ (z :: S ++ c :: C) = (X' ++ z :: S) ++ c :: C := by simp
      rw [e1, hXzS, kdi_app, kdi_app, kdi_app]
      show (_ ++ (_ ++ _)) ++ mkd c :: kdi C = _
      rw [hc]
      simp only [List.append_assoc]
    have haa : a' = a := by
      have hdep := scn_dep (kdi ((X' ++ [z]).take (f - b))) (kdi ((X' ++ [z]).drop (f - b)) ++ kdi S) (7 :: kdi C) 0 0 0 b [] (q1, a', m1) (qf, 0, mxf) hrn hmxf hrA rfl (by simp)
      rw [← hL0, kdi_len, hlP0, hscf] at hdep
      dsimp only at hdep
      rw [if_neg (fun cc => by omega)] at hdep
      omega
    subst haa
    have hgood := hgood hmxf
    have hkX2S : kdi (X2' ++ S) = kdi ((X' ++ [z]).take (f - b)) ++ (kdi (y :: Y) ++ kdi S) := by
      rw [← hX2', kdi_app, kdi_app, hkY, List.append_assoc]
    have hgl2 : gl (kdi (X2' ++ S)) = decide (a' + my ≤ 12) := by
      unfold gl
      rw [hkX2S, hrn']
      dsimp only
      by_cases cc : a' + my ≤ 12
      · rw [decide_eq_true cc]
        exact decide_eq_true ⟨hqf', rfl, hgood.mpr cc⟩
      · rw [decide_eq_false cc]
        exact decide_eq_false (fun q => cc (hgood.mp q.2.2))
    have h7 : ∀ k ∈ kdi (X2' ++ S), k ≠ 7 := fun k hk7 => by
      rw [hkX2S] at hk7
      have := rn_kin _ _ _ _ _ hrn' k hk7
      omega
    have hM2 : Xp ++ (X2' ++ (S ++ c :: C)) = Xp ++ ((X2' ++ S) ++ c :: C) := by rw [List.append_assoc X2']
    have hgdi : gdi (kdi (Xp ++ (X2' ++ (S ++ c :: C)))) f = decide (a' + my ≤ 12) := by
      rw [← hgl2, hM2]
      exact gdi_dec hXp hc h7 (by omega) (by rw [List.length_append]; omega)
    rw [hrfx, hgdi, hszM, hY] at hrs
    have hrw : rwx Z ar ((Xp ++ X') ++ [z]) f a' (fl ((S ++ c :: C).map un) tl).length R B = if ftl ((((Xp ++ X') ++ [z]).take f).map un) + z0.1.length + ftl ((y :: Y).map un) + (fl ((S ++ c :: C).map un) tl).length ≤ 120 ∧ a' + my ≤ 12 then some (Xp ++ X2') else none := by
      unfold rwx
      rw [hz0, hYX]
      dsimp only
      rw [hdpt, hX2]
    rw [hrw]
    have hcond : (ftl ((((Xp ++ X') ++ [z]).take f).map un) + z0.1.length + ftl ((y :: Y).map un) + (fl ((S ++ c :: C).map un) tl).length ≤ 120 ∧ decide (a' + my ≤ 12) = true) ↔ (ftl ((((Xp ++ X') ++ [z]).take f).map un) + z0.1.length + ftl ((y :: Y).map un) + (fl ((S ++ c :: C).map un) tl).length ≤ 120 ∧ a' + my ≤ 12) := by
      rw [decide_eq_true_iff]
    by_cases cc : ftl ((((Xp ++ X') ++ [z]).take f).map un) + z0.1.length + ftl ((y :: Y).map un) + (fl ((S ++ c :: C).map un) tl).length ≤ 120 ∧ a' + my ≤ 12
    · rw [if_pos cc]
      rw [if_pos (hcond.mpr cc)] at hrs
      refine ⟨fun q => (by cases q), fun X3 R3 q => ?_⟩
      have q : some (Xp ++ X2', R + 1) = some (X3, R3) := q
      injection q with q
      injection q with e1 e2
      subst e1; subst e2
      refine ⟨X2', _, rfl, hrs, ?_⟩
      -- the invariant again
      have hLX2 : LX ((Xp ++ (X2' ++ (S ++ c :: C))).map un) tl := by
        have := rfx_LX (R := R) (l := t) hLX hent hY hry hqy hoy
        rw [hrfx] at this
        exact this
      have hglt : gl (kdi (X2' ++ S)) = true := by rw [hgl2]; exact decide_eq_true cc.2
      obtain ⟨E0, hE0', hE0l⟩ := outl_dec (G := X2' ++ S) (c := c) (C := C) hXp
      rw [List.length_append, hb] at hE0'
      have hol := oln_dec (A := Xp) (G := X2' ++ S) (c := c) (C := C) hc h7
      rw [if_pos hglt, List.length_append, hb, scn_app] at hol
      dsimp only at hol
      have hL2 : kdi ((X2' ++ S) ++ c :: C) = kdi (X2' ++ (S ++ c :: C)) := by rw [List.append_assoc]
      have hd2 : (kdi (X2' ++ (S ++ c :: C))).drop X2'.length = kdi (S ++ c :: C) := by
        rw [kdi_app X2', ← kdi_len X2', List.drop_left]
      -- the scan of the new part
      have hL2' : kdi (X2' ++ (S ++ c :: C)) = kdi ((X' ++ [z]).take (f - b)) ++ (kdi (y :: Y) ++ (kdi S ++ 7 :: kdi C)) := by
        have e1 : X2' ++ (S ++ c :: C) = (X2' ++ S) ++ c :: C := by simp
        rw [e1, kdi_app, hkX2S]
        show (_ ++ (_ ++ _)) ++ mkd c :: kdi C = _
        rw [hc]
        simp only [List.append_assoc]
      have htk : (kdi (X2' ++ (S ++ c :: C))).take (f - b) = (kdi (X' ++ (z :: S ++ c :: C))).take (f - b) := by
        have e1 : (kdi ((X' ++ [z]).take (f - b))).length = f - b := by rw [kdi_len, hlP0]
        rw [hL2', hL0, List.take_left' e1, List.take_left' e1]
      have hyk : ∃ ky r, kdi (y :: Y) = ky :: r ∧ (ky = 1 ∨ ky = 2) := by
        refine ⟨mkd y, kdi Y, rfl, ?_⟩
        have hry' : rn false 0 0 0 (mkd y :: kdi Y) = some (qy, 0, my) := hry
        rw [rn_c] at hry'
        cases hay : ast false 0 0 0 (mkd y) with
        | none => rw [hay] at hry'; cases hry'
        | some v =>
          unfold ast at hay
          rw [if_pos (by omega)] at hay
          split at hay
          · exact Or.inl (by assumption)
          · split at hay
            · rename_i q
              rcases q with q | q
              · exact Or.inr q
              · cases q.2
            · rw [if_neg (by omega)] at hay
              cases hay
      obtain ⟨ky, ry, hky, hky12⟩ := hyk
      have hk2 : (kdi (X2' ++ (S ++ c :: C)))[f - b]? = some ky := by
        rw [hL2', List.getElem?_append_right (by rw [kdi_len, hlP0]; omega), kdi_len, hlP0, Nat.sub_self, hky]
        rfl
      have hscn1 : (scn (f - b) (kdi (X2' ++ (S ++ c :: C))) b []).2 = s' := by
        rw [scn_pre (f - b) _ _ b [] htk (by rw [hd4_get hk2 (by omega), hd4_get hk0 hk04])]
        exact hscf
      have hn4 : ∀ r, kdi S ++ 7 :: kdi C ≠ 4 :: r := fun r e => by
        obtain ⟨q', hq', hq4, hrX⟩ := au_e hle hq1 (rn_nm _ 0 0 0 _ (Nat.le_refl _) hrA)
        rw [List.drop_left] at hq4
        rcases hq' with w | w
        · exact hq4 w r e
        · rw [rn_then hrA] at hrn
          rw [List.take_left] at hrX
          rw [rn_then hrX, w] at hrn
          cases hS : kdi S with
          | nil => rw [hS] at e; injection e with e _; cases e
          | cons k L =>
            rw [hS] at e hrn
            injection e with e _
            subst e
            rw [rn_c] at hrn
            cases hrn
      have hley := bu_e hn4 hry hqy
      obtain ⟨XE, hXE, -⟩ := (sc_all _).1 _ (Nat.le_refl _) _ _ hley f a' cc.2
      have hscY : (scn (Y.length + 1) (kdi (y :: Y) ++ (kdi S ++ 7 :: kdi C)) f s').2 = s' := by
        have := hXE 0 s' (by omega)
        rw [Nat.add_zero, kdi_len, List.length_cons] at this
        rw [this]
        rfl
      have hdP : (kdi (X2' ++ (S ++ c :: C))).drop (f - b) = kdi (y :: Y) ++ (kdi S ++ 7 :: kdi C) := by
        have e1 : (kdi ((X' ++ [z]).take (f - b))).length = f - b := by rw [kdi_len, hlP0]
        rw [hL2', List.drop_left' e1]
      have hscX : (scn X2'.length (kdi (X2' ++ (S ++ c :: C))) b []).2 = s' := by
        rw [hlX2', scn_app, hscn1, hdP, show b + (f - b) = f by omega]
        exact hscY
      have hlen2 : (Xp ++ (X2' ++ (S ++ c :: C))).length = b + X2'.length + (S.length + 1 + C.length) := by
        simp only [List.length_append, List.length_cons]
        omega
      rw [hL2, hscX, hd2] at hol
      have hE2 : (outl (kdi (Xp ++ (X2' ++ (S ++ c :: C))))).2 = (E0 ++ (scn X2'.length (kdi (X2' ++ (S ++ c :: C))) b []).1) ++ ((scn S.length (kdi (S ++ c :: C)) (b + X2'.length) s').1 ++ (oln (kdi (Xp ++ (X2' ++ (S ++ c :: C)))) C.length (b + X2'.length + S.length + 1) (b + X2'.length + S.length + 1)).2) := by
        rw [hM2, hE0', hol, show b + (X2'.length + S.length) + 1 = b + X2'.length + S.length + 1 by omega]
        simp only [List.append_assoc]
      -- the place
      have hz0' : ((Xp ++ (X' ++ (z :: S ++ c :: C))).map un)[f]? = some (z0.1, z0.2.2.1, z0.2.2.2.1) := by rw [List.getElem?_map, hz0M]; rfl
      have hp2 : tst (psn 0 ((Xp ++ (X' ++ (z :: S ++ c :: C))).map un)) f + ftl ((y :: Y).map un) = ftl ((Xp ++ X2').map un) := by
        rw [tst_psn hz0', hsz2, ← List.map_take]
        congr 4
        rw [hMX, List.take_append_of_le_length (by omega)]
      have hten : ten (psn 0 ((Xp ++ (X2' ++ (S ++ c :: C))).map un)) (b + X2'.length - 1) = ftl ((Xp ++ X2').map un) := by
        rw [ten_psn (by rw [List.length_map]; omega), ← List.map_take, show b + X2'.length - 1 + 1 = (Xp ++ X2').length by rw [List.length_append]; omega, ← List.append_assoc, List.take_left]
      rw [hp2]
      refine ⟨hLX2, hglt, ⟨E0 ++ (scn X2'.length (kdi (X2' ++ (S ++ c :: C))) b []).1, by rw [hb]; exact hE2, fun q hq => ?_⟩, by rw [hb]; exact hscX, ?_, ?_, ?_⟩
      · have hql : q.2.1 < b + X2'.length := by
          rcases List.mem_append.mp hq with w | w
          · have := hE0l q w
            omega
          · have := scn_ge _ _ _ _ q w
            omega
        rw [← hten]
        by_cases e : q.2.1 = b + X2'.length - 1
        · rw [e]; exact Nat.le_refl _
        · exact Nat.le_of_lt (tenm hLX2 (by omega) (by omega))
      · rw [hb]
        have hSk' : SKs (kdi (X' ++ (z :: S ++ c :: C))) b s' := by
          rcases hcs with ⟨-, rfl⟩ | ⟨-, -, rfl⟩
          · exact hSk.tl
          · exact hSk
        refine hSk'.pre (n := f - b) (fun x hx => ?_) htk
        rw [← hscf] at hx
        rcases scn_stk _ _ _ _ x hx with w | w
        · simp at w
        · omega
      · rw [hb, ← hten]
        exact tenm hLX2 (by omega) (by omega)
      · -- the marks
        have hM1 : Xp ++ (X' ++ (z :: S ++ c :: C)) = Xp ++ ((X' ++ z :: S) ++ c :: C) := by simp
        rw [hM1, ums_app Xp [] hXp (fun _ => rfl), ums_run hc (X' ++ z :: S) [] (gl_7 hgl), List.nil_append] at hU
        obtain ⟨u1, u2, u3, u4⟩ := hU
        unfold okg at u2
        rw [if_pos hgl] at u2
        rw [hM2, ums_app Xp [] hXp (fun _ => rfl), ums_run hc (X2' ++ S) [] h7, List.nil_append]
        refine ⟨u1, ?_, u3, u4⟩
        unfold okg
        rw [if_pos hglt, ← hX2', List.append_assoc]
        have hzE : ((X' ++ [z]).drop (f - b))[0]? = some z0 := by
          rw [List.getElem?_drop, Nat.add_zero]
          rw [List.append_assoc, List.getElem?_append_right (by omega), hb] at hz0
          exact hz0
        have hBm : BMx (Xp ++ (X' ++ [z])) B := by
          have e1 : Xp ++ (X' ++ (z :: S ++ c :: C)) = Xp ++ ((X' ++ [z]) ++ (S ++ c :: C)) := by simp
          rw [e1] at hBE
          have e2 : X' ++ z :: S = (X' ++ [z]) ++ S := by simp
          obtain ⟨qf2, mxf2, hrn2, -⟩ := gl_rn hgl
          rw [e2] at u2 hrn2
          refine BMx_of hc u2 hrn2 hBE (fun d f1 b1 e => ?_)
          have := mtc_lo (lo := f) ar 0 f B0 (t + 1) B hmX (Nat.le_refl _) (fun d f b e => by cases e) d f1 b1 e
          rw [List.length_append, List.length_singleton, hb]
          omega
        have hnum : nI (R + 1) ≠ -(nI 1) := hRne
        obtain ⟨qz, mz, hrn0, hqz⟩ := hG.2
        have hmx2 := fil_mex (r := []) rfl hBm hnum hrn0 hqz (by rw [← List.append_assoc]; exact hBKX)
        rw [← List.append_assoc, hYX] at hmx2
        rw [hXzS] at u2
        exact mal_rep u2 hrn hle hzE hry hmx2
    · rw [if_neg cc]
      rw [if_neg (fun q => cc (hcond.mp q))] at hrs
      exact ⟨fun _ => hrs, fun X3 R3 q => by cases q⟩
end ES
