/-! Rule.become and RecipeRewriter.rule. -/
def isR (Z : List ItC) : Option Nat := match le_ true (Z.map (fun z => z.2.1)) with
  | some (ar, d1) => if d1 ≤ 12 ∧ (Z.map (fun z => z.2.1))[ar]? = some 8 then (match le_ true ((Z.map (fun z => z.2.1)).drop (ar + 1)) with
    | some (m, d2) => if d2 ≤ 12 ∧ ar + 1 + m = Z.length then (if knw ar 0 Z (fun _ => false) = true then some ar else none) else none
    | none => none) else none
  | none => none
theorem isR_rg {Z : List ItC} {ar : Nat} (h : isR Z = some ar) : ar + 1 < Z.length ∧ RG Z ar := by
  unfold isR at h
  cases h1 : le_ true (Z.map (fun z => z.2.1)) with
  | none => rw [h1] at h; cases h
  | some q1 =>
    obtain ⟨ar', d1⟩ := q1
    rw [h1] at h
    dsimp only at h
    by_cases c1 : d1 ≤ 12 ∧ (Z.map (fun z => z.2.1))[ar']? = some 8
    · rw [if_pos c1] at h
      cases h2 : le_ true ((Z.map (fun z => z.2.1)).drop (ar' + 1)) with
      | none => rw [h2] at h; cases h
      | some q2 =>
        obtain ⟨m, d2⟩ := q2
        rw [h2] at h
        dsimp only at h
        by_cases c2 : d2 ≤ 12 ∧ ar' + 1 + m = Z.length
        · rw [if_pos c2] at h
          by_cases c3 : knw ar' 0 Z (fun _ => false) = true
          · rw [if_pos c3] at h
            cases h
            have hb := le_b h2
            refine ⟨by omega, fun sp w hm => ?_, ?_⟩
            · obtain ⟨i, hi, hz⟩ := List.getElem_of_mem hm
              have hz' : Z[ar + 1 + i]? = some (sp, 3, w) := by
                rw [← List.getElem?_drop, List.getElem?_eq_getElem hi, hz]
              rcases (knw_iff ar Z 0 _).mp c3 (ar + 1 + i) sp w hz' (by omega) with h' | ⟨j, sp', w', hj, hj2, hz2, hd⟩
              · cases h'
              · refine ⟨j, sp', w', ?_, hz2, hd⟩
                by_cases e : j = ar
                · exfalso
                  subst e
                  have := c1.2
                  rw [List.getElem?_map, hz2] at this
                  cases this
                · omega
            · obtain ⟨q', hq', -, hr⟩ := au_e h2 (q := 0) (a := 0) (mx := 0) (by omega) (by omega)
              rw [List.take_of_length_le (by rw [List.length_drop, List.length_map]; omega), ← List.map_drop] at hr
              exact ⟨q', _, hr, by omega⟩
          · rw [if_neg c3] at h; cases h
        · rw [if_neg c2] at h; cases h
    · rw [if_neg c1] at h; cases h
section RC
variable {E : XE} {d : Nat} {Q : Int32 → mI → mP → Prop} {P : mP} {o : Nat}
theorem s_become_R (hO : RO P o) (ho : 5 < o) {I : mI} {s : List Int32} (hs : s.length ≤ 60) (hc : Rc (I 3) 0 s)
    (h1 : ∀ I' mk ar, isR (lxT s).1 = some ar → (∀ m, m < o ∨ o + 6 < m → I' m = I m) → RLz I' o (lxT s).1 (lxT s).2 mk ar → Q (nI 1) I' P)
    (h0 : ∀ I', isR (lxT s).1 = none → (∀ m, m < o ∨ o + 6 < m → I' m = I m) → Q (nI 0) I' P) : V E (d + 26) m_Rule_become 112 Q 0 [some (.inr o), some (.inr 3), some (.inl (nI s.length))] [] 112 I P := by
  have hOO := hO
  obtain ⟨o0, o1, oT, -, -⟩ := hO
  obtain ⟨hLX, hfl⟩ := lxT_ok s
  refine x_Rule_become_0 _ _ _ ?_
  simp only [o0, o1, oT.1, nzz 1 (by decide), true_and]
  refine s_become_T (d := d + 21) oT (by decide) k3_ (by decide) (by omega) hs hs hc (fun I1 f1 x1 => ?_)
  simp only [o0, o1, oT.1, nzz 1 (by decide), true_and]
  have ek : (tks s).map Prod.fst = (lxT s).1.map (fun z => z.2.1) := kds_psn _ 0
  have hkr := x1.2.2.2.2.kr
  rw [ek] at hkr
  have hk10 : k10 ((lxT s).1.map (fun z => z.2.1)) := by rw [← ek]; exact tks_k10 s
  have hZl := LX_len hLX
  rw [hfl] at hZl
  generalize hZ : (lxT s).1 = Z at *
  have hkl : (Z.map (fun z => z.2.1)).length = Z.length := List.length_map _
  have f1' : ∀ m, m < o ∨ o + 6 < m → I1 m = I m := fun m hm => f1 m (by omega)
  refine s_behindExpression oT (by decide) hkr (by omega) hk10 (by omega) ?_
  simp only [o0, o1, oT.1, nzz 1 (by decide), true_and]
  rw [List.drop_zero, uI_s]
  have fail : ∀ v, isR Z = none → Q (nI 0) (uI I1 o 1 v) P := fun v e => h0 _ e (fun m hm => by rw [uI_n (by omega), f1' m hm])
  have hkr2 : ∀ v, KR (uI I1 o 1 v) (o + 1) (Z.map (fun z => z.2.1)) := fun v => by
    refine ⟨by rw [uI_n (by omega)]; exact hkr.1, fun t k e => ?_⟩
    rw [uI_n (by omega)]
    exact hkr.2 t k e
  cases hle : le_ true (Z.map (fun z => z.2.1)) with
  | none =>
    have en : isR Z = none := by unfold isR; rw [hle]
    refine s_kAtM oT (by decide) (hkr2 _) (by omega) ⟨fun _ => ⟨rfl, fail _ en⟩, fun c => absurd c (m1_ne (by decide))⟩
  | some q =>
    obtain ⟨ar, d1⟩ := q
    have hb := le_b hle
    rw [hkl] at hb
    by_cases hd1 : d1 ≤ 12
    · have eb : bxv 0 0 (some (ar, d1)) = nI ar := by
        show (if 0 + d1 ≤ 12 then nI (0 + ar) else _) = _
        rw [if_pos (by omega), Nat.zero_add]
      rw [eb]
      refine s_kAt oT (by decide) (hkr2 _) (by omega) (by omega) ?_
      rw [kAt_eq hk10 (by decide)]
      refine ⟨fun c => ⟨rfl, fail _ ?_⟩, fun c8 => ?_⟩
      · unfold isR
        rw [hle]
        dsimp only
        rw [if_neg (fun cc => c cc.2)]
      · simp only [o0, o1, oT.1, nzz 1 (by decide), true_and]
        rw [uI_s, n1]
        refine s_behindExpression oT (by decide) (hkr2 _) (by omega) hk10 (by omega) ?_
        simp only [o0, o1, oT.1, nzz 1 (by decide), true_and]
        have e6 : uI I1 o 1 (nI ar) (o + 1) 6 = nI Z.length := by rw [uI_n (by omega), hkr.1, hkl]
        rw [e6]
        have hisR : isR Z = (match le_ true ((Z.map (fun z => z.2.1)).drop (ar + 1)) with
          | some (m, d2) => if d2 ≤ 12 ∧ ar + 1 + m = Z.length then (if knw ar 0 Z (fun _ => false) = true then some ar else none) else none
          | none => none) := by
          unfold isR
          rw [hle]
          dsimp only
          rw [if_pos ⟨hd1, c8⟩]
        have hbx := bxv_eq (a := 0) (t := ar + 1) (e := Z.length) (q := le_ true ((Z.map (fun z => z.2.1)).drop (ar + 1))) (by omega) (fun m dp e => by have := le_b e; rw [List.length_drop, hkl] at this; omega)
        rw [hbx]
        refine ⟨fun c => ⟨rfl, fail _ ?_⟩, fun c => ?_⟩
        · rw [hisR]
          cases h2 : le_ true ((Z.map (fun z => z.2.1)).drop (ar + 1)) with
          | none => rfl
          | some q2 =>
            obtain ⟨m, d2⟩ := q2
            dsimp only
            rw [if_neg (fun cc => c ⟨m, d2, h2, by omega, cc.2⟩)]
        · obtain ⟨m, d2, h2, hd2, hm⟩ := c
          rw [h2] at hisR
          dsimp only at hisR
          rw [if_pos ⟨by omega, hm⟩] at hisR
          have xx : TXT (uI I1 o 1 (nI ar)) (o + 1) (fl Z (lxT s).2) (List.replicate s.length (-(nI 1))) (psn 0 Z) := by
            have e1 : tks s = psn 0 Z := by unfold tks; rw [hZ]
            rw [hfl, ← e1]
            exact x1.fr (fun m a b => uI_n (by omega))
          refine s_knows (d := d + 23) hOO uI_s (by omega) xx hLX (by rw [hfl]; exact hs) hk10 (bz_i (fun c => ⟨rfl, fail _ ?_⟩) (fun c => ⟨rfl, ?_⟩))
          · rw [hisR, c]
            rfl
          · rw [c, if_pos rfl] at hisR
            have hrg := isR_rg hisR
            exact h1 _ _ ar hisR (fun m hm => by rw [uI_n (by omega), f1' m hm]) ⟨uI_s, xx, hLX, by rw [hfl]; exact hs, hrg.1, hk10⟩
    · have eb : bxv 0 0 (some (ar, d1)) = -(nI 1) := by
        show (if 0 + d1 ≤ 12 then nI (0 + ar) else _) = _
        rw [if_neg (by omega)]
      rw [eb]
      have en : isR Z = none := by
        unfold isR
        rw [hle]
        dsimp only
        rw [if_neg (fun cc => hd1 cc.1)]
      refine s_kAtM oT (by decide) (hkr2 _) (by omega) ⟨fun _ => ⟨rfl, fail _ en⟩, fun c => absurd c (m1_ne (by decide))⟩
end RC
