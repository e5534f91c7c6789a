/-! mark, by places. -/
theorem ftl_loc : ∀ (Z : List ItC) (p : Nat), p < ftl Z → ∃ j sp k w, Z[j]? = some (sp, k, w) ∧ ftl (Z.take j) ≤ p ∧ p < ftl (Z.take j) + sp.length + w.length
  | [], p, h => by
    have : ftl [] = 0 := rfl
    omega
  | (sp, k, w) :: Z, p, h => by
    rw [ftl_c] at h
    by_cases c : p < sp.length + w.length
    · exact ⟨0, sp, k, w, rfl, Nat.zero_le _, by show p < ftl [] + _ + _; have : ftl [] = 0 := rfl; omega⟩
    · obtain ⟨j, sp', k', w', e1, e2, e3⟩ := ftl_loc Z (p - (sp.length + w.length)) (by omega)
      refine ⟨j + 1, sp', k', w', by rw [List.getElem?_cons_succ]; exact e1, ?_, ?_⟩
      · rw [List.take_succ_cons, ftl_c]
        omega
      · rw [List.take_succ_cons, ftl_c]
        omega
theorem ftl_tk {Z : List ItC} {i j : Nat} (h : i ≤ j) : ftl (Z.take i) ≤ ftl (Z.take j) := by
  have : Z.take j = Z.take i ++ (Z.drop i).take (j - i) := by rw [← List.take_add, show i + (j - i) = j by omega]
  rw [this, ftl_app]
  omega
theorem um_at {N : List MIt} {t : List Int32} {j : Nat} {z : MIt} (hz : N[j]? = some z) : (∀ i, i < z.1.length → (fl (N.map um) t)[ftl ((N.map un).take j) + i]? = some z.2.1) ∧ ∀ i, i < z.2.2.2.1.length → (fl (N.map um) t)[ftl ((N.map un).take j) + z.1.length + i]? = some (wm z) := by
  obtain ⟨sp, m, k, w, m'⟩ := z
  have hz' : (N.map um)[j]? = some (List.replicate sp.length m, k, List.replicate w.length m') := by rw [List.getElem?_map, hz]; rfl
  have e0 : ftl ((N.map un).take j) = (fl ((N.map um).take j) []).length := by
    rw [← List.map_take, ← ftl_um, List.map_take]
    rfl
  rw [fl_at hz', e0]
  refine ⟨fun i hi => ?_, fun i hi => ?_⟩
  · rw [List.getElem?_append_right (by omega), Nat.add_sub_cancel_left, List.getElem?_append_left (by rw [List.length_replicate]; exact hi)]
    dsimp only at hi ⊢
    rw [List.getElem?_replicate, if_pos hi]
  · dsimp only at hi ⊢
    rw [List.getElem?_append_right (by omega), List.getElem?_append_right (by rw [List.length_replicate]; omega), List.length_replicate, show (fl ((N.map um).take j) []).length + sp.length + i - (fl ((N.map um).take j) []).length - sp.length = i by omega, List.getElem?_append_left (by rw [List.length_replicate]; exact hi), List.getElem?_replicate, if_pos hi]
    rfl
theorem wm_ent {N : List MIt} (hU : ums [] N) {i l b : Nat} {z : MIt} (he : (i, l, b) ∈ (outl (kdi N)).2) (hz : N[i]? = some z) : wm z ≠ -(nI 1) := by
  obtain ⟨f0, e0, -, s1, s2, s3, s4, s5, -⟩ := ent_spn he
  rcases ums_at hz N.length [] N (Nat.le_refl _) rfl clz.nil hU (Nat.zero_le _) with ⟨-, h2⟩ | ⟨A, G, c, C, hN, hA, hc, hg, hm, h1, h2⟩
  · exact absurd ⟨Nat.le_refl _, s2⟩ (h2 i l b he)
  · have hz2 := hz
    rw [hN] at hz2
    obtain ⟨st, -, g2, -⟩ := good_at hA hc hg hm h1 h2 hz2
    unfold mkw at g2
    have hk : mkd z = 1 ∨ mkd z = 2 := by
      have : (kdi N)[i]? = some (mkd z) := by unfold kdi; rw [List.getElem?_map, hz]; rfl
      rw [this] at s5
      rcases s5 with q | q
      · exact Or.inl (Option.some.inj q)
      · exact Or.inr (Option.some.inj q)
    rw [if_pos hk] at g2
    exact g2
theorem tp_cs (st : List Nat) (wf : Nat → Int32) : (st = [] ∧ tp (st.map wf) = -(nI 1)) ∨ ∃ f st', st = f :: st' ∧ tp (st.map wf) = wf f := by
  cases st with
  | nil => exact Or.inl ⟨rfl, rfl⟩
  | cons f st' => exact Or.inr ⟨f, st', rfl, rfl⟩
theorem mark_eq {N : List MIt} {tl : List Int32} (hLX : LX (N.map un) tl) (hU : ums [] N) (hlen : (fl (N.map un) tl).length ≤ 120) (x : Int32) :
    ((∀ q ∈ (outl (kdi N)).2, ¬ cvr (psn 0 (N.map un)) x q) → gat (fl (N.map um) (List.replicate tl.length (-(nI 1)))) x = -(nI 1)) ∧
    ∀ i l b v, (i, l, b) ∈ (outl (kdi N)).2 → cvr (psn 0 (N.map un)) x (i, l, b) → (∀ q ∈ (outl (kdi N)).2, cvr (psn 0 (N.map un)) x q → q.1 ≤ i) → (fl ((N.map gz).map um) (List.replicate tl.length (nI 0)))[tst (psn 0 (N.map un)) i]? = some v → gat (fl (N.map um) (List.replicate tl.length (-(nI 1)))) x = v := by
  have hw := LX_w _ _ hLX
  have hfl := fl_len (N.map un) tl
  -- entries lie in the program
  have hin : ∀ i l b, (i, l, b) ∈ (outl (kdi N)).2 → i ≤ l ∧ l < N.length := fun i l b he => by
    obtain ⟨_, _, _, _, s2, s3, s4, _⟩ := ent_spn he
    rw [kdi_len] at s4
    omega
  have hten : ∀ l, l < N.length → ten (psn 0 (N.map un)) l = ftl ((N.map un).take (l + 1)) := fun l hl => ten_psn (by rw [List.length_map]; exact hl)
  have htst : ∀ i z, N[i]? = some z → tst (psn 0 (N.map un)) i = ftl ((N.map un).take i) + z.1.length := fun i z hz => by
    obtain ⟨sp, m, k, w, m'⟩ := z
    exact tst_psn (k := k) (w := w) (by rw [List.getElem?_map, hz]; rfl)
  have hsuc : ∀ i z, N[i]? = some z → ftl ((N.map un).take (i + 1)) = ftl ((N.map un).take i) + z.1.length + z.2.2.2.1.length := fun i z hz => by
    have hi := (List.getElem?_eq_some_iff.mp hz).1
    have hz' : (N.map un)[i]? = some (z.1, z.2.2.1, z.2.2.2.1) := by rw [List.getElem?_map, hz]; rfl
    have : (N.map un).take (i + 1) = (N.map un).take i ++ [(z.1, z.2.2.1, z.2.2.2.1)] := by
      rw [List.take_add_one, hz']
      rfl
    rw [this, ftl_app, ftl_c]
    have e0 : ftl ([] : List ItC) = 0 := rfl
    omega
  have hwp : ∀ (i : Nat) (z : MIt), N[i]? = some z → 0 < z.2.2.2.1.length := fun i z hz => by
    have := hw (un z) (List.mem_map.mpr ⟨z, List.mem_of_getElem? hz, rfl⟩)
    exact List.length_pos_iff.mpr this
  have hv : ∀ i l b v, (i, l, b) ∈ (outl (kdi N)).2 → (fl ((N.map gz).map um) (List.replicate tl.length (nI 0)))[tst (psn 0 (N.map un)) i]? = some v → v = wmf N i := fun i l b v he e => by
    obtain ⟨h1, h2⟩ := hin i l b he
    have hz : N[i]? = some N[i] := List.getElem?_eq_getElem (by omega)
    have hzg : (N.map gz)[i]? = some (gz N[i]) := by rw [List.getElem?_map, hz]; rfl
    have hwi : 0 < (gz N[i]).2.2.2.1.length := hwp i N[i] hz
    have := (um_at (t := List.replicate tl.length (nI 0)) hzg).2 0 hwi
    rw [gz_un, Nat.add_zero] at this
    have e2 := htst i _ hz
    rw [e2] at e
    have e3 : (gz N[i]).1 = N[i].1 := rfl
    rw [e3, e] at this
    have hne := wm_ent hU he hz
    injection this with this
    rw [this]
    unfold wmf
    rw [hz]
    show gm (wm N[i]) = wm N[i]
    unfold gm
    rw [if_neg hne]
  by_cases hx : x < 0
  · have hx' := (ltn (x := x) (n := 0) (by decide)).mp hx
    refine ⟨fun _ => gat_o hx, fun i l b v he hc => ?_⟩
    have := hc.1
    omega
  · obtain ⟨p, hp31, rfl⟩ := pos_n hx
    have hpt := nI_t hp31
    rw [gat_i hp31]
    by_cases hp : p < ftl (N.map un)
    · obtain ⟨j, sp, k, w, hj, hj1, hj2⟩ := ftl_loc (N.map un) p hp
      rw [List.getElem?_map] at hj
      cases hz : N[j]? with
      | none => rw [hz] at hj; cases hj
      | some z =>
        rw [hz] at hj
        injection hj with hj
        have esp : z.1 = sp := congrArg Prod.fst hj
        have ew : z.2.2.2.1 = w := congrArg (fun q => q.2.2) hj
        subst esp; subst ew
        have hjl := (List.getElem?_eq_some_iff.mp hz).1
        have hsj := hsuc j z hz
        have htj := htst j z hz
        -- what covers
        have hcv : ∀ i l b, (i, l, b) ∈ (outl (kdi N)).2 → (cvr (psn 0 (N.map un)) (nI p) (i, l, b) ↔ ((p < ftl ((N.map un).take j) + z.1.length → i < j) ∧ i ≤ j ∧ j ≤ l)) := fun i l b he => by
          obtain ⟨h1, h2⟩ := hin i l b he
          have hzi : N[i]? = some N[i] := List.getElem?_eq_getElem (by omega)
          have hti := htst i _ hzi
          have hsi := hsuc i _ hzi
          have hwi := hwp i _ hzi
          unfold cvr
          dsimp only
          rw [hpt, hti, hten l h2]
          constructor
          · rintro ⟨c1, c2⟩
            have hij : i ≤ j := by
              apply Decidable.byContradiction
              intro c
              have := ftl_tk (Z := N.map un) (show j + 1 ≤ i by omega)
              omega
            refine ⟨fun c3 => ?_, hij, ?_⟩
            · apply Decidable.byContradiction
              intro c
              have : i = j := by omega
              subst this
              rw [hz] at hzi
              injection hzi with hzi
              rw [← hzi] at c1
              omega
            · apply Decidable.byContradiction
              intro c
              have := ftl_tk (Z := N.map un) (show l + 1 ≤ j by omega)
              omega
          · rintro ⟨c1, c2, c3⟩
            have h5 := ftl_tk (Z := N.map un) (show j + 1 ≤ l + 1 by omega)
            refine ⟨?_, by omega⟩
            by_cases c : i = j
            · subst c
              rw [hz] at hzi
              injection hzi with hzi
              rw [← hzi]
              have : ¬ p < ftl ((N.map un).take i) + z.1.length := fun q => by have := c1 q; omega
              omega
            · have := ftl_tk (Z := N.map un) (show i + 1 ≤ j by omega)
              omega
        have hF : (fl (N.map um) (List.replicate tl.length (-(nI 1))))[p]? = some (if p < ftl ((N.map un).take j) + z.1.length then z.2.1 else wm z) := by
          obtain ⟨u1, u2⟩ := um_at (t := List.replicate tl.length (-(nI 1))) hz
          by_cases c : p < ftl ((N.map un).take j) + z.1.length
          · rw [if_pos c]
            have := u1 (p - ftl ((N.map un).take j)) (by omega)
            rw [show ftl ((N.map un).take j) + (p - ftl ((N.map un).take j)) = p by omega] at this
            exact this
          · rw [if_neg c]
            have := u2 (p - (ftl ((N.map un).take j) + z.1.length)) (by omega)
            rw [show ftl ((N.map un).take j) + z.1.length + (p - (ftl ((N.map un).take j) + z.1.length)) = p by omega] at this
            exact this
        rw [hF]
        dsimp only [Option.getD_some]
        rcases ums_at hz N.length [] N (Nat.le_refl _) rfl clz.nil hU (Nat.zero_le _) with ⟨⟨m1, m2⟩, h2⟩ | ⟨A, G, c, C, hN, hA, hc, hg, hm, h1, h2⟩
        · have : (if p < ftl ((N.map un).take j) + z.1.length then z.2.1 else wm z) = -(nI 1) := by split <;> assumption
          rw [this]
          refine ⟨fun _ => rfl, fun i l b v he hcc => ?_⟩
          have := (hcv i l b he).mp hcc
          exact absurd ⟨this.2.1, this.2.2⟩ (h2 i l b he)
        · have hz2 := hz
          rw [hN] at hz2
          obtain ⟨st, g1, g2, g3, g4, g5⟩ := good_at hA hc hg hm h1 h2 hz2
          rw [← hN] at g1 g2 g3 g4
          -- where the mark is that of the innermost open call
          have top : ∀ mk : Int32, mk = tp (st.map (wmf N)) → (∀ i l b, (i, l, b) ∈ (outl (kdi N)).2 → cvr (psn 0 (N.map un)) (nI p) (i, l, b) → i < j) → ((∀ q ∈ (outl (kdi N)).2, ¬ cvr (psn 0 (N.map un)) (nI p) q) → mk = -(nI 1)) ∧ ∀ i l b v, (i, l, b) ∈ (outl (kdi N)).2 → cvr (psn 0 (N.map un)) (nI p) (i, l, b) → (∀ q ∈ (outl (kdi N)).2, cvr (psn 0 (N.map un)) (nI p) q → q.1 ≤ i) → (fl ((N.map gz).map um) (List.replicate tl.length (nI 0)))[tst (psn 0 (N.map un)) i]? = some v → mk = v := by
            intro mk hmk hlt
            rcases tp_cs st (wmf N) with ⟨q1, q2⟩ | ⟨f, st', q1, q2⟩
            · rw [hmk, q2]
              refine ⟨fun _ => rfl, fun i l b v he hcc => ?_⟩
              have h5 := (hcv i l b he).mp hcc
              have := g4 i l b he (hlt i l b he hcc) h5.2.2
              rw [q1] at this
              simp at this
            · obtain ⟨f1, lf, bf, f2, f3⟩ := g3 f (by rw [q1]; exact List.mem_cons_self)
              have hfc : cvr (psn 0 (N.map un)) (nI p) (f, lf, bf) := (hcv f lf bf f2).mpr ⟨fun _ => f1, by omega, f3⟩
              refine ⟨fun hno => absurd hfc (hno _ f2), fun i l b v he hcc hmax e => ?_⟩
              have h5 := (hcv i l b he).mp hcc
              have hi := g4 i l b he (hlt i l b he hcc) h5.2.2
              have h6 : f ≤ i := hmax _ f2 hfc
              have h7 : i ≤ f := by
                rw [q1] at hi g5
                rcases List.mem_cons.mp hi with w | w
                · omega
                · have := (List.pairwise_cons.mp g5).1 i w
                  omega
              have : i = f := by omega
              subst this
              rw [hmk, q2, hv i l b v he e]
          by_cases cs : p < ftl ((N.map un).take j) + z.1.length
          · rw [if_pos cs]
            exact top _ g1 (fun i l b he hcc => ((hcv i l b he).mp hcc).1 cs)
          · rw [if_neg cs]
            unfold mkw at g2
            by_cases hk : mkd z = 1 ∨ mkd z = 2
            · have hbg : bgn (kdi N) j = true := by
                have hkj : (kdi N)[j]? = some (mkd z) := by unfold kdi; rw [List.getElem?_map, hz]; rfl
                unfold bgn
                have hgd := gdi_dec (G := G) (c := c) (C := C) hA hc (gl_7 hg) h1 (by omega)
                rw [← hN] at hgd
                rw [hgd, hg, hkj]
                rcases hk with q | q <;> rw [q] <;> rfl
              obtain ⟨lj, bj, hej⟩ := bgn_ent hbg
              have hjc : cvr (psn 0 (N.map un)) (nI p) (j, lj, bj) := (hcv j lj bj hej).mpr ⟨fun q => absurd q cs, Nat.le_refl _, (hin _ _ _ hej).1⟩
              refine ⟨fun hno => absurd hjc (hno _ hej), fun i l b v he hcc hmax e => ?_⟩
              have h5 := (hcv i l b he).mp hcc
              have h6 : j ≤ i := hmax _ hej hjc
              have : i = j := by omega
              subst this
              rw [hv i l b v he e]
              unfold wmf
              rw [hz]
            · rw [if_neg hk] at g2
              refine top _ g2 (fun i l b he hcc => ?_)
              have h5 := (hcv i l b he).mp hcc
              apply Decidable.byContradiction
              intro c2
              have : i = j := by omega
              subst this
              obtain ⟨_, _, _, _, _, _, _, s5, _⟩ := ent_spn he
              have hkj : (kdi N)[i]? = some (mkd z) := by unfold kdi; rw [List.getElem?_map, hz]; rfl
              rw [hkj] at s5
              rcases s5 with q | q
              · exact hk (Or.inl (Option.some.inj q))
              · exact hk (Or.inr (Option.some.inj q))
    · have hF : ((fl (N.map um) (List.replicate tl.length (-(nI 1))))[p]?).getD (-(nI 1)) = -(nI 1) := by
        have e0 : (fl (N.map um) []).length = ftl (N.map un) := by rw [← ftl_um]; rfl
        rw [fl_nl, List.getElem?_append_right (by omega), List.getElem?_replicate]
        split <;> rfl
      rw [hF]
      refine ⟨fun _ => rfl, fun i l b v he hcc => ?_⟩
      obtain ⟨h1, h2⟩ := hin i l b he
      have h3 := hcc.2
      dsimp only at h3
      rw [hpt, hten l h2] at h3
      have h4 := ftl_tk (Z := N.map un) (show l + 1 ≤ (N.map un).length by rw [List.length_map]; omega)
      rw [List.take_length] at h4
      omega
