/-! mark: the class's mark at a place is that of the innermost expression there. -/
theorem scn_stx : ∀ (m : Nat) (l : List Nat) (t : Nat) (s : List Nat), s.Pairwise (fun x y => y < x) → (∀ x ∈ s, x < t) → (scn m l t s).2.Pairwise (fun x y => y < x) ∧ (∀ x ∈ (scn m l t s).2, x < t + m ∧ (x ∈ s ∨ l[x - t]? = some 1)) ∧ (∀ q ∈ (scn m l t s).1, (q.1 ∈ s ∨ t ≤ q.1) ∧ q.1 ∉ (scn m l t s).2)
  | 0, l, t, s, h1, h2 => ⟨h1, fun x hx => ⟨h2 x hx, Or.inl hx⟩, fun q hq => by simp [scn] at hq⟩
  | m + 1, [], t, s, h1, h2 => ⟨h1, fun x hx => ⟨by have := h2 x hx; omega, Or.inl hx⟩, fun q hq => by simp [scn] at hq⟩
  | m + 1, k :: r, t, s, h1, h2 => by
    have ih := scn_stx m r (t + 1)
    have get : ∀ x, t + 1 ≤ x → (k :: r)[x - t]? = r[x - (t + 1)]? := fun x hx => by
      rw [show x - t = x - (t + 1) + 1 by omega, List.getElem?_cons_succ]
    -- what follows from a smaller stack
    have go : ∀ s', s'.Pairwise (fun x y => y < x) → (∀ x ∈ s', x ∈ s ∨ (x = t ∧ k = 1)) → (∀ x ∈ s', x < t + 1) → (scn m r (t + 1) s').2.Pairwise (fun x y => y < x) ∧ (∀ x ∈ (scn m r (t + 1) s').2, x < t + (m + 1) ∧ (x ∈ s ∨ (k :: r)[x - t]? = some 1)) ∧ (∀ q ∈ (scn m r (t + 1) s').1, (q.1 ∈ s ∨ t ≤ q.1) ∧ q.1 ∉ (scn m r (t + 1) s').2) := by
      intro s' p1 p2 p3
      obtain ⟨i1, i2, i3⟩ := ih s' p1 p3
      refine ⟨i1, fun x hx => ?_, fun q hq => ?_⟩
      · obtain ⟨j1, j2⟩ := i2 x hx
        refine ⟨by omega, ?_⟩
        rcases j2 with j2 | j2
        · rcases p2 x j2 with w | ⟨w, w'⟩
          · exact Or.inl w
          · right
            rw [w, Nat.sub_self, w']
            rfl
        · rcases scn_stk _ _ _ _ x hx with w | w
          · rcases p2 x w with w | ⟨w, w'⟩
            · exact Or.inl w
            · right
              rw [w, Nat.sub_self, w']
              rfl
          · right
            rw [get x w.1]
            exact j2
      · obtain ⟨j1, j2⟩ := i3 q hq
        refine ⟨?_, j2⟩
        rcases j1 with j1 | j1
        · rcases p2 _ j1 with w | ⟨w, -⟩
          · exact Or.inl w
          · exact Or.inr (by omega)
        · exact Or.inr (by omega)
    rw [scn_c]
    split
    · rename_i hc
      exact go (t :: s) (List.pairwise_cons.mpr ⟨fun x hx => h2 x hx, h1⟩) (fun x hx => by
        rcases List.mem_cons.mp hx with w | w
        · exact Or.inr ⟨w, hc.1.1⟩
        · exact Or.inl w) (fun x hx => by
        rcases List.mem_cons.mp hx with w | w
        · omega
        · have := h2 x w
          omega)
    · split
      · split
        · rename_i f s' _
          obtain ⟨w1, w2⟩ := List.pairwise_cons.mp h1
          obtain ⟨g1, g2, g3⟩ := go s' w2 (fun x hx => Or.inl (List.mem_cons_of_mem _ hx)) (fun x hx => by have := h2 x (List.mem_cons_of_mem _ hx); omega)
          refine ⟨g1, g2, fun q hq => ?_⟩
          rcases List.mem_cons.mp hq with e | e
          · subst e
            refine ⟨Or.inl List.mem_cons_self, fun c => ?_⟩
            rcases scn_stk _ _ _ _ _ c with w | w
            · have := w1 _ w
              dsimp only at this
              omega
            · have := h2 f List.mem_cons_self
              dsimp only at w
              omega
          · exact g3 q e
        · exact go [] List.Pairwise.nil (fun x hx => by simp at hx) (fun x hx => by simp at hx)
      · split
        · obtain ⟨g1, g2, g3⟩ := go s h1 (fun x hx => Or.inl hx) (fun x hx => by have := h2 x hx; omega)
          refine ⟨g1, g2, fun q hq => ?_⟩
          rcases List.mem_cons.mp hq with e | e
          · subst e
            refine ⟨Or.inr (Nat.le_refl _), fun c => ?_⟩
            rcases scn_stk _ _ _ _ _ c with w | w
            · have := h2 _ w
              dsimp only at this
              omega
            · dsimp only at w
              omega
          · exact g3 q e
        · exact go s h1 (fun x hx => Or.inl hx) (fun x hx => by have := h2 x hx; omega)
/-- the marks of the open calls -/
theorem mrn_scn {wf : Nat → Int32} : ∀ (A B : List MIt) (r : List Nat) (q n mx t : Nat) (s : List Nat) (z z' : Nat × Nat × Nat), rn false q n mx (kdi A ++ kdi B) = some z' → z'.2.2 ≤ 12 → rn false q n mx (kdi A) = some z → hd4 r = false → s.length = n + (if q = 2 ∧ hd4 (kdi A ++ (kdi B ++ r)) = true then 1 else 0) → (∀ i y, A[i]? = some y → wf (t + i) = wm y) → mrn (kdi B ++ r) A (s.map wf) = (scn A.length (kdi A ++ (kdi B ++ r)) t s).2.map wf
  | [], B, r, q, n, mx, t, s, z, z', _, _, _, _, _, _ => rfl
  | y :: A, B, r, q, n, mx, t, s, z, z', h, h12, hz, hr, hs, hw => by
    have hk : kdi (y :: A) = mkd y :: kdi A := rfl
    rw [hk] at h hz hs ⊢
    rw [List.cons_append, rn_c] at h
    rw [rn_c] at hz
    have hw0 : wf t = wm y := by have := hw 0 y rfl; rw [Nat.add_zero] at this; exact this
    have hw1 : ∀ i y', A[i]? = some y' → wf (t + 1 + i) = wm y' := fun i y' e => by
      have := hw (i + 1) y' (by rw [List.getElem?_cons_succ]; exact e)
      rw [show t + 1 + i = t + (i + 1) by omega]
      exact this
    cases ha : ast false q n mx (mkd y) with
    | none => rw [ha] at hz; cases hz
    | some v =>
      obtain ⟨q1, n1, m1⟩ := v
      rw [ha] at h hz
      dsimp only at h hz
      obtain ⟨k1, k2, k3⟩ := ast_k ha
      have ih := mrn_scn (wf := wf) A B r q1 n1 m1 (t + 1)
      have goal : ∀ s', mnx y (hd4 (kdi A ++ (kdi B ++ r))) (s.map wf) = s'.map wf → s'.length = n1 + (if q1 = 2 ∧ hd4 (kdi A ++ (kdi B ++ r)) = true then 1 else 0) → mrn (kdi B ++ r) (y :: A) (s.map wf) = (scn A.length (kdi A ++ (kdi B ++ r)) (t + 1) s').2.map wf := fun s' e1 e2 => by
        show mrn (kdi B ++ r) A (mnx y (hd4 (kdi A ++ (kdi B ++ r))) (s.map wf)) = _
        rw [e1]
        exact ih s' z z' h h12 hz hr e2 hw1
      rw [List.length_cons, List.cons_append, scn_c]
      rw [List.cons_append] at hs
      by_cases c1 : mkd y = 1
      · rw [c1] at ha hs ⊢
        have hq := (k3 (Or.inl c1)).1
        rw [ast_1 hq] at ha
        cases ha
        rw [if_neg (by omega)] at hs
        by_cases h4 : hd4 (kdi A ++ (kdi B ++ r)) = true
        · have hn12 : n < 12 := by
            have e : hd4 (kdi A ++ kdi B) = true := by
              rw [← List.append_assoc, hd4_app hr] at h4
              exact h4
            cases hAB : kdi A ++ kdi B with
            | nil => rw [hAB] at e; cases e
            | cons k' L' =>
              rw [hAB] at e h
              have e : k' = 4 := Nat.eq_of_beq_eq_true e
              subst e
              rw [rn_c, ast_24] at h
              dsimp only at h
              have := rn_mxm _ _ _ _ _ h
              omega
          rw [if_pos ⟨⟨rfl, h4⟩, by omega⟩]
          refine goal (t :: s) ?_ (by rw [List.length_cons, if_pos ⟨rfl, h4⟩]; omega)
          unfold mnx
          rw [if_pos ⟨c1, h4⟩, List.map_cons, hw0]
        · rw [if_neg (fun c => h4 c.1.2), if_neg (by decide), if_pos (Or.inl rfl)]
          refine goal s ?_ (by rw [if_neg (fun c => h4 c.2)]; omega)
          unfold mnx
          rw [if_neg (fun c => h4 c.2), if_neg (by omega)]
      · rw [if_neg (fun c => c1 c.1.1)]
        by_cases c5 : mkd y = 5
        · rw [c5] at ha hs
          obtain ⟨a1, a2⟩ := ast_5 ha
          cases a2
          rw [if_pos c5]
          rw [if_neg (fun c => by cases c.2)] at hs
          cases s with
          | nil => simp at hs; omega
          | cons f s' =>
            dsimp only
            rw [List.length_cons] at hs
            refine goal s' ?_ (by rw [if_neg (by omega)]; omega)
            unfold mnx
            rw [if_neg (fun c => c1 c.1), if_pos c5]
            rfl
        · rw [if_neg c5]
          have hmn : mnx y (hd4 (kdi A ++ (kdi B ++ r))) (s.map wf) = s.map wf := by
            unfold mnx
            rw [if_neg (fun c => c1 c.1), if_neg c5]
          by_cases c2 : mkd y = 2
          · rw [c2] at ha hs
            have hq := (k3 (Or.inr c2)).1
            rw [ast_2 hq] at ha
            cases ha
            rw [if_pos (Or.inr c2)]
            rw [if_neg (by omega)] at hs
            exact goal s hmn (by rw [if_neg (by omega)]; omega)
          · rw [if_neg (by omega)]
            by_cases c4 : mkd y = 4
            · rw [c4] at ha hs
              obtain ⟨a1, a2⟩ := ast_4 ha
              cases a2
              rw [if_pos ⟨a1, rfl⟩] at hs
              exact goal s hmn (by rw [if_neg (by omega)]; omega)
            · have c6 : mkd y = 6 := by omega
              rw [c6] at ha hs
              have a2 := ast_o (by decide) (by decide) ha
              have hq1 : q1 = 0 := by
                unfold ast at ha
                split at ha
                · simp at ha
                · rw [if_neg (by omega), if_neg (by omega)] at ha
                  split at ha
                  · cases ha; rfl
                  · cases ha
              cases a2
              rw [if_neg (fun c => by cases c.2)] at hs
              exact goal s hmn (by rw [if_neg (by omega)]; omega)
def wmf (N : List MIt) (f : Nat) : Int32 := match N[f]? with
  | some z => wm z
  | none => 0
/-- the marks at a token of a good statement -/
theorem good_at {A G C : List MIt} {c z : MIt} {j : Nat} (hA : clz A) (hc : mkd c = 7) (hg : gl (kdi G) = true) (hm : mal [7] G []) (h1 : A.length ≤ j) (h2 : j < A.length + G.length) (hz : (A ++ (G ++ c :: C))[j]? = some z) : ∃ st : List Nat, z.2.1 = tp (st.map (wmf (A ++ (G ++ c :: C)))) ∧ mkw z (st.map (wmf (A ++ (G ++ c :: C)))) ∧ (∀ f ∈ st, f < j ∧ ∃ l b, (f, l, b) ∈ (outl (kdi (A ++ (G ++ c :: C)))).2 ∧ j ≤ l) ∧ (∀ i l b, (i, l, b) ∈ (outl (kdi (A ++ (G ++ c :: C)))).2 → i < j → j ≤ l → i ∈ st) ∧ st.Pairwise (fun x y => y < x) := by
  obtain ⟨qf, mxf, hrn, hqf, hmxf⟩ := gl_rn hg
  have hzG : G[j - A.length]? = some z := by
    rw [List.getElem?_append_right h1, List.getElem?_append_left (by omega)] at hz
    exact hz
  have hG : G = G.take (j - A.length) ++ (z :: G.drop (j - A.length + 1)) := by
    rw [← drop_it hzG, List.take_append_drop]
  have hlt : (G.take (j - A.length)).length = j - A.length := by rw [List.length_take]; omega
  have hGz : ∀ i y, (G.take (j - A.length))[i]? = some y → (A ++ (G ++ c :: C))[A.length + i]? = some y := fun i y e => by
    have hi := (List.getElem?_eq_some_iff.mp e).1
    rw [hlt] at hi
    rw [List.getElem?_take_of_lt hi] at e
    rw [List.getElem?_append_right (by omega), Nat.add_sub_cancel_left, List.getElem?_append_left (by omega)]
    exact e
  have hkG : kdi (G ++ c :: C) = kdi (G.take (j - A.length)) ++ (kdi (z :: G.drop (j - A.length + 1)) ++ 7 :: kdi C) := by
    conv => lhs; rw [hG]
    rw [List.append_assoc, kdi_app, kdi_app]
    show _ ++ (_ ++ mkd c :: kdi C) = _
    rw [hc]
  have hrn' := hrn
  rw [hG, kdi_app] at hrn'
  obtain ⟨zp, hzp⟩ : ∃ zp, rn false 0 0 0 (kdi (G.take (j - A.length))) = some zp := by
    rw [rn_app] at hrn'
    cases h : rn false 0 0 0 (kdi (G.take (j - A.length))) with
    | none => rw [h] at hrn'; cases hrn'
    | some v => exact ⟨v, rfl⟩
  have hlock := mrn_scn (wf := wmf (A ++ (G ++ c :: C))) (G.take (j - A.length)) (z :: G.drop (j - A.length + 1)) (7 :: kdi C) 0 0 0 A.length [] zp (qf, 0, mxf) hrn' hmxf hzp rfl (by simp) (fun i y e => by unfold wmf; rw [hGz i y e])
  rw [← hkG, hlt] at hlock
  rw [hG] at hm
  obtain ⟨m1, m2⟩ := (mal_app [7] _ _ _).1.mp hm
  have hmm : mrn (kdi (z :: G.drop (j - A.length + 1)) ++ [7]) (G.take (j - A.length)) [] = (scn (j - A.length) (kdi (G ++ c :: C)) A.length []).2.map (wmf (A ++ (G ++ c :: C))) := by
    rw [← hlock]
    exact (mal_hd (hd4_7 _) _ _).2
  rw [hmm] at m2
  obtain ⟨st1, st2, st3⟩ := scn_stx (j - A.length) (kdi (G ++ c :: C)) A.length [] List.Pairwise.nil (fun x hx => by simp at hx)
  -- the entries
  obtain ⟨E0, hE0, hE0l⟩ := outl_dec (G := G) (c := c) (C := C) hA
  have hol := oln_dec (A := A) (G := G) (c := c) (C := C) hc (gl_7 hg)
  rw [if_pos hg] at hol
  have hsp : (scn G.length (kdi (G ++ c :: C)) A.length []).1 = (scn (j - A.length) (kdi (G ++ c :: C)) A.length []).1 ++ (scn (G.length - (j - A.length)) ((kdi (G ++ c :: C)).drop (j - A.length)) j (scn (j - A.length) (kdi (G ++ c :: C)) A.length []).2).1 := by
    have := scn_app (j - A.length) (G.length - (j - A.length)) (kdi (G ++ c :: C)) A.length []
    rw [show j - A.length + (G.length - (j - A.length)) = G.length by omega, show A.length + (j - A.length) = j by omega] at this
    rw [this]
  rw [hol, hsp] at hE0
  obtain ⟨-, st5, st6⟩ := scn_stx (G.length - (j - A.length)) ((kdi (G ++ c :: C)).drop (j - A.length)) j (scn (j - A.length) (kdi (G ++ c :: C)) A.length []).2 st1 (fun x hx => by have := (st2 x hx).1; omega)
  have hE2 : ∀ q ∈ (oln (kdi (A ++ (G ++ c :: C))) C.length (A.length + G.length + 1) (A.length + G.length + 1)).2, A.length + G.length + 1 ≤ q.1 := fun q hq => by
    obtain ⟨i, l, b⟩ := q
    obtain ⟨f', e', -, w1, w2, -⟩ := (out_all (kdi (A ++ (G ++ c :: C))) C.length (A.length + G.length + 1) (A.length + G.length + 1) (by rw [dec_len]; omega) (Nat.le_refl _)).2.1 i l b hq
    show _ ≤ i
    omega
  refine ⟨(scn (j - A.length) (kdi (G ++ c :: C)) A.length []).2, m2.1, m2.2.1, fun f hf => ?_, fun i l b he hij hjl => ?_, st1⟩
  · obtain ⟨w1, w2⟩ := st2 f hf
    have hfA : A.length ≤ f := by
      rcases scn_stk _ _ _ _ f hf with w | w
      · simp at w
      · exact w.1
    refine ⟨by omega, ?_⟩
    have hk1 : (kdi (A ++ (G ++ c :: C)))[f]? = some 1 := by
      rcases w2 with w | w
      · simp at w
      · rw [kdi_app, List.getElem?_append_right (by rw [kdi_len]; exact hfA), kdi_len]
        exact w
    have hbg : bgn (kdi (A ++ (G ++ c :: C))) f = true := by
      unfold bgn
      rw [gdi_dec hA hc (gl_7 hg) hfA (by omega), hg, hk1]
      rfl
    obtain ⟨l, b, he⟩ := bgn_ent hbg
    refine ⟨l, b, he, ?_⟩
    obtain ⟨_, _, _, _, w5, _⟩ := ent_spn he
    rw [hE0] at he
    rcases List.mem_append.mp he with e | e
    · have := hE0l _ e
      dsimp only at this
      omega
    · rcases List.mem_append.mp e with e | e
      · rcases List.mem_append.mp e with e | e
        · exact absurd hf (st3 _ e).2
        · have := (scn_ge _ _ _ _ _ e).1
          exact this
      · have := hE2 _ e
        dsimp only at this
        omega
  · rw [hE0] at he
    rcases List.mem_append.mp he with e | e
    · have := hE0l _ e
      dsimp only at this
      omega
    · rcases List.mem_append.mp e with e | e
      · rcases List.mem_append.mp e with e | e
        · have := (scn_ge _ _ _ _ _ e).2
          dsimp only at this
          omega
        · rcases (st6 _ e).1 with w | w
          · exact w
          · dsimp only at w
            omega
      · have := hE2 _ e
        dsimp only at this
        omega
theorem ums_at {N : List MIt} {j : Nat} {z : MIt} (hz : N[j]? = some z) : ∀ (n : Nat) (A N' : List MIt), N'.length ≤ n → N = A ++ N' → clz A → ums [] N' → A.length ≤ j → ((z.2.1 = -(nI 1) ∧ wm z = -(nI 1)) ∧ ∀ i l b, (i, l, b) ∈ (outl (kdi N)).2 → ¬ (i ≤ j ∧ j ≤ l)) ∨ ∃ A G c C, N = A ++ (G ++ c :: C) ∧ clz A ∧ mkd c = 7 ∧ gl (kdi G) = true ∧ mal [7] G [] ∧ A.length ≤ j ∧ j < A.length + G.length := by
  have hjl := (List.getElem?_eq_some_iff.mp hz).1
  intro n
  induction n with
  | zero =>
    intro A N' hn hN hA hU hj
    have : N' = [] := List.length_eq_zero_iff.mp (by omega)
    subst this
    rw [List.append_nil] at hN
    subst hN
    omega
  | succ n ih =>
    intro A N' hn hN hA hU hj
    have hsp := tdw N'
    have hS7 : ∀ k' ∈ kdi (N'.takeWhile nsm), k' ≠ 7 := fun k' hk' => by
      obtain ⟨y, hy, rfl⟩ := List.mem_map.mp hk'
      have := List.all_takeWhile (p := nsm) (l := N')
      rw [List.all_eq_true] at this
      have h2 := this y hy
      unfold nsm at h2
      intro c
      rw [c] at h2
      exact absurd h2 (by decide)
    generalize N'.takeWhile nsm = S at hsp hS7
    cases hD : N'.dropWhile nsm with
    | nil =>
      rw [hD, List.append_nil] at hsp
      subst hsp
      left
      have hal : aln S := by
        have key : ∀ (S G : List MIt), (∀ k ∈ kdi S, k ≠ 7) → ums G S → aln (G ++ S) := by
          intro S
          induction S with
          | nil => intro G _ h; rw [List.append_nil]; exact h
          | cons y S ihS =>
            intro G h7 h
            have h : (if mkd y = 7 then okg G ∧ aln [y] ∧ ums [] S else ums (G ++ [y]) S) := h
            rw [if_neg (h7 (mkd y) List.mem_cons_self)] at h
            have := ihS (G ++ [y]) (fun k hk => h7 k (List.mem_cons_of_mem _ hk)) h
            rw [List.append_assoc] at this
            exact this
        exact key S [] hS7 hU
      have hzS : z ∈ S := by
        rw [hN, List.getElem?_append_right hj] at hz
        exact List.mem_of_getElem? hz
      refine ⟨hal z hzS, fun i l b he c => ?_⟩
      obtain ⟨f0, e0, hsp0, s1, s2, s3, s4, -⟩ := ent_spn he
      obtain ⟨-, -, -, a4⟩ := (out_all (kdi N) (kdi N).length 0 0 (by omega) (Nat.le_refl _)).2.2.2.2.1 f0 e0 true hsp0
      have b2 := (a4 rfl).2.1
      rw [hN, kdi_app, List.getElem?_append_right (by rw [kdi_len]; omega)] at b2
      exact hS7 7 (List.mem_of_getElem? b2) rfl
    | cons c C =>
      rw [hD] at hsp
      have hc7 : mkd c = 7 := by
        have := List.head_dropWhile_not nsm (l := N') (by rw [hD]; simp)
        simp only [hD, List.head_cons] at this
        unfold nsm at this
        simpa using this
      subst hsp
      rw [ums_run hc7 S [] hS7, List.nil_append] at hU
      obtain ⟨u1, u2, u3⟩ := hU
      have hlen : (S ++ c :: C).length = S.length + 1 + C.length := by rw [List.length_append, List.length_cons]; omega
      by_cases h1 : j < A.length + S.length
      · by_cases hg : gl (kdi S) = true
        · right
          unfold okg at u1
          rw [if_pos hg] at u1
          exact ⟨A, S, c, C, hN, hA, hc7, hg, u1, hj, h1⟩
        · left
          unfold okg at u1
          rw [if_neg hg] at u1
          have hzS : z ∈ S := by
            rw [hN, List.getElem?_append_right hj, List.getElem?_append_left (by omega)] at hz
            exact List.mem_of_getElem? hz
          refine ⟨u1 z hzS, fun i l b he cc => ?_⟩
          obtain ⟨f0, e0, hsp0, s1, s2, s3, s4, -⟩ := ent_spn he
          have g1 := gdi_of hsp0 (show f0 ≤ j by omega) (by omega)
          have g2 := gdi_dec (G := S) (c := c) (C := C) hA hc7 hS7 hj (by omega)
          rw [← hN, g1] at g2
          exact hg g2.symm
      · by_cases h2 : j = A.length + S.length
        · left
          have hzc : z = c := by
            rw [hN, List.getElem?_append_right hj, List.getElem?_append_right (by omega), show j - A.length - S.length = 0 by omega] at hz
            injection hz with hz
            exact hz.symm
          subst hzc
          refine ⟨u2 z (List.mem_singleton.mpr rfl), fun i l b he cc => ?_⟩
          obtain ⟨f0, e0, hsp0, s1, s2, s3, s4, -⟩ := ent_spn he
          obtain ⟨-, -, -, a4⟩ := (out_all (kdi N) (kdi N).length 0 0 (by omega) (Nat.le_refl _)).2.2.2.2.1 f0 e0 true hsp0
          obtain ⟨b1, b2, dp, b3, b4⟩ := a4 rfl
          obtain ⟨q', -, -, hrX⟩ := au_e b4 (q := 0) (a := 0) (mx := 0) (by omega) (by omega)
          have hk7 : (kdi N)[j]? = some 7 := by unfold kdi; rw [List.getElem?_map, hz]; show some (mkd z) = _; rw [hc7]
          have := rn_kin _ _ _ _ _ hrX 7 (by
            rw [List.mem_iff_getElem?]
            refine ⟨j - f0, ?_⟩
            rw [List.getElem?_take_of_lt (by omega), List.getElem?_drop, show f0 + (j - f0) = j by omega]
            exact hk7)
          omega
        · have e : A ++ (S ++ c :: C) = ((A ++ S) ++ [c]) ++ C := by simp
          refine ih ((A ++ S) ++ [c]) C (by omega) (by rw [hN, e]) (clz.snoc hc7) u3 ?_
          simp only [List.length_append, List.length_singleton]
          omega
