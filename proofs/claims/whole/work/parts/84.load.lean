/-! RecipeRewriter.load: the marks of a loaded program. -/
def cwi (ex : List (Nat × Nat × Nat)) (i : Nat) : Bool := ex.any (fun q => decide (q.1 ≤ i ∧ i ≤ q.2.1))
def csi (ex : List (Nat × Nat × Nat)) (i : Nat) : Bool := ex.any (fun q => decide (q.1 < i ∧ i ≤ q.2.1))
def m01 (b : Bool) : Int32 := if b = true then nI 0 else -(nI 1)
def ini (s : List Int32) : List MIt := (lxT s).1.mapIdx (fun i z => (z.1, m01 (csi (outl (kds s)).2 i), z.2.1, z.2.2, m01 (cwi (outl (kds s)).2 i)))
theorem ini_get {s : List Int32} {j k : Nat} {sp w : List Int32} (h : (lxT s).1[j]? = some (sp, k, w)) : (ini s)[j]? = some (sp, m01 (csi (outl (kds s)).2 j), k, w, m01 (cwi (outl (kds s)).2 j)) := by
  unfold ini
  rw [List.getElem?_mapIdx, h]
  rfl
theorem ini_un (s : List Int32) : (ini s).map un = (lxT s).1 := by
  apply List.ext_getElem?
  intro j
  rw [List.getElem?_map]
  unfold ini
  rw [List.getElem?_mapIdx]
  cases (lxT s).1[j]? with
  | none => rfl
  | some z => rfl
theorem ini_kdi (s : List Int32) : kdi (ini s) = kds s := by
  have := ini_un s
  unfold kds tks
  rw [kds_psn, ← this, List.map_map]
  rfl
theorem ini_len (s : List Int32) : (ini s).length = (lxT s).1.length := by unfold ini; rw [List.length_mapIdx]
theorem cv_loc {Z : List ItC} (hw : ∀ z ∈ Z, z.2.2 ≠ []) {j p k : Nat} {sp w : List Int32} (hz : Z[j]? = some (sp, k, w)) (h1 : ftl (Z.take j) ≤ p) (h2 : p < ftl (Z.take j) + sp.length + w.length) {i l : Nat} (hil : i ≤ l) (hl : l < Z.length) : (tst (psn 0 Z) i ≤ p ∧ p < ten (psn 0 Z) l) ↔ ((p < ftl (Z.take j) + sp.length → i < j) ∧ i ≤ j ∧ j ≤ l) := by
  have hsuc : ∀ i sp k w, Z[i]? = some (sp, k, w) → ftl (Z.take (i + 1)) = ftl (Z.take i) + sp.length + w.length := fun i sp k w hz => by
    have : Z.take (i + 1) = Z.take i ++ [(sp, k, w)] := by
      rw [List.take_add_one, hz]
      rfl
    rw [this, ftl_app, ftl_c]
    have e0 : ftl ([] : List ItC) = 0 := rfl
    omega
  have hsj := hsuc j sp k w hz
  obtain ⟨zi, hzi⟩ : ∃ zi, Z[i]? = some zi := ⟨_, List.getElem?_eq_getElem (by omega)⟩
  obtain ⟨spi, ki, wi⟩ := zi
  have hti := tst_psn hzi
  have hsi := hsuc i spi ki wi hzi
  have hwi : 0 < wi.length := List.length_pos_iff.mpr (hw _ (List.mem_of_getElem? hzi))
  rw [hti, ten_psn hl]
  constructor
  · rintro ⟨c1, c2⟩
    have hij : i ≤ j := by
      apply Decidable.byContradiction
      intro c
      have := ftl_tk (Z := Z) (show j + 1 ≤ i by omega)
      omega
    refine ⟨fun c3 => ?_, hij, ?_⟩
    · apply Decidable.byContradiction
      intro c
      have : i = j := by omega
      subst this
      rw [hz] at hzi
      cases hzi
      omega
    · apply Decidable.byContradiction
      intro c
      have := ftl_tk (Z := Z) (show l + 1 ≤ j by omega)
      omega
  · rintro ⟨c1, c2, c3⟩
    have h5 := ftl_tk (Z := Z) (show j + 1 ≤ l + 1 by omega)
    refine ⟨?_, by omega⟩
    by_cases c : i = j
    · subst c
      rw [hz] at hzi
      cases hzi
      have : ¬ p < ftl (Z.take i) + sp.length := fun q => by have := c1 q; omega
      omega
    · have := ftl_tk (Z := Z) (show i + 1 ≤ j by omega)
      omega
theorem mk0_ini (s : List Int32) : mk0 s = fl ((ini s).map um) (List.replicate (lxT s).2.length (-(nI 1))) := by
  have hLX := (lxT_ok s).1
  have hfl := (lxT_ok s).2
  have hw := LX_w _ _ hLX
  have hlen : (fl ((ini s).map um) (List.replicate (lxT s).2.length (-(nI 1)))).length = s.length := by
    rw [fl_ul, ini_un, hfl]
  have hsl : s.length = ftl (lxT s).1 + (lxT s).2.length := by
    have := fl_len (lxT s).1 (lxT s).2
    rw [hfl] at this
    exact this
  have hml : (mk0 s).length = s.length := by unfold mk0; rw [List.length_map, List.length_range]
  apply List.ext_getElem?
  intro p
  by_cases hp : p < s.length
  · have e1 : (mk0 s)[p]? = some (m01 (cov (tks s) s.length (outl (kds s)).2 p)) := by
      unfold mk0
      rw [List.getElem?_map, List.getElem?_range hp]
      rfl
    rw [e1]
    have hent : ∀ q ∈ (outl (kds s)).2, q.1 ≤ q.2.1 ∧ q.2.1 < (lxT s).1.length ∧ ten (tks s) q.2.1 ≤ s.length := fun q hq => by
      obtain ⟨i, l, b⟩ := q
      obtain ⟨_, _, _, _, s2, s3, s4, _⟩ := ent_spn hq
      have hl := ent_lt _ hq
      have e2 : (tks s).length = (lxT s).1.length := by unfold tks; rw [psn_len]
      dsimp only at hl ⊢
      exact ⟨s2, by omega, (tst_bd hl).2⟩
    by_cases hp2 : p < ftl (lxT s).1
    · obtain ⟨j, sp, k, w, hj, hj1, hj2⟩ := ftl_loc (lxT s).1 p hp2
      have hz := ini_get hj
      obtain ⟨u1, u2⟩ := um_at (t := List.replicate (lxT s).2.length (-(nI 1))) hz
      rw [ini_un] at u1 u2
      dsimp only at u1 u2
      have hcov : cov (tks s) s.length (outl (kds s)).2 p = if p < ftl ((lxT s).1.take j) + sp.length then csi (outl (kds s)).2 j else cwi (outl (kds s)).2 j := by
        have key : ∀ q ∈ (outl (kds s)).2, (tst (tks s) q.1 ≤ p ∧ p < min (ten (tks s) q.2.1) s.length) ↔ ((p < ftl ((lxT s).1.take j) + sp.length → q.1 < j) ∧ q.1 ≤ j ∧ j ≤ q.2.1) := fun q hq => by
          obtain ⟨h1, h2, h3⟩ := hent q hq
          have := cv_loc hw hj hj1 hj2 h1 h2
          have e3 : psn 0 (lxT s).1 = tks s := rfl
          rw [e3] at this
          rw [← this]
          omega
        by_cases c : p < ftl ((lxT s).1.take j) + sp.length
        · rw [if_pos c]
          unfold cov csi
          rw [Bool.eq_iff_iff, List.any_eq_true, List.any_eq_true]
          constructor
          · rintro ⟨q, hq, hd⟩
            have := (key q hq).mp (of_decide_eq_true hd)
            exact ⟨q, hq, decide_eq_true ⟨this.1 c, this.2.2⟩⟩
          · rintro ⟨q, hq, hd⟩
            have hd := of_decide_eq_true hd
            exact ⟨q, hq, decide_eq_true ((key q hq).mpr ⟨fun _ => hd.1, by omega, hd.2⟩)⟩
        · rw [if_neg c]
          unfold cov cwi
          rw [Bool.eq_iff_iff, List.any_eq_true, List.any_eq_true]
          constructor
          · rintro ⟨q, hq, hd⟩
            have := (key q hq).mp (of_decide_eq_true hd)
            exact ⟨q, hq, decide_eq_true this.2⟩
          · rintro ⟨q, hq, hd⟩
            have hd := of_decide_eq_true hd
            exact ⟨q, hq, decide_eq_true ((key q hq).mpr ⟨fun q => absurd q c, hd⟩)⟩
      rw [hcov]
      by_cases c : p < ftl ((lxT s).1.take j) + sp.length
      · rw [if_pos c]
        have := u1 (p - ftl ((lxT s).1.take j)) (by omega)
        rw [show ftl ((lxT s).1.take j) + (p - ftl ((lxT s).1.take j)) = p by omega] at this
        exact this.symm
      · rw [if_neg c]
        have := u2 (p - (ftl ((lxT s).1.take j) + sp.length)) (by omega)
        rw [show ftl ((lxT s).1.take j) + sp.length + (p - (ftl ((lxT s).1.take j) + sp.length)) = p by omega] at this
        exact this.symm
    · have hcov : cov (tks s) s.length (outl (kds s)).2 p = false := by
        unfold cov
        rw [List.any_eq_false]
        intro q hq hd
        have hd := of_decide_eq_true hd
        obtain ⟨h1, h2, h3⟩ := hent q hq
        have e3 : ten (tks s) q.2.1 = ftl ((lxT s).1.take (q.2.1 + 1)) := ten_psn h2
        have h4 := ftl_tk (Z := (lxT s).1) (show q.2.1 + 1 ≤ (lxT s).1.length by omega)
        rw [List.take_length] at h4
        omega
      rw [hcov]
      have e0 : (fl ((ini s).map um) []).length = ftl (lxT s).1 := by
        have : (fl ((ini s).map um) []).length = ftl ((ini s).map um) := rfl
        rw [this, ftl_um, ini_un]
      rw [fl_nl, List.getElem?_append_right (by omega), List.getElem?_replicate, if_pos (by omega)]
      rfl
  · rw [List.getElem?_eq_none (by omega), List.getElem?_eq_none (by omega)]
theorem fil_id {X : List MIt} {B : BN} {num : Int32} : ∀ (T : List ItC), (∀ z ∈ T, z.2.1 ≠ 3) → fil X B num false T = T.map (fun z => (z.1, num, z.2.1, z.2.2, num))
  | [], _ => rfl
  | (sp, k, w) :: T, h => by
    rw [fil_tok (h (sp, k, w) List.mem_cons_self), fil_id T (fun z hz => h z (List.mem_cons_of_mem _ hz))]
    rfl
theorem ums_ini (s : List Int32) : ∀ (n : Nat) (A N' : List MIt), N'.length ≤ n → ini s = A ++ N' → clz A → ums [] N' := by
  have hkd := ini_kdi s
  have hget : ∀ (j : Nat) (z : MIt), (ini s)[j]? = some z → z.2.1 = m01 (csi (outl (kdi (ini s))).2 j) ∧ wm z = m01 (cwi (outl (kdi (ini s))).2 j) := fun j z hz => by
    rw [hkd]
    have hj := (List.getElem?_eq_some_iff.mp hz).1
    rw [ini_len] at hj
    obtain ⟨q, hq⟩ : ∃ q, (lxT s).1[j]? = some q := ⟨_, List.getElem?_eq_getElem hj⟩
    obtain ⟨sp, k, w⟩ := q
    rw [ini_get hq] at hz
    cases hz
    exact ⟨rfl, rfl⟩
  generalize ini s = N at *
  -- not in an expression
  have hout : ∀ (j : Nat) (z : MIt), N[j]? = some z → (∀ i l b, (i, l, b) ∈ (outl (kdi N)).2 → ¬ (i ≤ j ∧ j ≤ l)) → z.2.1 = -(nI 1) ∧ wm z = -(nI 1) := fun j z hz hno => by
    obtain ⟨h1, h2⟩ := hget j z hz
    have e1 : cwi (outl (kdi N)).2 j = false := by
      unfold cwi
      rw [List.any_eq_false]
      intro q hq hd
      obtain ⟨i, l, b⟩ := q
      exact hno i l b hq (of_decide_eq_true hd)
    have e2 : csi (outl (kdi N)).2 j = false := by
      unfold csi
      rw [List.any_eq_false]
      intro q hq hd
      obtain ⟨i, l, b⟩ := q
      have hd := of_decide_eq_true hd
      exact hno i l b hq ⟨by dsimp only at hd; omega, hd.2⟩
    rw [h1, h2, e1, e2]
    exact ⟨rfl, rfl⟩
  intro n
  induction n with
  | zero =>
    intro A N' hn hN hA
    have : N' = [] := List.length_eq_zero_iff.mp (by omega)
    subst this
    exact fun z hz => by simp at hz
  | succ n ih =>
    intro A N' hn hN hA
    have hsp := tdw N'
    have hS7 : ∀ k' ∈ kdi (N'.takeWhile nsm), k' ≠ 7 := fun k' hk' => by
      obtain ⟨y, hy, rfl⟩ := List.mem_map.mp hk'
      have := List.all_takeWhile (p := nsm) (l := N')
      rw [List.all_eq_true] at this
      have h2 := this y hy
      unfold nsm at h2
      intro c
      rw [c] at h2
      exact absurd h2 (by decide)
    generalize N'.takeWhile nsm = S at hsp hS7
    cases hD : N'.dropWhile nsm with
    | nil =>
      rw [hD, List.append_nil] at hsp
      subst hsp
      have key : ∀ (S G : List MIt), (∀ k ∈ kdi S, k ≠ 7) → aln (G ++ S) → ums G S := by
        intro S
        induction S with
        | nil => intro G _ h; rw [List.append_nil] at h; exact h
        | cons y S ihS =>
          intro G h7 h
          show (if mkd y = 7 then okg G ∧ aln [y] ∧ ums [] S else ums (G ++ [y]) S)
          rw [if_neg (h7 (mkd y) List.mem_cons_self)]
          refine ihS (G ++ [y]) (fun k hk => h7 k (List.mem_cons_of_mem _ hk)) ?_
          rw [List.append_assoc]
          exact h
      refine key S [] hS7 (fun z hz => ?_)
      rw [List.nil_append] at hz
      obtain ⟨j, hj, ej⟩ := List.getElem_of_mem hz
      refine hout (A.length + j) z (by rw [hN, List.getElem?_append_right (by omega), Nat.add_sub_cancel_left, List.getElem?_eq_getElem hj, ej]) (fun i l b he c => ?_)
      obtain ⟨f0, e0, hsp0, s1, s2, s3, s4, -⟩ := ent_spn he
      obtain ⟨-, -, -, a4⟩ := (out_all (kdi N) (kdi N).length 0 0 (by omega) (Nat.le_refl _)).2.2.2.2.1 f0 e0 true hsp0
      have b2 := (a4 rfl).2.1
      rw [hN, kdi_app, List.getElem?_append_right (by rw [kdi_len]; omega)] at b2
      exact hS7 7 (List.mem_of_getElem? b2) rfl
    | cons c C =>
      rw [hD] at hsp
      have hc7 : mkd c = 7 := by
        have := List.head_dropWhile_not nsm (l := N') (by rw [hD]; simp)
        simp only [hD, List.head_cons] at this
        unfold nsm at this
        simpa using this
      subst hsp
      have hlen : (S ++ c :: C).length = S.length + 1 + C.length := by rw [List.length_append, List.length_cons]; omega
      rw [ums_run hc7 S [] hS7, List.nil_append]
      have e : A ++ (S ++ c :: C) = ((A ++ S) ++ [c]) ++ C := by simp
      refine ⟨?_, fun z hz => ?_, ih ((A ++ S) ++ [c]) C (by omega) (by rw [hN, e]) (clz.snoc hc7)⟩
      · unfold okg
        by_cases hg : gl (kdi S) = true
        · rw [if_pos hg]
          obtain ⟨q, mx, hrn, hq, hmx⟩ := gl_rn hg
          cases S with
          | nil => trivial
          | cons y S =>
            refine (mex_iff (r := [7]) rfl hrn []).1.mpr ⟨?_, ?_⟩
            · -- the first space is outside
              have hy : N[A.length]? = some y := by rw [hN, List.getElem?_append_right (Nat.le_refl _), Nat.sub_self]; rfl
              rw [(hget _ _ hy).1]
              have e1 : csi (outl (kdi N)).2 A.length = false := by
                unfold csi
                rw [List.any_eq_false]
                intro q hq' hd
                obtain ⟨i, l, b⟩ := q
                have hd := of_decide_eq_true hd
                dsimp only at hd
                obtain ⟨f0, e0, hsp0, s1, s2, s3, s4, -⟩ := ent_spn hq'
                have hdec := spn_dec (G := y :: S) (C := C) hA hc7 hS7
                rw [← hN] at hdec
                have hpw := (out_all (kdi N) (kdi N).length 0 0 (by omega) (Nat.le_refl _)).2.2.2.2.2
                obtain ⟨x1, hx1, ex1⟩ := List.getElem_of_mem hsp0
                obtain ⟨x2, hx2, ex2⟩ := List.getElem_of_mem hdec
                have hp := List.pairwise_iff_getElem.mp hpw
                have ex1' : (spn (kdi N) (kdi N).length 0 0)[x1] = (f0, e0, true) := ex1
                have ex2' : (spn (kdi N) (kdi N).length 0 0)[x2] = (A.length, A.length + (y :: S).length, gl (kdi (y :: S))) := ex2
                by_cases cx : x1 = x2
                · subst cx
                  rw [ex1'] at ex2'
                  injection ex2' with w1 _
                  omega
                · rcases Nat.lt_or_gt_of_ne cx with w | w
                  · have := hp x1 x2 hx1 hx2 w
                    rw [ex1', ex2'] at this
                    dsimp only at this
                    omega
                  · have := hp x2 x1 hx2 hx1 w
                    rw [ex1', ex2'] at this
                    dsimp only at this
                    omega
              rw [e1]
              rfl
            · -- all the others are inside
              have hle : ∃ b, (A.length, A.length + S.length, b) ∈ (outl (kdi N)).2 := by
                have hdec := spn_dec (G := y :: S) (C := C) hA hc7 hS7
                rw [← hN, hg] at hdec
                have hk : mkd y = 1 ∨ mkd y = 2 := by
                  rcases rn_first hrn with ⟨w, -⟩ | ⟨w, -⟩
                  · exact Or.inl w
                  · exact Or.inr w
                have hbg : bgn (kdi N) A.length = true := by
                  have hkj : (kdi N)[A.length]? = some (mkd y) := by rw [hN, kdi_app, List.getElem?_append_right (by rw [kdi_len]; omega), kdi_len, Nat.sub_self]; rfl
                  unfold bgn
                  rw [gdi_of hdec (Nat.le_refl _) (by omega), hkj]
                  rcases hk with w | w <;> rw [w] <;> rfl
                obtain ⟨l, b, he⟩ := bgn_ent hbg
                obtain ⟨_, _, _, _, _, _, _, _, dp, w1, _⟩ := ent_spn he
                have hd := kdi_dec (A := A) (G := y :: S) (C := C) hc7
                rw [← hN] at hd
                rw [hd, bu_e (fun r' cc => by injection cc with cc _; cases cc) hrn hq, kdi_len, List.length_cons] at w1
                have h9 := congrArg (fun o => o.map Prod.fst) w1
                simp only [Option.map_some, Option.some.injEq] at h9
                obtain ⟨_, _, _, _, v1, _⟩ := ent_spn he
                have : l = A.length + S.length := by omega
                subst this
                exact ⟨b, he⟩
              obtain ⟨b, he⟩ := hle
              have hall : ∀ (j : Nat) (z : MIt), (y :: S)[j]? = some z → wm z = nI 0 ∧ (0 < j → z.2.1 = nI 0) := fun j z hz => by
                have hj := (List.getElem?_eq_some_iff.mp hz).1
                rw [List.length_cons] at hj
                have hzN : N[A.length + j]? = some z := by
                  rw [hN, List.getElem?_append_right (by omega), Nat.add_sub_cancel_left, List.getElem?_append_left (by rw [List.length_cons]; omega)]
                  exact hz
                obtain ⟨h1, h2⟩ := hget _ _ hzN
                refine ⟨?_, fun h0 => ?_⟩
                · rw [h2]
                  have : cwi (outl (kdi N)).2 (A.length + j) = true := by
                    unfold cwi
                    rw [List.any_eq_true]
                    exact ⟨_, he, decide_eq_true ⟨by dsimp only; omega, by dsimp only; omega⟩⟩
                  rw [this]
                  rfl
                · rw [h1]
                  have : csi (outl (kdi N)).2 (A.length + j) = true := by
                    unfold csi
                    rw [List.any_eq_true]
                    exact ⟨_, he, decide_eq_true ⟨by dsimp only; omega, by dsimp only; omega⟩⟩
                  rw [this]
                  rfl
              -- as a template without holes
              have h3 : ∀ z ∈ (y :: S).map un, z.2.1 ≠ 3 := fun z hz => by
                obtain ⟨v, hv, rfl⟩ := List.mem_map.mp hz
                have := rn_kin _ _ _ _ _ hrn (mkd v) (List.mem_map.mpr ⟨v, hv, rfl⟩)
                show mkd v ≠ 3
                omega
              have hk' : ((y :: S).map un).map (fun z => z.2.1) = kdi (y :: S) := by rw [List.map_map]; rfl
              have hrt : rn true 0 0 0 (((y :: S).map un).map (fun z => z.2.1)) = some (q, 0, mx) := by
                rw [hk', rn_ft _ _ _ _ (fun k hk => by
                  have := rn_kin _ _ _ _ _ hrn k hk
                  omega)]
                exact hrn
              have hmx := fil_mex (X := []) (B := B0) (num := nI 0) (r := [7]) rfl (fun d f b e => by cases e) (by decide) hrt hq (fun sp w hm => absurd rfl (h3 _ hm))
              obtain ⟨ysp, ym, yk, yw, ym'⟩ := y
              have ey : fil [] B0 (nI 0) true (((ysp, ym, yk, yw, ym') :: S).map un) = ([], nI 0, yk, yw, nI 0) :: S := by
                rw [List.map_cons]
                show fil [] B0 (nI 0) true ((ysp, yk, yw) :: S.map un) = _
                rw [fil_tok (h3 (ysp, yk, yw) (by rw [List.map_cons]; exact List.mem_cons_self)), fil_id _ (fun z hz => h3 z (by rw [List.map_cons]; exact List.mem_cons_of_mem _ hz))]
                show ([], nI 0, yk, yw, nI 0) :: _ = _
                congr 1
                show (S.map un).map (fun z => (z.1, nI 0, z.2.1, z.2.2, nI 0)) = S
                rw [List.map_map]
                apply List.ext_getElem?
                intro j
                rw [List.getElem?_map]
                cases hsj : S[j]? with
                | none => rfl
                | some v =>
                  obtain ⟨g1, g2⟩ := hall (j + 1) v (by rw [List.getElem?_cons_succ]; exact hsj)
                  have g2 := g2 (by omega)
                  obtain ⟨vs, vm, vk, vw, vm'⟩ := v
                  have g1 : vm' = nI 0 := g1
                  have g2 : vm = nI 0 := g2
                  subst g1; subst g2
                  rfl
              rw [ey] at hmx
              have hy0 : ym' = nI 0 := (hall 0 _ rfl).1
              subst hy0
              exact hmx
        · rw [if_neg hg]
          intro z hz
          obtain ⟨j, hj, ej⟩ := List.getElem_of_mem hz
          have hzN : N[A.length + j]? = some z := by
            rw [hN, List.getElem?_append_right (by omega), Nat.add_sub_cancel_left, List.getElem?_append_left (by omega), List.getElem?_eq_getElem hj, ej]
          refine hout _ z hzN (fun i l b he cc => ?_)
          obtain ⟨f0, e0, hsp0, s1, s2, s3, s4, -⟩ := ent_spn he
          have g1 := gdi_of hsp0 (show f0 ≤ A.length + j by omega) (by omega)
          have g2 := gdi_dec (G := S) (c := c) (C := C) hA hc7 hS7 (show A.length ≤ A.length + j by omega) (by omega)
          rw [← hN, g1] at g2
          exact hg g2.symm
      · have hzc : z = c := List.mem_singleton.mp hz
        subst hzc
        have hzN : N[A.length + S.length]? = some z := by
          rw [hN, List.getElem?_append_right (by omega), Nat.add_sub_cancel_left, List.getElem?_append_right (Nat.le_refl _), Nat.sub_self]
          rfl
        refine hout _ z hzN (fun i l b he cc => ?_)
        obtain ⟨f0, e0, hsp0, s1, s2, s3, s4, -⟩ := ent_spn he
        obtain ⟨-, -, -, a4⟩ := (out_all (kdi N) (kdi N).length 0 0 (by omega) (Nat.le_refl _)).2.2.2.2.1 f0 e0 true hsp0
        obtain ⟨b1, b2, dp, b3, b4⟩ := a4 rfl
        obtain ⟨q', -, -, hrX⟩ := au_e b4 (q := 0) (a := 0) (mx := 0) (by omega) (by omega)
        have hk7 : (kdi N)[A.length + S.length]? = some 7 := by unfold kdi; rw [List.getElem?_map, hzN]; show some (mkd z) = _; rw [hc7]
        have := rn_kin _ _ _ _ _ hrX 7 (by
          rw [List.mem_iff_getElem?]
          refine ⟨A.length + S.length - f0, ?_⟩
          rw [List.getElem?_take_of_lt (by omega), List.getElem?_drop, show f0 + (A.length + S.length - f0) = A.length + S.length by omega]
          exact hk7)
        omega
