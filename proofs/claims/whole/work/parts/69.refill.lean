/-! The program with a rewritten expression can be read token by token. -/
theorem kds_LX {M : List MIt} {tl : List Int32} (h : LX (M.map un) tl) : kds (fl (M.map un) tl) = kdi M := by
  unfold kds
  rw [tks_LX h, kdi_psn]
theorem spn_st (ks : List Nat) : ∀ (n f t : Nat), ∀ f' e' g, (f', e', g) ∈ spn ks n f t → f' = f ∨ (0 < f' ∧ ks[f' - 1]? = some 7)
  | 0, f, t, f', e', g, h => by
    unfold spn at h
    split at h
    · have := List.mem_singleton.mp h
      injection this with a _
      exact Or.inl a
    · simp at h
  | n + 1, f, t, f', e', g, h => by
    rw [spn_s] at h
    split at h
    · rename_i h7
      rcases List.mem_cons.mp h with h | h
      · injection h with a _
        exact Or.inl a
      · rcases spn_st ks n (t + 1) (t + 1) f' e' g h with a | a
        · subst a
          exact Or.inr ⟨by omega, by rw [Nat.add_sub_cancel]; exact h7⟩
        · exact Or.inr a
    · exact spn_st ks n f (t + 1) f' e' g h
theorem rn_ft : ∀ (L : List Nat) (q n mx : Nat), no3 L → rn true q n mx L = rn false q n mx L
  | [], _, _, _, _ => rfl
  | k :: L, q, n, mx, h => by
    have hk : k ≠ 3 := h k List.mem_cons_self
    have e : ast true q n mx k = ast false q n mx k := by
      unfold ast
      simp only [hk, false_and]
    rw [rn_c, rn_c, e]
    cases ast false q n mx k with
    | none => rfl
    | some z =>
      obtain ⟨q', n', mx'⟩ := z
      exact rn_ft L q' n' mx' (fun x hx => h x (List.mem_cons_of_mem _ hx))
theorem fil_oki {M : List MIt} {B : BN} {num : Int32} (hM : ∀ x ∈ M.map un, oki x) : ∀ (T : List ItC) (fst : Bool), (∀ x ∈ T, oki x) → BK B M.length T → ∀ x ∈ (fil M B num fst T).map un, oki x
  | [], fst, _, _, x, hx => by simp [fil] at hx
  | (sp, k, w) :: T, fst, hT, hB, x, hx => by
    have hB' : BK B M.length T := fun sp' w' h => hB sp' w' (List.mem_cons_of_mem _ h)
    have hT' : ∀ x ∈ T, oki x := fun x hx => hT x (List.mem_cons_of_mem _ hx)
    have hz := hT _ List.mem_cons_self
    have hsp : clo false (if fst = true then [] else sp) = true := by
      cases fst with
      | true => rfl
      | false => exact hz.1
    by_cases hk : k = 3
    · subst hk
      obtain ⟨f, b, hBv, hfb, hb⟩ := hB sp w List.mem_cons_self
      obtain ⟨z, R, hzR⟩ := tkd hfb hb
      rw [fil_hole hBv hzR, List.map_append] at hx
      have hin : ∀ y ∈ z :: R, oki (un y) := fun y hy => hM _ (List.mem_map.mpr ⟨y, by
        rw [← hzR] at hy
        exact List.mem_of_mem_drop (List.mem_of_mem_take hy), rfl⟩)
      rcases List.mem_append.mp hx with hx | hx
      · rw [List.map_cons] at hx
        rcases List.mem_cons.mp hx with rfl | hx
        · have := hin z List.mem_cons_self
          exact ⟨hsp, this.2⟩
        · obtain ⟨y, hy, rfl⟩ := List.mem_map.mp hx
          exact hin y (List.mem_cons_of_mem _ hy)
      · exact fil_oki hM T false hT' hB' x hx
    · rw [fil_tok hk, List.map_append] at hx
      rcases List.mem_append.mp hx with hx | hx
      · have := List.mem_singleton.mp hx
        subst this
        exact ⟨hsp, hz.2⟩
      · exact fil_oki hM T false hT' hB' x hx
theorem fil_no3 {M : List MIt} {B : BN} {num : Int32} (hB3 : ∀ d f b, B d = some (f, b) → no3 (kdi ((M.drop f).take (b - f)))) : ∀ (T : List ItC) (fst : Bool), BK B M.length T → no3 (kdi (fil M B num fst T))
  | [], fst, _, x, hx => by simp [fil, kdi] at hx
  | (sp, k, w) :: T, fst, hB, x, hx => by
    have hB' : BK B M.length T := fun sp' w' h => hB sp' w' (List.mem_cons_of_mem _ h)
    by_cases hk : k = 3
    · subst hk
      obtain ⟨f, b, hBv, hfb, hb⟩ := hB sp w List.mem_cons_self
      obtain ⟨z, R, hzR⟩ := tkd hfb hb
      rw [fil_hole hBv hzR, kdi_app] at hx
      rcases List.mem_append.mp hx with hx | hx
      · have := hB3 _ f b hBv
        rw [hzR] at this
        exact this x hx
      · exact fil_no3 hB3 T false hB' x hx
    · rw [fil_tok hk, kdi_app] at hx
      rcases List.mem_append.mp hx with hx | hx
      · have : x = k := by simpa [kdi, mkd] using hx
        rw [this]
        exact hk
      · exact fil_no3 hB3 T false hB' x hx
theorem BEn.no3 {M : List MIt} {B : BN} (h : BEn (kdi M) B) : ∀ d f b, B d = some (f, b) → no3 (kdi ((M.drop f).take (b - f))) := by
  intro d f b e
  obtain ⟨l, a, he, rfl⟩ := h d f b e
  obtain ⟨f0, e0, -, -, h1, h2, h3, -, dp, h4, -⟩ := ent_spn he
  have := (hf1 _ _ _ _ _ h4).2
  unfold kdi
  rw [List.map_take, List.map_drop]
  rw [show l + 1 - f = l - f + 1 by omega]
  exact this
/-- a filled template is an expression without holes, and can be read -/
theorem fil_good {M : List MIt} {tl : List Int32} {Z : List ItC} {tr : List Int32} {ar t e : Nat} {B : BN} {s' : List Int32} (num : Int32) (hLX : LX (M.map un) tl) (hLZ : LX Z tr) (hG : RG Z ar) (h : mtc (fl Z tr) (psn 0 Z) s' (psn 0 (M.map un)) ar 0 t B0 = some (e, B)) (hBE : BEn (kdi M) B) : BK B M.length (Z.drop (ar + 1)) ∧ ∃ y Y qy my, fil M B num true (Z.drop (ar + 1)) = y :: Y ∧ rn false 0 0 0 (kdi (y :: Y)) = some (qy, 0, my) ∧ 2 ≤ qy ∧ (∀ x ∈ (y :: Y).map un, oki x) ∧ dpt (y :: Y) = my := by
  obtain ⟨hBO, hBK⟩ := mtc_bk hLZ hG.1 h
  obtain ⟨qz, mz, hrn0, hqz⟩ := hG.2
  obtain ⟨qz', mz', hrn, hsim, -, -⟩ := rn_fill (num := num) hBO (Z.drop (ar + 1)) true 0 0 0 0 0 qz 0 mz hBK (Or.inl rfl) (Nat.le_refl _) hrn0
  refine ⟨hBK, ?_⟩
  have hT : Z.drop (ar + 1) ≠ [] := fun c => by
    rw [c] at hrn0
    cases hrn0
    omega
  obtain ⟨y, Y, hy⟩ := fil_ne (fst := true) (num := num) hT hBK
  have h3 := fil_no3 (num := num) hBE.no3 (Z.drop (ar + 1)) true hBK
  have hd : dpt (y :: Y) = mz' := by
    unfold dpt
    rw [← hy, hrn]
  rw [rn_ft _ _ _ _ h3, hy] at hrn
  refine ⟨y, Y, qz', mz', hy, hrn, ?_, ?_, hd⟩
  · unfold simq at hsim
    omega
  · rw [← hy]
    refine fil_oki (fun x hx => ?_) _ _ (fun x hx => ?_) hBK
    · have := (LX_app (M.map un) [] tl).mp (by rw [List.append_nil]; exact hLX)
      exact LXp_oki _ _ this.1 x hx
    · have := (LX_app Z [] tr).mp (by rw [List.append_nil]; exact hLZ)
      exact LXp_oki _ _ this.1 x (List.mem_of_mem_drop hx)
/-- where an entry lies -/
theorem ent_dec {M : List MIt} {i l b : Nat} (he : (i, l, b) ∈ (outl (kdi M)).2) : ∃ A Ga Ge Gc c C z qf mxf dp, M = A ++ ((Ga ++ (Ge ++ Gc)) ++ c :: C) ∧ (∀ B y, A = B ++ [y] → mkd y = 7) ∧ mkd c = 7 ∧ A.length + Ga.length = i ∧ Ge.length = l + 1 - i ∧ i ≤ l ∧ Ge[0]? = some z ∧ M[i]? = some z ∧ rn false 0 0 0 (kdi (Ga ++ (Ge ++ Gc))) = some (qf, 0, mxf) ∧ 2 ≤ qf ∧ mxf ≤ 12 ∧ le_ false (kdi Ge ++ (kdi Gc ++ 7 :: kdi C)) = some ((kdi Ge).length, dp) ∧ M.take i = A ++ Ga ∧ M.drop (l + 1) = Gc ++ c :: C := by
  obtain ⟨f0, e0, hsp, h1, h2, h3, h4, h5, dp, h6, h7⟩ := ent_spn he
  rw [kdi_len] at h4
  obtain ⟨-, -, -, a4⟩ := (out_all (kdi M) (kdi M).length 0 0 (by omega) (Nat.le_refl _)).2.2.2.2.1 f0 e0 true hsp
  obtain ⟨b1, b2, dp0, b3, b4⟩ := a4 rfl
  have hc : M[e0]? = some M[e0] := List.getElem?_eq_getElem h4
  have hz : M[i]? = some M[i] := List.getElem?_eq_getElem (by omega)
  have hc7 : mkd M[e0] = 7 := by
    have : (kdi M)[e0]? = some (mkd M[e0]) := by unfold kdi; rw [List.getElem?_map, hc]; rfl
    rw [b2] at this
    injection this with this
    exact this.symm
  obtain ⟨q', hq', -, hrn⟩ := au_e b4 (q := 0) (a := 0) (mx := 0) (by omega) (by omega)
  have hd1 : M.drop (l + 1) = (M.drop (l + 1)).take (e0 - (l + 1)) ++ M[e0] :: M.drop (e0 + 1) := by
    have := (List.take_append_drop (e0 - (l + 1)) (M.drop (l + 1))).symm
    rw [List.drop_drop, show l + 1 + (e0 - (l + 1)) = e0 by omega, drop_it hc] at this
    exact this
  have hd2 : M.drop i = (M.drop i).take (l + 1 - i) ++ M.drop (l + 1) := by
    have := (List.take_append_drop (l + 1 - i) (M.drop i)).symm
    rw [List.drop_drop, show i + (l + 1 - i) = l + 1 by omega] at this
    exact this
  have hd3 : M.drop f0 = (M.drop f0).take (i - f0) ++ M.drop i := by
    have := (List.take_append_drop (i - f0) (M.drop f0)).symm
    rw [List.drop_drop, show f0 + (i - f0) = i by omega] at this
    exact this
  have hM : M = M.take f0 ++ (((M.drop f0).take (i - f0) ++ ((M.drop i).take (l + 1 - i) ++ (M.drop (l + 1)).take (e0 - (l + 1)))) ++ M[e0] :: M.drop (e0 + 1)) := by
    conv => lhs; rw [← List.take_append_drop f0 M, hd3, hd2, hd1]
    simp only [List.append_assoc]
  have hlen : ((M.drop f0).take (i - f0) ++ ((M.drop i).take (l + 1 - i) ++ (M.drop (l + 1)).take (e0 - (l + 1)))).length = e0 - f0 := by
    simp only [List.length_append, List.length_take, List.length_drop]
    omega
  refine ⟨M.take f0, (M.drop f0).take (i - f0), (M.drop i).take (l + 1 - i), (M.drop (l + 1)).take (e0 - (l + 1)), M[e0], M.drop (e0 + 1), M[i], q', max 0 (0 + dp0), dp, hM, fun B y e => ?_, hc7, ?_, ?_, h2, ?_, hz, ?_, by omega, by omega, ?_, ?_, hd1⟩
  · rcases spn_st (kdi M) _ 0 0 f0 e0 true hsp with c | ⟨c1, c2⟩
    · subst c
      cases B <;> cases e
    · have hl := congrArg List.length e
      rw [List.length_take, List.length_append, List.length_singleton] at hl
      have hy : M[f0 - 1]? = some y := by
        have : (M.take f0)[f0 - 1]? = some y := by
          rw [e, List.getElem?_append_right (by omega), show f0 - 1 - B.length = 0 by omega]
          rfl
        rw [List.getElem?_take_of_lt (by omega)] at this
        exact this
      unfold kdi at c2
      rw [List.getElem?_map, hy] at c2
      injection c2
  · simp only [List.length_take, List.length_drop]
    omega
  · simp only [List.length_take, List.length_drop]
    omega
  · rw [List.getElem?_take_of_lt (by omega), List.getElem?_drop]
    exact hz
  · have : kdi ((M.drop f0).take (i - f0) ++ ((M.drop i).take (l + 1 - i) ++ (M.drop (l + 1)).take (e0 - (l + 1)))) = ((kdi M).drop f0).take (e0 - f0) := by
      have e1 : (M.drop f0).take (e0 - f0) = (M.drop f0).take (i - f0) ++ ((M.drop i).take (l + 1 - i) ++ (M.drop (l + 1)).take (e0 - (l + 1))) := by
        have e2 : M.drop f0 = ((M.drop f0).take (i - f0) ++ ((M.drop i).take (l + 1 - i) ++ (M.drop (l + 1)).take (e0 - (l + 1)))) ++ M[e0] :: M.drop (e0 + 1) := by
          conv => lhs; rw [hd3, hd2, hd1]
          simp only [List.append_assoc]
        conv => lhs; rw [e2, ← hlen]
        rw [List.take_left]
      rw [← e1]
      unfold kdi
      rw [List.map_take, List.map_drop]
    rw [this]
    exact hrn
  · have e1 : (kdi M).drop i = kdi ((M.drop i).take (l + 1 - i)) ++ (kdi ((M.drop (l + 1)).take (e0 - (l + 1))) ++ 7 :: kdi (M.drop (e0 + 1))) := by
      have : (kdi M).drop i = kdi (M.drop i) := by unfold kdi; rw [List.map_drop]
      rw [this]
      conv => lhs; rw [hd2, hd1]
      rw [kdi_app, kdi_app, ← hc7]
      rfl
    rw [← e1, h6, kdi_len]
    congr 2
    simp only [List.length_take, List.length_drop]
    omega
  · conv => lhs; rw [show i = f0 + (i - f0) by omega, List.take_add]
theorem rfx_LX {M : List MIt} {tl : List Int32} {Z : List ItC} {ar R i l b : Nat} {B : BN} (hLX : LX (M.map un) tl) (he : (i, l, b) ∈ (outl (kdi M)).2) {y : MIt} {Y : List MIt} (hY : fil M B (nI (R + 1)) true (Z.drop (ar + 1)) = y :: Y) {qy my : Nat} (hr : rn false 0 0 0 (kdi (y :: Y)) = some (qy, 0, my)) (hqy : 2 ≤ qy) (ho : ∀ x ∈ (y :: Y).map un, oki x) : LX ((rfx M Z ar R i l B).map un) tl := by
  obtain ⟨A, Ga, Ge, Gc, c, C, z, qf, mxf, dp, hM, hA, hc, hl1, hl2, hil, hz0, hz, hrn, hqf, hmx, hle, htk, hdr⟩ := ent_dec he
  rw [kdi_app, kdi_app] at hrn
  obtain ⟨q1, a, m1, -, -, q2, -, -, qf', mxf', hrn', -⟩ := rn_rep hrn hqf hle hr hqy
  have hrx : rfx M Z ar R i l B = A ++ ((Ga ++ ((sps y z.1 z.2.1 :: Y) ++ Gc)) ++ c :: C) := by
    unfold rfx
    rw [hz, hY]
    dsimp only
    rw [htk, hdr]
    simp only [List.append_assoc, List.cons_append]
  rw [hrx]
  have hall := (LX_app (M.map un) [] tl).mp (by rw [List.append_nil]; exact hLX)
  have hoki := LXp_oki _ _ hall.1
  rw [hM] at hLX
  simp only [List.map_append, List.map_cons] at hLX ⊢
  refine LX_rep hLX (fun B' w e => ?_) hc (fun w hw => ?_) ?_ (z := (qf', 0, mxf'))
  · rcases List.eq_nil_or_concat A with q | ⟨A0, y0, q⟩
    · subst q
      cases B' <;> cases e
    · rw [List.concat_eq_append] at q
      subst q
      rw [List.map_append] at e
      have := List.append_inj_right' e rfl
      have := List.singleton_inj.mp this
      rw [← this]
      exact hA A0 y0 rfl
  · have hzin : oki (un z) := hoki _ (List.mem_map.mpr ⟨z, List.mem_of_getElem? hz, rfl⟩)
    have hGin : ∀ x, x ∈ Ga ∨ x ∈ Gc → oki (un x) := fun x hx => hoki _ (List.mem_map.mpr ⟨x, by
      rw [hM]
      simp only [List.mem_append]
      rcases hx with q | q
      · exact Or.inr (Or.inl (Or.inl q))
      · exact Or.inr (Or.inl (Or.inr (Or.inr q))), rfl⟩)
    simp only [List.cons_append, List.mem_append, List.mem_cons] at hw
    rcases hw with q | q | q | q
    · obtain ⟨x, hx, rfl⟩ := List.mem_map.mp q
      exact hGin x (Or.inl hx)
    · subst q
      have h1 := ho (un y) (by rw [List.map_cons]; exact List.mem_cons_self)
      exact ⟨hzin.1, h1.2⟩
    · exact ho w (by rw [List.map_cons]; exact List.mem_cons_of_mem _ q)
    · obtain ⟨x, hx, rfl⟩ := List.mem_map.mp q
      exact hGin x (Or.inr hx)
  · have e : (Ga.map un ++ (un (sps y z.1 z.2.1) :: Y.map un ++ Gc.map un)).map (fun z => z.2.1) = kdi Ga ++ (kdi (y :: Y) ++ kdi Gc) := by
      simp only [List.map_append, List.map_cons, List.map_map, kdi]
      rfl
    rw [e]
    exact hrn'
