def flOk (q : Nat × Nat × Nat × Nat × Nat × Nat) : Bool := match q with
  | (o, ix, ci, k, ns, wi) => match cls_[ci]? with
    | some (C, T, N) => Nat.blt k N && (match ns with
      | 0 => decide (lw_tbl[wi]? = some (.fieldLink (cn o) ix C (T k).2.1 (T k).2.2.1))
      | 1 => decide (lw_tbl[wi]? = some (.fieldLinkNest (cn o) ix C (T k).2.1 (T k).2.2.1 hostN))
      | _ => false)
    | none => false
set_option maxRecDepth 100000 in
theorem fl_all : flT.all flOk = true := by decide +kernel
theorem ck_fl {j o ix ci k ns wi : Nat} (h : flT[j]? = some (o, ix, ci, k, ns, wi)) : ∃ C T N, cls_[ci]? = some (C, T, N) ∧ k < N ∧ ((ns = 0 ∧ Jvm.Cond.fieldLink (cn o) ix C (T k).2.1 (T k).2.2.1 ∈ wsA) ∨ (ns = 1 ∧ Jvm.Cond.fieldLinkNest (cn o) ix C (T k).2.1 (T k).2.2.1 hostN ∈ wsN)) := by
  have h1 := List.all_eq_true.mp fl_all _ (List.mem_of_getElem? h)
  unfold flOk at h1
  dsimp only at h1
  cases hc : cls_[ci]? with
  | none => rw [hc] at h1; cases h1
  | some q =>
    obtain ⟨C, T, N⟩ := q
    rw [hc] at h1
    dsimp only at h1
    rw [Bool.and_eq_true] at h1
    refine ⟨C, T, N, rfl, Nat.le_of_ble_eq_true h1.1, ?_⟩
    have h2 := h1.2
    split at h2
    · exact Or.inl ⟨rfl, inA (of_decide_eq_true h2) rfl⟩
    · exact Or.inr ⟨rfl, inN (of_decide_eq_true h2) rfl⟩
    · cases h2
def mlOk (q : Nat × Nat × Nat × Nat × Nat) : Bool := match q with
  | (o, ix, c, ns, wi) => match ns with
      | 0 => decide (lw_tbl[wi]? = some (.methodLink (cn o) ix (mN c)))
      | 1 => decide (lw_tbl[wi]? = some (.methodLinkNest (cn o) ix (mN c) hostN))
      | _ => false
set_option maxRecDepth 100000 in
theorem ml_all : mlT.all mlOk = true := by decide +kernel
theorem ck_ml {j o ix c ns wi : Nat} (h : mlT[j]? = some (o, ix, c, ns, wi)) : (ns = 0 ∧ Jvm.Cond.methodLink (cn o) ix (mN c) ∈ wsA) ∨ (ns = 1 ∧ Jvm.Cond.methodLinkNest (cn o) ix (mN c) hostN ∈ wsN) := by
  have h1 := List.all_eq_true.mp ml_all _ (List.mem_of_getElem? h)
  unfold mlOk at h1
  dsimp only at h1
  split at h1
  · exact Or.inl ⟨rfl, inA (of_decide_eq_true h1) rfl⟩
  · exact Or.inr ⟨rfl, inN (of_decide_eq_true h1) rfl⟩
  · cases h1
def clOk (q : Nat × Nat × Nat × Nat) : Bool := match q with
  | (o, ix, ci, wi) => match cls_[ci]? with
    | some (C, _, _) => decide (lw_tbl[wi]? = some (.classLink (cn o) ix C))
    | none => false
set_option maxRecDepth 100000 in
theorem cl_all : clT.all clOk = true := by decide +kernel
theorem ck_cl {j o ix ci wi : Nat} (h : clT[j]? = some (o, ix, ci, wi)) : ∃ C T N, cls_[ci]? = some (C, T, N) ∧ Jvm.Cond.classLink (cn o) ix C ∈ wsA := by
  have h1 := List.all_eq_true.mp cl_all _ (List.mem_of_getElem? h)
  unfold clOk at h1
  dsimp only at h1
  cases hc : cls_[ci]? with
  | none => rw [hc] at h1; cases h1
  | some q =>
    obtain ⟨C, T, N⟩ := q
    rw [hc] at h1
    exact ⟨C, T, N, rfl, inA (of_decide_eq_true h1) rfl⟩
def jlOk (q : Nat × Nat × Nat × Nat) : Bool := match q with
  | (o, ix, w, wi) => decide (lw_tbl[wi]? = some (.methodLink (cn o) ix (jN w)))
set_option maxRecDepth 100000 in
theorem jl_all : jlT.all jlOk = true := by decide +kernel
theorem ck_jl {j o ix w wi : Nat} (h : jlT[j]? = some (o, ix, w, wi)) : Jvm.Cond.methodLink (cn o) ix (jN w) ∈ wsA := by
  have h1 := List.all_eq_true.mp jl_all _ (List.mem_of_getElem? h)
  exact inA (of_decide_eq_true h1) rfl
def csOk (ci : Nat) : Bool := match cls_[ci]?, lyT[ci]?, clW[ci]? with
  | some (C, T, N), some ls, some (w1, w2) => ((List.range N).all fun k => (match ls[k]? with
      | some i => decide (lw_tbl[i]? = some (u_lay C T k))
      | none => false) && decide (parseFieldDescriptor (T k).2.2.1 = some (tyF ci k)) && decide ((T k).1 = C) && Nat.ble (tk ci k) 2) &&
      ((List.range N).all fun a => (List.range N).all fun b => Nat.beq a b || decide ((T a).2.1 ≠ (T b).2.1)) &&
      decide (lw_tbl[w1]? = some (.instantiable C N)) && decide (lw_tbl[w2]? = some (.initialized C)) && decide (cn ci = C)
  | _, _, _ => false
set_option maxRecDepth 100000 in
theorem cs_all : (List.range cls_.length).all csOk = true := by decide +kernel
theorem u_lay_good (C : String) (T : u_T) (k : Nat) : goodWord (u_lay C T k) = true := by
  unfold u_lay
  split <;> rfl
theorem cs_e {ci : Nat} {C : String} {T : u_T} {N : Nat} (h : cls_[ci]? = some (C, T, N)) : ∃ ls w1 w2, lyT[ci]? = some ls ∧ clW[ci]? = some (w1, w2) ∧ (∀ k, k < N → ((∃ i, ls[k]? = some i ∧ lw_tbl[i]? = some (u_lay C T k)) ∧ parseFieldDescriptor (T k).2.2.1 = some (tyF ci k) ∧ (T k).1 = C ∧ tk ci k ≤ 2)) ∧ (∀ a, a < N → ∀ b, b < N → a ≠ b → (T a).2.1 ≠ (T b).2.1) ∧ lw_tbl[w1]? = some (.instantiable C N) ∧ lw_tbl[w2]? = some (.initialized C) ∧ cn ci = C := by
  have h1 := List.all_eq_true.mp cs_all ci (List.mem_range.mpr (List.getElem?_eq_some_iff.mp h).1)
  unfold csOk at h1
  rw [h] at h1
  cases hl : lyT[ci]? with
  | none => rw [hl] at h1; cases h1
  | some ls =>
    cases hw : clW[ci]? with
    | none => rw [hl, hw] at h1; cases h1
    | some q =>
      obtain ⟨w1, w2⟩ := q
      rw [hl, hw] at h1
      dsimp only at h1
      simp only [Bool.and_eq_true, decide_eq_true_eq] at h1
      obtain ⟨⟨⟨⟨g1, g2⟩, g3⟩, g4⟩, g5⟩ := h1
      refine ⟨ls, w1, w2, rfl, rfl, fun k hk => ?_, fun a ha b hb hab => ?_, g3, g4, g5⟩
      · have q1 := List.all_eq_true.mp g1 k (List.mem_range.mpr hk)
        simp only [Bool.and_eq_true, decide_eq_true_eq] at q1
        obtain ⟨⟨⟨r1, r2⟩, r3⟩, r4⟩ := q1
        refine ⟨?_, r2, r3, Nat.le_of_ble_eq_true r4⟩
        cases hi : ls[k]? with
        | none => rw [hi] at r1; cases r1
        | some i => rw [hi] at r1; exact ⟨i, rfl, of_decide_eq_true r1⟩
      · have q1 := List.all_eq_true.mp (List.all_eq_true.mp g2 a (List.mem_range.mpr ha)) b (List.mem_range.mpr hb)
        rw [Bool.or_eq_true] at q1
        rcases q1 with q1 | q1
        · exact absurd (Nat.eq_of_beq_eq_true q1) hab
        · exact of_decide_eq_true q1
theorem ck_cls {ci : Nat} {C : String} {T : u_T} {N : Nat} (h : cls_[ci]? = some (C, T, N)) : (∀ w ∈ u_ws C T N, w ∈ wsA) ∧ (∀ k, k < N → parseFieldDescriptor (T k).2.2.1 = some (tyF ci k)) ∧ (∀ a, a < N → ∀ b, b < N → a ≠ b → (T a).2.1 ≠ (T b).2.1) ∧ (∀ k, k < N → (T k).1 = C) ∧ Jvm.Cond.instantiable C N ∈ wsA ∧ Jvm.Cond.initialized C ∈ wsA ∧ (∀ k, k < N → tk ci k ≤ 2) := by
  obtain ⟨ls, w1, w2, -, -, g1, g2, g3, g4, -⟩ := cs_e h
  refine ⟨fun w hw => ?_, fun k hk => (g1 k hk).2.1, g2, fun k hk => (g1 k hk).2.2.1, inA g3 rfl, inA g4 rfl, fun k hk => (g1 k hk).2.2.2⟩
  obtain ⟨k, hk, rfl⟩ := List.mem_map.mp hw
  obtain ⟨⟨i, -, hi⟩, -⟩ := g1 k (List.mem_range.mp hk)
  exact inA hi (u_lay_good C T k)
theorem ck_cn {ci : Nat} {C : String} {T : u_T} {N : Nat} (h : cls_[ci]? = some (C, T, N)) : cn ci = C := by
  obtain ⟨ls, w1, w2, -, -, -, -, -, -, g⟩ := cs_e h
  exact g
theorem ck_rule : ∃ C T N, cls_[ciRule]? = some (C, T, N) ∧ C = "RecipeRewriter$Rule" := ⟨_, _, _, rfl, rfl⟩
theorem kd_all : kdT.all (fun q => Nat.ble q.2 10000) = true := by decide +kernel
theorem kd_le (n : Nat) : (kd n).2 ≤ 10000 := by
  unfold kd
  cases h : kdT[n]? with
  | none => exact Nat.zero_le _
  | some q => exact Nat.le_of_ble_eq_true (List.all_eq_true.mp kd_all q (List.mem_of_getElem? h))
def ywOk (y : Nat) : Bool := decide (cn (mO y) = (mN y).cls) && (!Nat.beq (mK y) 1 || decide ((mN y).name = "<init>"))
set_option maxRecDepth 100000 in
theorem yw_all : (List.range nM).all ywOk = true := by decide +kernel
theorem ck_own {y : Nat} (h : y < nM) : cn (mO y) = (mN y).cls := by
  have h1 := List.all_eq_true.mp yw_all y (List.mem_range.mpr h)
  unfold ywOk at h1
  rw [Bool.and_eq_true] at h1
  exact of_decide_eq_true h1.1
theorem ck_ini {y : Nat} (h : y < nM) (hk : mK y = 1) : (mN y).name = "<init>" := by
  have h1 := List.all_eq_true.mp yw_all y (List.mem_range.mpr h)
  unfold ywOk at h1
  rw [Bool.and_eq_true, hk] at h1
  exact of_decide_eq_true h1.2
def mOk (c : Nat) : Bool := match mW[c]? with
  | some (w0, w1, w2, w3) => plainName (mN c).cls && decide (lw_tbl[w0]? = some (.code (mN c) (mB c) (mX c) (mR c))) && decide (lw_tbl[w1]? = some (.initialized (mN c).cls)) && decide ((mN c).cls ≠ "java/lang/invoke/MethodHandle" ∧ (mN c).cls ≠ "java/lang/invoke/VarHandle") && decide ((parseMethodDescriptor (mN c).desc).map (fun d => d.parameters.length) = some (mA c)) && Nat.ble (mX c) 40 &&
      (match mK c with
      | 0 => decide (lw_tbl[w2]? = some (.instanceMethod (mN c))) && decide (lw_tbl[w3]? = some (.selects (mN c).cls (mN c) (mN c))) && Nat.blt (mO c) cls_.length
      | 1 => decide (lw_tbl[w2]? = some (.instanceMethod (mN c))) && decide ((mN c).name = "<init>") && decide (mR c = none) && Nat.blt (mO c) cls_.length
      | 2 => decide (lw_tbl[w2]? = some (.static (mN c)))
      | _ => false)
  | none => false
set_option maxRecDepth 100000 in
theorem m_all_0 : (List.range 20).all (fun i => mOk (0 + i)) = true := by decide +kernel
set_option maxRecDepth 100000 in
theorem m_all_20 : (List.range 20).all (fun i => mOk (20 + i)) = true := by decide +kernel
set_option maxRecDepth 100000 in
theorem m_all_40 : (List.range 20).all (fun i => mOk (40 + i)) = true := by decide +kernel
set_option maxRecDepth 100000 in
theorem m_all_60 : (List.range 20).all (fun i => mOk (60 + i)) = true := by decide +kernel
set_option maxRecDepth 100000 in
theorem m_all_80 : (List.range 20).all (fun i => mOk (80 + i)) = true := by decide +kernel
set_option maxRecDepth 100000 in
theorem m_all_100 : (List.range 20).all (fun i => mOk (100 + i)) = true := by decide +kernel
set_option maxRecDepth 100000 in
theorem m_all_120 : (List.range 2).all (fun i => mOk (120 + i)) = true := by decide +kernel
theorem m_all {c : Nat} (h : c < nC) : mOk c = true := by
  have h : c < 122 := h
  by_cases h0 : c < 20
  · have := List.all_eq_true.mp m_all_0 (c - 0) (List.mem_range.mpr (by omega))
    rw [show 0 + (c - 0) = c by omega] at this
    exact this
  by_cases h20 : c < 40
  · have := List.all_eq_true.mp m_all_20 (c - 20) (List.mem_range.mpr (by omega))
    rw [show 20 + (c - 20) = c by omega] at this
    exact this
  by_cases h40 : c < 60
  · have := List.all_eq_true.mp m_all_40 (c - 40) (List.mem_range.mpr (by omega))
    rw [show 40 + (c - 40) = c by omega] at this
    exact this
  by_cases h60 : c < 80
  · have := List.all_eq_true.mp m_all_60 (c - 60) (List.mem_range.mpr (by omega))
    rw [show 60 + (c - 60) = c by omega] at this
    exact this
  by_cases h80 : c < 100
  · have := List.all_eq_true.mp m_all_80 (c - 80) (List.mem_range.mpr (by omega))
    rw [show 80 + (c - 80) = c by omega] at this
    exact this
  by_cases h100 : c < 120
  · have := List.all_eq_true.mp m_all_100 (c - 100) (List.mem_range.mpr (by omega))
    rw [show 100 + (c - 100) = c by omega] at this
    exact this
  have := List.all_eq_true.mp m_all_120 (c - 120) (List.mem_range.mpr (by omega))
  rw [show 120 + (c - 120) = c by omega] at this
  exact this
theorem ck_m {c : Nat} (h : c < nC) : plainName (mN c).cls = true ∧ Jvm.Cond.code (mN c) (mB c) (mX c) (mR c) ∈ wsA ∧ Jvm.Cond.initialized (mN c).cls ∈ wsA ∧ ((mN c).cls ≠ "java/lang/invoke/MethodHandle" ∧ (mN c).cls ≠ "java/lang/invoke/VarHandle") ∧ (parseMethodDescriptor (mN c).desc).map (fun d => d.parameters.length) = some (mA c) ∧ mX c ≤ 40 ∧
    ((mK c = 0 ∧ Jvm.Cond.instanceMethod (mN c) ∈ wsA ∧ Jvm.Cond.selects (mN c).cls (mN c) (mN c) ∈ wsA) ∨ (mK c = 1 ∧ Jvm.Cond.instanceMethod (mN c) ∈ wsA ∧ (mN c).name = "<init>" ∧ mR c = none) ∨ (mK c = 2 ∧ Jvm.Cond.static (mN c) ∈ wsA)) := by
  have h1 := m_all h
  unfold mOk at h1
  cases hw : mW[c]? with
  | none => rw [hw] at h1; cases h1
  | some q =>
    obtain ⟨w0, w1, w2, w3⟩ := q
    rw [hw] at h1
    dsimp only at h1
    simp only [Bool.and_eq_true, decide_eq_true_eq] at h1
    obtain ⟨⟨⟨⟨⟨⟨g1, g2⟩, g3⟩, g4⟩, g5⟩, g6⟩, g7⟩ := h1
    refine ⟨g1, inA g2 rfl, inA g3 rfl, g4, g5, Nat.le_of_ble_eq_true g6, ?_⟩
    split at g7
    · rename_i hk
      simp only [Bool.and_eq_true, decide_eq_true_eq] at g7
      exact Or.inl ⟨hk, inA g7.1.1 rfl, inA g7.1.2 rfl⟩
    · rename_i hk
      simp only [Bool.and_eq_true, decide_eq_true_eq] at g7
      exact Or.inr (Or.inl ⟨hk, inA g7.1.1.1 rfl, g7.1.1.2, g7.1.2⟩)
    · rename_i hk
      exact Or.inr (Or.inr ⟨hk, inA (of_decide_eq_true g7) rfl⟩)
    · cases g7
theorem ck_cls_of {c : Nat} (h : c < nC) (hk : mK c ≠ 2) : ∃ C T N, cls_[mO c]? = some (C, T, N) ∧ C = (mN c).cls := by
  have h1 := m_all h
  unfold mOk at h1
  have hl : mO c < cls_.length := by
    cases hw : mW[c]? with
    | none => rw [hw] at h1; cases h1
    | some q =>
      obtain ⟨w0, w1, w2, w3⟩ := q
      rw [hw] at h1
      dsimp only at h1
      rw [Bool.and_eq_true] at h1
      have g7 := h1.2
      split at g7
      · simp only [Bool.and_eq_true] at g7
        exact Nat.le_of_ble_eq_true g7.2
      · simp only [Bool.and_eq_true] at g7
        exact Nat.le_of_ble_eq_true g7.2
      · rename_i hk2
        exact absurd hk2 hk
      · cases g7
  cases hc : cls_[mO c]? with
  | none => exact absurd hl (Nat.not_lt.mpr (List.getElem?_eq_none_iff.mp hc))
  | some q =>
    obtain ⟨C, T, N⟩ := q
    refine ⟨C, T, N, rfl, ?_⟩
    rw [← ck_cn hc, ck_own (Nat.lt_of_lt_of_le h (by decide))]
set_option maxRecDepth 100000 in
theorem ck_oi : Jvm.Cond.instanceMethod objectInit ∈ wsA := inA (i := 56) rfl rfl
set_option maxRecDepth 100000 in
theorem ck_oc : Jvm.Cond.code objectInit ⟨#[0xb1]⟩ 1 none ∈ wsA := inA (i := 57) rfl rfl
set_option maxRecDepth 100000 in
theorem ck_xs : Jvm.Cond.static Lib.Math.max.name ∈ wsA := inA (i := 279) rfl rfl
set_option maxRecDepth 100000 in
theorem ck_mi : Jvm.Cond.initialized "java/lang/Math" ∈ wsA := inA (i := 49) rfl rfl
set_option maxRecDepth 100000 in
theorem ck_xc : Jvm.Cond.code Lib.Math.max.name Lib.Math.max.code 2 (some .int) ∈ wsA := inA (i := 280) rfl rfl
set_option maxRecDepth 100000 in
theorem ck_ns : Jvm.Cond.static Lib.Math.min.name ∈ wsA := inA (i := 276) rfl rfl
set_option maxRecDepth 100000 in
theorem ck_nc : Jvm.Cond.code Lib.Math.min.name Lib.Math.min.code 2 (some .int) ∈ wsA := inA (i := 277) rfl rfl
set_option maxRecDepth 100000 in
theorem ck_an : Jvm.Cond.native arraycopyName ∈ wsA := inA (i := 262) rfl rfl
set_option maxRecDepth 100000 in
theorem ck_as : Jvm.Cond.static arraycopyName ∈ wsA := inA (i := 261) rfl rfl
set_option maxRecDepth 100000 in
theorem ck_ai : Jvm.Cond.initialized "java/lang/System" ∈ wsA := inA (i := 48) rfl rfl
set_option maxRecDepth 100000 in
theorem ck_int : Jvm.Cond.arrayClass (newarray.typeOf .int) ∈ wsA := inA (i := 107) rfl rfl
set_option maxRecDepth 100000 in
theorem ck_boo : Jvm.Cond.arrayClass (newarray.typeOf .boolean) ∈ wsA := inA (i := 631) rfl rfl
