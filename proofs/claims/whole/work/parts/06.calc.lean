/-! The calculus: values, locals, memory, world; V: the method y runs well from pc on. -/
abbrev cv : Type := Int32 ⊕ Nat
abbrev mI : Type := Nat → Nat → Int32
abbrev mP : Type := Nat → Nat → Nat
abbrev XE : Type := Launch × va_G × ClassId × ClassId × ClassId × Nat × Nat × Nat × (Nat → Int32)
abbrev xl (E : XE) : Launch := E.1
abbrev xD (E : XE) : va_G := E.2.1
abbrev xI (E : XE) : ClassId := E.2.2.1
abbrev xB (E : XE) : ClassId := E.2.2.2.1
abbrev xR (E : XE) : ClassId := E.2.2.2.2.1
abbrev xh (E : XE) : Nat := E.2.2.2.2.2.1
abbrev xb (E : XE) : Nat := E.2.2.2.2.2.2.1
abbrev xL (E : XE) : Nat := E.2.2.2.2.2.2.2.1
abbrev xx (E : XE) : Nat → Int32 := E.2.2.2.2.2.2.2.2
def xA (E : XE) : Nat → Prop := fun q => xh E ≤ q
def xad (E : XE) (n : Nat) : Nat := if n = 1 then xb E else xh E + (n - 2)
def xv (E : XE) (v : cv) : Value := match v with
  | .inl x => .int x
  | .inr n => .ref (xad E n)
theorem xv_cat (E : XE) (v : cv) : (xv E v).category = 1 := by cases v <;> rfl
/-- locals -/
def lp (E : XE) (L : List (Option cv)) : List (Nat × Value) := (List.range L.length).filterMap (fun i => match L[i]? with
  | some (some v) => some (i, xv E v)
  | _ => none)
def LH (E : XE) (ls : Array Slot) (n : Nat) (L : List (Option cv)) : Prop := L.length = n ∧ lv_has ls n (lp E L)
theorem mem_lp {E : XE} {L : List (Option cv)} {q : Nat × Value} : q ∈ lp E L ↔ ∃ v, L[q.1]? = some (some v) ∧ q.2 = xv E v := by
  unfold lp
  rw [List.mem_filterMap]
  constructor
  · rintro ⟨i, hi, h⟩
    split at h
    · rename_i v hv
      cases h
      exact ⟨v, hv, rfl⟩
    · cases h
  · rintro ⟨v, hv, h2⟩
    refine ⟨q.1, List.mem_range.mpr (List.getElem?_eq_some_iff.mp hv).1, ?_⟩
    rw [hv]
    simp [← h2]
theorem LH.rd {E : XE} {ls : Array Slot} {n i : Nat} {L : List (Option cv)} {v : cv} (h : LH E ls n L) (hi : L[i]? = some (some v)) : ls[i]? = some (.val (xv E v)) := h.2.2.2 (i, xv E v) (mem_lp.mpr ⟨v, hi, rfl⟩)
theorem LH.set {E : XE} {ls ls' : Array Slot} {n i : Nat} {L : List (Option cv)} {v : cv} (h : LH E ls n L) (hls : lv_has ls' n ((i, xv E v) :: (lp E L).filter (fun q => !(q.1 == i) && !(q.1 + 1 == i && q.2.category == 2)))) : LH E ls' n (L.set i (some v)) := by
  refine ⟨by rw [List.length_set]; exact h.1, hls.1, hls.2.1, fun q hq => hls.2.2 q ?_⟩
  obtain ⟨w, hw, h2⟩ := mem_lp.mp hq
  rw [List.getElem?_set] at hw
  by_cases hi : i = q.1
  · rw [if_pos hi] at hw
    by_cases hl : i < L.length
    · rw [if_pos hl] at hw
      cases hw
      exact List.mem_cons.mpr (Or.inl (Prod.ext hi.symm h2))
    · rw [if_neg hl] at hw
      cases hw
  · rw [if_neg hi] at hw
    refine List.mem_cons_of_mem _ (List.mem_filter.mpr ⟨mem_lp.mpr ⟨w, hw, h2⟩, ?_⟩)
    have h1 : (q.1 == i) = false := beq_eq_false_iff_ne.mpr (fun e => hi e.symm)
    have h3 : (q.2.category == 2) = false := by rw [h2, xv_cat]; rfl
    rw [h1, h3]
    simp
theorem args_mem : ∀ (vs : List Value) (j i : Nat) (v : Value), (∀ v ∈ vs, v.category = 1) → vs[i]? = some v → (j + i, v) ∈ lv_args j vs
  | [], _, _, _, _, h => by simp at h
  | w :: vs, j, 0, v, _, h => by
    simp at h
    subst h
    exact List.mem_cons_self
  | w :: vs, j, i + 1, v, hc, h => by
    have hw : w.category = 1 := hc w List.mem_cons_self
    have := args_mem vs (j + 1) i v (fun x hx => hc x (List.mem_cons_of_mem _ hx)) (by simpa using h)
    refine List.mem_cons_of_mem _ ?_
    rw [if_neg (by omega)]
    rw [show j + (i + 1) = j + 1 + i by omega]
    exact this
theorem sl_len : ∀ (vs : List Value), (∀ v ∈ vs, v.category = 1) → (lg_sl vs).length = vs.length
  | [], _ => rfl
  | w :: vs, hc => by
    have hw : w.category = 1 := hc w List.mem_cons_self
    have := sl_len vs (fun x hx => hc x (List.mem_cons_of_mem _ hx))
    unfold lg_sl at this ⊢
    rw [List.flatMap_cons, if_neg (by omega), List.length_append, this]
    simp [Nat.add_comm]
theorem LH.entry (E : XE) (as : List cv) {n : Nat} (h : as.length ≤ n) : LH E ((lg_sl (as.map (xv E)) ++ List.replicate (n - (lg_sl (as.map (xv E))).length) Slot.unset).toArray) n (as.map some ++ List.replicate (n - as.length) none) := by
  have hc : ∀ v ∈ as.map (xv E), v.category = 1 := fun v hv => by
    obtain ⟨x, -, rfl⟩ := List.mem_map.mp hv
    exact xv_cat E x
  have hl := sl_len _ hc
  have h0 := lv_entry (as.map (xv E)) (n := n) (by rw [hl, List.length_map]; exact h)
  refine ⟨by simp; omega, h0.1, h0.2.1, fun q hq => ?_⟩
  obtain ⟨v, h1, h2⟩ := mem_lp.mp hq
  refine h0.2.2 q ?_
  have hq1 : q.1 < as.length := by
    refine Nat.lt_of_not_le fun hge => ?_
    rw [List.getElem?_append_right (by rw [List.length_map]; exact hge), List.getElem?_replicate] at h1
    split at h1
    · cases h1
    · cases h1
  rw [List.getElem?_append_left (by rw [List.length_map]; exact hq1), List.getElem?_map] at h1
  have h3 : as[q.1]? = some v := by
    cases ha : as[q.1]? with
    | none => rw [ha] at h1; cases h1
    | some w => rw [ha] at h1; simp at h1; rw [h1]
  have := args_mem (as.map (xv E)) 0 q.1 q.2 hc (by rw [List.getElem?_map, h3, h2]; rfl)
  rw [Nat.zero_add] at this
  exact this
theorem cat_sum (E : XE) : ∀ (S : List cv), ((S.map (xv E)).map fun v => v.category).sum = S.length
  | [] => rfl
  | v :: S => by
    rw [List.map_cons, List.map_cons, List.sum_cons, cat_sum E S, xv_cat, List.length_cons, Nat.add_comm]
/-- kinds of cells: (0, class), (1, length) ints, (2, length) booleans, (3, length) rules; (9, 0) none -/
def kk (K a : Nat) : Nat × Nat := if a < K then kd a else (9, 0)
def fv (E : XE) (ci n k : Nat) (I : mI) (P : mP) : Value := if tk ci k = 2 then (if P n k = 0 then .null else .ref (xad E (P n k))) else .int (I n k)
def en (E : XE) (n : Nat) (I : mI) (P : mP) : va_E :=
  if (kd n).1 = 0 then .inr ((kd n).2, (List.range (nf (kd n).2)).map (fun k => fv E (kd n).2 n k I P))
  else if (kd n).1 = 1 then .inl (xI E, (kd n).2, .inl (I n))
  else if (kd n).1 = 2 then .inl (xB E, (kd n).2, .inl (I n))
  else .inl (xR E, (kd n).2, .inr (.inr (.inr (.inr (fun k => if P n k = 0 then none else some (xad E (P n k)))))))
def wl (E : XE) (K : Nat) (I : mI) (P : mP) : va_W := (List.range (K - 2)).map (fun j => (xh E + j, en E (j + 2) I P))
def tys_ (E : XE) : List (ClassId × FieldType) := [(xI E, .int), (xB E, .boolean), (xR E, .object "RecipeRewriter$Rule")]
def Wo (E : XE) (K : Nat) (I : mI) (P : mP) (H : Heap) : Prop := va_P (xD E) cls_ (wl E K I P) H
def Tb (E : XE) (U : State) : Prop := va_K (xD E) cls_ (tys_ E) U ∧ (∀ w ∈ wsN, va_Nw w U) ∧ va_AO "RecipeRewriter$Rule" U
def ce (n : Nat) : Nat := if (kd n).1 = 0 then nf (kd n).2 else (kd n).2
def sl : Nat → Nat
  | 0 => 0
  | n + 1 => sl n + ce n
theorem sl_mono {a b : Nat} (h : a ≤ b) : sl a ≤ sl b := by
  induction h with
  | refl => exact Nat.le_refl _
  | step _ ih => exact Nat.le_trans ih (Nat.le_add_right _ _)
theorem wl_get {E : XE} {K n : Nat} {I : mI} {P : mP} (h2 : 2 ≤ n) (hK : n < K) : (wl E K I P)[n - 2]? = some (xad E n, en E n I P) := by
  unfold wl xad
  rw [List.getElem?_map, List.getElem?_range (by omega), if_neg (by omega)]
  simp only [Option.map_some]
  rw [show n - 2 + 2 = n by omega]
theorem wl_set {E : XE} {K n : Nat} {I I' : mI} {P P' : mP} (h2 : 2 ≤ n) (ho : ∀ m, m ≠ n → en E m I' P' = en E m I P) : (wl E K I P).set (n - 2) (xad E n, en E n I' P') = wl E K I' P' := by
  apply List.ext_getElem?
  intro j
  rw [List.getElem?_set]
  unfold wl xad
  rw [List.length_map, List.length_range, List.getElem?_map, List.getElem?_map]
  by_cases hj : n - 2 = j
  · rw [if_pos hj]
    by_cases hl : n - 2 < K - 2
    · rw [if_pos hl, List.getElem?_range (by omega), if_neg (by omega)]
      subst hj
      simp only [Option.map_some]
      rw [show n - 2 + 2 = n by omega]
    · rw [if_neg hl, List.getElem?_eq_none (by rw [List.length_range]; omega)]
      rfl
  · rw [if_neg hj]
    by_cases hl : j < K - 2
    · rw [List.getElem?_range hl]
      simp only [Option.map_some]
      rw [ho (j + 2) (by omega)]
    · rw [List.getElem?_eq_none (by rw [List.length_range]; omega)]
      rfl
theorem wl_push {E : XE} {K : Nat} {I : mI} {P : mP} (h2 : 2 ≤ K) : wl E (K + 1) I P = wl E K I P ++ [(xh E + (K - 2), en E K I P)] := by
  unfold wl
  rw [show K + 1 - 2 = (K - 2) + 1 by omega, List.range_succ, List.map_append]
  simp only [List.map_cons, List.map_nil]
  rw [show K - 2 + 2 = K by omega]
theorem wl_D (E : XE) (K : Nat) (I : mI) (P : mP) : va_D (xA E) (wl E K I P) := by
  have hg : ∀ (i : Nat) (q : Nat × va_E), (wl E K I P)[i]? = some q → q.1 = xh E + i := by
    intro i q h
    unfold wl at h
    rw [List.getElem?_map] at h
    cases hi : (List.range (K - 2))[i]? with
    | none => rw [hi] at h; cases h
    | some j =>
      rw [hi] at h
      have := (List.getElem?_eq_some_iff.mp hi)
      obtain ⟨h1, h2⟩ := this
      rw [List.getElem_range] at h2
      subst h2
      cases h
      rfl
  refine ⟨fun i j p q hp hq he => ?_, fun k q hq => ?_⟩
  · have h1 := hg i p hp
    have h2 := hg j q hq
    omega
  · have h1 := hg k q hq
    unfold xA
    omega
theorem en_congr {E : XE} {m : Nat} {I I' : mI} {P P' : mP} (hI : I' m = I m) (hP : P' m = P m) : en E m I' P' = en E m I P := by
  unfold en fv
  rw [hI, hP]
def sI (I : mI) (a : Nat) (f : Nat → Int32) : mI := fun m => if m = a then f else I m
def sP (P : mP) (a : Nat) (f : Nat → Nat) : mP := fun m => if m = a then f else P m
def uI (I : mI) (a k : Nat) (v : Int32) : mI := sI I a (upd (I a) k v)
def uP (P : mP) (a k v : Nat) : mP := sP P a (va_up (P a) k v)
theorem sI_s {I : mI} {a : Nat} {f : Nat → Int32} : sI I a f a = f := if_pos rfl
theorem sI_n {I : mI} {a m : Nat} {f : Nat → Int32} (h : m ≠ a) : sI I a f m = I m := if_neg h
theorem sP_s {P : mP} {a : Nat} {f : Nat → Nat} : sP P a f a = f := if_pos rfl
theorem sP_n {P : mP} {a m : Nat} {f : Nat → Nat} (h : m ≠ a) : sP P a f m = P m := if_neg h
theorem kk_in {K a : Nat} (h : (kk K a).1 ≠ 9) : a < K ∧ kk K a = kd a ∧ 2 ≤ a := by
  unfold kk at h ⊢
  by_cases ha : a < K
  · rw [if_pos ha] at h ⊢
    refine ⟨ha, rfl, ?_⟩
    refine Nat.le_of_not_lt fun hl => h ?_
    have h2 : a = 0 ∨ a = 1 := by omega
    rcases h2 with rfl | rfl
    · exact congrArg Prod.fst kd_0
    · exact congrArg Prod.fst kd_1
  · rw [if_neg ha] at h
    exact absurd rfl h
theorem kk_obj {K a ci : Nat} (h : kk K a = (0, ci)) : a < K ∧ kd a = (0, ci) ∧ 2 ≤ a := by
  obtain ⟨h1, h2, h3⟩ := kk_in (K := K) (a := a) (by rw [h]; show (0 : Nat) ≠ 9; decide)
  exact ⟨h1, h2.symm.trans h, h3⟩
theorem en_obj {E : XE} {n ci : Nat} {I : mI} {P : mP} (h : kd n = (0, ci)) : en E n I P = .inr (ci, (List.range (nf ci)).map (fun k => fv E ci n k I P)) := by
  unfold en
  rw [h]
  rfl
theorem en_int {E : XE} {n : Nat} {I : mI} {P : mP} (h : (kd n).1 = 1) : en E n I P = .inl (xI E, (kd n).2, .inl (I n)) := by
  unfold en
  rw [if_neg (by rw [h]; decide), if_pos h]
theorem en_boo {E : XE} {n : Nat} {I : mI} {P : mP} (h : (kd n).1 = 2) : en E n I P = .inl (xB E, (kd n).2, .inl (I n)) := by
  unfold en
  rw [if_neg (by rw [h]; decide), if_neg (by rw [h]; decide), if_pos h]
theorem en_row {E : XE} {n : Nat} {I : mI} {P : mP} (h : (kd n).1 = 3) : en E n I P = .inl (xR E, (kd n).2, .inr (.inr (.inr (.inr (fun k => if P n k = 0 then none else some (xad E (P n k))))))) := by
  unfold en
  rw [if_neg (by rw [h]; decide), if_neg (by rw [h]; decide), if_neg (by rw [h]; decide)]
theorem wl_congr {E : XE} {K : Nat} {I I' : mI} {P P' : mP} (h : ∀ m, m < K → en E m I' P' = en E m I P) : wl E K I' P' = wl E K I P := by
  unfold wl
  apply List.map_congr_left
  intro j hj
  have := List.mem_range.mp hj
  rw [h (j + 2) (by omega)]
theorem fs_get {E : XE} {ci a N f : Nat} {I : mI} {P : mP} (hf : f < N) : ((List.range N).map (fun k => fv E ci a k I P))[f]? = some (fv E ci a f I P) := by
  rw [List.getElem?_map, List.getElem?_range hf]
  rfl
theorem fs_setI {E : XE} {ci a N f : Nat} {I : mI} {P : mP} {v : Int32} (hf : tk ci f ≠ 2) : ((List.range N).map (fun k => fv E ci a k I P)).set f (.int v) = (List.range N).map (fun k => fv E ci a k (uI I a f v) P) := by
  apply List.ext_getElem?
  intro j
  rw [List.getElem?_set, List.length_map, List.length_range, List.getElem?_map, List.getElem?_map]
  by_cases hj : f = j
  · subst hj
    rw [if_pos rfl]
    by_cases hl : f < N
    · rw [if_pos hl, List.getElem?_range hl]
      simp [fv, hf, uI, sI, upd]
    · rw [if_neg hl, List.getElem?_eq_none (by rw [List.length_range]; omega)]
      rfl
  · rw [if_neg hj]
    by_cases hl : j < N
    · rw [List.getElem?_range hl]
      have hj' : ¬ j = f := fun e => hj e.symm
      simp [fv, uI, sI, upd, hj']
    · rw [List.getElem?_eq_none (by rw [List.length_range]; omega)]
      rfl
theorem fs_setP {E : XE} {ci a N f v : Nat} {I : mI} {P : mP} (hf : tk ci f = 2) (hv : v ≠ 0) : ((List.range N).map (fun k => fv E ci a k I P)).set f (.ref (xad E v)) = (List.range N).map (fun k => fv E ci a k I (uP P a f v)) := by
  apply List.ext_getElem?
  intro j
  rw [List.getElem?_set, List.length_map, List.length_range, List.getElem?_map, List.getElem?_map]
  by_cases hj : f = j
  · subst hj
    rw [if_pos rfl]
    by_cases hl : f < N
    · rw [if_pos hl, List.getElem?_range hl]
      simp [fv, hf, uP, sP, va_up, hv]
    · rw [if_neg hl, List.getElem?_eq_none (by rw [List.length_range]; omega)]
      rfl
  · rw [if_neg hj]
    by_cases hl : j < N
    · rw [List.getElem?_range hl]
      have hj' : ¬ j = f := fun e => hj e.symm
      simp [fv, uP, sP, va_up, hj']
    · rw [List.getElem?_eq_none (by rw [List.length_range]; omega)]
      rfl
theorem nf_of {ci : Nat} {q : vw_C} (h : cls_[ci]? = some q) : nf ci = q.2.2 := by
  unfold nf
  rw [h]
def Cx (E : XE) (y K0 : Nat) (p : Program) (s : State) (m : MethodId) (args : Array Value) (meth : Method) (c : Code) : Prop :=
  p.tables.exec = Jvm.exec ∧ c.code = mB y ∧ c.maxLocals = mX y ∧ s.vm.findClass (mN y).cls = some m.cls ∧ (∀ w ∈ wsA, w.before args s = true) ∧ (mK y = 1 → meth.name = (mN y).name) ∧ Tb E s ∧ va_X (xb E) (xL E) (xx E) s s.heap ∧ xb E < xh E ∧ 2 ≤ K0 ∧ s.heap.size = xh E + (K0 - 2)
theorem Cx.x {E : XE} {y K0 : Nat} {p : Program} {s : State} {m : MethodId} {args : Array Value} {meth : Method} {c : Code} (h : Cx E y K0 p s m args meth c) : p.tables.exec = Jvm.exec := h.1
theorem Cx.b {E : XE} {y K0 : Nat} {p : Program} {s : State} {m : MethodId} {args : Array Value} {meth : Method} {c : Code} (h : Cx E y K0 p s m args meth c) : c.code = mB y := h.2.1
theorem Cx.m {E : XE} {y K0 : Nat} {p : Program} {s : State} {m : MethodId} {args : Array Value} {meth : Method} {c : Code} (h : Cx E y K0 p s m args meth c) : c.maxLocals = mX y := h.2.2.1
theorem Cx.o {E : XE} {y K0 : Nat} {p : Program} {s : State} {m : MethodId} {args : Array Value} {meth : Method} {c : Code} (h : Cx E y K0 p s m args meth c) : s.vm.findClass (mN y).cls = some m.cls := h.2.2.2.1
theorem Cx.t {E : XE} {y K0 : Nat} {p : Program} {s : State} {m : MethodId} {args : Array Value} {meth : Method} {c : Code} (h : Cx E y K0 p s m args meth c) : ∀ w ∈ wsA, w.before args s = true := h.2.2.2.2.1
theorem Cx.n {E : XE} {y K0 : Nat} {p : Program} {s : State} {m : MethodId} {args : Array Value} {meth : Method} {c : Code} (h : Cx E y K0 p s m args meth c) : mK y = 1 → meth.name = (mN y).name := h.2.2.2.2.2.1
theorem Cx.T {E : XE} {y K0 : Nat} {p : Program} {s : State} {m : MethodId} {args : Array Value} {meth : Method} {c : Code} (h : Cx E y K0 p s m args meth c) : Tb E s := h.2.2.2.2.2.2.1
theorem Cx.K {E : XE} {y K0 : Nat} {p : Program} {s : State} {m : MethodId} {args : Array Value} {meth : Method} {c : Code} (h : Cx E y K0 p s m args meth c) : va_K (xD E) cls_ (tys_ E) s := h.2.2.2.2.2.2.1.1
theorem Cx.X {E : XE} {y K0 : Nat} {p : Program} {s : State} {m : MethodId} {args : Array Value} {meth : Method} {c : Code} (h : Cx E y K0 p s m args meth c) : va_X (xb E) (xL E) (xx E) s s.heap := h.2.2.2.2.2.2.2.1
theorem Cx.bl {E : XE} {y K0 : Nat} {p : Program} {s : State} {m : MethodId} {args : Array Value} {meth : Method} {c : Code} (h : Cx E y K0 p s m args meth c) : xb E < xh E := h.2.2.2.2.2.2.2.2.1
theorem Cx.k {E : XE} {y K0 : Nat} {p : Program} {s : State} {m : MethodId} {args : Array Value} {meth : Method} {c : Code} (h : Cx E y K0 p s m args meth c) : 2 ≤ K0 := h.2.2.2.2.2.2.2.2.2.1
theorem Cx.s {E : XE} {y K0 : Nat} {p : Program} {s : State} {m : MethodId} {args : Array Value} {meth : Method} {c : Code} (h : Cx E y K0 p s m args meth c) : s.heap.size = xh E + (K0 - 2) := h.2.2.2.2.2.2.2.2.2.2
def Rt (E : XE) (y K0 K1 : Nat) (Q : Int32 → mI → mP → Prop) (p : Program) (e : Env) (R : Room) (s : State) (m : MethodId) (args : Array Value) (below : List Frame) (meth : Method) (c : Code) (Z : State → Prop) : Prop :=
  ∀ (r : Int32) (I : mI) (P : mP) (H : Heap) (ls : Array Slot) (locs : List Loc) (pc : Nat), Q r I P → Wo E K1 I P H → va_S (xA E) s.heap H locs →
    (mR y = none → decode (mB y) pc = .ok (.return_, 1) → W p (xl E) e R s m args below meth c H locs (K1 - K0) (sl K1 - sl K0) Z (F0 m pc ls [])) ∧
    (∀ ty, mR y = some ty → narrow ty (.int r) = .int r → decode (mB y) pc = .ok (.ireturn, 1) → W p (xl E) e R s m args below meth c H locs (K1 - K0) (sl K1 - sl K0) Z (F0 m pc ls [.int r]))
def V (E : XE) (d y K1 : Nat) (Q : Int32 → mI → mP → Prop) (pc : Nat) (L : List (Option cv)) (S : List cv) (K : Nat) (I : mI) (P : mP) : Prop :=
  ∀ (p : Program) (e : Env) (R : Room) (s : State) (m : MethodId) (args : Array Value) (below : List Frame) (meth : Method) (c : Code) (Z : State → Prop) (K0 : Nat),
    Cx E y K0 p s m args meth c → Rt E y K0 K1 Q p e R s m args below meth c Z → d ≤ R.frames → 64 * d ≤ R.locals → K1 - K0 ≤ R.cells → sl K1 - sl K0 ≤ R.slots → K0 ≤ K → K ≤ K1 →
    ∀ (H : Heap) (ls : Array Slot) (locs : List Loc), Wo E K I P H → va_S (xA E) s.heap H locs → LH E ls (mX y) L →
      W p (xl E) e R s m args below meth c H locs (K - K0) (sl K - sl K0) Z (F0 m pc ls (S.map (xv E)))
/-- a smaller demand on what comes back; more room -/
theorem V.mono {E : XE} {d d' y K1 pc K : Nat} {Q Q' : Int32 → mI → mP → Prop} {L : List (Option cv)} {S : List cv} {I : mI} {P : mP} (h : V E d y K1 Q pc L S K I P) (hd : d ≤ d') (hq : ∀ r I P, Q r I P → Q' r I P) : V E d' y K1 Q' pc L S K I P :=
  fun p e R s m args below meth c Z K0 hC hR h1 h2 => h p e R s m args below meth c Z K0 hC (fun r I P H ls locs pc a => hR r I P H ls locs pc (hq r I P a)) (Nat.le_trans hd h1) (Nat.le_trans (Nat.mul_le_mul_left 64 hd) h2)
theorem kc_eq (n : Int) : Int32.ofInt n = kc n := by
  cases n with
  | ofNat k => exact Int32.ofInt_eq_ofNat
  | negSucc k =>
    show Int32.ofInt (Int.negSucc k) = -(nI (k + 1))
    rw [Int.negSucc_eq, Int32.ofInt_neg]
    congr 1
def pI (S : List cv) (k : Int32 → List cv → Prop) : Prop := match S with
  | .inl x :: r => k x r
  | _ => False
def pR (S : List cv) (k : Nat → List cv → Prop) : Prop := match S with
  | .inr x :: r => k x r
  | _ => False
def gI (L : List (Option cv)) (i : Nat) (k : Int32 → Prop) : Prop := match L[i]? with
  | some (some (.inl x)) => k x
  | _ => False
def gR (L : List (Option cv)) (i : Nat) (k : Nat → Prop) : Prop := match L[i]? with
  | some (some (.inr x)) => k x
  | _ => False
theorem pI_e {S : List cv} {k : Int32 → List cv → Prop} (h : pI S k) : ∃ x r, S = .inl x :: r ∧ k x r := by
  unfold pI at h
  split at h
  · exact ⟨_, _, rfl, h⟩
  · exact h.elim
theorem pR_e {S : List cv} {k : Nat → List cv → Prop} (h : pR S k) : ∃ x r, S = .inr x :: r ∧ k x r := by
  unfold pR at h
  split at h
  · exact ⟨_, _, rfl, h⟩
  · exact h.elim
theorem gI_e {L : List (Option cv)} {i : Nat} {k : Int32 → Prop} (h : gI L i k) : ∃ x, L[i]? = some (some (.inl x)) ∧ k x := by
  unfold gI at h
  split at h
  · rename_i x hx
    exact ⟨x, hx, h⟩
  · exact h.elim
theorem gR_e {L : List (Option cv)} {i : Nat} {k : Nat → Prop} (h : gR L i k) : ∃ x, L[i]? = some (some (.inr x)) ∧ k x := by
  unfold gR at h
  split at h
  · rename_i x hx
    exact ⟨x, hx, h⟩
  · exact h.elim
abbrev kont : Type := List (Option cv) → List cv → Nat → mI → mP → Prop
def gtF (inf : List Nat) (L : List (Option cv)) (S : List cv) (K : Nat) (I : mI) (P : mP) (k : kont) : Prop := match inf with
  | [_, ci, f, rf] => pR S fun a r => kk K a = (0, ci) ∧ (match rf with
    | 2 => P a f ≠ 0 ∧ k L (.inr (P a f) :: r) K I P
    | _ => k L (.inl (I a f) :: r) K I P)
  | _ => False
def ptF (inf : List Nat) (L : List (Option cv)) (S : List cv) (K : Nat) (I : mI) (P : mP) (k : kont) : Prop := match inf with
  | [_, ci, f, rf] => (match rf with
    | 2 => pR S fun v r => pR r fun a r => kk K a = (0, ci) ∧ v ≠ 0 ∧ k L r K I (uP P a f v)
    | 1 => pI S fun v r => pR r fun a r => kk K a = (0, ci) ∧ narrow .boolean (.int v) = .int v ∧ fits .boolean (.int v) = true ∧ k L r K (uI I a f v) P
    | _ => pI S fun v r => pR r fun a r => kk K a = (0, ci) ∧ k L r K (uI I a f v) P)
  | _ => False
theorem gtF_e {inf : List Nat} {L : List (Option cv)} {S : List cv} {K : Nat} {I : mI} {P : mP} {k : kont} (h : gtF inf L S K I P k) : ∃ j ci f rf, inf = [j, ci, f, rf] ∧ ∃ a r, S = .inr a :: r ∧ kk K a = (0, ci) ∧ ((rf = 2 ∧ P a f ≠ 0 ∧ k L (.inr (P a f) :: r) K I P) ∨ (rf ≠ 2 ∧ k L (.inl (I a f) :: r) K I P)) := by
  unfold gtF at h
  split at h
  · obtain ⟨a, r, hs, h1, h2⟩ := pR_e h
    refine ⟨_, _, _, _, rfl, a, r, hs, h1, ?_⟩
    split at h2
    · exact Or.inl ⟨rfl, h2⟩
    · rename_i hne
      exact Or.inr ⟨hne, h2⟩
  · exact h.elim
theorem ptF_e {inf : List Nat} {L : List (Option cv)} {S : List cv} {K : Nat} {I : mI} {P : mP} {k : kont} (h : ptF inf L S K I P k) : ∃ j ci f rf, inf = [j, ci, f, rf] ∧ ((rf = 2 ∧ pR S fun v r => pR r fun a r => kk K a = (0, ci) ∧ v ≠ 0 ∧ k L r K I (uP P a f v)) ∨
    (rf = 1 ∧ pI S fun v r => pR r fun a r => kk K a = (0, ci) ∧ narrow .boolean (.int v) = .int v ∧ fits .boolean (.int v) = true ∧ k L r K (uI I a f v) P) ∨ (rf ≠ 2 ∧ rf ≠ 1 ∧ pI S fun v r => pR r fun a r => kk K a = (0, ci) ∧ k L r K (uI I a f v) P)) := by
  unfold ptF at h
  split at h
  · refine ⟨_, _, _, _, rfl, ?_⟩
    split at h
    · exact Or.inl ⟨rfl, h⟩
    · exact Or.inr (Or.inl ⟨rfl, h⟩)
    · rename_i h1 h2
      exact Or.inr (Or.inr ⟨h1, h2, h⟩)
  · exact h.elim
/-- the instructions that go on to the next -/
def sx (E : XE) (K1 : Nat) (i : Jvm.ClassFile.Instr) (inf : List Nat) (L : List (Option cv)) (S : List cv) (K : Nat) (I : mI) (P : mP) (k : kont) : Prop := match i with
  | .iconst n => k L (.inl (kc n) :: S) K I P
  | .bipush n => k L (.inl (kc n) :: S) K I P
  | .sipush n => k L (.inl (kc n) :: S) K I P
  | .iload n => gI L n fun x => k L (.inl x :: S) K I P
  | .iload_n n => gI L n.val fun x => k L (.inl x :: S) K I P
  | .aload n => gR L n fun x => k L (.inr x :: S) K I P
  | .aload_n n => gR L n.val fun x => k L (.inr x :: S) K I P
  | .istore n => pI S fun x r => k (L.set n (some (.inl x))) r K I P
  | .istore_n n => pI S fun x r => k (L.set n.val (some (.inl x))) r K I P
  | .astore n => pR S fun x r => k (L.set n (some (.inr x))) r K I P
  | .astore_n n => pR S fun x r => k (L.set n.val (some (.inr x))) r K I P
  | .iinc n z => gI L n fun x => k (L.set n (some (.inl (x + kc z)))) S K I P
  | .iadd => pI S fun y r => pI r fun x r => k L (.inl (x + y) :: r) K I P
  | .isub => pI S fun y r => pI r fun x r => k L (.inl (x - y) :: r) K I P
  | .imul => pI S fun y r => pI r fun x r => k L (.inl (x * y) :: r) K I P
  | .iand => pI S fun y r => pI r fun x r => k L (.inl (x &&& y) :: r) K I P
  | .ior => pI S fun y r => pI r fun x r => k L (.inl (x ||| y) :: r) K I P
  | .ishl => pI S fun y r => pI r fun x r => k L (.inl (x <<< (y &&& 31)) :: r) K I P
  | .dup => (match S with
    | v :: r => k L (v :: v :: r) K I P
    | [] => False)
  | .getfield _ => gtF inf L S K I P k
  | .putfield _ => ptF inf L S K I P k
  | .iaload => (match inf with
    | [] => pI S fun j r => pR r fun a r => (kk K a).1 = 1 ∧ vp_in j (kk K a).2 ∧ k L (.inl (I a j.toNatClampNeg) :: r) K I P
    | _ => pI S fun j r => pR r fun a r => a = 1 ∧ vp_in j (xL E) ∧ k L (.inl (xx E j.toNatClampNeg) :: r) K I P)
  | .iastore => pI S fun v r => pI r fun j r => pR r fun a r => (kk K a).1 = 1 ∧ vp_in j (kk K a).2 ∧ k L r K (uI I a j.toNatClampNeg v) P
  | .baload => pI S fun j r => pR r fun a r => (kk K a).1 = 2 ∧ vp_in j (kk K a).2 ∧ k L (.inl (I a j.toNatClampNeg) :: r) K I P
  | .bastore => pI S fun v r => pI r fun j r => pR r fun a r => (kk K a).1 = 2 ∧ vp_in j (kk K a).2 ∧ k L r K (uI I a j.toNatClampNeg (vp_nar .boolean v)) P
  | .aaload => pI S fun j r => pR r fun a r => (kk K a).1 = 3 ∧ vp_in j (kk K a).2 ∧ P a j.toNatClampNeg ≠ 0 ∧ k L (.inr (P a j.toNatClampNeg) :: r) K I P
  | .aastore => pR S fun v r => pI r fun j r => pR r fun a r => (kk K a).1 = 3 ∧ vp_in j (kk K a).2 ∧ kk K v = (0, ciRule) ∧ k L r K I (uP P a j.toNatClampNeg v)
  | .arraylength => (match inf with
    | [] => pR S fun a r => 1 ≤ (kk K a).1 ∧ (kk K a).1 ≤ 3 ∧ k L (.inl (nI (kk K a).2) :: r) K I P
    | _ => pR S fun a r => a = 1 ∧ k L (.inl (nI (xL E)) :: r) K I P)
  | .new _ => (match inf with
    | [_, ci] => kd K = (0, ci) ∧ K < K1 ∧ k L (.inr K :: S) (K + 1) (sI I K fun _ => 0) (sP P K fun _ => 0)
    | _ => False)
  | .newarray .int => pI S fun n r => kd K = (1, n.toNatClampNeg) ∧ ¬ n < 0 ∧ K < K1 ∧ k L (.inr K :: r) (K + 1) (sI I K fun _ => 0) (sP P K fun _ => 0)
  | .newarray .boolean => pI S fun n r => kd K = (2, n.toNatClampNeg) ∧ ¬ n < 0 ∧ K < K1 ∧ k L (.inr K :: r) (K + 1) (sI I K fun _ => 0) (sP P K fun _ => 0)
  | .anewarray _ => pI S fun n r => kd K = (3, n.toNatClampNeg) ∧ ¬ n < 0 ∧ K < K1 ∧ k L (.inr K :: r) (K + 1) (sI I K fun _ => 0) (sP P K fun _ => 0)
  | _ => False
def rcv (q ci K : Nat) (T : List cv) (X : Prop) : Prop := match q with
  | 2 => X
  | 1 => (match T with
    | .inr _ :: _ => X
    | _ => False)
  | _ => (match T with
    | .inr a :: _ => kk K a = (0, ci) ∧ X
    | _ => False)
def alk (al K K1 : Nat) (X : Prop) : Prop := match al with
  | 0 => X
  | _ => K + al ≤ K1 ∧ X
theorem rcv_e {q ci K : Nat} {T : List cv} {X : Prop} (h : rcv q ci K T X) : rcv q ci K T True ∧ X := by
  unfold rcv at h ⊢
  split at h
  · exact ⟨trivial, h⟩
  · split at h
    · exact ⟨trivial, h⟩
    · exact h.elim
  · split at h
    · exact ⟨⟨h.1, trivial⟩, h.2⟩
    · exact h.elim
theorem alk_e {al K K1 : Nat} {X : Prop} (h : alk al K K1 X) : (K + al ≤ K1 ∨ al = 0) ∧ X := by
  unfold alk at h
  split at h
  · exact ⟨Or.inr rfl, h⟩
  · exact ⟨Or.inl h.1, h.2⟩
/-- the JDK's methods: Object.<init>, max, min, arraycopy -/
def jx (d w : Nat) (L : List (Option cv)) (S : List cv) (K : Nat) (I : mI) (P : mP) (k : kont) : Prop := match w with
  | 0 => (match Nat.ble S.length 9, d with
    | true, _ + 1 => pR S fun _ r => k L r K I P
    | _, _ => False)
  | 1 => (match Nat.ble S.length 10, d with
    | true, _ + 1 => pI S fun y r => pI r fun x r => k L (.inl (if x < y then y else x) :: r) K I P
    | _, _ => False)
  | 2 => (match Nat.ble S.length 10, d with
    | true, _ + 1 => pI S fun y r => pI r fun x r => k L (.inl (if y < x then y else x) :: r) K I P
    | _, _ => False)
  | _ => (match Nat.ble S.length 13, d with
    | true, _ + 1 => pI S fun n r => pI r fun dp r => pR r fun a1 r => pI r fun sp r => pR r fun a0 r => (kk K a0).1 = 1 ∧ (kk K a1).1 = 1 ∧ ¬ sp < 0 ∧ ¬ dp < 0 ∧ ¬ n < 0 ∧
        sp.toNatClampNeg + n.toNatClampNeg ≤ (kk K a0).2 ∧ dp.toNatClampNeg + n.toNatClampNeg ≤ (kk K a1).2 ∧ k L r K (sI I a1 (va_cpy (I a0) (I a1) sp.toNatClampNeg dp.toNatClampNeg n.toNatClampNeg)) P
    | _, _ => False)
def rtk (rt : Nat) (r : Int32) (T : List cv) : List cv := match rt with
  | 0 => T
  | _ => .inl r :: T
/-- a call: of a method of ours, or of one of the JDK's -/
def cx (E : XE) (d K1 : Nat) (inf : List Nat) (L : List (Option cv)) (S : List cv) (K : Nat) (I : mI) (P : mP) (k : kont) : Prop := match inf with
  | [_, c, n, al, rt, mx, q, ci] => (match Nat.beq (S.take n).length n, Nat.ble (S.drop n).length 8, d with
    | true, true, d' + 1 => rcv q ci K (S.drop (n - 1)) (alk al K K1 (V E d' c (K + al) (fun r I' P' => k L (rtk rt r (S.drop n)) (K + al) I' P') 0 ((S.take n).reverse.map some ++ List.replicate (mx - n) none) [] K I P))
    | _, _, _ => False)
  | [_, w] => jx d w L S K I P k
  | _ => False
def ivk (q ix : Nat) : Jvm.ClassFile.Instr := match q with
  | 0 => .invokevirtual ix
  | 1 => .invokespecial ix
  | _ => .invokestatic ix
theorem jx0_e {d K : Nat} {L : List (Option cv)} {S : List cv} {I : mI} {P : mP} {k : kont} (h : jx d 0 L S K I P k) : ∃ d', d = d' + 1 ∧ S.length ≤ 9 ∧ pR S fun _ r => k L r K I P := by
  have h : (match (generalizing := false) Nat.ble S.length 9, d with
    | true, _ + 1 => pR S fun _ r => k L r K I P
    | _, _ => False) := h
  split at h
  · exact ⟨_, rfl, Nat.le_of_ble_eq_true (by assumption), h⟩
  · exact h.elim
theorem jx1_e {d K : Nat} {L : List (Option cv)} {S : List cv} {I : mI} {P : mP} {k : kont} (h : jx d 1 L S K I P k) : ∃ d', d = d' + 1 ∧ S.length ≤ 10 ∧ pI S fun y r => pI r fun x r => k L (.inl (if x < y then y else x) :: r) K I P := by
  have h : (match (generalizing := false) Nat.ble S.length 10, d with
    | true, _ + 1 => pI S fun y r => pI r fun x r => k L (.inl (if x < y then y else x) :: r) K I P
    | _, _ => False) := h
  split at h
  · exact ⟨_, rfl, Nat.le_of_ble_eq_true (by assumption), h⟩
  · exact h.elim
theorem jx2_e {d K : Nat} {L : List (Option cv)} {S : List cv} {I : mI} {P : mP} {k : kont} (h : jx d 2 L S K I P k) : ∃ d', d = d' + 1 ∧ S.length ≤ 10 ∧ pI S fun y r => pI r fun x r => k L (.inl (if y < x then y else x) :: r) K I P := by
  have h : (match (generalizing := false) Nat.ble S.length 10, d with
    | true, _ + 1 => pI S fun y r => pI r fun x r => k L (.inl (if y < x then y else x) :: r) K I P
    | _, _ => False) := h
  split at h
  · exact ⟨_, rfl, Nat.le_of_ble_eq_true (by assumption), h⟩
  · exact h.elim
theorem jx3_e {d w K : Nat} {L : List (Option cv)} {S : List cv} {I : mI} {P : mP} {k : kont} (h : jx d (w + 3) L S K I P k) : ∃ d', d = d' + 1 ∧ S.length ≤ 13 ∧ pI S fun n r => pI r fun dp r => pR r fun a1 r => pI r fun sp r => pR r fun a0 r => (kk K a0).1 = 1 ∧ (kk K a1).1 = 1 ∧ ¬ sp < 0 ∧ ¬ dp < 0 ∧ ¬ n < 0 ∧
        sp.toNatClampNeg + n.toNatClampNeg ≤ (kk K a0).2 ∧ dp.toNatClampNeg + n.toNatClampNeg ≤ (kk K a1).2 ∧ k L r K (sI I a1 (va_cpy (I a0) (I a1) sp.toNatClampNeg dp.toNatClampNeg n.toNatClampNeg)) P := by
  have h : (match (generalizing := false) Nat.ble S.length 13, d with
    | true, _ + 1 => pI S fun n r => pI r fun dp r => pR r fun a1 r => pI r fun sp r => pR r fun a0 r => (kk K a0).1 = 1 ∧ (kk K a1).1 = 1 ∧ ¬ sp < 0 ∧ ¬ dp < 0 ∧ ¬ n < 0 ∧
        sp.toNatClampNeg + n.toNatClampNeg ≤ (kk K a0).2 ∧ dp.toNatClampNeg + n.toNatClampNeg ≤ (kk K a1).2 ∧ k L r K (sI I a1 (va_cpy (I a0) (I a1) sp.toNatClampNeg dp.toNatClampNeg n.toNatClampNeg)) P
    | _, _ => False) := h
  split at h
  · exact ⟨_, rfl, Nat.le_of_ble_eq_true (by assumption), h⟩
  · exact h.elim
theorem cx8_e {E : XE} {d K1 K j c n al rt mx q ci : Nat} {L : List (Option cv)} {S : List cv} {I : mI} {P : mP} {k : kont} (h : cx E d K1 [j, c, n, al, rt, mx, q, ci] L S K I P k) : ∃ d', d = d' + 1 ∧ (S.take n).length = n ∧ (S.drop n).length ≤ 8 ∧ (K + al ≤ K1 ∨ al = 0) ∧ rcv q ci K (S.drop (n - 1)) True ∧
    V E d' c (K + al) (fun r I' P' => k L (rtk rt r (S.drop n)) (K + al) I' P') 0 ((S.take n).reverse.map some ++ List.replicate (mx - n) none) [] K I P := by
  unfold cx at h
  dsimp only at h
  split at h
  · rename_i hb1 hb2
    obtain ⟨hr, h⟩ := rcv_e h
    obtain ⟨hal, h⟩ := alk_e h
    exact ⟨_, rfl, Nat.eq_of_beq_eq_true hb1, Nat.le_of_ble_eq_true hb2, hal, hr, h⟩
  · exact h.elim
def br1 (c : Jvm.ClassFile.Cond) (x : Int32) (A B : Prop) : Prop := match c with
  | .eq => (x = 0 → A) ∧ (¬ x = 0 → B)
  | .ne => (¬ x = 0 → A) ∧ (x = 0 → B)
  | .lt => (x < 0 → A) ∧ (¬ x < 0 → B)
  | .ge => (0 ≤ x → A) ∧ (¬ 0 ≤ x → B)
  | .gt => (0 < x → A) ∧ (¬ 0 < x → B)
  | .le => (x ≤ 0 → A) ∧ (¬ x ≤ 0 → B)
def br2 (c : Jvm.ClassFile.Cond) (x y : Int32) (A B : Prop) : Prop := match c with
  | .eq => (x = y → A) ∧ (¬ x = y → B)
  | .ne => (¬ x = y → A) ∧ (x = y → B)
  | .lt => (x < y → A) ∧ (¬ x < y → B)
  | .ge => (y ≤ x → A) ∧ (¬ y ≤ x → B)
  | .gt => (y < x → A) ∧ (¬ y < x → B)
  | .le => (x ≤ y → A) ∧ (¬ x ≤ y → B)
def jm (inf : List Nat) (f : Nat → Prop) : Prop := match inf with
  | t :: _ => f t
  | [] => False
/-- a switch: keys in order, their targets, behind them the rest -/
def sw (x : Int32) (D : Prop) (f : Nat → Prop) : List Int → List Nat → Prop
  | k :: ks, t :: ts => (x = kc k → f t) ∧ (¬ x = kc k → sw x D f ks ts)
  | [], _ => D
  | _, [] => False
def retk (a b : Nat) (X : Prop) : Prop := match Nat.beq a b with
  | true => X
  | false => a = b ∧ X
theorem retk_e {a b : Nat} {X : Prop} (h : retk a b X) : a = b ∧ X := by
  unfold retk at h
  split at h
  · rename_i hb
    exact ⟨Nat.eq_of_beq_eq_true hb, h⟩
  · exact h
theorem retk_i {a b : Nat} {X : Prop} (e : a = b) (h : X) : retk a b X := by
  unfold retk
  split
  · exact h
  · exact ⟨e, h⟩
def zb (r : Int32) : Prop := narrow .boolean (.int r) = .int r
theorem zb0 : zb (nI 0) := rfl
theorem zb1 : zb (nI 1) := rfl
def keysT (lo : Int) : Nat → List Int
  | 0 => []
  | n + 1 => lo :: keysT (lo + 1) n
def maskL : Nat → List (Option cv) → List (Option cv)
  | _, [] => []
  | m, v :: r => (match m % 2 with
    | 1 => v
    | _ => none) :: maskL (m / 2) r
theorem mask_len : ∀ (m : Nat) (L : List (Option cv)), (maskL m L).length = L.length
  | _, [] => rfl
  | m, v :: r => by
    show (maskL (m / 2) r).length + 1 = r.length + 1
    rw [mask_len (m / 2) r]
theorem mask_get : ∀ (m : Nat) (L : List (Option cv)) (i : Nat) (v : cv), (maskL m L)[i]? = some (some v) → L[i]? = some (some v)
  | _, [], i, v, h => by simp [maskL] at h
  | m, w :: r, 0, v, h => by
    have h : (match m % 2 with
      | 1 => w
      | _ => none) = some v := by simpa [maskL] using h
    split at h
    · simp [h]
    · cases h
  | m, w :: r, i + 1, v, h => by
    have h : (maskL (m / 2) r)[i]? = some (some v) := by simpa [maskL] using h
    have := mask_get (m / 2) r i v h
    simpa using this
theorem V.lw {E : XE} {d y K1 pc K : Nat} {Q : Int32 → mI → mP → Prop} {L : List (Option cv)} {S : List cv} {I : mI} {P : mP} (m : Nat) (h : V E d y K1 Q pc (maskL m L) S K I P) : V E d y K1 Q pc L S K I P :=
  fun p e R s m' args below meth c Z K0 hC hR a1 a2 a3 a4 a5 a6 H ls locs hW hS hL => h p e R s m' args below meth c Z K0 hC hR a1 a2 a3 a4 a5 a6 H ls locs hW hS
    ⟨(mask_len m L).trans hL.1, hL.2.1, hL.2.2.1, fun q hq => hL.2.2.2 q (by
      obtain ⟨v, h1, h2⟩ := mem_lp.mp hq
      exact mem_lp.mpr ⟨v, mask_get m L q.1 v h1, h2⟩)⟩
def hq (hd : Nat) (fr : Bool) : Option Nat := match hd, fr with
  | m + 1, false => some m
  | _, _ => none
/-- one instruction, with what is said of the rest -/
def wst (E : XE) (d y K1 : Nat) (Q : Int32 → mI → mP → Prop) (rc : List En → kont) (fr : Bool) (pc hd : Nat) (i : Jvm.ClassFile.Instr) (inf : List Nat) (es : List En) (L : List (Option cv)) (S : List cv) (K : Nat) (I : mI) (P : mP) : Prop :=
  match hq hd fr with
  | some m => V E d y K1 Q pc (maskL m L) S K I P
  | none => match i with
    | .goto _ => jm inf fun t => rc ((tc y).drop t) L S K I P
    | .ifCond c _ => pI S fun x r => br1 c x (jm inf fun t => rc ((tc y).drop t) L r K I P) (rc es L r K I P)
    | .if_icmp c _ => pI S fun x2 r => pI r fun x1 r => br2 c x1 x2 (jm inf fun t => rc ((tc y).drop t) L r K I P) (rc es L r K I P)
    | .tableswitch _ lo hi _ => pI S fun x r => sw x (jm inf fun t => rc ((tc y).drop t) L r K I P) (fun t => rc ((tc y).drop t) L r K I P) (keysT lo (hi - lo + 1).toNat) inf.tail
    | .lookupswitch _ ps => pI S fun x r => sw x (jm inf fun t => rc ((tc y).drop t) L r K I P) (fun t => rc ((tc y).drop t) L r K I P) (ps.toList.map Prod.fst) inf.tail
    | .ireturn => (match S with
      | [.inl r] => (match inf with
        | [1] => retk K K1 (zb r ∧ Q r I P)
        | _ => retk K K1 (Q r I P))
      | _ => False)
    | .return_ => (match S with
      | [] => retk K K1 (Q (nI 0) I P)
      | _ => False)
    | .invokevirtual _ => cx E d K1 inf L S K I P (rc es)
    | .invokespecial _ => cx E d K1 inf L S K I P (rc es)
    | .invokestatic _ => cx E d K1 inf L S K I P (rc es)
    | i => sx E K1 i inf L S K I P (rc es)
def wpx (E : XE) (d y K1 : Nat) (Q : Int32 → mI → mP → Prop) : Nat → Bool → List En → kont
  | 0, _, _ => fun _ _ _ _ _ => False
  | n + 1, fr, es => match es with
    | [] => fun _ _ _ _ _ => False
    | (pc, hd, i, inf) :: es' => wst E d y K1 Q (wpx E d y K1 Q n false) fr pc hd i inf es'
