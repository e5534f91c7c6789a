theorem beq_e {a b : Nat} (h : Nat.beq a b = true) : a = b := Nat.eq_of_beq_eq_true h
theorem okF_e {y ix j ci f rf : Nat} (h : okF y ix [j, ci, f, rf] = true) : ∃ C T N, cls_[ci]? = some (C, T, N) ∧ f < N ∧ rf = tk ci f ∧ ((nsF j = 0 ∧ Jvm.Cond.fieldLink (cn (mO y)) ix C (T f).2.1 (T f).2.2.1 ∈ wsA) ∨ (nsF j = 1 ∧ Jvm.Cond.fieldLinkNest (cn (mO y)) ix C (T f).2.1 (T f).2.2.1 hostN ∈ wsN)) := by
  unfold okF at h
  dsimp only at h
  cases hj : flT[j]? with
  | none => rw [hj] at h; cases h
  | some q =>
    obtain ⟨o, ix', ci', f', ns, wi⟩ := q
    rw [hj] at h
    simp only [Bool.and_eq_true] at h
    obtain ⟨⟨⟨⟨h1, h2⟩, h3⟩, h4⟩, h5⟩ := h
    have e1 := beq_e h1
    have e2 := beq_e h2
    have e3 := beq_e h3
    have e4 := beq_e h4
    have e5 := beq_e h5
    subst e1; subst e2; subst e3; subst e4; subst e5
    obtain ⟨C, T, N, g1, g2, g3⟩ := ck_fl hj
    refine ⟨C, T, N, g1, g2, rfl, ?_⟩
    unfold nsF
    rw [hj]
    exact g3
theorem okL_e {y ix j ci : Nat} (h : okL y ix [j, ci] = true) : ∃ C T N, cls_[ci]? = some (C, T, N) ∧ Jvm.Cond.classLink (cn (mO y)) ix C ∈ wsA := by
  unfold okL at h
  dsimp only at h
  cases hj : clT[j]? with
  | none => rw [hj] at h; cases h
  | some q =>
    obtain ⟨o, ix', ci', wi⟩ := q
    rw [hj] at h
    simp only [Bool.and_eq_true] at h
    obtain ⟨⟨h1, h2⟩, h3⟩ := h
    have e1 := beq_e h1
    have e2 := beq_e h2
    have e3 := beq_e h3
    subst e1; subst e2; subst e3
    exact ck_cl hj
theorem Tb.warm {E : XE} {s U : State} (hW : s.WarmedH U.vm) (h : Tb E s) : Tb E U := by
  refine ⟨va_K.moved hW.alike h.1, fun w hw => ?_, va_AO.moved hW.alike h.2.2⟩
  have h1 := h.2.1 w hw
  rcases wsN_two hw with ⟨a, i, b, n, d, h2, rfl⟩ | ⟨a, i, x, h2, rfl⟩
  · exact va_Nw.warmF hW h1
  · exact va_Nw.warmM hW h1
theorem Tb.calling {E : XE} {U : State} {g : JFrame} {mk : MethodId} {a : Array Value} (h : Tb E U) : Tb E (U.calling g mk a) := by
  refine ⟨va_K.moved (u := U) (U := U.calling g mk a) (Vm.Alike.refl U.vm) h.1, fun w hw => ?_, va_AO.moved (u := U) (U := U.calling g mk a) (Vm.Alike.refl U.vm) h.2.2⟩
  have h1 := h.2.1 w hw
  rcases wsN_two hw with ⟨a, i, b, n, d, h2, rfl⟩ | ⟨a, i, x, h2, rfl⟩
  · exact va_Nw.same rfl (u := U) (U := U.calling g mk _) rfl h1
  · exact va_Nw.same rfl (u := U) (U := U.calling g mk _) rfl h1
section SZ
variable {p : Program} {l : Launch} {e : Env} {R : Room} {s : State} {m : MethodId} {args : Array Value} {below : List Frame} {meth : Method} {c : Code} {H : Heap} {locs : List Loc} {cells slots : Nat} {Q : State → Prop}
theorem W.sz {g : JFrame} (k : H.size ≤ s.heap.size + cells → W p l e R s m args below meth c H locs cells slots Q g) : W p l e R s m args below meth c H locs cells slots Q g :=
  fun T hT X => k (by rw [← hT]; exact X.heapSize) T hT X
theorem W.csx {g : JFrame} {c1 s1 : Nat} (h1 : c1 = cells) (h2 : s1 = slots) (k : W p l e R s m args below meth c H locs c1 s1 Q g) : W p l e R s m args below meth c H locs cells slots Q g := by
  subst h1; subst h2; exact k
end SZ
theorem hp_size {E : XE} {y K0 K : Nat} {p : Program} {s : State} {m : MethodId} {args : Array Value} {meth : Method} {c : Code} {I : mI} {P : mP} {H : Heap} {locs : List Loc} (hC : Cx E y K0 p s m args meth c) (hW : Wo E K I P H) (hS : va_S (xA E) s.heap H locs) (hk : K0 ≤ K) (hz : H.size ≤ s.heap.size + (K - K0)) : H.size = xh E + (K - 2) := by
  have h1 := hC.k
  have h2 := hC.s
  have h3 := hS.1
  by_cases hK : K = K0
  · subst hK
    omega
  · have h4 := (hW (K - 1 - 2) _ (wl_get (E := E) (K := K) (n := K - 1) (I := I) (P := P) (by omega) (by omega))).lt
    dsimp only at h4
    unfold xad at h4
    rw [if_neg (by omega)] at h4
    omega
theorem sl_cut {K0 K1 K2 : Nat} (h1 : K0 ≤ K1) (h2 : K1 ≤ K2) : sl K1 - sl K0 + (sl K2 - sl K1) = sl K2 - sl K0 := by
  have := sl_mono h1
  have := sl_mono h2
  omega
/-- a new cell at the heap's end -/
theorem wo_new {E : XE} {y K0 K : Nat} {p : Program} {s : State} {m : MethodId} {args : Array Value} {meth : Method} {c : Code} {I : mI} {P : mP} {H H1 : Heap} {locs : List Loc} (hC : Cx E y K0 p s m args meth c) (hW : Wo E K I P H) (hS : va_S (xA E) s.heap H locs) (h2 : 2 ≤ K) (hh : H.size = xh E + (K - 2)) (z1 : H1.size = H.size + 1) (o1 : ∀ q, q < H.size → H1[q]? = H[q]?)
    (hn : va_at (xD E) cls_ (xh E + (K - 2), en E K (sI I K fun _ => 0) (sP P K fun _ => 0)) H1) : Wo E (K + 1) (sI I K fun _ => 0) (sP P K fun _ => 0) H1 ∧ va_S (xA E) s.heap H1 locs := by
  constructor
  · unfold Wo
    rw [wl_push h2, wl_congr (I := I) (P := P) (fun m hm => en_congr (sI_n (by omega)) (sP_n (by omega)))]
    refine va_P.app (va_P.kept hW (fun k q hq => o1 q.1 ((hW k q hq).lt))) (fun k x hx => ?_)
    have hz : k < 1 := (List.getElem?_eq_some_iff.mp hx).1
    rw [show k = 0 by omega] at hx
    cases hx
    exact hn
  · exact ⟨Nat.le_trans hS.1 (by omega), fun x h1 h2 => (o1 x (Nat.lt_of_lt_of_le h1 hS.1)).trans (hS.2.1 x h1 h2), hS.2.2⟩
theorem tk2 {ci k : Nat} (h : tk ci k = 2) (a : Nat) : narrow (tyF ci k) (.ref a) = .ref a ∧ fits (tyF ci k) (.ref a) = true ∧ defaultValue (tyF ci k) = .null := by
  unfold tk at h
  split at h <;> first | (rename_i he; rw [he]; exact ⟨rfl, rfl, rfl⟩) | cases h
theorem tk0 {ci k : Nat} (h : tk ci k = 0) (v : Int32) : tyF ci k = .int := by
  unfold tk at h
  split at h <;> first | assumption | cases h
theorem tk1 {ci k : Nat} (h : tk ci k = 1) : tyF ci k = .boolean := by
  unfold tk at h
  split at h <;> first | assumption | cases h
theorem tk_le {ci k : Nat} (h : tk ci k ≠ 2) (h3 : tk ci k ≤ 2) : defaultValue (tyF ci k) = .int 0 := by
  unfold tk at h h3
  split at h <;> first | (rename_i he; rw [he]; rfl) | exact absurd rfl h | (exfalso; simp_all)
theorem xv_n {E : XE} {K : Nat} (h2 : 2 ≤ K) : xv E (.inr K) = .ref (xh E + (K - 2)) := by
  show Value.ref (xad E K) = _
  unfold xad
  rw [if_neg (by omega)]
