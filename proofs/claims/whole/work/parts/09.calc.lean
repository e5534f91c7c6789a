def wsM (c : Nat) : List Jvm.Cond := Jvm.Cond.code (mN c) (mB c) (mX c) (mR c) :: wsA
def rv (ret : Option FieldType) (r : Int32) : Option Value := match ret with
  | none => none
  | some _ => some (.int r)
def Qm (E : XE) (c K1 : Nat) (Q : Int32 → mI → mP → Prop) : Array Value → State → Outcome → State → Prop := fun _ st o t => (∃ r I P, o = .returned (rv (mR c) r) ∧ Q r I P ∧ Wo E K1 I P t.heap) ∧ va_F (xA E) st t
def Pm (E : XE) (as : List cv) (K : Nat) (I : mI) (P : mP) : Array Value → State → Prop := fun v U => v = (as.map (xv E)).toArray ∧ Tb E U ∧ Wo E K I P U.heap ∧ va_X (xb E) (xL E) (xx E) U U.heap ∧ xb E < xh E ∧ 2 ≤ K ∧ U.heap.size = xh E + (K - 2)
def rmM (d K K1 : Nat) : Room := { frames := d, cells := K1 - K, slots := sl K1 - sl K, locals := 64 * d }
theorem call_Met {E : XE} {d c K K1 : Nat} {Q : Int32 → mI → mP → Prop} {as : List cv} {I : mI} {P : mP} (hc : c < nC) (hlen : as.length ≤ mX c) (hK : K ≤ K1) (hV : V E d c K1 Q 0 (as.map some ++ List.replicate (mX c - as.length) none) [] K I P) :
    Met (xl E) (mN c) (wsM c) (rmM d K K1) (Pm E as K I P) (Qm E c K1 Q) (K1 - K) (sl K1 - sl K) (xA E) := by
  refine Met.ofW (cc := mB c) (maxL := mX c) (ret := mR c) (ws' := wsA) (ck_m hc).1 rfl ?_
  intro p e s m args below meth cc s₁ B hml hv
  obtain ⟨rfl, hT, hW, hX, hb1, hk2, hz⟩ := hv
  have hts := atoms_spec (ws := wsM c) B.pre
  rw [lg_entry_eq]
  have hL := LH.entry E as hlen
  have hw := hV p e (headSpec (wsM c) (rmM d K K1)).room s m _ below meth cc (MQ below (Qm E c K1 Q) (as.map (xv E)).toArray s (K1 - K) (sl K1 - sl K) (xA E)) K
    ⟨B.exec, B.bytes, hml, findClass_of_methodNamed B.named, fun w hw => hts w (List.mem_cons_of_mem _ hw), fun _ => (name_of_methodNamed B.named B.method).1, hT, hX, hb1, hk2, hz⟩
    (fun r I P H ls locs pc hq hWo hS => ⟨fun hr hd => W.vret B.exec B.bytes (B.returns.trans hr) (fun t ht _ => ⟨⟨r, I, P, by rw [hr]; rfl, hq, by rw [ht]; exact hWo⟩, hS.F ht⟩) hS.2.2 hd B.notSynchronized,
      fun ty hr hn hd => W.zret B.exec B.bytes (B.returns.trans hr) hn (fun t ht _ => ⟨⟨r, I, P, by rw [hr]; rfl, hq, by rw [ht]; exact hWo⟩, hS.F ht⟩) hS.2.2 hd B.notSynchronized⟩)
    (Nat.le_refl _) (Nat.le_refl _) (Nat.le_refl _) (Nat.le_refl _) (Nat.le_refl _) hK s.heap _ [] hW va_S.rf hL
  exact W.csx (Nat.sub_self K) (Nat.sub_self (sl K)) hw
theorem Pm.blind {E : XE} {as : List cv} {K : Nat} {I : mI} {P : mP} : FrameBlind (Pm E as K I P) := by
  intro a U g mk h
  obtain ⟨h1, h2, h3, h4, h5, h6, h7⟩ := h
  exact ⟨h1, h2.calling, h3, va_X.moved (u := U) (U := U.calling g mk a) (Vm.Alike.refl U.vm) h4, h5, h6, h7⟩
section BACK
variable {p : Program} {l : Launch} {e : Env} {R : Room} {s : State} {m : MethodId} {args : Array Value} {below : List Frame} {meth : Method} {c : Code} {H : Heap} {locs : List Loc} {cells slots : Nat} {Z : State → Prop}
variable {pc : Nat} {ls : Array Slot} {rest st0 : List Value} {a : Array Value} {H0 : Heap} {mc ms : Nat}
theorem x_back {E : XE} {y K1 : Nat} {Q : Int32 → mI → mP → Prop} (hr : va_Run p l e R s m args below meth c H locs cells slots mc ms (F0 m pc ls st0) rest (Qm E y K1 Q a) (xA E)) (hS : va_S (xA E) H0 H locs)
    (kk : ∀ (r : Int32) (I : mI) (P : mP) (H1 : Heap) (locs1 : List Loc), Q r I P → Wo E K1 I P H1 → va_S (xA E) H0 H1 locs1 → W p l e R s m args below meth c H1 locs1 (cells + mc) (slots + ms) Z (F0 m (pc + 3) ls ((rv (mR y) r).toList ++ rest))) : W p l e R s m args below meth c H locs cells slots Z (F0 m pc ls st0) := by
  intro T hT X
  obtain ⟨v, st₀, t, T', L, h0, X', hL, e1, e2, ⟨⟨r, I, P, hv, hp, hb⟩, hz, hk⟩, st⟩ := hr T hT X
  cases hv
  rw [h0] at hz hk
  obtain ⟨t2, a1, b1⟩ := kk r I P T'.heap (locs ++ L) hp (by rw [e1]; exact hb)
    ⟨Nat.le_trans hS.1 (by rw [e1]; exact hz), fun q h1 h2 => by rw [e1, hk q (Nat.lt_of_lt_of_le h1 hS.1) h2]; exact hS.2.1 q h1 h2, fun q hq => by
      rcases List.mem_append.mp hq with h | h
      · exact hS.2.2 q h
      · exact hL q h⟩ T' rfl X'
  exact ⟨t2, st t2 a1, b1⟩
end BACK
theorem rcv0_e {ci K : Nat} {T : List cv} {X : Prop} (h : rcv 0 ci K T X) : ∃ a T', T = .inr a :: T' ∧ kk K a = (0, ci) ∧ X := by
  cases T with
  | nil => exact False.elim h
  | cons v T' =>
    cases v with
    | inl x => exact False.elim h
    | inr a => exact ⟨a, T', rfl, h⟩
theorem rcv1_e {ci K : Nat} {T : List cv} {X : Prop} (h : rcv 1 ci K T X) : ∃ a T', T = .inr a :: T' ∧ X := by
  cases T with
  | nil => exact False.elim h
  | cons v T' =>
    cases v with
    | inl x => exact False.elim h
    | inr a => exact ⟨a, T', rfl, h⟩
theorem stk {S T : List cv} {n : Nat} {v : cv} (h : S.drop (n - 1) = v :: T) (hn : 1 ≤ n) : S = S.take (n - 1) ++ v :: T ∧ S.drop n = T ∧ (S.take n).reverse = v :: (S.take (n - 1)).reverse := by
  obtain ⟨k, rfl⟩ : ∃ k, n = k + 1 := ⟨n - 1, by omega⟩
  rw [Nat.add_sub_cancel] at h ⊢
  refine ⟨by rw [← h, List.take_append_drop], ?_, ?_⟩
  · rw [← List.drop_drop, h]
    rfl
  · have h1 : S[k]? = some v := by
      have := List.getElem?_drop (xs := S) (i := k) (j := 0)
      rw [h] at this
      simpa using this.symm
    rw [List.take_succ, h1]
    simp
theorem good_M {c : Nat} (hc : c < nC) : GoodIn wsA (wsM c) := by
  intro w hw
  have h1 : w ∈ wsA := by
    rcases List.mem_cons.mp hw with rfl | h
    · exact (ck_m hc).2.1
    · exact h
  exact ⟨h1, wsA_good h1⟩
theorem okC_e {y ix q0 j c n al rt mx q ci : Nat} (h : okC y ix q0 [j, c, n, al, rt, mx, q, ci] = true) : (∃ ns wi, mlT[j]? = some (mO y, ix, c, ns, wi)) ∧ c < nC ∧ q = mK c ∧ q = q0 ∧ n = (if q = 2 then mA c else mA c + 1) ∧ mx = mX c ∧ n ≤ mx ∧ ci = mO c ∧ ((mR c = none ∧ rt = 0) ∨ (∃ ty, mR c = some ty) ∧ rt = 1) := by
  unfold okC at h
  dsimp only at h
  simp only [Bool.and_eq_true] at h
  obtain ⟨⟨⟨⟨⟨⟨⟨⟨h0, h1⟩, h2⟩, h3⟩, h4⟩, h5⟩, h6⟩, h7⟩, h8⟩ := h
  refine ⟨?_, Nat.le_of_ble_eq_true h1, beq_e h2, beq_e h3, beq_e h4, beq_e h5, Nat.le_of_ble_eq_true h6, beq_e h7, ?_⟩
  · cases hj : mlT[j]? with
    | none => rw [hj] at h0; cases h0
    | some x =>
      obtain ⟨o, ix', c', ns, wi⟩ := x
      rw [hj] at h0
      simp only [Bool.and_eq_true] at h0
      obtain ⟨⟨g1, g2⟩, g3⟩ := h0
      have e1 := beq_e g1
      have e2 := beq_e g2
      have e3 := beq_e g3
      subst e1; subst e2; subst e3
      exact ⟨ns, wi, rfl⟩
  · cases hr : mR c with
    | none => rw [hr] at h8; exact Or.inl ⟨rfl, beq_e h8⟩
    | some ty => rw [hr] at h8; exact Or.inr ⟨⟨ty, rfl⟩, beq_e h8⟩
theorem okJ_e {y ix q0 j w : Nat} (h : okC y ix q0 [j, w] = true) : Jvm.Cond.methodLink (cn (mO y)) ix (jN w) ∈ wsA ∧ q0 = (if w = 0 then 1 else 2) := by
  unfold okC at h
  dsimp only at h
  cases hj : jlT[j]? with
  | none => rw [hj] at h; cases h
  | some x =>
    obtain ⟨o, ix', w', wi⟩ := x
    rw [hj] at h
    simp only [Bool.and_eq_true] at h
    obtain ⟨⟨⟨g1, g2⟩, g3⟩, g4⟩ := h
    have e1 := beq_e g1
    have e2 := beq_e g2
    have e3 := beq_e g3
    subst e1; subst e2; subst e3
    exact ⟨ck_jl hj, beq_e g4⟩
set_option maxHeartbeats 4000000 in
theorem call_go {E : XE} {d y K1 pc K ix q0 : Nat} {Q : Int32 → mI → mP → Prop} {j c0 n al rt mx q ci : Nat} {L : List (Option cv)} {S : List cv} {I : mI} {P : mP} {k : kont} (hy : y < nM) (ho : okC y ix q0 [j, c0, n, al, rt, mx, q, ci] = true)
    (hd : decode (mB y) pc = .ok (ivk q0 ix, 3))
    (hlen : (S.take n).length = n) (h8 : (S.drop n).length ≤ 8) (hal : K + al ≤ K1 ∨ al = 0) (hrc : rcv q ci K (S.drop (n - 1)) True)
    (hV : V E d c0 (K + al) (fun r I' P' => k L (rtk rt r (S.drop n)) (K + al) I' P') 0 ((S.take n).reverse.map some ++ List.replicate (mx - n) none) [] K I P)
    (hk : ∀ L S K I P, k L S K I P → V E (d + 1) y K1 Q (pc + 3) L S K I P) : V E (d + 1) y K1 Q pc L S K I P := by
  obtain ⟨⟨ns, wi, hj⟩, hc, hq, hq0, hn, hmx, hnm, hci, hrt⟩ := okC_e ho
  obtain ⟨hpl, hcode, hini, hcls, hnp, hmX, hkind⟩ := ck_m hc
  have hown := ck_own hy
  subst hmx
  have hlen' : (S.take n).reverse.length = n := by rw [List.length_reverse, hlen]
  have hM := call_Met (E := E) (as := (S.take n).reverse) hc (by rw [hlen']; exact hnm) (Nat.le_add_right K al) (by rw [hlen']; exact hV)
  exact fun p e R s m args below meth c Z K0 hC hR a1 a2 a3 a4 a5 a6 H ls locs hW hS hL => W.sz fun hz => by
    have hh := hp_size hC hW hS a5 hz
    have hk0 := hC.k
    have hal' : K + al ≤ K1 := by omega
    have hm0 := sl_mono a5
    have hm1 := sl_mono (Nat.le_add_right K al)
    have hm2 := sl_mono hal'
    have hRm : (rmM d K (K + al)).frames + 1 ≤ R.frames ∧ 8 + (mX c0 + 11) + (rmM d K (K + al)).locals ≤ R.locals := ⟨a1, by show 8 + (mX c0 + 11) + 64 * d ≤ _; omega⟩
    have hf : K - K0 + (K + al - K) ≤ R.cells ∧ sl K - sl K0 + (sl (K + al) - sl K) ≤ R.slots := by omega
    have hpre : ∀ U : State, U.heap = H → s.WarmedH U.vm → Pm E (S.take n).reverse K I P (((S.take n).reverse.map (xv E)).toArray) U := fun U hU hWm =>
      ⟨rfl, hC.T.warm hWm, by rw [hU]; exact hW, va_X.moved hWm.alike (va_X.kept hC.X (by rw [hU]; exact hS.2.1 (xb E) (by have := hC.bl; have := hC.s; omega) (fun q => absurd hC.bl (Nat.not_lt.mpr q)))), hC.bl, by omega, by rw [hU]; exact hh⟩
    have fin : ∀ (g0 : List Value), g0 = S.map (xv E) → ∀ {a : Array Value}, va_Run p (xl E) e R s m args below meth c H locs (K - K0) (sl K - sl K0) (K + al - K) (sl (K + al) - sl K) (F0 m pc ls g0) ((S.drop n).map (xv E)) (Qm E c0 (K + al) (fun r I' P' => k L (rtk rt r (S.drop n)) (K + al) I' P') a) (xA E) → W p (xl E) e R s m args below meth c H locs (K - K0) (sl K - sl K0) Z (F0 m pc ls (S.map (xv E))) := by
      intro g0 hg0 a hr
      subst hg0
      refine x_back hr hS fun r I' P' H1 locs1 hq1 hW1 hS1 => ?_
      refine W.csx (c1 := K + al - K0) (s1 := sl (K + al) - sl K0) (by omega) (by omega) ?_
      rcases hrt with ⟨hr0, rfl⟩ | ⟨⟨ty, hr0⟩, rfl⟩
      · rw [hr0]
        exact hk _ _ _ _ _ hq1 p e R s m args below meth c Z K0 hC hR a1 a2 a3 a4 (Nat.le_trans a5 (Nat.le_add_right K al)) hal' H1 ls locs1 hW1 hS1 hL
      · rw [hr0]
        exact hk _ _ _ _ _ hq1 p e R s m args below meth c Z K0 hC hR a1 a2 a3 a4 (Nat.le_trans a5 (Nat.le_add_right K al)) hal' H1 ls locs1 hW1 hS1 hL
    have hrest : 2 * (F0 m pc ls (S.map (xv E))).monitorRoom + (((S.drop n).map (xv E)).map fun v => v.category).sum ≤ 8 := lv_room (by rw [cat_sum]; exact h8)
    have hfix : CallFix p m c (mB y) (mX y) s args wsA (mN y).cls := ⟨hC.x, hC.b, hC.m, hC.o, hC.t⟩
    have hsz : ls.size = mX y := hL.2.1
    have hq3 : q = 0 ∨ q = 1 ∨ q = 2 := by
      rcases hkind with ⟨h, -⟩ | ⟨h, -⟩ | ⟨h, -⟩ <;> omega
    subst hq0
    rcases hq3 with rfl | rfl | rfl
    · -- virtual
      rw [if_neg (by decide)] at hn
      obtain ⟨a, T, hT, hka, -⟩ := rcv0_e hrc
      · skip
        obtain ⟨hS0, hSd, hSr⟩ := stk hT (by omega)
        obtain ⟨haK, hkd, ha2⟩ := kk_obj hka
        rcases hkind with ⟨-, hin, hsel⟩ | ⟨h, -⟩ | ⟨h, -⟩
        · obtain ⟨C, Tt, N, hcl, hcC⟩ := ck_cls_of hc (by omega)
          have he : (wl E K I P)[a - 2]? = some (xad E a, .inr (mO c0, (List.range (nf (mO c0))).map (fun k => fv E (mO c0) a k I P))) := by rw [wl_get ha2 haK, en_obj (hkd.trans (by rw [hci]))]
          have hrecv := va_recv hC.K hW hcl he
          have hnb : ((S.take (n - 1)).map (xv E)).reverse.length = mA c0 := by rw [List.length_reverse, List.length_map, List.length_take]; have := hlen; rw [List.length_take] at this; omega
          have hst : S.map (xv E) = (((S.take (n - 1)).map (xv E)).reverse).reverse ++ .ref (xad E a) :: (S.drop n).map (xv E) := by
            rw [List.reverse_reverse, hSd]
            conv => lhs; rw [hS0, List.map_append]
            rfl
          have hargs : (Value.ref (xad E a) :: ((S.take (n - 1)).map (xv E)).reverse) = (S.take n).reverse.map (xv E) := by
            rw [hSr, List.map_cons, List.map_reverse]
            rfl
          have hp : PreV s H (mN c0).cls (xad E a) (Pm E (S.take n).reverse K I P) (((S.take (n - 1)).map (xv E)).reverse) := ⟨Pm.blind, by rw [← hcC]; exact hrecv, fun U hU hWm => by rw [hargs]; exact hpre U hU hWm⟩
          rcases ck_ml hj with ⟨-, hlk⟩ | ⟨-, hlk⟩
          · rw [hown] at hlk
            exact fin _ rfl (va_runV hfix hM ⟨callB_of (mA c0) hC.t (good_M hc) rfl rfl rfl (hC.t _ hini) (hC.t _ hlk) ⟨hcls.1, hcls.2, hnp⟩ hRm, hC.t _ hin, hC.t _ hsel⟩ hp rfl hnb hsz hst hrest hd hf)
          · rw [hown] at hlk
            exact fin _ rfl (va_runVN hfix hM ⟨va_cnB (mA c0) hC.t (good_M hc) rfl rfl rfl (hC.T.2.1 _ hlk) (hC.t _ hini) ⟨hcls.1, hcls.2, hnp⟩ hRm, hC.t _ hin, hC.t _ hsel⟩ hp rfl hnb hsz hst hrest hd hf)
        · omega
        · omega
    · -- constructor
      rw [if_neg (by decide)] at hn
      obtain ⟨a, T, hT, -⟩ := rcv1_e hrc
      · skip
        obtain ⟨hS0, hSd, hSr⟩ := stk hT (by omega)
        rcases hkind with ⟨h, -⟩ | ⟨-, hin, hnm1, hrn⟩ | ⟨h, -⟩
        · omega
        · have hnb : ((S.take (n - 1)).map (xv E)).reverse.length = mA c0 := by rw [List.length_reverse, List.length_map, List.length_take]; have := hlen; rw [List.length_take] at this; omega
          have hst : S.map (xv E) = (((S.take (n - 1)).map (xv E)).reverse).reverse ++ .ref (xad E a) :: (S.drop n).map (xv E) := by
            rw [List.reverse_reverse, hSd]
            conv => lhs; rw [hS0, List.map_append]
            rfl
          have hargs : (Value.ref (xad E a) :: ((S.take (n - 1)).map (xv E)).reverse) = (S.take n).reverse.map (xv E) := by
            rw [hSr, List.map_cons, List.map_reverse]
            rfl
          have hp : PreS s H (Pm E (S.take n).reverse K I P) (Value.ref (xad E a) :: ((S.take (n - 1)).map (xv E)).reverse) := ⟨Pm.blind, fun U hU hWm => by rw [hargs]; exact hpre U hU hWm⟩
          rcases ck_ml hj with ⟨-, hlk⟩ | ⟨-, hlk⟩
          · rw [hown] at hlk
            have cb := callB_of (R := R) (rm := rmM d K (K + al)) (mc := K + al - K) (ms := sl (K + al) - sl K) (ret := mR c0) (bytes := mB c0) (maxL := mX c0) (ws := wsM c0) (mA c0) hC.t (good_M hc) rfl rfl rfl (hC.t _ hini) (hC.t _ hlk) ⟨hcls.1, hcls.2, hnp⟩ hRm
            rw [hrn] at cb
            exact fin _ rfl (va_runI hfix hM ⟨cb, hnm1, hC.t _ hin⟩ hp rfl hnb hsz hst hrest hd hf)
          · rw [hown] at hlk
            have cb := va_cnB (R := R) (rm := rmM d K (K + al)) (mc := K + al - K) (ms := sl (K + al) - sl K) (ret := mR c0) (bytes := mB c0) (maxL := mX c0) (ws := wsM c0) (mA c0) hC.t (good_M hc) rfl rfl rfl (hC.T.2.1 _ hlk) (hC.t _ hini) ⟨hcls.1, hcls.2, hnp⟩ hRm
            rw [hrn] at cb
            exact fin _ rfl (va_runIN hfix hM ⟨cb, hnm1, hC.t _ hin⟩ hp rfl hnb hsz hst hrest hd hf)
        · omega
    · -- static
      rw [if_pos rfl] at hn
      rcases hkind with ⟨h, -⟩ | ⟨h, -⟩ | ⟨-, hstt⟩
      · omega
      · omega
      · have hnb : ((S.take n).reverse.map (xv E)).length = mA c0 := by rw [List.length_map, List.length_reverse, hlen]; exact hn
        have hst : S.map (xv E) = ((S.take n).reverse.map (xv E)).reverse ++ (S.drop n).map (xv E) := by
          rw [← List.map_reverse, List.reverse_reverse, ← List.map_append, List.take_append_drop]
        have hp : PreS s H (Pm E (S.take n).reverse K I P) ((S.take n).reverse.map (xv E)) := ⟨Pm.blind, hpre⟩
        rcases ck_ml hj with ⟨-, hlk⟩ | ⟨-, hlk⟩
        · rw [hown] at hlk
          exact fin _ rfl (va_runS hfix hM ⟨callB_of (mA c0) hC.t (good_M hc) rfl rfl rfl (hC.t _ hini) (hC.t _ hlk) ⟨hcls.1, hcls.2, hnp⟩ hRm, hC.t _ hstt⟩ hp rfl hnb hsz hst hrest hd hf)
        · rw [hown] at hlk
          exact fin _ rfl (va_runSN hfix hM ⟨va_cnB (mA c0) hC.t (good_M hc) rfl rfl rfl (hC.T.2.1 _ hlk) (hC.t _ hini) ⟨hcls.1, hcls.2, hnp⟩ hRm, hC.t _ hstt, trivial⟩ hp rfl hnb hsz hst hrest hd hf)
