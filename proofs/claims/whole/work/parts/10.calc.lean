set_option maxHeartbeats 4000000 in
theorem jdk_go {E : XE} {d y K1 pc K ix j w q0 : Nat} {Q : Int32 → mI → mP → Prop} {L : List (Option cv)} {S : List cv} {I : mI} {P : mP} {k : kont} (hy : y < nM) (ho : okC y ix q0 [j, w] = true)
    (hd : decode (mB y) pc = .ok (ivk q0 ix, 3))
    (h : jx d w L S K I P k) (hk : ∀ L S K I P, k L S K I P → V E d y K1 Q (pc + 3) L S K I P) : V E d y K1 Q pc L S K I P := by
  obtain ⟨hlk, hq⟩ := okJ_e ho
  have hown := ck_own hy
  rw [hown] at hlk
  have hcase : w = 0 ∨ w = 1 ∨ w = 2 ∨ ∃ w', w = w' + 3 := by
    by_cases h3 : w < 3
    · omega
    · exact Or.inr (Or.inr (Or.inr ⟨w - 3, by omega⟩))
  rcases hcase with rfl | rfl | rfl | ⟨w', rfl⟩
  · obtain ⟨d', rfl, hb, g⟩ := jx0_e h
    clear h
    · skip
      · skip
        obtain ⟨a, r, rfl, g2⟩ := pR_e g
        have hlen : (r.length) ≤ 8 := by rw [List.length_cons] at hb; omega
        rw [if_pos rfl] at hq
        subst hq
        exact fun p e R s m args below meth c Z K0 hC hR a1 a2 a3 a4 a5 a6 H ls locs hW hS hL => by
          have hrm := lv_room (m := m) (pc := pc) (ls := ls) (rest := (Sum.inr a :: r : List cv).map (xv E)) (st := r.map (xv E)) (by rw [cat_sum]; exact hlen)
          refine W.objInit hC.x hC.b hC.o (hC.t _ hlk) (hC.t _ ck_oi) (hC.t _ ck_oc) rfl (by rw [hC.m]; exact hL.2.1) rfl hd (by omega) (by omega) ?_
          exact hk _ _ _ _ _ g2 p e R s m args below meth c Z K0 hC hR a1 a2 a3 a4 a5 a6 H ls locs hW hS hL
  · obtain ⟨d', rfl, hb, g⟩ := jx1_e h
    clear h
    · skip
      · skip
        obtain ⟨y', r, rfl, g2⟩ := pI_e g
        obtain ⟨x', r, rfl, g3⟩ := pI_e g2
        have hlen : (r.length) ≤ 8 := by rw [List.length_cons, List.length_cons] at hb; omega
        rw [if_neg (by omega)] at hq
        subst hq
        exact fun p e R s m args below meth c Z K0 hC hR a1 a2 a3 a4 a5 a6 H ls locs hW hS hL => va_mmax hC.x hC.b (hC.m.trans hL.2.1.symm) hC.o (hC.t _ hlk) (hC.t _ ck_xs) (hC.t _ ck_mi) (hC.t _ ck_xc) (by omega) (by rw [cat_sum]; omega) (by omega) (by have := sl_mono a6; omega) hd (hk _ _ _ _ _ g3 p e R s m args below meth c Z K0 hC hR a1 a2 a3 a4 a5 a6 H ls locs hW hS hL)
  · obtain ⟨d', rfl, hb, g⟩ := jx2_e h
    clear h
    · skip
      · skip
        obtain ⟨y', r, rfl, g2⟩ := pI_e g
        obtain ⟨x', r, rfl, g3⟩ := pI_e g2
        have hlen : (r.length) ≤ 8 := by rw [List.length_cons, List.length_cons] at hb; omega
        rw [if_neg (by omega)] at hq
        subst hq
        exact fun p e R s m args below meth c Z K0 hC hR a1 a2 a3 a4 a5 a6 H ls locs hW hS hL => va_mmin hC.x hC.b (hC.m.trans hL.2.1.symm) hC.o (hC.t _ hlk) (hC.t _ ck_ns) (hC.t _ ck_mi) (hC.t _ ck_nc) (by omega) (by rw [cat_sum]; omega) (by omega) (by have := sl_mono a6; omega) hd (hk _ _ _ _ _ g3 p e R s m args below meth c Z K0 hC hR a1 a2 a3 a4 a5 a6 H ls locs hW hS hL)
  · obtain ⟨d', rfl, hb, g⟩ := jx3_e h
    clear h
    · skip
      · skip
        obtain ⟨n, r, rfl, g2⟩ := pI_e g
        obtain ⟨dp, r, rfl, g3⟩ := pI_e g2
        obtain ⟨b1, r, rfl, g4⟩ := pR_e g3
        obtain ⟨sp, r, rfl, g5⟩ := pI_e g4
        obtain ⟨b0, r, rfl, hk0, hk1, h1, h2, h3, h4, h5, g6⟩ := pR_e g5
        have hlen : (r.length) ≤ 8 := by simp only [List.length_cons] at hb; omega
        obtain ⟨g0K, g0d, g02⟩ := kk_in (K := K) (a := b0) (by rw [hk0]; decide)
        obtain ⟨g1K, g1d, g12⟩ := kk_in (K := K) (a := b1) (by rw [hk1]; decide)
        rw [g0d] at hk0 h4
        rw [g1d] at hk1 h5
        have he0 := wl_get (E := E) (I := I) (P := P) g02 g0K
        rw [en_int hk0] at he0
        have he1 := wl_get (E := E) (I := I) (P := P) g12 g1K
        rw [en_int hk1] at he1
        have hset : (wl E K I P).set (b1 - 2) (xad E b1, .inl (xI E, (kd b1).2, .inl (va_cpy (I b0) (I b1) sp.toNatClampNeg dp.toNatClampNeg n.toNatClampNeg))) = wl E K (sI I b1 (va_cpy (I b0) (I b1) sp.toNatClampNeg dp.toNatClampNeg n.toNatClampNeg)) P := by
          have h1 : en E b1 (sI I b1 (va_cpy (I b0) (I b1) sp.toNatClampNeg dp.toNatClampNeg n.toNatClampNeg)) P = .inl (xI E, (kd b1).2, .inl (va_cpy (I b0) (I b1) sp.toNatClampNeg dp.toNatClampNeg n.toNatClampNeg)) := by rw [en_int hk1, sI_s]
          rw [← h1]
          exact wl_set g12 (fun m hm => en_congr (sI_n hm) rfl)
        rw [if_neg (by omega)] at hq
        subst hq
        have hnw : nativeFrameWords "java/lang/System" "arraycopy" 5 ≤ 16 := by decide +kernel
        exact fun p e R s m args below meth c Z K0 hC hR a1 a2 a3 a4 a5 a6 H ls locs hW hS hL => va_copyi (ty := .int) hC.x hC.b (hC.m.trans hL.2.1.symm) hC.o (hC.t _ hlk) (hC.t _ ck_an) (hC.t _ ck_as) (hC.t _ ck_ai) hC.K hW (wl_D E K I P) hS (b0 - 2) (b1 - 2) 0 0 he0 he1 rfl rfl rfl h1 h2 h3 h4 h5 (fun _ _ => rfl) (by omega) (by rw [cat_sum]; omega) hd (fun H1 locs1 hP1 _ hS1 => hk _ _ _ _ _ g6 p e R s m args below meth c Z K0 hC hR a1 a2 a3 a4 a5 a6 H1 ls locs1 (by rw [hset] at hP1; exact hP1) hS1 hL)
set_option maxHeartbeats 4000000 in
theorem cx_sound {E : XE} {d y K1 pc K ix q0 : Nat} {Q : Int32 → mI → mP → Prop} {inf : List Nat} {L : List (Option cv)} {S : List cv} {I : mI} {P : mP} {k : kont} (hy : y < nM) (ho : okC y ix q0 inf = true)
    (hd : decode (mB y) pc = .ok (ivk q0 ix, 3))
    (h : cx E d K1 inf L S K I P k) (hk : ∀ L S K I P, k L S K I P → V E d y K1 Q (pc + 3) L S K I P) : V E d y K1 Q pc L S K I P := by
  match inf, h, ho with
  | [j, c, n, al, rt, mx, q, ci], h, ho =>
    obtain ⟨d', rfl, h1, h2, hal, hr, g⟩ := cx8_e h
    exact call_go hy ho hd h1 h2 hal hr g hk
  | [j, w], h, ho => exact jdk_go hy ho hd h hk
  | [], h, _ => exact False.elim h
  | [_], h, _ => exact False.elim h
  | [_, _, _], h, _ => exact False.elim h
  | [_, _, _, _], h, _ => exact False.elim h
  | [_, _, _, _, _], h, _ => exact False.elim h
  | [_, _, _, _, _, _], h, _ => exact False.elim h
  | [_, _, _, _, _, _, _], h, _ => exact False.elim h
  | _ :: _ :: _ :: _ :: _ :: _ :: _ :: _ :: _ :: _, h, _ => exact False.elim h
theorem sw_look {y pc : Nat} {x : Int32} {D : Prop} {f : Nat → Prop} {df : Int} : ∀ (ps : List (Int × Int)) (ts : List Nat), okTs y pc (ps.map Prod.snd) ts = true → (∀ q ∈ ps, (kc q.1).toInt = q.1) → sw x D f (ps.map Prod.fst) ts →
    (∃ t, f t ∧ okT y pc (Op.lookupswitch.offset ps df x.toInt) t = true) ∨ (D ∧ Op.lookupswitch.offset ps df x.toInt = df)
  | [], ts, _, _, h => Or.inr ⟨by cases ts <;> exact h, rfl⟩
  | (a, o) :: ps, [], h1, _, _ => by cases h1
  | (a, o) :: ps, t :: ts, h1, h2, h => by
    have h1' : (okT y pc o t && okTs y pc (ps.map Prod.snd) ts) = true := h1
    rw [Bool.and_eq_true] at h1'
    have h' : (x = kc a → f t) ∧ (¬ x = kc a → sw x D f (ps.map Prod.fst) ts) := h
    have ha : (kc a).toInt = a := h2 (a, o) List.mem_cons_self
    by_cases hx : x = kc a
    · have e : Op.lookupswitch.offset ((a, o) :: ps) df x.toInt = o := by
        rw [Op.lookupswitch.offset_cons, if_pos (by rw [hx, ha])]
      exact Or.inl ⟨t, h'.1 hx, by rw [e]; exact h1'.1⟩
    · have e : Op.lookupswitch.offset ((a, o) :: ps) df x.toInt = Op.lookupswitch.offset ps df x.toInt := lv_osw hx ha
      rw [e]
      exact sw_look ps ts h1'.2 (fun q hq => h2 q (List.mem_cons_of_mem _ hq)) (h'.2 hx)
theorem kc_toInt {z : Int} (h1 : -1000 ≤ z) (h2 : z ≤ 3000) : (kc z).toInt = z := by
  rw [← kc_eq]
  exact Int32.toInt_ofInt_of_le (by omega) (by omega)
theorem sw_tab {y pc : Nat} {x : Int32} {D : Prop} {f : Nat → Prop} : ∀ (os : List Int) (ts : List Nat) (lo : Int), -1000 ≤ lo → lo + os.length ≤ 3000 → okTs y pc os ts = true → sw x D f (keysT lo os.length) ts →
    (∃ (t : Nat) (off : Int) (k : Nat), f t ∧ os[k]? = some off ∧ x.toInt = lo + k ∧ okT y pc off t = true) ∨ (D ∧ (x.toInt < lo ∨ lo + os.length ≤ x.toInt))
  | [], ts, lo, _, _, _, h => Or.inr ⟨by cases ts <;> exact h, by simp only [List.length_nil]; omega⟩
  | o :: os, [], lo, _, _, h1, _ => by cases h1
  | o :: os, t :: ts, lo, b1, b2, h1, h => by
    have h1' : (okT y pc o t && okTs y pc os ts) = true := h1
    rw [Bool.and_eq_true] at h1'
    rw [List.length_cons] at b2
    have h' : (x = kc lo → f t) ∧ (¬ x = kc lo → sw x D f (keysT (lo + 1) os.length) ts) := h
    have ha : (kc lo).toInt = lo := kc_toInt b1 (by omega)
    by_cases hx : x = kc lo
    · exact Or.inl ⟨t, o, 0, h'.1 hx, rfl, by rw [hx, ha]; simp, h1'.1⟩
    · have hne : ¬ x.toInt = lo := lv_neT hx ha
      rcases sw_tab os ts (lo + 1) (by omega) (by omega) h1'.2 (h'.2 hx) with ⟨t', off, k, g1, g2, g3, g4⟩ | ⟨g1, g2⟩
      · exact Or.inl ⟨t', off, k + 1, g1, g2, by rw [g3]; omega, g4⟩
      · exact Or.inr ⟨g1, by rw [List.length_cons]; omega⟩
theorem okM_e {y t : Nat} {e : En} (h : okM y = true) (ht : (tc y)[t]? = some e) : okE y t e = true := by
  have hl := (List.getElem?_eq_some_iff.mp ht).1
  have h1 := List.all_eq_true.mp h t (List.mem_range.mpr hl)
  rw [ht] at h1
  exact h1
theorem okT_e {y pc t : Nat} {off : Int} (h : okT y pc off t = true) : ∃ e, (tc y)[t]? = some e ∧ (pc : Int) + off = (e.1 : Int) := by
  unfold okT at h
  cases ht : (tc y)[t]? with
  | none => rw [ht] at h; cases h
  | some e => rw [ht] at h; exact ⟨e, rfl, of_decide_eq_true h⟩
set_option maxHeartbeats 8000000 in
theorem wpx_sound {E : XE} {d y K1 : Nat} {Q : Int32 → mI → mP → Prop} (hy : y < nM) (hM : okM y = true) : ∀ (n : Nat) (fr : Bool) (t : Nat) (L : List (Option cv)) (S : List cv) (K : Nat) (I : mI) (P : mP), wpx E d y K1 Q n fr ((tc y).drop t) L S K I P → ∃ e, (tc y)[t]? = some e ∧ V E d y K1 Q e.1 L S K I P := by
  intro n
  induction n with
  | zero => intro fr t L S K I P h; exact False.elim h
  | succ n ih =>
    intro fr t L S K I P h
    cases ht : (tc y)[t]? with
    | none =>
      rw [List.drop_eq_nil_of_le (List.getElem?_eq_none_iff.mp ht)] at h
      exact False.elim h
    | some e =>
      obtain ⟨pc, hdd, i, inf⟩ := e
      refine ⟨_, rfl, ?_⟩
      have hdr : (tc y).drop t = (pc, hdd, i, inf) :: (tc y).drop (t + 1) := by
        obtain ⟨hl, he⟩ := List.getElem?_eq_some_iff.mp ht
        rw [List.drop_eq_getElem_cons hl, he]
      rw [hdr] at h
      replace h : wst E d y K1 Q (wpx E d y K1 Q n false) fr pc hdd i inf ((tc y).drop (t + 1)) L S K I P := h
      have hok := okM_e hM ht
      unfold okE at hok
      dsimp only at hok
      rw [Bool.and_eq_true, Bool.and_eq_true] at hok
      obtain ⟨⟨hde, hoI⟩, hnx⟩ := hok
      have hde2 : ∃ ln, decode (mB y) pc = .ok (i, ln) ∧ (isSw i = false → ln = il i) := by
        split at hde
        · rename_i i' ln hdc
          rw [Bool.and_eq_true] at hde
          have e1 := of_decide_eq_true hde.1
          subst e1
          exact ⟨ln, hdc, fun hs => by have h2 := hde.2; rw [hs, Bool.false_or] at h2; exact beq_e h2⟩
        · cases hde
      obtain ⟨ln, hdec, hln⟩ := hde2
      have hnext : isSw i = false → ∀ L S K I P, wpx E d y K1 Q n false ((tc y).drop (t + 1)) L S K I P → V E d y K1 Q (pc + il i) L S K I P := by
        intro hs L S K I P hw
        obtain ⟨e', he', hV⟩ := ih false (t + 1) L S K I P hw
        rw [hs, Bool.false_or, he'] at hnx
        have := beq_e hnx
        rw [← this]
        exact hV
      have jmp : ∀ off : Int, tg1 y pc off inf = true → ∃ tgt : Nat, (pc : Int) + off = (tgt : Int) ∧ ∀ L S K I P, jm inf (fun t => wpx E d y K1 Q n false ((tc y).drop t) L S K I P) → V E d y K1 Q tgt L S K I P := by
        intro off hj
        cases inf with
        | nil => cases hj
        | cons t' _ =>
          obtain ⟨e', he', hpc⟩ := okT_e hj
          refine ⟨e'.1, hpc, fun L S K I P hw => ?_⟩
          obtain ⟨e2, he2, hV⟩ := ih false t' L S K I P hw
          cases he'.symm.trans he2
          exact hV
      cases hb : hq hdd fr with
      | some mm =>
        unfold wst at h
        rw [hb] at h
        exact V.lw mm h
      | none =>
        unfold wst at h
        rw [hb] at h
        dsimp only at h
        cases i
        case goto off =>
          obtain ⟨tgt, h1, h2⟩ := jmp off hoI
          have hd := hdec
          rw [hln rfl] at hd
          have hV := h2 _ _ _ _ _ h
          exact fun p e R s m args below meth c Z K0 hC hR a1 a2 a3 a4 a5 a6 H ls locs hW hS hL => lv_goto hC.x hC.b hd h1 (hV p e R s m args below meth c Z K0 hC hR a1 a2 a3 a4 a5 a6 H ls locs hW hS hL)
        case ifCond c off =>
          obtain ⟨tgt, h1, h2⟩ := jmp off hoI
          have hd := hdec
          rw [hln rfl] at hd
          obtain ⟨x, r, rfl, g⟩ := pI_e h
          clear h
          have hn := hnext rfl
          cases c
          case eq => exact fun p e R s m args below meth c Z K0 hC hR a1 a2 a3 a4 a5 a6 H ls locs hW hS hL => lv_if_eq hC.x hC.b hd h1 (fun q => h2 _ _ _ _ _ (g.1 q) p e R s m args below meth c Z K0 hC hR a1 a2 a3 a4 a5 a6 H ls locs hW hS hL) (fun q => hn _ _ _ _ _ (g.2 q) p e R s m args below meth c Z K0 hC hR a1 a2 a3 a4 a5 a6 H ls locs hW hS hL)
          case ne => exact fun p e R s m args below meth c Z K0 hC hR a1 a2 a3 a4 a5 a6 H ls locs hW hS hL => lv_if_ne hC.x hC.b hd h1 (fun q => h2 _ _ _ _ _ (g.1 q) p e R s m args below meth c Z K0 hC hR a1 a2 a3 a4 a5 a6 H ls locs hW hS hL) (fun q => hn _ _ _ _ _ (g.2 q) p e R s m args below meth c Z K0 hC hR a1 a2 a3 a4 a5 a6 H ls locs hW hS hL)
          case lt => exact fun p e R s m args below meth c Z K0 hC hR a1 a2 a3 a4 a5 a6 H ls locs hW hS hL => lv_if_lt hC.x hC.b hd h1 (fun q => h2 _ _ _ _ _ (g.1 q) p e R s m args below meth c Z K0 hC hR a1 a2 a3 a4 a5 a6 H ls locs hW hS hL) (fun q => hn _ _ _ _ _ (g.2 q) p e R s m args below meth c Z K0 hC hR a1 a2 a3 a4 a5 a6 H ls locs hW hS hL)
          case ge => exact fun p e R s m args below meth c Z K0 hC hR a1 a2 a3 a4 a5 a6 H ls locs hW hS hL => lv_if_ge hC.x hC.b hd h1 (fun q => h2 _ _ _ _ _ (g.1 q) p e R s m args below meth c Z K0 hC hR a1 a2 a3 a4 a5 a6 H ls locs hW hS hL) (fun q => hn _ _ _ _ _ (g.2 q) p e R s m args below meth c Z K0 hC hR a1 a2 a3 a4 a5 a6 H ls locs hW hS hL)
          case gt => exact fun p e R s m args below meth c Z K0 hC hR a1 a2 a3 a4 a5 a6 H ls locs hW hS hL => lv_if_gt hC.x hC.b hd h1 (fun q => h2 _ _ _ _ _ (g.1 q) p e R s m args below meth c Z K0 hC hR a1 a2 a3 a4 a5 a6 H ls locs hW hS hL) (fun q => hn _ _ _ _ _ (g.2 q) p e R s m args below meth c Z K0 hC hR a1 a2 a3 a4 a5 a6 H ls locs hW hS hL)
          case le => exact fun p e R s m args below meth c Z K0 hC hR a1 a2 a3 a4 a5 a6 H ls locs hW hS hL => lv_if_le hC.x hC.b hd h1 (fun q => h2 _ _ _ _ _ (g.1 q) p e R s m args below meth c Z K0 hC hR a1 a2 a3 a4 a5 a6 H ls locs hW hS hL) (fun q => hn _ _ _ _ _ (g.2 q) p e R s m args below meth c Z K0 hC hR a1 a2 a3 a4 a5 a6 H ls locs hW hS hL)
        case if_icmp c off =>
          obtain ⟨tgt, h1, h2⟩ := jmp off hoI
          have hd := hdec
          rw [hln rfl] at hd
          obtain ⟨x2, r, rfl, g0⟩ := pI_e h
          clear h
          obtain ⟨x1, r, rfl, g⟩ := pI_e g0
          have hn := hnext rfl
          cases c
          case eq => exact fun p e R s m args below meth c Z K0 hC hR a1 a2 a3 a4 a5 a6 H ls locs hW hS hL => lv_icmp_eq hC.x hC.b hd h1 (fun q => h2 _ _ _ _ _ (g.1 q) p e R s m args below meth c Z K0 hC hR a1 a2 a3 a4 a5 a6 H ls locs hW hS hL) (fun q => hn _ _ _ _ _ (g.2 q) p e R s m args below meth c Z K0 hC hR a1 a2 a3 a4 a5 a6 H ls locs hW hS hL)
          case ne => exact fun p e R s m args below meth c Z K0 hC hR a1 a2 a3 a4 a5 a6 H ls locs hW hS hL => lv_icmp_ne hC.x hC.b hd h1 (fun q => h2 _ _ _ _ _ (g.1 q) p e R s m args below meth c Z K0 hC hR a1 a2 a3 a4 a5 a6 H ls locs hW hS hL) (fun q => hn _ _ _ _ _ (g.2 q) p e R s m args below meth c Z K0 hC hR a1 a2 a3 a4 a5 a6 H ls locs hW hS hL)
          case lt => exact fun p e R s m args below meth c Z K0 hC hR a1 a2 a3 a4 a5 a6 H ls locs hW hS hL => lv_icmp_lt hC.x hC.b hd h1 (fun q => h2 _ _ _ _ _ (g.1 q) p e R s m args below meth c Z K0 hC hR a1 a2 a3 a4 a5 a6 H ls locs hW hS hL) (fun q => hn _ _ _ _ _ (g.2 q) p e R s m args below meth c Z K0 hC hR a1 a2 a3 a4 a5 a6 H ls locs hW hS hL)
          case ge => exact fun p e R s m args below meth c Z K0 hC hR a1 a2 a3 a4 a5 a6 H ls locs hW hS hL => lv_icmp_ge hC.x hC.b hd h1 (fun q => h2 _ _ _ _ _ (g.1 q) p e R s m args below meth c Z K0 hC hR a1 a2 a3 a4 a5 a6 H ls locs hW hS hL) (fun q => hn _ _ _ _ _ (g.2 q) p e R s m args below meth c Z K0 hC hR a1 a2 a3 a4 a5 a6 H ls locs hW hS hL)
          case gt => exact fun p e R s m args below meth c Z K0 hC hR a1 a2 a3 a4 a5 a6 H ls locs hW hS hL => lv_icmp_gt hC.x hC.b hd h1 (fun q => h2 _ _ _ _ _ (g.1 q) p e R s m args below meth c Z K0 hC hR a1 a2 a3 a4 a5 a6 H ls locs hW hS hL) (fun q => hn _ _ _ _ _ (g.2 q) p e R s m args below meth c Z K0 hC hR a1 a2 a3 a4 a5 a6 H ls locs hW hS hL)
          case le => exact fun p e R s m args below meth c Z K0 hC hR a1 a2 a3 a4 a5 a6 H ls locs hW hS hL => lv_icmp_le hC.x hC.b hd h1 (fun q => h2 _ _ _ _ _ (g.1 q) p e R s m args below meth c Z K0 hC hR a1 a2 a3 a4 a5 a6 H ls locs hW hS hL) (fun q => hn _ _ _ _ _ (g.2 q) p e R s m args below meth c Z K0 hC hR a1 a2 a3 a4 a5 a6 H ls locs hW hS hL)
        case tableswitch df lo hi offs =>
          obtain ⟨x, r, rfl, g⟩ := pI_e h
          clear h
          cases inf with
          | nil => cases hoI
          | cons t0 ts =>
            have hoI : (okT y pc df t0 && okTs y pc offs.toList ts && decide (offs.size = (hi - lo + 1).toNat) && decide (-100 ≤ lo) && decide (hi ≤ 1000) && decide (lo ≤ hi)) = true := hoI
            simp only [Bool.and_eq_true, decide_eq_true_eq] at hoI
            obtain ⟨⟨⟨⟨⟨g1, g2⟩, g3⟩, g4⟩, g5⟩, g6⟩ := hoI
            have hlen : offs.toList.length = (hi - lo + 1).toNat := by rw [Array.length_toList]; exact g3
            rw [← hlen] at g
            rcases sw_tab offs.toList ts lo (by omega) (by omega) g2 g with ⟨t', off, k, q1, q2, q3, q4⟩ | ⟨q1, q2⟩
            · obtain ⟨e', he', hpc⟩ := okT_e q4
              obtain ⟨e2, he2, hV⟩ := ih false t' _ _ _ _ _ q1
              cases he'.symm.trans he2
              have hkl : k < offs.toList.length := (List.getElem?_eq_some_iff.mp q2).1
              exact fun p e R s m args below meth c Z K0 hC hR a1 a2 a3 a4 a5 a6 H ls locs hW hS hL => lv_tableIn hC.x hC.b hdec (by omega) (by omega) (by rw [show (x.toInt - lo).toNat = k by omega, ← Array.getElem?_toList]; exact q2) hpc (hV p e R s m args below meth c Z K0 hC hR a1 a2 a3 a4 a5 a6 H ls locs hW hS hL)
            · obtain ⟨e', he', hpc⟩ := okT_e g1
              obtain ⟨e2, he2, hV⟩ := ih false t0 _ _ _ _ _ q1
              cases he'.symm.trans he2
              exact fun p e R s m args below meth c Z K0 hC hR a1 a2 a3 a4 a5 a6 H ls locs hW hS hL => lv_tableOut hC.x hC.b hdec (by omega) hpc (hV p e R s m args below meth c Z K0 hC hR a1 a2 a3 a4 a5 a6 H ls locs hW hS hL)
        case lookupswitch df ps =>
          obtain ⟨x, r, rfl, g⟩ := pI_e h
          clear h
          cases inf with
          | nil => cases hoI
          | cons t0 ts =>
            have hoI : (okT y pc df t0 && okTs y pc (ps.toList.map Prod.snd) ts && (ps.toList.zip (ps.toList.drop 1)).all (fun (a, next) => a.1 < next.1) && ps.toList.all (fun q => decide ((kc q.1).toInt = q.1))) = true := hoI
            simp only [Bool.and_eq_true] at hoI
            obtain ⟨⟨⟨g1, g2⟩, g3⟩, g4⟩ := hoI
            have g5 : ∀ q ∈ ps.toList, (kc q.1).toInt = q.1 := fun q hq => of_decide_eq_true (List.all_eq_true.mp g4 q hq)
            rcases sw_look (df := df) ps.toList ts g2 g5 g with ⟨t', q1, q2⟩ | ⟨q1, q2⟩
            · obtain ⟨e', he', hpc⟩ := okT_e q2
              obtain ⟨e2, he2, hV⟩ := ih false t' _ _ _ _ _ q1
              cases he'.symm.trans he2
              exact fun p e R s m args below meth c Z K0 hC hR a1 a2 a3 a4 a5 a6 H ls locs hW hS hL => lv_lookup hC.x hC.b hdec g3 rfl hpc (hV p e R s m args below meth c Z K0 hC hR a1 a2 a3 a4 a5 a6 H ls locs hW hS hL)
            · obtain ⟨e', he', hpc⟩ := okT_e g1
              obtain ⟨e2, he2, hV⟩ := ih false t0 _ _ _ _ _ q1
              cases he'.symm.trans he2
              exact fun p e R s m args below meth c Z K0 hC hR a1 a2 a3 a4 a5 a6 H ls locs hW hS hL => lv_lookup hC.x hC.b hdec g3 q2 hpc (hV p e R s m args below meth c Z K0 hC hR a1 a2 a3 a4 a5 a6 H ls locs hW hS hL)
        case ireturn =>
          have hd := hdec
          rw [hln rfl] at hd
          dsimp only at h
          split at h
          · rename_i r
            unfold okI at hoI
            dsimp only at hoI
            split at hoI
            · rename_i hr
              split at hoI
              · obtain ⟨hK, hz, hq⟩ := retk_e h
                subst hK
                exact fun p e R s m args below meth c Z K0 hC hR a1 a2 a3 a4 a5 a6 H ls locs hW hS hL => (hR r I P H ls locs pc hq hW hS).2 _ hr hz hd
              · cases hoI
            · rename_i hr
              split at hoI
              · obtain ⟨hK, hq⟩ := retk_e h
                subst hK
                exact fun p e R s m args below meth c Z K0 hC hR a1 a2 a3 a4 a5 a6 H ls locs hW hS hL => (hR r I P H ls locs pc hq hW hS).2 _ hr rfl hd
              · cases hoI
            · cases hoI
          · exact False.elim h
        case return_ =>
          have hd := hdec
          rw [hln rfl] at hd
          dsimp only at h
          split at h
          · unfold okI at hoI
            dsimp only at hoI
            split at hoI
            · rename_i hr
              obtain ⟨hK, hq⟩ := retk_e h
              subst hK
              exact fun p e R s m args below meth c Z K0 hC hR a1 a2 a3 a4 a5 a6 H ls locs hW hS hL => (hR (nI 0) I P H ls locs pc hq hW hS).1 hr hd
            · cases hoI
          · exact False.elim h
        case invokevirtual ix =>
          have hd := hdec
          rw [hln rfl] at hd
          exact cx_sound (q0 := 0) hy hoI hd h (hnext rfl)
        case invokespecial ix =>
          have hd := hdec
          rw [hln rfl] at hd
          exact cx_sound (q0 := 1) hy hoI hd h (hnext rfl)
        case invokestatic ix =>
          have hd := hdec
          rw [hln rfl] at hd
          exact cx_sound (q0 := 2) hy hoI hd h (hnext rfl)
        all_goals exact sx_sound hy (by rw [hdec, hln rfl]) hoI h (hnext rfl)
/-- the way in: at entry t of the method, which stands at pc -/
theorem V_run {E : XE} {d y K1 pc K : Nat} {Q : Int32 → mI → mP → Prop} {L : List (Option cv)} {S : List cv} {I : mI} {P : mP} (n t : Nat) (hp : ((tc y)[t]?.map Prod.fst) = some pc) (h : wpx E d y K1 Q n true ((tc y).drop t) L S K I P) : V E d y K1 Q pc L S K I P := by
  have hy : y < nM := ck_tc (by
    intro he
    rw [he] at hp
    cases hp)
  obtain ⟨e, he, hV⟩ := wpx_sound hy (ck_ok hy) n true t L S K I P h
  rw [he] at hp
  cases hp
  exact hV
