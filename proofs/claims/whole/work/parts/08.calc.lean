set_option maxHeartbeats 4000000 in
theorem sx_sound {E : XE} {d y K1 pc K : Nat} {Q : Int32 → mI → mP → Prop} {i : Jvm.ClassFile.Instr} {inf : List Nat} {L : List (Option cv)} {S : List cv} {I : mI} {P : mP} {k : kont} (hy : y < nM) (hd : decode (mB y) pc = .ok (i, il i)) (ho : okI y pc i inf = true) (h : sx E K1 i inf L S K I P k)
    (hk : ∀ L S K I P, k L S K I P → V E d y K1 Q (pc + il i) L S K I P) : V E d y K1 Q pc L S K I P := by
  cases i
  case iconst n =>
    exact fun p e R s m args below meth c Z K0 hC hR a1 a2 a3 a4 a5 a6 H ls locs hW hS hL => lv_iconst hC.x hC.b hd (kc_eq n) (hk _ _ _ _ _ h p e R s m args below meth c Z K0 hC hR a1 a2 a3 a4 a5 a6 H ls locs hW hS hL)
  case bipush n =>
    exact fun p e R s m args below meth c Z K0 hC hR a1 a2 a3 a4 a5 a6 H ls locs hW hS hL => lv_bipush hC.x hC.b hd (of_decide_eq_true ho) (hk _ _ _ _ _ h p e R s m args below meth c Z K0 hC hR a1 a2 a3 a4 a5 a6 H ls locs hW hS hL)
  case sipush n =>
    exact fun p e R s m args below meth c Z K0 hC hR a1 a2 a3 a4 a5 a6 H ls locs hW hS hL => lv_sipush hC.x hC.b hd (of_decide_eq_true ho) (hk _ _ _ _ _ h p e R s m args below meth c Z K0 hC hR a1 a2 a3 a4 a5 a6 H ls locs hW hS hL)
  case iload n =>
    obtain ⟨x, hx, h⟩ := gI_e h
    exact fun p e R s m args below meth c Z K0 hC hR a1 a2 a3 a4 a5 a6 H ls locs hW hS hL => lv_iload hC.x hC.b hd (hL.rd hx) (hk _ _ _ _ _ h p e R s m args below meth c Z K0 hC hR a1 a2 a3 a4 a5 a6 H ls locs hW hS hL)
  case iload_n n =>
    obtain ⟨x, hx, h⟩ := gI_e h
    exact fun p e R s m args below meth c Z K0 hC hR a1 a2 a3 a4 a5 a6 H ls locs hW hS hL => lv_iload_n hC.x hC.b hd rfl (hL.rd hx) (hk _ _ _ _ _ h p e R s m args below meth c Z K0 hC hR a1 a2 a3 a4 a5 a6 H ls locs hW hS hL)
  case aload n =>
    obtain ⟨x, hx, h⟩ := gR_e h
    exact fun p e R s m args below meth c Z K0 hC hR a1 a2 a3 a4 a5 a6 H ls locs hW hS hL => lv_aload hC.x hC.b hd (hL.rd hx) (hk _ _ _ _ _ h p e R s m args below meth c Z K0 hC hR a1 a2 a3 a4 a5 a6 H ls locs hW hS hL)
  case aload_n n =>
    obtain ⟨x, hx, h⟩ := gR_e h
    exact fun p e R s m args below meth c Z K0 hC hR a1 a2 a3 a4 a5 a6 H ls locs hW hS hL => lv_aload_n hC.x hC.b hd rfl (hL.rd hx) (hk _ _ _ _ _ h p e R s m args below meth c Z K0 hC hR a1 a2 a3 a4 a5 a6 H ls locs hW hS hL)
  case istore n =>
    obtain ⟨x, r, rfl, h⟩ := pI_e h
    exact fun p e R s m args below meth c Z K0 hC hR a1 a2 a3 a4 a5 a6 H ls locs hW hS hL => lv_istore hC.x hC.b hd hL.2 (Nat.le_of_ble_eq_true ho) rfl (fun ls' hls => hk _ _ _ _ _ h p e R s m args below meth c Z K0 hC hR a1 a2 a3 a4 a5 a6 H ls' locs hW hS (LH.set (v := .inl x) hL hls))
  case istore_n n =>
    obtain ⟨x, r, rfl, h⟩ := pI_e h
    exact fun p e R s m args below meth c Z K0 hC hR a1 a2 a3 a4 a5 a6 H ls locs hW hS hL => lv_istore_n hC.x hC.b hd rfl hL.2 (Nat.le_of_ble_eq_true ho) rfl (fun ls' hls => hk _ _ _ _ _ h p e R s m args below meth c Z K0 hC hR a1 a2 a3 a4 a5 a6 H ls' locs hW hS (LH.set (v := .inl x) hL hls))
  case astore n =>
    obtain ⟨x, r, rfl, h⟩ := pR_e h
    exact fun p e R s m args below meth c Z K0 hC hR a1 a2 a3 a4 a5 a6 H ls locs hW hS hL => lv_astore hC.x hC.b hd hL.2 (Nat.le_of_ble_eq_true ho) rfl (fun ls' hls => hk _ _ _ _ _ h p e R s m args below meth c Z K0 hC hR a1 a2 a3 a4 a5 a6 H ls' locs hW hS (LH.set (v := .inr x) hL hls))
  case astore_n n =>
    obtain ⟨x, r, rfl, h⟩ := pR_e h
    exact fun p e R s m args below meth c Z K0 hC hR a1 a2 a3 a4 a5 a6 H ls locs hW hS hL => lv_astore_n hC.x hC.b hd rfl hL.2 (Nat.le_of_ble_eq_true ho) rfl (fun ls' hls => hk _ _ _ _ _ h p e R s m args below meth c Z K0 hC hR a1 a2 a3 a4 a5 a6 H ls' locs hW hS (LH.set (v := .inr x) hL hls))
  case iinc n z =>
    obtain ⟨x, hx, h⟩ := gI_e h
    obtain ⟨j, hj⟩ := List.getElem?_of_mem (mem_lp.mpr ⟨.inl x, hx, rfl⟩ : (n, xv E (.inl x)) ∈ lp E L)
    exact fun p e R s m args below meth c Z K0 hC hR a1 a2 a3 a4 a5 a6 H ls locs hW hS hL => lv_iinc hC.x hC.b hd hL.2 hj (congrArg (x + ·) (kc_eq z)) (Nat.le_of_ble_eq_true ho) rfl (fun ls' hls => hk _ _ _ _ _ h p e R s m args below meth c Z K0 hC hR a1 a2 a3 a4 a5 a6 H ls' locs hW hS (LH.set (v := .inl (x + kc z)) hL hls))
  case iadd =>
    obtain ⟨y', r, rfl, h⟩ := pI_e h
    obtain ⟨x', r', rfl, h⟩ := pI_e h
    exact fun p e R s m args below meth c Z K0 hC hR a1 a2 a3 a4 a5 a6 H ls locs hW hS hL => lv_iadd hC.x hC.b hd (hk _ _ _ _ _ h p e R s m args below meth c Z K0 hC hR a1 a2 a3 a4 a5 a6 H ls locs hW hS hL)
  case isub =>
    obtain ⟨y', r, rfl, h⟩ := pI_e h
    obtain ⟨x', r', rfl, h⟩ := pI_e h
    exact fun p e R s m args below meth c Z K0 hC hR a1 a2 a3 a4 a5 a6 H ls locs hW hS hL => lv_isub hC.x hC.b hd (hk _ _ _ _ _ h p e R s m args below meth c Z K0 hC hR a1 a2 a3 a4 a5 a6 H ls locs hW hS hL)
  case imul =>
    obtain ⟨y', r, rfl, h⟩ := pI_e h
    obtain ⟨x', r', rfl, h⟩ := pI_e h
    exact fun p e R s m args below meth c Z K0 hC hR a1 a2 a3 a4 a5 a6 H ls locs hW hS hL => lv_imul hC.x hC.b hd (hk _ _ _ _ _ h p e R s m args below meth c Z K0 hC hR a1 a2 a3 a4 a5 a6 H ls locs hW hS hL)
  case iand =>
    obtain ⟨y', r, rfl, h⟩ := pI_e h
    obtain ⟨x', r', rfl, h⟩ := pI_e h
    exact fun p e R s m args below meth c Z K0 hC hR a1 a2 a3 a4 a5 a6 H ls locs hW hS hL => lv_iand hC.x hC.b hd (hk _ _ _ _ _ h p e R s m args below meth c Z K0 hC hR a1 a2 a3 a4 a5 a6 H ls locs hW hS hL)
  case ior =>
    obtain ⟨y', r, rfl, h⟩ := pI_e h
    obtain ⟨x', r', rfl, h⟩ := pI_e h
    exact fun p e R s m args below meth c Z K0 hC hR a1 a2 a3 a4 a5 a6 H ls locs hW hS hL => lv_ior hC.x hC.b hd (hk _ _ _ _ _ h p e R s m args below meth c Z K0 hC hR a1 a2 a3 a4 a5 a6 H ls locs hW hS hL)
  case ishl =>
    obtain ⟨y', r, rfl, h⟩ := pI_e h
    obtain ⟨x', r', rfl, h⟩ := pI_e h
    exact fun p e R s m args below meth c Z K0 hC hR a1 a2 a3 a4 a5 a6 H ls locs hW hS hL => lv_ishl hC.x hC.b hd (hk _ _ _ _ _ h p e R s m args below meth c Z K0 hC hR a1 a2 a3 a4 a5 a6 H ls locs hW hS hL)
  case dup =>
    cases S with
    | nil => exact False.elim h
    | cons v r => exact fun p e R s m args below meth c Z K0 hC hR a1 a2 a3 a4 a5 a6 H ls locs hW hS hL => lv_dup hC.x hC.b hd (xv_cat E v) (hk _ _ _ _ _ h p e R s m args below meth c Z K0 hC hR a1 a2 a3 a4 a5 a6 H ls locs hW hS hL)
  case getfield ix =>
    have h : gtF inf L S K I P k := h
    have ho : okF y ix inf = true := ho
    obtain ⟨j, ci, f, rf, rfl, a, r, rfl, hka, h⟩ := gtF_e h
    obtain ⟨C, T, N, hc, hf, hrf, hlk⟩ := okF_e ho
    obtain ⟨hcw, -, -, hdc, -⟩ := ck_cls hc
    obtain ⟨haK, hkd, ha2⟩ := kk_obj hka
    have hnf : nf ci = N := nf_of hc
    have he : (wl E K I P)[a - 2]? = some (xad E a, .inr (ci, (List.range N).map (fun k => fv E ci a k I P))) := by
      rw [wl_get ha2 haK, en_obj hkd, hnf]
    have hown := ck_own hy
    have go : ∀ v : cv, fv E ci a f I P = xv E v → k L (v :: r) K I P → V E d y K1 Q pc L (.inr a :: r) K I P := by
      intro v hv h
      have hv : ((List.range N).map (fun k => fv E ci a k I P))[f]? = some (xv E v) := by rw [fs_get hf, hv]
      rcases hlk with ⟨-, hlk⟩ | ⟨-, hlk⟩
      · exact fun p e R s m args below meth c Z K0 hC hR a1 a2 a3 a4 a5 a6 H ls locs hW hS hL => va_get hC.x hC.b hC.t hcw (by rw [hown]; exact hC.o) hC.K hW (a - 2) he hc f hf (hC.t _ hlk) (fun x hx => by rw [hdc f hf] at hx; exact hx) hv hd (hk _ _ _ _ _ h p e R s m args below meth c Z K0 hC hR a1 a2 a3 a4 a5 a6 H ls locs hW hS hL)
      · exact fun p e R s m args below meth c Z K0 hC hR a1 a2 a3 a4 a5 a6 H ls locs hW hS hL => va_getN hC.x hC.b hC.t hcw (by rw [hown]; exact hC.o) hC.K hW (a - 2) he hc f hf (va_Nw.use rfl (hC.T.2.1 _ hlk)) (fun x hx => by rw [hdc f hf] at hx; exact hx) hv hd (hk _ _ _ _ _ h p e R s m args below meth c Z K0 hC hR a1 a2 a3 a4 a5 a6 H ls locs hW hS hL)
    rcases h with ⟨hr2, hp, h⟩ | ⟨hne, h⟩
    · exact go (.inr (P a f)) (by unfold fv; rw [if_pos (hrf.symm.trans hr2), if_neg hp]; rfl) h
    · exact go (.inl (I a f)) (by unfold fv; rw [if_neg (fun q => hne (hrf.trans q))]; rfl) h
  case putfield ix =>
    have h : ptF inf L S K I P k := h
    have ho : (okF y ix inf && okW y inf) = true := ho
    rw [Bool.and_eq_true] at ho
    obtain ⟨ho, how⟩ := ho
    obtain ⟨j, ci, f, rf, rfl, h2⟩ := ptF_e h
    clear h
    obtain ⟨C, T, N, hc, hf, hrf, hlk⟩ := okF_e ho
    obtain ⟨hcw, hty, hnm, hdc, -, -, htk⟩ := ck_cls hc
    have hnf : nf ci = N := nf_of hc
    have hown := ck_own hy
    have go : ∀ (a : Nat) (v : cv) (r : List cv) (I' : mI) (P' : mP), kk K a = (0, ci) → narrow (tyF ci f) (xv E v) = xv E v → fits (tyF ci f) (xv E v) = true → (∀ m, m ≠ a → I' m = I m) → (∀ m, m ≠ a → P' m = P m) →
        ((List.range N).map (fun k => fv E ci a k I P)).set f (xv E v) = (List.range N).map (fun k => fv E ci a k I' P') → k L r K I' P' → V E d y K1 Q pc L (v :: .inr a :: r) K I P := by
      intro a v r I' P' hka hn1 hn2 hI hP hfs h
      obtain ⟨haK, hkd, ha2⟩ := kk_obj hka
      have he : (wl E K I P)[a - 2]? = some (xad E a, .inr (ci, (List.range N).map (fun k => fv E ci a k I P))) := by
        rw [wl_get ha2 haK, en_obj hkd, hnf]
      have hset : (wl E K I P).set (a - 2) (xad E a, .inr (ci, ((List.range N).map (fun k => fv E ci a k I P)).set f (xv E v))) = wl E K I' P' := by
        rw [hfs, ← hnf, ← en_obj hkd]
        exact wl_set ha2 (fun m hm => en_congr (hI m hm) (hP m hm))
      have hlen : f < ((List.range N).map (fun k => fv E ci a k I P)).length := by rw [List.length_map, List.length_range]; exact hf
      rcases hlk with ⟨-, hlk⟩ | ⟨hns, hlk⟩
      · cases hfin : (T f).2.2.2 with
        | false => exact fun p e R s m args below meth c Z K0 hC hR a1 a2 a3 a4 a5 a6 H ls locs hW hS hL => va_put hC.x hC.b hC.t hcw (tyF ci) hty hnm (by rw [hown]; exact hC.o) hC.K hW (wl_D E K I P) hS (a - 2) he hc f hf (hC.t _ hlk) (fun x hx => by rw [hdc f hf] at hx; exact hx) hfin (hty f hf) hn1 hn2 hlen hd (fun H1 locs1 hP1 _ hS1 => hk _ _ _ _ _ h p e R s m args below meth c Z K0 hC hR a1 a2 a3 a4 a5 a6 H1 ls locs1 (by rw [hset] at hP1; exact hP1) hS1 hL)
        | true =>
          have hw : fin ci f = true := by unfold fin; rw [hc]; exact hfin
          unfold okW at how
          dsimp only at how
          rw [hw] at how
          simp only [Bool.not_true, Bool.false_or, Bool.and_eq_true] at how
          have hmk := ck_ini hy (beq_e how.1.1)
          have hoc := beq_e how.1.2
          exact fun p e R s m args below meth c Z K0 hC hR a1 a2 a3 a4 a5 a6 H ls locs hW hS hL => va_putF hC.x hC.b hC.t hcw (tyF ci) hty hnm (by rw [hown]; exact hC.o) hC.K hW (wl_D E K I P) hS (a - 2) he hc f hf (hC.t _ hlk) (fun x hx => by rw [hdc f hf] at hx; exact hx) hfin ((hC.n (beq_e how.1.1)).trans hmk) (by rw [hdc f hf, hoc]; exact (ck_cn hc).symm) (hty f hf) hn1 hn2 hlen hd (fun H1 locs1 hP1 _ hS1 => hk _ _ _ _ _ h p e R s m args below meth c Z K0 hC hR a1 a2 a3 a4 a5 a6 H1 ls locs1 (by rw [hset] at hP1; exact hP1) hS1 hL)
      · have hfin : (T f).2.2.2 = false := by
          cases hfin : (T f).2.2.2 with
          | false => rfl
          | true =>
            have hw : fin ci f = true := by unfold fin; rw [hc]; exact hfin
            unfold okW at how
            dsimp only at how
            rw [hw] at how
            simp only [Bool.not_true, Bool.false_or, Bool.and_eq_true] at how
            have := beq_e how.2
            omega
        exact fun p e R s m args below meth c Z K0 hC hR a1 a2 a3 a4 a5 a6 H ls locs hW hS hL => va_putN hC.x hC.b hC.t hcw (tyF ci) hty hnm (by rw [hown]; exact hC.o) hC.K hW (wl_D E K I P) hS (a - 2) he hc f hf (va_Nw.use rfl (hC.T.2.1 _ hlk)) (fun x hx => by rw [hdc f hf] at hx; exact hx) hfin (hty f hf) hn1 hn2 hlen hd (fun H1 locs1 hP1 _ hS1 => hk _ _ _ _ _ h p e R s m args below meth c Z K0 hC hR a1 a2 a3 a4 a5 a6 H1 ls locs1 (by rw [hset] at hP1; exact hP1) hS1 hL)
    rcases h2 with ⟨hr2, g⟩ | ⟨hr1, g⟩ | ⟨hn2, hn1, g⟩
    · obtain ⟨v, r, rfl, g2⟩ := pR_e g
      obtain ⟨a, r, rfl, hka, hv, g3⟩ := pR_e g2
      have h2 := tk2 (hrf.symm.trans hr2) (xad E v)
      exact go a (.inr v) r I (uP P a f v) hka h2.1 h2.2.1 (fun _ _ => rfl) (fun m hm => sP_n hm) (fs_setP (hrf.symm.trans hr2) hv) g3
    · obtain ⟨v, r, rfl, g2⟩ := pI_e g
      obtain ⟨a, r, rfl, hka, hv1, hv2, g3⟩ := pR_e g2
      have h2 := tk1 (hrf.symm.trans hr1)
      exact go a (.inl v) r (uI I a f v) P hka (by rw [h2]; exact hv1) (by rw [h2]; exact hv2) (fun m hm => sI_n hm) (fun _ _ => rfl) (fs_setI (by rw [← hrf, hr1]; decide)) g3
    · obtain ⟨v, r, rfl, g2⟩ := pI_e g
      obtain ⟨a, r, rfl, hka, g3⟩ := pR_e g2
      have h0 : tk ci f = 0 := by
        have := htk f hf
        omega
      have h2 := tk0 h0 v
      exact go a (.inl v) r (uI I a f v) P hka (by rw [h2]; rfl) (by rw [h2]; rfl) (fun m hm => sI_n hm) (fun _ _ => rfl) (fs_setI (by rw [h0]; decide)) g3
  case iaload =>
    cases inf with
    | nil =>
      obtain ⟨j, r, rfl, h⟩ := pI_e h
      obtain ⟨a, r, rfl, hka, hin, h⟩ := pR_e h
      obtain ⟨haK, hkd, ha2⟩ := kk_in (K := K) (a := a) (by rw [hka]; decide)
      rw [hkd] at hka hin
      have he : (wl E K I P)[a - 2]? = some (xad E a, .inl (xI E, (kd a).2, .inl (I a))) := by rw [wl_get ha2 haK, en_int hka]
      exact fun p e R s m args below meth c Z K0 hC hR a1 a2 a3 a4 a5 a6 H ls locs hW hS hL => va_iald hC.x hC.b hC.K hW (a - 2) 0 he rfl hin hd (hk _ _ _ _ _ h p e R s m args below meth c Z K0 hC hR a1 a2 a3 a4 a5 a6 H ls locs hW hS hL)
    | cons _ _ =>
      obtain ⟨j, r, rfl, h⟩ := pI_e h
      obtain ⟨a, r, hs, ha, hin, h2⟩ := pR_e h
      subst hs
      subst ha
      exact fun p e R s m args below meth c Z K0 hC hR a1 a2 a3 a4 a5 a6 H ls locs hW hS hL => va_sld (b := xb E) hC.x hC.b hC.X (by have := hC.bl; have := hC.s; omega) (fun q => absurd hC.bl (Nat.not_lt.mpr q)) hS hin hd (hk _ _ _ _ _ h2 p e R s m args below meth c Z K0 hC hR a1 a2 a3 a4 a5 a6 H ls locs hW hS hL)
  case arraylength =>
    cases inf with
    | nil =>
      obtain ⟨a, r, rfl, hka, hka3, h⟩ := pR_e h
      obtain ⟨haK, hkd, ha2⟩ := kk_in (K := K) (a := a) (by omega)
      rw [hkd] at hka hka3 h
      have hw := wl_get (E := E) (I := I) (P := P) ha2 haK
      have h3 : (kd a).1 = 1 ∨ (kd a).1 = 2 ∨ (kd a).1 = 3 := by omega
      rcases h3 with h3 | h3 | h3
      · rw [en_int h3] at hw
        exact fun p e R s m args below meth c Z K0 hC hR a1 a2 a3 a4 a5 a6 H ls locs hW hS hL => va_alen hC.x hC.b hC.K hW (a - 2) 0 hw rfl rfl hd (hk _ _ _ _ _ h p e R s m args below meth c Z K0 hC hR a1 a2 a3 a4 a5 a6 H ls locs hW hS hL)
      · rw [en_boo h3] at hw
        exact fun p e R s m args below meth c Z K0 hC hR a1 a2 a3 a4 a5 a6 H ls locs hW hS hL => va_alen hC.x hC.b hC.K hW (a - 2) 1 hw rfl rfl hd (hk _ _ _ _ _ h p e R s m args below meth c Z K0 hC hR a1 a2 a3 a4 a5 a6 H ls locs hW hS hL)
      · rw [en_row h3] at hw
        exact fun p e R s m args below meth c Z K0 hC hR a1 a2 a3 a4 a5 a6 H ls locs hW hS hL => va_alen hC.x hC.b hC.K hW (a - 2) 2 hw rfl rfl hd (hk _ _ _ _ _ h p e R s m args below meth c Z K0 hC hR a1 a2 a3 a4 a5 a6 H ls locs hW hS hL)
    | cons _ _ =>
      obtain ⟨a, r, hs, ha, h2⟩ := pR_e h
      subst hs
      subst ha
      exact fun p e R s m args below meth c Z K0 hC hR a1 a2 a3 a4 a5 a6 H ls locs hW hS hL => va_slen (b := xb E) hC.x hC.b hC.X (by have := hC.bl; have := hC.s; omega) (fun q => absurd hC.bl (Nat.not_lt.mpr q)) hS hd (hk _ _ _ _ _ h2 p e R s m args below meth c Z K0 hC hR a1 a2 a3 a4 a5 a6 H ls locs hW hS hL)
  case iastore =>
    obtain ⟨v, r, rfl, h⟩ := pI_e h
    obtain ⟨j, r, rfl, h⟩ := pI_e h
    obtain ⟨a, r, rfl, hka, hin, h⟩ := pR_e h
    obtain ⟨haK, hkd, ha2⟩ := kk_in (K := K) (a := a) (by rw [hka]; decide)
    rw [hkd] at hka hin
    have he : (wl E K I P)[a - 2]? = some (xad E a, .inl (xI E, (kd a).2, .inl (I a))) := by rw [wl_get ha2 haK, en_int hka]
    have hset : (wl E K I P).set (a - 2) (xad E a, .inl (xI E, (kd a).2, .inl (upd (I a) j.toNatClampNeg v))) = wl E K (uI I a j.toNatClampNeg v) P := by
      have h1 : en E a (uI I a j.toNatClampNeg v) P = .inl (xI E, (kd a).2, .inl (upd (I a) j.toNatClampNeg v)) := by rw [en_int hka]; unfold uI; rw [sI_s]
      rw [← h1]
      exact wl_set ha2 (fun m hm => en_congr (sI_n hm) rfl)
    exact fun p e R s m args below meth c Z K0 hC hR a1 a2 a3 a4 a5 a6 H ls locs hW hS hL => va_iast hC.x hC.b hC.K hW (wl_D E K I P) hS (a - 2) 0 he rfl hin hd (fun H1 locs1 hP1 _ hS1 => hk _ _ _ _ _ h p e R s m args below meth c Z K0 hC hR a1 a2 a3 a4 a5 a6 H1 ls locs1 (by rw [hset] at hP1; exact hP1) hS1 hL)
  case bastore =>
    obtain ⟨v, r, rfl, h⟩ := pI_e h
    obtain ⟨j, r, rfl, h⟩ := pI_e h
    obtain ⟨a, r, rfl, hka, hin, h⟩ := pR_e h
    obtain ⟨haK, hkd, ha2⟩ := kk_in (K := K) (a := a) (by rw [hka]; decide)
    rw [hkd] at hka hin
    have he : (wl E K I P)[a - 2]? = some (xad E a, .inl (xB E, (kd a).2, .inl (I a))) := by rw [wl_get ha2 haK, en_boo hka]
    have hset : (wl E K I P).set (a - 2) (xad E a, .inl (xB E, (kd a).2, .inl (upd (I a) j.toNatClampNeg (vp_nar .boolean v)))) = wl E K (uI I a j.toNatClampNeg (vp_nar .boolean v)) P := by
      have h1 : en E a (uI I a j.toNatClampNeg (vp_nar .boolean v)) P = .inl (xB E, (kd a).2, .inl (upd (I a) j.toNatClampNeg (vp_nar .boolean v))) := by rw [en_boo hka]; unfold uI; rw [sI_s]
      rw [← h1]
      exact wl_set ha2 (fun m hm => en_congr (sI_n hm) rfl)
    exact fun p e R s m args below meth c Z K0 hC hR a1 a2 a3 a4 a5 a6 H ls locs hW hS hL => va_zast hC.x hC.b hC.K hW (wl_D E K I P) hS (a - 2) 1 he rfl hin hd (fun H1 locs1 hP1 _ hS1 => hk _ _ _ _ _ h p e R s m args below meth c Z K0 hC hR a1 a2 a3 a4 a5 a6 H1 ls locs1 (by rw [hset] at hP1; exact hP1) hS1 hL)
  case baload =>
    obtain ⟨j, r, rfl, h⟩ := pI_e h
    obtain ⟨a, r, rfl, hka, hin, h⟩ := pR_e h
    obtain ⟨haK, hkd, ha2⟩ := kk_in (K := K) (a := a) (by rw [hka]; decide)
    rw [hkd] at hka hin
    have he : (wl E K I P)[a - 2]? = some (xad E a, .inl (xB E, (kd a).2, .inl (I a))) := by rw [wl_get ha2 haK, en_boo hka]
    exact fun p e R s m args below meth c Z K0 hC hR a1 a2 a3 a4 a5 a6 H ls locs hW hS hL => va_zald hC.x hC.b hC.K hW (a - 2) 1 he rfl hin hd (hk _ _ _ _ _ h p e R s m args below meth c Z K0 hC hR a1 a2 a3 a4 a5 a6 H ls locs hW hS hL)
  case aaload =>
    obtain ⟨j, r, rfl, h⟩ := pI_e h
    obtain ⟨a, r, rfl, hka, hin, hne, h⟩ := pR_e h
    obtain ⟨haK, hkd, ha2⟩ := kk_in (K := K) (a := a) (by rw [hka]; decide)
    rw [hkd] at hka hin
    have he := wl_get (E := E) (I := I) (P := P) ha2 haK
    rw [en_row hka] at he
    exact fun p e R s m args below meth c Z K0 hC hR a1 a2 a3 a4 a5 a6 H ls locs hW hS hL => va_aldq hC.x hC.b hC.K hW (a - 2) 2 he rfl hin hd (by
      have hw := hk _ _ _ _ _ h p e R s m args below meth c Z K0 hC hR a1 a2 a3 a4 a5 a6 H ls locs hW hS hL
      rw [if_neg hne]
      exact hw)
  case aastore =>
    obtain ⟨v, r, rfl, h⟩ := pR_e h
    obtain ⟨j, r, rfl, h⟩ := pI_e h
    obtain ⟨a, r, rfl, hka, hin, hkv, h⟩ := pR_e h
    obtain ⟨haK, hkd, ha2⟩ := kk_in (K := K) (a := a) (by rw [hka]; decide)
    obtain ⟨hvK, hvd, hv2⟩ := kk_obj hkv
    rw [hkd] at hka hin
    have he := wl_get (E := E) (I := I) (P := P) ha2 haK
    rw [en_row hka] at he
    have hv := wl_get (E := E) (I := I) (P := P) hv2 hvK
    rw [en_obj hvd] at hv
    have hset : (wl E K I P).set (a - 2) (xad E a, .inl (xR E, (kd a).2, .inr (.inr (.inr (.inr (va_up (fun k => if P a k = 0 then none else some (xad E (P a k))) j.toNatClampNeg (some (xad E v)))))))) = wl E K I (uP P a j.toNatClampNeg v) := by
      have h1 : en E a I (uP P a j.toNatClampNeg v) = .inl (xR E, (kd a).2, .inr (.inr (.inr (.inr (va_up (fun k => if P a k = 0 then none else some (xad E (P a k))) j.toNatClampNeg (some (xad E v))))))) := by
        rw [en_row hka]
        have h2 : (fun k => if uP P a j.toNatClampNeg v a k = 0 then none else some (xad E (uP P a j.toNatClampNeg v a k))) = va_up (fun k => if P a k = 0 then none else some (xad E (P a k))) j.toNatClampNeg (some (xad E v)) := by
          funext q
          unfold uP
          rw [sP_s]
          unfold va_up
          by_cases hq : q = j.toNatClampNeg
          · rw [if_pos hq, if_pos hq, if_neg (by omega)]
          · rw [if_neg hq, if_neg hq]
        rw [h2]
      rw [← h1]
      exact wl_set ha2 (fun m hm => en_congr rfl (sP_n hm))
    obtain ⟨C, T, N, hc, hcC⟩ := ck_rule
    exact fun p e R s m args below meth c Z K0 hC hR a1 a2 a3 a4 a5 a6 H ls locs hW hS hL => va_astq (r := (C, T, N)) hC.x hC.b hC.K hW (wl_D E K I P) hS (a - 2) 2 (v - 2) ciRule he (by subst hcC; rfl) hv hc hin hd (fun H1 locs1 hP1 _ hS1 => hk _ _ _ _ _ h p e R s m args below meth c Z K0 hC hR a1 a2 a3 a4 a5 a6 H1 ls locs1 (by rw [hset] at hP1; exact hP1) hS1 hL)
  case new ix =>
    match inf, h, ho with
    | [j, ci], h, ho =>
      obtain ⟨hkd, hK1, h⟩ := h
      obtain ⟨C, T, N, hc, hlk⟩ := okL_e ho
      obtain ⟨hcw, hty, hnm, hdc, hins, hini, htk⟩ := ck_cls hc
      have hnf : nf ci = N := nf_of hc
      have hown := ck_own hy
      have h2 : 2 ≤ K := (kk_obj (K := K + 1) (a := K) (ci := ci) (by unfold kk; rw [if_pos (by omega)]; exact hkd)).2.2
      have hce : sl (K + 1) = sl K + N := by
        show sl K + ce K = _
        unfold ce
        rw [hkd, ← hnf]
        rfl
      have hm1 := sl_mono (show K + 1 ≤ K1 by omega)
      exact fun p e R s m args below meth c Z K0 hC hR a1 a2 a3 a4 a5 a6 H ls locs hW hS hL => W.sz fun hz => by
        have hh := hp_size hC hW hS a5 hz
        have hm0 := sl_mono a5
        refine W.newcK hC.x hC.b (by rw [hown]; exact hC.o) (hC.t _ hlk) (hC.t _ hins) (hC.t _ hini) rfl hd (by omega) (by omega) (hC.K.1 ci _ hc).2.1 hh fun H1 kC hkC e1 z1 o1 => ?_
        rw [← hh] at e1 z1 o1
        have hn : va_at (xD E) cls_ (xh E + (K - 2), en E K (sI I K fun _ => 0) (sP P K fun _ => 0)) H1 := by
          rw [en_obj hkd, hnf]
          refine ⟨_, hc, (u_born (tyF ci) hC.t hcw (hC.K.1 ci _ hc) hkC (by rw [← hh]; exact e1) hty).to (fun j hj => ?_)⟩
          have hj2 : ((List.range N).map (fun k => fv E ci K k (sI I K fun _ => 0) (sP P K fun _ => 0)))[j]? = some (fv E ci K j (sI I K fun _ => 0) (sP P K fun _ => 0)) := fs_get hj
          unfold vp_V
          rw [List.getD_eq_getElem?_getD, hj2]
          unfold fv
          rw [sI_s, sP_s]
          by_cases ht : tk ci j = 2
          · rw [if_pos ht]
            exact (tk2 ht 0).2.2
          · rw [if_neg ht]
            exact tk_le ht (htk j hj)
        obtain ⟨hW1, hS1⟩ := wo_new hC hW hS h2 hh z1 o1 hn
        have hw := hk _ _ _ _ _ h p e R s m args below meth c Z K0 hC hR a1 a2 a3 a4 (Nat.le_succ_of_le a5) hK1 H1 ls locs hW1 hS1 hL
        have hx : xv E (.inr K) = .ref (xh E + (K - 2)) := xv_n h2
        rw [List.map_cons, hx] at hw
        exact W.csx (by omega) (by omega) hw
    | [], h, _ => exact False.elim h
    | [_], h, _ => exact False.elim h
    | _ :: _ :: _ :: _, h, _ => exact False.elim h
  case newarray ty =>
    cases ty
    case int =>
      obtain ⟨n, r, rfl, hkd, hn0, hK1, h⟩ := pI_e h
      have h2 : 2 ≤ K := (kk_in (K := K + 1) (a := K) (by unfold kk; rw [if_pos (by omega), hkd]; show (1 : Nat) ≠ 9; decide)).2.2
      have hce : sl (K + 1) = sl K + n.toNatClampNeg := by
        show sl K + ce K = _
        unfold ce
        rw [hkd]
        rfl
      have hm1 := sl_mono (show K + 1 ≤ K1 by omega)
      have hby : n.toNatClampNeg ≤ 10000 := by have := kd_le K; rw [hkd] at this; exact this
      exact fun p e R s m args below meth c Z K0 hC hR a1 a2 a3 a4 a5 a6 H ls locs hW hS hL => W.sz fun hz => by
        have hh := hp_size hC hW hS a5 hz
        have hm0 := sl_mono a5
        refine va_newaK hC.x hC.b (hC.t _ ck_int) rfl hd rfl hn0 rfl (by show _ * 4 ≤ _; omega) (by omega) (by omega) hh fun H1 cA e1 z1 o1 hAr hNm => ?_
        rw [← hh] at e1 z1 o1
        have hcA : cA = xI E := Option.some.inj (hNm.symm.trans (hC.K.2 0 _ rfl).2)
        have hn : va_at (xD E) cls_ (xh E + (K - 2), en E K (sI I K fun _ => 0) (sP P K fun _ => 0)) H1 := by
          rw [en_int (by rw [hkd]), sI_s, hkd, ← hh]
          show H1[H.size]? = some (vp_cell _ _)
          rw [e1, hcA]
          rfl
        obtain ⟨hW1, hS1⟩ := wo_new hC hW hS h2 hh z1 o1 hn
        have hw := hk _ _ _ _ _ h p e R s m args below meth c Z K0 hC hR a1 a2 a3 a4 (Nat.le_succ_of_le a5) hK1 H1 ls locs hW1 hS1 hL
        have hx : xv E (.inr K) = .ref (xh E + (K - 2)) := xv_n h2
        rw [List.map_cons, hx] at hw
        exact W.csx (by omega) (by omega) hw
    case boolean =>
      obtain ⟨n, r, rfl, hkd, hn0, hK1, h⟩ := pI_e h
      have h2 : 2 ≤ K := (kk_in (K := K + 1) (a := K) (by unfold kk; rw [if_pos (by omega), hkd]; show (2 : Nat) ≠ 9; decide)).2.2
      have hce : sl (K + 1) = sl K + n.toNatClampNeg := by
        show sl K + ce K = _
        unfold ce
        rw [hkd]
        rfl
      have hm1 := sl_mono (show K + 1 ≤ K1 by omega)
      have hby : n.toNatClampNeg ≤ 10000 := by have := kd_le K; rw [hkd] at this; exact this
      exact fun p e R s m args below meth c Z K0 hC hR a1 a2 a3 a4 a5 a6 H ls locs hW hS hL => W.sz fun hz => by
        have hh := hp_size hC hW hS a5 hz
        have hm0 := sl_mono a5
        refine va_newaK hC.x hC.b (hC.t _ ck_boo) rfl hd rfl hn0 rfl (by show _ * 1 ≤ _; omega) (by omega) (by omega) hh fun H1 cA e1 z1 o1 hAr hNm => ?_
        rw [← hh] at e1 z1 o1
        have hcA : cA = xB E := Option.some.inj (hNm.symm.trans (hC.K.2 1 _ rfl).2)
        have hn : va_at (xD E) cls_ (xh E + (K - 2), en E K (sI I K fun _ => 0) (sP P K fun _ => 0)) H1 := by
          rw [en_boo (by rw [hkd]), sI_s, hkd, ← hh]
          show H1[H.size]? = some (vp_cell _ _)
          rw [e1, hcA]
          rfl
        obtain ⟨hW1, hS1⟩ := wo_new hC hW hS h2 hh z1 o1 hn
        have hw := hk _ _ _ _ _ h p e R s m args below meth c Z K0 hC hR a1 a2 a3 a4 (Nat.le_succ_of_le a5) hK1 H1 ls locs hW1 hS1 hL
        have hx : xv E (.inr K) = .ref (xh E + (K - 2)) := xv_n h2
        rw [List.map_cons, hx] at hw
        exact W.csx (by omega) (by omega) hw
    all_goals exact False.elim h
  case anewarray ix =>
    obtain ⟨n, r, rfl, hkd, hn0, hK1, g⟩ := pI_e h
    have ho := (Bool.and_eq_true _ _).mp ho
    obtain ⟨ho, ho2⟩ := ho
    match inf, ho, ho2 with
    | [j, ci], ho, ho2 =>
      have hci : ci = ciRule := beq_e ho2
      rw [hci] at ho
      obtain ⟨C, T, N, hc, hlk⟩ := okL_e ho
      obtain ⟨C', T', N', hc', hcC⟩ := ck_rule
      have hCC : C = "RecipeRewriter$Rule" := by
        have := hc.symm.trans hc'
        cases this
        exact hcC
      subst hCC
      have hown := ck_own hy
      have h2 : 2 ≤ K := (kk_in (K := K + 1) (a := K) (by unfold kk; rw [if_pos (by omega), hkd]; show (3 : Nat) ≠ 9; decide)).2.2
      have hce : sl (K + 1) = sl K + n.toNatClampNeg := by
        show sl K + ce K = _
        unfold ce
        rw [hkd]
        rfl
      have hm1 := sl_mono (show K + 1 ≤ K1 by omega)
      have hby : n.toNatClampNeg ≤ 10000 := by have := kd_le K; rw [hkd] at this; exact this
      exact fun p e R s m args below meth c Z K0 hC hR a1 a2 a3 a4 a5 a6 H ls locs hW hS hL => W.sz fun hz => by
        have hh := hp_size hC hW hS a5 hz
        have hm0 := sl_mono a5
        refine W.anew hC.x hC.b (by rw [hown]; exact hC.o) (hC.t _ hlk) (va_AO.use hC.T.2.2) rfl hd rfl hn0 (by omega) (by omega) (by omega) fun cA kA comp f1 f2 f3 f4 => ?_
        generalize hH1 : H.push ({ cls := cA, slots := Array.replicate n.toNatClampNeg .null, vm := .none } : Cell) = H1
        have z1 : H1.size = H.size + 1 := by rw [← hH1, Array.size_push]
        have e1 : H1[H.size]? = some (arrV cA n.toNatClampNeg (fun _ => .null)) := by rw [← hH1, Array.getElem?_push_size, ← arrV_new]
        have o1 : ∀ q, q < H.size → H1[q]? = H[q]? := fun q hq => by rw [← hH1, Array.getElem?_push, if_neg (Nat.ne_of_lt hq)]
        obtain ⟨kA', comp', g1, g2, g3, g4⟩ := (hC.K.2 2 _ rfl).2
        have hcA : cA = xR E := Option.some.inj (f1.symm.trans g4)
        have hn : va_at (xD E) cls_ (xh E + (K - 2), en E K (sI I K fun _ => 0) (sP P K fun _ => 0)) H1 := by
          rw [en_row (by rw [hkd]), sP_s, hkd, ← hh]
          show H1[H.size]? = some (vp_cell _ _)
          rw [e1, hcA]
          rfl
        obtain ⟨hW1, hS1⟩ := wo_new hC hW hS h2 hh z1 o1 hn
        have hw := hk _ _ _ _ _ g p e R s m args below meth c Z K0 hC hR a1 a2 a3 a4 (Nat.le_succ_of_le a5) hK1 H1 ls locs hW1 hS1 hL
        have hx : xv E (.inr K) = .ref H.size := by rw [hh]; exact xv_n h2
        rw [List.map_cons, hx] at hw
        exact W.csx (by omega) (by omega) hw
    | [], _, ho2 => cases ho2
    | [_], _, ho2 => cases ho2
    | _ :: _ :: _ :: _, _, ho2 => cases ho2
  all_goals exact False.elim h
