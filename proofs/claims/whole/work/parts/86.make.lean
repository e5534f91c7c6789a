/-! The constructors. -/
def ZI (I : mI) (K : Nat) : Prop := ∀ m j, 2 ≤ m → m < K → I m j = 0
theorem ZI.nw {I : mI} {K : Nat} (h : ZI I K) : ZI (sI I K fun _ => 0) (K + 1) := fun m j a b => by
  by_cases c : m = K
  · rw [c, sI_s]
  · rw [sI_n c]
    exact h m j a (by omega)
theorem ZI.up {I : mI} {K a k : Nat} (h : ZI I K) : ZI (uI I a k (nI 0)) K := fun m j x y => by
  by_cases c : m = a ∧ j = k
  · obtain ⟨rfl, rfl⟩ := c
    rw [uI_s]
    rfl
  · rw [uI_at (by omega)]
    exact h m j x y
theorem uP_s {P : mP} {a k v : Nat} : uP P a k v a k = v := by unfold uP; rw [sP_s]; unfold va_up; simp
theorem uP_o {P : mP} {a k v j : Nat} (h : j ≠ k) : uP P a k v a j = P a j := by unfold uP; rw [sP_s]; unfold va_up; simp [h]
theorem uP_n {P : mP} {a k v m : Nat} (h : m ≠ a) : uP P a k v m = P m := sP_n h
theorem rk_i {a b : Nat} {X : Prop} (e : a = b) (h : X) : retk a b X := by
  subst e
  unfold retk
  rw [Nat.beq_refl]
  exact h
theorem kk_i {K a : Nat} (h : a < K) : kk K a = kd a := by unfold kk; rw [if_pos h]
section CT
variable {E : XE} {d : Nat} {Q : Int32 → mI → mP → Prop}
theorem t_init {o n : Nat} (ho : 2 ≤ o) (h0 : kd o = (0, 3)) (h1 : kd (o + 1) = (1, n)) (h2 : kd (o + 2) = (1, n)) (h3 : kd (o + 3) = (1, n)) (h4 : kd (o + 4) = (1, n)) (h5 : kd (o + 5) = (1, n)) (hn : n < 2 ^ 31) {I : mI} {P : mP} (hz : ZI I (o + 1)) (h : ∀ I' P', ZI I' (o + 6) → (∀ m, m < o → P' m = P m) → TRW P' o → Q (nI 0) I' P') : V E (d + 1) m_Text_init (o + 6) Q 0 [some (.inr o), some (.inl (nI n))] [] (o + 1) I P := by
  have hc := clp hn
  have hnn := nn_lt hn
  refine x_Text_init_0 _ _ ⟨by rw [hc]; exact h1, hnn, by omega, by rw [kk_i (by omega)]; exact h0, by omega, ?_⟩
  refine x_Text_init_11 _ _ ⟨by rw [hc]; exact h2, hnn, by omega, by rw [kk_i (by omega)]; exact h0, by omega, ?_⟩
  refine x_Text_init_18 _ _ ⟨by rw [hc]; exact h3, hnn, by omega, by rw [kk_i (by omega)]; exact h0, by omega, ?_⟩
  refine x_Text_init_25 _ _ ⟨by rw [hc]; exact h4, hnn, by omega, by rw [kk_i (by omega)]; exact h0, by omega, ?_⟩
  refine x_Text_init_32 _ _ ⟨by rw [hc]; exact h5, hnn, by omega, by rw [kk_i (by omega)]; exact h0, by omega, ?_⟩
  refine x_Text_init_39 _ ⟨by rw [kk_i (by omega)]; exact h0, x_Text_init_44 _ ⟨by rw [kk_i (by omega)]; exact h0, rk_i rfl (h _ _ ?_ (fun m hm => ?_) ?_)⟩⟩
  · exact ((((((hz.nw).nw).nw).nw).nw).up).up
  · rw [uP_n (by omega), sP_n (by omega), uP_n (by omega), sP_n (by omega), uP_n (by omega), sP_n (by omega), uP_n (by omega), sP_n (by omega), uP_n (by omega), sP_n (by omega)]
  · refine ⟨?_, ?_, ?_, ?_, ?_⟩
    · rw [uP_o (by decide), sP_n (by omega), uP_o (by decide), sP_n (by omega), uP_o (by decide), sP_n (by omega), uP_o (by decide), sP_n (by omega), uP_s]
    · rw [uP_o (by decide), sP_n (by omega), uP_o (by decide), sP_n (by omega), uP_o (by decide), sP_n (by omega), uP_s]
    · rw [uP_o (by decide), sP_n (by omega), uP_o (by decide), sP_n (by omega), uP_s]
    · rw [uP_o (by decide), sP_n (by omega), uP_s]
    · rw [uP_s]
theorem TRW.fr {P P' : mP} {o : Nat} (h : TRW P o) (e : P' o = P o) : TRW P' o := by unfold TRW; rw [e]; exact h
theorem r_init {o : Nat} (ho : 2 ≤ o) (g0 : kd o = (0, 1)) (h0 : kd (o + 1) = (0, 3)) (h1 : kd (o + 1 + 1) = (1, 60)) (h2 : kd (o + 1 + 2) = (1, 60)) (h3 : kd (o + 1 + 3) = (1, 60)) (h4 : kd (o + 1 + 4) = (1, 60)) (h5 : kd (o + 1 + 5) = (1, 60)) (h6 : kd (o + 7) = (1, 10)) (h7 : kd (o + 8) = (1, 10)) {I : mI} {P : mP} (hz : ZI I (o + 1)) (h : ∀ I' P', ZI I' (o + 9) → (∀ m, m < o → P' m = P m) → P' o 0 = o + 1 → P' o 2 = o + 7 → P' o 3 = o + 8 → TRW P' (o + 1) → Q (nI 0) I' P') : V E (d + 2) m_Rule_init (o + 9) Q 0 [some (.inr o)] [] (o + 1) I P := by
  have c10 : (nI 10).toNatClampNeg = 10 := clp (by decide)
  refine x_Rule_init_0 _ ⟨h0, by omega, by omega, t_init (o := o + 1) (by omega) h0 h1 h2 h3 h4 h5 (by decide) hz.nw (fun I1 P1 z1 f1 t1 => ?_)⟩
  refine ⟨by rw [kk_i (by omega)]; exact g0, by omega, x_Rule_init_17 _ ⟨by rw [kk_i (by omega)]; exact g0, x_Rule_init_22 _ ⟨by rw [c10]; exact h6, by decide, by omega, by rw [kk_i (by omega)]; exact g0, by omega, x_Rule_init_30 _ ⟨by rw [c10]; exact h7, by decide, by omega, by rw [kk_i (by omega)]; exact g0, by omega, rk_i rfl (h _ _ ?_ (fun m hm => ?_) ?_ ?_ ?_ ?_)⟩⟩⟩⟩
  · exact ((z1.up).nw).nw
  · rw [uP_n (by omega), sP_n (by omega), uP_n (by omega), sP_n (by omega), uP_n (by omega), f1 m (by omega), sP_n (by omega)]
  · rw [uP_o (by decide), sP_n (by omega), uP_o (by decide), sP_n (by omega), uP_s]
  · rw [uP_o (by decide), sP_n (by omega), uP_s]
  · rw [uP_s]
  · refine t1.fr ?_
    rw [uP_n (by omega), sP_n (by omega), uP_n (by omega), sP_n (by omega), uP_n (by omega)]
theorem o_init {I : mI} {P : mP} (hz : ZI I 86) (h : ∀ I' P', ZI I' 91 → (∀ m, m < 85 → P' m = P m) → OO P' → Q (nI 0) I' P') : V E (d + 1) m_Outline_init 91 Q 0 [some (.inr 85), some (.inl (nI 120))] [] 86 I P := by
  have c120 : (nI 120).toNatClampNeg = 120 := clp (by decide)
  have c12 : (nI 12).toNatClampNeg = 12 := clp (by decide)
  refine x_Outline_init_0 _ _ ⟨by rw [c120]; rfl, by decide, by decide, rfl, by decide, x_Outline_init_11 _ _ ⟨rfl, x_Outline_init_16 _ _ ⟨by rw [c120]; rfl, by decide, by decide, rfl, by decide, x_Outline_init_23 _ _ ⟨by rw [c120]; rfl, by decide, by decide, rfl, by decide, x_Outline_init_30 _ _ ⟨by rw [c120]; rfl, by decide, by decide, rfl, by decide, x_Outline_init_37 _ ⟨rfl, x_Outline_init_42 _ ⟨by rw [c12]; rfl, by decide, by decide, rfl, by decide, rk_i rfl (h _ _ ?_ (fun m hm => ?_) ?_)⟩⟩⟩⟩⟩⟩⟩
  · exact ((((((hz.nw).up).nw).nw).nw).up).nw
  · rw [uP_n (by omega), sP_n (by omega), uP_n (by omega), sP_n (by omega), uP_n (by omega), sP_n (by omega), uP_n (by omega), sP_n (by omega), uP_n (by omega), sP_n (by omega)]
  · refine ⟨?_, ?_, ?_, ?_, ?_⟩
    · rw [uP_o (by decide), sP_n (by decide), uP_o (by decide), sP_n (by decide), uP_o (by decide), sP_n (by decide), uP_o (by decide), sP_n (by decide), uP_s]
    · rw [uP_o (by decide), sP_n (by decide), uP_o (by decide), sP_n (by decide), uP_o (by decide), sP_n (by decide), uP_s]
    · rw [uP_o (by decide), sP_n (by decide), uP_o (by decide), sP_n (by decide), uP_s]
    · rw [uP_o (by decide), sP_n (by decide), uP_s]
    · rw [uP_s]
theorem OO.fr {P P' : mP} (h : OO P) (e : P' 85 = P 85) : OO P' := by unfold OO; rw [e]; exact h
theorem p_init {I : mI} {P : mP} (hz : ZI I 61) (h : ∀ I' P', ZI I' 92 → (∀ m, m < 60 → P' m = P m) → (TRW P' 61 ∧ TRW P' 67 ∧ TRW P' 73 ∧ TRW P' 79) → (P' 60 0 = 61 ∧ P' 60 1 = 67) → (P' 60 2 = 73 ∧ P' 60 3 = 79 ∧ P' 60 4 = 85 ∧ P' 60 5 = 91) → OO P' → Q (nI 0) I' P') : V E (d + 2) m_Program_init 92 Q 0 [some (.inr 60)] [] 61 I P := by
  have c120 : (nI 120).toNatClampNeg = 120 := clp (by decide)
  refine x_Program_init_0 _ ⟨rfl, by decide, by decide, t_init (o := 61) (by decide) rfl rfl rfl rfl rfl rfl (by decide) hz.nw (fun I1 P1 z1 f1 t1 => ?_)⟩
  refine ⟨rfl, by decide, x_Program_init_17 _ ⟨rfl, by decide, by decide, t_init (o := 67) (by decide) rfl rfl rfl rfl rfl rfl (by decide) z1.nw (fun I2 P2 z2 f2 t2 => ?_)⟩⟩
  refine ⟨rfl, by decide, x_Program_init_30 _ ⟨rfl, by decide, by decide, t_init (o := 73) (by decide) rfl rfl rfl rfl rfl rfl (by decide) z2.nw (fun I3 P3 z3 f3 t3 => ?_)⟩⟩
  refine ⟨rfl, by decide, x_Program_init_43 _ ⟨rfl, by decide, by decide, t_init (o := 79) (by decide) rfl rfl rfl rfl rfl rfl (by decide) z3.nw (fun I4 P4 z4 f4 t4 => ?_)⟩⟩
  refine ⟨rfl, by decide, x_Program_init_56 _ ⟨rfl, by decide, by decide, o_init z4.nw (fun I5 P5 z5 f5 t5 => ?_)⟩⟩
  refine ⟨rfl, by decide, x_Program_init_69 _ ⟨by rw [c120]; rfl, by decide, by decide, rfl, by decide, x_Program_init_77 _ ⟨rfl, rk_i rfl (h _ _ ?_ (fun m hm => ?_) ?_ ?_ ?_ ?_)⟩⟩⟩
  · exact (z5.nw).up
  · rw [uP_n (by omega), sP_n (by omega), uP_n (by omega), f5 m (by omega), sP_n (by omega), uP_n (by omega), f4 m (by omega), sP_n (by omega), uP_n (by omega), f3 m (by omega), sP_n (by omega), uP_n (by omega), f2 m (by omega), sP_n (by omega), uP_n (by omega), f1 m (by omega), sP_n (by omega)]
  · refine ⟨t1.fr ?_, t2.fr ?_, t3.fr ?_, t4.fr ?_⟩
    · rw [uP_n (by decide), sP_n (by decide), uP_n (by decide), f5 _ (by decide), sP_n (by decide), uP_n (by decide), f4 _ (by decide), sP_n (by decide), uP_n (by decide), f3 _ (by decide), sP_n (by decide), uP_n (by decide), f2 _ (by decide), sP_n (by decide), uP_n (by decide)]
    · rw [uP_n (by decide), sP_n (by decide), uP_n (by decide), f5 _ (by decide), sP_n (by decide), uP_n (by decide), f4 _ (by decide), sP_n (by decide), uP_n (by decide), f3 _ (by decide), sP_n (by decide), uP_n (by decide)]
    · rw [uP_n (by decide), sP_n (by decide), uP_n (by decide), f5 _ (by decide), sP_n (by decide), uP_n (by decide), f4 _ (by decide), sP_n (by decide), uP_n (by decide)]
    · rw [uP_n (by decide), sP_n (by decide), uP_n (by decide), f5 _ (by decide), sP_n (by decide), uP_n (by decide)]
  · refine ⟨?_, ?_⟩
    · rw [uP_o (by decide), sP_n (by decide), uP_o (by decide), f5 _ (by decide), sP_n (by decide), uP_o (by decide), f4 _ (by decide), sP_n (by decide), uP_o (by decide), f3 _ (by decide), sP_n (by decide), uP_o (by decide), f2 _ (by decide), sP_n (by decide), uP_s]
    · rw [uP_o (by decide), sP_n (by decide), uP_o (by decide), f5 _ (by decide), sP_n (by decide), uP_o (by decide), f4 _ (by decide), sP_n (by decide), uP_o (by decide), f3 _ (by decide), sP_n (by decide), uP_s]
  · refine ⟨?_, ?_, ?_, ?_⟩
    · rw [uP_o (by decide), sP_n (by decide), uP_o (by decide), f5 _ (by decide), sP_n (by decide), uP_o (by decide), f4 _ (by decide), sP_n (by decide), uP_s]
    · rw [uP_o (by decide), sP_n (by decide), uP_o (by decide), f5 _ (by decide), sP_n (by decide), uP_s]
    · rw [uP_o (by decide), sP_n (by decide), uP_s]
    · rw [uP_s]
  · exact t5.fr (by rw [uP_n (by decide), sP_n (by decide), uP_n (by decide)])
theorem pt_init {I : mI} {P : mP} (hz : ZI I 93) (h : ∀ I' P', ZI I' 95 → (∀ m, m < 92 → P' m = P m) → P' 92 0 = 93 → P' 92 1 = 94 → Q (nI 0) I' P') : V E (d + 1) m_Patch_init 95 Q 0 [some (.inr 92)] [] 93 I P := by
  have c1 : (nI 7381).toNatClampNeg = 7381 := clp (by decide)
  have c2 : (nI 180).toNatClampNeg = 180 := clp (by decide)
  refine x_Patch_init_0 _ ⟨by rw [c1]; rfl, by decide, by decide, rfl, by decide, x_Patch_init_13 _ ⟨by rw [c2]; rfl, by decide, by decide, rfl, by decide, x_Patch_init_22 _ ⟨rfl, x_Patch_init_27 _ ⟨rfl, x_Patch_init_32 _ ⟨rfl, rfl, rfl, rk_i rfl (h _ _ ?_ (fun m hm => ?_) ?_ ?_)⟩⟩⟩⟩⟩
  · exact ((((hz.nw).nw).up).up).up
  · rw [uP_n (by omega), sP_n (by omega), uP_n (by omega), sP_n (by omega)]
  · rw [uP_o (by decide), sP_n (by decide), uP_s]
  · rw [uP_s]
/-- rules r .. 5 -/
def RlP (P : mP) (r : Nat) : Prop := ∀ i, i < r → P 5 i = 6 + 9 * i ∧ P (6 + 9 * i) 0 = 7 + 9 * i ∧ P (6 + 9 * i) 2 = 13 + 9 * i ∧ P (6 + 9 * i) 3 = 14 + 9 * i ∧ TRW P (7 + 9 * i)
theorem kdr : ∀ r, r < 6 → kd (6 + 9 * r) = (0, 1) ∧ kd (6 + 9 * r + 1) = (0, 3) ∧ kd (6 + 9 * r + 1 + 1) = (1, 60) ∧ kd (6 + 9 * r + 1 + 2) = (1, 60) ∧ kd (6 + 9 * r + 1 + 3) = (1, 60) ∧ kd (6 + 9 * r + 1 + 4) = (1, 60) ∧ kd (6 + 9 * r + 1 + 5) = (1, 60) ∧ kd (6 + 9 * r + 7) = (1, 10) ∧ kd (6 + 9 * r + 8) = (1, 10) := by decide +kernel
theorem l_rinit : ∀ (n r : Nat) (I : mI) (P : mP), r + n = 6 → ZI I (6 + 9 * r) → P 2 0 = 3 → P 2 2 = 4 → P 2 4 = 5 → RlP P r → (∀ I' P', ZI I' 60 → P' 2 0 = 3 → P' 2 2 = 4 → P' 2 4 = 5 → RlP P' 6 → V E (d + 3) m_RR_init 95 Q 71 [some (.inr 2), none] [] 60 I' P') → V E (d + 3) m_RR_init 95 Q 41 [some (.inr 2), some (.inl (nI r))] [] (6 + 9 * r) I P := by
  intro n
  induction n with
  | zero =>
    intro r I P hr hz p0 p2 p4 hP h
    have : r = 6 := by omega
    subst this
    exact x_RR_init_41 _ _ (pk_le 6 6 (fun _ => ⟨rfl, h _ P hz.up p0 p2 p4 hP⟩) (fun c => by omega))
  | succ n ih =>
    intro r I P hr hz p0 p2 p4 hP h
    obtain ⟨q0, q1, q2, q3, q4, q5, q6, q7, q8⟩ := kdr r (by omega)
    refine x_RR_init_41 _ _ (pk_le 6 r (fun c => by omega) (fun _ => ⟨by rw [kk_i (by omega)]; rfl, by rw [p4]; decide, q0, by omega, by omega, ?_⟩))
    rw [p4, clp (show r < 2 ^ 31 by omega), n1]
    refine r_init (o := 6 + 9 * r) (by omega) q0 q1 q2 q3 q4 q5 q6 q7 q8 hz.nw (fun I1 P1 z1 f1 a0 a2 a3 t1 => ?_)
    refine ⟨by rw [kk_i (by omega)]; rfl, by rw [kk_i (by omega)]; exact vp_in_nI (by show r < 6; omega) (by decide), by rw [kk_i (by omega)]; exact q0, ?_⟩
    have e2 : ∀ j, (uP P1 5 r (6 + 9 * r)) 2 j = P 2 j := fun j => by rw [uP_n (by decide), f1 2 (by omega), sP_n (by omega)]
    refine ih (r + 1) I1 _ (by omega) z1 (by rw [e2]; exact p0) (by rw [e2]; exact p2) (by rw [e2]; exact p4) (fun i hi => ?_) h
    by_cases c : i = r
    · subst c
      have t1' : TRW P1 (7 + 9 * i) := by rw [show 7 + 9 * i = 6 + 9 * i + 1 by omega]; exact t1
      refine ⟨uP_s, ?_, ?_, ?_, t1'.fr ?_⟩
      · rw [uP_n (by omega), a0]; omega
      · rw [uP_n (by omega), a2]; omega
      · rw [uP_n (by omega), a3]; omega
      · rw [uP_n (by omega)]
    · obtain ⟨b0, b1, b2, b3, b4⟩ := hP i (by omega)
      refine ⟨?_, ?_, ?_, ?_, b4.fr ?_⟩
      · rw [uP_o c, f1 5 (by omega), sP_n (by omega)]; exact b0
      · rw [uP_n (by omega), f1 _ (by omega), sP_n (by omega)]; exact b1
      · rw [uP_n (by omega), f1 _ (by omega), sP_n (by omega)]; exact b2
      · rw [uP_n (by omega), f1 _ (by omega), sP_n (by omega)]; exact b3
      · rw [uP_n (by omega), f1 _ (by omega), sP_n (by omega)]
/-- the references of the class -/
def ShC (P : mP) : Prop := (P 2 0 = 3 ∧ P 2 2 = 4 ∧ P 2 4 = 5 ∧ P 2 6 = 60 ∧ P 2 8 = 92) ∧ RlP P 6 ∧ (TRW P 61 ∧ TRW P 67 ∧ TRW P 73 ∧ TRW P 79) ∧ (P 60 0 = 61 ∧ P 60 1 = 67) ∧ (P 60 2 = 73 ∧ P 60 3 = 79 ∧ P 60 4 = 85 ∧ P 60 5 = 91) ∧ OO P ∧ (P 92 0 = 93 ∧ P 92 1 = 94)
theorem rr_init {I : mI} {P : mP} (hz : ZI I 3) (h : ∀ I' P', ZI I' 95 → ShC P' → Q (nI 0) I' P') : V E (d + 3) m_RR_init 95 Q 0 [some (.inr 2), none] [] 3 I P := by
  have c60 : (nI 60).toNatClampNeg = 60 := clp (by decide)
  have c6 : (nI 6).toNatClampNeg = 6 := clp (by decide)
  refine x_RR_init_0 _ ⟨by rw [c60]; rfl, by decide, by decide, rfl, by decide, x_RR_init_12 _ ⟨rfl, x_RR_init_17 _ ⟨by rw [c60]; rfl, by decide, by decide, rfl, by decide, x_RR_init_25 _ ⟨rfl, x_RR_init_30 _ ⟨by rw [c6]; rfl, by decide, by decide, rfl, by decide, x_RR_init_39 _ ?_⟩⟩⟩⟩⟩
  refine l_rinit 6 0 _ _ (by omega) (((((hz.nw).up).nw).up).nw) ?_ ?_ ?_ (fun i hi => by omega) (fun I1 P1 z1 a0 a2 a4 hR => ?_)
  · rw [uP_o (by decide), sP_n (by decide), uP_o (by decide), sP_n (by decide), uP_s]
  · rw [uP_o (by decide), sP_n (by decide), uP_s]
  · rw [uP_s]
  · refine x_RR_init_71 _ ⟨rfl, by decide, by decide, p_init (d := d) z1.nw (fun I2 P2 z2 f2 t2 b1 b2 b3 => ⟨rfl, by decide, x_RR_init_82 _ ⟨rfl, x_RR_init_87 _ ⟨rfl, by decide, by decide, pt_init (d := d + 1) z2.up.nw (fun I3 P3 z3 f3 q1 q2 => ⟨rfl, by decide, rk_i rfl (h I3 _ z3 ⟨⟨?_, ?_, ?_, ?_, uP_s⟩, fun i hi => ?_, ⟨t2.1.fr ?_, t2.2.1.fr ?_, t2.2.2.1.fr ?_, t2.2.2.2.fr ?_⟩, ?_, ?_, b3.fr ?_, ?_⟩)⟩)⟩⟩⟩)⟩
    · rw [uP_o (by decide), f3 2 (by decide), sP_n (by decide), uP_o (by decide), f2 2 (by decide), sP_n (by decide)]; exact a0
    · rw [uP_o (by decide), f3 2 (by decide), sP_n (by decide), uP_o (by decide), f2 2 (by decide), sP_n (by decide)]; exact a2
    · rw [uP_o (by decide), f3 2 (by decide), sP_n (by decide), uP_o (by decide), f2 2 (by decide), sP_n (by decide)]; exact a4
    · rw [uP_o (by decide), f3 2 (by decide), sP_n (by decide), uP_s]
    · have e : ∀ m, m ≠ 2 → m < 60 → (uP P3 2 8 92) m = P1 m := fun m h2 h60 => by rw [uP_n h2, f3 m (by omega), sP_n (by omega), uP_n h2, f2 m (by omega), sP_n (by omega)]
      obtain ⟨b0, b1', b2', b3', b4⟩ := hR i hi
      refine ⟨?_, ?_, ?_, ?_, b4.fr ?_⟩
      · rw [e 5 (by decide) (by decide)]; exact b0
      · rw [e _ (by omega) (by omega)]; exact b1'
      · rw [e _ (by omega) (by omega)]; exact b2'
      · rw [e _ (by omega) (by omega)]; exact b3'
      · rw [e _ (by omega) (by omega)]
    · rw [uP_n (by decide), f3 _ (by decide), sP_n (by decide), uP_n (by decide)]
    · rw [uP_n (by decide), f3 _ (by decide), sP_n (by decide), uP_n (by decide)]
    · rw [uP_n (by decide), f3 _ (by decide), sP_n (by decide), uP_n (by decide)]
    · rw [uP_n (by decide), f3 _ (by decide), sP_n (by decide), uP_n (by decide)]
    · rw [uP_n (by decide), f3 60 (by decide), sP_n (by decide), uP_n (by decide)]; exact b1
    · rw [uP_n (by decide), f3 60 (by decide), sP_n (by decide), uP_n (by decide)]; exact b2
    · rw [uP_n (by decide), f3 _ (by decide), sP_n (by decide), uP_n (by decide)]
    · rw [uP_n (by decide)]; exact ⟨q1, q2⟩
end CT
