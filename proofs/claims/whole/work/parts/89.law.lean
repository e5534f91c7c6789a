/-! The law's loop: every call answers alike. -/
section LW
variable {E : XE} {Q : Int32 → mI → mP → Prop} {I : mI} {P : mP} {bf ld : List Int32} {rs : List RlT} {N : List MIt} {tl : List Int32} {R : Nat} {cy : Int32}
/-- both answers, and what goes on -/
abbrev CQ (K : mI → mP → Prop) (Q : Int32 → mI → mP → Prop) (r r' : Int32) (I : mI) (P : mP) : Prop := (r = r' → K I P) ∧ (¬ r = r' → zb (nI 0) ∧ Q (nI 0) I P)
theorem CQ.mk {K : mI → mP → Prop} {r r' : Int32} (e : r = r') (h : K I P) : CQ K Q r r' I P := ⟨fun _ => h, fun c => absurd e c⟩
variable {K : mI → mP → Prop} {Rb : Nat}
theorem g_type {x : Int32} (h : INV I P bf ld rs N tl R cy) (hR : R ≤ Rb) (hK : ∀ I' P', IVx I' P' Rb → K I' P') {A : Prop} (hA : A) : V E 999 m_RR_type 112 (fun r I1 P1 => (1 : Nat) = 1 ∧ A ∧ kk 112 95 = (0, 6) ∧ V E 999 m_Model_type 112 (fun r' I2 P2 => CQ K Q r r' I2 P2) 0 [some (.inr 95), some (.inl x)] [] 112 I1 P1) 0 [some (.inr 2), some (.inl x), none] [] 112 I P := by
  obtain ⟨hC, h7, hM, hk, hG, hL, hU⟩ := h
  have hMO : MO P := hC.1.2.2.2.2.2.2.2
  refine c_type hC (fun hno => ⟨rfl, hA, k95, m_type hMO hM (fun _ => CQ.mk rfl (hK _ _ (inv_of hC h7 hk hG hL hU hR (fun _ _ => rfl) hM))) (fun I2 a b _ _ => absurd ⟨a, b⟩ hno)⟩) (fun I1 a b hC1 f1 e1 => ⟨rfl, hA, k95, m_type hMO (hM.hi (fun m hm => f1 m (by omega))) (fun hno => absurd ⟨a, b⟩ hno) (fun I2 _ _ hM2 f2 => CQ.mk rfl (hK _ _ (inv_of hC1 (by rw [e1]; exact h7) (hk.fr (f1 92 (by decide)) (f1 94 (by decide))) hG hL hU hR (fun m hm => f2 m (by omega) (by omega)) hM2)))⟩)
theorem g_clear (h : INV I P bf ld rs N tl R cy) (hR : R ≤ Rb) (hK : ∀ I' P', IVx I' P' Rb → K I' P') : V E 999 m_RR_clear 112 (fun _ I1 P1 => kk 112 95 = (0, 6) ∧ V E 999 m_Model_clear 112 (fun _ I2 P2 => K I2 P2) 0 [some (.inr 95)] [] 112 I1 P1) 0 [some (.inr 2)] [] 112 I P := by
  obtain ⟨hC, h7, hM, hk, hG, hL, hU⟩ := h
  refine c_clear hC (fun I1 hC1 f1 e1 => ⟨k95, m_clear (hM.hi (fun m hm => f1 m (by omega))) (fun I2 hM2 f2 => hK _ _ (inv_of hC1 (by rw [e1]; exact h7) (hk.fr (f1 92 (by decide)) (f1 94 (by decide))) hG hL hU hR (fun m hm => f2 m (by omega)) hM2))⟩)
theorem g_buffered (h : INV I P bf ld rs N tl R cy) (hR : R ≤ Rb) (hK : ∀ I' P', IVx I' P' Rb → K I' P') : V E 999 m_RR_buffered 112 (fun r I1 P1 => kk 112 95 = (0, 6) ∧ V E 999 m_Model_buffered 112 (fun r' I2 P2 => CQ K Q r r' I2 P2) 0 [some (.inr 95)] [] 112 I1 P1) 0 [some (.inr 2)] [] 112 I P :=
  c_buffered h.1 ⟨k95, m_buffered h.2.2.1 (CQ.mk rfl (hK _ _ ⟨_, _, _, _, _, _, _, h, hR⟩))⟩
theorem g_rules (h : INV I P bf ld rs N tl R cy) (hR : R ≤ Rb) (hK : ∀ I' P', IVx I' P' Rb → K I' P') : V E 999 m_RR_rules 112 (fun r I1 P1 => kk 112 95 = (0, 6) ∧ V E 999 m_Model_rules 112 (fun r' I2 P2 => CQ K Q r r' I2 P2) 0 [some (.inr 95)] [] 112 I1 P1) 0 [some (.inr 2)] [] 112 I P :=
  c_rules h.1 ⟨k95, m_rules h.2.2.1 (CQ.mk (by unfold rtx; rw [List.length_map]) (hK _ _ ⟨_, _, _, _, _, _, _, h, hR⟩))⟩
theorem g_cycles (h : INV I P bf ld rs N tl R cy) (hR : R ≤ Rb) (hK : ∀ I' P', IVx I' P' Rb → K I' P') : V E 999 m_RR_cycles 112 (fun r I1 P1 => kk 112 95 = (0, 6) ∧ V E 999 m_Model_cycles 112 (fun r' I2 P2 => CQ K Q r r' I2 P2) 0 [some (.inr 95)] [] 112 I1 P1) 0 [some (.inr 2)] [] 112 I P :=
  c_cycles h.2.1 ⟨k95, m_cycles h.2.2.1 (CQ.mk rfl (hK _ _ ⟨_, _, _, _, _, _, _, h, hR⟩))⟩
theorem g_rewritings (h : INV I P bf ld rs N tl R cy) (hR : R ≤ Rb) (hK : ∀ I' P', IVx I' P' Rb → K I' P') : V E 999 m_RR_rewritings 112 (fun r I1 P1 => kk 112 95 = (0, 6) ∧ V E 999 m_Model_rewritings 112 (fun r' I2 P2 => CQ K Q r r' I2 P2) 0 [some (.inr 95)] [] 112 I1 P1) 0 [some (.inr 2)] [] 112 I P :=
  c_rewritings h.1 ⟨k95, m_rewritings h.2.2.1 (CQ.mk rfl (hK _ _ ⟨_, _, _, _, _, _, _, h, hR⟩))⟩
theorem g_length (h : INV I P bf ld rs N tl R cy) (hR : R ≤ Rb) (hK : ∀ I' P', IVx I' P' Rb → K I' P') : V E 999 m_RR_length 112 (fun r I1 P1 => kk 112 95 = (0, 6) ∧ V E 999 m_Model_length 112 (fun r' I2 P2 => CQ K Q r r' I2 P2) 0 [some (.inr 95)] [] 112 I1 P1) 0 [some (.inr 2)] [] 112 I P :=
  c_length h.1 ⟨k95, m_length h.2.2.1 (CQ.mk rfl (hK _ _ ⟨_, _, _, _, _, _, _, h, hR⟩))⟩
theorem g_at {x : Int32} (h : INV I P bf ld rs N tl R cy) (hR : R ≤ Rb) (hK : ∀ I' P', IVx I' P' Rb → K I' P') {A : Prop} (hA : A) : V E 999 m_RR_at 112 (fun r I1 P1 => (1 : Nat) = 1 ∧ A ∧ kk 112 95 = (0, 6) ∧ V E 999 m_Model_at 112 (fun r' I2 P2 => CQ K Q r r' I2 P2) 0 [some (.inr 95), some (.inl x)] [] 112 I1 P1) 0 [some (.inr 2), some (.inl x)] [] 112 I P :=
  c_at h.1 ⟨rfl, hA, k95, m_at h.1.1.2.2.2.2.2.2.2 h.2.2.1 (CQ.mk rfl (hK _ _ ⟨_, _, _, _, _, _, _, h, hR⟩))⟩
theorem INV.rd {I' : mI} (h : INV I P bf ld rs N tl R cy) (hR : R ≤ Rb) (f : FrY I I') (hM : MC I' bf ld (fl (N.map un) tl) (fl ((N.map gz).map um) (List.replicate tl.length (nI 0))) (rtx rs) R cy) : IVx I' P Rb :=
  inv_of h.1 h.2.1 h.2.2.2.1 h.2.2.2.2.1 h.2.2.2.2.2.1 h.2.2.2.2.2.2 hR (fun m hm => f m (by omega)) hM
theorem g_mark {x : Int32} (h : INV I P bf ld rs N tl R cy) (hR : R ≤ Rb) (hK : ∀ I' P', IVx I' P' Rb → K I' P') {A : Prop} (hA : A) : V E 999 m_RR_mark 112 (fun r I1 P1 => (1 : Nat) = 1 ∧ A ∧ kk 112 95 = (0, 6) ∧ V E 999 m_Model_mark 112 (fun r' I2 P2 => CQ K Q r r' I2 P2) 0 [some (.inr 95), some (.inl x), none, none] [] 112 I1 P1) 0 [some (.inr 2), some (.inl x)] [] 112 I P := by
  have hL := h.2.2.2.2.2.1
  have hU := h.2.2.2.2.2.2
  have hM := h.2.2.1
  obtain ⟨e0, e1⟩ := mark_eq hL hU hM.2.2.1.2.2 x
  rw [← tks_LX hL, ← kds_LX hL] at e0 e1
  exact c_mark h.1 ⟨rfl, hA, k95, m_mark (d := 995) h.1.1.2.2.2.2.2.2.2 hM (fun I' f hM' hno => CQ.mk (e0 hno) (hK _ _ (h.rd hR f.y hM'))) (fun I' i l b v f hM' he hc hmax hv => CQ.mk (e1 i l b v he hc hmax hv) (hK _ _ (h.rd hR f.y hM')))⟩
theorem g_statements (h : INV I P bf ld rs N tl R cy) (hR : R ≤ Rb) (hK : ∀ I' P', IVx I' P' Rb → K I' P') : V E 999 m_RR_statements 112 (fun r I1 P1 => kk 112 95 = (0, 6) ∧ V E 999 m_Model_statements 112 (fun r' I2 P2 => CQ K Q r r' I2 P2) 0 [some (.inr 95)] [] 112 I1 P1) 0 [some (.inr 2)] [] 112 I P :=
  c_statements h.1 ⟨k95, m_statements (d := 995) h.1.1.2.2.2.2.2.2.2 h.2.2.1 (fun I' f hM' => CQ.mk (by rw [kds_LX h.2.2.2.2.2.1, outl_spns]) (hK _ _ (h.rd hR f.y hM')))⟩
theorem g_kind {x : Int32} (h : INV I P bf ld rs N tl R cy) (hR : R ≤ Rb) (hK : ∀ I' P', IVx I' P' Rb → K I' P') {A : Prop} (hA : A) : V E 999 m_RR_kind 112 (fun r I1 P1 => (1 : Nat) = 1 ∧ A ∧ kk 112 95 = (0, 6) ∧ V E 999 m_Model_kind 112 (fun r' I2 P2 => CQ K Q r r' I2 P2) 0 [some (.inr 95), some (.inl x), none] [] 112 I1 P1) 0 [some (.inr 2), some (.inl x)] [] 112 I P :=
  c_kind h.1 ⟨rfl, hA, k95, m_kind (d := 995) h.1.1.2.2.2.2.2.2.2 h.2.2.1 (fun I' f hM' => CQ.mk (by rw [kds_LX h.2.2.2.2.2.1]) (hK _ _ (h.rd hR f.y hM')))⟩
theorem g_expressions (h : INV I P bf ld rs N tl R cy) (hR : R ≤ Rb) (hK : ∀ I' P', IVx I' P' Rb → K I' P') : V E 999 m_RR_expressions 112 (fun r I1 P1 => kk 112 95 = (0, 6) ∧ V E 999 m_Model_expressions 112 (fun r' I2 P2 => CQ K Q r r' I2 P2) 0 [some (.inr 95), none, none] [] 112 I1 P1) 0 [some (.inr 2)] [] 112 I P :=
  c_expressions h.1 ⟨k95, m_expressions (d := 995) h.1.1.2.2.2.2.2.2.2 h.2.2.1 (fun I' f hM' => CQ.mk (by rw [nbg_len, kds_LX h.2.2.2.2.2.1]) (hK _ _ (h.rd hR f.y hM')))⟩
theorem g_start {x : Int32} (h : INV I P bf ld rs N tl R cy) (hR : R ≤ Rb) (hK : ∀ I' P', IVx I' P' Rb → K I' P') {A : Prop} (hA : A) : V E 999 m_RR_start 112 (fun r I1 P1 => (1 : Nat) = 1 ∧ A ∧ kk 112 95 = (0, 6) ∧ V E 999 m_Model_start 112 (fun r' I2 P2 => CQ K Q r r' I2 P2) 0 [some (.inr 95), some (.inl x), none] [] 112 I1 P1) 0 [some (.inr 2), some (.inl x)] [] 112 I P :=
  c_start h.1 ⟨rfl, hA, k95, m_start (d := 994) h.1.1.2.2.2.2.2.2.2 h.2.2.1 (fun I' f hM' => CQ.mk (by rw [kds_LX h.2.2.2.2.2.1, tks_LX h.2.2.2.2.2.1]) (hK _ _ (h.rd hR f.y hM')))⟩
theorem g_end {x : Int32} (h : INV I P bf ld rs N tl R cy) (hR : R ≤ Rb) (hK : ∀ I' P', IVx I' P' Rb → K I' P') {A : Prop} (hA : A) : V E 999 m_RR_end 112 (fun r I1 P1 => (1 : Nat) = 1 ∧ A ∧ kk 112 95 = (0, 6) ∧ V E 999 m_Model_end 112 (fun r' I2 P2 => CQ K Q r r' I2 P2) 0 [some (.inr 95), some (.inl x), none] [] 112 I1 P1) 0 [some (.inr 2), some (.inl x)] [] 112 I P :=
  c_end h.1 ⟨rfl, hA, k95, m_end (d := 994) h.1.1.2.2.2.2.2.2.2 h.2.2.1 (fun I' f hM' => CQ.mk (by rw [kds_LX h.2.2.2.2.2.1, tks_LX h.2.2.2.2.2.1]) (hK _ _ (h.rd hR f.y hM')))⟩
theorem g_distance (h : INV I P bf ld rs N tl R cy) (hR : R ≤ Rb) (hK : ∀ I' P', IVx I' P' Rb → K I' P') : V E 999 m_RR_distance 112 (fun r I1 P1 => kk 112 95 = (0, 6) ∧ V E 999 m_Model_distance 112 (fun r' I2 P2 => CQ K Q r r' I2 P2) 0 [some (.inr 95)] [] 112 I1 P1) 0 [some (.inr 2)] [] 112 I P := by
  obtain ⟨hC, h7, hM, hk, hG, hL, hU⟩ := h
  refine c_distance (d := 996) hC hk (fun I1 f1 hC1 p1 e1 => ⟨k95, ?_⟩)
  have hM1 := hM.hi (I' := I1) (fun m hm => f1 m (by omega) (by omega) (by omega))
  refine s_distance (d := 998) hC.1.2.2.2.2.2.2.2 hM1.2.1.2.2 hM1.2.2.1.2.2 hM1.2.1.1 hM1.2.2.1.1 hM1.2.1.2.1 hM1.2.2.1.2.1 (fun I2 f2 => CQ.mk rfl (hK _ _ (inv_of hC1 (by rw [f1 2 (by decide) (by decide) (by decide)]; exact h7) ⟨true, e1, fun _ => p1⟩ hG hL hU hR (fun m hm => f2 m (by omega)) (hM1.fr (fun j _ => by rw [f2 95 (by decide)]) (fun m a b => f2 m (by omega))))))
theorem g_step {x : Int32} (h : INV I P bf ld rs N tl R cy) (hR : R ≤ Rb) (hK : ∀ I' P', IVx I' P' Rb → K I' P') {A : Prop} (hA : A) : V E 999 m_RR_step 112 (fun r I1 P1 => (1 : Nat) = 1 ∧ A ∧ kk 112 95 = (0, 6) ∧ V E 999 m_Model_step 112 (fun r' I2 P2 => CQ K Q r r' I2 P2) 0 [some (.inr 95), some (.inl x), none, none, none, none, none, none] [] 112 I1 P1) 0 [some (.inr 2), some (.inl x)] [] 112 I P := by
  obtain ⟨hC, h7, hM, hk, hG, hL, hU⟩ := h
  refine c_step (d := 996) hC hk (fun I1 f1 hC1 p1 e1 => ⟨rfl, hA, k95, ?_⟩)
  have hM1 := hM.hi (I' := I1) (fun m hm => f1 m (by omega) (by omega) (by omega))
  have hlen : (stps ld (fl (N.map un) tl)).length < 2 ^ 31 := by
    have := stp_len ld (fl (N.map un) tl) (ld.length + (fl (N.map un) tl).length) 0 0
    have h1 := hM.2.1.2.2
    have h2 := hM.2.2.1.2.2
    unfold stps
    omega
  refine s_step (d := 998) hC.1.2.2.2.2.2.2.2 hM1.2.1.2.2 hM1.2.2.1.2.2 hM1.2.1.1 hM1.2.2.1.1 hM1.2.1.2.1 hM1.2.2.1.2.1 (fun I2 v f2 hv => CQ.mk (sta_gat hlen hv).symm (hK _ _ (inv_of hC1 (by rw [f1 2 (by decide) (by decide) (by decide)]; exact h7) ⟨true, e1, fun _ => p1⟩ hG hL hU hR (fun m hm => f2 m (by omega)) (hM1.fr (fun j _ => by rw [f2 95 (by decide)]) (fun m a b => f2 m (by omega))))))
theorem g_load (h : INV I P bf ld rs N tl R cy) (hK : ∀ I' P', IVx I' P' Rb → K I' P') : V E 999 m_RR_load 112 (fun r I1 P1 => kk 112 95 = (0, 6) ∧ V E 999 m_Model_load 112 (fun r' I2 P2 => CQ K Q r r' I2 P2) 0 [some (.inr 95), none] [] 112 I1 P1) 0 [some (.inr 2)] [] 112 I P := by
  obtain ⟨hC, h7, hM, hk, hG, hL, hU⟩ := h
  refine c_load (d := 970) hC (fun I1 hC1 e7 e92 f1 => ⟨k95, m_load (d := 995) hC.1.2.2.2.2.2.2.2 (hM.hi f1) (fun I2 f2 hM2 => CQ.mk (by rw [outl_spns]) (hK _ _ ?_))⟩)
  have hlx := lxT_ok bf
  refine inv_of hC1 e7 ⟨false, e92, fun c => by cases c⟩ hG (by rw [ini_un]; exact hlx.1) (ini_ums bf) (Nat.zero_le _) (fun m hm => f2 m (by omega)) ?_
  rw [ini_un, hlx.2, ini_gz]
  exact hM2
theorem g_rule (h : INV I P bf ld rs N tl R cy) (hR : R ≤ Rb) (hK : ∀ I' P', IVx I' P' Rb → K I' P') : V E 999 m_RR_rule 112 (fun r I1 P1 => kk 112 95 = (0, 6) ∧ V E 999 m_Model_rule 112 (fun r' I2 P2 => CQ K Q r r' I2 P2) 0 [some (.inr 95), none] [] 112 I1 P1) 0 [some (.inr 2)] [] 112 I P := by
  have hI := h
  obtain ⟨hC, h7, hM, hk, hG, hL, hU⟩ := h
  have hMO : MO P := hC.1.2.2.2.2.2.2.2
  have e6 : (rtx rs).length = rs.length := List.length_map _
  refine c_rule (d := 972) hC (fun c6 => ⟨k95, m_rule (d := 995) hMO hM (fun _ => CQ.mk rfl (hK _ _ ⟨_, _, _, _, _, _, _, hI, hR⟩)) (fun I2 c _ _ _ => by omega) (fun I2 ar c _ _ _ => by omega)⟩) (fun I1 c6 hn hC1 f1 => ⟨k95, ?_⟩) (fun I1 ar c6 hs hC1 f1 e1 => ⟨k95, ?_⟩)
  · have hM1 := hM.hi (I' := I1) (fun m hm => f1 m (by omega))
    refine m_rule (d := 995) hMO hM1 (fun c => by omega) (fun I2 _ _ f2 hM2 => CQ.mk rfl (hK _ _ (inv_of hC1 (by rw [f1 2 (by omega)]; exact h7) (hk.fr (f1 92 (by omega)) (f1 94 (by omega))) hG hL hU hR (fun m hm => f2 m (by omega)) hM2))) (fun I2 ar _ hs _ _ => by rw [hn] at hs; cases hs)
  · have hM1 := hM.hi (I' := I1) (fun m hm => f1 m (by omega))
    refine m_rule (d := 995) hMO hM1 (fun c => by omega) (fun I2 _ hn _ _ => by rw [hs] at hn; cases hn) (fun I2 ar' _ hs' f2 hM2 => CQ.mk (by rw [e6]) (hK _ _ (inv_of (cy := cy) hC1 (by rw [e1]; exact h7) (hk.fr (f1 92 (by omega)) (f1 94 (by omega))) (fun Z t a hm => ?_) hL hU hR (fun m hm => f2 m (by omega)) ?_)))
    · rcases List.mem_append.mp hm with q | q
      · exact hG Z t a q
      · have := List.mem_singleton.mp q
        injection this with w1 w2
        injection w2 with w2 w3
        subst w1; subst w2; subst w3
        exact ⟨(lxT_ok bf).1, (isR_rg hs).2, isR_le hs⟩
    · have e : rtx (rs ++ [((lxT bf).1, (lxT bf).2, ar)]) = rtx rs ++ [bf] := by
        unfold rtx
        rw [List.map_append]
        show _ ++ [fl (lxT bf).1 (lxT bf).2] = _
        rw [(lxT_ok bf).2]
      rw [e]
      exact hM2
theorem g_fits {x : Int32} (h : INV I P bf ld rs N tl R cy) (hR : R ≤ Rb) (hK : ∀ I' P', IVx I' P' Rb → K I' P') {A : Prop} (hA : A) : V E 999 m_RR_fits 112 (fun r I1 P1 => (1 : Nat) = 1 ∧ A ∧ kk 112 95 = (0, 6) ∧ V E 999 m_Model_fits 112 (fun r' I2 P2 => CQ K Q r r' I2 P2) 0 [some (.inr 95), some (.inl x), none, none] [] 112 I1 P1) 0 [some (.inr 2), some (.inl x)] [] 112 I P := by
  have hI := h
  obtain ⟨hC, h7, hM, hk, hG, hL, hU⟩ := h
  have hMO : MO P := hC.1.2.2.2.2.2.2.2
  have h6 : rs.length ≤ 6 := by
    have e6 : (rtx rs).length = rs.length := List.length_map _
    have := hM.2.2.2.2.1.2.1
    omega
  have hz : ∀ I', MC I' bf ld (fl (N.map un) tl) (fl ((N.map gz).map um) (List.replicate tl.length (nI 0))) (rtx rs) R cy → MCz I' bf ld (N.map gz) tl (rtx rs) R cy := fun I' hm => by
    show MC I' bf ld (fl ((N.map gz).map un) tl) _ _ _ _
    rw [gz_un]
    exact hm
  have hz' : ∀ I', MCz I' bf ld (N.map gz) tl (rtx rs) R cy → MC I' bf ld (fl (N.map un) tl) (fl ((N.map gz).map um) (List.replicate tl.length (nI 0))) (rtx rs) R cy := fun I' hm => by
    have hm : MC I' bf ld (fl ((N.map gz).map un) tl) _ _ _ _ := hm
    rw [gz_un] at hm
    exact hm
  have hLg : LX ((N.map gz).map un) tl := by rw [gz_un]; exact hL
  refine s_fitsC (d := 970) hC (fun hno => ⟨rfl, hA, k95, m_fits (d := 995) hMO hG (hz I hM) hLg (fun _ => CQ.mk rfl (hK _ _ ⟨_, _, _, _, _, _, _, hI, hR⟩)) (fun r Z t ar I2 hx hr _ _ => absurd hx (hno r (List.getElem?_eq_some_iff.mp hr).1))⟩) (fun r Z t ar I1 hx hr hC1 f1 => ⟨rfl, hA, k95, ?_⟩)
  have hM1 := hM.hi (I' := I1) (fun m hm => f1 m (by omega))
  have hrl := (List.getElem?_eq_some_iff.mp hr).1
  refine m_fits (d := 995) hMO hG (hz I1 hM1) hLg (fun hno => absurd hx (hno r hrl)) (fun r' Z' t' ar' I2 hx' hr' f2 hM2 => ?_)
  have hrl' := (List.getElem?_eq_some_iff.mp hr').1
  have er : r = r' := (nI_eq (by omega) (by omega)).mp (hx.symm.trans hx')
  subst er
  rw [hr] at hr'
  cases hr'
  refine CQ.mk (by rw [gz_un, gz_kdi]) (hK _ _ (inv_of hC1 (by rw [f1 2 (by omega)]; exact h7) (hk.fr (f1 92 (by omega)) (f1 94 (by omega))) hG hL hU hR (fun m hm => f2 m (by omega)) (hz' I2 hM2)))
theorem g_run {x : Int32} (h : INV I P bf ld rs N tl R cy) (hRb : R < 2 ^ 27) (hR : R + 54000 ≤ Rb) (hK : ∀ I' P', IVx I' P' Rb → K I' P') {A : Prop} (hA : A) : V E 999 m_RR_run 112 (fun r I1 P1 => (1 : Nat) = 1 ∧ A ∧ kk 112 95 = (0, 6) ∧ V E 999 m_Model_run 112 (fun r' I2 P2 => CQ K Q r r' I2 P2) 0 [some (.inr 95), some (.inl x), none, none, none, none, none, none] [] 112 I1 P1) 0 [some (.inr 2), some (.inl x), none, none, none, none, none] [] 112 I P := by
  have hI := h
  obtain ⟨hC, h7, hM, hk, hG, hL, hU⟩ := h
  have hMO : MO P := hC.1.2.2.2.2.2.2.2
  have h120 := hM.2.2.1.2.2
  have h6 : rs.length ≤ 6 := by
    have e6 : (rtx rs).length = rs.length := List.length_map _
    have := hM.2.2.2.2.1.2.1
    omega
  have hz : ∀ (I' : mI) (M : List MIt) (R : Nat) (cy : Int32), MC I' bf ld (fl (M.map un) tl) (fl ((M.map gz).map um) (List.replicate tl.length (nI 0))) (rtx rs) R cy → MCz I' bf ld (M.map gz) tl (rtx rs) R cy := fun I' M R cy hm => by
    show MC I' bf ld (fl ((M.map gz).map un) tl) _ _ _ _
    rw [gz_un]
    exact hm
  have hz' : ∀ (I' : mI) (M : List MIt) (R : Nat) (cy : Int32), MCz I' bf ld (M.map gz) tl (rtx rs) R cy → MC I' bf ld (fl (M.map un) tl) (fl ((M.map gz).map um) (List.replicate tl.length (nI 0))) (rtx rs) R cy := fun I' M R cy hm => by
    have hm : MC I' bf ld (fl ((M.map gz).map un) tl) _ _ _ _ := hm
    rw [gz_un] at hm
    exact hm
  have hLg : LX ((N.map gz).map un) tl := by rw [gz_un]; exact hL
  have hrr : ∀ n, n ≤ 9 → rrun tl rs n (N.map gz) R 0 = (runl tl rs n N R 0).map (fun q => (q.1.map gz, q.2)) ∧ ∀ N2 R2 m2, runl tl rs n N R 0 = some (N2, R2, m2) → (LX (N2.map un) tl ∧ (fl (N2.map un) tl).length ≤ 120) ∧ ums [] N2 := fun n hn => rrun_runl hG h6 n N R 0 hL h120 hU (by omega)
  have hn9 : ∀ n n', n ≤ 9 → n' ≤ 9 → x = nI n → x = nI n' → n = n' := fun n n' a b e e' => (nI_eq (by omega) (by omega)).mp (e.symm.trans e')
  refine s_run (d := 969) hC (by omega) (fun hno => ⟨rfl, hA, k95, m_run (d := 993) hMO hG (by omega) (hz I N R cy hM) hLg (fun _ => CQ.mk rfl (hK _ _ ⟨_, _, _, _, _, _, _, hI, by omega⟩)) (fun n I2 M' R' m' a b e _ _ _ _ _ => absurd e (hno n a b)) (fun n I2 a b e _ _ _ => absurd e (hno n a b))⟩) (fun n I1 P1 N1 R1 m1 a b e hru hRR fP hC1 e7 e92 f1 => ⟨rfl, hA, k95, ?_⟩) (fun n I1 P1 a b e hru fP hC1 f1 => ⟨rfl, hA, k95, ?_⟩)
  · have hMO1 : MO P1 := hC1.1.2.2.2.2.2.2.2
    have hM1 := hM.hi (I' := I1) f1
    obtain ⟨w1, w2⟩ := hrr n b
    rw [hru] at w1
    obtain ⟨⟨hL1, -⟩, hU1⟩ := w2 N1 R1 m1 hru
    have hRu := rrun_R h6 n (N.map gz) R 0 (N1.map gz) R1 m1 w1
    refine m_run (d := 993) hMO1 hG (by omega) (hz I1 N R cy hM1) hLg (fun hno => absurd e (hno n a b)) (fun n' I2 M' R' m' a' b' e' hr2 hRR2 f2 hM2 hL2 => ?_) (fun n' I2 a' b' e' hr2 _ _ => ?_)
    · have := hn9 n n' b b' e e'
      subst this
      rw [w1] at hr2
      have hr2 : some (N1.map gz, R1, m1) = some (M', R', m') := hr2
      injection hr2 with hr2
      injection hr2 with q1 hr2
      injection hr2 with q2 q3
      subst q1; subst q2; subst q3
      exact CQ.mk rfl (hK _ _ (inv_of hC1 e7 ⟨false, e92, fun c => by cases c⟩ hG hL1 hU1 (by omega) (fun m hm => f2 m (by omega)) (hz' I2 N1 R1 _ hM2)))
    · have := hn9 n n' b b' e e'
      subst this
      rw [w1] at hr2
      cases hr2
  · have hMO1 : MO P1 := hC1.1.2.2.2.2.2.2.2
    have hM1 := hM.hi (I' := I1) (fun m hm => f1 m (by omega))
    obtain ⟨w1, -⟩ := hrr n b
    rw [hru] at w1
    refine m_run (d := 993) hMO1 hG (by omega) (hz I1 N R cy hM1) hLg (fun hno => absurd e (hno n a b)) (fun n' I2 M' R' m' a' b' e' hr2 _ _ _ _ => ?_) (fun n' I2 a' b' e' hr2 f2 hM2 => ?_)
    · have := hn9 n n' b b' e e'
      subst this
      rw [w1] at hr2
      cases hr2
    · exact CQ.mk rfl (hK _ _ (inv_of hC1 (by rw [f1 2 (by omega)]; exact h7) (hk.fr (f1 92 (by omega)) (f1 94 (by omega))) hG hL hU (by omega) (fun m hm => f2 m (by omega)) (hz' I2 N R cy hM2)))
end LW
