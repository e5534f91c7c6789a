/-! The law holds. -/
section LL
variable {E : XE} {Q : Int32 → mI → mP → Prop}
theorem l_law (hL : xL E ≤ 1024) (hQ : ∀ I P, Q (nI 1) I P) : ∀ (n i : Nat) (I : mI) (P : mP) (Rb : Nat), xL E ≤ i + 2 * n → i ≤ 2048 → Rb + 54000 * n < 2 ^ 27 → IVx I P Rb → V E 1000 m_Law_law 112 Q 18 [some (.inr 1), some (.inr 2), some (.inr 95), some (.inl (nI i))] [] 112 I P := by
  have hcmp : ∀ i, i ≤ 2048 → (nI (xL E) - nI 2 < nI i ↔ xL E < i + 2) := fun i hi => by
    rw [ltn (by omega), bv_t (by omega) (by decide)]
    omega
  intro n
  induction n with
  | zero =>
    intro i I P Rb hn hi hR hI
    exact x_Law_law_18 (d := 999) _ _ _ _ ⟨rfl, fun _ => ⟨rfl, hQ I P⟩, fun c => absurd ((hcmp i hi).mpr (by omega)) c⟩
  | succ n ih =>
    intro i I P Rb hn hi hR hI
    refine x_Law_law_18 (d := 999) _ _ _ _ ⟨rfl, fun _ => ⟨rfl, hQ I P⟩, fun c => ?_⟩
    rw [hcmp i hi] at c
    have go : ∀ I' P', IVx I' P' (Rb + 54000) → V E 1000 m_Law_law 112 Q 18 [some (.inr 1), some (.inr 2), some (.inr 95), some (.inl (nI i + nI 2))] [] 112 I' P' := fun I' P' h => by
      rw [nI_add]
      exact ih (i + 2) I' P' (Rb + 54000) (by omega) (by omega) (by omega) h
    obtain ⟨bf, ld, rs, N, tl, R, cy, hV, hRR⟩ := hI
    have hR1 : R ≤ Rb + 54000 := by omega
    have v0 : vp_in (nI i) (xL E) := vp_in_nI (by omega) (by omega)
    have v1 : vp_in (nI i + nI 1) (xL E) := by rw [n1]; exact vp_in_nI (by omega) (by omega)
    refine ⟨rfl, v0, ?_⟩
    refine ⟨fun _ => ⟨rfl, v1, k2_, g_type hV hR1 go v1⟩, fun _ => ?_⟩
    refine ⟨fun _ => ⟨k2_, g_clear hV hR1 go⟩, fun _ => ?_⟩
    refine ⟨fun _ => ⟨k2_, g_buffered hV hR1 go⟩, fun _ => ?_⟩
    refine ⟨fun _ => ⟨k2_, g_load hV go⟩, fun _ => ?_⟩
    refine ⟨fun _ => ⟨k2_, g_rule hV hR1 go⟩, fun _ => ?_⟩
    refine ⟨fun _ => ⟨k2_, g_rules hV hR1 go⟩, fun _ => ?_⟩
    refine ⟨fun _ => ⟨rfl, v1, k2_, g_run hV (by omega) (by omega) go v1⟩, fun _ => ?_⟩
    refine ⟨fun _ => ⟨k2_, g_cycles hV hR1 go⟩, fun _ => ?_⟩
    refine ⟨fun _ => ⟨k2_, g_rewritings hV hR1 go⟩, fun _ => ?_⟩
    refine ⟨fun _ => ⟨k2_, g_length hV hR1 go⟩, fun _ => ?_⟩
    refine ⟨fun _ => ⟨rfl, v1, k2_, g_at hV hR1 go v1⟩, fun _ => ?_⟩
    refine ⟨fun _ => ⟨rfl, v1, k2_, g_mark hV hR1 go v1⟩, fun _ => ?_⟩
    refine ⟨fun _ => ⟨k2_, g_statements hV hR1 go⟩, fun _ => ?_⟩
    refine ⟨fun _ => ⟨rfl, v1, k2_, g_kind hV hR1 go v1⟩, fun _ => ?_⟩
    refine ⟨fun _ => ⟨k2_, g_expressions hV hR1 go⟩, fun _ => ?_⟩
    refine ⟨fun _ => ⟨rfl, v1, k2_, g_start hV hR1 go v1⟩, fun _ => ?_⟩
    refine ⟨fun _ => ⟨rfl, v1, k2_, g_end hV hR1 go v1⟩, fun _ => ?_⟩
    refine ⟨fun _ => ⟨rfl, v1, k2_, g_fits hV hR1 go v1⟩, fun _ => ?_⟩
    refine ⟨fun _ => ⟨k2_, g_distance hV hR1 go⟩, fun _ => ?_⟩
    refine ⟨fun _ => ⟨rfl, v1, k2_, g_step hV hR1 go v1⟩, fun _ => ?_⟩
    exact go I P ⟨bf, ld, rs, N, tl, R, cy, hV, hR1⟩
theorem inv_0 {I : mI} {P : mP} (hz : ZI I 112) (hS : Sh P) : INV I P [] [] [] [] [] 0 (nI 0) := by
  have z : ∀ m j, 2 ≤ m → m < 112 → I m j = nI 0 := fun m j a b => hz m j a b
  obtain ⟨hoc, hT⟩ := hS.now
  have rc : ∀ (f : Nat → Int32) (o : Nat), Rc f o [] := fun f o j x hx => by simp at hx
  refine ⟨⟨hS, z 2 1 (by decide) (by decide), rc _ _, by simp, z 2 3 (by decide) (by decide), rc _ _, by simp, z 2 5 (by decide) (by decide), by simp, fun r Z t ar hr => by simp at hr, fun Z t ar hm => by simp at hm, ⟨?_, ?_, ?_, z 60 6 (by decide) (by decide), fun z hz => by simp at hz, fun k hk => by simp [kdi] at hk, by show (0 : Nat) ≤ 120; decide⟩⟩, z 2 7 (by decide) (by decide), ⟨⟨z 95 4 (by decide) (by decide), rc _ _, by simp⟩, ⟨z 95 3 (by decide) (by decide), rc _ _, by simp⟩, ⟨z 95 2 (by decide) (by decide), rc _ _, by show (0 : Nat) ≤ 120; decide⟩, ⟨rc _ _, rfl⟩, ⟨z 95 5 (by decide) (by decide), by show (0 : Nat) ≤ 6; decide, fun r x hr => by simp [rtx] at hr⟩, z 95 7 (by decide) (by decide), z 95 8 (by decide) (by decide)⟩, ⟨false, z 92 4 (by decide) (by decide), fun c => by cases c⟩, fun Z t ar hm => by simp at hm, rfl, fun z hz => by simp at hz⟩
  · exact ⟨z (P 60 0) 5 (by omega) (by omega), rc _ _, rfl, rc _ _, z (P 60 0) 6 (by omega) (by omega), fun t k a b ht => by simp [psn] at ht⟩
  · exact ⟨z 85 1 (by decide) (by decide), fun k x hx => by simp [outl, oln, kdi] at hx⟩
  · exact ⟨z 85 5 (by decide) (by decide), fun k f l a hx => by simp [outl, oln, kdi] at hx⟩
theorem law_V (hL : xL E ≤ 1024) (I : mI) (P : mP) : V E 1000 m_Law_law 112 (fun r _ _ => r = nI 1) 0 [some (.inr 1), none, none, none] [] 2 I P := by
  refine x_Law_law_0 (d := 999) _ ⟨rfl, by decide, by decide, rr_init (d := 996) ?_ (fun I1 P1 z1 sh => ⟨rfl, by decide, by decide, mo_init (d := 998) z1.nw (fun I2 P2 z2 f2 mo => ?_)⟩)⟩
  · intro m j a b
    have : m = 2 := by omega
    subst this
    rw [sI_s]
  · have f : ∀ m, m < 95 → P2 m = P1 m := fun m hm => by rw [f2 m hm, sP_n (by omega)]
    obtain ⟨s1, s2, ⟨t1, t2, t3, t4⟩, s4, s5, s6, s7⟩ := sh
    have hS : Sh P2 := by
      refine ⟨by rw [f 2 (by decide)]; exact s1, fun r hr => ?_, ⟨t1.fr (f _ (by decide)), t2.fr (f _ (by decide)), t3.fr (f _ (by decide)), t4.fr (f _ (by decide))⟩, Or.inl (by rw [f 60 (by decide)]; exact s4), by rw [f 60 (by decide)]; exact s5, s6.fr (f _ (by decide)), by rw [f 92 (by decide)]; exact s7, mo⟩
      obtain ⟨b0, b1, b2, b3, b4⟩ := s2 r hr
      refine ⟨?_, ?_, ?_, ?_, b4.fr (f _ (by omega))⟩
      · rw [f 5 (by decide)]; exact b0
      · rw [f _ (by omega)]; exact b1
      · rw [f _ (by omega)]; exact b2
      · rw [f _ (by omega)]; exact b3
    exact l_law hL (fun _ _ => rfl) 513 0 I2 P2 0 (by omega) (by omega) (by decide) ⟨_, _, _, _, _, _, _, inv_0 z2 hS, Nat.le_refl _⟩
end LL
