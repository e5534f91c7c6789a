/-! RecipeRewriter.fits. -/
def mtb (Zr : List ItC) (tr : List Int32) (ar : Nat) (s : List Int32) (A : List (Nat × Nat × Nat)) (f e : Nat) : Bool := match mtc (fl Zr tr) (psn 0 Zr) s A ar 0 f B0 with
  | some (e', _) => decide (e' = e)
  | none => false
def cft (Zr : List ItC) (tr : List Int32) (ar : Nat) (s : List Int32) (A : List (Nat × Nat × Nat)) : List (Nat × Nat × Nat) → Nat
  | [] => 0
  | (f, l, _) :: ex => (if mtb Zr tr ar s A f (l + 1) = true then 1 else 0) + cft Zr tr ar s A ex
section CF
variable {E : XE} {d : Nat} {Q : Int32 → mI → mP → Prop} {P : mP} {rs : List RlT} {tl : List Int32} {mt : Int32} {N : List MIt} {R : Nat}
theorem FrH.pg {I I' : mI} {o : Nat} (hf : FrH o I I') (ho : o + 8 < 60) (hS : Sh P) (h : PG I P N tl mt R) : PG I' P N tl mt R := h.fr hS (fun m a b => hf m (by omega) (by omega))
theorem FrH.rls {I I' : mI} {r : Nat} (hf : FrH (6 + 9 * r) I I') (h : RLS I rs) : RLS I' rs := by
  intro r' Z t ar hq
  obtain ⟨mk, hm⟩ := h r' Z t ar hq
  exact ⟨mk, hm.fr (fun m a b => hf m (by omega) (by omega))⟩
theorem l_count (hS : Sh P) {r : Nat} (hr : r < 6) {Zr : List ItC} {tr : List Int32} {ar : Nat} (hq : rs[r]? = some (Zr, tr, ar)) : ∀ (n k c : Nat) (I : mI), k + n = (outl (kdi N)).2.length → c ≤ k → PG I P N tl mt R → RLS I rs → (∀ I', FrH (6 + 9 * r) I I' → Q (nI (c + cft Zr tr ar (fl (N.map un) tl) (psn 0 (N.map un)) ((outl (kdi N)).2.drop k))) I' P) → V E (d + 28) m_Program_countFitting 112 Q 4 [some (.inr 60), some (.inr (6 + 9 * r)), some (.inl (nI c)), some (.inl (nI k))] [] 112 I P := by
  obtain ⟨hT, hoc⟩ := PG.tn hS
  have hP4 : P 60 4 = 85 := hS.2.2.2.2.1.2.2.1
  have hOO : OO P := hS.2.2.2.2.2.1
  have hc0 : (P 60 0 ≠ 0) = True := by rcases hoc with h | h <;> rw [h] <;> simp
  have hO := hS.ro hr
  intro n
  induction n with
  | zero =>
    intro k c I hk hck hP hL h
    refine x_Program_countFitting_4 _ _ _ _ ?_
    simp only [k60, hP4, k85, nzl 85 (by decide), true_and]
    rw [hP.2.2.1.1]
    refine pk_le (outl (kdi N)).2.length k (fun _ => ?_) (fun q => by omega) rfl rfl (by have := outl_len (kdi N); have h2 := hP.2.2.2.2.1.len; have h3 := hP.2.2.2.2.2.2; rw [fl_len] at h3; rw [kdi_len] at this; omega) (by have := outl_len (kdi N); have h2 := hP.2.2.2.2.1.len; have h3 := hP.2.2.2.2.2.2; rw [fl_len] at h3; rw [kdi_len] at this; omega)
    have := h I FrH.rf
    rw [List.drop_eq_nil_of_le (by omega)] at this
    exact this
  | succ n ih =>
    intro k c I hk hck hP hL h
    have hP' := hP
    obtain ⟨xN, hOS, hOE, h6, hWN, hk10, hNl⟩ := hP'
    have hNn := hWN.len
    have hfN := fl_len (N.map un) tl
    have hexl := outl_len (kdi N)
    rw [kdi_len] at hexl
    have hkl : k < (outl (kdi N)).2.length := by omega
    obtain ⟨⟨f, l, a⟩, he⟩ : ∃ q, (outl (kdi N)).2[k]? = some q := ⟨_, List.getElem?_eq_getElem hkl⟩
    have hlt := outl_lt (kdi N) _ (List.mem_of_getElem? he)
    rw [kdi_len] at hlt
    dsimp only at hlt
    obtain ⟨e1, e2, e3⟩ := hOE.2 k f l a he
    have hdr := drop_it he
    obtain ⟨mk, hR⟩ := hL r Zr tr ar hq
    have hLX := hR.2.2.1
    have h60 := hR.2.2.2.1
    have hZl := LX_len hLX
    have hkr := kds_psn Zr 0
    rw [hdr] at h
    refine x_Program_countFitting_4 _ _ _ _ ?_
    simp only [k60, hP4, k85, nzl 85 (by decide), true_and]
    rw [hOE.1]
    refine pk_le (outl (kdi N)).2.length k (fun q => by omega) (fun _ => ?_)
    simp only [k60, hP4, k85, hc0, hOO.2.1, hOO.2.2.1, k87, k88, nzl 85 (by decide), nzl 87 (by decide), nzl 88 (by decide), true_and]
    rw [clp (show k < 2 ^ 31 by omega), e1, e2, n1 l]
    refine ⟨vp_in_nI (by omega) (by decide), vp_in_nI (by omega) (by decide), hO.1, ?_⟩
    refine s_matches (d := d) hO hT (by decide) (by omega) h60 (by rw [psn_len]; omega) (by rw [hkr]; exact hR.2.2.2.2.2) (LX_bd hLX) (HD_LX hLX).1 hNl (by rw [psn_len, List.length_map]; omega) (by rw [kdi_psn]; exact hk10) (hWN.bd tl) (by rw [psn_len]; have := hR.2.2.2.2.1; omega) (by omega) (by rw [psn_len, List.length_map]; omega) hR.1 hR.2.1 xN (fun I1 B f1 hm hB => ?_) (fun I1 f1 hm => ?_)
    · refine ⟨fun c => absurd c (by decide), fun _ => ?_⟩
      rw [n1, n1]
      have hb : mtb Zr tr ar (fl (N.map un) tl) (psn 0 (N.map un)) f (l + 1) = true := by
        unfold mtb
        rw [hm]
        exact decide_eq_true rfl
      have ec : cft Zr tr ar (fl (N.map un) tl) (psn 0 (N.map un)) ((f, l, a) :: (outl (kdi N)).2.drop (k + 1)) = 1 + cft Zr tr ar (fl (N.map un) tl) (psn 0 (N.map un)) ((outl (kdi N)).2.drop (k + 1)) := by
        show (if _ then _ else _) + _ = _
        rw [if_pos hb]
      rw [ec, ← Nat.add_assoc] at h
      exact ih (k + 1) (c + 1) I1 (by omega) (by omega) (f1.pg (by omega) hS hP) (f1.rls hL) (fun I2 f2 => h I2 (f1.tr f2))
    · refine ⟨fun _ => ?_, fun c => absurd rfl c⟩
      rw [n1]
      have hb : ¬ mtb Zr tr ar (fl (N.map un) tl) (psn 0 (N.map un)) f (l + 1) = true := by
        unfold mtb
        intro hc
        cases hmt : mtc (fl Zr tr) (psn 0 Zr) (fl (N.map un) tl) (psn 0 (N.map un)) ar 0 f B0 with
        | none => rw [hmt] at hc; cases hc
        | some z =>
          obtain ⟨e', B⟩ := z
          rw [hmt] at hc
          have := of_decide_eq_true hc
          subst this
          exact hm B hmt
      have ec : cft Zr tr ar (fl (N.map un) tl) (psn 0 (N.map un)) ((f, l, a) :: (outl (kdi N)).2.drop (k + 1)) = 0 + cft Zr tr ar (fl (N.map un) tl) (psn 0 (N.map un)) ((outl (kdi N)).2.drop (k + 1)) := by
        show (if _ then _ else _) + _ = _
        rw [if_neg hb]
      rw [ec, Nat.zero_add] at h
      exact ih (k + 1) c I1 (by omega) (by omega) (f1.pg (by omega) hS hP) (f1.rls hL) (fun I2 f2 => h I2 (f1.tr f2))
theorem s_fitsC {bf ld : List Int32} {x : Int32} {I : mI} (hP : CP I P bf ld rs N tl mt R) (hx : (∀ r, r < rs.length → x ≠ nI r) → Q (-(nI 1)) I P)
    (h : ∀ r Z t ar I', x = nI r → rs[r]? = some (Z, t, ar) → CP I' P bf ld rs N tl mt R → (∀ m, m < 6 ∨ 60 ≤ m → I' m = I m) → Q (nI (cft Z t ar (fl (N.map un) tl) (psn 0 (N.map un)) (outl (kdi N)).2)) I' P) : V E (d + 29) m_RR_fits 112 Q 0 [some (.inr 2), some (.inl x)] [] 112 I P := by
  have hP' := hP
  obtain ⟨hS, b1, b2, b3, b4, b5, b6, b7, b8, hL, hG, hPG⟩ := hP'
  have hP6 : P 2 6 = 60 := hS.1.2.2.2.1
  have hP4 : P 2 4 = 5 := hS.1.2.2.1
  refine x_RR_fits_0 _ _ ⟨fun c => hx (fun r hr e => ?_), fun c => ⟨k2_, ?_⟩⟩
  · rw [e] at c
    exact nI_pos (by omega) c
  · rw [b7]
    have c0 : 0 ≤ x.toInt := by
      have : ¬ x < nI 0 := c
      rw [ltn (by decide)] at this
      omega
    have hlt := x.toInt_lt
    obtain ⟨r, hr31, rfl⟩ : ∃ r, r < 2 ^ 31 ∧ x = nI r := ⟨x.toInt.toNat, by omega, by rw [eqn (by omega)]; omega⟩
    refine pk_le rs.length r (fun q => hx (fun r' hr' e => ?_)) (fun q => ?_)
    · rw [nI_eq hr31 (by omega)] at e
      omega
    · obtain ⟨⟨Z, t, ar⟩, hq⟩ : ∃ q, rs[r]? = some q := ⟨_, List.getElem?_eq_getElem q⟩
      have hP5 : P 5 r = 6 + 9 * r := (hS.2.1 r (by omega)).1
      simp only [k2_, hP6, hP4, k5_, k60, nzl 60 (by decide), nzl 5 (by decide), true_and]
      rw [clp hr31, hP5]
      refine ⟨vp_in_nI (by omega) (by decide), by omega, x_Program_countFitting_0 _ _ (l_count hS (by omega) hq (outl (kdi N)).2.length 0 0 I (by omega) (Nat.le_refl _) hPG hL (fun I' f' => ?_))⟩
      rw [Nat.zero_add, List.drop_zero]
      exact h r Z t ar I' rfl hq (hP.fr hS (fun m hm => f' m (by omega) (by omega)) (f'.rls hL) (f'.pg (by omega) hS hPG)) (fun m hm => f' m (by omega) (by omega))
end CF
