section QA
variable {E : XE} {d : Nat} {Q : Int32 → mI → mP → Prop} {P : mP} {N : List MIt} {tl : List Int32} {mt : Int32} {R : Nat} {rs : List RlT}
theorem Sh.pc (hS : Sh P) {r : Nat} (hr : r < 6) : PC P (P 60 0) (P 60 1) (6 + 9 * r) := by
  refine ⟨hS, rfl, rfl, ?_, hS.ro hr, by omega, by omega⟩
  rcases hS.2.2.2.1 with ⟨a, b⟩ | ⟨a, b⟩
  · exact Or.inl ⟨a, b⟩
  · exact Or.inr ⟨a, b⟩
theorem FrS.rls {I I' : mI} {on r : Nat} (h : FrS on (6 + 9 * r) I I') (hon : 60 < on) {Z : List ItC} {t : List Int32} {ar : Nat} (hr : r < 6) (hrs : rs.length ≤ 6) (hq : rs[r]? = some (Z, t, ar)) (hL : RLS I rs) (hz : ∃ mk, RLz I' (6 + 9 * r) Z t mk ar) : RLS I' rs := by
  intro r' Z' t' ar' hq'
  by_cases e : r' = r
  · subst e
    rw [hq] at hq'
    cases hq'
    exact hz
  · obtain ⟨mk, hm⟩ := hL r' Z' t' ar' hq'
    have hr' : r' < 6 := by
      have := (List.getElem?_eq_some_iff.mp hq').1
      omega
    exact ⟨mk, hm.fr (fun m a b => h.1 m (by omega) (by omega) (by omega) (by omega) (by omega) (by omega) (by omega))⟩
theorem FrS.frc {I I' : mI} {on r : Nat} (h : FrS on (6 + 9 * r) I I') (hon : on = 61 ∨ on = 67) (hr : r < 6) : FrC I I' := fun m hm => h.1 m (by omega) (by omega) (by omega) (by omega) (by omega) (by omega) (by omega)
theorem RLS.fr {I I' : mI} (hL : RLS I rs) (hrs : rs.length ≤ 6) (hf : ∀ m, 6 ≤ m → m < 60 → I' m = I m) : RLS I' rs := by
  intro r Z t ar hq
  obtain ⟨mk, hm⟩ := hL r Z t ar hq
  have hr : r < 6 := by
    have := (List.getElem?_eq_some_iff.mp hq).1
    omega
  exact ⟨mk, hm.fr (fun m a b => hf m (by omega) (by omega))⟩
theorem OS.fr {I I' : mI} {sk : List Nat} (h : OS I sk) (hf : ∀ m, 85 ≤ m → m ≤ 90 → I' m = I m) : OS I' sk := by
  refine ⟨by rw [hf 85 (by omega) (by omega)]; exact h.1, fun k x e => ?_⟩
  rw [hf 86 (by omega) (by omega)]
  exact h.2 k x e
theorem s_pass (hS : Sh P) {r : Nat} (hr : r < 6) (hrs : rs.length ≤ 6) {Zr : List ItC} {tr : List Int32} {ar : Nat} (hq : rs[r]? = some (Zr, tr, ar)) (hG : RG Zr ar) {I : mI} (hP : PG I P N tl mt R) (hL : RLS I rs) (hRb : R < 2 ^ 30)
    (h1 : ∀ I' P' X' R', pp Zr tr ar tl N.length N [] R = some (X', R') → Sh P' → (∀ m, m ≠ 60 → P' m = P m) → FrC I I' → RLS I' rs → PG I' P' X' tl mt R' → Q (nI 1) I' P')
    (h0 : ∀ I', pp Zr tr ar tl N.length N [] R = none → FrC I I' → RLS I' rs → Q (nI 0) I' P) : V E (d + 28) m_Program_pass 112 Q 0 [some (.inr 60), some (.inr (6 + 9 * r)), none, none, none, none, none] [] 112 I P := by
  have hC := hS.pc hr
  have hT := hC.tc
  have hcn := hC.2.2.2.1
  obtain ⟨xN, hOS, hOE, h6, hWN, hk10, hNl⟩ := hP
  generalize hoc : P 60 0 = oc at *
  generalize hon : P 60 1 = on at *
  have hon' : on = 61 ∨ on = 67 := by rcases hcn with ⟨-, h⟩ | ⟨-, h⟩ <;> omega
  have hb : 60 < on ∧ 60 < oc ∧ on + 5 < 79 ∧ oc + 5 < 79 ∧ apt on oc := by unfold apt; rcases hcn with ⟨rfl, rfl⟩ | ⟨rfl, rfl⟩ <;> omega
  have ap := hb.2.2.2.2
  have hn0 : (on ≠ 0) = True := by rcases hon' with rfl | rfl <;> simp
  have hc0 : (oc ≠ 0) = True := by rcases hcn with ⟨rfl, rfl⟩ | ⟨rfl, rfl⟩ <;> simp
  have hNn := hWN.len
  have hfN := fl_len (N.map un) tl
  have hexl := outl_len (kdi N)
  rw [kdi_len] at hexl
  have hexb : ∀ q ∈ (outl (kdi N)).2, q.2.1 < 2 ^ 20 := fun q hq' => by
    have := (outl_lt (kdi N) q hq').2
    rw [kdi_len] at this
    omega
  refine x_Program_pass_0 _ _ ?_
  simp only [k60, hon, hn0, hT.2.1, true_and]
  rw [h6]
  refine s_empty hT.2 ?_
  generalize hJ : uI (uI I on 5 (nI 0)) on 6 (nI 0) = J
  have fJ : FrK on I J := fun m hm => by rw [← hJ, uI_n (by omega), uI_n (by omega)]
  have fJS : FrS on (6 + 9 * r) I J := ⟨fun m a _ _ _ _ _ _ => fJ m a, fun j _ => by rw [fJ 60 (by omega)]⟩
  have hXJ : TZ J on [] [] 0 := by
    refine ⟨?_, fun j x hx => by simp [fl] at hx, rfl, fun j x hx => by simp [fl] at hx, ?_, fun t' k a b e => by simp [psn] at e⟩
    · rw [← hJ, uI_o (by decide), uI_s]
      rfl
    · rw [← hJ, uI_s]
      rfl
  obtain ⟨mk, hRz⟩ := hL r Zr tr ar hq
  have hLJ : PL J oc on (6 + 9 * r) N tl mt (outl (kdi N)).2 Zr tr ar [] R := ⟨fJ.txt ap xN, hXJ, hOE.fr (fun m a b => fJ m (by omega)), by rw [fJ 60 (by omega)]; exact h6, ⟨mk, hRz.fr (fun m a b => fJ m (by omega))⟩, fun z hz => by simp at hz, fun k hk => by simp [kdi] at hk⟩
  refine l_pp hC hWN hNl hk10 hG (by omega) hexb N.length 0 0 R [] J (by omega) (by omega) (by unfold outl; rw [kdi_len]; rfl) (by omega) hLJ (by rw [List.drop_zero]; show 0 + _ ≤ 120; omega) (fun I1 X' R' k' e1 f1 hL1 hr1 => ?_) (fun I1 e1 f1 hz1 => ?_)
  · rw [List.drop_zero] at e1
    have fS := fJS.tr f1
    have hRL : RLS I1 rs := fS.rls (by omega) hr hrs hq hL hL1.2.2.2.2.1
    have hRR := pp_R _ _ _ _ _ _ e1
    obtain ⟨yN, yX, yE, y6, -, yW, yk⟩ := hL1
    have hX1l := yW.len
    have hfX := fl_len (X'.map un) tl
    refine x_Program_pass_17 _ _ _ _ _ ?_
    simp only [k60, hoc, hc0, hT.1.1, true_and]
    rw [yN.2.2.2.2.1, psn_len, List.length_map]
    refine pk_le N.length N.length (fun _ => ?_) (fun q => by omega)
    refine x_Program_pass_174 _ _ ?_
    simp only [k60, hoc, hon, hc0, hn0, hT.1.1, hT.2.1, true_and]
    rw [yN.2.2.2.2.1, psn_len, List.length_map]
    refine z_appendSpace (d := d + 25) hT.2 hT.1 (by decide) (by decide) ap yX yN hWN hNl (Nat.le_refl _) (Or.inr ⟨rfl, rfl, rfl⟩) hr1 (fun I2 f2 x2 => ?_)
    have g6 : I2 60 6 = nI R' := by rw [f2 60 (by omega)]; exact y6
    have fC2 : FrC I I2 := (fS.frc hon' hr).tr (fun m hm => f2 m (by omega))
    have hRL2 : RLS I2 rs := hRL.fr hrs (fun m a b => f2 m (by omega))
    have hcell : ∀ m, 85 ≤ m → m ≤ 90 → I2 m = I m := fun m a b => by rw [f2 m (by omega), fS.1 m (by omega) (by omega) (by omega) (by omega) (by omega) (by omega) (by omega)]
    refine x_Program_pass_192 _ _ ⟨k60, ?_⟩
    rw [g6]
    refine pk_le R' R (fun c => ⟨rfl, ?_⟩) (fun c => ?_)
    · have e : R' = R := by omega
      subst e
      have eX := pp_same _ _ _ _ _ e1
      rw [List.nil_append] at eX
      subst eX
      exact h1 I2 P X' R' e1 hS (fun _ _ => rfl) fC2 hRL2 ⟨by rw [hoc]; exact f2.txt ap yN, hOS.fr hcell, hOE.fr hcell, g6, hWN, hk10, hNl⟩
    · have es : uP (uP P 60 0 (P 60 1)) 60 1 (P 60 0) = swp P := rfl
      rw [es]
      have hS' := hS.sww
      have e4 : swp P 60 4 = 85 := by rw [swp_n (Or.inr (by decide))]; exact hS.2.2.2.2.1.2.2.1
      have e0 : swp P 60 0 = on := by rw [swp_0]; exact hon
      simp only [k60, hoc, hon, hc0, hn0, e4, e0, k85, nzl 85 (by decide), true_and]
      have hT' : TO (swp P) on 120 := by
        rcases hon' with rfl | rfl
        · exact hS'.t61
        · exact hS'.t67
      refine s_become_O hS'.2.2.2.2.2.1 hT' (by omega) (by decide) (by rw [kdi_len]; omega) (by rw [kdi_len]; omega) yk x2.kr (fun I3 f3 hs3 he3 => ⟨rfl, ?_⟩)
      refine h1 I3 (swp P) X' R' e1 hS' (fun m hm => swp_m hm) (fC2.tr (fun m hm => f3 m (by omega))) (hRL2.fr hrs (fun m a b => f3 m (by omega))) ⟨?_, hs3, he3, ?_, yW, yk, by omega⟩
      · rw [e0]
        exact x2.fr (fun m a b => f3 m (by omega))
      · rw [f3 60 (by omega)]
        exact g6
  · rw [List.drop_zero] at e1
    have fS := fJS.tr f1
    exact h0 I1 e1 (fS.frc hon' hr) (fS.rls (by omega) hr hrs hq hL hz1)
/-- all rules in turn -/
def cyc (tl : List Int32) : List RlT → List MIt → Nat → Option (List MIt × Nat)
  | [], N, R => some (N, R)
  | (Z, t, ar) :: rs, N, R => match pp Z t ar tl N.length N [] R with
    | some (N2, R2) => cyc tl rs N2 R2
    | none => none
theorem l_cycle (hrs : rs.length ≤ 6) (hG : ∀ Z t ar, (Z, t, ar) ∈ rs → RG Z ar) : ∀ (n r : Nat) (P : mP) (N : List MIt) (R : Nat) (I : mI), r + n = rs.length → Sh P → PG I P N tl mt R → RLS I rs → R + 120 * n < 2 ^ 30 →
    (∀ I' P' X' R', cyc tl (rs.drop r) N R = some (X', R') → R' ≤ R + 120 * n → Sh P' → (∀ m, m ≠ 60 → P' m = P m) → FrC I I' → RLS I' rs → PG I' P' X' tl mt R' → Q (nI 1) I' P') →
    (∀ I' P', cyc tl (rs.drop r) N R = none → Sh P' → (∀ m, m ≠ 60 → P' m = P m) → FrC I I' → RLS I' rs → Q (nI 0) I' P') → V E (d + 29) m_Program_cycle 112 Q 2 [some (.inr 60), some (.inr 5), some (.inl (nI rs.length)), some (.inl (nI r))] [] 112 I P := by
  intro n
  induction n with
  | zero =>
    intro r P N R I hn hS hP hL hRb h1 h0
    refine x_Program_cycle_2 _ _ _ _ (pk_le rs.length r (fun _ => ⟨rfl, ?_⟩) (fun q => by omega))
    rw [List.drop_eq_nil_of_le (by omega)] at h1
    exact h1 I P N R rfl (by omega) hS (fun _ _ => rfl) FrC.rf hL hP
  | succ n ih =>
    intro r P N R I hn hS hP hL hRb h1 h0
    have hrl : r < rs.length := by omega
    obtain ⟨⟨Z, t, ar⟩, hq⟩ : ∃ q, rs[r]? = some q := ⟨_, List.getElem?_eq_getElem hrl⟩
    have hdr := drop_it hq
    rw [hdr] at h1 h0
    have hP5 : P 5 r = 6 + 9 * r := (hS.2.1 r (by omega)).1
    refine x_Program_cycle_2 _ _ _ _ (pk_le rs.length r (fun q => by omega) (fun _ => ?_))
    simp only [k5_]
    refine ⟨by decide, by decide, pk_le 6 r (fun q => by omega) (fun _ => ?_)⟩
    rw [clp (show r < 2 ^ 31 by omega), hP5]
    refine ⟨trivial, vp_in_nI (by omega) (by decide), by omega, k60, ?_⟩
    refine s_pass hS (by omega) hrs hq (hG Z t ar (List.mem_of_getElem? hq)) hP hL (by omega) (fun I1 P1 X1 R1 e1 hS1 hp1 f1 hL1 hP1 => ?_) (fun I1 e1 f1 hL1 => ?_)
    · refine ⟨fun _ => ?_, fun c => absurd c (by decide)⟩
      rw [n1]
      have hRR := pp_R _ _ _ _ _ _ e1
      have hNn := hP.2.2.2.2.1.len
      have hNl := hP.2.2.2.2.2.2
      rw [fl_len] at hNl
      have ec : cyc tl ((Z, t, ar) :: rs.drop (r + 1)) N R = cyc tl (rs.drop (r + 1)) X1 R1 := by
        show (match pp Z t ar tl N.length N [] R with
          | some (N2, R2) => cyc tl (rs.drop (r + 1)) N2 R2
          | none => none) = _
        rw [e1]
      rw [ec] at h1 h0
      exact ih (r + 1) P1 X1 R1 I1 (by omega) hS1 hP1 hL1 (by omega) (fun I2 P2 X2 R2 e2 b2 hS2 hp2 f2 => h1 I2 P2 X2 R2 e2 (by omega) hS2 (fun m hm => (hp2 m hm).trans (hp1 m hm)) (f1.tr f2)) (fun I2 P2 e2 hS2 hp2 f2 => h0 I2 P2 e2 hS2 (fun m hm => (hp2 m hm).trans (hp1 m hm)) (f1.tr f2))
    · refine ⟨fun c => absurd rfl c, fun _ => ⟨rfl, h0 I1 P ?_ hS (fun _ _ => rfl) f1 hL1⟩⟩
      show (match pp Z t ar tl N.length N [] R with
          | some (N2, R2) => cyc tl (rs.drop (r + 1)) N2 R2
          | none => none) = _
      rw [e1]
end QA
