/-! RecipeRewriter.run. -/
section RU
variable {E : XE} {d : Nat} {Q : Int32 → mI → mP → Prop} {rs : List RlT} {tl : List Int32} {mt : Int32}
theorem PG.tn {P : mP} (hS : Sh P) : TO P (P 60 0) 120 ∧ (P 60 0 = 61 ∨ P 60 0 = 67) := ⟨hS.now.2, hS.now.1⟩
theorem s_save {P : mP} (hS : Sh P) {I : mI} {N : List MIt} {R : Nat} (hP : PG I P N tl mt R) (h : ∀ I', FrK 73 I I' → TZ I' 73 N tl mt → Q (nI 0) I' P) : V E (d + 2) m_Program_save 112 Q 0 [some (.inr 60)] [] 112 I P := by
  obtain ⟨hT, hoc⟩ := PG.tn hS
  obtain ⟨xN, -, -, -, hWN, -, hNl⟩ := hP
  have hP2 : P 60 2 = 73 := hS.2.2.2.2.1.1
  have hNn := hWN.len
  have hfN := fl_len (N.map un) tl
  have hc0 : (P 60 0 ≠ 0) = True := by rcases hoc with h | h <;> rw [h] <;> simp
  refine x_Program_save_0 _ ?_
  simp only [k60, hP2, hc0, nzl 73 (by decide), true_and]
  exact ⟨hS.t73.1, s_becomeCopy hS.t73 hT (by decide) (by unfold apt; omega) xN hNl (by rw [psn_len, List.length_map]; omega) (fun I' f' x' => h I' f' x')⟩
theorem s_restore {P : mP} (hS : Sh P) {I : mI} {N : List MIt} {R : Nat} (x3 : TZ I 73 N tl mt) (hWN : WN N) (hk : k10 (kdi N)) (hNl : (fl (N.map un) tl).length ≤ 120) (h : ∀ I', (∀ m, m < 60 ∨ (73 ≤ m ∧ m ≤ 84) ∨ 90 < m → I' m = I m) → PG I' P N tl mt R → Q (nI 0) I' P) : V E (d + 28) m_Program_restore 112 Q 0 [some (.inr 60), some (.inl (nI R))] [] 112 I P := by
  obtain ⟨hT, hoc⟩ := PG.tn hS
  have hP2 : P 60 2 = 73 := hS.2.2.2.2.1.1
  have hP4 : P 60 4 = 85 := hS.2.2.2.2.1.2.2.1
  have hNn := hWN.len
  have hfN := fl_len (N.map un) tl
  have hc0 : (P 60 0 ≠ 0) = True := by rcases hoc with h | h <;> rw [h] <;> simp
  refine x_Program_restore_0 _ _ ?_
  simp only [k60, hP2, hc0, nzl 73 (by decide), true_and]
  refine ⟨hT.1, s_becomeCopy (d := d + 26) hT hS.t73 (by decide) (by unfold apt; omega) x3 hNl (by rw [psn_len, List.length_map]; omega) (fun I1 f1 x1 => ?_)⟩
  simp only [k60, hP4, hc0, k85, nzl 85 (by decide), true_and]
  have x1' : TZ I1 (P 60 0) N tl mt := x1
  refine s_become_O hS.2.2.2.2.2.1 hT (by omega) (by decide) (by rw [kdi_len]; omega) (by rw [kdi_len]; omega) hk x1'.kr (fun I2 f2 hs2 he2 => ?_)
  refine h _ (fun m hm => ?_) ⟨?_, ?_, ?_, uI_s, hWN, hk, hNl⟩
  · rw [uI_n (by omega), f2 m (by omega), f1 m (by omega)]
  · exact x1'.fr (fun m a b => by rw [uI_n (by omega), f2 m (by omega)])
  · exact hs2.fr (fun m a b => uI_n (by omega))
  · exact he2.fr (fun m a b => uI_n (by omega))
/-- cycles until nothing changes, n at most -/
def runl (tl : List Int32) (rs : List RlT) : Nat → List MIt → Nat → Nat → Option (List MIt × Nat × Nat)
  | 0, N, R, m => some (N, R, m)
  | n + 1, N, R, m => match cyc tl rs N R with
    | some (N2, R2) => if R2 ≤ R then some (N2, R2, m + 1) else runl tl rs n N2 R2 (m + 1)
    | none => none
theorem cyc_R {tl : List Int32} : ∀ (rs : List RlT) (N : List MIt) (R : Nat) (N2 : List MIt) (R2 : Nat), cyc tl rs N R = some (N2, R2) → R ≤ R2
  | [], N, R, N2, R2, h => by cases h; exact Nat.le_refl _
  | (Z, t, ar) :: rs, N, R, N2, R2, h => by
    unfold cyc at h
    split at h
    · rename_i hp
      have h1 := pp_R _ _ _ _ _ _ hp
      have h2 := cyc_R rs _ _ _ _ h
      omega
    · cases h
/-- the class: what is in its cells -/
def CP (I : mI) (P : mP) (bf ld : List Int32) (rs : List RlT) (N : List MIt) (tl : List Int32) (mt : Int32) (R : Nat) : Prop := Sh P ∧ I 2 1 = nI bf.length ∧ Rc (I 3) 0 bf ∧ bf.length ≤ 60 ∧ I 2 3 = nI ld.length ∧ Rc (I 4) 0 ld ∧ ld.length ≤ 60 ∧ I 2 5 = nI rs.length ∧ rs.length ≤ 6 ∧ RLS I rs ∧ (∀ Z t ar, (Z, t, ar) ∈ rs → RG Z ar) ∧ PG I P N tl mt R
theorem CP.fr {I I' : mI} {P P' : mP} {bf ld : List Int32} {N N' : List MIt} {R R' : Nat} (h : CP I P bf ld rs N tl mt R) (hS : Sh P') (hf : ∀ m, m < 6 → I' m = I m) (hL : RLS I' rs) (hP : PG I' P' N' tl mt R') : CP I' P' bf ld rs N' tl mt R' := by
  obtain ⟨-, a1, a2, a3, a4, a5, a6, a7, a8, -, a10, -⟩ := h
  refine ⟨hS, ?_, ?_, a3, ?_, ?_, a6, ?_, a8, hL, a10, hP⟩
  · rw [hf 2 (by omega)]; exact a1
  · rw [hf 3 (by omega)]; exact a2
  · rw [hf 2 (by omega)]; exact a4
  · rw [hf 4 (by omega)]; exact a5
  · rw [hf 2 (by omega)]; exact a7
theorem PG.fr {I I' : mI} {P : mP} {N : List MIt} {R : Nat} (hS : Sh P) (h : PG I P N tl mt R) (hf : ∀ m, 60 ≤ m → m ≤ 90 → I' m = I m) : PG I' P N tl mt R := by
  obtain ⟨a1, a2, a3, a4, a5⟩ := h
  have hoc := (PG.tn hS).2
  exact ⟨a1.fr (fun m x y => hf m (by omega) (by omega)), a2.fr (fun m x y => hf m (by omega) (by omega)), a3.fr (fun m x y => hf m (by omega) (by omega)), by rw [hf 60 (by omega) (by omega)]; exact a4, a5⟩
/-- only fields of the class's own object that are not its counts, and cells behind the outline, changed -/
theorem CP.fr2 {I I' : mI} {P : mP} {bf ld : List Int32} {N : List MIt} {R : Nat} (h : CP I P bf ld rs N tl mt R) (h2 : ∀ j, j = 1 ∨ j = 3 ∨ j = 5 → I' 2 j = I 2 j) (hf : ∀ m, 3 ≤ m → m ≤ 90 → I' m = I m) : CP I' P bf ld rs N tl mt R := by
  obtain ⟨a0, a1, a2, a3, a4, a5, a6, a7, a8, a9, a10, a11⟩ := h
  refine ⟨a0, ?_, ?_, a3, ?_, ?_, a6, ?_, a8, a9.fr a8 (fun m x y => hf m (by omega) (by omega)), a10, a11.fr a0 (fun m x y => hf m (by omega) (by omega))⟩
  · rw [h2 1 (by simp)]; exact a1
  · rw [hf 3 (by omega) (by omega)]; exact a2
  · rw [h2 3 (by simp)]; exact a4
  · rw [hf 4 (by omega) (by omega)]; exact a5
  · rw [h2 5 (by simp)]; exact a7
theorem l_run {bf ld : List Int32} {n : Nat} (hn : n ≤ 9) {N0 : List MIt} {R0 : Nat} (hW0 : WN N0) (hk0 : k10 (kdi N0)) (hl0 : (fl (N0.map un) tl).length ≤ 120) : ∀ (j c : Nat) (P : mP) (N : List MIt) (R made : Nat) (busy : Bool) (I : mI), c + j = n → CP I P bf ld rs N tl mt R → TZ I 73 N0 tl mt → R0 ≤ R → R + 720 * j < 2 ^ 29 → made ≤ c →
    (∀ I' P' N' R' m', (if busy = true then runl tl rs j N R made else some (N, R, made)) = some (N', R', m') → R0 ≤ R' → R' < 2 ^ 30 → (∀ m, m ≠ 60 → P' m = P m) → CP I' P' bf ld rs N' tl mt R' → I' 2 7 = nI m' → I' 92 4 = bI false → (∀ m, 95 ≤ m → I' m = I m) → Q (nI (R' - R0)) I' P') →
    (∀ I' P', (if busy = true then runl tl rs j N R made else some (N, R, made)) = none → (∀ m, m ≠ 60 → P' m = P m) → CP I' P' bf ld rs N0 tl mt R0 → (∀ m, m < 6 ∨ 91 < m → I' m = I m) → Q (-(nI 2)) I' P') → V E (d + 30) m_RR_run 112 Q 36 [some (.inr 2), some (.inl (nI n)), some (.inl (nI R0)), some (.inl (nI made)), some (.inl (bI busy)), some (.inl (nI c)), none] [] 112 I P := by
  intro j
  induction j with
  | zero =>
    intro c P N R made busy I hc hP h73 hR0 hRb hmc h1 h0
    have e : (if busy = true then runl tl rs 0 N R made else some (N, R, made)) = some (N, R, made) := by cases busy <;> rfl
    rw [e] at h1
    have hP' := hP
    obtain ⟨hS, -, -, -, -, -, -, -, -, -, -, hPG⟩ := hP'
    have hP8 : P 2 8 = 92 := hS.1.2.2.2.2
    have hP6 : P 2 6 = 60 := hS.1.2.2.2.1
    refine x_RR_run_36 _ _ _ _ _ _ (pk_le n c (fun _ => ?_) (fun q => by omega))
    simp only [k2_, hP8, hP6, k92, k60, nzl 92 (by decide), nzl 60 (by decide), true_and]
    refine x_Patch_forget_0 _ ⟨k92, rfl, rfl, ?_⟩
    simp only [hP6, k60, nzl 60 (by decide), true_and]
    rw [uI_n (show 60 ≠ 92 by decide), uI_n (show 60 ≠ 2 by decide), hPG.2.2.2.1, pk_sub hR0]
    refine h1 _ P N R made rfl hR0 (by omega) (fun _ _ => rfl) (hP.fr2 (fun j hj => ?_) (fun m a b => ?_)) ?_ ?_ (fun m hm => ?_)
    · rw [uI_n (by decide), uI_o (by omega)]
    · rw [uI_n (by omega), uI_n (by omega)]
    · rw [uI_n (by decide), uI_s]
    · rw [uI_s]; rfl
    · rw [uI_n (by omega), uI_n (by omega)]
  | succ j ih =>
    intro c P N R made busy I hc hP h73 hR0 hRb hmc h1 h0
    have hP' := hP
    obtain ⟨hS, b1, b2, b3, b4, b5, b6, b7, b8, hL, hG, hPG⟩ := hP'
    have hP8 : P 2 8 = 92 := hS.1.2.2.2.2
    have hP6 : P 2 6 = 60 := hS.1.2.2.2.1
    have hP4 : P 2 4 = 5 := hS.1.2.2.1
    refine x_RR_run_36 _ _ _ _ _ _ (pk_le n c (fun q => by omega) (fun _ => bz_i (fun cb => ?_) (fun cb => ?_)))
    · subst cb
      rw [if_neg (by decide)] at h1
      simp only [k2_, hP8, hP6, k92, k60, nzl 92 (by decide), nzl 60 (by decide), true_and]
      refine x_Patch_forget_0 _ ⟨k92, rfl, rfl, ?_⟩
      simp only [hP6, k60, nzl 60 (by decide), true_and]
      rw [uI_n (show 60 ≠ 92 by decide), uI_n (show 60 ≠ 2 by decide), hPG.2.2.2.1, pk_sub hR0]
      refine h1 _ P N R made rfl hR0 (by omega) (fun _ _ => rfl) (hP.fr2 (fun j hj => ?_) (fun m a b => ?_)) ?_ ?_ (fun m hm => ?_)
      · rw [uI_n (by decide), uI_o (by omega)]
      · rw [uI_n (by omega), uI_n (by omega)]
      · rw [uI_n (by decide), uI_s]
      · rw [uI_s]; rfl
      · rw [uI_n (by omega), uI_n (by omega)]
    · subst cb
      rw [if_pos rfl] at h1 h0
      simp only [k2_, hP8, hP6, hP4, k92, k60, nzl 92 (by decide), nzl 60 (by decide), nzl 5 (by decide), true_and]
      rw [b7, hPG.2.2.2.1]
      have hrl : runl tl rs (j + 1) N R made = (match cyc tl rs N R with
        | some (N2, R2) => if R2 ≤ R then some (N2, R2, made + 1) else runl tl rs j N2 R2 (made + 1)
        | none => none) := rfl
      refine x_Program_cycle_0 _ _ _ (l_cycle (rs := rs) b8 hG rs.length 0 P N R I (by omega) hS hPG hL (by omega) (fun I1 P1 X1 R1 e1 bR hS1 hp1 f1 hL1 hP1 => ?_) (fun I1 P1 e1 hS1 hp1 f1 hL1 => ?_))
      · rw [List.drop_zero] at e1
        rw [e1] at hrl
        dsimp only at hrl
        have hRR := cyc_R _ _ _ _ _ e1
        have hRb1 : R1 ≤ R + 720 := by omega
        have h73' : TZ I1 73 N0 tl mt := h73.fr (fun m a b => f1 m (by omega))
        have hCP1 : CP I1 P1 bf ld rs X1 tl mt R1 := hP.fr hS1 (fun m hm => f1 m (by omega)) hL1 hP1
        have e6 : P1 2 6 = 60 := by rw [hp1 2 (by decide)]; exact hP6
        refine ⟨fun _ => ?_, fun c => absurd c (by decide)⟩
        simp only [k2_, e6, k60, nzl 60 (by decide), true_and]
        rw [hP1.2.2.2.1, n1]
        refine pk_le R1 R (fun q => ?_) (fun q => ?_)
        · rw [if_pos q] at hrl
          refine x_RR_run_107 _ _ _ _ _ _ ?_
          rw [n1]
          refine ih (c + 1) P1 X1 R1 (made + 1) false I1 (by omega) hCP1 h73' (by omega) (by omega) (by omega) (fun I2 P2 N2 R2 m2 e2 g1 g2 g3 g4 g5 g6 g7 => ?_) (fun I2 P2 e2 => ?_)
          · rw [if_neg (by decide)] at e2
            exact h1 I2 P2 N2 R2 m2 (by rw [hrl]; exact e2) g1 g2 (fun m hm => (g3 m hm).trans (hp1 m hm)) g4 g5 g6 (fun m hm => (g7 m hm).trans (f1 m (by omega)))
          · rw [if_neg (by decide)] at e2
            cases e2
        · rw [if_neg (by omega)] at hrl
          refine x_RR_run_107 _ _ _ _ _ _ ?_
          rw [n1]
          refine ih (c + 1) P1 X1 R1 (made + 1) true I1 (by omega) hCP1 h73' (by omega) (by omega) (by omega) (fun I2 P2 N2 R2 m2 e2 g1 g2 g3 g4 g5 g6 g7 => ?_) (fun I2 P2 e2 g1 g2 g3 => ?_)
          · rw [if_pos rfl] at e2
            exact h1 I2 P2 N2 R2 m2 (by rw [hrl]; exact e2) g1 g2 (fun m hm => (g3 m hm).trans (hp1 m hm)) g4 g5 g6 (fun m hm => (g7 m hm).trans (f1 m (by omega)))
          · rw [if_pos rfl] at e2
            exact h0 I2 P2 (by rw [hrl]; exact e2) (fun m hm => (g1 m hm).trans (hp1 m hm)) g2 (fun m hm => (g3 m hm).trans (f1 m (by omega)))
      · rw [List.drop_zero] at e1
        rw [e1] at hrl
        have h73' : TZ I1 73 N0 tl mt := h73.fr (fun m a b => f1 m (by omega))
        have e6 : P1 2 6 = 60 := by rw [hp1 2 (by decide)]; exact hP6
        refine ⟨fun c => absurd rfl c, fun _ => ?_⟩
        simp only [k2_, e6, k60, nzl 60 (by decide), true_and]
        refine s_restore (d := d + 1) hS1 h73' hW0 hk0 hl0 (fun I2 f2 hP2 => ?_)
        refine h0 I2 P1 hrl hp1 (hP.fr hS1 (fun m hm => ?_) (hL1.fr b8 (fun m a b => f2 m (by omega))) hP2) (fun m hm => ?_)
        · rw [f2 m (by omega), f1 m (by omega)]
        · rw [f2 m (by omega), f1 m (by omega)]
theorem s_run {P : mP} {bf ld : List Int32} {N : List MIt} {R : Nat} {x : Int32} {I : mI} (hP : CP I P bf ld rs N tl mt R) (hRb : R < 2 ^ 28)
    (hx : (∀ n, 1 ≤ n → n ≤ 9 → x ≠ nI n) → Q (-(nI 1)) I P)
    (h1 : ∀ n I' P' N' R' m', 1 ≤ n → n ≤ 9 → x = nI n → runl tl rs n N R 0 = some (N', R', m') → R ≤ R' → (∀ m, m ≠ 60 → P' m = P m) → CP I' P' bf ld rs N' tl mt R' → I' 2 7 = nI m' → I' 92 4 = bI false → (∀ m, 95 ≤ m → I' m = I m) → Q (nI (R' - R)) I' P')
    (h0 : ∀ n I' P', 1 ≤ n → n ≤ 9 → x = nI n → runl tl rs n N R 0 = none → (∀ m, m ≠ 60 → P' m = P m) → CP I' P' bf ld rs N tl mt R → (∀ m, m < 6 ∨ 91 < m → I' m = I m) → Q (-(nI 2)) I' P') : V E (d + 30) m_RR_run 112 Q 0 [some (.inr 2), some (.inl x), none, none, none, none, none] [] 112 I P := by
  have hP' := hP
  obtain ⟨hS, b1, b2, b3, b4, b5, b6, b7, b8, hL, hG, hPG⟩ := hP'
  have hP6 : P 2 6 = 60 := hS.1.2.2.2.1
  refine x_RR_run_0 _ _ ⟨fun c => ?_, fun c => ⟨fun c2 => ?_, fun c2 => ?_⟩⟩
  · refine hx (fun n n1 n2 e => ?_)
    rw [e, nI_ltI (by omega) (by omega)] at c
    omega
  · have c1 : 1 ≤ x.toInt := by
      rw [ltn (by decide)] at c
      omega
    have c3 : x.toInt ≤ 9 := by
      rw [len (by decide)] at c2
      exact c2
    obtain ⟨n, hn1, hn9, rfl⟩ : ∃ n, 1 ≤ n ∧ n ≤ 9 ∧ x = nI n := ⟨x.toInt.toNat, by omega, by omega, by rw [eqn (by omega)]; omega⟩
    simp only [k2_, hP6, k60, nzl 60 (by decide), true_and]
    refine s_save (d := d + 27) hS hPG (fun I1 f1 x1 => ?_)
    rw [hPG.2.2.2.1]
    have hCP1 : CP I1 P bf ld rs N tl mt R := hP.fr hS (fun m hm => f1 m (by omega)) (hL.fr b8 (fun m a b => f1 m (by omega))) (by
      obtain ⟨a1, a2, a3, a4, a5⟩ := hPG
      have hoc := (PG.tn hS).2
      exact ⟨a1.fr (fun m x y => f1 m (by omega)), a2.fr (fun m x y => f1 m (by omega)), a3.fr (fun m x y => f1 m (by omega)), by rw [f1 60 (by omega)]; exact a4, a5⟩)
    refine l_run hn9 hPG.2.2.2.2.1 hPG.2.2.2.2.2.1 hPG.2.2.2.2.2.2 n 0 P N R 0 true I1 (by omega) hCP1 x1 (Nat.le_refl _) (by omega) (by omega) (fun I2 P2 N2 R2 m2 e2 g1 g2 g3 g4 g5 g6 g7 => ?_) (fun I2 P2 e2 g1 g2 g3 => ?_)
    · exact h1 n I2 P2 N2 R2 m2 hn1 hn9 rfl (by rw [if_pos rfl] at e2; exact e2) g1 g3 g4 g5 g6 (fun m hm => (g7 m hm).trans (f1 m (by omega)))
    · exact h0 n I2 P2 hn1 hn9 rfl (by rw [if_pos rfl] at e2; exact e2) g1 g2 (fun m hm => (g3 m hm).trans (f1 m (by omega)))
  · refine hx (fun n n1 n2 e => ?_)
    rw [e, nI_leI (by omega) (by omega)] at c2
    omega
end RU
