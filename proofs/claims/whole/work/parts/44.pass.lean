/-! The pass of the class, purely, and its steps. -/
section PD
variable (Zr : List ItC) (tr : List Int32) (ar : Nat)
def mtx (X : List MIt) (f : Nat) : Option BN := match mtc (fl Zr tr) (psn 0 Zr) (fl (X.map un) []) (psn 0 (X.map un)) ar 0 f B0 with
  | some (e, B) => if e = X.length then some B else none
  | none => none
def dpt (Y : List MIt) : Nat := match rn true 0 0 0 (kdi Y) with
  | some (_, _, mx) => mx
  | none => 0
def rwx (X : List MIt) (f a suf R : Nat) (B : BN) : Option (List MIt) := match X[f]?, fil X B (nI (R + 1)) true (Zr.drop (ar + 1)) with
  | some z, y :: Y => if ftl ((X.take f).map un) + z.1.length + ftl ((y :: Y).map un) + suf ≤ 120 ∧ a + dpt (y :: Y) ≤ 12 then some (X.take f ++ sps y z.1 z.2.1 :: Y) else none
  | _, _ => none
def tri (X : List MIt) (f a suf R : Nat) : Option (List MIt × Nat) := match mtx Zr tr ar X f with
  | none => some (X, R)
  | some B => (rwx Zr ar X f a suf R B).map (fun X2 => (X2, R + 1))
def ps (suf0 : Nat) : List MIt → List MIt → List Nat → Nat → Option (List MIt × Nat)
  | [], X, _, R => some (X, R)
  | z :: S, X, st, R => if (mkd z = 1 ∧ hd4 (kdi S) = true) ∧ st.length < 12 then ps suf0 S (X ++ [z]) (X.length :: st) R
    else if mkd z = 5 then (match st with
      | f :: st' => (match tri Zr tr ar (X ++ [z]) f st'.length (ftl (S.map un) + suf0) R with
        | some (X2, R2) => ps suf0 S X2 st' R2
        | none => none)
      | [] => ps suf0 S (X ++ [z]) [] R)
    else if mkd z = 1 ∨ mkd z = 2 then (match tri Zr tr ar (X ++ [z]) X.length st.length (ftl (S.map un) + suf0) R with
        | some (X2, R2) => ps suf0 S X2 st R2
        | none => none)
    else ps suf0 S (X ++ [z]) st R
end PD
/-- the rule, as far as it matters: it can be read, template holes are in the pattern, the template is an expression -/
def RG (Zr : List ItC) (ar : Nat) : Prop := RK Zr ar ∧ ∃ qz mz, rn true 0 0 0 ((Zr.drop (ar + 1)).map (fun z => z.2.1)) = some (qz, 0, mz) ∧ 2 ≤ qz
def FrS (on o : Nat) (I I' : mI) : Prop := (∀ m, (m < on ∨ on + 5 < m) → (m < 79 ∨ 84 < m) → m ≠ 91 → m ≠ 60 → m ≠ o + 3 → m ≠ o + 7 → m ≠ o + 8 → I' m = I m) ∧ ∀ j, j ≠ 6 → I' 60 j = I 60 j
theorem FrS.rf {on o : Nat} {I : mI} : FrS on o I I := ⟨fun _ _ _ _ _ _ _ _ => rfl, fun _ _ => rfl⟩
theorem FrS.tr {on o : Nat} {I I' I'' : mI} (h : FrS on o I I') (h' : FrS on o I' I'') : FrS on o I I'' := ⟨fun m a b c e f g i => (h'.1 m a b c e f g i).trans (h.1 m a b c e f g i), fun j hj => (h'.2 j hj).trans (h.2 j hj)⟩
theorem k91 : kk 112 91 = (1, 120) := rfl
/-- where a pass stands: next text X, R rewritings made -/
def PL (I : mI) (oc on o : Nat) (N : List MIt) (tl : List Int32) (mt : Int32) (ex : List (Nat × Nat × Nat)) (Zr : List ItC) (tr : List Int32) (ar : Nat) (X : List MIt) (R : Nat) : Prop :=
  TZ I oc N tl mt ∧ TZ I on X [] 0 ∧ OE I ex ∧ I 60 6 = nI R ∧ (∃ mk, RLz I o Zr tr mk ar) ∧ WN X ∧ k10 (kdi X)
theorem OE.fr {I I' : mI} {ex : List (Nat × Nat × Nat)} (h : OE I ex) (hf : ∀ m, 85 ≤ m → m ≤ 90 → I' m = I m) : OE I' ex := by
  refine ⟨by rw [hf 85 (by omega) (by omega)]; exact h.1, fun k f l a e => ?_⟩
  rw [hf 87 (by omega) (by omega), hf 88 (by omega) (by omega), hf 89 (by omega) (by omega)]
  exact h.2 k f l a e
section PV
variable {E : XE} {d : Nat} {Q : Int32 → mI → mP → Prop} {P : mP} {oc on o : Nat} {N : List MIt} {tl : List Int32} {mt : Int32} {ex : List (Nat × Nat × Nat)} {Zr : List ItC} {tr : List Int32} {ar : Nat}
/-- the cells of a pass -/
def PC (P : mP) (oc on o : Nat) : Prop := Sh P ∧ P 60 0 = oc ∧ P 60 1 = on ∧ ((oc = 61 ∧ on = 67) ∨ (oc = 67 ∧ on = 61)) ∧ RO P o ∧ 5 < o ∧ o + 8 < 60
theorem PC.tc (h : PC P oc on o) : TO P oc 120 ∧ TO P on 120 := by
  obtain ⟨hS, -, -, h3, -⟩ := h
  rcases h3 with ⟨rfl, rfl⟩ | ⟨rfl, rfl⟩
  · exact ⟨hS.t61, hS.t67⟩
  · exact ⟨hS.t67, hS.t61⟩
theorem v_copy (hC : PC P oc on o) (hWN : WN N) (hNl : (fl (N.map un) tl).length ≤ 120) (hk : k10 (kdi N)) {I : mI} {x2 x3 : Int32} {t : Nat} {X : List MIt} {R : Nat} {z : MIt} (hL : PL I oc on o N tl mt ex Zr tr ar X R) (hz : N[t]? = some z) (hroom : ftl ((X ++ [z]).map un) ≤ 120)
    (h : ∀ I', FrS on o I I' → I' 91 t = nI X.length → (∀ j, j ≠ t → I' 91 j = I 91 j) → PL I' oc on o N tl mt ex Zr tr ar (X ++ [z]) R → V E (d + 28) m_Program_pass 112 Q 73 [some (.inr 60), some (.inr o), some (.inl x2), some (.inl x3), some (.inl (nI t)), none, none] [] 112 I' P) : V E (d + 28) m_Program_pass 112 Q 17 [some (.inr 60), some (.inr o), some (.inl x2), some (.inl x3), some (.inl (nI t)), none, none] [] 112 I P := by
  have hT := hC.tc
  obtain ⟨hS, hP0, hP1, hcn, hO, ho5, ho⟩ := hC
  obtain ⟨xN, xX, hE, h6, ⟨mk, hR⟩, hW, hkX⟩ := hL
  have hP5 : P 60 5 = 91 := hS.2.2.2.2.1.2.2.2
  have htl : t < N.length := (List.getElem?_eq_some_iff.mp hz).1
  have hNn := hWN.len
  have hfN := fl_len (N.map un) tl
  have hn0 : (on ≠ 0) = True := by rcases hcn with ⟨rfl, rfl⟩ | ⟨rfl, rfl⟩ <;> simp
  have hc0 : (oc ≠ 0) = True := by rcases hcn with ⟨rfl, rfl⟩ | ⟨rfl, rfl⟩ <;> simp
  have ap : apt on oc := by unfold apt; rcases hcn with ⟨rfl, rfl⟩ | ⟨rfl, rfl⟩ <;> omega
  obtain ⟨sp, msp, k, w, mw⟩ := z
  have hXn := hW.len
  have hr1 : ftl (X.map un) + (sp.length + w.length) ≤ 120 := by
    rw [List.map_append, ftl_app] at hroom
    have : ftl (List.map un [(sp, msp, k, w, mw)]) = sp.length + w.length := by
      show ftl [(sp, k, w)] = _
      rw [ftl_c]
      rfl
    omega
  refine x_Program_pass_17 _ _ _ _ _ ?_
  simp only [k60, hP0, hP1, hn0, hc0, hT.1.1, hT.2.1, true_and]
  rw [xN.2.2.2.2.1, psn_len, List.length_map]
  refine pk_le N.length t (fun q => by omega) (fun _ => ?_)
  refine z_appendSpace (d := d + 25) hT.2 hT.1 (by decide) (by decide) ap xX xN hWN hNl (by omega) (Or.inl ⟨(k, w, mw), hz⟩) (by omega) (fun I1 f1 x1 => ?_)
  simp only [k60, hP0, hP1, hP5, k91, hn0, hc0, hT.1.1, hT.2.1, nzl 91 (by decide), true_and]
  refine ⟨vp_in_nI (by omega) (by decide), ?_⟩
  rw [clp (show t < 2 ^ 31 by omega), x1.2.2.2.2.1, psn_len, List.length_map, n1]
  have xN1 : TZ I1 oc N tl mt := f1.txt ap xN
  have hoc : on + 5 < 85 ∧ oc + 5 < 85 ∧ 60 < on ∧ 60 < oc ∧ (on + 5 < 79) ∧ (oc + 5 < 79) := by rcases hcn with ⟨rfl, rfl⟩ | ⟨rfl, rfl⟩ <;> omega
  have x2' : TZ (uI I1 91 t (nI X.length)) on X sp msp := x1.fr (fun m a b => uI_n (by omega))
  have xN2 : TZ (uI I1 91 t (nI X.length)) oc N tl mt := xN1.fr (fun m a b => uI_n (by omega))
  have etk : (N.drop t).take (t + 1 - t) = (sp, msp, k, w, mw) :: [] := by rw [drop_it hz, show t + 1 - t = 1 by omega]; rfl
  refine z_appendSpan (d := d + 25) hT.2 hT.1 (by decide) (by decide) ap x2' xN2 hW hWN hNl (by omega) (by omega) etk hroom (fun I2 f2 x2 => ?_)
  have fr : ∀ m, (m < on ∨ on + 5 < m) → m ≠ 91 → I2 m = I m := fun m a b => by rw [f2 m a, uI_n b, f1 m a]
  refine h I2 ⟨fun m a _ b _ _ _ _ => fr m a b, fun j _ => by rw [fr 60 (by omega) (by omega)]⟩ ?_ (fun j hj => ?_) ⟨f2.txt ap xN2, x2, ?_, by rw [fr 60 (by omega) (by omega)]; exact h6, ⟨mk, hR.fr (fun m a b => fr m (by omega) (by omega))⟩, ?_, ?_⟩
  · rw [f2 91 (by omega), uI_s]
  · rw [f2 91 (by omega), uI_o hj, f1 91 (by omega)]
  · exact hE.fr (fun m a b => fr m (by omega) (by omega))
  · exact hW.app (fun y hy => by
      rw [List.mem_singleton] at hy
      subst hy
      exact hWN _ (List.mem_of_getElem? hz))
  · intro k' hk'
    rw [kdi_app] at hk'
    rcases List.mem_append.mp hk' with h' | h'
    · exact hkX k' h'
    · have : k' = k := by simpa [kdi, mkd] using h'
      subst this
      exact hk k' (List.mem_map.mpr ⟨_, List.mem_of_getElem? hz, rfl⟩)
theorem v_skip (hC : PC P oc on o) {I : mI} {x2 : Int32} {t k R : Nat} {X : List MIt} (hL : PL I oc on o N tl mt ex Zr tr ar X R) (hex : ex.length ≤ 120) (hk : k ≤ ex.length) (hexb : ∀ q ∈ ex, q.2.1 < 2 ^ 20) (ht : t < 2 ^ 20) (hno : ∀ f l a, ex[k]? = some (f, l, a) → l ≠ t) (h : V E (d + 28) m_Program_pass 112 Q 17 [some (.inr 60), some (.inr o), some (.inl x2), some (.inl (nI k)), some (.inl (nI (t + 1))), none, none] [] 112 I P) : V E (d + 28) m_Program_pass 112 Q 73 [some (.inr 60), some (.inr o), some (.inl x2), some (.inl (nI k)), some (.inl (nI t)), none, none] [] 112 I P := by
  obtain ⟨hS, hP0, hP1, hcn, hO, ho5, ho⟩ := hC
  obtain ⟨xN, xX, hE, h6, -, hW, hkX⟩ := hL
  have hP4 : P 60 4 = 85 := hS.2.2.2.2.1.2.2.1
  have hOO : OO P := hS.2.2.2.2.2.1
  have fin : V E (d + 28) m_Program_pass 112 Q 168 [some (.inr 60), some (.inr o), some (.inl x2), some (.inl (nI k)), some (.inl (nI t)), none, none] [] 112 I P := by
    refine x_Program_pass_168 _ _ _ _ _ ?_
    rw [n1]
    exact h
  refine x_Program_pass_73 _ _ _ _ _ ?_
  simp only [k60, hP4, k85, nzl 85 (by decide), true_and]
  refine x_Outline_endsWith_0 _ _ _ ⟨k85, ?_⟩
  rw [hE.1]
  refine pk_le ex.length k (fun _ => ⟨rfl, fun _ => fin, fun c => absurd rfl c⟩) (fun hkl => ?_)
  simp only [k85, hOO.2.2.1, k88, nzl 88 (by decide), true_and]
  obtain ⟨⟨f, l, a⟩, hq⟩ : ∃ q, ex[k]? = some q := ⟨_, List.getElem?_eq_getElem hkl⟩
  have hlb : l < 2 ^ 20 := hexb _ (List.mem_of_getElem? hq)
  rw [clp (show k < 2 ^ 31 by omega), (hE.2 k f l a hq).2.1, nI_eq (by omega) (by omega)]
  exact ⟨vp_in_nI (by omega) (by decide), fun _ => ⟨rfl, fun _ => fin, fun c => absurd rfl c⟩, fun c => absurd c (hno f l a hq)⟩
theorem v_try (hC : PC P oc on o) (hWN : WN N) (hNl : (fl (N.map un) tl).length ≤ 120) (hG : RG Zr ar) {I : mI} {x2 : Int32} {t k R fN f a : Nat} {X : List MIt} (hL : PL I oc on o N tl mt ex Zr tr ar X R) (hex : ex.length ≤ 120) (hq : ex[k]? = some (fN, t, a)) (htl : t < N.length) (hfN : fN < 120) (ha : a < 2 ^ 20) (hf91 : I 91 fN = nI f) (hfX : f < X.length) (hroom : ftl (X.map un) + (fl ((N.drop (t + 1)).map un) tl).length ≤ 120)
    (h1 : ∀ I' X2 R2, tri Zr tr ar X f a (fl ((N.drop (t + 1)).map un) tl).length R = some (X2, R2) → FrS on o I I' → I' 91 = I 91 → PL I' oc on o N tl mt ex Zr tr ar X2 R2 → ftl (X2.map un) + (fl ((N.drop (t + 1)).map un) tl).length ≤ 120 → f < X2.length → V E (d + 28) m_Program_pass 112 Q 17 [some (.inr 60), some (.inr o), some (.inl x2), some (.inl (nI (k + 1))), some (.inl (nI (t + 1))), none, none] [] 112 I' P)
    (h0 : ∀ I', tri Zr tr ar X f a (fl ((N.drop (t + 1)).map un) tl).length R = none → FrS on o I I' → I' 60 6 = nI R → (∃ mk, RLz I' o Zr tr mk ar) → Q (nI 0) I' P) : V E (d + 28) m_Program_pass 112 Q 73 [some (.inr 60), some (.inr o), some (.inl x2), some (.inl (nI k)), some (.inl (nI t)), none, none] [] 112 I P := by
  have hT := hC.tc
  have hLL := hL
  obtain ⟨hS, hP0, hP1, hcn, hO, ho5, ho⟩ := hC
  obtain ⟨xN, xX, hE, h6, ⟨mk, hR⟩, hW, hkX⟩ := hL
  have hP4 : P 60 4 = 85 := hS.2.2.2.2.1.2.2.1
  have hP5 : P 60 5 = 91 := hS.2.2.2.2.1.2.2.2
  have hOO : OO P := hS.2.2.2.2.2.1
  have hn0 : (on ≠ 0) = True := by rcases hcn with ⟨rfl, rfl⟩ | ⟨rfl, rfl⟩ <;> simp
  have hc0 : (oc ≠ 0) = True := by rcases hcn with ⟨rfl, rfl⟩ | ⟨rfl, rfl⟩ <;> simp
  have hoc : on + 5 < 79 ∧ oc + 5 < 79 ∧ 60 < on ∧ 60 < oc ∧ apt on oc := by unfold apt; rcases hcn with ⟨rfl, rfl⟩ | ⟨rfl, rfl⟩ <;> omega
  have ap := hoc.2.2.2.2
  have hXn := hW.len
  have hNn := hWN.len
  have hfN' := fl_len (N.map un) tl
  have hkl : k < ex.length := (List.getElem?_eq_some_iff.mp hq).1
  obtain ⟨e1, e2, e3⟩ := hE.2 k fN t a hq
  have hXl : (fl (X.map un) []).length ≤ 120 := by rw [fl_len]; simp; omega
  refine x_Program_pass_73 _ _ _ _ _ ?_
  simp only [k60, hP4, k85, nzl 85 (by decide), true_and]
  refine x_Outline_endsWith_0 _ _ _ ⟨k85, ?_⟩
  rw [hE.1]
  refine pk_le ex.length k (fun c => by omega) (fun _ => ?_)
  simp only [k85, hOO.2.2.1, k88, nzl 88 (by decide), true_and]
  rw [clp (show k < 2 ^ 31 by omega), e2]
  refine ⟨vp_in_nI (by omega) (by decide), fun c => absurd rfl c, fun _ => ⟨rfl, fun c => absurd c (by decide), fun _ => ?_⟩⟩
  simp only [k60, hP4, hP5, k85, hOO.2.1, k87, k91, nzl 85 (by decide), nzl 87 (by decide), nzl 91 (by decide), true_and]
  rw [e1, clp (show fN < 2 ^ 31 by omega), hf91]
  refine ⟨vp_in_nI (by omega) (by decide), vp_in_nI (by omega) (by decide), x_Program_pass_102 _ _ _ _ _ _ ?_⟩
  simp only [k60, hP0, hc0, hT.1.1, hT.1.2.2.2.2.2.1, hT.1.2.2.2.2.2.2, nzz 5 (by decide), true_and]
  rw [clp (show t < 2 ^ 31 by omega), xN.1, (xN.2.2.2.2.st (by rw [psn_len, List.length_map]; exact htl)).2, ten_psn (by rw [List.length_map]; exact htl)]
  have esuf : (fl (N.map un) tl).length = ftl ((N.map un).take (t + 1)) + (fl ((N.drop (t + 1)).map un) tl).length := by
    rw [hfN', fl_len, List.map_drop]
    have : ftl (N.map un) = ftl ((N.map un).take (t + 1)) + ftl ((N.map un).drop (t + 1)) := by rw [← ftl_app, List.take_append_drop]
    omega
  rw [esuf, pk_sub (by omega), Nat.add_sub_cancel_left]
  generalize hsuf : (fl ((N.drop (t + 1)).map un) tl).length = suf at *
  refine ⟨vp_in_nI (by omega) (by decide), x_Program_pass_122 _ _ _ _ _ _ _ ?_⟩
  simp only [k60, hP1, hn0, hT.2.1, true_and]
  rw [xX.2.2.2.2.1, psn_len, List.length_map]
  have v165 : ∀ I', V E (d + 28) m_Program_pass 112 Q 17 [some (.inr 60), some (.inr o), some (.inl x2), some (.inl (nI (k + 1))), some (.inl (nI (t + 1))), none, none] [] 112 I' P → V E (d + 28) m_Program_pass 112 Q 165 [some (.inr 60), some (.inr o), some (.inl x2), some (.inl (nI k)), some (.inl (nI t)), none, none] [] 112 I' P := by
    intro I' hh
    refine x_Program_pass_165 _ _ _ _ _ (x_Program_pass_168 _ _ _ _ _ ?_)
    rw [n1, n1]
    exact hh
  have hLX := hR.2.2.1
  have h60 := hR.2.2.2.1
  have hkr := kds_psn Zr 0
  have hZl := LX_len hLX
  refine ⟨hO.1, s_matches (d := d) hO hT.2 (by decide) (by omega) h60 (by rw [psn_len]; omega) (by rw [hkr]; exact hR.2.2.2.2.2) (LX_bd hLX) (HD_LX hLX).1 hXl (by rw [psn_len, List.length_map]; omega) (by rw [kdi_psn]; exact hkX) (hW.bd []) (by rw [psn_len]; have := hR.2.2.2.2.1; omega) (by omega) (by rw [psn_len, List.length_map]; omega) hR.1 hR.2.1 xX (fun I1 B f1 hm hB => ?_) (fun I1 f1 hm => ?_)⟩
  · have hmx : mtx Zr tr ar X f = some B := by
      unfold mtx
      rw [hm]
      dsimp only
      rw [if_pos rfl]
    obtain ⟨hBO, hBK⟩ := mtc_bk hLX hG.1 hm
    have htri : tri Zr tr ar X f a suf R = (rwx Zr ar X f a suf R B).map (fun X2 => (X2, R + 1)) := by
      unfold tri
      rw [hmx]
    refine ⟨fun c => absurd c (by decide), fun _ => ?_⟩
    simp only [k60, hP4, k85, hOO.2.2.2.1, k89, nzl 85 (by decide), nzl 89 (by decide), true_and]
    rw [clp (show k < 2 ^ 31 by omega), f1 89 (by omega) (by omega), e3]
    refine ⟨vp_in_nI (by omega) (by decide), ?_⟩
    have xX1 : TZ I1 on X [] 0 := f1.txt (by omega) xX
    have hR1 : RLz I1 o Zr tr mk ar := hR.fr (fun m a b => f1 m (by omega) (by omega))
    have h61 : I1 60 6 = nI R := by rw [f1 60 (by omega) (by omega)]; exact h6
    obtain ⟨z, hz⟩ : ∃ z, X[f]? = some z := ⟨_, List.getElem?_eq_getElem hfX⟩
    obtain ⟨sp, msp, y0⟩ := z
    obtain ⟨qz, mz, hrn0, hqz⟩ := hG.2
    obtain ⟨qz', mz', hrn, -, -, hmz⟩ := rn_fill (num := nI (R + 1)) hBO (Zr.drop (ar + 1)) true 0 0 0 0 0 qz 0 mz hBK (Or.inl rfl) (Nat.le_refl _) hrn0
    have hTk : k10 ((Zr.drop (ar + 1)).map (fun z => z.2.1)) := fun k' hk' => hR.2.2.2.2.2 k' (by
      rw [List.map_drop] at hk'
      exact List.mem_of_mem_drop hk')
    have hfil := ftl_fil (num := nI (R + 1)) (Zr.drop (ar + 1)) true hBK
    have hdl : (Zr.drop (ar + 1)).length ≤ 60 := by rw [List.length_drop]; omega
    have hft : ftl (Zr.drop (ar + 1)) ≤ 60 := by
      have : ftl Zr = ftl (Zr.take (ar + 1)) + ftl (Zr.drop (ar + 1)) := by rw [← ftl_app, List.take_append_drop]
      have h' := fl_len Zr tr
      omega
    have hmul : ftl (X.map un) * (Zr.drop (ar + 1)).length ≤ 120 * 60 := Nat.mul_le_mul (by omega) hdl
    have hdpt : dpt (fil X B (nI (R + 1)) true (Zr.drop (ar + 1))) = mz' := by
      unfold dpt
      rw [hrn]
    refine s_rewrite (d := d + 23) hS hP1 (by rcases hcn with ⟨-, rfl⟩ | ⟨-, rfl⟩ <;> simp) hO ho hR1 xX1 hW (by omega) (by rw [psn_len, List.length_map] at hB; exact hB) hBK h61 hz ha (by omega) hrn (k10_kdi hkX _ true hTk hBK) (by omega) (by omega) (fun I2 y Y c1 c2 hY f2 f2' g6 x2' w2 r2 => ?_) (fun I2 c f2 r2 => ?_)
    · refine ⟨fun _ => v165 I2 ?_, fun c => absurd c (by decide)⟩
      have hrw : rwx Zr ar X f a suf R B = some (X.take f ++ sps y sp msp :: Y) := by
        unfold rwx
        rw [hz, hY]
        rw [hY] at hdpt c1
        dsimp only
        rw [if_pos ⟨c1, by rw [hdpt]; exact c2⟩]
      have hlen2 : ftl ((X.take f ++ sps y sp msp :: Y).map un) + (un y).1.length = ftl ((X.take f).map un) + sp.length + ftl ((fil X B (nI (R + 1)) true (Zr.drop (ar + 1))).map un) := by
        rw [List.map_append, ftl_app, hY]
        obtain ⟨a1, a2, a3, a4, a5⟩ := y
        show ftl _ + ftl ((sp, a3, a4) :: Y.map un) + a1.length = ftl _ + sp.length + ftl ((a1, a3, a4) :: Y.map un)
        rw [ftl_c, ftl_c]
        omega
      refine h1 I2 _ _ (by rw [htri, hrw]; rfl) ⟨fun m b1 b2 b3 b4 b5 b6 b7 => ?_, fun j hj => ?_⟩ ?_ ⟨?_, x2', ?_, g6, ⟨_, r2⟩, w2, ?_⟩ (by omega) ?_
      · rw [f2 m b1 b2 b4 b5, f1 m b6 b7]
      · rw [f2' j hj, f1 60 (by omega) (by omega)]
      · rw [f2 91 (by omega) (by omega) (by omega) (by omega), f1 91 (by omega) (by omega)]
      · unfold apt at ap
        exact xN.fr (fun m b1 b2 => by rw [f2 m (by omega) (by omega) (by omega) (by omega), f1 m (by omega) (by omega)])
      · exact hE.fr (fun m b1 b2 => by rw [f2 m (by omega) (by omega) (by omega) (by omega), f1 m (by omega) (by omega)])
      · have hkY := k10_kdi (num := nI (R + 1)) hkX _ true hTk hBK
        intro k' hk'
        rw [kdi_app] at hk'
        rcases List.mem_append.mp hk' with h' | h'
        · refine hkX k' ?_
          unfold kdi at h' ⊢
          rw [List.map_take] at h'
          exact List.mem_of_mem_take h'
        · rw [hY] at hkY
          exact hkY k' h'
      · rw [List.length_append, List.length_take, List.length_cons]
        omega
    · refine ⟨fun c => absurd rfl c, fun _ => ⟨rfl, h0 I2 ?_ ⟨fun m b1 b2 b3 b4 b5 b6 b7 => ?_, fun j hj => ?_⟩ ?_ r2⟩⟩
      · rw [htri]
        have hrw : rwx Zr ar X f a suf R B = none := by
          unfold rwx
          rw [hz]
          obtain ⟨y, Y, hY⟩ := fil_ne (num := nI (R + 1)) (fst := true) (B := B) (Zo := X) (T := Zr.drop (ar + 1)) (by
            intro e
            have := congrArg List.length e
            rw [List.length_drop] at this
            have := hR.2.2.2.2.1
            simp at *
            omega) hBK
          rw [hY] at hdpt c ⊢
          dsimp only
          rw [if_neg (by rw [hdpt]; exact c)]
        rw [hrw]
        rfl
      · rw [f2 m b2 b5, f1 m b6 b7]
      · rw [f2 60 (by omega) (by omega), f1 60 (by omega) (by omega)]
      · rw [f2 60 (by omega) (by omega)]
        exact h61
  · have hmx : mtx Zr tr ar X f = none := by
      unfold mtx
      cases hc : mtc (fl Zr tr) (psn 0 Zr) (fl (X.map un) []) (psn 0 (X.map un)) ar 0 f B0 with
      | none => rfl
      | some q =>
        obtain ⟨e, B⟩ := q
        dsimp only
        by_cases ee : e = X.length
        · exfalso
          apply hm B
          rw [hc, ee]
        · rw [if_neg ee]
    have htri : tri Zr tr ar X f a suf R = some (X, R) := by
      unfold tri
      rw [hmx]
    refine ⟨fun _ => v165 I1 (h1 I1 X R htri ⟨fun m b1 b2 b3 b4 b5 b6 b7 => f1 m b6 b7, fun j hj => by rw [f1 60 (by omega) (by omega)]⟩ (f1 91 (by omega) (by omega)) ⟨?_, f1.txt (by omega) xX, ?_, ?_, ⟨mk, hR.fr (fun m a b => f1 m (by omega) (by omega))⟩, hW, hkX⟩ hroom hfX), fun c => absurd rfl c⟩
    · exact xN.fr (fun m b1 b2 => f1 m (by omega) (by omega))
    · exact hE.fr (fun m b1 b2 => f1 m (by omega) (by omega))
    · rw [f1 60 (by omega) (by omega)]
      exact h6
end PV
