/-! The class's readers. -/
def gat (l : List Int32) (x : Int32) : Int32 := if 0 ≤ x.toInt then (l[x.toInt.toNat]?).getD (-(nI 1)) else -(nI 1)
theorem gat_o {l : List Int32} {x : Int32} (h : x < 0) : gat l x = -(nI 1) := by
  unfold gat
  have : x < nI 0 := h
  rw [ltn (by decide)] at this
  rw [if_neg (by omega)]
theorem gat_i {l : List Int32} {i : Nat} (hi : i < 2 ^ 31) : gat l (nI i) = (l[i]?).getD (-(nI 1)) := by
  unfold gat
  rw [nI_t hi, if_pos (by omega)]
  rfl
theorem pos_n {x : Int32} (h : ¬ x < 0) : ∃ r, r < 2 ^ 31 ∧ x = nI r := by
  have c : ¬ x < nI 0 := h
  rw [ltn (by decide)] at c
  have hlt := x.toInt_lt
  exact ⟨x.toInt.toNat, by omega, by rw [eqn (by omega)]; omega⟩
/-- an answer by number, or -1 -/
theorem idx {Q' : Int32 → Prop} {B : Int32 → Prop} {l : List Int32} {x : Int32} (hl : l.length < 2 ^ 31) (h : Q' (gat l x)) (hB : ∀ i v, l[i]? = some v → x = nI i → Q' v → B x) : (x < 0 → Q' (-(nI 1))) ∧ (¬ x < 0 → (nI l.length ≤ x → Q' (-(nI 1))) ∧ (¬ nI l.length ≤ x → B x)) := by
  refine ⟨fun c => by rw [gat_o c] at h; exact h, fun c => ?_⟩
  obtain ⟨r, hr, rfl⟩ := pos_n c
  rw [gat_i hr] at h
  refine pk_le l.length r (fun q => ?_) (fun q => ?_)
  · rw [List.getElem?_eq_none q] at h
    exact h
  · rw [List.getElem?_eq_getElem q] at h
    exact hB r _ (List.getElem?_eq_getElem q) rfl h
section GE
variable {E : XE} {d : Nat} {Q : Int32 → mI → mP → Prop} {P : mP} {rs : List RlT} {tl : List Int32} {mt : Int32} {N : List MIt} {R : Nat} {bf ld : List Int32} {I : mI}
theorem c_at (hP : CP I P bf ld rs N tl mt R) {x : Int32} (h : Q (gat (fl (N.map un) tl) x) I P) : V E d m_RR_at 112 Q 0 [some (.inr 2), some (.inl x)] [] 112 I P := by
  obtain ⟨hS, -, -, -, -, -, -, -, -, -, -, hPG⟩ := hP
  obtain ⟨hT, hoc⟩ := PG.tn hS
  obtain ⟨xN, -, -, -, -, -, hNl⟩ := hPG
  have hP6 : P 2 6 = 60 := hS.1.2.2.2.1
  have hc0 : (P 60 0 ≠ 0) = True := by rcases hoc with h | h <;> rw [h] <;> simp
  refine x_RR_at_0 _ _ ?_
  simp only [k2_, hP6, k60, hc0, hT.1, hT.2.1.1, hT.2.1.2, nzl 60 (by decide), nzz 1 (by decide), true_and]
  rw [xN.1]
  refine idx (Q' := fun v => Q v I P) (B := fun x => vp_in x 120 ∧ Q (I (P 60 0 + 1) x.toNatClampNeg) I P) (by omega) h (fun i v e ex hv => ?_)
  subst ex
  have hi := (List.getElem?_eq_some_iff.mp e).1
  rw [clp (show i < 2 ^ 31 by omega), xN.2.1.at0 e]
  exact ⟨vp_in_nI (by omega) (by decide), hv⟩
theorem c_mark (hP : CP I P bf ld rs N tl mt R) {x : Int32} (h : Q (gat (fl (N.map um) (List.replicate tl.length mt)) x) I P) : V E d m_RR_mark 112 Q 0 [some (.inr 2), some (.inl x)] [] 112 I P := by
  obtain ⟨hS, -, -, -, -, -, -, -, -, -, -, hPG⟩ := hP
  obtain ⟨hT, hoc⟩ := PG.tn hS
  obtain ⟨xN, -, -, -, -, -, hNl⟩ := hPG
  have hP6 : P 2 6 = 60 := hS.1.2.2.2.1
  have hc0 : (P 60 0 ≠ 0) = True := by rcases hoc with h | h <;> rw [h] <;> simp
  have hml := xN.2.2.1
  refine x_RR_mark_0 _ _ ?_
  simp only [k2_, hP6, k60, hc0, hT.1, hT.2.2.1.1, hT.2.2.1.2, nzl 60 (by decide), nzz 2 (by decide), true_and]
  rw [xN.1, ← hml]
  refine idx (Q' := fun v => Q v I P) (B := fun x => vp_in x 120 ∧ Q (I (P 60 0 + 2) x.toNatClampNeg) I P) (by omega) h (fun i v e ex hv => ?_)
  subst ex
  have hi := (List.getElem?_eq_some_iff.mp e).1
  rw [clp (show i < 2 ^ 31 by omega), xN.2.2.2.1.at0 e]
  exact ⟨vp_in_nI (by omega) (by decide), hv⟩
theorem oln_l1 (ks : List Nat) : ∀ (n f t : Nat), f ≤ t → (oln ks n f t).1.length + f ≤ t + n
  | 0, f, t, h => by
    unfold oln
    split
    · show 1 + f ≤ _
      omega
    · show 0 + f ≤ _
      omega
  | n + 1, f, t, h => by
    rw [oln_s]
    split
    · have := oln_l1 ks n (t + 1) (t + 1) (Nat.le_refl _)
      show _ + 1 + f ≤ _
      omega
    · have := oln_l1 ks n f (t + 1) (by omega)
      omega
theorem c_kind (hP : CP I P bf ld rs N tl mt R) {x : Int32} (h : Q (gat ((outl (kdi N)).1.map nI) x) I P) : V E d m_RR_kind 112 Q 0 [some (.inr 2), some (.inl x)] [] 112 I P := by
  obtain ⟨hS, -, -, -, -, -, -, -, -, -, -, hPG⟩ := hP
  obtain ⟨xN, hOS, -, -, hWN, -, hNl⟩ := hPG
  have hP6 : P 2 6 = 60 := hS.1.2.2.2.1
  have hP4 : P 60 4 = 85 := hS.2.2.2.2.1.2.2.1
  have hOO : OO P := hS.2.2.2.2.2.1
  have hNn := hWN.len
  have hfN := fl_len (N.map un) tl
  have hl1 : (outl (kdi N)).1.length ≤ 120 := by
    have := oln_l1 (kdi N) (kdi N).length 0 0 (Nat.le_refl _)
    unfold outl
    rw [kdi_len] at *
    omega
  refine x_RR_kind_0 _ _ ?_
  simp only [k2_, hP6, k60, hP4, k85, hOO.1, k86, nzl 60 (by decide), nzl 85 (by decide), nzl 86 (by decide), true_and]
  rw [hOS.1, ← List.length_map (f := nI)]
  refine idx (Q' := fun v => Q v I P) (B := fun x => vp_in x 120 ∧ Q (I 86 x.toNatClampNeg) I P) (by rw [List.length_map]; omega) h (fun i v e ex hv => ?_)
  subst ex
  have hi := (List.getElem?_eq_some_iff.mp e).1
  rw [List.length_map] at hi
  rw [List.getElem?_map, List.getElem?_eq_getElem hi] at e
  rw [clp (show i < 2 ^ 31 by omega), hOS.2 i _ (List.getElem?_eq_getElem hi)]
  cases e
  exact ⟨vp_in_nI (by omega) (by decide), hv⟩
theorem c_start (hP : CP I P bf ld rs N tl mt R) {x : Int32} (h : Q (gat ((outl (kdi N)).2.map (fun q => nI (tst (psn 0 (N.map un)) q.1))) x) I P) : V E d m_RR_start 112 Q 0 [some (.inr 2), some (.inl x)] [] 112 I P := by
  obtain ⟨hS, -, -, -, -, -, -, -, -, -, -, hPG⟩ := hP
  obtain ⟨hT, hoc⟩ := PG.tn hS
  obtain ⟨xN, -, hOE, -, hWN, -, hNl⟩ := hPG
  have hP6 : P 2 6 = 60 := hS.1.2.2.2.1
  have hP4 : P 60 4 = 85 := hS.2.2.2.2.1.2.2.1
  have hOO : OO P := hS.2.2.2.2.2.1
  have hc0 : (P 60 0 ≠ 0) = True := by rcases hoc with h | h <;> rw [h] <;> simp
  have hNn := hWN.len
  have hfN := fl_len (N.map un) tl
  have hexl := outl_len (kdi N)
  rw [kdi_len] at hexl
  refine x_RR_start_0 _ _ ?_
  simp only [k2_, hP6, k60, hP4, k85, hc0, hT.1, hT.2.2.2.2.1.1, hT.2.2.2.2.1.2, hOO.2.1, k87, nzl 60 (by decide), nzl 85 (by decide), nzl 87 (by decide), nzz 4 (by decide), true_and]
  rw [hOE.1, ← List.length_map (f := fun q => nI (tst (psn 0 (N.map un)) q.1))]
  refine idx (Q' := fun v => Q v I P) (B := fun x => vp_in x 120 ∧ vp_in (I 87 x.toNatClampNeg) 120 ∧ Q (I (P 60 0 + 4) (I 87 x.toNatClampNeg).toNatClampNeg) I P) (by rw [List.length_map]; omega) h (fun i v e ex hv => ?_)
  subst ex
  have hi := (List.getElem?_eq_some_iff.mp e).1
  rw [List.length_map] at hi
  obtain ⟨⟨f, l, a⟩, he⟩ : ∃ q, (outl (kdi N)).2[i]? = some q := ⟨_, List.getElem?_eq_getElem hi⟩
  rw [List.getElem?_map, he] at e
  cases e
  have hlt := outl_lt (kdi N) _ (List.mem_of_getElem? he)
  rw [kdi_len] at hlt
  dsimp only at hlt
  rw [clp (show i < 2 ^ 31 by omega), (hOE.2 i _ _ _ he).1, clp (show f < 2 ^ 31 by omega), (xN.2.2.2.2.st (by rw [psn_len, List.length_map]; exact hlt.1)).1]
  exact ⟨vp_in_nI (by omega) (by decide), vp_in_nI (by omega) (by decide), hv⟩
theorem c_end (hP : CP I P bf ld rs N tl mt R) {x : Int32} (h : Q (gat ((outl (kdi N)).2.map (fun q => nI (ten (psn 0 (N.map un)) q.2.1))) x) I P) : V E d m_RR_end 112 Q 0 [some (.inr 2), some (.inl x)] [] 112 I P := by
  obtain ⟨hS, -, -, -, -, -, -, -, -, -, -, hPG⟩ := hP
  obtain ⟨hT, hoc⟩ := PG.tn hS
  obtain ⟨xN, -, hOE, -, hWN, -, hNl⟩ := hPG
  have hP6 : P 2 6 = 60 := hS.1.2.2.2.1
  have hP4 : P 60 4 = 85 := hS.2.2.2.2.1.2.2.1
  have hOO : OO P := hS.2.2.2.2.2.1
  have hc0 : (P 60 0 ≠ 0) = True := by rcases hoc with h | h <;> rw [h] <;> simp
  have hNn := hWN.len
  have hfN := fl_len (N.map un) tl
  have hexl := outl_len (kdi N)
  rw [kdi_len] at hexl
  refine x_RR_end_0 _ _ ?_
  simp only [k2_, hP6, k60, hP4, k85, hc0, hT.1, hT.2.2.2.2.2.1, hT.2.2.2.2.2.2, hOO.2.2.1, k88, nzl 60 (by decide), nzl 85 (by decide), nzl 88 (by decide), nzz 5 (by decide), true_and]
  rw [hOE.1, ← List.length_map (f := fun q => nI (ten (psn 0 (N.map un)) q.2.1))]
  refine idx (Q' := fun v => Q v I P) (B := fun x => vp_in x 120 ∧ vp_in (I 88 x.toNatClampNeg) 120 ∧ Q (I (P 60 0 + 5) (I 88 x.toNatClampNeg).toNatClampNeg) I P) (by rw [List.length_map]; omega) h (fun i v e ex hv => ?_)
  subst ex
  have hi := (List.getElem?_eq_some_iff.mp e).1
  rw [List.length_map] at hi
  obtain ⟨⟨f, l, a⟩, he⟩ : ∃ q, (outl (kdi N)).2[i]? = some q := ⟨_, List.getElem?_eq_getElem hi⟩
  rw [List.getElem?_map, he] at e
  cases e
  have hlt := outl_lt (kdi N) _ (List.mem_of_getElem? he)
  rw [kdi_len] at hlt
  dsimp only at hlt
  rw [clp (show i < 2 ^ 31 by omega), (hOE.2 i _ _ _ he).2.1, clp (show l < 2 ^ 31 by omega), (xN.2.2.2.2.st (by rw [psn_len, List.length_map]; exact hlt.2)).2]
  exact ⟨vp_in_nI (by omega) (by decide), vp_in_nI (by omega) (by decide), hv⟩
theorem c_trace {ld : List Int32} (hS : Sh P) (hPG : PG I P N tl mt R) (hl : ld.length ≤ 60) (hc : Rc (I 4) 0 ld) (hk : ∃ kn, I 92 4 = bI kn ∧ (kn = true → PT I ld (fl (N.map un) tl))) (h : ∀ I', FrPt I I' → PT I' ld (fl (N.map un) tl) → I' 92 4 = bI true → Q (nI 0) I' P) : V E (d + 2) m_Patch_trace 112 Q 0 [some (.inr 92), some (.inr 4), some (.inl (nI ld.length)), some (.inr (P 60 0))] [] 112 I P := by
  obtain ⟨hT, hoc⟩ := PG.tn hS
  obtain ⟨kn, k1, k2⟩ := hk
  exact s_trace hS.2.2.2.2.2.2.1.1 hS.2.2.2.2.2.2.1.2 hT (by omega) (by omega) hl hPG.2.2.2.2.2.2 k1 k2 hPG.1.1 hc hPG.1.2.1 h
theorem FrPt.cp {I' : mI} (hf : FrPt I I') (hP : CP I P bf ld rs N tl mt R) : CP I' P bf ld rs N tl mt R := hP.fr2 (fun j _ => by rw [hf 2 (by decide) (by decide) (by decide)]) (fun m a b => hf m (by omega) (by omega) (by omega))
theorem c_distance (hP : CP I P bf ld rs N tl mt R) (hk : ∃ kn, I 92 4 = bI kn ∧ (kn = true → PT I ld (fl (N.map un) tl))) (h : ∀ I', FrPt I I' → CP I' P bf ld rs N tl mt R → PT I' ld (fl (N.map un) tl) → I' 92 4 = bI true → Q (nI (wv ld (fl (N.map un) tl) 0 0)) I' P) : V E (d + 3) m_RR_distance 112 Q 0 [some (.inr 2)] [] 112 I P := by
  have hP' := hP
  obtain ⟨hS, -, -, -, b4, b5, b6, -, -, -, -, hPG⟩ := hP'
  obtain ⟨hT, hoc⟩ := PG.tn hS
  have hc0 : (P 60 0 ≠ 0) = True := by rcases hoc with h | h <;> rw [h] <;> simp
  refine x_RR_distance_0 _ ?_
  simp only [k2_, hS.1.2.2.2.2, hS.1.2.1, hS.1.2.2.2.1, k92, k60, hc0, nzl 92 (by decide), nzl 60 (by decide), nzl 4 (by decide), true_and]
  rw [b4]
  refine c_trace hS hPG b6 b5 hk (fun I' f' p' e' => ?_)
  simp only [k2_, hS.1.2.2.2.2, k92, nzl 92 (by decide), true_and]
  rw [p'.1]
  exact h I' f' (f'.cp hP) p' e'
theorem c_step (hP : CP I P bf ld rs N tl mt R) (hk : ∃ kn, I 92 4 = bI kn ∧ (kn = true → PT I ld (fl (N.map un) tl))) {x : Int32} (h : ∀ I', FrPt I I' → CP I' P bf ld rs N tl mt R → PT I' ld (fl (N.map un) tl) → I' 92 4 = bI true → Q (gat (stps ld (fl (N.map un) tl)) x) I' P) : V E (d + 3) m_RR_step 112 Q 0 [some (.inr 2), some (.inl x)] [] 112 I P := by
  have hP' := hP
  obtain ⟨hS, -, -, -, b4, b5, b6, -, -, -, -, hPG⟩ := hP'
  obtain ⟨hT, hoc⟩ := PG.tn hS
  have hc0 : (P 60 0 ≠ 0) = True := by rcases hoc with h | h <;> rw [h] <;> simp
  have hNl := hPG.2.2.2.2.2.2
  refine x_RR_step_0 _ _ ?_
  simp only [k2_, hS.1.2.2.2.2, hS.1.2.1, hS.1.2.2.2.1, k92, k60, hc0, nzl 92 (by decide), nzl 60 (by decide), nzl 4 (by decide), true_and]
  rw [b4]
  refine c_trace hS hPG b6 b5 hk (fun I' f' p' e' => ?_)
  simp only [k2_, hS.1.2.2.2.2, k92, hS.2.2.2.2.2.2.1.2, k94, nzl 92 (by decide), nzl 94 (by decide), true_and]
  rw [p'.2.2]
  have hlen : (stps ld (fl (N.map un) tl)).length ≤ 180 := by
    have := stp_len ld (fl (N.map un) tl) (ld.length + (fl (N.map un) tl).length) 0 0
    unfold stps
    omega
  refine idx (Q' := fun v => Q v I' P) (B := fun x => vp_in x 180 ∧ Q (I' 94 x.toNatClampNeg) I' P) (by omega) (h I' f' (f'.cp hP) p' e') (fun i v e ex hv => ?_)
  subst ex
  have hi := (List.getElem?_eq_some_iff.mp e).1
  rw [clp (show i < 2 ^ 31 by omega), p'.2.1.at0 e]
  exact ⟨vp_in_nI (by omega) (by decide), hv⟩
end GE
