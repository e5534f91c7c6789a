section CB
variable {E : XE} {d : Nat} {Q : Int32 → mI → mP → Prop} {P : mP} {hol : Bool} {base : Nat} {ks : List Nat}
theorem s2_fr {I : mI} {p lo hi : Nat} {a b : Int32} (h1 : lo ≤ p) (h2 : p < hi) : FrG [102, 103] lo hi I (s2 I p a b) := (FrG.rf.u (by decide) h1 h2).u (by decide) h1 h2
theorem s2_2 {I : mI} {p : Nat} {a b : Int32} : s2 I p a b 102 p = a := by unfold s2; rw [uI_n (by decide), uI_s]
theorem s2_3 {I : mI} {p : Nat} {a b : Int32} : s2 I p a b 103 p = b := by unfold s2; rw [uI_s]
theorem s2_o {I : mI} {p m j : Nat} {a b : Int32} (h : j ≠ p) : s2 I p a b m j = I m j := by unfold s2; rw [uI_at (Or.inr h), uI_at (Or.inr h)]
theorem s2_n {I : mI} {p m : Nat} {a b : Int32} (h2 : m ≠ 102) (h3 : m ≠ 103) : s2 I p a b m = I m := by unfold s2; rw [uI_n h3, uI_n h2]
/-- a call's name at i: what is behind i is known -/
theorem s_called (hM : MO P) (hb : base + ks.length ≤ 192) (hk : k10 ks) {I : mI} (hS : MS I base ks) {i : Nat} {r : List Nat} (hi : ks.drop i = 1 :: 4 :: r) (hL : ∀ t, i < t → t < ks.length → LDR hol I base ks t) (h0 : I 102 (base + i) = -(nI 1))
    (h : ∀ I', FrG [102, 103] (base + i) (base + i + 1) I I' → LDR hol I' base ks i → Q (nI 0) I' P) : V E d m_Model_called 112 Q 0 [some (.inr 95), some (.inl (nI base)), some (.inl (nI ks.length)), some (.inl (nI i)), none, none, none, none] [] 112 I P := by
  have hM' := hM
  obtain ⟨-, -, -, p9, -, -, p12, p13, -⟩ := hM'
  have hlen : ks.length - i = r.length + 2 := by rw [← List.length_drop, hi]; rfl
  have hr : ks.drop (i + 2) = r := by rw [← List.drop_drop, hi]; rfl
  refine x_Model_called_0 _ _ _ _ ?_
  rw [nI_add i 2]
  refine pk_le ks.length (i + 2) (fun g => ?_) (fun g => ?_)
  · refine x_Model_called_21 _ _ _ _ _ _ _ ⟨fun _ => x_Model_called_60 _ _ _ _ _ _ _ ⟨fun _ => h I FrG.rf ?_, fun a => absurd rfl a⟩, fun a => absurd rfl a⟩
    have hr0 : r = [] := List.length_eq_zero_iff.mp (by omega)
    subst hr0
    exact LDR.mn (by rw [hi, le_call (fun r e => by cases e), la_nil]; rfl) h0
  · refine x_Model_called_21 _ _ _ _ _ _ _ ⟨fun a => absurd a (by decide), fun _ => ?_⟩
    simp only [k95, p9, k99, p12, k102, p13, k103, nzl 99 (by decide), nzl 102 (by decide), nzl 103 (by decide), true_and]
    have hg := List.getElem?_eq_getElem g
    have hk0 := hk _ (List.mem_of_getElem? hg)
    have hin2 : vp_in (nI base + nI (i + 2)) 192 := by rw [nI_add]; exact vp_in_nI (by omega) (by omega)
    have hin3 : vp_in (nI base + nI i) 192 := by rw [nI_add]; exact vp_in_nI (by omega) (by omega)
    refine ⟨hin2, ?_⟩
    rw [nI_add base (i + 2), clp (by omega), hS (i + 2) _ hg]
    generalize hkk : ks[i + 2] = k0 at hg hk0
    have hrk : r = k0 :: ks.drop (i + 2 + 1) := by rw [← hr, drop_k hg]
    simp only [rc_5 hk0]
    refine ⟨fun c5 => ?_, fun c5 => ⟨hin3, hin3, ?_⟩⟩
    · have hc := le_call (hol := hol) (a := r) (fun r' e => c5 (by rw [hrk] at e; injection e))
      rw [← hi] at hc
      refine l_called (hol := hol) hM hb hk hS (by omega) ks.length (i + 2) 0 (by omega) g (by omega) (fun t h1 h2 => hL t (by omega) h2) (fun a b hab => ?_) (fun hab => ?_)
      · rw [hr] at hab
        rw [hab] at hc
        refine h _ (s2_fr (by omega) (by omega)) (LDR.mk hc ?_ ?_)
        · rw [s2_2]
          congr 1
          show i + 2 + a - 1 = i + (a + 2) - 1
          omega
        · rw [s2_3, Nat.max_eq_right (Nat.zero_le _)]
      · rw [hr] at hab
        rw [hab] at hc
        exact h I FrG.rf (LDR.mn hc h0)
    · subst c5
      have hc : le_ hol (ks.drop i) = some (3, 1) := by rw [hi, hrk]; exact le_c5 _
      rw [nI_add base i, clp (by omega)]
      exact h _ (s2_fr (by omega) (by omega)) (LDR.mk hc s2_2 s2_3)
def ix (k : Nat) : Int32 := match k with
  | 0 => -(nI 1)
  | k + 1 => nI k
theorem ix_sub (k : Nat) : nI k - nI 1 = ix k := by
  cases k with
  | zero => decide
  | succ k => exact nI_pred k
theorem ix_add (k : Nat) : nI k + -(nI 1) = ix k := by
  cases k with
  | zero => decide
  | succ k => exact pk_m1 k
theorem l_structure (hM : MO P) (hb : base + ks.length ≤ 192) (hk : k10 ks) (hh : hol = true ↔ 0 < base) : ∀ (k : Nat) (I : mI), k ≤ ks.length → MS I base ks → (∀ t, k ≤ t → t < ks.length → LDR hol I base ks t) →
    (∀ I', FrG [102, 103] base (base + ks.length) I I' → (∀ t, t < ks.length → LDR hol I' base ks t) → Q (nI 0) I' P) → V E (d + 1) m_Model_structure 112 Q 4 [some (.inr 95), some (.inl (nI base)), some (.inl (nI ks.length)), some (.inl (ix k)), none, none] [] 112 I P := by
  have hM' := hM
  obtain ⟨-, -, -, p9, -, -, p12, p13, -⟩ := hM'
  intro k
  induction k with
  | zero =>
    intro I _ _ hL h
    exact x_Model_structure_4 _ _ _ _ ⟨fun _ => h I FrG.rf (fun t ht => hL t (Nat.zero_le _) ht), fun a => absurd m1_lt a⟩
  | succ k ih =>
    intro I hkl hS hL h
    have hg := List.getElem?_eq_getElem (l := ks) (i := k) (by omega)
    have hk0 := hk _ (List.mem_of_getElem? hg)
    generalize hkk : ks[k] = k0 at hg hk0
    have hd := drop_k hg
    have hin : vp_in (nI base + nI k) 192 := by rw [nI_add]; exact vp_in_nI (by omega) (by omega)
    have hcl : (nI base + nI k).toNatClampNeg = base + k := by rw [nI_add]; exact clp (by omega)
    have hf1 : FrG [102, 103] base (base + ks.length) I (s2 I (base + k) (-(nI 1)) (nI 0)) := s2_fr (by omega) (by omega)
    -- the next turn, from memory I' that has the ends from k on
    have nxt : ∀ I', FrG [102, 103] (base + k) (base + k + 1) (s2 I (base + k) (-(nI 1)) (nI 0)) I' → LDR hol I' base ks k → V E (d + 1) m_Model_structure 112 Q 117 [some (.inr 95), some (.inl (nI base)), some (.inl (nI ks.length)), some (.inl (nI k)), none, none] [] 112 I' P := by
      intro I' hf hl
      have hf2 : FrG [102, 103] base (base + ks.length) (s2 I (base + k) (-(nI 1)) (nI 0)) I' := ⟨hf.1, fun m j hj => hf.2 m j (by omega)⟩
      refine x_Model_structure_117 _ _ _ _ ?_
      rw [ix_add]
      refine ih I' (by omega) (fun t k' ht => ?_) (fun t h1 h2 => ?_) (fun I'' hf3 hl3 => h I'' ((hf1.tr hf2).tr hf3) hl3)
      · rw [hf2.1 99 (by decide), hf1.1 99 (by decide)]
        exact hS t k' ht
      · by_cases e : t = k
        · rw [e]
          exact hl
        · exact (hL t (by omega) h2).kept (by rw [hf.2 102 _ (by omega), s2_o (by omega)]) (by rw [hf.2 103 _ (by omega), s2_o (by omega)])
    have hlast : (s2 I (base + k) (-(nI 1)) (nI 0)) 102 (base + k) = -(nI 1) := s2_2
    have leaf : le_ hol (ks.drop k) = some (1, 0) → V E (d + 1) m_Model_structure 112 Q 117 [some (.inr 95), some (.inl (nI base)), some (.inl (nI ks.length)), some (.inl (nI k)), none, none] [] 112 (uI (s2 I (base + k) (-(nI 1)) (nI 0)) 102 (base + k) (nI k)) P := fun e =>
      nxt _ (FrG.rf.u (by decide) (by omega) (by omega)) (LDR.mk e (by rw [uI_s]; rfl) (by rw [uI_n (by decide)]; exact s2_3))
    have none_ : le_ hol (ks.drop k) = none → V E (d + 1) m_Model_structure 112 Q 117 [some (.inr 95), some (.inl (nI base)), some (.inl (nI ks.length)), some (.inl (nI k)), none, none] [] 112 (s2 I (base + k) (-(nI 1)) (nI 0)) P := fun e =>
      nxt _ FrG.rf (LDR.mn e hlast)
    -- no call
    have nc : (∀ r, ks.drop k ≠ 1 :: 4 :: r) → V E (d + 1) m_Model_structure 112 Q 71 [some (.inr 95), some (.inl (nI base)), some (.inl (nI ks.length)), some (.inl (nI k)), some (.inl (nI (rc k0))), some (.inl (nI 0))] [] 112 (s2 I (base + k) (-(nI 1)) (nI 0)) P := by
      intro hno
      refine x_Model_structure_71 _ _ _ _ _ _ ⟨fun _ => ?_, fun a => absurd rfl a⟩
      simp only [k95, p12, k102, nzl 102 (by decide), true_and, rc_eq hk0 (Or.inl rfl), rc_eq hk0 (Or.inr (Or.inl rfl)), rc_eq hk0 (Or.inr (Or.inr rfl)), hcl]
      refine ⟨fun c => ⟨hin, leaf ?_⟩, fun c => ⟨fun c2 => ⟨hin, leaf ?_⟩, fun c2 => ⟨fun c3 => none_ ?_, fun c3 => ⟨fun e => none_ ?_, fun e => ⟨hin, leaf ?_⟩⟩⟩⟩⟩
      · subst c
        rw [hd]
        exact le_name (fun r' e => hno r' (by rw [hd, e]))
      · subst c2
        rw [hd, le_num]
      · rw [hd]
        exact le_oth _ c c2 c3
      · subst c3
        rw [hd, le_hole, if_neg (fun q => ?_)]
        have : 0 < base := hh.mp q
        rw [Int32.le_iff_toInt_le, nI_t (by omega)] at e
        simp at e
        omega
      · subst c3
        rw [hd, le_hole, if_pos (hh.mpr ?_)]
        refine Nat.pos_of_ne_zero fun z => e ?_
        rw [z]
        decide
    show V E (d + 1) m_Model_structure 112 Q 4 [some (.inr 95), some (.inl (nI base)), some (.inl (nI ks.length)), some (.inl (nI k)), none, none] [] 112 I P
    refine x_Model_structure_4 _ _ _ _ ⟨fun a => absurd a (nI_pos (by omega)), fun _ => ?_⟩
    simp only [k95, p9, k99, p12, k102, p13, k103, nzl 99 (by decide), nzl 102 (by decide), nzl 103 (by decide), true_and, hcl]
    refine ⟨hin, hin, hin, ?_⟩
    rw [hS k k0 hg]
    simp only [rc_eq hk0 (Or.inl rfl)]
    refine ⟨fun c => nc (fun r e => ?_), fun c => ?_⟩
    · rw [hd] at e
      injection e with e _
      exact c e
    · subst c
      rw [n1, nI_add base k, n1]
      refine pk_le ks.length (k + 1) (fun g => nc (fun r e => ?_)) (fun g => ?_)
      · rw [hd, List.drop_eq_nil_of_le g] at e
        cases e
      · have hg2 := List.getElem?_eq_getElem g
        have hk2 := hk _ (List.mem_of_getElem? hg2)
        generalize hkk2 : ks[k + 1] = k2 at hg2 hk2
        have hd2 := drop_k hg2
        refine ⟨vp_in_nI (by omega) (by omega), ?_⟩
        rw [clp (by omega), show uI (uI I 102 (base + k) (-(nI 1))) 103 (base + k) (nI 0) = s2 I (base + k) (-(nI 1)) (nI 0) from rfl, s2_n (by decide) (by decide), Nat.add_assoc, hS (k + 1) k2 hg2]
        simp only [rc_4 hk2]
        refine ⟨fun c4 => nc (fun r e => ?_), fun c4 => ?_⟩
        · rw [hd, hd2] at e
          injection e with _ e
          injection e with e _
          exact c4 e
        · subst c4
          refine x_Model_structure_71 _ _ _ _ _ _ ⟨fun a => absurd a (by decide), fun _ => ⟨k95, ?_⟩⟩
          refine s_called (hol := hol) hM hb hk (fun t k' ht => ?_) (by rw [hd, hd2]) (fun t h1 h2 => ?_) hlast (fun I' hf hl => nxt I' hf hl)
          · rw [s2_n (by decide) (by decide)]
            exact hS t k' ht
          · exact (hL t (by omega) h2).kept (by rw [s2_o (by omega)]) (by rw [s2_o (by omega)])
theorem s_structure (hM : MO P) (hb : base + ks.length ≤ 192) (hk : k10 ks) (hh : hol = true ↔ 0 < base) {I : mI} (hS : MS I base ks) (h : ∀ I', FrG [102, 103] base (base + ks.length) I I' → (∀ t, t < ks.length → LDR hol I' base ks t) → Q (nI 0) I' P) : V E (d + 1) m_Model_structure 112 Q 0 [some (.inr 95), some (.inl (nI base)), some (.inl (nI ks.length)), none, none, none] [] 112 I P := by
  refine x_Model_structure_0 _ _ _ ?_
  rw [ix_sub]
  exact l_structure hM hb hk hh ks.length I (Nat.le_refl _) hS (fun t h1 h2 => by omega) h
end CB
