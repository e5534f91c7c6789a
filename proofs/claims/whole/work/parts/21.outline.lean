/-! The class's outline: statements and expressions. -/
def hd4 (r : List Nat) : Bool := match r with
  | k :: _ => Nat.beq k 4
  | [] => false
/-- the expressions that end among the next n tokens, and the calls that are open behind them -/
def scn : Nat → List Nat → Nat → List Nat → List (Nat × Nat × Nat) × List Nat
  | 0, _, _, s => ([], s)
  | _ + 1, [], _, s => ([], s)
  | n + 1, k :: r, t, s => if (k = 1 ∧ hd4 r = true) ∧ s.length < 12 then scn n r (t + 1) (t :: s)
    else if k = 5 then (match s with
      | f :: s' => ((f, t, s'.length) :: (scn n r (t + 1) s').1, (scn n r (t + 1) s').2)
      | [] => scn n r (t + 1) [])
    else if k = 1 ∨ k = 2 then ((t, t, s.length) :: (scn n r (t + 1) s).1, (scn n r (t + 1) s).2)
    else scn n r (t + 1) s
theorem scn_c (n k t : Nat) (r s : List Nat) : scn (n + 1) (k :: r) t s = if (k = 1 ∧ hd4 r = true) ∧ s.length < 12 then scn n r (t + 1) (t :: s)
    else if k = 5 then (match s with
      | f :: s' => ((f, t, s'.length) :: (scn n r (t + 1) s').1, (scn n r (t + 1) s').2)
      | [] => scn n r (t + 1) [])
    else if k = 1 ∨ k = 2 then ((t, t, s.length) :: (scn n r (t + 1) s).1, (scn n r (t + 1) s).2)
    else scn n r (t + 1) s := rfl
def OO (P : mP) : Prop := P 85 0 = 86 ∧ P 85 2 = 87 ∧ P 85 3 = 88 ∧ P 85 4 = 89 ∧ P 85 6 = 90
theorem k85 : kk 112 85 = (0, 4) := rfl
theorem k86 : kk 112 86 = (1, 120) := rfl
theorem k87 : kk 112 87 = (1, 120) := rfl
theorem k88 : kk 112 88 = (1, 120) := rfl
theorem k89 : kk 112 89 = (1, 120) := rfl
theorem k90 : kk 112 90 = (1, 12) := rfl
def OE (I : mI) (ex : List (Nat × Nat × Nat)) : Prop := I 85 5 = nI ex.length ∧ ∀ (k f l a : Nat), ex[k]? = some (f, l, a) → I 87 k = nI f ∧ I 88 k = nI l ∧ I 89 k = nI a
def OS (I : mI) (sk : List Nat) : Prop := I 85 1 = nI sk.length ∧ ∀ (k x : Nat), sk[k]? = some x → I 86 k = nI x
def SK (I : mI) (s : List Nat) : Prop := ∀ (j x : Nat), s.reverse[j]? = some x → I 90 j = nI x
/-- what expressions' adding leaves -/
def FrX (I I' : mI) : Prop := (∀ m, m < 85 ∨ 90 < m → I' m = I m) ∧ I' 86 = I 86 ∧ ∀ j, j ≠ 5 → I' 85 j = I 85 j
theorem FrX.rf {I : mI} : FrX I I := ⟨fun _ _ => rfl, rfl, fun _ _ => rfl⟩
theorem FrX.tr {I I' I'' : mI} (h : FrX I I') (h' : FrX I' I'') : FrX I I'' := ⟨fun m a => (h'.1 m a).trans (h.1 m a), h'.2.1.trans h.2.1, fun j hj => (h'.2.2 j hj).trans (h.2.2 j hj)⟩
def oe1 (I : mI) (c : Nat) (f l a : Int32) : mI := uI (uI (uI (uI I 87 c f) 88 c l) 89 c a) 85 5 (nI (c + 1))
theorem oe1_fr {I : mI} {c : Nat} {f l a : Int32} : FrX I (oe1 I c f l a) := by
  unfold oe1
  refine ⟨fun m hm => ?_, ?_, fun j hj => ?_⟩
  · rw [uI_n (by omega), uI_n (by omega), uI_n (by omega), uI_n (by omega)]
  · rw [uI_n (by decide), uI_n (by decide), uI_n (by decide), uI_n (by decide)]
  · rw [uI_o hj, uI_n (by decide), uI_n (by decide), uI_n (by decide)]
theorem oe1_90 {I : mI} {c : Nat} {f l a : Int32} : oe1 I c f l a 90 = I 90 := by
  unfold oe1
  rw [uI_n (by decide), uI_n (by decide), uI_n (by decide), uI_n (by decide)]
theorem oe1_oe {I : mI} {ex : List (Nat × Nat × Nat)} {f l a : Nat} (h : OE I ex) : OE (oe1 I ex.length (nI f) (nI l) (nI a)) (ex ++ [(f, l, a)]) := by
  unfold oe1
  refine ⟨by rw [uI_s, List.length_append]; rfl, fun t k' a' b' ht => ?_⟩
  rw [uI_n (by decide : 87 ≠ 85), uI_n (by decide : 88 ≠ 85), uI_n (by decide : 89 ≠ 85), uI_n (by decide : 87 ≠ 89), uI_n (by decide : 88 ≠ 89), uI_n (by decide : 87 ≠ 88)]
  by_cases hl : t < ex.length
  · rw [List.getElem?_append_left hl] at ht
    obtain ⟨g1, g2, g3⟩ := h.2 t k' a' b' ht
    rw [uI_o (by omega), uI_o (by omega), uI_o (by omega), uI_n (by decide : 88 ≠ 87), uI_n (by decide : 89 ≠ 88), uI_n (by decide : 89 ≠ 87)]
    exact ⟨g1, g2, g3⟩
  · have e : t = ex.length := by
      have := (List.getElem?_eq_some_iff.mp ht).1
      rw [List.length_append] at this
      simp at this
      omega
    subst e
    rw [List.getElem?_append_right (Nat.le_refl _), Nat.sub_self] at ht
    cases ht
    exact ⟨uI_s, uI_s, uI_s⟩
section OL
variable {E : XE} {d : Nat} {Q : Int32 → mI → mP → Prop} {P : mP}
theorem s_addExpression (hO : OO P) {I : mI} {ex : List (Nat × Nat × Nat)} (h : OE I ex) (hl : ex.length < 120) {f l a : Int32} (hq : Q (nI 0) (oe1 I ex.length f l a) P) : V E d m_Outline_addExpression 112 Q 0 [some (.inr 85), some (.inl f), some (.inl l), some (.inl a)] [] 112 I P := by
  obtain ⟨p0, p2, p3, p4, p6⟩ := hO
  refine x_Outline_addExpression_0 _ _ _ _ ?_
  simp only [k85, p2, k87, p3, k88, p4, k89, nzl 87 (by decide), nzl 88 (by decide), nzl 89 (by decide), true_and, uI_n (show 85 ≠ 87 by decide), uI_n (show 85 ≠ 88 by decide), uI_n (show 85 ≠ 89 by decide), h.1]
  refine ⟨by decide, by decide, pk_le 120 ex.length (fun g => by omega) (fun g => ?_)⟩
  have hin : vp_in (nI ex.length) 120 := vp_in_nI hl (by decide)
  refine ⟨hin, hin, hin, ?_⟩
  rw [clp (by omega), n1]
  exact hq
variable {o N : Nat} {ks : List Nat}
theorem l_addExpressions (hO : OO P) (hT : TO P o N) (ho : o + 5 < 85) (hN : N < 2 ^ 20) (hl : ks.length ≤ N) (hk : k10 ks) {e : Nat} (he : e ≤ ks.length) : ∀ (n t : Nat) (s : List Nat) (ex : List (Nat × Nat × Nat)) (I : mI), e - t = n → t ≤ e → s.length ≤ 12 → ex.length + (e - t) ≤ 120 → KR I o ks → OE I ex → SK I s →
    (∀ I', FrX I I' → OE I' (ex ++ (scn n (ks.drop t) t s).1) → Q (nI 0) I' P) → V E (d + 1) m_Outline_addExpressions 112 Q 6 [some (.inr 85), some (.inr o), none, some (.inl (nI e)), some (.inl (nI s.length)), some (.inl (nI t)), none] [] 112 I P := by
  have hO' := hO
  obtain ⟨p0, p2, p3, p4, p6⟩ := hO'
  intro n
  induction n with
  | zero =>
    intro t s ex I hn ht hs hx hR hE hS h
    refine x_Outline_addExpressions_6 _ _ _ _ _ (pk_le e t (fun _ => h I FrX.rf ?_) (fun g => by omega))
    simpa [scn] using hE
  | succ n ih =>
    intro t s ex I hn ht hs hx hR hE hS h
    have hg := List.getElem?_eq_getElem (l := ks) (i := t) (by omega)
    have hk0 := hk _ (List.mem_of_getElem? hg)
    generalize hkk : ks[t] = k0 at hg hk0
    have hd := drop_k hg
    rw [hd, scn_c] at h
    have hat : kAt ks t = nI k0 := (kAt_eq hk (by omega)).mpr hg
    have hicn : icn ks t = true ↔ (k0 = 1 ∧ hd4 (ks.drop (t + 1)) = true) := by
      rw [icn_drop, hd]
      constructor
      · rintro ⟨r, e⟩
        injection e with e1 e2
        exact ⟨e1, by rw [e2]; rfl⟩
      · rintro ⟨e1, e2⟩
        cases hr : ks.drop (t + 1) with
        | nil => rw [hr] at e2; cases e2
        | cons z r =>
          rw [hr] at e2
          have : z = 4 := Nat.eq_of_beq_eq_true e2
          exact ⟨r, by rw [e1, this]⟩
    -- going on at t + 1 with an entry more
    have add1 : ∀ (f a : Nat) (s' : List Nat), s'.length ≤ 12 → SK I s' → (∀ I', FrX I I' → OE I' (ex ++ ((f, t, a) :: (scn n (ks.drop (t + 1)) (t + 1) s').1)) → Q (nI 0) I' P) →
        V E d m_Outline_addExpression 112 (fun _ I1 P1 => V E (d + 1) m_Outline_addExpressions 112 Q 105 [some (.inr 85), some (.inr o), none, some (.inl (nI e)), some (.inl (nI s'.length)), some (.inl (nI t)), none] [] 112 I1 P1) 0 [some (.inr 85), some (.inl (nI f)), some (.inl (nI t)), some (.inl (nI a))] [] 112 I P := by
      intro f a s' hs' hS' h'
      refine s_addExpression hO hE (by omega) (x_Outline_addExpressions_105 _ _ _ _ _ ?_)
      rw [n1]
      refine ih (t + 1) s' (ex ++ [(f, t, a)]) _ (by omega) (by omega) hs' (by simp; omega) ?_ (oe1_oe hE) ?_ (fun I' hf hr => h' I' (oe1_fr.tr hf) (by simpa using hr))
      · exact ⟨by rw [oe1_fr.1 o (by omega)]; exact hR.1, fun t' k' ht' => by rw [oe1_fr.1 (o + 3) (by omega)]; exact hR.2 t' k' ht'⟩
      · intro j x hj
        rw [oe1_90]
        exact hS' j x hj
    -- the last questions: a leaf or nothing
    have tail : (¬ ((k0 = 1 ∧ hd4 (ks.drop (t + 1)) = true) ∧ s.length < 12)) → (k0 = 5 → s = []) → V E (d + 1) m_Outline_addExpressions 112 Q 83 [some (.inr 85), some (.inr o), none, some (.inl (nI e)), some (.inl (nI s.length)), some (.inl (nI t)), some (.inl (nI k0))] [] 112 I P := by
      intro hc h5
      rw [if_neg hc] at h
      have goon : (∀ I', FrX I I' → OE I' (ex ++ (scn n (ks.drop (t + 1)) (t + 1) s).1) → Q (nI 0) I' P) → V E (d + 1) m_Outline_addExpressions 112 Q 105 [some (.inr 85), some (.inr o), none, some (.inl (nI e)), some (.inl (nI s.length)), some (.inl (nI t)), none] [] 112 I P := fun h' => by
        refine x_Outline_addExpressions_105 _ _ _ _ _ ?_
        rw [n1]
        exact ih (t + 1) s ex I (by omega) (by omega) hs (by omega) hR hE hS h'
      refine x_Outline_addExpressions_83 _ _ _ _ _ _ ?_
      rw [nI_eq (by omega) (by decide), nI_eq (by omega) (by decide)]
      refine ⟨fun c1 => ⟨k85, ?_⟩, fun c1 => ⟨fun c2 => goon ?_, fun c2 => ⟨k85, ?_⟩⟩⟩
      · rw [if_neg (by omega), if_pos (Or.inl c1)] at h
        exact add1 t s.length s hs hS h
      · by_cases c5 : k0 = 5
        · rw [if_pos c5] at h
          have hs0 := h5 c5
          subst hs0
          exact h
        · rw [if_neg c5, if_neg (by omega)] at h
          exact h
      · rw [if_neg (by omega), if_pos (Or.inr c2)] at h
        exact add1 t s.length s hs hS h
    have mid : (¬ ((k0 = 1 ∧ hd4 (ks.drop (t + 1)) = true) ∧ s.length < 12)) → V E (d + 1) m_Outline_addExpressions 112 Q 51 [some (.inr 85), some (.inr o), none, some (.inl (nI e)), some (.inl (nI s.length)), some (.inl (nI t)), some (.inl (nI k0))] [] 112 I P := by
      intro hc
      refine x_Outline_addExpressions_51 _ _ _ _ _ _ ?_
      rw [nI_eq (by omega) (by decide)]
      refine ⟨fun c5 => tail hc (fun q => absurd q c5), fun c5 => ?_⟩
      cases s with
      | nil => exact ⟨fun _ => tail hc (fun _ => rfl), fun a => absurd (by decide) a⟩
      | cons f s' =>
        refine ⟨fun a => absurd a (nI_nle (by simp) (by simp at hs ⊢; omega)), fun _ => ?_⟩
        rw [if_neg hc, if_pos c5] at h
        simp only [k85, p6, k90, nzl 90 (by decide), true_and]
        rw [show nI (f :: s').length + -(nI 1) = nI s'.length from ix_add (s'.length + 1)]
        simp only [List.length_cons] at hs
        refine ⟨vp_in_nI (by omega) (by decide), ?_⟩
        rw [clp (by omega), hS s'.length f (by
          rw [List.reverse_cons, List.getElem?_append_right (by simp)]
          simp)]
        refine add1 f s'.length s' (by omega) (fun j x hj => hS j x ?_) h
        rw [List.reverse_cons, List.getElem?_append_left (List.getElem?_eq_some_iff.mp hj).1]
        exact hj
    refine x_Outline_addExpressions_6 _ _ _ _ _ (pk_le e t (fun g => by omega) (fun _ => ⟨hT.1, s_kAt hT (by omega) hR hl (by omega) (x_Outline_addExpressions_20 _ _ _ _ _ _ ⟨hT.1, s_isCallName hT (by omega) hR hl hk (by omega) ?_⟩)⟩))
    rw [hat]
    refine bz_i (fun g => mid (fun q => ?_)) (fun g => ?_)
    · rw [hicn.mpr q.1] at g
      cases g
    · have hc1 := hicn.mp g
      refine pk_le 12 s.length (fun g2 => mid (fun q => by omega)) (fun g2 => ?_)
      rw [if_pos ⟨hc1, g2⟩] at h
      simp only [k85, p6, k90, nzl 90 (by decide), true_and]
      refine ⟨vp_in_nI g2 (by decide), x_Outline_addExpressions_105 _ _ _ _ _ ?_⟩
      rw [clp (by omega), n1, n1]
      have hf : FrX I (uI I 90 s.length (nI t)) := ⟨fun m hm => uI_n (by omega), uI_n (by decide), fun j _ => by rw [uI_n (by decide)]⟩
      refine ih (t + 1) (t :: s) ex _ (by omega) (by omega) (by simp; omega) (by omega) ?_ ?_ ?_ (fun I' hf' hr => h I' (hf.tr hf') hr)
      · exact ⟨by rw [uI_n (by omega)]; exact hR.1, fun t' k' ht' => by rw [uI_n (by omega)]; exact hR.2 t' k' ht'⟩
      · refine ⟨by rw [uI_n (by decide)]; exact hE.1, fun k f l a hk' => ?_⟩
        rw [uI_n (by decide), uI_n (by decide), uI_n (by decide)]
        exact hE.2 k f l a hk'
      · intro j x hj
        rw [List.reverse_cons] at hj
        by_cases hjl : j < s.length
        · rw [List.getElem?_append_left (by simpa using hjl)] at hj
          rw [uI_o (by omega)]
          exact hS j x hj
        · have : j = s.length := by
            have := (List.getElem?_eq_some_iff.mp hj).1
            simp at this
            omega
          subst this
          rw [List.getElem?_append_right (by simp)] at hj
          simp at hj
          rw [uI_s, hj]
theorem s_addExpressions (hO : OO P) (hT : TO P o N) (ho : o + 5 < 85) (hN : N < 2 ^ 20) (hl : ks.length ≤ N) (hk : k10 ks) {f e : Nat} (hf : f ≤ e) (he : e ≤ ks.length) {I : mI} {ex : List (Nat × Nat × Nat)} (hx : ex.length + (e - f) ≤ 120) (hR : KR I o ks) (hE : OE I ex)
    (h : ∀ I', FrX I I' → OE I' (ex ++ (scn (e - f) (ks.drop f) f []).1) → Q (nI 0) I' P) : V E (d + 1) m_Outline_addExpressions 112 Q 0 [some (.inr 85), some (.inr o), some (.inl (nI f)), some (.inl (nI e)), none, none, none] [] 112 I P :=
  x_Outline_addExpressions_0 _ _ _ _ (l_addExpressions hO hT ho hN hl hk he (e - f) f [] ex I rfl hf (by simp) hx hR hE (fun j x hj => by simp at hj) h)
end OL
