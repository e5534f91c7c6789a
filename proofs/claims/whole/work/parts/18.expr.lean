/-! The class's search for the end of an expression. -/
theorem m1_ne {k : Nat} (h : k < 2 ^ 31) : ¬ -(nI 1) = nI k := fun e => by
  have := congrArg Int32.toInt e
  rw [nI_t h] at this
  have h2 : (-(nI 1)).toInt = -1 := by decide
  omega
theorem m1_lt : -(nI 1) < (0 : Int32) := by decide
def KR (I : mI) (o : Nat) (ks : List Nat) : Prop := I o 6 = nI ks.length ∧ ∀ (t k : Nat), ks[t]? = some k → I (o + 3) t = nI k
def kAt (ks : List Nat) (t : Nat) : Int32 := match ks[t]? with
  | some k => nI k
  | none => -(nI 1)
def icn (ks : List Nat) (t : Nat) : Bool := ks[t]? == some 1 && ks[t + 1]? == some 4
def k10 (ks : List Nat) : Prop := ∀ k ∈ ks, k < 10
theorem kAt_eq {ks : List Nat} {t j : Nat} (h : k10 ks) (hj : j < 2 ^ 31) : kAt ks t = nI j ↔ ks[t]? = some j := by
  unfold kAt
  cases hk : ks[t]? with
  | none =>
    dsimp only
    exact ⟨fun e => absurd e (m1_ne hj), fun e => by cases e⟩
  | some k =>
    dsimp only
    have := h k (List.mem_of_getElem? hk)
    rw [nI_eq (by omega) hj]
    exact ⟨fun e => by rw [e], fun e => by cases e; rfl⟩
section EX
variable {E : XE} {d : Nat} {Q : Int32 → mI → mP → Prop} {I : mI} {P : mP} {o N : Nat} {ks : List Nat}
theorem s_kAt (hT : TO P o N) (hN : N < 2 ^ 30) (hR : KR I o ks) (hl : ks.length ≤ N) {t : Nat} (ht : t < 2 ^ 31) (h : Q (kAt ks t) I P) : V E d m_Text_kindAt 112 Q 0 [some (.inr o), some (.inl (nI t))] [] 112 I P := by
  refine s_kindAt hT (by omega) hR.1 hl (fun t' ht' e => ?_) (fun hne => ?_)
  · have e' : t = t' := (nI_eq ht (by omega)).mp e
    subst e'
    unfold kAt at h
    rw [List.getElem?_eq_getElem ht'] at h
    rw [hR.2 t _ (List.getElem?_eq_getElem ht')]
    exact h
  · have : ks[t]? = none := by
      rw [List.getElem?_eq_none_iff]
      exact Nat.le_of_not_lt fun q => hne t q rfl
    unfold kAt at h
    rw [this] at h
    exact h
theorem s_kAtM (hT : TO P o N) (hN : N < 2 ^ 30) (hR : KR I o ks) (hl : ks.length ≤ N) (h : Q (-(nI 1)) I P) : V E d m_Text_kindAt 112 Q 0 [some (.inr o), some (.inl (-(nI 1)))] [] 112 I P :=
  s_kindAt hT (by omega) hR.1 hl (fun t' ht' e => absurd e (m1_ne (by omega))) (fun _ => h)
theorem s_isHole (hT : TO P o N) (hN : N < 2 ^ 30) (hR : KR I o ks) (hl : ks.length ≤ N) (hk : k10 ks) {t : Nat} (ht : t < 2 ^ 31) (h : Q (bI (ks[t]? == some 3)) I P) : V E (d + 1) m_Text_isHole 112 Q 0 [some (.inr o), some (.inl (nI t))] [] 112 I P := by
  refine x_Text_isHole_0 _ _ ⟨hT.1, s_kAt hT hN hR hl ht ?_⟩
  simp only [kAt_eq hk (show 3 < 2 ^ 31 by decide)]
  refine ⟨fun e => ?_, fun e => ?_⟩
  · rw [beq_eq_false_iff_ne.mpr e] at h
    exact ⟨rfl, h⟩
  · rw [e] at h
    exact ⟨rfl, h⟩
theorem s_isCallName (hT : TO P o N) (hN : N < 2 ^ 30) (hR : KR I o ks) (hl : ks.length ≤ N) (hk : k10 ks) {t : Nat} (ht : t < 2 ^ 30) (h : Q (bI (icn ks t)) I P) : V E d m_Text_isCallName 112 Q 0 [some (.inr o), some (.inl (nI t))] [] 112 I P := by
  obtain ⟨t0, -, -, ⟨p2, k2⟩, -⟩ := hT
  refine x_Text_isCallName_0 _ _ ?_
  simp only [t0, p2, k2, nzz 3 (by decide), true_and, hR.1]
  refine ⟨fun a => absurd a (nI_pos (by omega)), fun _ => ?_⟩
  unfold icn at h
  cases hn : ks.length with
  | zero =>
    have hz : ks = [] := List.length_eq_zero_iff.mp hn
    subst hz
    refine ⟨fun _ => ⟨rfl, h⟩, fun a => absurd ?_ a⟩
    rw [Int32.le_iff_toInt_le, nI_t (by omega)]
    have : (nI 0 - nI 1).toInt = -1 := by decide
    omega
  | succ n =>
    rw [pk_sub (by omega), Nat.add_sub_cancel]
    refine pk_le n t (fun g => ?_) (fun g => ⟨vp_in_nI (by omega) (by omega), ?_⟩)
    · have : ks[t + 1]? = none := by rw [List.getElem?_eq_none_iff]; omega
      rw [this, show ((none : Option Nat) == some 4) = false from rfl, Bool.and_false] at h
      exact ⟨rfl, h⟩
    · have e1 := List.getElem?_eq_getElem (l := ks) (i := t) (by omega)
      have e2 := List.getElem?_eq_getElem (l := ks) (i := t + 1) (by omega)
      have b1 := hk _ (List.mem_of_getElem? e1)
      have b2 := hk _ (List.mem_of_getElem? e2)
      rw [e1, e2] at h
      rw [n1, clp (by omega), clp (by omega), hR.2 t _ e1, hR.2 (t + 1) _ e2]
      refine ⟨fun c => ?_, fun c => ⟨vp_in_nI (by omega) (by omega), fun c2 => ?_, fun c2 => ?_⟩⟩
      · rw [nI_eq (by omega) (by decide)] at c
        rw [show (some ks[t] == some 1) = false from by simpa using c, Bool.false_and] at h
        exact ⟨rfl, h⟩
      · rw [nI_eq (by omega) (by decide)] at c2
        rw [show (some ks[t + 1] == some 4) = false from by simpa using c2, Bool.and_false] at h
        exact ⟨rfl, h⟩
      · rw [nI_eq (by omega) (by decide)] at c c2
        rw [c, c2] at h
        exact ⟨rfl, h⟩
def bxv (a t : Nat) (q : Option (Nat × Nat)) : Int32 := match q with
  | some (m, dp) => if a + dp ≤ 12 then nI (t + m) else -(nI 1)
  | none => -(nI 1)
theorem icn_drop (ks : List Nat) (t : Nat) : icn ks t = true ↔ ∃ r, ks.drop t = 1 :: 4 :: r := by
  unfold icn
  rw [Bool.and_eq_true, beq_iff_eq, beq_iff_eq]
  constructor
  · rintro ⟨h1, h2⟩
    obtain ⟨l1, e1⟩ := List.getElem?_eq_some_iff.mp h1
    obtain ⟨l2, e2⟩ := List.getElem?_eq_some_iff.mp h2
    refine ⟨ks.drop (t + 1 + 1), ?_⟩
    rw [List.drop_eq_getElem_cons l1, List.drop_eq_getElem_cons l2, e1, e2]
  · rintro ⟨r, hr⟩
    have h1 : (ks.drop t)[0]? = some 1 := by rw [hr]; rfl
    have h2 : (ks.drop t)[1]? = some 4 := by rw [hr]; rfl
    rw [List.getElem?_drop] at h1 h2
    exact ⟨h1, h2⟩
theorem drop_k {ks : List Nat} {t k : Nat} (h : ks[t]? = some k) : ks.drop t = k :: ks.drop (t + 1) := by
  obtain ⟨l1, e1⟩ := List.getElem?_eq_some_iff.mp h
  rw [List.drop_eq_getElem_cons l1, e1]
theorem la_ge {hol : Bool} {l : List Nat} {m dp M D : Nat} (h : le_ hol l = some (m, dp)) (h2 : la_ hol l = some (M, D)) : dp ≤ D := by
  rw [la_eq, h] at h2
  dsimp only at h2
  split at h2
  · cases h2
    exact Nat.le_refl _
  · rename_i r _
    cases hr : la_ hol r with
    | none => rw [hr] at h2; cases h2
    | some q =>
      rw [hr] at h2
      cases h2
      exact Nat.le_max_left _ _
  · cases h2
theorem l_behindArguments (hT : TO P o N) (hN : N < 2 ^ 20) (hR : KR I o ks) (hl : ks.length ≤ N) (hk : k10 ks) {a D : Nat} (ha : a ≤ 12)
    (hBE : ∀ (Q : Int32 → mI → mP → Prop) (t : Nat), t < 2 ^ 22 → Q (bxv a t (le_ true (ks.drop t))) I P → V E D m_Text_behindExpression 112 Q 0 [some (.inr o), some (.inl (nI t)), some (.inl (nI a)), none] [] 112 I P) :
    ∀ (m t cnt : Nat), ks.length - t ≤ m → cnt ≤ t → t < 2 ^ 21 → Q (bxv a t (la_ true (ks.drop t))) I P → V E (D + 1) m_Text_behindArguments 112 Q 18 [some (.inr o), none, some (.inl (nI a)), some (.inl (nI t)), some (.inl (nI cnt)), none, none] [] 112 I P := by
  intro m
  induction m with
  | zero =>
    intro t cnt hm hc ht hq
    have hd : ks.drop t = [] := List.drop_eq_nil_of_le (by omega)
    rw [hd, show la_ true [] = none from by decide] at hq
    refine x_Text_behindArguments_18 _ _ _ _ ⟨hT.1, ?_⟩
    rw [hR.1]
    refine pk_le ks.length cnt (fun _ => hq) (fun _ => ⟨hT.1, hBE _ t (by omega) ?_⟩)
    rw [hd, show le_ true [] = none from by decide]
    refine ⟨hT.1, s_kAtM hT (by omega) hR hl ⟨fun _ => ⟨fun e => absurd e (m1_ne (by decide)), fun _ => hq⟩, fun e => absurd e (m1_ne (by decide))⟩⟩
  | succ m ih =>
    intro t cnt hm hc ht hq
    refine x_Text_behindArguments_18 _ _ _ _ ⟨hT.1, ?_⟩
    rw [hR.1]
    refine pk_le ks.length cnt (fun g => ?_) (fun _ => ⟨hT.1, hBE _ t (by omega) ?_⟩)
    · have hd : ks.drop t = [] := List.drop_eq_nil_of_le (by omega)
      rw [hd, show la_ true [] = none from by decide] at hq
      exact hq
    · refine ⟨hT.1, ?_⟩
      have hla := la_eq true (ks.drop t)
      have bad : Q (-(nI 1)) I P → V E D m_Text_kindAt 112 (fun r2 I2 P2 => (¬ r2 = (nI 5) → (r2 = (nI 6) → V E (D + 1) m_Text_behindArguments 112 Q 18 [some (.inr o), none, some (.inl (nI a)), some (.inl ((-(nI 1)) + (nI 1))), some (.inl ((nI cnt) + (nI 1))), none, none] [] 112 I2 P2) ∧ (¬ r2 = (nI 6) → Q (-(nI 1)) I2 P2)) ∧ (r2 = (nI 5) → Q ((-(nI 1)) + (nI 1)) I2 P2)) 0 [some (.inr o), some (.inl (-(nI 1)))] [] 112 I P := fun hq =>
        s_kAtM hT (by omega) hR hl ⟨fun _ => ⟨fun e => absurd e (m1_ne (by decide)), fun _ => hq⟩, fun e => absurd e (m1_ne (by decide))⟩
      cases hle : le_ true (ks.drop t) with
      | none =>
        rw [hle] at hla
        rw [hla] at hq
        exact bad hq
      | some q =>
        obtain ⟨mm, dp⟩ := q
        by_cases hdp : a + dp ≤ 12
        · have e1 : bxv a t (some (mm, dp)) = nI (t + mm) := if_pos hdp
          rw [e1]
          have hb := le_b hle
          rw [List.length_drop] at hb
          rw [hle] at hla
          dsimp only at hla
          rw [List.drop_drop] at hla
          refine s_kAt hT (by omega) hR hl (by omega) ?_
          simp only [kAt_eq hk (show 5 < 2 ^ 31 by decide), kAt_eq hk (show 6 < 2 ^ 31 by decide)]
          rw [n1, n1]
          refine ⟨fun c5 => ⟨fun c6 => ?_, fun c6 => ?_⟩, fun c5 => ?_⟩
          · refine ih (t + mm + 1) (cnt + 1) (by omega) (by omega) (by omega) ?_
            rw [drop_k c6] at hla
            replace hla : la_ true (ks.drop t) = (la_ true (ks.drop (t + mm + 1))).map (fun q => (mm + 1 + q.1, max dp q.2)) := hla
            rw [hla] at hq
            cases hr : la_ true (ks.drop (t + mm + 1)) with
            | none => rw [hr] at hq; exact hq
            | some q =>
              obtain ⟨m2, d2⟩ := q
              rw [hr] at hq
              have hq : Q (if a + max dp d2 ≤ 12 then nI (t + (mm + 1 + m2)) else -(nI 1)) I P := hq
              show Q (if a + d2 ≤ 12 then nI (t + mm + 1 + m2) else -(nI 1)) I P
              by_cases h2 : a + d2 ≤ 12
              · rw [if_pos (by omega)] at hq
                rw [if_pos h2, show t + mm + 1 + m2 = t + (mm + 1 + m2) by omega]
                exact hq
              · rw [if_neg (by omega)] at hq
                rw [if_neg h2]
                exact hq
          · have : la_ true (ks.drop t) = none := by
              rw [hla]
              split
              · rename_i r hr
                have : (ks.drop (t + mm))[0]? = some 5 := by rw [hr]; rfl
                rw [List.getElem?_drop] at this
                exact absurd this c5
              · rename_i r hr
                have : (ks.drop (t + mm))[0]? = some 6 := by rw [hr]; rfl
                rw [List.getElem?_drop] at this
                exact absurd this c6
              · rfl
            rw [this] at hq
            exact hq
          · rw [drop_k c5] at hla
            rw [hla] at hq
            have hq : Q (if a + dp ≤ 12 then nI (t + (mm + 1)) else -(nI 1)) I P := hq
            rw [if_pos hdp] at hq
            exact hq
        · have e1 : bxv a t (some (mm, dp)) = -(nI 1) := if_neg hdp
          rw [e1]
          refine bad ?_
          cases hr : la_ true (ks.drop t) with
          | none => rw [hr] at hq; exact hq
          | some q =>
            obtain ⟨m2, d2⟩ := q
            have := la_ge hle hr
            rw [hr] at hq
            have hq : Q (if a + d2 ≤ 12 then nI (t + m2) else -(nI 1)) I P := hq
            rw [if_neg (by omega)] at hq
            exact hq
def bav (a t : Nat) (l : List Nat) : Int32 := match l with
  | 5 :: _ => nI (t + 1)
  | l => bxv a t (la_ true l)
theorem be_of (hT : TO P o N) (hN : N < 2 ^ 20) (hR : KR I o ks) (hl : ks.length ≤ N) (hk : k10 ks) {a D : Nat} (ha : a ≤ 12)
    (hBA : a < 12 → ∀ (Q : Int32 → mI → mP → Prop) (t : Nat), t < 2 ^ 21 → Q (bav (a + 1) t (ks.drop t)) I P → V E D m_Text_behindArguments 112 Q 0 [some (.inr o), some (.inl (nI t)), some (.inl (nI (a + 1))), none, none, none, none] [] 112 I P)
    (Q : Int32 → mI → mP → Prop) (t : Nat) (ht : t < 2 ^ 22) (h : Q (bxv a t (le_ true (ks.drop t))) I P) : V E (D + 1) m_Text_behindExpression 112 Q 0 [some (.inr o), some (.inl (nI t)), some (.inl (nI a)), none] [] 112 I P := by
  have leaf : le_ true (ks.drop t) = some (1, 0) → Q (nI t + nI 1) I P := fun e => by
    rw [e] at h
    have h : Q (if a + 0 ≤ 12 then nI (t + 1) else -(nI 1)) I P := h
    rw [if_pos (by omega)] at h
    rw [n1]
    exact h
  refine x_Text_behindExpression_0 _ _ _ ⟨hT.1, s_kAt hT (by omega) hR hl (by omega) ?_⟩
  simp only [kAt_eq hk (show 1 < 2 ^ 31 by decide), kAt_eq hk (show 2 < 2 ^ 31 by decide), kAt_eq hk (show 3 < 2 ^ 31 by decide)]
  refine ⟨fun c1 => ⟨hT.1, s_isCallName hT (by omega) hR hl hk (by omega) (bn_i (fun g => ?_) (fun g => ?_))⟩, fun c1 => ⟨fun c2 => ⟨hT.1, s_isCallName hT (by omega) hR hl hk (by omega) (bn_i (fun g => ?_) (fun g => ?_))⟩, fun c2 => ⟨fun c3 => ⟨hT.1, s_isCallName hT (by omega) hR hl hk (by omega) (bn_i (fun g => ?_) (fun g => ?_))⟩, fun c3 => ?_⟩⟩⟩
  · obtain ⟨r, hr⟩ := (icn_drop ks t).mp g
    have hr2 : ks.drop (t + 2) = r := by rw [← List.drop_drop, hr]; rfl
    have htl : t < ks.length := (List.getElem?_eq_some_iff.mp c1).1
    rw [hr] at h
    rw [nI_add t 2, n1]
    refine pk_le 12 a (fun e => ?_) (fun e => ⟨hT.1, hBA e _ (t + 2) (by omega) ?_⟩)
    · have e12 : a = 12 := by omega
      rw [le_eq] at h
      split at h
      · have h : Q (if a + 1 ≤ 12 then nI (t + 3) else -(nI 1)) I P := h
        rw [if_neg (by omega)] at h
        exact h
      · rename_i q _ hq
        cases hla : la_ true q with
        | none => rw [hla] at h; exact h
        | some z =>
          obtain ⟨m2, d2⟩ := z
          rw [hla] at h
          have h : Q (if a + (d2 + 1) ≤ 12 then nI (t + (m2 + 2)) else -(nI 1)) I P := h
          rw [if_neg (by omega)] at h
          exact h
      · rename_i q hq1 hq2 hq3
        cases hq3
        exact absurd rfl (hq2 r)
      · rename_i hq3
        cases hq3
      · rename_i hq3
        cases hq3
      · exact h
    · rw [hr2]
      rw [le_eq] at h
      unfold bav
      cases r with
      | nil =>
        have h : Q (bxv a t ((la_ true []).map (fun q => (q.1 + 2, q.2 + 1)))) I P := h
        rw [show la_ true [] = none from by decide] at h
        show Q (bxv (a + 1) (t + 2) (la_ true [])) I P
        rw [show la_ true [] = none from by decide]
        exact h
      | cons k r' =>
        by_cases hk5 : k = 5
        · subst hk5
          have h : Q (if a + 1 ≤ 12 then nI (t + 3) else -(nI 1)) I P := h
          rw [if_pos (by omega)] at h
          exact h
        · have e1 := le_call (hol := true) (a := k :: r') (fun r e => hk5 (by injection e))
          rw [le_eq] at e1
          rw [e1] at h
          have e2 : (match k :: r' with
            | 5 :: _ => nI (t + 2 + 1)
            | l => bxv (a + 1) (t + 2) (la_ true l)) = bxv (a + 1) (t + 2) (la_ true (k :: r')) := by
            split
            · rename_i hq
              cases hq
              exact absurd rfl hk5
            · rfl
          rw [e2]
          cases hla : la_ true (k :: r') with
          | none => rw [hla] at h; exact h
          | some z =>
            obtain ⟨m2, d2⟩ := z
            rw [hla] at h
            have h : Q (if a + (d2 + 1) ≤ 12 then nI (t + (m2 + 2)) else -(nI 1)) I P := h
            show Q (if a + 1 + d2 ≤ 12 then nI (t + 2 + m2) else -(nI 1)) I P
            rw [show a + 1 + d2 = a + (d2 + 1) by omega, show t + 2 + m2 = t + (m2 + 2) by omega]
            exact h
  · refine leaf ?_
    rw [drop_k c1]
    refine le_name (fun r hr => ?_)
    have : icn ks t = true := (icn_drop ks t).mpr ⟨r, by rw [drop_k c1, hr]⟩
    rw [this] at g
    cases g
  · exfalso
    obtain ⟨r, hr⟩ := (icn_drop ks t).mp g
    rw [drop_k c2] at hr
    cases hr
  · refine leaf ?_
    rw [drop_k c2, le_num]
  · exfalso
    obtain ⟨r, hr⟩ := (icn_drop ks t).mp g
    rw [drop_k c3] at hr
    cases hr
  · refine leaf ?_
    rw [drop_k c3, le_hole]
    rfl
  · have : le_ true (ks.drop t) = none := by
      cases hd : ks[t]? with
      | none =>
        rw [List.drop_eq_nil_of_le (List.getElem?_eq_none_iff.mp hd)]
        decide
      | some k =>
        rw [hd] at c1 c2 c3
        rw [drop_k hd]
        exact le_oth _ (fun e => c1 (by rw [e])) (fun e => c2 (by rw [e])) (fun e => c3 (by rw [e]))
    rw [this] at h
    exact h
theorem ba_of (hT : TO P o N) (hN : N < 2 ^ 20) (hR : KR I o ks) (hl : ks.length ≤ N) (hk : k10 ks) {a D : Nat} (ha : a ≤ 12)
    (hBE : ∀ (Q : Int32 → mI → mP → Prop) (t : Nat), t < 2 ^ 22 → Q (bxv a t (le_ true (ks.drop t))) I P → V E D m_Text_behindExpression 112 Q 0 [some (.inr o), some (.inl (nI t)), some (.inl (nI a)), none] [] 112 I P)
    (Q : Int32 → mI → mP → Prop) (t : Nat) (ht : t < 2 ^ 21) (h : Q (bav a t (ks.drop t)) I P) : V E (D + 1) m_Text_behindArguments 112 Q 0 [some (.inr o), some (.inl (nI t)), some (.inl (nI a)), none, none, none, none] [] 112 I P := by
  refine x_Text_behindArguments_0 _ _ _ ⟨hT.1, s_kAt hT (by omega) hR hl (by omega) ?_⟩
  simp only [kAt_eq hk (show 5 < 2 ^ 31 by decide)]
  refine ⟨fun c => l_behindArguments hT hN hR hl hk ha hBE ks.length t 0 (by omega) (by omega) ht ?_, fun c => ?_⟩
  · have e2 : bav a t (ks.drop t) = bxv a t (la_ true (ks.drop t)) := by
      unfold bav
      split
      · rename_i r hr
        have : (ks.drop t)[0]? = some 5 := by rw [hr]; rfl
        rw [List.getElem?_drop] at this
        exact absurd this c
      · rfl
    rw [e2] at h
    exact h
  · rw [drop_k c] at h
    rw [n1]
    exact h
theorem s_behind (hT : TO P o N) (hN : N < 2 ^ 20) (hR : KR I o ks) (hl : ks.length ≤ N) (hk : k10 ks) : ∀ (b a : Nat), a + b = 12 →
    (∀ (Q : Int32 → mI → mP → Prop) (t : Nat), t < 2 ^ 22 → Q (bxv a t (le_ true (ks.drop t))) I P → V E (d + 2 * b + 1) m_Text_behindExpression 112 Q 0 [some (.inr o), some (.inl (nI t)), some (.inl (nI a)), none] [] 112 I P) ∧
    (∀ (Q : Int32 → mI → mP → Prop) (t : Nat), t < 2 ^ 21 → Q (bav a t (ks.drop t)) I P → V E (d + 2 * b + 2) m_Text_behindArguments 112 Q 0 [some (.inr o), some (.inl (nI t)), some (.inl (nI a)), none, none, none, none] [] 112 I P) := by
  intro b
  induction b with
  | zero =>
    intro a hab
    have h1 := be_of (E := E) (D := d + 2 * 0) hT hN hR hl hk (a := a) (by omega) (fun h => by omega)
    exact ⟨h1, ba_of hT hN hR hl hk (by omega) h1⟩
  | succ b ih =>
    intro a hab
    have h1 := be_of (E := E) (D := d + 2 * (b + 1)) hT hN hR hl hk (a := a) (by omega) (fun h => (ih (a + 1) (by omega)).2)
    exact ⟨h1, ba_of hT hN hR hl hk (by omega) h1⟩
/-- from outside: no calls around -/
theorem s_behindExpression (hT : TO P o N) (hN : N < 2 ^ 20) (hR : KR I o ks) (hl : ks.length ≤ N) (hk : k10 ks) {t : Nat} (ht : t < 2 ^ 22) (h : Q (bxv 0 t (le_ true (ks.drop t))) I P) : V E (d + 25) m_Text_behindExpression 112 Q 0 [some (.inr o), some (.inl (nI t)), some (.inl (nI 0)), none] [] 112 I P :=
  (s_behind (d := d) hT hN hR hl hk 12 0 rfl).1 Q t ht h
end EX
