/-! Does a pattern fit: the class. -/
def RO (P : mP) (o : Nat) : Prop := kk 112 o = (0, 1) ∧ P o 0 = o + 1 ∧ TO P (o + 1) 60 ∧ (P o 2 = o + 7 ∧ kk 112 (o + 7) = (1, 10)) ∧ (P o 3 = o + 8 ∧ kk 112 (o + 8) = (1, 10))
/-- the figure of the hole that token t is -/
def dgt (s : List Int32) (A : List (Nat × Nat × Nat)) (t : Nat) : Nat := match s[tst A t + 1]? with
  | some x => (x - nI 48).toNatClampNeg
  | none => 0
/-- every hole has its figure -/
def HD (s : List Int32) (A : List (Nat × Nat × Nat)) : Prop := ∀ t a b, A[t]? = some (3, a, b) → dgt s A t < 10 ∧ s[tst A t + 1]? = some (nI (48 + dgt s A t))
abbrev BN : Type := Nat → Option (Nat × Nat)
def B0 : BN := fun _ => none
def BR (I : mI) (o : Nat) (B : BN) (n : Nat) : Prop := ∀ d, d < 10 → (B d = none → I (o + 7) d = -(nI 1)) ∧ ∀ f b, B d = some (f, b) → I (o + 7) d = nI f ∧ I (o + 8) d = nI b ∧ f < b ∧ b ≤ n
def bho (s' : List Int32) (A' : List (Nat × Nat × Nat)) (dg t : Nat) (B : BN) : Option (Nat × BN) := match le_ true ((A'.map Prod.fst).drop t) with
  | some (m, dp) => if dp ≤ 12 then (match B dg with
    | none => some (t + m, fun x => if x = dg then some (t, t + m) else B x)
    | some (f, b) => if b - f = m ∧ sTks s' A' f t m = true then some (t + m, B) else none) else none
  | none => none
def mtc (s : List Int32) (A : List (Nat × Nat × Nat)) (s' : List Int32) (A' : List (Nat × Nat × Nat)) : Nat → Nat → Nat → BN → Option (Nat × BN)
  | 0, _, t, B => some (t, B)
  | n + 1, p, t, B => if (A.map Prod.fst)[p]? = some 3 then (match bho s' A' (dgt s A p) t B with
      | some (t', B') => mtc s A s' A' n (p + 1) t' B'
      | none => none) else if sTk s A p s' A' t = true then mtc s A s' A' n (p + 1) (t + 1) B else none
def FrH (o : Nat) (I I' : mI) : Prop := ∀ m, m ≠ o + 7 → m ≠ o + 8 → I' m = I m
theorem FrH.rf {o : Nat} {I : mI} : FrH o I I := fun _ _ _ => rfl
theorem FrH.tr {o : Nat} {I I' I'' : mI} (h : FrH o I I') (h' : FrH o I' I'') : FrH o I I'' := fun m a b => (h' m a b).trans (h m a b)
theorem FrH.txt {I I' : mI} {o o' : Nat} {s mk : List Int32} {A : List (Nat × Nat × Nat)} (h : FrH o I I') (ha : o' + 5 < o + 7 ∨ o + 8 < o') (hx : TXT I o' s mk A) : TXT I' o' s mk A := hx.fr (fun m h1 h2 => h m (by omega) (by omega))
def dig (x : Nat) : Int32 := nI (48 + x) - nI 48
theorem dig_e (x : Nat) : nI (48 + x) - nI 48 = nI x := by rw [pk_sub (by omega)]; congr 1; omega
section MA
variable {E : XE} {d : Nat} {Q : Int32 → mI → mP → Prop} {P : mP} {o o' N' : Nat} {s mk s' mk' : List Int32} {A A' : List (Nat × Nat × Nat)}
theorem s_behindHole (hO : RO P o) (hT' : TO P o' N') (hN' : N' < 2 ^ 20) (hap : o' + 5 < o + 7 ∨ o + 8 < o') {I : mI} (hx' : TXT I o' s' mk' A') (hs' : s'.length ≤ N') (hl' : A'.length ≤ N') (hk' : k10 (A'.map Prod.fst)) (hst' : ∀ q ∈ A', q.2.1 < q.2.2 ∧ q.2.2 ≤ s'.length) {B : BN} (hB : BR I o B A'.length) {dg t : Nat} (hd : dg < 10) (ht : t ≤ A'.length)
    (h1 : ∀ I' t' B', FrH o I I' → bho s' A' dg t B = some (t', B') → t' ≤ A'.length → BR I' o B' A'.length → Q (nI t') I' P) (h0 : bho s' A' dg t B = none → Q (-(nI 1)) I P) : V E (d + 26) m_Rule_behindHole 112 Q 0 [some (.inr o), some (.inl (nI dg)), some (.inr o'), some (.inl (nI t)), none, none, none, none] [] 112 I P := by
  obtain ⟨o0, -, -, ⟨o2, k2⟩, ⟨o3, k3⟩⟩ := hO
  have hml : (A'.map Prod.fst).length = A'.length := List.length_map _
  refine x_Rule_behindHole_0 _ _ _ _ ⟨hT'.1, s_behindExpression hT' hN' hx'.2.2.2.2.kr (by omega) hk' (by omega) ?_⟩
  have hBd := hB dg hd
  unfold bho at h1 h0
  cases hle : le_ true ((A'.map Prod.fst).drop t) with
  | none =>
    rw [hle] at h0
    exact ⟨fun c => absurd rfl c, fun _ => h0 rfl⟩
  | some z =>
    obtain ⟨m, dp⟩ := z
    have hb := le_b hle
    rw [List.length_drop, hml] at hb
    rw [hle] at h0 h1
    dsimp only at h0 h1
    by_cases hdp : dp ≤ 12
    · rw [if_pos hdp] at h0 h1
      have e1 : bxv 0 t (some (m, dp)) = nI (t + m) := by
        show (if 0 + dp ≤ 12 then _ else _) = _
        rw [if_pos (by omega)]
      rw [e1]
      refine ⟨fun _ => ?_, fun c => absurd c.symm (m1_ne (by omega))⟩
      simp only [o0, o2, k2, o3, k3, nzz 7 (by decide), nzz 8 (by decide), true_and]
      rw [clp (show dg < 2 ^ 31 by omega)]
      refine ⟨vp_in_nI hd (by decide), ?_⟩
      cases hBv : B dg with
      | none =>
        rw [hBv] at h0 h1
        dsimp only at h0 h1
        rw [hBd.1 hBv]
        refine ⟨fun c => absurd rfl c, fun _ => ⟨vp_in_nI hd (by decide), vp_in_nI hd (by decide), ?_⟩⟩
        refine h1 _ _ _ (fun m' a b => ?_) rfl (by omega) (fun d' hd' => ?_)
        · rw [uI_n b, uI_n a]
        · by_cases e : d' = dg
          · subst e
            refine ⟨fun c => ?_, fun f b c => ?_⟩
            · rw [if_pos rfl] at c
              cases c
            · rw [if_pos rfl] at c
              cases c
              refine ⟨?_, ?_, by omega, by omega⟩
              · rw [uI_n (by omega), uI_s]
              · rw [uI_s]
          · have hB' := hB d' hd'
            refine ⟨fun c => ?_, fun f b c => ?_⟩
            · rw [if_neg e] at c
              rw [uI_n (by omega), uI_o e]
              exact hB'.1 c
            · rw [if_neg e] at c
              have := hB'.2 f b c
              rw [uI_n (by omega), uI_o e, uI_o e, uI_n (show o + 8 ≠ o + 7 by omega)]
              exact this
      | some fb =>
        obtain ⟨f, b⟩ := fb
        obtain ⟨r1, r2, r3, r4⟩ := hBd.2 f b hBv
        rw [hBv] at h0 h1
        dsimp only at h0 h1
        rw [r1, r2]
        refine ⟨fun _ => ⟨vp_in_nI hd (by decide), ?_⟩, fun c => absurd c.symm (m1_ne (by omega))⟩
        rw [pk_sub (show f ≤ b by omega), pk_sub (show t ≤ t + m by omega), show t + m - t = m by omega, nI_eq (by omega) (by omega)]
        refine ⟨fun c => ?_, fun c => ⟨hT'.1, ?_⟩⟩
        · rw [if_neg (fun cc => c cc.1)] at h0
          exact x_Rule_behindHole_87 _ _ ⟨fun _ => h0 rfl, fun c => absurd rfl c⟩
        · refine s_sameTokens (d := d + 24) hT' hN' hx' hs' hl' hst' (by omega) (by omega) (by omega) (bz_i (fun c2 => ?_) (fun c2 => ?_))
          · rw [if_neg (fun cc => by rw [c2] at cc; exact absurd cc.2 (by decide))] at h0
            exact x_Rule_behindHole_87 _ _ ⟨fun _ => h0 rfl, fun c => absurd rfl c⟩
          · rw [if_pos ⟨c, c2⟩] at h1
            exact x_Rule_behindHole_87 _ _ ⟨fun c => absurd c (by decide), fun _ => h1 I _ _ FrH.rf rfl (by omega) hB⟩
    · rw [if_neg hdp] at h0
      have e1 : bxv 0 t (some (m, dp)) = -(nI 1) := by
        show (if 0 + dp ≤ 12 then _ else _) = _
        rw [if_neg (by omega)]
      rw [e1]
      exact ⟨fun c => absurd rfl c, fun _ => h0 rfl⟩
theorem l_matches (hO : RO P o) (hT' : TO P o' N') (hN' : N' < 2 ^ 20) (hap : o' + 5 < o ∨ o + 8 < o') (hs : s.length ≤ 60) (hl : A.length ≤ 60) (hk : k10 (A.map Prod.fst)) (hst : ∀ q ∈ A, q.2.1 < q.2.2 ∧ q.2.2 ≤ s.length) (hH : HD s A) (hs' : s'.length ≤ N') (hl' : A'.length ≤ N') (hk' : k10 (A'.map Prod.fst)) (hst' : ∀ q ∈ A', q.2.1 < q.2.2 ∧ q.2.2 ≤ s'.length) {ar e : Nat} (har : ar ≤ A.length) (he : e < 2 ^ 31) : ∀ (n p t : Nat) (B : BN) (I : mI), p + n = ar → t ≤ A'.length → I o 1 = nI ar → TXT I (o + 1) s mk A → TXT I o' s' mk' A' → BR I o B A'.length →
    (∀ I' B', FrH o I I' → mtc s A s' A' n p t B = some (e, B') → BR I' o B' A'.length → Q (nI 1) I' P) → (∀ I', FrH o I I' → (∀ B', mtc s A s' A' n p t B ≠ some (e, B')) → Q (nI 0) I' P) → V E (d + 27) m_Rule_matches 112 Q 30 [some (.inr o), some (.inr o'), none, some (.inl (nI e)), some (.inl (nI t)), some (.inl (nI p))] [] 112 I P := by
  have hOO := hO
  obtain ⟨o0, o1, oT, -, -⟩ := hO
  have hml : (A.map Prod.fst).length = A.length := List.length_map _
  intro n
  induction n with
  | zero =>
    intro p t B I hp ht h1' hx hx' hB h1 h0
    refine x_Rule_matches_30 _ _ _ _ _ ⟨o0, ?_⟩
    rw [h1']
    refine pk_le ar p (fun _ => ?_) (fun q => by omega)
    rw [nI_eq (by omega) he]
    refine ⟨fun c => ⟨rfl, h0 I FrH.rf (fun B' hh => ?_)⟩, fun c => ⟨rfl, ?_⟩⟩
    · cases hh
      exact c rfl
    · subst c
      exact h1 I B FrH.rf rfl hB
  | succ n ih =>
    intro p t B I hp ht h1' hx hx' hB h1 h0
    have hpl : p < A.length := by omega
    refine x_Rule_matches_30 _ _ _ _ _ ⟨o0, ?_⟩
    rw [h1']
    refine pk_le ar p (fun q => by omega) (fun _ => ?_)
    simp only [o0, o1, nzz 1 (by decide), true_and]
    refine ⟨oT.1, s_isHole (d := d + 25) oT (by decide) hx.2.2.2.2.kr (by omega) hk (by omega) (bz_i (fun c => ?_) (fun c => ?_))⟩
    · have c3 : ¬ (A.map Prod.fst)[p]? = some 3 := by
        intro e
        rw [e] at c
        exact absurd c (by decide)
      have em : mtc s A s' A' (n + 1) p t B = if sTk s A p s' A' t = true then mtc s A s' A' n (p + 1) (t + 1) B else none := by
        show (if _ then _ else _) = _
        rw [if_neg c3]
      rw [em] at h1 h0
      simp only [o0, o1, nzz 1 (by decide), true_and]
      refine ⟨oT.1, s_sameToken oT hT' (by decide) hN' hx hx' hs hs' hl hl' hst hst' (by omega) (by omega) (bz_i (fun c2 => ?_) (fun c2 => ?_))⟩
      · refine x_Rule_matches_97 _ _ _ _ _ ⟨fun c => absurd rfl c, fun _ => ⟨rfl, h0 I FrH.rf (fun B' hh => ?_)⟩⟩
        rw [c2, if_neg (by decide)] at hh
        cases hh
      · rw [c2, if_pos rfl] at h1 h0
        have htl : t < A'.length := by
          unfold sTk at c2
          have c2' := of_decide_eq_true c2
          apply Classical.byContradiction
          intro hc
          have e2 := c2'.2
          unfold tkw at e2
          rw [if_pos hpl, if_neg hc] at e2
          cases e2
        rw [n1]
        refine x_Rule_matches_97 _ _ _ _ _ ⟨fun _ => ?_, fun c => absurd c.symm (m1_ne (by omega))⟩
        rw [n1]
        exact ih (p + 1) (t + 1) B I (by omega) (by omega) h1' hx hx' hB h1 h0
    · have c3 : (A.map Prod.fst)[p]? = some 3 := by simpa using c
      have em : mtc s A s' A' (n + 1) p t B = (match bho s' A' (dgt s A p) t B with
          | some (t', B') => mtc s A s' A' n (p + 1) t' B'
          | none => none) := by
        show (if _ then _ else _) = _
        rw [if_pos c3]
      rw [em] at h1 h0
      have hq : ∃ a b, A[p]? = some (3, a, b) := by
        rw [List.getElem?_map] at c3
        cases hA : A[p]? with
        | none => rw [hA] at c3; cases c3
        | some q =>
          rw [hA] at c3
          obtain ⟨k, a, b⟩ := q
          cases c3
          exact ⟨a, b, rfl⟩
      obtain ⟨qa, qb, hq⟩ := hq
      obtain ⟨hd10, hch⟩ := hH p qa qb hq
      simp only [o0, o1, nzz 1 (by decide), true_and]
      refine ⟨oT.1, s_digitOf oT (by decide) hx hs hl hpl hch ?_⟩
      rw [dig_e]
      refine s_behindHole hOO hT' hN' (by omega) hx' hs' hl' hk' hst' hB hd10 ht (fun I' t' B' hf hb ht' hB' => ?_) (fun hb => ?_)
      · rw [hb] at h1 h0
        refine x_Rule_matches_97 _ _ _ _ _ ⟨fun _ => ?_, fun c => absurd c.symm (m1_ne (by omega))⟩
        rw [n1]
        exact ih (p + 1) t' B' I' (by omega) ht' (by rw [hf o (by omega) (by omega)]; exact h1') (hf.txt (by omega) hx) (hf.txt (by omega) hx') hB' (fun I2 B2 hf2 => h1 I2 B2 (hf.tr hf2)) (fun I2 hf2 => h0 I2 (hf.tr hf2))
      · refine x_Rule_matches_97 _ _ _ _ _ ⟨fun c => absurd rfl c, fun _ => ⟨rfl, h0 I FrH.rf (fun B' hh => ?_)⟩⟩
        rw [hb] at hh
        cases hh
theorem l_match0 (hO : RO P o) {f e : Int32} : ∀ (n j : Nat) (I : mI), j + n = 10 → (∀ i, i < j → I (o + 7) i = -(nI 1)) → (∀ I', FrH o I I' → (∀ i, i < 10 → I' (o + 7) i = -(nI 1)) → V E (d + 1) m_Rule_matches 112 Q 30 [some (.inr o), some (.inr o'), none, some (.inl e), some (.inl f), some (.inl (nI 0))] [] 112 I' P) → V E (d + 1) m_Rule_matches 112 Q 3 [some (.inr o), some (.inr o'), some (.inl f), some (.inl e), some (.inl (nI j)), none] [] 112 I P := by
  obtain ⟨o0, o1, oT, ⟨o2, k2⟩, -⟩ := hO
  intro n
  induction n with
  | zero =>
    intro j I hj hi h
    have : j = 10 := by omega
    subst this
    exact x_Rule_matches_3 _ _ _ _ _ (pk_le 10 10 (fun _ => h I FrH.rf hi) (fun q => by omega))
  | succ n ih =>
    intro j I hj hi h
    refine x_Rule_matches_3 _ _ _ _ _ (pk_le 10 j (fun q => by omega) (fun _ => ?_))
    simp only [o0, o2, k2, nzz 7 (by decide), true_and]
    rw [n1, clp (show j < 2 ^ 31 by omega)]
    refine ⟨vp_in_nI (by omega) (by decide), ih (j + 1) _ (by omega) (fun i hi' => ?_) (fun I' hf hi' => h I' (fun m a b => ?_) hi')⟩
    · by_cases e : i = j
      · subst e
        rw [uI_s]
      · rw [uI_o e]
        exact hi i (by omega)
    · rw [hf m a b, uI_n a]
theorem s_matches (hO : RO P o) (hT' : TO P o' N') (hN' : N' < 2 ^ 20) (hap : o' + 5 < o ∨ o + 8 < o') (hs : s.length ≤ 60) (hl : A.length ≤ 60) (hk : k10 (A.map Prod.fst)) (hst : ∀ q ∈ A, q.2.1 < q.2.2 ∧ q.2.2 ≤ s.length) (hH : HD s A) (hs' : s'.length ≤ N') (hl' : A'.length ≤ N') (hk' : k10 (A'.map Prod.fst)) (hst' : ∀ q ∈ A', q.2.1 < q.2.2 ∧ q.2.2 ≤ s'.length) {ar e f : Nat} (har : ar ≤ A.length) (he : e < 2 ^ 31) (hf : f ≤ A'.length) {I : mI} (h1' : I o 1 = nI ar) (hx : TXT I (o + 1) s mk A) (hx' : TXT I o' s' mk' A')
    (h1 : ∀ I' B', FrH o I I' → mtc s A s' A' ar 0 f B0 = some (e, B') → BR I' o B' A'.length → Q (nI 1) I' P) (h0 : ∀ I', FrH o I I' → (∀ B', mtc s A s' A' ar 0 f B0 ≠ some (e, B')) → Q (nI 0) I' P) : V E (d + 27) m_Rule_matches 112 Q 0 [some (.inr o), some (.inr o'), some (.inl (nI f)), some (.inl (nI e)), none, none] [] 112 I P := by
  refine x_Rule_matches_0 _ _ _ _ (l_match0 hO 10 0 I rfl (fun i hi => by omega) (fun I' hf' hi => ?_))
  refine l_matches hO hT' hN' hap hs hl hk hst hH hs' hl' hk' hst' har he ar 0 f B0 I' (by omega) hf (by rw [hf' o (by omega) (by omega)]; exact h1') (hf'.txt (by omega) hx) (hf'.txt (by omega) hx') (fun d' hd' => ⟨fun _ => hi d' hd', fun f b c => by cases c⟩) (fun I2 B2 hf2 => h1 I2 B2 (hf'.tr hf2)) (fun I2 hf2 => h0 I2 (hf'.tr hf2))
end MA
