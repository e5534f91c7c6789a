/-! The other operations of texts. -/
/-- reading of an expression, token by token: what may come, how many calls are open, how many were at most -/
def ast (hol : Bool) (q n mx k : Nat) : Option (Nat × Nat × Nat) :=
  if q ≤ 1 then (if k = 1 then some (2, n, mx) else if k = 2 ∨ (k = 3 ∧ hol = true) then some (3, n, mx) else if q = 1 ∧ k = 5 ∧ 0 < n then some (3, n - 1, mx) else none)
  else (if q = 2 ∧ k = 4 then some (1, n + 1, max mx (n + 1)) else if k = 5 ∧ 0 < n then some (3, n - 1, mx) else if k = 6 ∧ 0 < n then some (0, n, mx) else none)
def rn (hol : Bool) : Nat → Nat → Nat → List Nat → Option (Nat × Nat × Nat)
  | q, n, mx, [] => some (q, n, mx)
  | q, n, mx, k :: r => match ast hol q n mx k with
    | some (q', n', mx') => rn hol q' n' mx' r
    | none => none
theorem rn_c (hol : Bool) (q n mx k : Nat) (r : List Nat) : rn hol q n mx (k :: r) = match ast hol q n mx k with
    | some (q', n', mx') => rn hol q' n' mx' r
    | none => none := rfl
theorem ast_4 {hol : Bool} {q n mx : Nat} {z : Nat × Nat × Nat} (h : ast hol q n mx 4 = some z) : q = 2 ∧ z = (1, n + 1, max mx (n + 1)) := by
  unfold ast at h
  split at h
  · simp at h
  · split at h
    · rename_i h1
      cases h
      exact ⟨h1.1, rfl⟩
    · simp at h
theorem ast_5 {hol : Bool} {q n mx : Nat} {z : Nat × Nat × Nat} (h : ast hol q n mx 5 = some z) : 0 < n ∧ z = (3, n - 1, mx) := by
  unfold ast at h
  split at h
  · simp at h
    exact ⟨h.1.2, h.2.symm⟩
  · simp at h
    exact ⟨h.1, h.2.symm⟩
theorem ast_o {hol : Bool} {q n mx k : Nat} {z : Nat × Nat × Nat} (h4 : k ≠ 4) (h5 : k ≠ 5) (h : ast hol q n mx k = some z) : z.2 = (n, mx) := by
  unfold ast at h
  split at h
  · split at h
    · cases h; rfl
    · split at h
      · cases h; rfl
      · split at h
        · omega
        · cases h
  · split at h
    · omega
    · split at h
      · omega
      · split at h
        · cases h; rfl
        · cases h
section O2
variable {E : XE} {d : Nat} {Q : Int32 → mI → mP → Prop} {P : mP} {o o' N N' : Nat} {s mk s' mk' : List Int32} {A A' : List (Nat × Nat × Nat)}
theorem l_deepestNesting (hT : TO P o N) (hN : N < 2 ^ 20) {ks : List Nat} (hk : k10 ks) (hl : ks.length ≤ N) {I : mI} (hR : KR I o ks) {hol : Bool} {q' n' mx' : Nat} : ∀ (m t q n mx : Nat), ks.length - t = m → t ≤ ks.length → n ≤ mx → mx ≤ t → rn hol q n mx (ks.drop t) = some (q', n', mx') → Q (nI mx') I P → V E (d + 1) m_Text_deepestNesting 112 Q 6 [some (.inr o), some (.inl (nI n)), some (.inl (nI mx)), some (.inl (nI t))] [] 112 I P := by
  obtain ⟨t0, -, -, ⟨p2, k2⟩, -⟩ := hT
  intro m
  induction m with
  | zero =>
    intro t q n mx hm ht hn hmx hr h
    refine x_Text_deepestNesting_6 _ _ _ _ ⟨t0, ?_⟩
    rw [hR.1]
    refine pk_le ks.length t (fun _ => ?_) (fun q => by omega)
    rw [List.drop_eq_nil_of_le (by omega)] at hr
    cases hr
    exact h
  | succ m ih =>
    intro t q n mx hm ht hn hmx hr h
    have htl : t < ks.length := by omega
    refine x_Text_deepestNesting_6 _ _ _ _ ⟨t0, ?_⟩
    rw [hR.1]
    refine pk_le ks.length t (fun q => by omega) (fun _ => ?_)
    have hq : ks[t]? = some ks[t] := List.getElem?_eq_getElem htl
    have hv := hR.2 t _ hq
    have h10 : ks[t] < 10 := hk _ (List.getElem_mem _)
    rw [List.drop_eq_getElem_cons htl, rn_c] at hr
    generalize ks[t] = k at hr hv h10
    simp only [t0, p2, k2, nzz 3 (by decide), true_and]
    rw [clp (show t < 2 ^ 31 by omega), hv, nI_eq (by omega) (by omega), nI_eq (by omega) (by omega), n1, n1]
    refine ⟨vp_in_nI (by omega) (by omega), fun c4 => ⟨vp_in_nI (by omega) (by omega), fun c5 => ?_, fun c5 => ?_⟩, fun c4 => ?_⟩
    · rw [mxx (by omega) (by omega), Nat.max_eq_left hn]
      cases ha : ast hol q n mx k with
      | none => rw [ha] at hr; cases hr
      | some z =>
        obtain ⟨q2, n2, mx2⟩ := z
        have := ast_o c4 c5 ha
        cases this
        rw [ha] at hr
        exact ih (t + 1) q2 n mx (by omega) (by omega) hn (by omega) hr h
    · subst c5
      cases ha : ast hol q n mx 5 with
      | none => rw [ha] at hr; cases hr
      | some z =>
        obtain ⟨hpos, rfl⟩ := ast_5 ha
        rw [ha] at hr
        obtain ⟨n, rfl⟩ : ∃ j, n = j + 1 := ⟨n - 1, by omega⟩
        rw [ix_add (n + 1), show ix (n + 1) = nI n from rfl, mxx (by omega) (by omega), Nat.max_eq_left (by omega)]
        exact ih (t + 1) 3 n mx (by omega) (by omega) (by omega) (by omega) hr h
    · subst c4
      cases ha : ast hol q n mx 4 with
      | none => rw [ha] at hr; cases hr
      | some z =>
        obtain ⟨-, rfl⟩ := ast_4 ha
        rw [ha] at hr
        rw [mxx (by omega) (by omega)]
        exact ih (t + 1) 1 (n + 1) (max mx (n + 1)) (by omega) (by omega) (by omega) (by omega) hr h
theorem s_deepestNesting (hT : TO P o N) (hN : N < 2 ^ 20) {ks : List Nat} (hk : k10 ks) (hl : ks.length ≤ N) {I : mI} (hR : KR I o ks) {hol : Bool} {q' n' mx' : Nat} (hr : rn hol 0 0 0 ks = some (q', n', mx')) (h : Q (nI mx') I P) : V E (d + 1) m_Text_deepestNesting 112 Q 0 [some (.inr o), none, none, none] [] 112 I P :=
  x_Text_deepestNesting_0 _ (l_deepestNesting hT hN hk hl hR ks.length 0 0 0 0 (by omega) (by omega) (by omega) (by omega) hr h)
theorem s_digitOf (hT : TO P o N) (hN : N < 2 ^ 20) {I : mI} (hx : TXT I o s mk A) (hs : s.length ≤ N) (hl : A.length ≤ N) {t : Nat} (ht : t < A.length) {x : Int32} (hc : s[tst A t + 1]? = some x) (h : Q (x - nI 48) I P) : V E d m_Text_digitOf 112 Q 0 [some (.inr o), some (.inl (nI t))] [] 112 I P := by
  obtain ⟨t0, ⟨p0, k0⟩, -, -, ⟨p3, k3⟩, -⟩ := hT
  obtain ⟨h5, hcc, hm, hk, hA⟩ := hx
  have hlt := (List.getElem?_eq_some_iff.mp hc).1
  refine x_Text_digitOf_0 _ _ ?_
  simp only [t0, p0, k0, p3, k3, nzz 1 (by decide), nzz 4 (by decide), true_and]
  rw [clp (show t < 2 ^ 31 by omega), (hA.st ht).1, n1, clp (show tst A t + 1 < 2 ^ 31 by omega), hcc.at0 hc]
  exact ⟨vp_in_nI (by omega) (by omega), vp_in_nI (by omega) (by omega), h⟩
/-- the characters of token t -/
def tkw (s : List Int32) (A : List (Nat × Nat × Nat)) (t : Nat) : Option (List Int32) := if t < A.length then some (sub s (tst A t) (ten A t)) else none
def sTk (s : List Int32) (A : List (Nat × Nat × Nat)) (t : Nat) (s' : List Int32) (A' : List (Nat × Nat × Nat)) (u : Nat) : Bool := decide (t < A.length ∧ tkw s A t = tkw s' A' u)
theorem l_sameToken (hT : TO P o N) (hT' : TO P o' N') (hN : N < 2 ^ 20) (hN' : N' < 2 ^ 20) {I : mI} (hx : TXT I o s mk A) (hx' : TXT I o' s' mk' A') (hs : s.length ≤ N) (hs' : s'.length ≤ N') (hl : A.length ≤ N) (hl' : A'.length ≤ N') {t u w : Nat} (ht : t < A.length) (hu : u < A'.length) (hw : tst A t + w ≤ s.length) (hw' : tst A' u + w ≤ s'.length) : ∀ (m p : Nat), w - p = m → p ≤ w → ((∀ j, p ≤ j → j < w → s[tst A t + j]? = s'[tst A' u + j]?) → Q (nI 1) I P) → (∀ j, p ≤ j → j < w → s[tst A t + j]? ≠ s'[tst A' u + j]? → Q (nI 0) I P) → V E d m_Text_sameToken 112 Q 64 [some (.inr o), some (.inl (nI t)), some (.inr o'), some (.inl (nI u)), some (.inl (nI w)), some (.inl (nI p))] [] 112 I P := by
  obtain ⟨t0, ⟨p0, k0⟩, -, -, ⟨p3, k3⟩, -⟩ := hT
  obtain ⟨t0', ⟨p0', k0'⟩, -, -, ⟨p3', k3'⟩, -⟩ := hT'
  obtain ⟨h5, hcc, hm, hk, hA⟩ := hx
  obtain ⟨h5', hcc', hm', hk', hA'⟩ := hx'
  intro m
  induction m with
  | zero =>
    intro p hmm hp h1 _
    exact x_Text_sameToken_64 _ _ _ _ _ _ (pk_le w p (fun _ => ⟨rfl, h1 (fun j _ _ => by omega)⟩) (fun q => by omega))
  | succ m ih =>
    intro p hmm hp h1 h0
    refine x_Text_sameToken_64 _ _ _ _ _ _ (pk_le w p (fun q => by omega) (fun _ => ?_))
    simp only [t0, p0, k0, p3, k3, t0', p0', k0', p3', k3', nzz 1 (by decide), nzz 4 (by decide), true_and]
    rw [clp (show t < 2 ^ 31 by omega), clp (show u < 2 ^ 31 by omega), (hA.st ht).1, (hA'.st hu).1, nI_add, nI_add, clp (show tst A t + p < 2 ^ 31 by omega), clp (show tst A' u + p < 2 ^ 31 by omega)]
    have e1 : s[tst A t + p]? = some s[tst A t + p] := List.getElem?_eq_getElem (by omega)
    have e2 : s'[tst A' u + p]? = some s'[tst A' u + p] := List.getElem?_eq_getElem (by omega)
    rw [hcc.at0 e1, hcc'.at0 e2, n1]
    refine ⟨vp_in_nI (by omega) (by omega), vp_in_nI (by omega) (by omega), vp_in_nI (by omega) (by omega), vp_in_nI (by omega) (by omega), fun c => ?_, fun c => ⟨rfl, ?_⟩⟩
    · refine ih (p + 1) (by omega) (by omega) (fun hh => h1 (fun j hj1 hj2 => ?_)) (fun j hj1 hj2 => h0 j (by omega) hj2)
      by_cases e : j = p
      · subst e
        rw [e1, e2, c]
      · exact hh j (by omega) hj2
    · refine h0 p (Nat.le_refl _) (by omega) ?_
      rw [e1, e2]
      intro hh
      injection hh with hh
      exact c hh
theorem sub_eq {s s' : List Int32} {a b a' b' : Nat} (hw : b - a = b' - a') (hb : b ≤ s.length) (hb' : b' ≤ s'.length) : sub s a b = sub s' a' b' ↔ ∀ j, 0 ≤ j → j < b - a → s[a + j]? = s'[a' + j]? := by
  unfold sub
  constructor
  · intro h j _ hj
    have := congrArg (fun l => l[j]?) h
    rw [List.getElem?_take_of_lt hj, List.getElem?_take_of_lt (by omega), List.getElem?_drop, List.getElem?_drop] at this
    exact this
  · intro h
    apply List.ext_getElem?
    intro j
    by_cases hj : j < b - a
    · rw [List.getElem?_take_of_lt hj, List.getElem?_take_of_lt (by omega), List.getElem?_drop, List.getElem?_drop]
      exact h j (Nat.zero_le _) hj
    · rw [List.getElem?_take_eq_none (by omega), List.getElem?_take_eq_none (by omega)]
theorem s_sameToken (hT : TO P o N) (hT' : TO P o' N') (hN : N < 2 ^ 20) (hN' : N' < 2 ^ 20) {I : mI} (hx : TXT I o s mk A) (hx' : TXT I o' s' mk' A') (hs : s.length ≤ N) (hs' : s'.length ≤ N') (hl : A.length ≤ N) (hl' : A'.length ≤ N') (hst : ∀ q ∈ A, q.2.1 < q.2.2 ∧ q.2.2 ≤ s.length) (hst' : ∀ q ∈ A', q.2.1 < q.2.2 ∧ q.2.2 ≤ s'.length) {t u : Nat} (ht : t < 2 ^ 31) (hu : u < 2 ^ 31) (h : Q (bI (sTk s A t s' A' u)) I P) : V E d m_Text_sameToken 112 Q 0 [some (.inr o), some (.inl (nI t)), some (.inr o'), some (.inl (nI u)), none, none] [] 112 I P := by
  have hTT := hT
  have hTT' := hT'
  have hxx := hx
  have hxx' := hx'
  obtain ⟨t0, ⟨p0, k0⟩, -, -, ⟨p3, k3⟩, ⟨p4, k4⟩⟩ := hT
  obtain ⟨t0', ⟨p0', k0'⟩, -, -, ⟨p3', k3'⟩, ⟨p4', k4'⟩⟩ := hT'
  obtain ⟨h5, hcc, hm, hk, hA⟩ := hx
  obtain ⟨h5', hcc', hm', hk', hA'⟩ := hx'
  have no : sTk s A t s' A' u = false → Q (nI 0) I P := fun e => by rw [e] at h; exact h
  have yes : sTk s A t s' A' u = true → Q (nI 1) I P := fun e => by rw [e] at h; exact h
  refine x_Text_sameToken_0 _ _ _ _ ⟨fun q => absurd q (nI_pos ht), fun _ => ⟨t0, ?_⟩⟩
  rw [hA.1]
  refine pk_le A.length t (fun q => ⟨rfl, no (by unfold sTk; rw [decide_eq_false]; omega)⟩) (fun q => ⟨fun q2 => absurd q2 (nI_pos hu), fun _ => ⟨t0', ?_⟩⟩)
  rw [hA'.1]
  refine pk_lt u A'.length (fun q2 => ?_) (fun q2 => ⟨rfl, no ?_⟩)
  · simp only [t0, p3, k3, p4, k4, t0', p3', k3', p4', k4', nzz 5 (by decide), nzz 4 (by decide), true_and]
    have b1 : tst A t < ten A t ∧ ten A t ≤ s.length := by
      unfold tst ten
      rw [List.getElem?_eq_getElem q]
      exact hst _ (List.getElem_mem _)
    have b2 : tst A' u < ten A' u ∧ ten A' u ≤ s'.length := by
      unfold tst ten
      rw [List.getElem?_eq_getElem q2]
      exact hst' _ (List.getElem_mem _)
    rw [clp (show t < 2 ^ 31 by omega), clp (show u < 2 ^ 31 by omega), (hA.st q).1, (hA'.st q2).1, (hA.st q).2, (hA'.st q2).2, pk_sub (by omega), pk_sub (by omega), nI_eq (by omega) (by omega)]
    refine ⟨vp_in_nI (by omega) (by omega), vp_in_nI (by omega) (by omega), vp_in_nI (by omega) (by omega), vp_in_nI (by omega) (by omega), fun c => ?_, fun c => ⟨rfl, no ?_⟩⟩
    · have hse := sub_eq (s := s) (s' := s') c b1.2 b2.2
      refine l_sameToken hTT hTT' hN hN' hxx hxx' hs hs' hl hl' q q2 (by omega) (by omega) _ 0 rfl (Nat.zero_le _) (fun hh => yes ?_) (fun j hj1 hj2 hne => no ?_)
      · unfold sTk tkw
        rw [if_pos q, if_pos q2]
        exact decide_eq_true ⟨q, by rw [hse.mpr hh]⟩
      · unfold sTk tkw
        rw [if_pos q, if_pos q2]
        apply decide_eq_false
        intro hh
        exact hne (hse.mp (Option.some.inj hh.2) j hj1 hj2)
    · unfold sTk tkw
      rw [if_pos q, if_pos q2]
      apply decide_eq_false
      intro hh
      have := congrArg List.length (Option.some.inj hh.2)
      rw [sub_len b1.2, sub_len b2.2] at this
      exact c this
  · unfold sTk tkw
    rw [if_pos q, if_neg (by omega)]
    apply decide_eq_false
    intro hh
    cases hh.2
theorem l_sameTokens (hT : TO P o N) (hN : N < 2 ^ 20) {I : mI} (hx : TXT I o s mk A) (hs : s.length ≤ N) (hl : A.length ≤ N) (hst : ∀ q ∈ A, q.2.1 < q.2.2 ∧ q.2.2 ≤ s.length) {t u c : Nat} (ht : t < 2 ^ 20) (hu : u < 2 ^ 20) (hc : c < 2 ^ 20) : ∀ (m n : Nat), c - n = m → n ≤ c → ((∀ j, n ≤ j → j < c → sTk s A (t + j) s A (u + j) = true) → Q (nI 1) I P) → (∀ j, n ≤ j → j < c → sTk s A (t + j) s A (u + j) = false → Q (nI 0) I P) → V E (d + 1) m_Text_sameTokens 112 Q 3 [some (.inr o), some (.inl (nI t)), some (.inl (nI u)), some (.inl (nI c)), some (.inl (nI n))] [] 112 I P := by
  intro m
  induction m with
  | zero =>
    intro n hm hn h1 _
    exact x_Text_sameTokens_3 _ _ _ _ _ (pk_le c n (fun _ => ⟨rfl, h1 (fun j _ _ => by omega)⟩) (fun q => by omega))
  | succ m ih =>
    intro n hm hn h1 h0
    refine x_Text_sameTokens_3 _ _ _ _ _ (pk_le c n (fun q => by omega) (fun _ => ⟨hT.1, ?_⟩))
    rw [nI_add t n, nI_add u n]
    refine s_sameToken hT hT hN hN hx hx hs hs hl hl hst hst (by omega) (by omega) (bn_i (fun e => ?_) (fun e => ⟨rfl, h0 n (Nat.le_refl _) (by omega) e⟩))
    rw [n1]
    refine ih (n + 1) (by omega) (by omega) (fun hh => h1 (fun j hj1 hj2 => ?_)) (fun j hj1 hj2 => h0 j (by omega) hj2)
    by_cases e2 : j = n
    · subst e2
      exact e
    · exact hh j (by omega) hj2
def sTks (s : List Int32) (A : List (Nat × Nat × Nat)) (t u c : Nat) : Bool := (List.range c).all (fun j => sTk s A (t + j) s A (u + j))
theorem s_sameTokens (hT : TO P o N) (hN : N < 2 ^ 20) {I : mI} (hx : TXT I o s mk A) (hs : s.length ≤ N) (hl : A.length ≤ N) (hst : ∀ q ∈ A, q.2.1 < q.2.2 ∧ q.2.2 ≤ s.length) {t u c : Nat} (ht : t < 2 ^ 20) (hu : u < 2 ^ 20) (hc : c < 2 ^ 20) (h : Q (bI (sTks s A t u c)) I P) : V E (d + 1) m_Text_sameTokens 112 Q 0 [some (.inr o), some (.inl (nI t)), some (.inl (nI u)), some (.inl (nI c)), none] [] 112 I P := by
  refine x_Text_sameTokens_0 _ _ _ _ (l_sameTokens hT hN hx hs hl hst ht hu hc c 0 rfl (Nat.zero_le _) (fun hh => ?_) (fun j _ hj e => ?_))
  · have : sTks s A t u c = true := by
      unfold sTks
      rw [List.all_eq_true]
      intro j hj
      exact hh j (Nat.zero_le _) (List.mem_range.mp hj)
    rw [this] at h
    exact h
  · have : sTks s A t u c = false := by
      unfold sTks
      rw [List.all_eq_false]
      exact ⟨j, List.mem_range.mpr hj, by rw [e]; decide⟩
    rw [this] at h
    exact h
theorem Rc.cp0 {f g : Nat → Int32} {s : List Int32} {n : Nat} (h : Rc f 0 s) (hn : s.length ≤ n) : Rc (va_cpy f g 0 0 n) 0 s := by
  intro j x hx
  have hj := (List.getElem?_eq_some_iff.mp hx).1
  rw [pk_cpy_in (by omega) (by omega), show 0 + (0 + j - 0) = 0 + j by omega]
  exact h j x hx
theorem s_becomeCopy (hT : TO P o N) (hT' : TO P o' N) (hN : N < 2 ^ 20) (hap : apt o o') {I : mI} (hx' : TXT I o' s mk A) (hs : s.length ≤ N) (hl : A.length ≤ N) (h : ∀ I', FrK o I I' → TXT I' o s mk A → Q (nI 0) I' P) : V E (d + 1) m_Text_becomeCopy 112 Q 0 [some (.inr o), some (.inr o')] [] 112 I P := by
  have hTT := hT
  obtain ⟨t0, ⟨p0, k0⟩, ⟨p1, k1⟩, ⟨p2, k2⟩, ⟨p3, k3⟩, ⟨p4, k4⟩⟩ := hT
  obtain ⟨t0', ⟨p0', k0'⟩, ⟨p1', k1'⟩, ⟨p2', k2'⟩, ⟨p3', k3'⟩, ⟨p4', k4'⟩⟩ := hT'
  unfold apt at hap
  refine x_Text_becomeCopy_0 _ _ ⟨t0, s_empty hTT ?_⟩
  simp only [t0, t0', p0, k0, p0', k0', nzz 1 (by decide), true_and]
  generalize hI1 : uI (uI I o 5 (nI 0)) o 6 (nI 0) = I1
  have f1 : FrK o I I1 := fun m hm => by rw [← hI1, uI_n (by omega), uI_n (by omega)]
  have x1 := f1.txt hap hx'
  clear hI1 hx'
  rw [x1.1]
  refine ⟨by decide, by decide, pk_le s.length N (fun _ => ?_) (fun q => by omega)⟩
  rw [uI_n (show o' ≠ o by omega), x1.2.2.2.2.1]
  generalize hI2 : uI (uI I1 o 5 (nI s.length)) o 6 (nI A.length) = I2
  have g5 : I2 o 5 = nI s.length := by rw [← hI2, uI_o (by decide), uI_s]
  have g6 : I2 o 6 = nI A.length := by rw [← hI2, uI_s]
  have f2 : FrK o I1 I2 := fun m hm => by rw [← hI2, uI_n (by omega), uI_n (by omega)]
  have x2 := f2.txt hap x1
  rw [g5, clp (show 0 < 2 ^ 31 by decide), clp (show s.length < 2 ^ 31 by omega)]
  refine ⟨nI_pos (by omega), nI_pos (by omega), nI_pos (by omega), by omega, by omega, ?_⟩
  generalize hI3 : sI I2 (o + 1) (va_cpy (I2 (o' + 1)) (I2 (o + 1)) 0 0 s.length) = I3
  have f3 : ∀ m, m ≠ o + 1 → I3 m = I2 m := fun m hm => by rw [← hI3, sI_n hm]
  have c3 : Rc (I3 (o + 1)) 0 s := by rw [← hI3, sI_s]; exact x2.2.1.cp0 (Nat.le_refl _)
  refine x_Text_becomeCopy_50 _ _ ?_
  simp only [t0, t0', p1, k1, p1', k1', nzz 2 (by decide), true_and]
  rw [f3 o (by omega), g5, clp (show 0 < 2 ^ 31 by decide), clp (show s.length < 2 ^ 31 by omega), f3 (o' + 2) (by omega)]
  refine ⟨nI_pos (by omega), nI_pos (by omega), nI_pos (by omega), by omega, by omega, ?_⟩
  generalize hI4 : sI I3 (o + 2) (va_cpy (I2 (o' + 2)) (I3 (o + 2)) 0 0 s.length) = I4
  have f4 : ∀ m, m ≠ o + 2 → I4 m = I3 m := fun m hm => by rw [← hI4, sI_n hm]
  have c4 : Rc (I4 (o + 2)) 0 mk := by rw [← hI4, sI_s]; exact x2.2.2.2.1.cp0 (by rw [x2.2.2.1]; exact Nat.le_refl _)
  refine x_Text_becomeCopy_67 _ _ ?_
  simp only [t0, t0', p2, k2, p2', k2', nzz 3 (by decide), true_and]
  rw [f4 o (by omega), f3 o (by omega), g6, clp (show 0 < 2 ^ 31 by decide), clp (show A.length < 2 ^ 31 by omega), f4 (o' + 3) (by omega), f3 (o' + 3) (by omega)]
  refine ⟨nI_pos (by omega), nI_pos (by omega), nI_pos (by omega), by omega, by omega, ?_⟩
  generalize hI5 : sI I4 (o + 3) (va_cpy (I2 (o' + 3)) (I4 (o + 3)) 0 0 A.length) = I5
  have f5 : ∀ m, m ≠ o + 3 → I5 m = I4 m := fun m hm => by rw [← hI5, sI_n hm]
  refine x_Text_becomeCopy_84 _ _ ?_
  simp only [t0, t0', p3, k3, p3', k3', nzz 4 (by decide), true_and]
  rw [f5 o (by omega), f4 o (by omega), f3 o (by omega), g6, clp (show 0 < 2 ^ 31 by decide), clp (show A.length < 2 ^ 31 by omega), f5 (o' + 4) (by omega), f4 (o' + 4) (by omega), f3 (o' + 4) (by omega)]
  refine ⟨nI_pos (by omega), nI_pos (by omega), nI_pos (by omega), by omega, by omega, ?_⟩
  generalize hI6 : sI I5 (o + 4) (va_cpy (I2 (o' + 4)) (I5 (o + 4)) 0 0 A.length) = I6
  have f6 : ∀ m, m ≠ o + 4 → I6 m = I5 m := fun m hm => by rw [← hI6, sI_n hm]
  refine x_Text_becomeCopy_101 _ _ ?_
  simp only [t0, t0', p4, k4, p4', k4', nzz 5 (by decide), true_and]
  rw [f6 o (by omega), f5 o (by omega), f4 o (by omega), f3 o (by omega), g6, clp (show 0 < 2 ^ 31 by decide), clp (show A.length < 2 ^ 31 by omega), f6 (o' + 5) (by omega), f5 (o' + 5) (by omega), f4 (o' + 5) (by omega), f3 (o' + 5) (by omega)]
  refine ⟨nI_pos (by omega), nI_pos (by omega), nI_pos (by omega), by omega, by omega, ?_⟩
  refine h _ (fun m hm => ?_) ⟨?_, ?_, x2.2.2.1, ?_, ?_, ?_⟩
  · rw [sI_n (by omega), f6 m (by omega), f5 m (by omega), f4 m (by omega), f3 m (by omega), f2 m hm, f1 m hm]
  · rw [sI_n (by omega), f6 o (by omega), f5 o (by omega), f4 o (by omega), f3 o (by omega), g5]
  · rw [sI_n (by omega), f6 (o + 1) (by omega), f5 (o + 1) (by omega), f4 (o + 1) (by omega)]
    exact c3
  · rw [sI_n (by omega), f6 (o + 2) (by omega), f5 (o + 2) (by omega)]
    exact c4
  · rw [sI_n (by omega), f6 o (by omega), f5 o (by omega), f4 o (by omega), f3 o (by omega), g6]
  · intro t k a b e
    have htl := (List.getElem?_eq_some_iff.mp e).1
    obtain ⟨r1, r2, r3⟩ := x2.2.2.2.2.2 t k a b e
    refine ⟨?_, ?_, ?_⟩
    · rw [sI_n (by omega), f6 (o + 3) (by omega), ← hI5, sI_s, pk_cpy_in (by omega) (by omega), show 0 + (t - 0) = t by omega]
      exact r1
    · rw [sI_n (by omega), ← hI6, sI_s, pk_cpy_in (by omega) (by omega), show 0 + (t - 0) = t by omega]
      exact r2
    · rw [sI_s, pk_cpy_in (by omega) (by omega), show 0 + (t - 0) = t by omega]
      exact r3
end O2
