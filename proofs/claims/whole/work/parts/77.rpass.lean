/-! The reference's pass, entry by entry. -/
def clz (A : List MIt) : Prop := ∀ B y, A = B ++ [y] → mkd y = 7
theorem clz.at {A : List MIt} (h : clz A) (h0 : 0 < A.length) : (kdi A)[A.length - 1]? = some 7 := by
  rcases List.eq_nil_or_concat A with e | ⟨B, y, e⟩
  · subst e; simp at h0
  · rw [List.concat_eq_append] at e
    subst e
    have h7 := h B y rfl
    rw [List.length_append, List.length_singleton, Nat.add_sub_cancel, kdi_app, List.getElem?_append_right (by rw [kdi_len]; omega), kdi_len, Nat.sub_self]
    show some (mkd y) = _
    rw [h7]
theorem clz.nil : clz [] := fun B y e => by cases B <;> cases e
theorem clz.snoc {A : List MIt} {c : MIt} (hc : mkd c = 7) : clz (A ++ [c]) := fun B y e => by
  have := List.append_inj_right' e rfl
  have := List.singleton_inj.mp this
  rw [← this]
  exact hc
theorem rn_kin : ∀ (L : List Nat) (q n mx : Nat) (z : Nat × Nat × Nat), rn false q n mx L = some z → ∀ k ∈ L, k = 1 ∨ k = 2 ∨ k = 4 ∨ k = 5 ∨ k = 6
  | [], _, _, _, _, _, k, hk => by simp at hk
  | x :: L, q, n, mx, z, h, k, hk => by
    rw [rn_c] at h
    cases ha : ast false q n mx x with
    | none => rw [ha] at h; cases h
    | some v =>
      obtain ⟨q1, n1, m1⟩ := v
      rw [ha] at h
      rcases List.mem_cons.mp hk with rfl | hk
      · exact (ast_k ha).1
      · exact rn_kin L q1 n1 m1 z h k hk
theorem gl_rn {L : List Nat} (h : gl L = true) : ∃ q mx, rn false 0 0 0 L = some (q, 0, mx) ∧ 2 ≤ q ∧ mx ≤ 12 := by
  unfold gl at h
  cases hr : rn false 0 0 0 L with
  | none => rw [hr] at h; cases h
  | some z =>
    obtain ⟨q, n, mx⟩ := z
    rw [hr] at h
    obtain ⟨h1, rfl, h3⟩ := of_decide_eq_true h
    exact ⟨q, mx, rfl, h1, h3⟩
theorem gl_7 {L : List Nat} (h : gl L = true) : ∀ k ∈ L, k ≠ 7 := fun k hk => by
  obtain ⟨q, mx, hr, -⟩ := gl_rn h
  have := rn_kin _ _ _ _ _ hr k hk
  omega
theorem spn_pre (ks : List Nat) (m : Nat) : ∀ (n f t : Nat), (n = 0 → f = t) → (0 < n → ks[t + n - 1]? = some 7) → ∀ q ∈ spn ks m (t + n) (t + n), q ∈ spn ks (n + m) f t
  | 0, f, t, h1, _, q, hq => by
    have := h1 rfl
    subst this
    rw [Nat.zero_add]
    exact hq
  | n + 1, f, t, _, h2, q, hq => by
    have h2 := h2 (by omega)
    rw [show n + 1 + m = n + m + 1 by omega, spn_s]
    rw [show t + (n + 1) = t + 1 + n by omega] at hq
    by_cases c : ks[t]? = some 7
    · rw [if_pos c]
      exact List.mem_cons_of_mem _ (spn_pre ks m n (t + 1) (t + 1) (fun _ => rfl) (fun _ => by rw [show t + 1 + n - 1 = t + (n + 1) - 1 by omega]; exact h2) q hq)
    · rw [if_neg c]
      cases n with
      | zero =>
        rw [show t + (0 + 1) - 1 = t by omega] at h2
        exact absurd h2 c
      | succ n =>
        exact spn_pre ks m (n + 1) f (t + 1) (fun q => by omega) (fun _ => by rw [show t + 1 + (n + 1) - 1 = t + (n + 1 + 1) - 1 by omega]; exact h2) q hq
theorem spn_run (ks : List Nat) (m f : Nat) : ∀ (L r : List Nat) (t : Nat), ks.drop t = L ++ 7 :: r → (∀ k ∈ L, k ≠ 7) → (f, t + L.length, gdr ks f (t + L.length)) ∈ spn ks (L.length + 1 + m) f t
  | [], r, t, h, _ => by
    have hq : ks[t]? = some 7 := by
      have := congrArg (fun l => l[0]?) h
      simpa using this
    rw [show ([] : List Nat).length + 1 + m = m + 1 by simp; omega, spn_s, if_pos hq]
    exact List.mem_cons_self
  | k :: L, r, t, h, h7 => by
    have hq : ks[t]? = some k := by
      have := congrArg (fun l => l[0]?) h
      simpa using this
    have hd : ks.drop (t + 1) = L ++ 7 :: r := by
      have := drop_it hq
      rw [h] at this
      injection this with _ h2
      exact h2.symm
    rw [List.length_cons, show L.length + 1 + 1 + m = L.length + 1 + m + 1 by omega, spn_s, hq, if_neg (fun c => h7 k List.mem_cons_self (Option.some.inj c)), show t + (L.length + 1) = t + 1 + L.length by omega]
    exact spn_run ks m f L r (t + 1) hd (fun k' hk' => h7 k' (List.mem_cons_of_mem _ hk'))
section DC
variable {A G C : List MIt} {c : MIt}
theorem kdi_dec (hc : mkd c = 7) : (kdi (A ++ (G ++ c :: C))).drop A.length = kdi G ++ 7 :: kdi C := by
  rw [kdi_app, ← kdi_len A, List.drop_left, kdi_app]
  show kdi G ++ mkd c :: kdi C = _
  rw [hc]
theorem kdi_at (hA : clz A) (h0 : 0 < A.length) : (kdi (A ++ (G ++ c :: C)))[0 + A.length - 1]? = some 7 := by
  rw [Nat.zero_add, kdi_app, List.getElem?_append_left (by rw [kdi_len]; omega)]
  exact hA.at h0
theorem dec_len : (kdi (A ++ (G ++ c :: C))).length = A.length + (G.length + 1 + C.length) := by
  rw [kdi_len, List.length_append, List.length_append, List.length_cons]
  omega
theorem spn_dec (hA : clz A) (hc : mkd c = 7) (h7 : ∀ k ∈ kdi G, k ≠ 7) : (A.length, A.length + G.length, gl (kdi G)) ∈ spns (kdi (A ++ (G ++ c :: C))) := by
  have hd := kdi_dec (A := A) (G := G) (C := C) hc
  have h1 := spn_run (kdi (A ++ (G ++ c :: C))) C.length A.length (kdi G) (kdi C) A.length hd h7
  rw [gdr_gl hd rfl, kdi_len] at h1
  unfold spns
  rw [dec_len]
  refine spn_pre _ _ A.length 0 0 (fun e => rfl) (fun h0 => kdi_at hA h0) _ ?_
  rw [Nat.zero_add]
  exact h1
theorem gdi_dec (hA : clz A) (hc : mkd c = 7) (h7 : ∀ k ∈ kdi G, k ≠ 7) {f : Nat} (h1 : A.length ≤ f) (h2 : f ≤ A.length + G.length) : gdi (kdi (A ++ (G ++ c :: C))) f = gl (kdi G) := gdi_of (spn_dec hA hc h7) h1 h2
theorem oln_dec (hc : mkd c = 7) (h7 : ∀ k ∈ kdi G, k ≠ 7) : (oln (kdi (A ++ (G ++ c :: C))) (G.length + 1 + C.length) A.length A.length).2 = (if gl (kdi G) = true then (scn G.length (kdi (G ++ c :: C)) A.length []).1 else []) ++ (oln (kdi (A ++ (G ++ c :: C))) C.length (A.length + G.length + 1) (A.length + G.length + 1)).2 := by
  have hd := kdi_dec (A := A) (G := G) (C := C) hc
  have hr := oln_run (ks := kdi (A ++ (G ++ c :: C))) (1 + C.length) A.length (kdi G) _ A.length hd h7
  rw [kdi_len] at hr
  have hq7 : (kdi (A ++ (G ++ c :: C)))[A.length + G.length]? = some 7 := by
    have := congrArg (fun l => l[G.length]?) hd
    rw [List.getElem?_drop, List.getElem?_append_right (by rw [kdi_len]; omega), kdi_len, Nat.sub_self] at this
    exact this
  rw [Nat.add_assoc, hr, show 1 + C.length = C.length + 1 by omega, oln_s, if_pos hq7]
  dsimp only
  congr 1
  have hgd : gds (kdi (A ++ (G ++ c :: C))) A.length (A.length + G.length) = gl (kdi G) := by rw [gds_gdr]; exact gdr_gl hd (by rw [kdi_len])
  unfold rsx
  rw [hgd]
  by_cases hg : gl (kdi G) = true
  · rw [if_pos hg, if_pos hg, Nat.add_sub_cancel_left, hd, kdi_app]
    show _ = (scn G.length (kdi G ++ mkd c :: kdi C) A.length []).1
    rw [hc]
  · rw [if_neg hg, if_neg hg]
theorem outl_dec (hA : clz A) : ∃ E0, (outl (kdi (A ++ (G ++ c :: C)))).2 = E0 ++ (oln (kdi (A ++ (G ++ c :: C))) (G.length + 1 + C.length) A.length A.length).2 ∧ ∀ q ∈ E0, q.2.1 < A.length := by
  obtain ⟨E0, e1, e2⟩ := oln_pre (kdi (A ++ (G ++ c :: C))) (G.length + 1 + C.length) A.length 0 0 (fun _ => rfl) (fun h0 => kdi_at hA h0)
  rw [Nat.zero_add] at e1 e2
  refine ⟨E0, ?_, e2⟩
  unfold outl
  rw [dec_len]
  exact e1
end DC
theorem scn_stk : ∀ (m : Nat) (l : List Nat) (t : Nat) (s : List Nat), ∀ x ∈ (scn m l t s).2, x ∈ s ∨ (t ≤ x ∧ x < t + m)
  | 0, l, t, s, x, hx => Or.inl hx
  | m + 1, [], t, s, x, hx => Or.inl hx
  | m + 1, k :: r, t, s, x, hx => by
    have ih := scn_stk m r (t + 1)
    have up : ∀ s', (x ∈ s' → x ∈ s ∨ (t ≤ x ∧ x < t + (m + 1))) → x ∈ (scn m r (t + 1) s').2 → x ∈ s ∨ (t ≤ x ∧ x < t + (m + 1)) := fun s' h1 h2 => by
      rcases ih s' x h2 with a | a
      · exact h1 a
      · exact Or.inr (by omega)
    rw [scn_c] at hx
    split at hx
    · exact up _ (fun h => by
        rcases List.mem_cons.mp h with a | a
        · exact Or.inr (by omega)
        · exact Or.inl a) hx
    · split at hx
      · split at hx
        · exact up _ (fun h => Or.inl (List.mem_cons_of_mem _ h)) hx
        · exact up _ (fun h => Or.inl h) hx
      · split at hx
        · exact up _ (fun h => Or.inl h) hx
        · exact up _ (fun h => Or.inl h) hx
/-- the open calls: the scan up to each of them leaves those below it -/
def SKs (L : List Nat) (b : Nat) (st : List Nat) : Prop := ∀ st1 f st2, st = st1 ++ f :: st2 → b ≤ f ∧ L[f - b]? = some 1 ∧ (scn (f - b) L b []).2 = st2
theorem SKs.tl {L : List Nat} {b f : Nat} {st : List Nat} (h : SKs L b (f :: st)) : SKs L b st := fun st1 g st2 e => h (f :: st1) g st2 (by rw [e]; rfl)
theorem SKs.push {L : List Nat} {b f : Nat} {st : List Nat} (h : SKs L b st) (h1 : b ≤ f) (h2 : L[f - b]? = some 1) (h3 : (scn (f - b) L b []).2 = st) : SKs L b (f :: st) := fun st1 g st2 e => by
  cases st1 with
  | nil =>
    injection e with e1 e2
    subst e1; subst e2
    exact ⟨h1, h2, h3⟩
  | cons x st1 =>
    injection e with e1 e2
    exact h st1 g st2 e2
theorem hd4_get {L : List Nat} {k : Nat} {m : Nat} (h : L[m]? = some k) (hk : k ≠ 4) : hd4 (L.drop m) = false := by
  rw [drop_it h]
  show Nat.beq k 4 = false
  cases hb : Nat.beq k 4 with
  | true => exact absurd (Nat.eq_of_beq_eq_true hb) hk
  | false => rfl
/-- the same open calls where the tokens are the same up to n -/
theorem SKs.pre {L L2 : List Nat} {b n : Nat} {st : List Nat} (h : SKs L b st) (hb : ∀ x ∈ st, x < b + n) (ht : L2.take n = L.take n) : SKs L2 b st := fun st1 g st2 e => by
  obtain ⟨h1, h2, h3⟩ := h st1 g st2 e
  have hg := hb g (by rw [e]; simp)
  have t1 : L2.take (g - b) = L.take (g - b) := by
    have := congrArg (fun l => l.take (g - b)) ht
    simp only [List.take_take] at this
    rw [show min (g - b) n = g - b by omega] at this
    exact this
  have g2 : L2[g - b]? = some 1 := by
    rw [← h2]
    have := congrArg (fun l => l[g - b]?) ht
    rw [List.getElem?_take_of_lt (by omega), List.getElem?_take_of_lt (by omega)] at this
    exact this
  refine ⟨h1, g2, ?_⟩
  rw [scn_pre (g - b) L L2 b [] t1 (by rw [hd4_get g2 (by decide), hd4_get h2 (by decide)])]
  exact h3
