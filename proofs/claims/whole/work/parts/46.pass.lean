/-! A pass over the program. -/
def gl (L : List Nat) : Bool := match rn false 0 0 0 L with
  | some (q, n, mx) => decide (2 ≤ q ∧ n = 0 ∧ mx ≤ 12)
  | none => false
theorem gdr_gl {ks L r : List Nat} {f e : Nat} (h : ks.drop f = L ++ 7 :: r) (he : e = f + L.length) : gdr ks f e = gl L := by
  have n4 : ∀ r', 7 :: r ≠ 4 :: r' := fun r' c => by injection c with c _; cases c
  by_cases hg : gl L = true
  · rw [hg]
    unfold gl at hg
    cases hr : rn false 0 0 0 L with
    | none => rw [hr] at hg; cases hg
    | some z =>
      obtain ⟨q, n, mx⟩ := z
      rw [hr] at hg
      obtain ⟨h1, rfl, h3⟩ := of_decide_eq_true hg
      have := bu_e n4 hr h1
      unfold gdr
      rw [h, this]
      exact decide_eq_true ⟨h3, he.symm⟩
  · have hg' : gl L = false := by
      cases hh : gl L with
      | true => exact absurd hh hg
      | false => rfl
    rw [hg']
    cases hd : gdr ks f e with
    | false => rfl
    | true =>
      exfalso
      apply hg
      unfold gdr at hd
      cases hle : le_ false (ks.drop f) with
      | none => rw [hle] at hd; cases hd
      | some z =>
        obtain ⟨m, dp⟩ := z
        rw [hle] at hd
        obtain ⟨d1, d2⟩ := of_decide_eq_true hd
        obtain ⟨q', hq', -, hrn⟩ := au_e hle (q := 0) (a := 0) (mx := 0) (by omega) (by omega)
        have em : m = L.length := by omega
        rw [h, em, List.take_left] at hrn
        unfold gl
        rw [hrn]
        exact decide_eq_true ⟨by omega, rfl, by omega⟩
theorem oln_run {ks : List Nat} (n f : Nat) : ∀ (S r : List Nat) (t : Nat), ks.drop t = S ++ r → (∀ k ∈ S, k ≠ 7) → oln ks (S.length + n) f t = oln ks n f (t + S.length)
  | [], r, t, _, _ => by simp
  | k :: S, r, t, h, h7 => by
    have hq : ks[t]? = some k := by
      have := congrArg (fun l => l[0]?) h
      simpa using this
    have hd : ks.drop (t + 1) = S ++ r := by
      have := drop_it hq
      rw [h] at this
      injection this with _ h2
      exact h2.symm
    rw [List.length_cons, show S.length + 1 + n = S.length + n + 1 by omega, oln_s, hq, if_neg (fun c => h7 k List.mem_cons_self (Option.some.inj c)), oln_run n f S r (t + 1) hd (fun k' hk' => h7 k' (List.mem_cons_of_mem _ hk'))]
    rw [show t + 1 + S.length = t + (S.length + 1) by omega]
def nsm (z : MIt) : Bool := !(mkd z == 7)
section PP
variable (Zr : List ItC) (tr : List Int32) (ar : Nat) (tl : List Int32)
def pp : Nat → List MIt → List MIt → Nat → Option (List MIt × Nat)
  | 0, N, X, R => some (X ++ N, R)
  | n + 1, N, X, R => match N.dropWhile nsm with
    | [] => some (X ++ N, R)
    | c :: N' => if gl (kdi (N.takeWhile nsm)) = true then (match ps Zr tr ar (fl ((c :: N').map un) tl).length (N.takeWhile nsm) X [] R with
        | some (X2, R2) => pp n N' (X2 ++ [c]) R2
        | none => none) else pp n N' (X ++ N.takeWhile nsm ++ [c]) R
end PP
theorem tri_R {Zr : List ItC} {tr : List Int32} {ar : Nat} {X X2 : List MIt} {f a suf R R2 : Nat} (h : tri Zr tr ar X f a suf R = some (X2, R2)) : R ≤ R2 ∧ R2 ≤ R + 1 := by
  unfold tri at h
  cases hm : mtx Zr tr ar X f with
  | none => rw [hm] at h; cases h; omega
  | some B =>
    rw [hm] at h
    dsimp only at h
    cases hr : rwx Zr ar X f a suf R B with
    | none => rw [hr] at h; cases h
    | some X3 => rw [hr] at h; cases h; omega
theorem ps_R {Zr : List ItC} {tr : List Int32} {ar suf : Nat} : ∀ (S X : List MIt) (st : List Nat) (R : Nat) (X' : List MIt) (R' : Nat), ps Zr tr ar suf S X st R = some (X', R') → R ≤ R' ∧ R' ≤ R + S.length
  | [], X, st, R, X', R', h => by cases h; simp
  | z :: S, X, st, R, X', R', h => by
    rw [List.length_cons]
    unfold ps at h
    split at h
    · have := ps_R S _ _ _ _ _ h
      omega
    · split at h
      · split at h
        · split at h
          · rename_i ht
            have h1 := tri_R ht
            have h2 := ps_R S _ _ _ _ _ h
            omega
          · cases h
        · have := ps_R S _ _ _ _ _ h
          omega
      · split at h
        · split at h
          · rename_i ht
            have h1 := tri_R ht
            have h2 := ps_R S _ _ _ _ _ h
            omega
          · cases h
        · have := ps_R S _ _ _ _ _ h
          omega
theorem tdw (N : List MIt) : N.takeWhile nsm ++ N.dropWhile nsm = N := List.takeWhile_append_dropWhile
theorem pp_R {Zr : List ItC} {tr : List Int32} {ar : Nat} {tl : List Int32} : ∀ (n : Nat) (N X : List MIt) (R : Nat) (X' : List MIt) (R' : Nat), pp Zr tr ar tl n N X R = some (X', R') → R ≤ R' ∧ R' ≤ R + N.length
  | 0, N, X, R, X', R', h => by cases h; omega
  | n + 1, N, X, R, X', R', h => by
    have hN := congrArg List.length (tdw N)
    rw [List.length_append] at hN
    unfold pp at h
    split at h
    · cases h; omega
    · rename_i c N' hd
      rw [hd, List.length_cons] at hN
      split at h
      · split at h
        · rename_i hp
          have h1 := ps_R _ _ _ _ _ _ hp
          have h2 := pp_R n _ _ _ _ _ h
          omega
        · cases h
      · have h2 := pp_R n _ _ _ _ _ h
        omega
section PW
variable {E : XE} {d : Nat} {Q : Int32 → mI → mP → Prop} {P : mP} {oc on o : Nat} {N : List MIt} {tl : List Int32} {mt : Int32} {ex : List (Nat × Nat × Nat)} {Zr : List ItC} {tr : List Int32} {ar : Nat}
theorem l_cp (hC : PC P oc on o) (hWN : WN N) (hNl : (fl (N.map un) tl).length ≤ 120) (hk10 : k10 (kdi N)) (hex : ex.length ≤ 120) (hexb : ∀ q ∈ ex, q.2.1 < 2 ^ 20) {rest : List MIt} {x2 : Int32} {k R : Nat} (hk : k ≤ ex.length) : ∀ (S : List MIt) (t : Nat) (X : List MIt) (I : mI), N.drop t = S ++ rest → (∀ q ∈ ex.drop k, t + S.length ≤ q.2.1) → PL I oc on o N tl mt ex Zr tr ar X R → ftl (X.map un) + (fl ((S ++ rest).map un) tl).length ≤ 120 →
    (∀ I', FrS on o I I' → PL I' oc on o N tl mt ex Zr tr ar (X ++ S) R → ftl ((X ++ S).map un) + (fl (rest.map un) tl).length ≤ 120 → V E (d + 28) m_Program_pass 112 Q 17 [some (.inr 60), some (.inr o), some (.inl x2), some (.inl (nI k)), some (.inl (nI (t + S.length))), none, none] [] 112 I' P) → V E (d + 28) m_Program_pass 112 Q 17 [some (.inr 60), some (.inr o), some (.inl x2), some (.inl (nI k)), some (.inl (nI t)), none, none] [] 112 I P := by
  intro S
  induction S with
  | nil =>
    intro t X I hN hE hL hroom h
    refine h I FrS.rf (by rw [List.append_nil]; exact hL) (by rw [List.append_nil]; exact hroom)
  | cons z S ih =>
    intro t X I hN hE hL hroom h
    have hz : N[t]? = some z := by
      have := congrArg (fun l => l[0]?) hN
      simpa using this
    have htl : t < N.length := (List.getElem?_eq_some_iff.mp hz).1
    have hN1 : N.drop (t + 1) = S ++ rest := by
      have := drop_it hz
      rw [hN] at this
      injection this with _ h2
      exact h2.symm
    have hNn := hWN.len
    have hfN := fl_len (N.map un) tl
    have hsz : (fl ((z :: S ++ rest).map un) tl).length = ftl ([z].map un) + (fl ((S ++ rest).map un) tl).length := by
      rw [fl_len, fl_len]
      have : ftl ((z :: S ++ rest).map un) = ftl ([z].map un) + ftl ((S ++ rest).map un) := by
        rw [← ftl_app, ← List.map_append]
        rfl
      omega
    have hX1 : ftl ((X ++ [z]).map un) = ftl (X.map un) + ftl ([z].map un) := by rw [List.map_append, ftl_app]
    refine v_copy hC hWN hNl hk10 hL hz (by omega) (fun I' f' g1 g2 hL' => ?_)
    refine v_skip hC hL' hex hk hexb (by omega) (fun f l a hq => ?_) ?_
    · have hm : (f, l, a) ∈ ex.drop k := by
        rw [drop_it hq]
        exact List.mem_cons_self
      have := hE _ hm
      rw [List.length_cons] at this
      dsimp only at this
      omega
    · refine ih (t + 1) (X ++ [z]) I' hN1 (fun q hq => ?_) hL' (by omega) (fun I2 f2 hL2 hr2 => ?_)
      · have := hE q hq
        rw [List.length_cons] at this
        omega
      · rw [List.append_assoc] at hL2 hr2
        have := h I2 (f'.tr f2) hL2 hr2
        rw [show t + (z :: S).length = t + 1 + S.length by rw [List.length_cons]; omega] at this
        exact this
theorem oln_ge (ks : List Nat) : ∀ (n f t : Nat), f ≤ t → ∀ q ∈ (oln ks n f t).2, f ≤ q.2.1
  | 0, f, t, _ => fun q hq => by
    unfold oln at hq
    split at hq <;> simp at hq
  | n + 1, f, t, h => fun q hq => by
    rw [oln_s] at hq
    split at hq
    · rcases List.mem_append.mp hq with h' | h'
      · unfold rsx at h'
        split at h'
        · have := scn_ge _ _ _ _ q h'
          omega
        · simp at h'
      · have := oln_ge ks n (t + 1) (t + 1) (Nat.le_refl _) q h'
        omega
    · exact oln_ge ks n f (t + 1) (by omega) q hq
theorem l_pp (hC : PC P oc on o) (hWN : WN N) (hNl : (fl (N.map un) tl).length ≤ 120) (hk10 : k10 (kdi N)) (hG : RG Zr ar) (hex : ex.length ≤ 120) (hexb : ∀ q ∈ ex, q.2.1 < 2 ^ 20) {x2 : Int32} : ∀ (n t k R : Nat) (X : List MIt) (I : mI), N.length - t ≤ n → t ≤ N.length → ex.drop k = (oln (kdi N) (N.length - t) t t).2 → k ≤ ex.length → PL I oc on o N tl mt ex Zr tr ar X R → ftl (X.map un) + (fl ((N.drop t).map un) tl).length ≤ 120 →
    (∀ I' X' R' k', pp Zr tr ar tl n (N.drop t) X R = some (X', R') → FrS on o I I' → PL I' oc on o N tl mt ex Zr tr ar X' R' → ftl (X'.map un) + tl.length ≤ 120 → V E (d + 28) m_Program_pass 112 Q 17 [some (.inr 60), some (.inr o), some (.inl x2), some (.inl k'), some (.inl (nI N.length)), none, none] [] 112 I' P) →
    (∀ I', pp Zr tr ar tl n (N.drop t) X R = none → FrS on o I I' → (∃ mk, RLz I' o Zr tr mk ar) → Q (nI 0) I' P) → V E (d + 28) m_Program_pass 112 Q 17 [some (.inr 60), some (.inr o), some (.inl x2), some (.inl (nI k)), some (.inl (nI t)), none, none] [] 112 I P := by
  intro n
  induction n with
  | zero =>
    intro t k R X I hn ht hE hk hL hroom h1 h0
    have et : t = N.length := by omega
    subst et
    have ed : N.drop N.length = [] := List.drop_length
    rw [ed] at h1 hroom
    refine h1 I X R (nI k) (by show some (X ++ [], R) = _; rw [List.append_nil]) FrS.rf hL hroom
  | succ n ih =>
    intro t k R X I hn ht hE hk hL hroom h1 h0
    have hsp := tdw (N.drop t)
    have hS7 : ∀ k' ∈ kdi ((N.drop t).takeWhile nsm), k' ≠ 7 := fun k' hk' => by
      obtain ⟨y, hy, rfl⟩ := List.mem_map.mp hk'
      have := List.all_takeWhile (p := nsm) (l := N.drop t)
      rw [List.all_eq_true] at this
      have h2 := this y hy
      unfold nsm at h2
      intro c
      rw [c] at h2
      exact absurd h2 (by decide)
    have hppc : pp Zr tr ar tl (n + 1) (N.drop t) X R = (match (N.drop t).dropWhile nsm with
      | [] => some (X ++ N.drop t, R)
      | c :: N' => if gl (kdi ((N.drop t).takeWhile nsm)) = true then (match ps Zr tr ar (fl ((c :: N').map un) tl).length ((N.drop t).takeWhile nsm) X [] R with
          | some (X2, R2) => pp Zr tr ar tl n N' (X2 ++ [c]) R2
          | none => none) else pp Zr tr ar tl n N' (X ++ (N.drop t).takeWhile nsm ++ [c]) R) := rfl
    generalize hSS : (N.drop t).takeWhile nsm = S at *
    cases hD : (N.drop t).dropWhile nsm with
    | nil =>
      rw [hD] at hppc hsp
      rw [List.append_nil] at hsp
      have hlen : N.length - t = S.length := by
        have := congrArg List.length hsp
        rw [List.length_drop] at this
        omega
      have hks : (kdi N).drop t = kdi S ++ [] := by
        rw [List.append_nil, hsp]
        unfold kdi
        rw [List.map_drop]
      have hEx : ex.drop k = [] := by
        rw [hE, hlen]
        have := oln_run (ks := kdi N) 0 t (kdi S) [] t hks hS7
        rw [kdi_len, Nat.add_zero] at this
        rw [this]
        unfold oln
        split <;> rfl
      rw [hppc] at h1
      refine l_cp (rest := []) hC hWN hNl hk10 hex hexb hk S t X I (by rw [List.append_nil]; exact hsp.symm) (fun q hq => by rw [hEx] at hq; simp at hq) hL (by rw [List.append_nil, hsp]; exact hroom) (fun I' f' hL' hr' => ?_)
      rw [show t + S.length = N.length by omega]
      rw [hsp] at hL' hr'
      exact h1 I' _ R (nI k) rfl f' hL' hr'
    | cons c N' =>
      rw [hD] at hppc hsp
      dsimp only at hppc
      have hc7 : mkd c = 7 := by
        have := List.head_dropWhile_not nsm (l := N.drop t) (by rw [hD]; simp)
        simp only [hD, List.head_cons] at this
        unfold nsm at this
        simpa using this
      have hlen : N.length - t = S.length + (1 + N'.length) := by
        have := congrArg List.length hsp
        rw [List.length_append, List.length_cons, List.length_drop] at this
        omega
      have hks : (kdi N).drop t = kdi S ++ 7 :: kdi N' := by
        have : (kdi N).drop t = kdi (N.drop t) := by unfold kdi; rw [List.map_drop]
        rw [this, ← hsp, kdi_app]
        show kdi S ++ mkd c :: kdi N' = _
        rw [hc7]
      have hN1 : N.drop (t + S.length + 1) = N' := by
        have e : N.drop t = (S ++ [c]) ++ N' := by rw [← hsp]; simp
        have := drop_s e
        rw [List.length_append, List.length_singleton] at this
        exact this
      have hq7 : (kdi N)[t + S.length]? = some 7 := by
        have := congrArg (fun l => l[S.length]?) hks
        rw [List.getElem?_drop, List.getElem?_append_right (by rw [kdi_len]; omega), kdi_len, Nat.sub_self] at this
        exact this
      have hE' : ex.drop k = rsx (kdi N) t (t + S.length) ++ (oln (kdi N) N'.length (t + S.length + 1) (t + S.length + 1)).2 := by
        rw [hE, hlen]
        have := oln_run (ks := kdi N) (1 + N'.length) t (kdi S) _ t hks hS7
        rw [kdi_len] at this
        rw [this, show 1 + N'.length = N'.length + 1 by omega, oln_s, if_pos hq7]
      have hge := oln_ge (kdi N) N'.length (t + S.length + 1) (t + S.length + 1) (Nat.le_refl _)
      have hgd : gds (kdi N) t (t + S.length) = gl (kdi S) := by rw [gds_gdr]; exact gdr_gl hks (by rw [kdi_len])
      have hNl' : N'.length = N.length - (t + S.length + 1) := by omega
      -- the semicolon, and on
      have semi : ∀ (I1 : mI) (X1 : List MIt) (R1 k1 : Nat), FrS on o I I1 → ex.drop k1 = (oln (kdi N) N'.length (t + S.length + 1) (t + S.length + 1)).2 → k1 ≤ ex.length → PL I1 oc on o N tl mt ex Zr tr ar X1 R1 → ftl (X1.map un) + (fl ((c :: N').map un) tl).length ≤ 120 → pp Zr tr ar tl (n + 1) (N.drop t) X R = pp Zr tr ar tl n N' (X1 ++ [c]) R1 → V E (d + 28) m_Program_pass 112 Q 17 [some (.inr 60), some (.inr o), some (.inl x2), some (.inl (nI k1)), some (.inl (nI (t + S.length))), none, none] [] 112 I1 P := by
        intro I1 X1 R1 k1 f1 hE1 hk1 hL1 hr1 hpe
        have hd1 : N.drop (t + S.length) = [c] ++ N' := drop_s hsp.symm
        refine l_cp (rest := N') hC hWN hNl hk10 hex hexb hk1 [c] (t + S.length) X1 I1 hd1 (fun q hq => ?_) hL1 hr1 (fun I2 f2 hL2 hr2 => ?_)
        · rw [hE1] at hq
          have := hge q hq
          rw [List.length_singleton]
          omega
        · rw [List.length_singleton]
          rw [← hN1] at hpe hr2
          refine ih (t + S.length + 1) k1 R1 (X1 ++ [c]) I2 (by omega) (by omega) (by rw [hE1, hNl']) hk1 hL2 hr2 (fun I3 X3 R3 k3 e3 f3 => ?_) (fun I3 e3 f3 => ?_)
          · exact h1 I3 X3 R3 k3 (by rw [hpe]; exact e3) ((f1.tr f2).tr f3)
          · exact h0 I3 (by rw [hpe]; exact e3) ((f1.tr f2).tr f3)
      by_cases hgl : gl (kdi S) = true
      · rw [if_pos hgl] at hppc
        have er : rsx (kdi N) t (t + S.length) = (scn S.length (kdi (S ++ c :: N')) t []).1 := by
          unfold rsx
          rw [if_pos (by rw [hgd]; exact hgl), Nat.add_sub_cancel_left, hks, kdi_app]
          show _ = (scn S.length (kdi S ++ mkd c :: kdi N') t []).1
          rw [hc7]
        rw [er] at hE'
        refine l_ps (rest := c :: N') (E2 := (oln (kdi N) N'.length (t + S.length + 1) (t + S.length + 1)).2) hC hWN hNl hk10 hG hex hexb (by show Nat.beq (mkd c) 4 = false; rw [hc7]; rfl) S t k R [] X I hsp.symm hE' hk (fun q hq => by have := hge q hq; omega) (fun p hp => by simp at hp) List.Pairwise.nil (by simp) hL (by rw [hsp]; exact hroom) (fun I1 X1 R1 k1 e1 f1 hE1 hk1 hL1 hr1 => ?_) (fun I1 e1 f1 => ?_)
        · refine semi I1 X1 R1 k1 f1 hE1 hk1 hL1 hr1 ?_
          rw [hppc, show ps Zr tr ar (fl ((c :: N').map un) tl).length S X [] R = some (X1, R1) from e1]
        · refine h0 I1 ?_ f1
          rw [hppc, show ps Zr tr ar (fl ((c :: N').map un) tl).length S X [] R = none from e1]
      · rw [if_neg hgl] at hppc
        have er : rsx (kdi N) t (t + S.length) = [] := by
          unfold rsx
          rw [if_neg (by rw [hgd]; exact hgl)]
        rw [er, List.nil_append] at hE'
        refine l_cp (rest := c :: N') hC hWN hNl hk10 hex hexb hk S t X I hsp.symm (fun q hq => ?_) hL (by rw [hsp]; exact hroom) (fun I1 f1 hL1 hr1 => semi I1 (X ++ S) R k f1 hE' hk hL1 hr1 hppc)
        rw [hE'] at hq
        have := hge q hq
        omega
end PW
