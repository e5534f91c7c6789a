/-! The reference's pass is the class's; so are cycles and runs. -/
theorem nI_ne1 {n : Nat} (h : n < 2 ^ 31) : nI n ≠ -(nI 1) := fun c => by
  have := congrArg Int32.toInt c
  rw [nI_t h] at this
  have e : (-(nI 1)).toInt = -1 := by decide
  omega
section RP
variable {tl : List Int32} {c : MIt} {C : List MIt} {Z : List ItC} {tr : List Int32} {ar : Nat}
theorem l_rps (hc : mkd c = 7) {Xp : List MIt} (hXp : clz Xp) (hLZ : LX Z tr) (hG : RG Z ar) : ∀ (S X' : List MIt) (st : List Nat) (p R n : Nat), IVS tl Xp c C X' S st p → S.length ≤ n → R + S.length < 2 ^ 31 →
    (ps Z tr ar (fl ((c :: C).map un) tl).length S (Xp ++ X') st R = none → rpl Z tr ar tl n (Xp ++ (X' ++ (S ++ c :: C))) p R = none) ∧
    ∀ X2 R2, ps Z tr ar (fl ((c :: C).map un) tl).length S (Xp ++ X') st R = some (X2, R2) → ∃ X2' p2 st2 n2, X2 = Xp ++ X2' ∧ n ≤ n2 + S.length ∧ rpl Z tr ar tl n (Xp ++ (X' ++ (S ++ c :: C))) p R = rpl Z tr ar tl n2 (Xp ++ (X2' ++ ([] ++ c :: C))) p2 R2 ∧ IVS tl Xp c C X2' [] st2 p2 := by
  intro S
  induction S with
  | nil =>
    intro X' st p R n h hn hRb
    refine ⟨fun q => (by cases q), fun X2 R2 q => ?_⟩
    have q : some (Xp ++ X', R) = some (X2, R2) := q
    injection q with q
    injection q with e1 e2
    subst e1; subst e2
    exact ⟨X', p, st, n, rfl, by simp, rfl, h⟩
  | cons z S ih =>
    intro X' st p R n h hn hRb
    rw [List.length_cons] at hn hRb
    rw [ps_sst]
    have hl : (Xp ++ X').length = Xp.length + X'.length := List.length_append
    rw [hl]
    cases hst : sst (mkd z) (hd4 (kdi S)) (Xp.length + X'.length) st with
    | mk es s' =>
      rcases sst_cs hst with ⟨rfl, -⟩ | ⟨f, rfl, -⟩
      · dsimp only
        have hp1 : p < ten (psn 0 ((Xp ++ (X' ++ (z :: S ++ c :: C))).map un)) (Xp.length + X'.length + 1) := by
          have := h.2.2.2.2.2.1
          have := tenm h.1 (show Xp.length + X'.length < Xp.length + X'.length + 1 by omega) (by simp only [List.length_append, List.length_cons]; omega)
          omega
        have h' := h.copy hc hst (Nat.le_refl p) (fun q hq => by simp at hq) hp1
        obtain ⟨i1, i2⟩ := ih (X' ++ [z]) s' p R n h' (by omega) (by omega)
        rw [← List.append_assoc] at i1 i2
        rw [app_zs]
        refine ⟨i1, fun X2 R2 q => ?_⟩
        obtain ⟨X2', p2, st2, n2, e1, e2, e3, e4⟩ := i2 X2 R2 q
        exact ⟨X2', p2, st2, n2, e1, by rw [List.length_cons]; omega, e3, e4⟩
      · dsimp only
        obtain ⟨n', rfl⟩ : ∃ n', n = n' + 1 := ⟨n - 1, by omega⟩
        obtain ⟨g0, g1⟩ := ent_step (R := R) (n := n') hc hXp hLZ hG (nI_ne1 (by omega)) h hst
        cases htr : tri Z tr ar ((Xp ++ X') ++ [z]) f s'.length (ftl (S.map un) + (fl ((c :: C).map un) tl).length) R with
        | none =>
          dsimp only
          exact ⟨fun _ => g0 htr, fun X2 R2 q => (by cases q)⟩
        | some v =>
          obtain ⟨X1, R1⟩ := v
          dsimp only
          obtain ⟨X1', p1, e1, e2, e3⟩ := g1 X1 R1 htr
          subst e1
          have hR1 := tri_R htr
          obtain ⟨i1, i2⟩ := ih X1' s' p1 R1 n' e3 (by omega) (by omega)
          rw [e2]
          refine ⟨i1, fun X2 R2 q => ?_⟩
          obtain ⟨X2', p2, st2, n2, w1, w2, w3, w4⟩ := i2 X2 R2 q
          exact ⟨X2', p2, st2, n2, w1, by rw [List.length_cons]; omega, w3, w4⟩
/-- between statements -/
def IVP (tl : List Int32) (X N : List MIt) (p : Nat) : Prop := clz X ∧ LX ((X ++ N).map un) tl ∧ (∃ Ed, (outl (kdi (X ++ N))).2 = Ed ++ (oln (kdi (X ++ N)) N.length X.length X.length).2 ∧ ∀ q ∈ Ed, ten (psn 0 ((X ++ N).map un)) q.2.1 ≤ p) ∧ (0 < N.length → p < ten (psn 0 ((X ++ N).map un)) X.length) ∧ ums [] (X ++ N)
theorem rpl_end {M : List MIt} {p R : Nat} (n : Nat) (h : nxb (psn 0 (M.map un)) (outl (kdi M)).2 p = none) : rpl Z tr ar tl n M p R = some (M, R) := by
  cases n with
  | zero => rfl
  | succ n => rw [rpl_s, h]
theorem l_rpp (hLZ : LX Z tr) (hG : RG Z ar) : ∀ (n : Nat) (N X : List MIt) (p R nf : Nat), N.length ≤ n → N.length ≤ nf → R + N.length < 2 ^ 31 → IVP tl X N p → rpl Z tr ar tl nf (X ++ N) p R = pp Z tr ar tl n N X R ∧ ∀ X2 R2, pp Z tr ar tl n N X R = some (X2, R2) → LX (X2.map un) tl ∧ ums [] X2 := by
  intro n
  induction n with
  | zero =>
    intro N X p R nf hn hnf hRb h
    have : N = [] := List.length_eq_zero_iff.mp (by omega)
    subst this
    obtain ⟨hcl, hLX, ⟨Ed, hE, hEd⟩, -, hU⟩ := h
    have e0 : (oln (kdi (X ++ [])) ([] : List MIt).length X.length X.length).2 = [] := by
      show (oln _ 0 _ _).2 = []
      unfold oln
      rw [if_neg (by omega)]
    rw [e0] at hE
    have hnx := nxb_sp hLX hE hEd (fun q hq => by simp at hq)
    refine ⟨rpl_end nf hnx, fun X2 R2 q => ?_⟩
    have q : some (X ++ [], R) = some (X2, R2) := q
    cases q
    exact ⟨hLX, hU⟩
  | succ n ih =>
    intro N X p R nf hn hnf hRb h
    obtain ⟨hcl, hLX, ⟨Ed, hE, hEd⟩, hp, hU⟩ := h
    have hsp := tdw N
    have hppc : pp Z tr ar tl (n + 1) N X R = (match N.dropWhile nsm with
      | [] => some (X ++ N, R)
      | c :: N' => if gl (kdi (N.takeWhile nsm)) = true then (match ps Z tr ar (fl ((c :: N').map un) tl).length (N.takeWhile nsm) X [] R with
          | some (X2, R2) => pp Z tr ar tl n N' (X2 ++ [c]) R2
          | none => none) else pp Z tr ar tl n N' (X ++ N.takeWhile nsm ++ [c]) R) := rfl
    have hS7 : ∀ k' ∈ kdi (N.takeWhile nsm), k' ≠ 7 := fun k' hk' => by
      obtain ⟨y, hy, rfl⟩ := List.mem_map.mp hk'
      have := List.all_takeWhile (p := nsm) (l := N)
      rw [List.all_eq_true] at this
      have h2 := this y hy
      unfold nsm at h2
      intro c
      rw [c] at h2
      exact absurd h2 (by decide)
    generalize hSS : N.takeWhile nsm = S at *
    cases hD : N.dropWhile nsm with
    | nil =>
      rw [hD] at hppc hsp
      rw [List.append_nil] at hsp
      subst hsp
      dsimp only at hppc
      have hdrop : (kdi (X ++ S)).drop X.length = kdi S ++ [] := by
        rw [kdi_app, ← kdi_len X, List.drop_left, List.append_nil]
      have e0 : (oln (kdi (X ++ S)) S.length X.length X.length).2 = [] := by
        have := oln_run (ks := kdi (X ++ S)) 0 X.length (kdi S) [] X.length hdrop hS7
        rw [kdi_len, Nat.add_zero] at this
        rw [this]
        unfold oln
        split <;> rfl
      rw [e0] at hE
      have hnx := nxb_sp hLX hE hEd (fun q hq => by simp at hq)
      rw [hppc]
      refine ⟨rpl_end nf hnx, fun X2 R2 q => ?_⟩
      cases q
      exact ⟨hLX, hU⟩
    | cons c N' =>
      rw [hD] at hppc hsp
      dsimp only at hppc
      have hc7 : mkd c = 7 := by
        have := List.head_dropWhile_not nsm (l := N) (by rw [hD]; simp)
        simp only [hD, List.head_cons] at this
        unfold nsm at this
        simpa using this
      subst hsp
      have hlen : (S ++ c :: N').length = S.length + 1 + N'.length := by rw [List.length_append, List.length_cons]; omega
      have hol := oln_dec (A := X) (G := S) (c := c) (C := N') hc7 hS7
      rw [hlen, hol] at hE
      rw [hlen] at hn hnf hp hRb
      -- behind the semicolon
      have nxt : ∀ (X1 : List MIt) (p1 : Nat) (E1 : List (Nat × Nat × Nat)), LX ((X1 ++ c :: N').map un) tl → (outl (kdi (X1 ++ c :: N'))).2 = E1 ++ (oln (kdi (X1 ++ c :: N')) N'.length (X1.length + 1) (X1.length + 1)).2 → (∀ q ∈ E1, ten (psn 0 ((X1 ++ c :: N').map un)) q.2.1 ≤ p1) → p1 < ten (psn 0 ((X1 ++ c :: N').map un)) X1.length → ums [] (X1 ++ c :: N') → IVP tl (X1 ++ [c]) N' p1 := by
        intro X1 p1 E1 g1 g2 g3 g4 g5
        have e : (X1 ++ [c]) ++ N' = X1 ++ c :: N' := by simp
        have el : (X1 ++ [c]).length = X1.length + 1 := by rw [List.length_append, List.length_singleton]
        refine ⟨clz.snoc hc7, by rw [e]; exact g1, ⟨E1, by rw [e, el]; exact g2, by rw [e]; exact g3⟩, fun h0 => ?_, by rw [e]; exact g5⟩
        rw [e, el]
        have := tenm g1 (show X1.length < X1.length + 1 by omega) (by simp only [List.length_append, List.length_cons]; omega)
        omega
      by_cases hgl : gl (kdi S) = true
      · rw [if_pos hgl] at hppc hE
        have hI : IVS tl X c N' [] S [] p := by
          refine ⟨hLX, hgl, ⟨Ed, ?_, hEd⟩, rfl, (fun st1 f st2 e => by cases st1 <;> cases e), ?_, hU⟩
          · show (outl (kdi (X ++ (S ++ c :: N')))).2 = _
            rw [hE]
            simp only [List.length_nil, Nat.add_zero, List.nil_append]
          · have := hp (by omega)
            simpa using this
        obtain ⟨i1, i2⟩ := l_rps hc7 hcl hLZ hG S [] [] p R nf hI (by omega) (by omega)
        rw [List.nil_append] at i1 i2
        rw [hppc]
        rw [List.append_nil] at i1 i2
        cases hps : ps Z tr ar (fl ((c :: N').map un) tl).length S X [] R with
        | none =>
          dsimp only
          exact ⟨i1 hps, fun X2 R2 q => (by cases q)⟩
        | some v =>
          obtain ⟨X2, R2⟩ := v
          dsimp only
          obtain ⟨X2', p2, st2, n2, w1, w2, w3, w4⟩ := i2 X2 R2 hps
          subst w1
          rw [w3, List.nil_append]
          obtain ⟨g1, g2, ⟨E2, g3, g4⟩, g5, g6, g7, g8⟩ := w4
          rw [List.nil_append] at g1 g3 g4 g7 g8
          have e' : X ++ (X2' ++ c :: N') = (X ++ X2') ++ c :: N' := by simp
          rw [e'] at g1 g3 g4 g7 g8 ⊢
          have hRps := ps_R _ _ _ _ _ _ hps
          have el : X.length + X2'.length = (X ++ X2').length := List.length_append.symm
          have hiv : IVP tl ((X ++ X2') ++ [c]) N' p2 := by
            refine nxt (X ++ X2') p2 E2 g1 ?_ g4 (by rw [← el]; exact g7) g8
            rw [g3, ← el]
            simp only [List.length_nil, Nat.add_zero]
            rfl
          have := ih N' ((X ++ X2') ++ [c]) p2 R2 n2 (by omega) (by omega) (by omega) hiv
          have e2 : (X ++ X2') ++ [c] ++ N' = (X ++ X2') ++ c :: N' := by simp
          rw [e2] at this
          exact this
      · rw [if_neg hgl] at hppc hE
        rw [List.nil_append] at hE
        have e' : X ++ (S ++ c :: N') = (X ++ S) ++ c :: N' := by simp
        rw [e'] at hLX hE hEd hp hU ⊢
        have el : X.length + S.length = (X ++ S).length := List.length_append.symm
        have hiv : IVP tl ((X ++ S) ++ [c]) N' p := by
          refine nxt (X ++ S) p Ed hLX (by rw [hE, el]) hEd ?_ hU
          have h1 := hp (by omega)
          by_cases c0 : S.length = 0
          · rw [← el, c0]
            exact h1
          · have := tenm hLX (show X.length < (X ++ S).length by rw [List.length_append]; omega) (by simp only [List.length_append, List.length_cons]; omega)
            omega
        have := ih N' ((X ++ S) ++ [c]) p R nf (by omega) (by omega) (by omega) hiv
        have e2 : (X ++ S) ++ [c] ++ N' = (X ++ S) ++ c :: N' := by simp
        rw [e2] at this
        rw [hppc]
        exact this
theorem rpl_pp (hLZ : LX Z tr) (hG : RG Z ar) {N : List MIt} (hLX : LX (N.map un) tl) (hl : N.length ≤ 1000) (hU : ums [] N) (R : Nat) (hRb : R + N.length < 2 ^ 31) : rpl Z tr ar tl 1000 N 0 R = pp Z tr ar tl N.length N [] R ∧ ∀ X2 R2, pp Z tr ar tl N.length N [] R = some (X2, R2) → LX (X2.map un) tl ∧ ums [] X2 := by
  have := l_rpp (tl := tl) hLZ hG N.length N [] 0 R 1000 (Nat.le_refl _) hl hRb ⟨clz.nil, hLX, ⟨[], ?_, (fun q hq => by simp at hq)⟩, (fun h0 => ?_), hU⟩
  · exact this
  · show (outl (kdi N)).2 = _
    unfold outl
    rw [kdi_len]
    rfl
  · show 0 < ten (psn 0 (N.map un)) 0
    rw [ten_psn (by rw [List.length_map]; exact h0)]
    cases N with
    | nil => simp at h0
    | cons z N =>
      obtain ⟨sp, m, k, w, m'⟩ := z
      have hw := LX_w _ _ hLX (sp, k, w) (by rw [List.map_cons]; exact List.mem_cons_self)
      have : 0 < w.length := List.length_pos_iff.mpr hw
      show 0 < ftl ((((sp, k, w) : ItC) :: N.map un).take 1)
      rw [List.take_succ_cons, ftl_c]
      omega
end RP
