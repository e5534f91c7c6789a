/-! The reference's search for the ends of expressions. -/
theorem ldg_d {hol : Bool} : ∀ (n : Nat) (b : Bool) (l : List Nat) (m dp : Nat), ldg hol n b l = some (m, dp) → dp ≤ m
  | 0, _, _, _, _, h => by cases h
  | n + 1, true, l, m, dp, h => by
    unfold ldg at h
    split at h
    · cases h
      decide
    · rename_i a _
      cases ha : ldg hol n false a with
      | none => rw [ha] at h; cases h
      | some q =>
        obtain ⟨m', dp'⟩ := q
        rw [ha] at h
        cases h
        have := ldg_d n false a m' dp' ha
        show dp' + 1 ≤ m' + 2
        omega
    · cases h
      decide
    · cases h
      decide
    · split at h
      · cases h
        decide
      · cases h
    · cases h
  | n + 1, false, l, m, dp, h => by
    unfold ldg at h
    cases ha : ldg hol n true l with
    | none => rw [ha] at h; cases h
    | some q =>
      obtain ⟨m', dp'⟩ := q
      rw [ha] at h
      dsimp only at h
      have h1 := ldg_d n true l m' dp' ha
      split at h
      · cases h
        omega
      · rename_i r hr
        cases hb : ldg hol n false r with
        | none => rw [hb] at h; cases h
        | some q =>
          obtain ⟨m2, dp2⟩ := q
          rw [hb] at h
          cases h
          have := ldg_d n false r m2 dp2 hb
          show max dp' dp2 ≤ m' + 1 + m2
          omega
      · cases h
theorem le_d {hol : Bool} {l : List Nat} {m dp : Nat} (h : le_ hol l = some (m, dp)) : dp ≤ m := ldg_d _ _ _ _ _ h
theorem la_d {hol : Bool} {l : List Nat} {m dp : Nat} (h : la_ hol l = some (m, dp)) : dp ≤ m := ldg_d _ _ _ _ _ h
def FrG (S : List Nat) (lo hi : Nat) (I I' : mI) : Prop := (∀ m, m ∉ S → I' m = I m) ∧ ∀ m j, (j < lo ∨ hi ≤ j) → I' m j = I m j
theorem FrG.rf {S : List Nat} {lo hi : Nat} {I : mI} : FrG S lo hi I I := ⟨fun _ _ => rfl, fun _ _ _ => rfl⟩
theorem FrG.tr {S : List Nat} {lo hi : Nat} {I I' I'' : mI} (h : FrG S lo hi I I') (h' : FrG S lo hi I' I'') : FrG S lo hi I I'' := ⟨fun m a => (h'.1 m a).trans (h.1 m a), fun m j hj => (h'.2 m j hj).trans (h.2 m j hj)⟩
theorem uI_at {I : mI} {a k m j : Nat} {v : Int32} (h : m ≠ a ∨ j ≠ k) : uI I a k v m j = I m j := by
  by_cases hm : m = a
  · subst hm
    rcases h with h | h
    · exact absurd rfl h
    · exact uI_o h
  · rw [uI_n hm]
theorem FrG.u {S : List Nat} {lo hi : Nat} {I I' : mI} {a k : Nat} {v : Int32} (h : FrG S lo hi I I') (ha : a ∈ S) (h1 : lo ≤ k) (h2 : k < hi) : FrG S lo hi I (uI I' a k v) := by
  refine ⟨fun m hm => ?_, fun m j hj => ?_⟩
  · rw [uI_n (fun e => hm (by rw [e]; exact ha))]
    exact h.1 m hm
  · rw [uI_at (Or.inr (by omega))]
    exact h.2 m j hj
def MS (I : mI) (base : Nat) (ks : List Nat) : Prop := ∀ (t k : Nat), ks[t]? = some k → I 99 (base + t) = nI (rc k)
def LDR (hol : Bool) (I : mI) (base : Nat) (ks : List Nat) (i : Nat) : Prop := match le_ hol (ks.drop i) with
  | some (m, dp) => I 102 (base + i) = nI (i + m - 1) ∧ I 103 (base + i) = nI dp
  | none => I 102 (base + i) = -(nI 1)
theorem LDR.s {hol : Bool} {I : mI} {base i m dp : Nat} {ks : List Nat} (h : LDR hol I base ks i) (e : le_ hol (ks.drop i) = some (m, dp)) : I 102 (base + i) = nI (i + m - 1) ∧ I 103 (base + i) = nI dp := by
  unfold LDR at h
  rw [e] at h
  exact h
theorem LDR.n {hol : Bool} {I : mI} {base i : Nat} {ks : List Nat} (h : LDR hol I base ks i) (e : le_ hol (ks.drop i) = none) : I 102 (base + i) = -(nI 1) := by
  unfold LDR at h
  rw [e] at h
  exact h
theorem LDR.mk {hol : Bool} {I : mI} {base i m dp : Nat} {ks : List Nat} (e : le_ hol (ks.drop i) = some (m, dp)) (h1 : I 102 (base + i) = nI (i + m - 1)) (h2 : I 103 (base + i) = nI dp) : LDR hol I base ks i := by
  unfold LDR
  rw [e]
  exact ⟨h1, h2⟩
theorem LDR.mn {hol : Bool} {I : mI} {base i : Nat} {ks : List Nat} (e : le_ hol (ks.drop i) = none) (h1 : I 102 (base + i) = -(nI 1)) : LDR hol I base ks i := by
  unfold LDR
  rw [e]
  exact h1
theorem LDR.kept {hol : Bool} {I I' : mI} {base i : Nat} {ks : List Nat} (h : LDR hol I base ks i) (e2 : I' 102 (base + i) = I 102 (base + i)) (e3 : I' 103 (base + i) = I 103 (base + i)) : LDR hol I' base ks i := by
  unfold LDR at h ⊢
  rw [e2, e3]
  exact h
def s2 (I : mI) (p : Nat) (a b : Int32) : mI := uI (uI I 102 p a) 103 p b
theorem rc_5 {k : Nat} (hk : k < 10) : nI (rc k) = nI 41 ↔ k = 5 := by
  have hk' : k = 0 ∨ k = 1 ∨ k = 2 ∨ k = 3 ∨ k = 4 ∨ k = 5 ∨ k = 6 ∨ k = 7 ∨ k = 8 ∨ k = 9 := by omega
  rcases hk' with rfl | rfl | rfl | rfl | rfl | rfl | rfl | rfl | rfl | rfl <;> decide
theorem rc_6 {k : Nat} (hk : k < 10) : nI (rc k) = nI 44 ↔ k = 6 := by
  have hk' : k = 0 ∨ k = 1 ∨ k = 2 ∨ k = 3 ∨ k = 4 ∨ k = 5 ∨ k = 6 ∨ k = 7 ∨ k = 8 ∨ k = 9 := by omega
  rcases hk' with rfl | rfl | rfl | rfl | rfl | rfl | rfl | rfl | rfl | rfl <;> decide
theorem rc_4 {k : Nat} (hk : k < 10) : nI (rc k) = nI 40 ↔ k = 4 := by
  have hk' : k = 0 ∨ k = 1 ∨ k = 2 ∨ k = 3 ∨ k = 4 ∨ k = 5 ∨ k = 6 ∨ k = 7 ∨ k = 8 ∨ k = 9 := by omega
  rcases hk' with rfl | rfl | rfl | rfl | rfl | rfl | rfl | rfl | rfl | rfl <;> decide
theorem rc_7 {k : Nat} (hk : k < 10) : nI (rc k) = nI 59 ↔ k = 7 := by
  have hk' : k = 0 ∨ k = 1 ∨ k = 2 ∨ k = 3 ∨ k = 4 ∨ k = 5 ∨ k = 6 ∨ k = 7 ∨ k = 8 ∨ k = 9 := by omega
  rcases hk' with rfl | rfl | rfl | rfl | rfl | rfl | rfl | rfl | rfl | rfl <;> decide
theorem rc_8 {k : Nat} (hk : k < 10) : nI (rc k) = nI 62 ↔ k = 8 := by
  have hk' : k = 0 ∨ k = 1 ∨ k = 2 ∨ k = 3 ∨ k = 4 ∨ k = 5 ∨ k = 6 ∨ k = 7 ∨ k = 8 ∨ k = 9 := by omega
  rcases hk' with rfl | rfl | rfl | rfl | rfl | rfl | rfl | rfl | rfl | rfl <;> decide
section CA
variable {E : XE} {d : Nat} {Q : Int32 → mI → mP → Prop} {I : mI} {P : mP} {hol : Bool} {base : Nat} {ks : List Nat}
theorem l_called (hM : MO P) (hb : base + ks.length ≤ 192) (hk : k10 ks) (hS : MS I base ks) {i : Nat} (hi : i < ks.length) : ∀ (m j D : Nat), ks.length - j ≤ m → j < ks.length → D ≤ 192 → (∀ t, j ≤ t → t < ks.length → LDR hol I base ks t) →
    (∀ a b, la_ hol (ks.drop j) = some (a, b) → Q (nI 0) (s2 I (base + i) (nI (j + a - 1)) (nI (max D b + 1))) P) → (la_ hol (ks.drop j) = none → Q (nI 0) I P) →
    V E d m_Model_called 112 Q 60 [some (.inr 95), some (.inl (nI base)), some (.inl (nI ks.length)), some (.inl (nI i)), some (.inl (nI j)), some (.inl (nI D)), some (.inl (nI 1)), none] [] 112 I P := by
  obtain ⟨-, -, -, p9, -, -, p12, p13, -⟩ := hM
  have stop : ∀ (I : mI) (j D : Nat), Q (nI 0) I P → V E d m_Model_called 112 Q 194 [some (.inr 95), some (.inl (nI base)), some (.inl (nI ks.length)), some (.inl (nI i)), some (.inl (nI j)), some (.inl (nI D)), some (.inl (nI 0)), none] [] 112 I P := fun I j D h =>
    x_Model_called_194 _ _ _ _ _ _ _ (x_Model_called_60 _ _ _ _ _ _ _ ⟨fun _ => h, fun a => absurd rfl a⟩)
  intro m
  induction m with
  | zero => intro j D hm hj; omega
  | succ m ih =>
    intro j D hm hj hD hL h1 h2
    refine x_Model_called_60 _ _ _ _ _ _ _ ⟨fun a => absurd a (by decide), fun _ => ?_⟩
    simp only [k95, p12, k102, p13, k103, nzl 102 (by decide), nzl 103 (by decide), true_and]
    have hin : vp_in (nI base + nI j) 192 := by rw [nI_add]; exact vp_in_nI (by omega) (by omega)
    have hcl : (nI base + nI j).toNatClampNeg = base + j := by rw [nI_add]; exact clp (by omega)
    rw [hcl]
    refine ⟨hin, ?_⟩
    have hLj := hL j (Nat.le_refl _) hj
    cases hle : le_ hol (ks.drop j) with
    | none =>
      rw [hLj.n hle]
      exact ⟨fun a => absurd a (by decide), fun _ => h2 (la_n hle)⟩
    | some q =>
      obtain ⟨mm, dp⟩ := q
      obtain ⟨e1, e2⟩ := hLj.s hle
      have hbb := le_b hle
      rw [List.length_drop] at hbb
      have hdp : dp ≤ 192 := by
        have := le_d hle
        omega
      rw [e1, e2]
      refine ⟨fun _ => ⟨hin, ?_⟩, fun a => absurd (nI_pos' (by omega)) a⟩
      -- the same goes on from 108 with the greater depth
      have go : ∀ D', D' = max D dp → V E d m_Model_called 112 Q 108 [some (.inr 95), some (.inl (nI base)), some (.inl (nI ks.length)), some (.inl (nI i)), some (.inl (nI j)), some (.inl (nI D')), none, none] [] 112 I P := by
        intro D' hD'
        refine x_Model_called_108 _ _ _ _ _ _ ?_
        simp only [k95, p12, k102, p9, k99, nzl 102 (by decide), nzl 99 (by decide), true_and]
        rw [hcl, e1, show nI (j + mm - 1) + nI 1 = nI (j + mm) from by rw [n1]; congr 1; omega]
        refine ⟨hin, ?_⟩
        have drp : (ks.drop j).drop mm = ks.drop (j + mm) := by rw [List.drop_drop]
        refine pk_le ks.length (j + mm) (fun g => ?_) (fun g => ?_)
        · have hn : la_ hol (ks.drop j) = none := la_o hle (fun r e => by rw [drp, List.drop_eq_nil_of_le g] at e; cases e) (fun r e => by rw [drp, List.drop_eq_nil_of_le g] at e; cases e)
          exact x_Model_called_142 _ _ _ _ _ _ _ ⟨fun _ => x_Model_called_171 _ _ _ _ _ _ _ ⟨fun _ => by rw [n1]; exact stop _ _ _ (h2 hn), fun a => absurd a (by decide)⟩, fun a => absurd a (by decide)⟩
        · have hg := List.getElem?_eq_getElem g
          have hk0 := hk _ (List.mem_of_getElem? hg)
          have hin2 : vp_in (nI base + nI (j + mm)) 192 := by rw [nI_add]; exact vp_in_nI (by omega) (by omega)
          refine ⟨hin2, ?_⟩
          rw [nI_add base (j + mm), clp (by omega), hS (j + mm) _ hg]
          generalize hkk : ks[j + mm] = k0 at hg hk0
          refine x_Model_called_142 _ _ _ _ _ _ _ ?_
          simp only [k95, p12, k102, p13, k103, nzl 102 (by decide), nzl 103 (by decide), true_and, rc_5 hk0]
          have hin3 : vp_in (nI base + nI i) 192 := by rw [nI_add]; exact vp_in_nI (by omega) (by omega)
          refine ⟨fun c5 => ?_, fun c5 => ⟨hin3, hin3, ?_⟩⟩
          · refine x_Model_called_171 _ _ _ _ _ _ _ ?_
            simp only [rc_6 hk0]
            rw [n1]
            refine ⟨fun c6 => stop _ _ _ (h2 (la_o hle (fun r e => ?_) (fun r e => ?_))), fun c6 => ?_⟩
            · rw [drp, drop_k hg] at e
              injection e with e _
              exact c5 e
            · rw [drp, drop_k hg] at e
              injection e with e _
              exact c6 e
            · subst c6
              have hla : la_ hol (ks.drop j) = (la_ hol (ks.drop (j + mm + 1))).map (fun q => (mm + 1 + q.1, max dp q.2)) := la_6 hle (by rw [drp, drop_k hg])
              refine pk_le ks.length (j + mm + 1) (fun g2 => stop _ _ _ (h2 ?_)) (fun g2 => x_Model_called_194 _ _ _ _ _ _ _ ?_)
              · rw [hla, List.drop_eq_nil_of_le g2, la_nil]
                rfl
              · refine ih (j + mm + 1) D' (by omega) g2 (by omega) (fun t h3 h4 => hL t (by omega) h4) (fun a b hab => ?_) (fun hab => h2 ?_)
                · have := h1 (mm + 1 + a) (max dp b) (by rw [hla, hab]; rfl)
                  rw [show j + mm + 1 + a - 1 = j + (mm + 1 + a) - 1 by omega, show max D' b = max D (max dp b) by omega]
                  exact this
                · rw [hla, hab]
                  rfl
          · subst c5
            have hla := la_5 hle (by rw [drp, drop_k hg])
            rw [nI_add base i, clp (by omega), n1]
            refine x_Model_called_171 _ _ _ _ _ _ _ ⟨fun _ => ?_, fun a => absurd a (by decide)⟩
            rw [n1]
            refine stop _ _ _ ?_
            have := h1 (mm + 1) dp hla
            rw [show j + (mm + 1) - 1 = j + mm by omega, ← hD'] at this
            exact this
      refine pk_le dp D (fun g => go D (by omega)) (fun g => ⟨hin, go dp (by omega)⟩)
end CA
