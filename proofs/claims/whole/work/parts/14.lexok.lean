/-! Every text reads into a valid list of tokens. -/
def cst : Bool → List Int32 → Option Bool
  | b, [] => some b
  | false, c :: r => if isSp c = true then cst false r else if c = nI 35 then cst true r else none
  | true, c :: r => if c = nI 10 then cst false r else cst true r
theorem cst_clo : ∀ (l : List Int32) (b : Bool), clo b l = true ↔ cst b l = some false
  | [], b => by cases b <;> simp [clo, cst]
  | c :: r, false => by
    unfold clo cst
    split
    · exact cst_clo r false
    · split
      · exact cst_clo r true
      · simp
  | c :: r, true => by
    unfold clo cst
    split
    · exact cst_clo r false
    · exact cst_clo r true
theorem cst_tlo : ∀ (l : List Int32) (b : Bool), tlo b l = true ↔ ∃ b', cst b l = some b'
  | [], b => by cases b <;> simp [tlo, cst]
  | c :: r, false => by
    unfold tlo cst
    split
    · exact cst_tlo r false
    · split
      · exact cst_tlo r true
      · simp
  | c :: r, true => by
    unfold tlo cst
    split
    · exact cst_tlo r false
    · exact cst_tlo r true
theorem cst_app : ∀ (l m : List Int32) (b b' : Bool), cst b l = some b' → cst b (l ++ m) = cst b' m
  | [], m, b, b', h => by
    cases h
    rfl
  | c :: r, m, false, b', h => by
    show cst false (c :: (r ++ m)) = _
    have i1 := cst_app r m false b'
    have i2 := cst_app r m true b'
    generalize cst b' m = X at i1 i2 ⊢
    unfold cst at h ⊢
    split at h
    · rw [if_pos (by assumption)]
      exact i1 h
    · rw [if_neg (by assumption)]
      split at h
      · rw [if_pos (by assumption)]
        exact i2 h
      · cases h
  | c :: r, m, true, b', h => by
    show cst true (c :: (r ++ m)) = _
    have i1 := cst_app r m false b'
    have i2 := cst_app r m true b'
    generalize cst b' m = X at i1 i2 ⊢
    unfold cst at h ⊢
    split at h
    · rw [if_pos (by assumption)]
      exact i1 h
    · rw [if_neg (by assumption)]
      exact i2 h
theorem tkN_le (c : Int32) (r : List Int32) : tkN (tkK c r) r ≤ r.length := by
  unfold tkN
  split
  · rename_i h
    unfold tkK at h
    cases r with
    | nil =>
      dsimp only at h
      repeat' (split at h)
      all_goals (first | omega | cases h)
    | cons x r => simp
  · split
    · exact tw_le _ _
    · exact Nat.zero_le _
theorem cm_all : ∀ (r : List Int32), cst true (r.take (cmL r)) = some true
  | [] => rfl
  | c :: r => by
    by_cases hc : c = nI 10
    · have : cmL (c :: r) = 0 := by unfold cmL tw; rw [hc]; rfl
      rw [this]
      rfl
    · have : cmL (c :: r) = cmL r + 1 := by
        unfold cmL
        show (if (!(c == nI 10)) = true then _ else _) = _
        rw [if_pos (by simpa using hc)]
      rw [this, List.take_succ_cons]
      unfold cst
      rw [if_neg hc]
      exact cm_all r
theorem cm_stop : ∀ (r : List Int32), r.drop (cmL r) = [] ∨ ∃ r', r.drop (cmL r) = nI 10 :: r'
  | [] => Or.inl rfl
  | c :: r => by
    by_cases hc : c = nI 10
    · have : cmL (c :: r) = 0 := by unfold cmL tw; rw [hc]; rfl
      rw [this, hc]
      exact Or.inr ⟨r, rfl⟩
    · have : cmL (c :: r) = cmL r + 1 := by
        unfold cmL
        show (if (!(c == nI 10)) = true then _ else _) = _
        rw [if_pos (by simpa using hc)]
      rw [this, List.drop_succ_cons]
      exact cm_stop r
theorem lx_ok : ∀ (n : Nat) (s acc : List Int32) (b : Bool), s.length ≤ n → cst false acc = some b → (b = true → s = [] ∨ ∃ r, s = nI 10 :: r) → LX (lx n s acc).1 (lx n s acc).2 ∧ fl (lx n s acc).1 (lx n s acc).2 = acc ++ s
  | n, [], acc, b, _, hb, _ => by
    rw [lx_nil]
    exact ⟨(cst_tlo acc false).mpr ⟨b, hb⟩, by simp [fl]⟩
  | 0, c :: r, _, _, h, _, _ => by simp at h
  | n + 1, c :: r, acc, b, hn, hb, hs => by
    have hn' : r.length ≤ n := by simpa using hn
    have hd : ∀ k, (r.drop k).length ≤ n := fun k => by rw [List.length_drop]; omega
    rw [lx_cons]
    have e35 : isSp (nI 35) = false := by decide
    have e10 : isSp (nI 10) = true := by decide
    by_cases h1 : isSp c = true
    · rw [if_pos h1]
      have hc : cst false (acc ++ [c]) = some false := by
        rw [cst_app acc [c] false b hb]
        cases b with
        | false => unfold cst; rw [if_pos h1]; rfl
        | true =>
          rcases hs rfl with h | ⟨r', h⟩
          · cases h
          · cases h
            rfl
      obtain ⟨g1, g2⟩ := lx_ok n r (acc ++ [c]) false hn' hc (fun h => by cases h)
      exact ⟨g1, by rw [g2]; simp⟩
    · rw [if_neg h1]
      have hb0 : b = false := by
        cases b with
        | false => rfl
        | true =>
          rcases hs rfl with h | ⟨r', h⟩
          · cases h
          · cases h
            exact absurd e10 h1
      subst hb0
      by_cases h2 : c = nI 35
      · rw [if_pos h2]
        have hc : cst false (acc ++ c :: r.take (cmL r)) = some true := by
          rw [cst_app acc _ false false hb]
          unfold cst
          rw [if_neg h1, if_pos h2]
          exact cm_all r
        obtain ⟨g1, g2⟩ := lx_ok n (r.drop (cmL r)) _ true (hd _) hc (fun _ => cm_stop r)
        exact ⟨g1, by rw [g2]; simp⟩
      · rw [if_neg h2]
        obtain ⟨g1, g2⟩ := lx_ok n (r.drop (tkN (tkK c r) r)) [] false (hd _) rfl (fun h => by cases h)
        have g2' : fl (lx n (r.drop (tkN (tkK c r) r)) []).1 (lx n (r.drop (tkN (tkK c r) r)) []).2 = r.drop (tkN (tkK c r) r) := by rw [g2]; rfl
        refine ⟨⟨(cst_clo acc false).mpr hb, ⟨c, r.take (tkN (tkK c r) r), rfl, by simpa using h1, h2, ?_, ?_⟩, g1⟩, ?_⟩
        · dsimp only
          rw [g2', List.take_append_drop]
        · dsimp only
          rw [g2', List.take_append_drop, List.length_take, Nat.min_eq_left (tkN_le c r)]
        · show acc ++ (c :: r.take (tkN (tkK c r) r) ++ fl _ _) = _
          rw [g2']
          simp
def lxT (s : List Int32) : List ItC × List Int32 := lx s.length s []
theorem lxT_ok (s : List Int32) : LX (lxT s).1 (lxT s).2 ∧ fl (lxT s).1 (lxT s).2 = s := by
  obtain ⟨h1, h2⟩ := lx_ok s.length s [] false (Nat.le_refl _) rfl (fun h => by cases h)
  exact ⟨h1, h2⟩
theorem lxT_of {Z : List ItC} {t : List Int32} (h : LX Z t) : lxT (fl Z t) = (Z, t) := lx_LX Z t _ h (Nat.le_refl _)
/-- kind, start and end of each token -/
def psn : Nat → List ItC → List (Nat × Nat × Nat)
  | _, [] => []
  | p, (sp, k, w) :: Z => (k, p + sp.length, p + sp.length + w.length) :: psn (p + sp.length + w.length) Z
theorem psn_c (p : Nat) (sp w : List Int32) (k : Nat) (Z : List ItC) : psn p ((sp, k, w) :: Z) = (k, p + sp.length, p + sp.length + w.length) :: psn (p + sp.length + w.length) Z := rfl
theorem psn_len : ∀ (p : Nat) (Z : List ItC), (psn p Z).length = Z.length
  | _, [] => rfl
  | p, (sp, k, w) :: Z => by
    show (psn _ Z).length + 1 = Z.length + 1
    rw [psn_len _ Z]
def ftl (Z : List ItC) : Nat := (fl Z []).length
theorem psn_app : ∀ (p : Nat) (A B : List ItC), psn p (A ++ B) = psn p A ++ psn (p + ftl A) B
  | p, [], B => rfl
  | p, (sp, k, w) :: A, B => by
    show (k, p + sp.length, p + sp.length + w.length) :: psn (p + sp.length + w.length) (A ++ B) = (k, p + sp.length, p + sp.length + w.length) :: (psn (p + sp.length + w.length) A ++ _)
    rw [psn_app (p + sp.length + w.length) A B]
    have : ftl ((sp, k, w) :: A) = sp.length + w.length + ftl A := by
      unfold ftl
      show (sp ++ (w ++ fl A [])).length = _
      rw [List.length_append, List.length_append]
      omega
    rw [this]
    rw [show p + (sp.length + w.length + ftl A) = p + sp.length + w.length + ftl A by omega]
def tks (s : List Int32) : List (Nat × Nat × Nat) := psn 0 (lxT s).1
