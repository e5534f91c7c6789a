/-! What is bound to holes are expressions; so a filled template is one. -/
def BOK (X : List MIt) (B : BN) : Prop := ∀ d f b, B d = some (f, b) → f < b ∧ b ≤ X.length ∧ ∃ dp, dp ≤ 12 ∧ le_ true ((kdi X).drop f) = some (b - f, dp)
theorem kdi_len (X : List MIt) : (kdi X).length = X.length := List.length_map _
theorem bho_ok {X : List MIt} {s' : List Int32} {dg t t' : Nat} {B B' : BN} (hB : BOK X B) (h : bho s' (psn 0 (X.map un)) dg t B = some (t', B')) : BOK X B' ∧ (∀ d v, B d = some v → B' d = some v) ∧ B' dg ≠ none ∧ ∃ m dp, dp ≤ 12 ∧ le_ true ((kdi X).drop t) = some (m, dp) ∧ t' = t + m := by
  unfold bho at h
  rw [kdi_psn] at h
  cases hle : le_ true ((kdi X).drop t) with
  | none => rw [hle] at h; cases h
  | some z =>
    obtain ⟨m, dp⟩ := z
    rw [hle] at h
    dsimp only at h
    have hb := le_b hle
    rw [List.length_drop, kdi_len] at hb
    by_cases hdp : dp ≤ 12
    · rw [if_pos hdp] at h
      cases hBv : B dg with
      | none =>
        rw [hBv] at h
        cases h
        refine ⟨fun d f b e => ?_, fun d v e => ?_, ?_, m, dp, hdp, rfl, rfl⟩
        · dsimp only at e
          by_cases ed : d = dg
          · rw [if_pos ed] at e
            cases e
            exact ⟨by omega, by omega, dp, hdp, by rw [hle, Nat.add_sub_cancel_left]⟩
          · rw [if_neg ed] at e
            exact hB d f b e
        · have ed : d ≠ dg := fun c => by rw [c, hBv] at e; cases e
          dsimp only
          rw [if_neg ed]
          exact e
        · dsimp only
          rw [if_pos rfl]
          exact fun c => by cases c
      | some fb =>
        obtain ⟨f, b⟩ := fb
        rw [hBv] at h
        dsimp only at h
        by_cases hc : b - f = m ∧ sTks s' (psn 0 (X.map un)) f t m = true
        · rw [if_pos hc] at h
          cases h
          exact ⟨hB, fun d v e => e, (by rw [hBv]; simp), m, dp, hdp, rfl, rfl⟩
        · rw [if_neg hc] at h
          cases h
    · rw [if_neg hdp] at h
      cases h
theorem mtc_ok {X : List MIt} {s' : List Int32} {Z : List ItC} {tr : List Int32} (hL : LX Z tr) : ∀ (n p t : Nat) (B : BN) (e : Nat) (B' : BN), BOK X B → mtc (fl Z tr) (psn 0 Z) s' (psn 0 (X.map un)) n p t B = some (e, B') → BOK X B' ∧ (∀ d v, B d = some v → B' d = some v) ∧ ∀ i sp w, p ≤ i → i < p + n → Z[i]? = some (sp, 3, w) → B' (dgw w) ≠ none := by
  intro n
  induction n with
  | zero =>
    intro p t B e B' hB h
    cases h
    exact ⟨hB, fun d v e => e, fun i sp w h1 h2 => by omega⟩
  | succ n ih =>
    intro p t B e B' hB h
    unfold mtc at h
    rw [kds_psn] at h
    by_cases h3 : (Z.map (fun z => z.2.1))[p]? = some 3
    · rw [if_pos h3] at h
      have hz : ∃ sp w, Z[p]? = some (sp, 3, w) := by
        rw [List.getElem?_map] at h3
        cases hZ : Z[p]? with
        | none => rw [hZ] at h3; cases h3
        | some z =>
          obtain ⟨sp, k, w⟩ := z
          rw [hZ] at h3
          cases h3
          exact ⟨sp, w, rfl⟩
      obtain ⟨sp, w, hz⟩ := hz
      rw [(HD_LX hL).2 p sp w hz] at h
      cases hb : bho s' (psn 0 (X.map un)) (dgw w) t B with
      | none => rw [hb] at h; cases h
      | some q =>
        obtain ⟨t1, B1⟩ := q
        rw [hb] at h
        obtain ⟨o1, o2, o3, -⟩ := bho_ok hB hb
        obtain ⟨i1, i2, i3⟩ := ih (p + 1) t1 B1 e B' o1 h
        refine ⟨i1, fun d v hd => i2 d v (o2 d v hd), fun i sp' w' h1 h2 hz' => ?_⟩
        by_cases ei : i = p
        · subst ei
          rw [hz] at hz'
          cases hz'
          cases hv : B1 (dgw w) with
          | none => exact absurd hv o3
          | some v =>
            rw [i2 _ v hv]
            exact fun c => by cases c
        · exact i3 i sp' w' (by omega) (by omega) hz'
    · rw [if_neg h3] at h
      by_cases hs : sTk (fl Z tr) (psn 0 Z) p s' (psn 0 (X.map un)) t = true
      · rw [if_pos hs] at h
        obtain ⟨i1, i2, i3⟩ := ih (p + 1) (t + 1) B e B' hB h
        refine ⟨i1, i2, fun i sp' w' h1 h2 hz' => ?_⟩
        by_cases ei : i = p
        · subst ei
          exfalso
          apply h3
          rw [List.getElem?_map, hz']
          rfl
        · exact i3 i sp' w' (by omega) (by omega) hz'
      · rw [if_neg hs] at h
        cases h
/-- all holes of the template stand in the pattern -/
def RK (Z : List ItC) (ar : Nat) : Prop := ∀ sp w, (sp, 3, w) ∈ Z.drop (ar + 1) → ∃ i sp' w', i < ar ∧ Z[i]? = some (sp', 3, w') ∧ dgw w' = dgw w
theorem mtc_bk {X : List MIt} {s' : List Int32} {Z : List ItC} {tr : List Int32} {ar t e : Nat} {B : BN} (hL : LX Z tr) (hK : RK Z ar) (h : mtc (fl Z tr) (psn 0 Z) s' (psn 0 (X.map un)) ar 0 t B0 = some (e, B)) : BOK X B ∧ BK B X.length (Z.drop (ar + 1)) := by
  obtain ⟨h1, -, h3⟩ := mtc_ok hL ar 0 t B0 e B (fun d f b c => by cases c) h
  refine ⟨h1, fun sp w hm => ?_⟩
  obtain ⟨i, sp', w', hi, hz, hd⟩ := hK sp w hm
  have := h3 i sp' w' (Nat.zero_le _) (by omega) hz
  rw [hd] at this
  cases hv : B (dgw w) with
  | none => exact absurd hv this
  | some v =>
    obtain ⟨f, b⟩ := v
    obtain ⟨q1, q2, -⟩ := h1 _ f b hv
    exact ⟨f, b, rfl, q1, q2⟩
/-- a state of reading, and the one that a filled hole may leave instead -/
def simq (a b : Nat) : Prop := a = b ∨ (b = 3 ∧ a = 2)
theorem ast_sim {hol : Bool} {q qs n mx mx2 k q1 n1 mx1 : Nat} (hs : simq qs q) (h : ast hol q n mx k = some (q1, n1, mx1)) (hn : n ≤ mx2) : ∃ mx3, ast hol qs n mx2 k = some (q1, n1, mx3) ∧ n1 ≤ mx3 ∧ mx2 ≤ mx3 ∧ mx3 ≤ mx2 + 1 := by
  unfold ast at h ⊢
  by_cases hq : q ≤ 1
  · have e : qs = q := by rcases hs with h | ⟨h, -⟩ <;> omega
    subst e
    rw [if_pos hq] at h ⊢
    by_cases a1 : k = 1
    · rw [if_pos a1] at h ⊢
      cases h
      exact ⟨mx2, rfl, hn, Nat.le_refl _, by omega⟩
    · rw [if_neg a1] at h ⊢
      by_cases a2 : k = 2 ∨ k = 3 ∧ hol = true
      · rw [if_pos a2] at h ⊢
        cases h
        exact ⟨mx2, rfl, hn, Nat.le_refl _, by omega⟩
      · rw [if_neg a2] at h ⊢
        by_cases a3 : qs = 1 ∧ k = 5 ∧ 0 < n
        · rw [if_pos a3] at h ⊢
          cases h
          exact ⟨mx2, rfl, by omega, Nat.le_refl _, by omega⟩
        · rw [if_neg a3] at h
          cases h
  · have hq2 : ¬ qs ≤ 1 := by rcases hs with h | ⟨h, h'⟩ <;> omega
    rw [if_neg hq] at h
    rw [if_neg hq2]
    by_cases a1 : q = 2 ∧ k = 4
    · rw [if_pos a1] at h
      cases h
      have e : qs = 2 := by rcases hs with h | ⟨h, h'⟩ <;> omega
      rw [if_pos ⟨e, a1.2⟩]
      exact ⟨_, rfl, by omega, by omega, by omega⟩
    · rw [if_neg a1] at h
      by_cases a4 : k = 4
      · subst a4
        simp at h
      · rw [if_neg (fun c => a4 c.2)]
        by_cases a2 : k = 5 ∧ 0 < n
        · rw [if_pos a2] at h ⊢
          cases h
          exact ⟨mx2, rfl, by omega, Nat.le_refl _, by omega⟩
        · rw [if_neg a2] at h ⊢
          by_cases a3 : k = 6 ∧ 0 < n
          · rw [if_pos a3] at h ⊢
            cases h
            exact ⟨mx2, rfl, hn, Nat.le_refl _, by omega⟩
          · rw [if_neg a3] at h
            cases h
theorem kdi_app (A B : List MIt) : kdi (A ++ B) = kdi A ++ kdi B := List.map_append
theorem rn_fill {X : List MIt} {B : BN} {num : Int32} (hB : BOK X B) : ∀ (T : List ItC) (fst : Bool) (q qs n mx mx2 qz nz mz : Nat), BK B X.length T → simq qs q → n ≤ mx2 → rn true q n mx (T.map (fun z => z.2.1)) = some (qz, nz, mz) → ∃ qz' mz', rn true qs n mx2 (kdi (fil X B num fst T)) = some (qz', nz, mz') ∧ simq qz' qz ∧ mx2 ≤ mz' ∧ mz' ≤ mx2 + 12 * T.length := by
  intro T
  induction T with
  | nil =>
    intro fst q qs n mx mx2 qz nz mz hBK hs hn h
    cases h
    exact ⟨qs, mx2, by cases fst <;> rfl, hs, Nat.le_refl _, by omega⟩
  | cons z T ih =>
    intro fst q qs n mx mx2 qz nz mz hBK hs hn h
    obtain ⟨sp, k, w⟩ := z
    have hBK2 : BK B X.length T := fun sp' w' hm => hBK sp' w' (List.mem_cons_of_mem _ hm)
    rw [List.map_cons, rn_c] at h
    cases ha : ast true q n mx k with
    | none => rw [ha] at h; cases h
    | some y =>
      obtain ⟨q1, n1, mx1⟩ := y
      rw [ha] at h
      dsimp only at h
      by_cases hk : k = 3
      · subst hk
        obtain ⟨f, b, hBv, hfb, hb⟩ := hBK sp w List.mem_cons_self
        obtain ⟨z, R, hzR⟩ := tkd hfb hb
        obtain ⟨-, -, dp, hdp, hle⟩ := hB _ f b hBv
        rw [fil_hole hBv hzR, kdi_app]
        have eL : kdi (sps z (if fst = true then [] else sp) num :: R) = ((kdi X).drop f).take (b - f) := by
          unfold kdi
          rw [← List.map_drop, ← List.map_take, hzR]
          rfl
        rw [eL]
        have hq : q ≤ 1 ∧ q1 = 3 ∧ n1 = n := by
          unfold ast at ha
          by_cases c : q ≤ 1
          · rw [if_pos c, if_neg (by decide), if_pos (Or.inr ⟨rfl, rfl⟩)] at ha
            cases ha
            exact ⟨c, rfl, rfl⟩
          · rw [if_neg c, if_neg (by omega), if_neg (by omega), if_neg (by omega)] at ha
            cases ha
        obtain ⟨hq1, rfl, rfl⟩ := hq
        have eqs : qs = q := by rcases hs with h | ⟨h, -⟩ <;> omega
        subst eqs
        obtain ⟨q', hq', -, hr⟩ := au_e hle (q := qs) (a := n1) (mx := mx2) hq1 hn
        rw [rn_then hr]
        obtain ⟨qz', mz', r1, r2, r3, r4⟩ := ih false 3 q' n1 mx1 (max mx2 (n1 + dp)) qz nz mz hBK2 (by
          rcases hq' with h | h
          · exact Or.inr ⟨rfl, h⟩
          · exact Or.inl h) (by omega) h
        refine ⟨qz', mz', r1, r2, by omega, ?_⟩
        rw [List.length_cons]
        omega
      · obtain ⟨mx3, a1, a2, a3, a4⟩ := ast_sim hs ha hn
        rw [fil_tok hk, kdi_app]
        show ∃ qz' mz', rn true qs n mx2 (k :: kdi (fil X B num false T)) = _ ∧ _
        rw [rn_c, a1]
        obtain ⟨qz', mz', r1, r2, r3, r4⟩ := ih false q1 q1 n1 mx1 mx3 qz nz mz hBK2 (Or.inl rfl) a2 h
        refine ⟨qz', mz', r1, r2, by omega, ?_⟩
        rw [List.length_cons]
        omega
theorem k10_kdi {X : List MIt} {B : BN} {num : Int32} (hX : k10 (kdi X)) : ∀ (T : List ItC) (fst : Bool), k10 (T.map (fun z => z.2.1)) → BK B X.length T → k10 (kdi (fil X B num fst T))
  | [], fst, _, _ => fun k hk => by cases fst <;> simp [fil, kdi] at hk
  | (sp, k, w) :: T, fst, h, hBK => by
    have hBK2 : BK B X.length T := fun sp' w' hm => hBK sp' w' (List.mem_cons_of_mem _ hm)
    have ih := k10_kdi (num := num) hX T false (fun k' hk' => h k' (List.mem_cons_of_mem _ hk')) hBK2
    by_cases hk : k = 3
    · subst hk
      obtain ⟨f, b, hBv, hfb, hb⟩ := hBK sp w List.mem_cons_self
      obtain ⟨z, R, hzR⟩ := tkd hfb hb
      rw [fil_hole hBv hzR, kdi_app]
      have eL : kdi (sps z (if fst = true then [] else sp) num :: R) = ((kdi X).drop f).take (b - f) := by
        unfold kdi
        rw [← List.map_drop, ← List.map_take, hzR]
        rfl
      rw [eL]
      intro k' hk'
      rcases List.mem_append.mp hk' with h' | h'
      · exact hX k' (List.mem_of_mem_drop (List.mem_of_mem_take h'))
      · exact ih k' h'
    · rw [fil_tok hk, kdi_app]
      intro k' hk'
      rcases List.mem_append.mp hk' with h' | h'
      · have : k' = k := by simpa [kdi, mkd] using h'
        subst this
        exact h k' List.mem_cons_self
      · exact ih k' h'
theorem ftl_fil {X : List MIt} {B : BN} {num : Int32} : ∀ (T : List ItC) (fst : Bool), BK B X.length T → ftl ((fil X B num fst T).map un) ≤ ftl T + ftl (X.map un) * T.length
  | [], fst, _ => by cases fst <;> simp [fil, ftl, fl]
  | (sp, k, w) :: T, fst, hBK => by
    have hBK2 : BK B X.length T := fun sp' w' hm => hBK sp' w' (List.mem_cons_of_mem _ hm)
    have ih := ftl_fil (num := num) T false hBK2
    rw [ftl_c, List.length_cons, Nat.mul_succ]
    have hsp : (if fst = true then ([] : List Int32) else sp).length ≤ sp.length := by
      cases fst <;> simp
    by_cases hk : k = 3
    · subst hk
      obtain ⟨f, b, hBv, hfb, hb⟩ := hBK sp w List.mem_cons_self
      obtain ⟨⟨a1, a2, a3, a4, a5⟩, R, hzR⟩ := tkd hfb hb
      rw [fil_hole hBv hzR, List.map_append, ftl_app]
      have e1 : ftl (List.map un (sps (a1, a2, a3, a4, a5) (if fst = true then [] else sp) num :: R)) = (if fst = true then ([] : List Int32) else sp).length + a4.length + ftl (R.map un) := by
        show ftl (((if fst = true then [] else sp), a3, a4) :: R.map un) = _
        rw [ftl_c]
      have e2 : a4.length + ftl (R.map un) ≤ ftl (X.map un) := by
        have : ftl (X.map un) = ftl ((X.map un).take f) + (ftl (((X.map un).drop f).take (b - f)) + ftl (((X.map un).drop f).drop (b - f))) := by
          rw [← ftl_app, List.take_append_drop, ← ftl_app, List.take_append_drop]
        rw [show ((X.map un).drop f).take (b - f) = ((X.drop f).take (b - f)).map un by rw [List.map_take, List.map_drop], hzR] at this
        have e3 : ftl (List.map un ((a1, a2, a3, a4, a5) :: R)) = a1.length + a4.length + ftl (R.map un) := by
          show ftl ((a1, a3, a4) :: R.map un) = _
          rw [ftl_c]
        rw [e3] at this
        omega
      rw [e1]
      omega
    · rw [fil_tok hk, List.map_append, ftl_app]
      have e1 : ftl (List.map un [((if fst = true then ([] : List Int32) else sp), num, k, w, num)]) = (if fst = true then ([] : List Int32) else sp).length + w.length := by
        show ftl [((if fst = true then [] else sp), k, w)] = _
        rw [ftl_c]
        rfl
      rw [e1]
      omega
