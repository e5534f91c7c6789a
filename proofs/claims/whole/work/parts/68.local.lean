/-! Tokens of a text with a piece put in; its grammar. -/
theorem tkK_hd (c : Int32) (a r r' : List Int32) (h : r'.head? = r.head?) : tkK c (a ++ r') = tkK c (a ++ r) := by
  cases a with
  | cons x a => rfl
  | nil =>
    cases r with
    | nil =>
      cases r' with
      | nil => rfl
      | cons y t => cases h
    | cons x t =>
      cases r' with
      | nil => cases h
      | cons y t' =>
        injection h with h
        subst h
        rfl
theorem tw_iff (p : Int32 → Bool) : ∀ (a r : List Int32), tw p (a ++ r) = a.length → (∀ c ∈ a, p c = true) ∧ ∀ c r', r = c :: r' → p c = false
  | [], r, h => by
    refine ⟨by simp, fun c r' e => ?_⟩
    subst e
    have h : (if p c = true then tw p r' + 1 else 0) = 0 := h
    by_cases q : p c = true
    · rw [if_pos q] at h; omega
    · simpa using q
  | c :: a, r, h => by
    have h : (if p c = true then tw p (a ++ r) + 1 else 0) = a.length + 1 := h
    by_cases q : p c = true
    · rw [if_pos q] at h
      obtain ⟨i1, i2⟩ := tw_iff p a r (by omega)
      exact ⟨fun x hx => by
        rcases List.mem_cons.mp hx with rfl | hx
        · exact q
        · exact i1 x hx, i2⟩
    · rw [if_neg q] at h; omega
theorem okw_hd {k : Nat} {w r r' : List Int32} (h : okw k w r) (hh : r'.head? = r.head?) : okw k w r' := by
  obtain ⟨c, cs, hw, h1, h2, hk, hn⟩ := h
  refine ⟨c, cs, hw, h1, h2, by rw [tkK_hd c cs r r' hh]; exact hk, ?_⟩
  unfold tkN at hn ⊢
  by_cases c3 : k = 3
  · rw [if_pos c3] at hn ⊢; exact hn
  · rw [if_neg c3] at hn ⊢
    by_cases c12 : k = 1 ∨ k = 2
    · rw [if_pos c12] at hn ⊢
      obtain ⟨t1, t2⟩ := tw_iff _ _ _ hn
      refine tw_stop _ _ _ t1 (fun x r2 e => ?_)
      subst e
      cases r with
      | nil => cases hh
      | cons y t =>
        injection hh with hh
        subst hh
        exact t2 _ _ rfl
    · rw [if_neg c12] at hn ⊢; exact hn
theorem tkK_nil {c : Int32} {k : Nat} {r : List Int32} (a : tkK c r = k) (b : tkN k r = 0) : (c = nI 36 → k = 9) ∧ (c ≠ nI 36 → ∀ r', tkK c r' = k) ∧ tkK c [] = k := by
  have h36L : isL (nI 36) = false := by decide
  have h36D : isD (nI 36) = false := by decide
  by_cases hc : c = nI 36
  · subst hc
    have e : ∀ r, tkK (nI 36) r = (match r with
      | x :: _ => if isD x = true then 3 else 9
      | [] => 9) := fun r => by
      unfold tkK
      rw [if_neg (by rw [h36L]; decide), if_neg (by rw [h36D]; decide), if_pos rfl]
      cases r <;> rfl
    have k9 : k = 9 := by
      rw [e] at a
      cases r with
      | nil => exact a.symm
      | cons x t =>
        dsimp only at a
        split at a
        · rw [← a] at b
          unfold tkN at b
          rw [if_pos rfl] at b
          cases b
        · exact a.symm
    exact ⟨fun _ => k9, fun q => absurd rfl q, by rw [e, k9]⟩
  · have : ∀ r', tkK c r' = k := fun r' => by
      rw [← a]
      unfold tkK
      rw [if_neg hc, if_neg hc]
    exact ⟨fun q => absurd q hc, fun _ => this, this []⟩
theorem okw_any {k : Nat} {w r r' : List Int32} (h : okw k w r) (h1 : k ≠ 1) (h2 : k ≠ 2) (h9 : k ≠ 9) : okw k w r' := by
  obtain ⟨c, cs, hw, g1, g2, hk, hn⟩ := h
  refine ⟨c, cs, hw, g1, g2, ?_, ?_⟩
  · cases cs with
    | cons x cs => exact hk
    | nil =>
      obtain ⟨t1, t2, -⟩ := tkK_nil hk hn
      exact t2 (fun q => h9 (t1 q)) _
  · unfold tkN at hn ⊢
    by_cases c3 : k = 3
    · rw [if_pos c3] at hn ⊢; exact hn
    · rw [if_neg c3, if_neg (by omega)] at hn ⊢; exact hn
theorem okw_nil {k : Nat} {w r : List Int32} (h : okw k w r) : okw k w [] := by
  obtain ⟨c, cs, hw, g1, g2, hk, hn⟩ := h
  refine ⟨c, cs, hw, g1, g2, ?_, ?_⟩
  · cases cs with
    | cons x cs => exact hk
    | nil => exact (tkK_nil hk hn).2.2
  · unfold tkN at hn ⊢
    by_cases c3 : k = 3
    · rw [if_pos c3] at hn ⊢; exact hn
    · rw [if_neg c3] at hn ⊢
      by_cases c12 : k = 1 ∨ k = 2
      · rw [if_pos c12] at hn ⊢
        exact tw_stop _ _ _ (tw_iff _ _ _ hn).1 (fun x r2 e => by cases e)
      · rw [if_neg c12] at hn ⊢; exact hn
theorem okw_of {k : Nat} {w r : List Int32} (h : okw k w []) (hk : k = 1 ∨ k = 2) (hr : ∀ c r', r = c :: r' → gO k c = false) : okw k w r := by
  obtain ⟨c, cs, hw, g1, g2, hk', hn⟩ := h
  refine ⟨c, cs, hw, g1, g2, ?_, ?_⟩
  · by_cases hc : c = nI 36
    · subst hc
      exfalso
      have e : tkK (nI 36) (cs ++ []) = 3 ∨ tkK (nI 36) (cs ++ []) = 9 := by
        have h36L : isL (nI 36) = false := by decide
        have h36D : isD (nI 36) = false := by decide
        unfold tkK
        rw [if_neg (by rw [h36L]; decide), if_neg (by rw [h36D]; decide), if_pos rfl]
        split
        · split
          · exact Or.inl rfl
          · exact Or.inr rfl
        · exact Or.inr rfl
      omega
    · rw [← hk']
      unfold tkK
      rw [if_neg hc, if_neg hc]
  · unfold tkN at hn ⊢
    rw [if_neg (by omega), if_pos hk] at hn ⊢
    exact tw_stop _ _ _ (tw_iff _ _ _ hn).1 hr
def LXp : List ItC → List Int32 → Prop
  | [], _ => True
  | (sp, k, w) :: Z, r => clo false sp = true ∧ okw k w (fl Z r) ∧ LXp Z r
theorem LX_app : ∀ (A B : List ItC) (t : List Int32), LX (A ++ B) t ↔ LXp A (fl B t) ∧ LX B t
  | [], B, t => ⟨fun h => ⟨trivial, h⟩, fun h => h.2⟩
  | (sp, k, w) :: A, B, t => by
    show (clo false sp = true ∧ okw k w (fl (A ++ B) t) ∧ LX (A ++ B) t) ↔ (clo false sp = true ∧ okw k w (fl A (fl B t)) ∧ LXp A (fl B t)) ∧ LX B t
    rw [fl_app, LX_app A B t]
    constructor
    · rintro ⟨a, b, c, e⟩; exact ⟨⟨a, b, c⟩, e⟩
    · rintro ⟨⟨a, b, c⟩, e⟩; exact ⟨a, b, c, e⟩
theorem LXp_app : ∀ (A B : List ItC) (r : List Int32), LXp (A ++ B) r ↔ LXp A (fl B r) ∧ LXp B r
  | [], B, r => ⟨fun h => ⟨trivial, h⟩, fun h => h.2⟩
  | (sp, k, w) :: A, B, r => by
    show (clo false sp = true ∧ okw k w (fl (A ++ B) r) ∧ LXp (A ++ B) r) ↔ (clo false sp = true ∧ okw k w (fl A (fl B r)) ∧ LXp A (fl B r)) ∧ LXp B r
    rw [fl_app, LXp_app A B r]
    constructor
    · rintro ⟨a, b, c, e⟩; exact ⟨⟨a, b, c⟩, e⟩
    · rintro ⟨⟨a, b, c⟩, e⟩; exact ⟨a, b, c, e⟩
/-- a token that can be read -/
def oki (z : ItC) : Prop := clo false z.1 = true ∧ okw z.2.1 z.2.2 []
theorem LXp_oki : ∀ (A : List ItC) (r : List Int32), LXp A r → ∀ z ∈ A, oki z
  | [], _, _, z, hz => by simp at hz
  | (sp, k, w) :: A, r, h, z, hz => by
    rcases List.mem_cons.mp hz with rfl | hz
    · exact ⟨h.1, okw_nil h.2.1⟩
    · exact LXp_oki A r h.2.2 z hz
theorem fl_hd (A : List ItC) {r r' : List Int32} (hw : ∀ z ∈ A, z.2.2 ≠ []) (hh : r'.head? = r.head?) : (fl A r').head? = (fl A r).head? := by
  cases A with
  | nil => exact hh
  | cons z A =>
    obtain ⟨sp, k, w⟩ := z
    have := hw (sp, k, w) List.mem_cons_self
    dsimp only at this
    show (sp ++ (w ++ fl A r')).head? = (sp ++ (w ++ fl A r)).head?
    cases sp with
    | cons x sp => rfl
    | nil =>
      cases w with
      | nil => exact absurd rfl this
      | cons x w => rfl
theorem oki.w {z : ItC} (h : oki z) : z.2.2 ≠ [] := by
  obtain ⟨-, c, cs, hw, -⟩ := h
  rw [hw]
  simp
theorem LXp_hd : ∀ (A : List ItC) (r r' : List Int32), r'.head? = r.head? → LXp A r → LXp A r'
  | [], _, _, _, _ => trivial
  | (sp, k, w) :: A, r, r', hh, h => by
    refine ⟨h.1, okw_hd h.2.1 (fl_hd A (fun z hz => (LXp_oki A r h.2.2 z hz).w) hh), LXp_hd A r r' hh h.2.2⟩
/-- nothing, or what ends with a semicolon -/
def cls (A : List ItC) : Prop := ∀ B z, A = B ++ [z] → z.2.1 = 7
theorem LXp_cl {A : List ItC} {r r' : List Int32} (hc : cls A) (h : LXp A r) : LXp A r' := by
  rcases List.eq_nil_or_concat A with e | ⟨B, z, e⟩
  · subst e; trivial
  · rw [List.concat_eq_append] at e
    subst e
    have h7 := hc B z rfl
    obtain ⟨sp, k, w⟩ := z
    dsimp only at h7
    subst h7
    rw [LXp_app] at h ⊢
    obtain ⟨h1, h2⟩ := h
    have hw : w ≠ [] := (LXp_oki _ _ h2 _ List.mem_cons_self).w
    refine ⟨LXp_hd B _ _ ?_ h1, h2.1, okw_any h2.2.1 (by decide) (by decide) (by decide), trivial⟩
    show (sp ++ (w ++ r')).head? = (sp ++ (w ++ r)).head?
    cases sp with
    | cons x sp => rfl
    | nil =>
      cases w with
      | nil => exact absurd rfl hw
      | cons x w => rfl
/-- a character that ends a name or a number -/
def eh (x : Int32) : Bool := isSp x || x == nI 35 || x == nI 40 || x == nI 41 || x == nI 44 || x == nI 59
theorem eh_g {x : Int32} (h : eh x = true) (k : Nat) : gO k x = false := by
  have key : ∀ y : Int32, isD y = false → isL y = false → gO k y = false := fun y a b => by
    unfold gO
    rw [a, b]
    simp
  unfold eh isSp at h
  simp only [Bool.or_eq_true, beq_iff_eq] at h
  rcases h with ((((( rfl | rfl) | rfl) | rfl) | rfl) | rfl) | rfl
  all_goals exact key _ (by decide) (by decide)
theorem eh_hd {sp w r : List Int32} {k : Nat} (h : oki (sp, k, w)) (hk : k = 4 ∨ k = 5 ∨ k = 6 ∨ k = 7) : ∃ x t, sp ++ (w ++ r) = x :: t ∧ eh x = true := by
  obtain ⟨h1, c, cs, hw, h2, h3, h4, -⟩ := h
  dsimp only at h1 hw h4
  cases sp with
  | cons x sp =>
    refine ⟨x, sp ++ (w ++ r), rfl, ?_⟩
    unfold clo at h1
    unfold eh
    split at h1
    · rename_i q
      rw [q]
      rfl
    · split at h1
      · rename_i q
        rw [q]
        rfl
      · cases h1
  | nil =>
    refine ⟨c, cs ++ r, by rw [hw]; rfl, ?_⟩
    unfold tkK at h4
    split at h4
    · omega
    · split at h4
      · omega
      · split at h4
        · split at h4
          · split at h4 <;> omega
          · omega
        · split at h4
          · rename_i q; rw [q]; rfl
          · split at h4
            · rename_i q; rw [q]; rfl
            · split at h4
              · rename_i q; rw [q]; rfl
              · split at h4
                · rename_i q; rw [q]; rfl
                · split at h4 <;> omega
theorem ast_k {q n mx k : Nat} {z : Nat × Nat × Nat} (h : ast false q n mx k = some z) : (k = 1 ∨ k = 2 ∨ k = 4 ∨ k = 5 ∨ k = 6) ∧ (2 ≤ q → k = 4 ∨ k = 5 ∨ k = 6) ∧ (k = 1 ∨ k = 2 → q ≤ 1 ∧ 2 ≤ z.1) := by
  unfold ast at h
  split at h
  · rename_i hq
    split at h
    · cases h
      exact ⟨by omega, by omega, fun _ => ⟨hq, by simp⟩⟩
    · split at h
      · rename_i h2
        cases h
        have : k = 2 := by
          rcases h2 with q | q
          · exact q
          · cases q.2
        exact ⟨by omega, by omega, fun _ => ⟨hq, by simp⟩⟩
      · split at h
        · exact ⟨by omega, by omega, by omega⟩
        · cases h
  · split at h
    · exact ⟨by omega, by omega, by omega⟩
    · split at h
      · exact ⟨by omega, by omega, by omega⟩
      · split at h
        · exact ⟨by omega, by omega, by omega⟩
        · cases h
theorem LXp_g {r : List Int32} (hr : ∃ x t, r = x :: t ∧ eh x = true) : ∀ (A : List ItC) (q n mx : Nat) (z : Nat × Nat × Nat), rn false q n mx (A.map (fun z => z.2.1)) = some z → (∀ y ∈ A, oki y) → LXp A r
  | [], _, _, _, _, _, _ => trivial
  | (sp, k, w) :: A, q, n, mx, z, h, ho => by
    rw [List.map_cons, rn_c] at h
    dsimp only at h
    cases ha : ast false q n mx k with
    | none => rw [ha] at h; cases h
    | some z1 =>
      obtain ⟨q1, n1, mx1⟩ := z1
      rw [ha] at h
      dsimp only at h
      obtain ⟨k1, k2, k3⟩ := ast_k ha
      obtain ⟨o1, o2⟩ := ho _ List.mem_cons_self
      dsimp only at o1 o2
      refine ⟨o1, ?_, LXp_g hr A q1 n1 mx1 z h (fun y hy => ho y (List.mem_cons_of_mem _ hy))⟩
      by_cases c : k = 1 ∨ k = 2
      · refine okw_of o2 c (fun x t e => ?_)
        cases A with
        | nil =>
          obtain ⟨x', t', e', hx⟩ := hr
          have e : r = x :: t := e
          rw [e'] at e
          cases e
          exact eh_g hx k
        | cons y A =>
          obtain ⟨sp', k', w'⟩ := y
          rw [List.map_cons, rn_c] at h
          dsimp only at h
          cases hb : ast false q1 n1 mx1 k' with
          | none => rw [hb] at h; cases h
          | some z2 =>
            obtain ⟨-, j2, -⟩ := ast_k hb
            have hk' := j2 (k3 c).2
            obtain ⟨x', t', e', hx⟩ := eh_hd (r := fl A r) (ho (sp', k', w') (List.mem_cons_of_mem _ List.mem_cons_self)) (by omega)
            have e : sp' ++ (w' ++ fl A r) = x :: t := e
            rw [e'] at e
            cases e
            exact eh_g hx k
      · exact okw_any o2 (by omega) (by omega) (by omega)
/-- the text with another good statement in it -/
theorem LX_rep {A G G' C : List ItC} {c : ItC} {t : List Int32} (h : LX (A ++ (G ++ c :: C)) t) (hA : cls A) (hc : c.2.1 = 7) (ho : ∀ y ∈ G', oki y) {z : Nat × Nat × Nat} (hg : rn false 0 0 0 (G'.map (fun z => z.2.1)) = some z) : LX (A ++ (G' ++ c :: C)) t := by
  rw [LX_app] at h ⊢
  obtain ⟨h1, h2⟩ := h
  rw [LX_app] at h2 ⊢
  obtain ⟨h3, h4⟩ := h2
  refine ⟨LXp_cl hA h1, LXp_g ?_ G' 0 0 0 z hg ho, h4⟩
  obtain ⟨sp, k, w⟩ := c
  dsimp only at hc
  subst hc
  exact eh_hd (r := fl C t) ⟨h4.1, okw_nil h4.2.1⟩ (by omega)
/-- the deepest of what was before counts on its own -/
theorem rn_0 (hol : Bool) : ∀ (L : List Nat) (q n mx : Nat), rn hol q n mx L = (rn hol q n 0 L).map (fun z => (z.1, z.2.1, max mx z.2.2))
  | [], q, n, mx => by show some (q, n, mx) = some (q, n, max mx 0); rw [Nat.max_zero]
  | k :: L, q, n, mx => by
    have key : (∃ q' n' c, ∀ mx : Nat, ast hol q n mx k = some (q', n', max mx c)) ∨ ∀ mx : Nat, ast hol q n mx k = none := by
      unfold ast
      by_cases hq : q ≤ 1
      · simp only [if_pos hq]
        by_cases h1 : k = 1
        · simp only [if_pos h1]; exact Or.inl ⟨2, n, 0, fun mx => by rw [Nat.max_zero]⟩
        · simp only [if_neg h1]
          by_cases h2 : k = 2 ∨ (k = 3 ∧ hol = true)
          · simp only [if_pos h2]; exact Or.inl ⟨3, n, 0, fun mx => by rw [Nat.max_zero]⟩
          · simp only [if_neg h2]
            by_cases h3 : q = 1 ∧ k = 5 ∧ 0 < n
            · simp only [if_pos h3]; exact Or.inl ⟨3, n - 1, 0, fun mx => by rw [Nat.max_zero]⟩
            · simp only [if_neg h3]; exact Or.inr (fun _ => trivial)
      · simp only [if_neg hq]
        by_cases h1 : q = 2 ∧ k = 4
        · simp only [if_pos h1]; exact Or.inl ⟨1, n + 1, n + 1, fun mx => rfl⟩
        · simp only [if_neg h1]
          by_cases h2 : k = 5 ∧ 0 < n
          · simp only [if_pos h2]; exact Or.inl ⟨3, n - 1, 0, fun mx => by rw [Nat.max_zero]⟩
          · simp only [if_neg h2]
            by_cases h3 : k = 6 ∧ 0 < n
            · simp only [if_pos h3]; exact Or.inl ⟨0, n, 0, fun mx => by rw [Nat.max_zero]⟩
            · simp only [if_neg h3]; exact Or.inr (fun _ => trivial)
    rw [rn_c, rn_c]
    rcases key with ⟨q', n', c, hk⟩ | hk
    · rw [hk mx, hk 0]
      dsimp only
      rw [rn_0 hol L q' n' (max mx c), rn_0 hol L q' n' (max 0 c), Option.map_map]
      congr 1
      funext z
      show (z.1, z.2.1, max (max mx c) z.2.2) = (z.1, z.2.1, max mx (max (max 0 c) z.2.2))
      rw [Nat.zero_max, Nat.max_assoc]
    · rw [hk mx, hk 0]
      rfl
theorem rn_nm {hol : Bool} : ∀ (L : List Nat) (q n mx : Nat) (z : Nat × Nat × Nat), n ≤ mx → rn hol q n mx L = some z → z.2.1 ≤ z.2.2
  | [], q, n, mx, z, h, e => by cases e; exact h
  | k :: L, q, n, mx, z, h, e => by
    rw [rn_c] at e
    cases ha : ast hol q n mx k with
    | none => rw [ha] at e; cases e
    | some z1 =>
      obtain ⟨q1, n1, mx1⟩ := z1
      rw [ha] at e
      dsimp only at e
      refine rn_nm L q1 n1 mx1 z ?_ e
      by_cases c4 : k = 4
      · subst c4
        obtain ⟨-, e2⟩ := ast_4 ha
        cases e2
        omega
      · by_cases c5 : k = 5
        · subst c5
          obtain ⟨-, e2⟩ := ast_5 ha
          cases e2
          omega
        · have := ast_o c4 c5 ha
          cases this
          exact h
/-- another expression in its place -/
theorem rn_rep {A X C Y R : List Nat} {qf mxf qy my dp : Nat} (h : rn false 0 0 0 (A ++ (X ++ C)) = some (qf, 0, mxf)) (hqf : 2 ≤ qf) (hX : le_ false (X ++ (C ++ 7 :: R)) = some (X.length, dp)) (hY : rn false 0 0 0 Y = some (qy, 0, my)) (hqy : 2 ≤ qy) : ∃ q1 a m1, rn false 0 0 0 A = some (q1, a, m1) ∧ q1 ≤ 1 ∧ ∃ q2, (q2 = 2 ∨ q2 = 3) ∧ rn false q1 a m1 Y = some (q2, a, max m1 (a + my)) ∧ ∃ qf' mxf', rn false 0 0 0 (A ++ (Y ++ C)) = some (qf', 0, mxf') ∧ 2 ≤ qf' ∧ (mxf ≤ 12 → (mxf' ≤ 12 ↔ a + my ≤ 12)) := by
  rw [rn_app] at h
  cases hA : rn false 0 0 0 A with
  | none => rw [hA] at h; cases h
  | some z =>
    obtain ⟨q1, a, m1⟩ := z
    rw [hA] at h
    dsimp only at h
    have ham : a ≤ m1 := rn_nm A 0 0 0 _ (Nat.le_refl _) hA
    have hXb := le_b hX
    have hq1 : q1 ≤ 1 := by
      cases X with
      | nil => simp at hXb
      | cons k X =>
        have hk : k = 1 ∨ k = 2 := by
          apply Decidable.byContradiction
          intro c
          by_cases c3 : k = 3
          · subst c3
            rw [List.cons_append, le_hole] at hX
            cases hX
          · rw [List.cons_append, le_oth _ (by omega) (by omega) c3] at hX
            cases hX
        rw [List.cons_append, rn_c] at h
        cases ha : ast false q1 a m1 k with
        | none => rw [ha] at h; cases h
        | some z1 => exact ((ast_k ha).2.2 hk).1
    obtain ⟨q', hq', hq4, hrX⟩ := au_e hX hq1 ham
    rw [List.take_left] at hrX
    rw [List.drop_left] at hq4
    rw [rn_then hrX] at h
    have hC4 : ∀ r, C ++ 7 :: R ≠ 4 :: r := by
      rcases hq' with e | e
      · exact hq4 e
      · intro r c
        cases C with
        | nil => injection c with c _; cases c
        | cons k C =>
          injection c with c _
          subst c
          rw [rn_c, e] at h
          cases h
    have hle := bu_e hC4 hY hqy
    obtain ⟨q2, hq2, -, hrY⟩ := au_e hle hq1 ham
    rw [List.take_left] at hrY
    refine ⟨q1, a, m1, rfl, hq1, q2, hq2, hrY, ?_⟩
    rw [rn_then hA, rn_then hrY]
    cases C with
    | nil =>
      have h : some (q', a, max m1 (a + dp)) = some (qf, 0, mxf) := h
      injection h with h
      injection h with e1 h
      injection h with e2 e3
      refine ⟨q2, max m1 (a + my), by rw [e2]; rfl, by omega, fun hm => ?_⟩
      omega
    | cons k C =>
      rw [rn_c] at h
      cases ha : ast false q' a (max m1 (a + dp)) k with
      | none => rw [ha] at h; cases h
      | some z1 =>
        obtain ⟨q3, n3, m3⟩ := z1
        rw [ha] at h
        dsimp only at h
        have hk4 : k ≠ 4 := fun c => hC4 (C ++ 7 :: R) (by rw [c]; rfl)
        have hk : k = 5 ∨ k = 6 := by have := (ast_k ha).2.1 (by omega); omega
        have ha2 : m3 = max m1 (a + dp) ∧ ast false q2 a (max m1 (a + my)) k = some (q3, n3, max m1 (a + my)) := by
          rcases hk with rfl | rfl
          · obtain ⟨c1, c2⟩ := ast_5 ha
            cases c2
            refine ⟨rfl, ?_⟩
            obtain ⟨a', rfl⟩ : ∃ a', a = a' + 1 := ⟨a - 1, by omega⟩
            rw [ast_n5 hq2]
            rfl
          · have c2 := ast_o (by decide) (by decide) ha
            cases c2
            have ha0 : 0 < a := by
              apply Decidable.byContradiction
              intro c
              have : a = 0 := by omega
              subst this
              unfold ast at ha
              rw [if_neg (by omega), if_neg (by omega), if_neg (by omega), if_neg (by omega)] at ha
              cases ha
            obtain ⟨a', rfl⟩ : ∃ a', a = a' + 1 := ⟨a - 1, by omega⟩
            rw [ast_n6 hq'] at ha
            cases ha
            rw [ast_n6 hq2]
            exact ⟨rfl, rfl⟩
        obtain ⟨rfl, ha2⟩ := ha2
        rw [rn_c, ha2]
        dsimp only
        rw [rn_0] at h ⊢
        cases hC : rn false q3 n3 0 C with
        | none => rw [hC] at h; cases h
        | some z2 =>
          obtain ⟨q5, n5, m5⟩ := z2
          rw [hC] at h
          have h : some (q5, n5, max (max m1 (a + dp)) m5) = some (qf, 0, mxf) := h
          injection h with h
          injection h with e1 h
          injection h with e2 e3
          subst e2
          refine ⟨q5, max (max m1 (a + my)) m5, rfl, by omega, fun hm => ?_⟩
          omega
