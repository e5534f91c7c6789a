/-! Marks of statements and programs. -/
theorem mtc_lo {s : List Int32} {P : List (Nat × Nat × Nat)} {s' : List Int32} {A' : List (Nat × Nat × Nat)} {lo : Nat} : ∀ (n p t : Nat) (B : BN) (e : Nat) (B' : BN), mtc s P s' A' n p t B = some (e, B') → lo ≤ t → (∀ d f b, B d = some (f, b) → lo ≤ f ∧ b ≤ t) → ∀ d f b, B' d = some (f, b) → lo ≤ f ∧ b ≤ e
  | 0, p, t, B, e, B', h, _, hB => by cases h; exact hB
  | n + 1, p, t, B, e, B', h, hl, hB => by
    unfold mtc at h
    split at h
    · split at h
      · rename_i t' B2 hb
        unfold bho at hb
        split at hb
        · rename_i m dp hle
          split at hb
          · split at hb
            · cases hb
              refine mtc_lo n _ _ _ _ _ h (by omega) (fun d f b e => ?_)
              by_cases c : d = dgt s P p
              · rw [if_pos c] at e
                cases e
                omega
              · rw [if_neg c] at e
                have := hB d f b e
                omega
            · split at hb
              · cases hb
                exact mtc_lo n _ _ _ _ _ h (by omega) (fun d f b e => by have := hB d f b e; omega)
              · cases hb
          · cases hb
        · cases hb
      · cases h
    · split at h
      · exact mtc_lo n _ _ _ _ _ h (by omega) (fun d f b e => by have := hB d f b e; omega)
      · cases h
/-- after an expression in a good statement no bracket opens -/
theorem no4 {A X D R : List Nat} {z : Nat × Nat × Nat} {dp : Nat} (h : rn false 0 0 0 (A ++ (X ++ D)) = some z) (hX : le_ false (X ++ (D ++ 7 :: R)) = some (X.length, dp)) : hd4 (D ++ 7 :: R) = false := by
  rw [rn_app] at h
  cases hA : rn false 0 0 0 A with
  | none => rw [hA] at h; cases h
  | some v =>
    obtain ⟨q1, a, m1⟩ := v
    rw [hA] at h
    dsimp only at h
    have ham : a ≤ m1 := rn_nm A 0 0 0 _ (Nat.le_refl _) hA
    have hXb := le_b hX
    have hq1 : q1 ≤ 1 := by
      cases X with
      | nil => simp at hXb
      | cons k X =>
        have hk : k = 1 ∨ k = 2 := by
          apply Decidable.byContradiction
          intro c
          by_cases c3 : k = 3
          · subst c3
            rw [List.cons_append, le_hole] at hX
            cases hX
          · rw [List.cons_append, le_oth _ (by omega) (by omega) c3] at hX
            cases hX
        rw [List.cons_append, rn_c] at h
        cases ha : ast false q1 a m1 k with
        | none => rw [ha] at h; cases h
        | some z1 => exact ((ast_k ha).2.2 hk).1
    obtain ⟨q', hq', hq4, hrX⟩ := au_e hX hq1 ham
    rw [List.take_left] at hrX
    rw [List.drop_left] at hq4
    rw [rn_then hrX] at h
    cases D with
    | nil => rfl
    | cons k D =>
      show Nat.beq k 4 = false
      cases hb : Nat.beq k 4 with
      | false => rfl
      | true =>
        exfalso
        have := Nat.eq_of_beq_eq_true hb
        subst this
        rw [rn_c] at h
        cases ha : ast false q' a (max m1 (a + dp)) 4 with
        | none => rw [ha] at h; cases h
        | some v => exact hq4 (ast_4 ha).1 (D ++ 7 :: R) rfl
theorem hd4_7 (A : List Nat) {R R' : List Nat} : hd4 (A ++ 7 :: R) = hd4 (A ++ 7 :: R') := by
  cases A with
  | nil => rfl
  | cons k A => rfl
theorem BMx_of {Xp X1 S C : List MIt} {c : MIt} {B : BN} (hc : mkd c = 7) (hm : mal [7] (X1 ++ S) []) {z : Nat × Nat × Nat} (hr : rn false 0 0 0 (kdi (X1 ++ S)) = some z) (hBE : BEn (kdi (Xp ++ (X1 ++ (S ++ c :: C)))) B) (hlo : ∀ d f b, B d = some (f, b) → Xp.length ≤ f ∧ b ≤ Xp.length + X1.length) : BMx (Xp ++ X1) B := by
  intro d f b hBv
  obtain ⟨l, a, he, rfl⟩ := hBE d f b hBv
  obtain ⟨h1, h2⟩ := hlo d f _ hBv
  obtain ⟨f0, e0, -, -, s2, -, -, -, dp, s6, -⟩ := ent_spn he
  have hX : X1 = X1.take (f - Xp.length) ++ ((X1.drop (f - Xp.length)).take (l + 1 - f) ++ X1.drop (l + 1 - Xp.length)) := by
    conv => lhs; rw [← List.take_append_drop (f - Xp.length) X1, ← List.take_append_drop (l + 1 - f) (X1.drop (f - Xp.length)), List.drop_drop, show f - Xp.length + (l + 1 - f) = l + 1 - Xp.length by omega]
  have hE : ((Xp ++ X1).drop f).take (l + 1 - f) = (X1.drop (f - Xp.length)).take (l + 1 - f) := by
    rw [List.drop_append, List.drop_eq_nil_of_le h1]
    rfl
  have hlen : ((X1.drop (f - Xp.length)).take (l + 1 - f)).length = l + 1 - f := by
    rw [List.length_take, List.length_drop]
    omega
  have hdrop : (kdi (Xp ++ (X1 ++ (S ++ c :: C)))).drop f = kdi ((X1.drop (f - Xp.length)).take (l + 1 - f)) ++ (kdi (X1.drop (l + 1 - Xp.length) ++ S) ++ 7 :: kdi C) := by
    have e1 : (kdi (Xp ++ (X1 ++ (S ++ c :: C)))).drop f = kdi ((Xp ++ (X1 ++ (S ++ c :: C))).drop f) := by unfold kdi; rw [List.map_drop]
    have e2 : (X1 ++ (S ++ c :: C)).drop (f - Xp.length) = (X1.drop (f - Xp.length)).take (l + 1 - f) ++ (X1.drop (l + 1 - Xp.length) ++ (S ++ c :: C)) := by
      rw [List.drop_append_of_le_length (by omega)]
      conv => lhs; rw [← List.take_append_drop (l + 1 - f) (X1.drop (f - Xp.length)), List.drop_drop, show f - Xp.length + (l + 1 - f) = l + 1 - Xp.length by omega]
      rw [List.append_assoc]
    rw [e1, List.drop_append, List.drop_eq_nil_of_le h1, List.nil_append, e2, kdi_app, ← List.append_assoc (X1.drop (l + 1 - Xp.length)), kdi_app _ (c :: C)]
    show _ ++ (_ ++ mkd c :: kdi C) = _
    rw [hc]
  generalize X1.take (f - Xp.length) = A' at hX
  generalize (X1.drop (f - Xp.length)).take (l + 1 - f) = E' at hX hE hlen hdrop
  generalize X1.drop (l + 1 - Xp.length) = D' at hX hdrop
  subst hX
  have eA : (A' ++ (E' ++ D')) ++ S = A' ++ (E' ++ (D' ++ S)) := by simp
  rw [eA] at hm hr
  rw [kdi_app, kdi_app] at hr
  have hle : le_ false (kdi E' ++ (kdi (D' ++ S) ++ 7 :: kdi C)) = some ((kdi E').length, dp) := by
    rw [← hdrop, s6, kdi_len, hlen]
    congr 2
    omega
  have hn4 := no4 hr hle
  have hn4' : hd4 (kdi (D' ++ S) ++ [7]) = false := by rw [hd4_7 (R' := kdi C)]; exact hn4
  obtain ⟨q', hq', -, hrX⟩ := au_e hle (q := 0) (a := 0) (mx := 0) (by omega) (by omega)
  rw [List.take_left] at hrX
  rw [hE]
  cases E' with
  | nil => simp at hlen; omega
  | cons e L =>
    refine ⟨e, L, q', max 0 (0 + dp), rfl, hrX, by omega, ?_⟩
    have h1' := ((mal_app [7] A' ((e :: L) ++ (D' ++ S)) []).1.mp hm).2
    have h2' := ((mal_app [7] (e :: L) (D' ++ S) _).1.mp h1').1
    have h3' := ((mex_iff hn4' hrX _).1.mp h2').2
    exact (mex_hd (r' := []) hn4' (e :: L)).mp h3'
/-- another expression in a statement -/
theorem mal_rep {P0 E0 S Y : List MIt} {z0 y : MIt} {z : Nat × Nat × Nat} {dp qy my : Nat} {R : List Nat} (hm : mal [7] (P0 ++ (E0 ++ S)) []) (hr : rn false 0 0 0 (kdi P0 ++ (kdi E0 ++ kdi S)) = some z) (hle : le_ false (kdi E0 ++ (kdi S ++ 7 :: R)) = some ((kdi E0).length, dp)) (hz0 : E0[0]? = some z0) (hry : rn false 0 0 0 (kdi (y :: Y)) = some (qy, 0, my)) (hmx : mex [] (y :: Y)) : mal [7] (P0 ++ ((sps y z0.1 z0.2.1 :: Y) ++ S)) [] := by
  have hn4 := no4 hr hle
  have hn4' : hd4 (kdi S ++ [7]) = false := by rw [hd4_7 (R' := R)]; exact hn4
  obtain ⟨q', hq', -, hrX⟩ := au_e hle (q := 0) (a := 0) (mx := 0) (by omega) (by omega)
  rw [List.take_left] at hrX
  cases E0 with
  | nil => cases hz0
  | cons e L =>
    injection hz0 with hz0
    subst hz0
    obtain ⟨a1, a2⟩ := (mal_app [7] P0 ((e :: L) ++ S) []).1.mp hm
    obtain ⟨b1, b2⟩ := (mal_app [7] (e :: L) S _).1.mp a2
    have hx := mex_iff hn4' hrX (mrn (kdi ((e :: L) ++ S) ++ [7]) P0 [])
    rw [hx.2] at b2
    obtain ⟨c1, -⟩ := hx.1.mp b1
    have hry' : rn false 0 0 0 (kdi (sps y e.1 e.2.1 :: Y)) = some (qy, 0, my) := hry
    have hh : hd4 (kdi ((sps y e.1 e.2.1 :: Y) ++ S) ++ [7]) = hd4 (kdi ((e :: L) ++ S) ++ [7]) := by
      show Nat.beq (mkd y) 4 = Nat.beq (mkd e) 4
      rcases rn_first hry with ⟨w1, -⟩ | ⟨w1, -⟩ <;> rcases rn_first hrX with ⟨w2, -⟩ | ⟨w2, -⟩ <;> rw [w1, w2] <;> rfl
    have hp := mal_hd hh P0 []
    refine (mal_app [7] P0 _ []).1.mpr ⟨hp.1.mpr a1, ?_⟩
    rw [hp.2]
    have hy := mex_iff hn4' hry' (mrn (kdi ((e :: L) ++ S) ++ [7]) P0 [])
    refine (mal_app [7] _ S _).1.mpr ⟨hy.1.mpr ⟨c1, ?_⟩, by rw [hy.2]; exact b2⟩
    exact (mex_hd (r' := []) hn4' (y :: Y)).mpr hmx
def aln (G : List MIt) : Prop := ∀ z ∈ G, z.2.1 = -(nI 1) ∧ wm z = -(nI 1)
def okg (G : List MIt) : Prop := if gl (kdi G) = true then mal [7] G [] else aln G
/-- the marks of a program, statement by statement -/
def ums : List MIt → List MIt → Prop
  | G, [] => aln G
  | G, z :: N => if mkd z = 7 then okg G ∧ aln [z] ∧ ums [] N else ums (G ++ [z]) N
theorem ums_run {c : MIt} {C : List MIt} (hc : mkd c = 7) : ∀ (S G : List MIt), (∀ k ∈ kdi S, k ≠ 7) → (ums G (S ++ c :: C) ↔ okg (G ++ S) ∧ aln [c] ∧ ums [] C)
  | [], G, _ => by
    show (if mkd c = 7 then okg G ∧ aln [c] ∧ ums [] C else ums (G ++ [c]) C) ↔ _
    rw [if_pos hc, List.append_nil]
  | z :: S, G, h => by
    show (if mkd z = 7 then okg G ∧ aln [z] ∧ ums [] (S ++ c :: C) else ums (G ++ [z]) (S ++ c :: C)) ↔ _
    rw [if_neg (h (mkd z) List.mem_cons_self), ums_run hc S (G ++ [z]) (fun k hk => h k (List.mem_cons_of_mem _ hk)), List.append_assoc]
    rfl
theorem clz.tail {z : MIt} {A : List MIt} (h : clz (z :: A)) (hA : A ≠ []) : clz A := fun B y e => h (z :: B) y (by rw [e]; rfl)
theorem ums_app {B : List MIt} : ∀ (A G : List MIt), clz A → (A = [] → G = []) → (ums G (A ++ B) ↔ ums G A ∧ ums [] B)
  | [], G, _, h => by
    rw [h rfl]
    exact ⟨fun q => ⟨fun z hz => (by simp at hz), q⟩, fun q => q.2⟩
  | z :: A, G, hc, _ => by
    show (if mkd z = 7 then okg G ∧ aln [z] ∧ ums [] (A ++ B) else ums (G ++ [z]) (A ++ B)) ↔ (if mkd z = 7 then okg G ∧ aln [z] ∧ ums [] A else ums (G ++ [z]) A) ∧ ums [] B
    by_cases h7 : mkd z = 7
    · rw [if_pos h7, if_pos h7]
      have hA : clz A := by
        cases A with
        | nil => exact clz.nil
        | cons y A => exact hc.tail (by simp)
      rw [ums_app A [] hA (fun _ => rfl)]
      constructor
      · rintro ⟨a, b, c, d⟩; exact ⟨⟨a, b, c⟩, d⟩
      · rintro ⟨⟨a, b, c⟩, d⟩; exact ⟨a, b, c, d⟩
    · rw [if_neg h7, if_neg h7]
      have hA : A ≠ [] := fun e => h7 (hc [] z (by rw [e]; rfl))
      exact ums_app A (G ++ [z]) (hc.tail hA) (fun e => absurd e hA)
