/-! Marks: each token and space of an expression has the mark of the innermost expression that has it. -/
def wm (z : MIt) : Int32 := z.2.2.2.2
def tp (ms : List Int32) : Int32 := ms.headD (-(nI 1))
def mnx (z : MIt) (h4 : Bool) (ms : List Int32) : List Int32 := if mkd z = 1 ∧ h4 = true then wm z :: ms else if mkd z = 5 then ms.tail else ms
def mkw (z : MIt) (ms : List Int32) : Prop := if mkd z = 1 ∨ mkd z = 2 then wm z ≠ -(nI 1) else wm z = tp ms
def mal (r : List Nat) : List MIt → List Int32 → Prop
  | [], _ => True
  | z :: S, ms => z.2.1 = tp ms ∧ mkw z ms ∧ mal r S (mnx z (hd4 (kdi S ++ r)) ms)
def mrn (r : List Nat) : List MIt → List Int32 → List Int32
  | [], ms => ms
  | z :: S, ms => mrn r S (mnx z (hd4 (kdi S ++ r)) ms)
theorem mal_app (r : List Nat) : ∀ (A B : List MIt) (ms : List Int32), (mal r (A ++ B) ms ↔ mal (kdi B ++ r) A ms ∧ mal r B (mrn (kdi B ++ r) A ms)) ∧ mrn r (A ++ B) ms = mrn r B (mrn (kdi B ++ r) A ms)
  | [], B, ms => ⟨⟨fun h => ⟨trivial, h⟩, fun h => h.2⟩, rfl⟩
  | z :: A, B, ms => by
    have e : hd4 (kdi (A ++ B) ++ r) = hd4 (kdi A ++ (kdi B ++ r)) := by rw [kdi_app, List.append_assoc]
    obtain ⟨i1, i2⟩ := mal_app r A B (mnx z (hd4 (kdi A ++ (kdi B ++ r))) ms)
    refine ⟨?_, ?_⟩
    · show (z.2.1 = tp ms ∧ mkw z ms ∧ mal r (A ++ B) (mnx z (hd4 (kdi (A ++ B) ++ r)) ms)) ↔ (z.2.1 = tp ms ∧ mkw z ms ∧ mal (kdi B ++ r) A (mnx z (hd4 (kdi A ++ (kdi B ++ r))) ms)) ∧ mal r B (mrn (kdi B ++ r) A (mnx z (hd4 (kdi A ++ (kdi B ++ r))) ms))
      rw [e, i1]
      constructor
      · rintro ⟨a, b, c, d⟩; exact ⟨⟨a, b, c⟩, d⟩
      · rintro ⟨⟨a, b, c⟩, d⟩; exact ⟨a, b, c, d⟩
    · show mrn r (A ++ B) (mnx z (hd4 (kdi (A ++ B) ++ r)) ms) = mrn r B (mrn (kdi B ++ r) A (mnx z (hd4 (kdi A ++ (kdi B ++ r))) ms))
      rw [e, i2]
theorem hd4_ap (A : List Nat) {r r' : List Nat} (h : hd4 r = hd4 r') : hd4 (A ++ r) = hd4 (A ++ r') := by
  cases A with
  | nil => exact h
  | cons k A => rfl
theorem mal_hd {r r' : List Nat} (h : hd4 r = hd4 r') : ∀ (A : List MIt) (ms : List Int32), (mal r A ms ↔ mal r' A ms) ∧ mrn r A ms = mrn r' A ms
  | [], _ => ⟨Iff.rfl, rfl⟩
  | z :: A, ms => by
    have e := hd4_ap (kdi A) h
    obtain ⟨i1, i2⟩ := mal_hd h A (mnx z (hd4 (kdi A ++ r')) ms)
    refine ⟨?_, ?_⟩
    · show (z.2.1 = tp ms ∧ mkw z ms ∧ mal r A (mnx z (hd4 (kdi A ++ r)) ms)) ↔ (z.2.1 = tp ms ∧ mkw z ms ∧ mal r' A (mnx z (hd4 (kdi A ++ r')) ms))
      rw [e, i1]
    · show mrn r A (mnx z (hd4 (kdi A ++ r)) ms) = mrn r' A (mnx z (hd4 (kdi A ++ r')) ms)
      rw [e, i2]
theorem tp_own {own ms ms' : List Int32} (h : 0 < own.length) : tp (own ++ ms) = tp (own ++ ms') := by
  cases own with
  | nil => simp at h
  | cons o own => rfl
/-- within an expression the marks below do not matter -/
theorem mal_ctx {r : List Nat} (hr : hd4 r = false) : ∀ (L : List MIt) (q n mx : Nat) (z : Nat × Nat × Nat) (own : List Int32), rn false q n mx (kdi L) = some z → own.length = n + (if q = 2 ∧ hd4 (kdi L ++ r) = true then 1 else 0) → ¬ (q ≤ 1 ∧ n = 0) → ∃ own', own'.length = z.2.1 ∧ (∀ ms, mrn r L (own ++ ms) = own' ++ ms) ∧ ∀ ms ms', mal r L (own ++ ms) → mal r L (own ++ ms')
  | [], q, n, mx, z, own, h, ho, _ => by
    cases h
    refine ⟨own, ?_, fun _ => rfl, fun _ _ _ => trivial⟩
    rw [ho, if_neg (fun c => by
      have : hd4 r = true := c.2
      rw [hr] at this
      cases this)]
    rfl
  | y :: L, q, n, mx, z, own, h, ho, hq => by
    have hk : kdi (y :: L) = mkd y :: kdi L := rfl
    rw [hk, rn_c] at h
    rw [hk, List.cons_append] at ho
    cases ha : ast false q n mx (mkd y) with
    | none => rw [ha] at h; cases h
    | some v =>
      obtain ⟨q1, n1, m1⟩ := v
      rw [ha] at h
      dsimp only at h
      obtain ⟨k1, k2, k3⟩ := ast_k ha
      -- the step
      have step : 0 < own.length ∧ ∃ own1 : List Int32, (∀ ms, mnx y (hd4 (kdi L ++ r)) (own ++ ms) = own1 ++ ms) ∧ own1.length = n1 + (if q1 = 2 ∧ hd4 (kdi L ++ r) = true then 1 else 0) ∧ ¬ (q1 ≤ 1 ∧ n1 = 0) := by
        rcases k1 with c | c | c | c | c
        · rw [c] at ha ho
          have hq1 := (k3 (Or.inl c)).1
          rw [ast_1 hq1] at ha
          cases ha
          rw [if_neg (by omega)] at ho
          refine ⟨by omega, if hd4 (kdi L ++ r) = true then wm y :: own else own, fun ms => ?_, ?_, by omega⟩
          · unfold mnx
            rw [c]
            by_cases h4 : hd4 (kdi L ++ r) = true
            · rw [if_pos ⟨rfl, h4⟩, if_pos h4]; rfl
            · rw [if_neg (fun q => h4 q.2), if_neg (by decide), if_neg h4]
          · by_cases h4 : hd4 (kdi L ++ r) = true
            · rw [if_pos h4, if_pos ⟨rfl, h4⟩, List.length_cons]; omega
            · rw [if_neg h4, if_neg (fun q => h4 q.2)]; omega
        · rw [c] at ha ho
          have hq1 := (k3 (Or.inr c)).1
          rw [ast_2 hq1] at ha
          cases ha
          rw [if_neg (by omega)] at ho
          refine ⟨by omega, own, fun ms => ?_, by rw [if_neg (by omega)]; omega, by omega⟩
          unfold mnx
          rw [c, if_neg (by omega), if_neg (by decide)]
        · rw [c] at ha ho
          obtain ⟨a1, a2⟩ := ast_4 ha
          cases a2
          rw [if_pos ⟨a1, rfl⟩] at ho
          refine ⟨by omega, own, fun ms => ?_, by rw [if_neg (by omega)]; omega, by omega⟩
          unfold mnx
          rw [c, if_neg (by omega), if_neg (by decide)]
        · rw [c] at ha ho
          obtain ⟨a1, a2⟩ := ast_5 ha
          cases a2
          rw [if_neg (fun q => by cases q.2)] at ho
          refine ⟨by omega, own.tail, fun ms => ?_, ?_, by omega⟩
          · unfold mnx
            rw [c, if_neg (by omega), if_pos rfl]
            cases own with
            | nil => simp at ho; omega
            | cons o own => rfl
          · rw [List.length_tail, if_neg (by omega)]
            omega
        · rw [c] at ha ho
          have a2 := ast_o (by decide) (by decide) ha
          have ha0 : 0 < n ∧ q1 = 0 := by
            unfold ast at ha
            split at ha
            · simp at ha
            · rw [if_neg (by omega), if_neg (by omega)] at ha
              split at ha
              · rename_i w; cases ha; exact ⟨w.2, rfl⟩
              · cases ha
          cases a2
          rw [if_neg (fun q => by cases q.2)] at ho
          refine ⟨by omega, own, fun ms => ?_, by rw [if_neg (by omega)]; omega, by omega⟩
          unfold mnx
          rw [c, if_neg (by omega), if_neg (by decide)]
      obtain ⟨h0, own1, e1, e2, e3⟩ := step
      obtain ⟨own', w1, w2, w3⟩ := mal_ctx hr L q1 n1 m1 z own1 h e2 e3
      refine ⟨own', w1, fun ms => ?_, fun ms ms' hm => ?_⟩
      · show mrn r L (mnx y (hd4 (kdi L ++ r)) (own ++ ms)) = _
        rw [e1]
        exact w2 ms
      · have hm : y.2.1 = tp (own ++ ms) ∧ mkw y (own ++ ms) ∧ mal r L (mnx y (hd4 (kdi L ++ r)) (own ++ ms)) := hm
        show y.2.1 = tp (own ++ ms') ∧ mkw y (own ++ ms') ∧ mal r L (mnx y (hd4 (kdi L ++ r)) (own ++ ms'))
        rw [e1] at hm ⊢
        refine ⟨hm.1.trans (tp_own h0), ?_, w3 ms ms' hm.2.2⟩
        have := hm.2.1
        unfold mkw at this ⊢
        rw [← tp_own (ms := ms) (ms' := ms') h0]
        exact this
/-- the marks of an expression, but for the space before it -/
def mex (r : List Nat) (E : List MIt) : Prop := match E with
  | [] => False
  | e :: L => wm e ≠ -(nI 1) ∧ mal r L (if mkd e = 1 ∧ hd4 (kdi L ++ r) = true then [wm e] else [])
theorem rn_first {e : MIt} {L : List MIt} {z : Nat × Nat × Nat} (h : rn false 0 0 0 (kdi (e :: L)) = some z) : (mkd e = 1 ∧ rn false 2 0 0 (kdi L) = some z) ∨ (mkd e = 2 ∧ rn false 3 0 0 (kdi L) = some z) := by
  have hk : kdi (e :: L) = mkd e :: kdi L := rfl
  rw [hk, rn_c] at h
  cases ha : ast false 0 0 0 (mkd e) with
  | none => rw [ha] at h; cases h
  | some v =>
    rw [ha] at h
    unfold ast at ha
    rw [if_pos (by omega)] at ha
    split at ha
    · rename_i c
      cases ha
      exact Or.inl ⟨c, h⟩
    · split at ha
      · rename_i c
        cases ha
        rcases c with c | c
        · exact Or.inr ⟨c, h⟩
        · cases c.2
      · rw [if_neg (by omega)] at ha
        cases ha
theorem rn_dead {hol : Bool} {q k : Nat} {L : List Nat} (hq : 2 ≤ q) (hk : q = 2 → k ≠ 4) : rn hol q 0 0 (k :: L) = none := by
  rw [rn_c]
  unfold ast
  rw [if_neg (by omega), if_neg (fun c => hk c.1 c.2), if_neg (by omega), if_neg (by omega)]
theorem mex_iff {r : List Nat} (hr : hd4 r = false) {e : MIt} {L : List MIt} {q mx : Nat} (h : rn false 0 0 0 (kdi (e :: L)) = some (q, 0, mx)) (ms : List Int32) : (mal r (e :: L) ms ↔ e.2.1 = tp ms ∧ mex r (e :: L)) ∧ mrn r (e :: L) ms = ms := by
  have hmw : mkw e ms ↔ wm e ≠ -(nI 1) := by
    unfold mkw
    rcases rn_first h with ⟨c, -⟩ | ⟨c, -⟩
    · rw [if_pos (Or.inl c)]
    · rw [if_pos (Or.inr c)]
  have h5 : mkd e ≠ 5 := by rcases rn_first h with ⟨c, -⟩ | ⟨c, -⟩ <;> omega
  by_cases hcall : mkd e = 1 ∧ hd4 (kdi L ++ r) = true
  · have hmn : ∀ ms, mnx e (hd4 (kdi L ++ r)) ms = [wm e] ++ ms := fun ms => by unfold mnx; rw [if_pos hcall]; rfl
    have hrn : rn false 2 0 0 (kdi L) = some (q, 0, mx) := by
      rcases rn_first h with ⟨-, w⟩ | ⟨w, -⟩
      · exact w
      · omega
    obtain ⟨own', w1, w2, w3⟩ := mal_ctx hr L 2 0 0 (q, 0, mx) [wm e] hrn (by rw [if_pos ⟨rfl, hcall.2⟩]; rfl) (by omega)
    have hown : own' = [] := List.length_eq_zero_iff.mp w1
    refine ⟨?_, ?_⟩
    · show (e.2.1 = tp ms ∧ mkw e ms ∧ mal r L (mnx e (hd4 (kdi L ++ r)) ms)) ↔ e.2.1 = tp ms ∧ (wm e ≠ -(nI 1) ∧ mal r L (if mkd e = 1 ∧ hd4 (kdi L ++ r) = true then [wm e] else []))
      rw [hmn, hmw, if_pos hcall]
      constructor
      · rintro ⟨a, b, c⟩
        exact ⟨a, b, by have := w3 ms [] c; rw [List.append_nil] at this; exact this⟩
      · rintro ⟨a, b, c⟩
        exact ⟨a, b, w3 [] ms (by rw [List.append_nil]; exact c)⟩
    · show mrn r L (mnx e (hd4 (kdi L ++ r)) ms) = ms
      rw [hmn, w2, hown]
      rfl
  · have hL : L = [] := by
      cases L with
      | nil => rfl
      | cons y L =>
        exfalso
        have hk : kdi (y :: L) = mkd y :: kdi L := rfl
        rcases rn_first h with ⟨c, w⟩ | ⟨c, w⟩
        · rw [hk, rn_dead (Nat.le_refl _) (fun _ c4 => hcall ⟨c, by rw [hk, c4]; rfl⟩)] at w
          cases w
        · rw [hk, rn_dead (by omega) (fun c => by omega)] at w
          cases w
    subst hL
    refine ⟨?_, ?_⟩
    · show (e.2.1 = tp ms ∧ mkw e ms ∧ True) ↔ e.2.1 = tp ms ∧ (wm e ≠ -(nI 1) ∧ True)
      rw [hmw]
    · show mnx e (hd4 (kdi [] ++ r)) ms = ms
      unfold mnx
      rw [if_neg hcall, if_neg h5]
theorem mex_hd {r r' : List Nat} (h : hd4 r = hd4 r') (E : List MIt) : mex r E ↔ mex r' E := by
  cases E with
  | nil => exact Iff.rfl
  | cons e L =>
    show (wm e ≠ -(nI 1) ∧ mal r L (if mkd e = 1 ∧ hd4 (kdi L ++ r) = true then [wm e] else [])) ↔ (wm e ≠ -(nI 1) ∧ mal r' L (if mkd e = 1 ∧ hd4 (kdi L ++ r') = true then [wm e] else []))
    rw [hd4_ap (kdi L) h, (mal_hd h L _).1]
/-- what is bound to a hole: an expression with its marks -/
def BMx (X : List MIt) (B : BN) : Prop := ∀ d f b, B d = some (f, b) → ∃ e L q mx, (X.drop f).take (b - f) = e :: L ∧ rn false 0 0 0 (kdi (e :: L)) = some (q, 0, mx) ∧ 2 ≤ q ∧ mex [] (e :: L)
theorem hd4_fil {X : List MIt} {B : BN} {num : Int32} {r : List Nat} (hr : hd4 r = false) (hB : BMx X B) : ∀ (T : List ItC) (fst : Bool), BK B X.length T → hd4 (kdi (fil X B num fst T) ++ r) = hd4 (T.map (fun z => z.2.1))
  | [], fst, _ => hr
  | (sp, k, w) :: T, fst, h => by
    by_cases hk : k = 3
    · subst hk
      obtain ⟨f, b, hBv, hfb, hb⟩ := h sp w List.mem_cons_self
      obtain ⟨e, L, q, mx, h1, h2, -⟩ := hB _ f b hBv
      rw [fil_hole hBv h1]
      show Nat.beq (mkd e) 4 = Nat.beq 3 4
      rcases rn_first h2 with ⟨c, -⟩ | ⟨c, -⟩ <;> rw [c] <;> rfl
    · rw [fil_tok hk]
      rfl
theorem tp_rep {n : Nat} {v : Int32} (h : 0 < n) : tp (List.replicate n v) = v := by
  rw [rep_c h]
  rfl
theorem fil_mal {X : List MIt} {B : BN} {num : Int32} {r : List Nat} (hr : hd4 r = false) (hB : BMx X B) (hnum : num ≠ -(nI 1)) : ∀ (T : List ItC) (q n mx : Nat) (z : Nat × Nat × Nat), rn true q n mx (T.map (fun z => z.2.1)) = some z → ¬ (q ≤ 1 ∧ n = 0) → BK B X.length T → mal r (fil X B num false T) (List.replicate (n + (if q = 2 ∧ hd4 (T.map (fun z => z.2.1)) = true then 1 else 0)) num)
  | [], q, n, mx, z, _, _, _ => trivial
  | (sp, k, w) :: T, q, n, mx, z, h, hq, hK => by
    have hK' : BK B X.length T := fun sp' w' hm => hK sp' w' (List.mem_cons_of_mem _ hm)
    rw [List.map_cons, rn_c] at h
    dsimp only at h
    cases ha : ast true q n mx k with
    | none => rw [ha] at h; cases h
    | some v =>
      obtain ⟨q1, n1, m1⟩ := v
      rw [ha] at h
      dsimp only at h
      have hh4 := hd4_fil (num := num) hr hB T false hK'
      have ih := fil_mal hr hB hnum T q1 n1 m1 z h
      by_cases c3 : k = 3
      · subst c3
        obtain ⟨f, b, hBv, hfb, hb⟩ := hK sp w List.mem_cons_self
        obtain ⟨e, L, qe, me, e1, e2, e3, e4⟩ := hB _ f b hBv
        rw [fil_hole hBv e1]
        have hv : q ≤ 1 ∧ q1 = 3 ∧ n1 = n := by
          unfold ast at ha
          split at ha
          · rename_i hq1
            rw [if_neg (by decide), if_pos (Or.inr ⟨rfl, rfl⟩)] at ha
            cases ha
            exact ⟨hq1, rfl, rfl⟩
          · rw [if_neg (by omega), if_neg (by omega), if_neg (by omega)] at ha
            cases ha
        obtain ⟨hq1, rfl, rfl⟩ := hv
        rw [if_neg (show ¬ (q = 2 ∧ hd4 (List.map (fun z => z.2.1) (((sp, 3, w) : ItC) :: T)) = true) from fun c => by omega), Nat.add_zero]
        have hn : 0 < n1 := by omega
        have hnext : hd4 (kdi (fil X B num false T) ++ r) = false := by
          rw [hh4]
          cases T with
          | nil => rfl
          | cons t T =>
            obtain ⟨sp', k', w'⟩ := t
            rw [List.map_cons, rn_c] at h
            show Nat.beq k' 4 = false
            cases hb4 : Nat.beq k' 4 with
            | false => rfl
            | true =>
              have := Nat.eq_of_beq_eq_true hb4
              subst this
              cases hx : ast true 3 n1 m1 4 with
              | none => dsimp only at h; rw [hx] at h; cases h
              | some v => have := (ast_4 hx).1; omega
        rw [(mal_app r _ _ _).1]
        have e2' : rn false 0 0 0 (kdi (sps e (if false = true then [] else sp) num :: L)) = some (qe, 0, me) := e2
        obtain ⟨m1', m2'⟩ := mex_iff (r := kdi (fil X B num false T) ++ r) hnext e2' (List.replicate n1 num)
        refine ⟨m1'.mpr ⟨(tp_rep hn).symm, ?_⟩, ?_⟩
        · have := (mex_hd (r := kdi (fil X B num false T) ++ r) (r' := []) hnext (e :: L)).mpr e4
          exact this
        · rw [m2']
          have := ih (by omega) hK'
          rw [if_neg (by omega), Nat.add_zero] at this
          exact this
      · rw [fil_tok c3]
        have ha' : ast false q n mx k = some (q1, n1, m1) := by
          rw [← ha]
          unfold ast
          simp only [c3, false_and]
        obtain ⟨k1, k2, k3⟩ := ast_k ha'
        show (num = tp _ ∧ mkw (_, num, k, w, num) _ ∧ mal r (fil X B num false T) (mnx (_, num, k, w, num) (hd4 (kdi (fil X B num false T) ++ r)) _))
        rw [hh4]
        have hmk : ∀ (sp' : List Int32) (ms : List Int32), tp ms = num → mkw (sp', num, k, w, num) ms := fun sp' ms hm => by
          unfold mkw
          split
          · exact hnum
          · exact hm.symm
        have hx : hd4 (List.map (fun z => z.2.1) (((sp, k, w) : ItC) :: T)) = Nat.beq k 4 := rfl
        rw [hx]
        rcases k1 with c | c | c | c | c
        · subst c
          have hq1 := (k3 (Or.inl rfl)).1
          rw [ast_1 hq1] at ha'
          cases ha'
          rw [if_neg (by omega), Nat.add_zero]
          have hn : 0 < n := by omega
          refine ⟨(tp_rep hn).symm, hmk _ _ (tp_rep hn), ?_⟩
          have := ih (by omega) hK'
          unfold mnx
          by_cases h4 : hd4 (T.map (fun z => z.2.1)) = true
          · rw [if_pos ⟨rfl, h4⟩] at this ⊢
            exact this
          · rw [if_neg (fun c => h4 c.2)] at this ⊢
            rw [if_neg (by show ¬ (1 : Nat) = 5; decide)]
            exact this
        · subst c
          have hq1 := (k3 (Or.inr rfl)).1
          rw [ast_2 hq1] at ha'
          cases ha'
          rw [if_neg (by omega), Nat.add_zero]
          have hn : 0 < n := by omega
          refine ⟨(tp_rep hn).symm, hmk _ _ (tp_rep hn), ?_⟩
          have := ih (by omega) hK'
          rw [if_neg (by omega), Nat.add_zero] at this
          unfold mnx
          rw [if_neg (fun c => by have : (2 : Nat) = 1 := c.1; omega), if_neg (by show ¬ (2 : Nat) = 5; decide)]
          exact this
        · subst c
          obtain ⟨a1, a2⟩ := ast_4 ha'
          cases a2
          rw [if_pos ⟨a1, rfl⟩]
          refine ⟨(tp_rep (by omega)).symm, hmk _ _ (tp_rep (by omega)), ?_⟩
          have := ih (by omega) hK'
          rw [if_neg (by omega), Nat.add_zero] at this
          unfold mnx
          rw [if_neg (fun c => by have : (4 : Nat) = 1 := c.1; omega), if_neg (by show ¬ (4 : Nat) = 5; decide)]
          exact this
        · subst c
          obtain ⟨a1, a2⟩ := ast_5 ha'
          cases a2
          rw [if_neg (fun q => by cases q.2), Nat.add_zero]
          refine ⟨(tp_rep a1).symm, hmk _ _ (tp_rep a1), ?_⟩
          have := ih (by omega) hK'
          rw [if_neg (by omega), Nat.add_zero] at this
          unfold mnx
          rw [if_neg (fun c => by have : (5 : Nat) = 1 := c.1; omega), if_pos (by show (5 : Nat) = 5; rfl), List.tail_replicate]
          exact this
        · subst c
          have a2 := ast_o (by decide) (by decide) ha'
          have ha0 : 0 < n ∧ q1 = 0 := by
            unfold ast at ha'
            split at ha'
            · simp at ha'
            · rw [if_neg (by omega), if_neg (by omega)] at ha'
              split at ha'
              · rename_i w; cases ha'; exact ⟨w.2, rfl⟩
              · cases ha'
          cases a2
          rw [if_neg (fun q => by cases q.2), Nat.add_zero]
          refine ⟨(tp_rep ha0.1).symm, hmk _ _ (tp_rep ha0.1), ?_⟩
          have := ih (by omega) hK'
          rw [if_neg (by omega), Nat.add_zero] at this
          unfold mnx
          rw [if_neg (fun c => by have : (6 : Nat) = 1 := c.1; omega), if_neg (by show ¬ (6 : Nat) = 5; decide)]
          exact this
theorem fil_mex {X : List MIt} {B : BN} {num : Int32} {r : List Nat} (hr : hd4 r = false) (hB : BMx X B) (hnum : num ≠ -(nI 1)) {T : List ItC} {qz mz : Nat} (h : rn true 0 0 0 (T.map (fun z => z.2.1)) = some (qz, 0, mz)) (hqz : 2 ≤ qz) (hK : BK B X.length T) : mex r (fil X B num true T) := by
  cases T with
  | nil => cases h; omega
  | cons t T =>
    obtain ⟨sp, k, w⟩ := t
    have hK' : BK B X.length T := fun sp' w' hm => hK sp' w' (List.mem_cons_of_mem _ hm)
    have hh4 := hd4_fil (num := num) hr hB T false hK'
    rw [List.map_cons, rn_c] at h
    dsimp only at h
    cases ha : ast true 0 0 0 k with
    | none => rw [ha] at h; cases h
    | some v =>
      obtain ⟨q1, n1, m1⟩ := v
      rw [ha] at h
      dsimp only at h
      have hv : n1 = 0 ∧ m1 = 0 ∧ ((k = 1 ∧ q1 = 2) ∨ ((k = 2 ∨ k = 3) ∧ q1 = 3)) := by
        unfold ast at ha
        rw [if_pos (by omega)] at ha
        split at ha
        · rename_i c; cases ha; exact ⟨rfl, rfl, Or.inl ⟨c, rfl⟩⟩
        · split at ha
          · rename_i c; cases ha; exact ⟨rfl, rfl, Or.inr ⟨by omega, rfl⟩⟩
          · rw [if_neg (by omega)] at ha; cases ha
      obtain ⟨rfl, rfl, hv⟩ := hv
      by_cases c3 : k = 3
      · subst c3
        obtain ⟨f, b, hBv, hfb, hb⟩ := hK sp w List.mem_cons_self
        obtain ⟨e, L, qe, me, e1, e2, e3, e4⟩ := hB _ f b hBv
        have hT : T = [] := by
          cases T with
          | nil => rfl
          | cons t T =>
            exfalso
            rw [List.map_cons, rn_dead (by omega) (by omega)] at h
            cases h
        subst hT
        rw [fil_hole hBv e1]
        have e5 : (sps e (if true = true then [] else sp) num :: L) ++ fil X B num false [] = sps e [] num :: L := by
          show (sps e [] num :: L) ++ [] = _
          rw [List.append_nil]
        rw [e5]
        exact (mex_hd (r := r) (r' := []) hr (e :: L)).mpr e4
      · rw [fil_tok c3]
        show num ≠ -(nI 1) ∧ mal r (fil X B num false T) (if k = 1 ∧ hd4 (kdi (fil X B num false T) ++ r) = true then [num] else [])
        refine ⟨hnum, ?_⟩
        have := fil_mal hr hB hnum T q1 0 0 (qz, 0, mz) h (by omega) hK'
        rw [hh4]
        rcases hv with ⟨rfl, rfl⟩ | ⟨c, rfl⟩
        · by_cases h4 : hd4 (T.map (fun z => z.2.1)) = true
          · rw [if_pos ⟨rfl, h4⟩] at this ⊢
            exact this
          · rw [if_neg (fun c => h4 c.2)] at this ⊢
            exact this
        · rw [if_neg (by omega)] at this ⊢
          exact this
