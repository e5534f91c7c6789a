/-! Model.mark. -/
def cvr (A : List (Nat × Nat × Nat)) (x : Int32) (q : Nat × Nat × Nat) : Prop := (tst A q.1 : Int) ≤ x.toInt ∧ x.toInt < (ten A q.2.1 : Int)
def imb (A ex : List (Nat × Nat × Nat)) (x : Int32) (i : Nat) : Option (Nat × Nat × Nat) → Prop
  | none => ∀ q ∈ ex, q.1 < i → ¬ cvr A x q
  | some q0 => q0 ∈ ex ∧ cvr A x q0 ∧ ∀ q ∈ ex, q.1 < i → cvr A x q → q.1 ≤ q0.1
section MK
variable {E : XE} {d : Nat} {Q : Int32 → mI → mP → Prop} {P : mP} {bf ld s mk : List Int32} {rl : List (List Int32)} {R : Nat} {cy : Int32} {I : mI}
theorem l_mark (hM : MO P) (hs : s.length ≤ 120) (hR : RDs I s) (h97 : Rc (I 97) 0 mk) (hmk : mk.length = s.length) {x : Int32} (h0 : (∀ q ∈ (outl (kds s)).2, ¬ cvr (tks s) x q) → Q (-(nI 1)) I P) (h1 : ∀ i l b v, (i, l, b) ∈ (outl (kds s)).2 → cvr (tks s) x (i, l, b) → (∀ q ∈ (outl (kds s)).2, cvr (tks s) x q → q.1 ≤ i) → mk[tst (tks s) i]? = some v → Q v I P) : ∀ (n i : Nat) (bst : Option (Nat × Nat × Nat)), i + n = (kds s).length → imb (tks s) (outl (kds s)).2 x i bst → V E (d + 1) m_Model_mark 112 Q 8 [some (.inr 95), some (.inl x), some (.inl (ibv bst)), some (.inl (nI i))] [] 112 I P := by
  have htl := tks_len s
  have hkl : (kds s).length = (tks s).length := by unfold kds; rw [List.length_map]
  have htb : ∀ t, t < (tks s).length → tst (tks s) t < s.length := fun t ht => by
    have e : (tks s)[t]? = some (tks s)[t] := List.getElem?_eq_getElem ht
    have := tks_bd s _ (List.getElem_mem ht)
    unfold tst
    rw [e]
    dsimp only
    omega
  have hM0 := hM
  obtain ⟨p0, p1, -, p9, p10, -⟩ := hM0
  intro n
  induction n with
  | zero =>
    intro i bst hi hb
    refine x_Model_mark_8 _ _ _ _ ⟨k95, ?_⟩
    rw [hR.1]
    refine pk_le (tks s).length i (fun _ => ?_) (fun q => by omega)
    have hil : ∀ q ∈ (outl (kds s)).2, q.1 < i := fun q hq => by
      obtain ⟨i', l, b⟩ := q
      have := (ent_i hs hq).2.2.2.2
      show i' < i
      omega
    cases bst with
    | none => exact ⟨fun c => absurd c (by decide), fun _ => h0 (fun q hq => hb q hq (hil q hq))⟩
    | some q0 =>
      obtain ⟨i0, l, b⟩ := q0
      obtain ⟨b1, b2, b3⟩ := hb
      obtain ⟨g1, g2, g3, g4, g5⟩ := ent_i hs b1
      have h100 := (hR.2.1.at (show i0 < (tks s).length by omega)).1
      rw [Nat.zero_add, Nat.zero_add] at h100
      have hts := htb i0 (by omega)
      refine ⟨fun _ => ?_, fun c => absurd ((nle (x := nI i0) (n := 0) (by decide)).mpr (by rw [nI_t (by omega)]; omega)) c⟩
      simp only [k95, p1, p10, k97, k100, nzl 97 (by decide), nzl 100 (by decide), true_and]
      show vp_in (nI i0) 192 ∧ vp_in (I 100 (nI i0).toNatClampNeg) 128 ∧ Q (I 97 (I 100 (nI i0).toNatClampNeg).toNatClampNeg) I P
      rw [clp (show i0 < 2 ^ 31 by omega), h100, clp (show tst (tks s) i0 < 2 ^ 31 by omega)]
      have hv : mk[tst (tks s) i0]? = some mk[tst (tks s) i0] := List.getElem?_eq_getElem (by omega)
      rw [h97.at0 hv]
      exact ⟨vp_in_nI (by omega) (by decide), vp_in_nI (by omega) (by decide), h1 i0 l b _ b1 b2 (fun q hq hc => b3 q hq (hil q hq) hc) hv⟩
  | succ n ih =>
    intro i bst hi hb
    refine x_Model_mark_8 _ _ _ _ ⟨k95, ?_⟩
    rw [hR.1]
    refine pk_le (tks s).length i (fun q => by omega) (fun _ => ⟨k95, m_begins hM hs hR (by omega) (bz_i (fun e => ?_) (fun e => ?_))⟩)
    · rw [n1]
      refine ih (i + 1) bst (by omega) ?_
      have hno : ∀ q ∈ (outl (kds s)).2, q.1 ≠ i := fun q hq c => by
        obtain ⟨i', l, b⟩ := q
        subst c
        rw [ent_bgn hq] at e
        cases e
      cases bst with
      | none => exact fun q hq hl => hb q hq (by have := hno q hq; omega)
      | some q0 => exact ⟨hb.1, hb.2.1, fun q hq hl => hb.2.2 q hq (by have := hno q hq; omega)⟩
    · obtain ⟨l, b, he⟩ := bgn_ent e
      obtain ⟨g1, g2, g3, g4, g5⟩ := ent_i hs he
      have hts := htb i (by omega)
      have huq : ∀ q ∈ (outl (kds s)).2, q.1 < i + 1 → q.1 < i ∨ q = (i, l, b) := fun q hq hl => by
        by_cases c : q.1 = i
        · obtain ⟨i', l', b'⟩ := q
          dsimp only at c
          subst c
          obtain ⟨rfl, rfl⟩ := ent_un hq he
          exact Or.inr rfl
        · exact Or.inl (by omega)
      have skip : ¬ cvr (tks s) x (i, l, b) → imb (tks s) (outl (kds s)).2 x (i + 1) bst := fun hn => by
        cases bst with
        | none =>
          intro q hq hl
          rcases huq q hq hl with c | c
          · exact hb q hq c
          · rw [c]; exact hn
        | some q0 =>
          refine ⟨hb.1, hb.2.1, fun q hq hl hp' => ?_⟩
          rcases huq q hq hl with c | c
          · exact hb.2.2 q hq c hp'
          · rw [c] at hp'; exact absurd hp' hn
      have h100 := (hR.2.1.at (show i < (tks s).length by omega)).1
      rw [Nat.zero_add, Nat.zero_add] at h100
      simp only [k95, p10, k100, nzl 100 (by decide), true_and]
      rw [clp (show i < 2 ^ 31 by omega), h100, n1]
      refine ⟨vp_in_nI (by omega) (by decide), fun c => ?_, fun c => m_spanEnd hM hs hR he ⟨fun c2 => ?_, fun c2 => ?_⟩⟩
      · rw [ltn (by omega)] at c
        exact ih (i + 1) bst (by omega) (skip (fun q => by have := q.1; dsimp only at this; omega))
      · rw [nle (by omega)] at c2
        exact ih (i + 1) bst (by omega) (skip (fun q => by have := q.2; dsimp only at this; omega))
      · rw [ltn (by omega)] at c
        rw [nle (by omega)] at c2
        refine ih (i + 1) (some (i, l, b)) (by omega) ⟨he, ⟨by dsimp only; omega, by dsimp only; omega⟩, fun q hq hl _ => ?_⟩
        dsimp only
        omega
theorem m_mark (hM : MO P) (h : MC I bf ld s mk rl R cy) {x : Int32} (h0 : ∀ I', FrR I I' → MC I' bf ld s mk rl R cy → (∀ q ∈ (outl (kds s)).2, ¬ cvr (tks s) x q) → Q (-(nI 1)) I' P) (h1 : ∀ I' i l b v, FrR I I' → MC I' bf ld s mk rl R cy → (i, l, b) ∈ (outl (kds s)).2 → cvr (tks s) x (i, l, b) → (∀ q ∈ (outl (kds s)).2, cvr (tks s) x q → q.1 ≤ i) → mk[tst (tks s) i]? = some v → Q v I' P) : V E (d + 4) m_Model_mark 112 Q 0 [some (.inr 95), some (.inl x), none, none] [] 112 I P := by
  refine x_Model_mark_0 _ _ ⟨k95, m_read hM h (fun I' f h' r => ?_)⟩
  exact l_mark (d := d + 3) hM h.2.2.1.2.2 r h'.2.2.2.1.1 h'.2.2.2.1.2 (h0 I' f h') (fun i l b v => h1 I' i l b v f h') (kds s).length 0 none (by omega) (fun q _ hl => by omega)
end MK
