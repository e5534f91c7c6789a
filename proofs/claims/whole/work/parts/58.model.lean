/-- how many expressions begin at token i and later -/
def nbg (ks : List Nat) : Nat → Nat → Nat
  | 0, _ => 0
  | n + 1, i => (if bgn ks i = true then 1 else 0) + nbg ks n (i + 1)
section ME
variable {E : XE} {d : Nat} {Q : Int32 → mI → mP → Prop} {P : mP} {bf ld s mk : List Int32} {rl : List (List Int32)} {R : Nat} {cy : Int32} {I : mI}
theorem l_expressions (hM : MO P) (hs : s.length ≤ 120) (hR : RDs I s) : ∀ (n i c : Nat), i + n = (kds s).length → Q (nI (c + nbg (kds s) n i)) I P → V E (d + 1) m_Model_expressions 112 Q 8 [some (.inr 95), some (.inl (nI c)), some (.inl (nI i))] [] 112 I P := by
  have htl := tks_len s
  have hkl : (kds s).length = (tks s).length := by unfold kds; rw [List.length_map]
  intro n
  induction n with
  | zero =>
    intro i c hi h
    refine x_Model_expressions_8 _ _ _ ⟨k95, ?_⟩
    rw [hR.1]
    exact pk_le (tks s).length i (fun _ => h) (fun q => by omega)
  | succ n ih =>
    intro i c hi h
    refine x_Model_expressions_8 _ _ _ ⟨k95, ?_⟩
    rw [hR.1]
    refine pk_le (tks s).length i (fun q => by omega) (fun _ => ⟨k95, m_begins hM hs hR (by omega) (bz_i (fun e => ?_) (fun e => ?_))⟩)
    · rw [nI_add, n1]
      refine ih (i + 1) (c + 0) (by omega) ?_
      have : nbg (kds s) (n + 1) i = 0 + nbg (kds s) n (i + 1) := by
        show (if _ then _ else _) + _ = _
        rw [if_neg (by rw [e]; decide)]
      rw [this, ← Nat.add_assoc] at h
      exact h
    · rw [n1, n1]
      refine ih (i + 1) (c + 1) (by omega) ?_
      have : nbg (kds s) (n + 1) i = 1 + nbg (kds s) n (i + 1) := by
        show (if _ then _ else _) + _ = _
        rw [if_pos e]
      rw [this, ← Nat.add_assoc] at h
      exact h
theorem m_expressions (hM : MO P) (h : MC I bf ld s mk rl R cy) (hq : ∀ I', FrR I I' → MC I' bf ld s mk rl R cy → Q (nI (nbg (kds s) (kds s).length 0)) I' P) : V E (d + 4) m_Model_expressions 112 Q 0 [some (.inr 95), none, none] [] 112 I P := by
  refine x_Model_expressions_0 _ ⟨k95, m_read hM h (fun I' f h' r => ?_)⟩
  refine l_expressions hM h.2.2.1.2.2 r (kds s).length 0 0 (by omega) ?_
  rw [Nat.zero_add]
  exact hq I' f h'
end ME
