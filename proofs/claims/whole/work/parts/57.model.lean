/-! The reference's program, read. -/
def RDs (I : mI) (s : List Int32) : Prop := I 95 16 = nI (tks s).length ∧ MR I 0 0 (tks s) ∧ (∀ t, t < (kds s).length → LDR false I 0 (kds s) t) ∧ GR I (spns (kds s))
theorem spn_cov (ks : List Nat) : ∀ (n f t : Nat), t + n = ks.length → f ≤ t → ∀ i, f ≤ i → i < ks.length → ∃ f' e' g, (f', e', g) ∈ spn ks n f t ∧ f' ≤ i ∧ i ≤ e'
  | 0, f, t, h, hf, i, h1, h2 => by
    unfold spn
    rw [if_pos (by omega)]
    exact ⟨f, t - 1, false, List.mem_singleton.mpr rfl, h1, by omega⟩
  | n + 1, f, t, h, hf, i, h1, h2 => by
    rw [spn_s]
    split
    · by_cases c : i ≤ t
      · exact ⟨f, t, _, List.mem_cons_self, h1, c⟩
      · obtain ⟨f', e', g, hm, a, b⟩ := spn_cov ks n (t + 1) (t + 1) (by omega) (Nat.le_refl _) i (by omega) h2
        exact ⟨f', e', g, List.mem_cons_of_mem _ hm, a, b⟩
    · exact spn_cov ks n f (t + 1) (by omega) (by omega) i h1 h2
/-- is token i in a good statement -/
def gdi (ks : List Nat) (i : Nat) : Bool := (spns ks).any (fun q => q.2.2 && decide (q.1 ≤ i ∧ i ≤ q.2.1))
theorem gdi_of {ks : List Nat} {i f e : Nat} {g : Bool} (hm : (f, e, g) ∈ spns ks) (h1 : f ≤ i) (h2 : i ≤ e) : gdi ks i = g := by
  have hpw := (out_all ks ks.length 0 0 (by omega) (Nat.le_refl _)).2.2.2.2.2
  unfold gdi
  cases g with
  | true =>
    rw [List.any_eq_true]
    exact ⟨_, hm, by simp [h1, h2]⟩
  | false =>
    rw [List.any_eq_false]
    intro q hq c
    obtain ⟨f', e', g'⟩ := q
    simp only [Bool.and_eq_true, decide_eq_true_eq] at c
    obtain ⟨c1, c2, c3⟩ := c
    obtain ⟨a, ha, ea⟩ := List.getElem_of_mem hm
    obtain ⟨b, hb, eb⟩ := List.getElem_of_mem hq
    have hp := List.pairwise_iff_getElem.mp hpw
    by_cases e1 : a = b
    · subst e1
      have := ea.symm.trans eb
      cases this
      cases c1
    · rcases Nat.lt_or_gt_of_ne e1 with l | l
      · have := hp a b ha hb l
        have ea' : (spn ks ks.length 0 0)[a] = (f, e, false) := ea
        have eb' : (spn ks ks.length 0 0)[b] = (f', e', g') := eb
        rw [ea', eb'] at this
        dsimp only at this
        omega
      · have := hp b a hb ha l
        have ea' : (spn ks ks.length 0 0)[a] = (f, e, false) := ea
        have eb' : (spn ks ks.length 0 0)[b] = (f', e', g') := eb
        rw [ea', eb'] at this
        dsimp only at this
        omega
def bgn (ks : List Nat) (i : Nat) : Bool := gdi ks i && (ks[i]? == some 1 || ks[i]? == some 2)
section MB
variable {E : XE} {d : Nat} {Q : Int32 → mI → mP → Prop} {P : mP} {bf ld s mk : List Int32} {rl : List (List Int32)} {R : Nat} {cy : Int32} {I : mI}
theorem FrR.mc {I' : mI} (hf : FrR I I') (h : MC I bf ld s mk rl R cy) : MC I' bf ld s mk rl R cy := h.fr (fun j hj => hf.2.1 j (by omega) (by omega)) (fun m a b => hf.1 m (by omega) (by omega))
theorem m_read (hM : MO P) (h : MC I bf ld s mk rl R cy) (hq : ∀ I', FrR I I' → MC I' bf ld s mk rl R cy → RDs I' s → Q (nI 0) I' P) : V E (d + 3) m_Model_read 112 Q 0 [some (.inr 95), none, none, none, none] [] 112 I P :=
  s_read hM h.2.2.1.2.2 h.2.2.1.1 h.2.2.1.2.1 (fun I' f a b c e => hq I' f (f.mc h) ⟨a, b, c, e⟩)
theorem m_statements (hM : MO P) (h : MC I bf ld s mk rl R cy) (hq : ∀ I', FrR I I' → MC I' bf ld s mk rl R cy → Q (nI (spns (kds s)).length) I' P) : V E (d + 4) m_Model_statements 112 Q 0 [some (.inr 95)] [] 112 I P := by
  refine x_Model_statements_0 _ ⟨k95, m_read hM h (fun I' f h' r => ⟨k95, ?_⟩)⟩
  rw [r.2.2.2.1]
  exact hq I' f h'
theorem m_begins (hM : MO P) (hs : s.length ≤ 120) (hR : RDs I s) {i : Nat} (hi : i < (kds s).length) (hq : Q (bI (bgn (kds s) i)) I P) : V E d m_Model_begins 112 Q 0 [some (.inr 95), some (.inl (nI i))] [] 112 I P := by
  obtain ⟨-, hMR, -, hG⟩ := hR
  have htl := tks_len s
  have hkl : (kds s).length = (tks s).length := by unfold kds; rw [List.length_map]
  have hms := hMR.ms
  have hk := kds_k10 s
  obtain ⟨p0, p1, -, p9, -, -, -, -, p14, -⟩ := hM
  obtain ⟨f, e, g, hm, h1, h2⟩ := spn_cov (kds s) (kds s).length 0 0 (by omega) (Nat.le_refl _) i (Nat.zero_le _) hi
  have hg : gdi (kds s) i = g := gdi_of hm h1 h2
  obtain ⟨j, hj, ej⟩ := List.getElem_of_mem hm
  have h104 : I 104 i = bI g := (hG.2 j f e g (by unfold spns; rw [List.getElem?_eq_getElem hj, ej]) i h1 h2).1
  have hq99 : (kds s)[i]? = some (kds s)[i] := List.getElem?_eq_getElem hi
  have h99 := hms i _ hq99
  have h10 : (kds s)[i] < 10 := hk _ (List.getElem_mem _)
  rw [Nat.zero_add] at h99
  refine x_Model_begins_0 _ _ ?_
  simp only [k95, p14, k104, p9, k99, nzl 104 (by decide), nzl 99 (by decide), true_and]
  rw [clp (show i < 2 ^ 31 by omega), h104, h99, rc_eq h10 (Or.inl rfl), rc_eq h10 (Or.inr (Or.inl rfl))]
  unfold bgn at hq
  rw [hg, hq99] at hq
  generalize (kds s)[i] = k at hq h10
  refine ⟨vp_in_nI (by omega) (by decide), bz_i (fun c => ⟨rfl, ?_⟩) (fun c => ⟨vp_in_nI (by omega) (by decide), fun c1 => ⟨rfl, ?_⟩, fun c1 => ⟨vp_in_nI (by omega) (by decide), fun c2 => ⟨rfl, ?_⟩, fun c2 => ⟨rfl, ?_⟩⟩⟩)⟩
  · rw [c] at hq
    exact hq
  · rw [c, c1] at hq
    exact hq
  · have e1 : (some k == some 1 || some k == some 2) = false := by simp [c1, c2]
    rw [c, e1] at hq
    exact hq
  · rw [c, c2] at hq
    exact hq
end MB
