/-! Entries of the outline are the tokens that begin; which one ends next. -/
theorem ent_spn {ks : List Nat} {i l b : Nat} (h : (i, l, b) ∈ (outl ks).2) : ∃ f e, (f, e, true) ∈ spns ks ∧ f ≤ i ∧ i ≤ l ∧ l < e ∧ e < ks.length ∧ n12 ks[i]? ∧ ∃ dp, le_ false (ks.drop i) = some (l - i + 1, dp) ∧ b + dp ≤ 12 := by
  obtain ⟨f, e, h1, -, h2⟩ := (out_all ks ks.length 0 0 (by omega) (Nat.le_refl _)).2.1 i l b h
  exact ⟨f, e, h1, h2⟩
theorem ent_bgn {ks : List Nat} {i l b : Nat} (h : (i, l, b) ∈ (outl ks).2) : bgn ks i = true := by
  obtain ⟨f, e, h1, h2, h3, h4, h5, h6, -⟩ := ent_spn h
  have := gdi_of h1 h2 (by omega : i ≤ e)
  unfold bgn
  rw [this]
  rcases h6 with q | q <;> rw [q] <;> rfl
theorem bgn_ent {ks : List Nat} {i : Nat} (h : bgn ks i = true) : ∃ l b, (i, l, b) ∈ (outl ks).2 := by
  unfold bgn at h
  rw [Bool.and_eq_true] at h
  obtain ⟨h1, h2⟩ := h
  have hn : n12 ks[i]? := by
    rw [Bool.or_eq_true] at h2
    rcases h2 with q | q
    · exact Or.inl (by simpa using q)
    · exact Or.inr (by simpa using q)
  unfold gdi at h1
  rw [List.any_eq_true] at h1
  obtain ⟨⟨f, e, g⟩, hm, hc⟩ := h1
  simp only [Bool.and_eq_true, decide_eq_true_eq] at hc
  obtain ⟨rfl, c1, c2⟩ := hc
  have ha := out_all ks ks.length 0 0 (by omega) (Nat.le_refl _)
  have h5 := ha.2.2.2.2.1 f e true hm
  obtain ⟨-, -, -, h6⟩ := h5
  obtain ⟨-, h7, -⟩ := h6 rfl
  have hne : i ≠ e := fun c => by
    subst c
    rw [h7] at hn
    rcases hn with q | q <;> cases q
  exact ha.2.2.1 f e hm i c1 (by omega) hn
theorem ent_pw (ks : List Nat) : (outl ks).2.Pairwise (fun x y => x.2.1 < y.2.1) := (out_all ks ks.length 0 0 (by omega) (Nat.le_refl _)).2.2.2.1
/-- one entry for each first token -/
theorem ent_un {ks : List Nat} {i l b l' b' : Nat} (h : (i, l, b) ∈ (outl ks).2) (h' : (i, l', b') ∈ (outl ks).2) : l = l' ∧ b = b' := by
  obtain ⟨f, e, -, -, a1, -, -, -, dp, a2, -⟩ := ent_spn h
  obtain ⟨f', e', -, -, b1, -, -, -, dp', b2, -⟩ := ent_spn h'
  rw [a2] at b2
  have hl : l = l' := by
    have := congrArg (fun o => o.map Prod.fst) b2
    simp at this
    omega
  subst hl
  obtain ⟨x, hx, ex⟩ := List.getElem_of_mem h
  obtain ⟨y, hy, ey⟩ := List.getElem_of_mem h'
  have hp := List.pairwise_iff_getElem.mp (ent_pw ks)
  by_cases c : x = y
  · subst c
    have := ex.symm.trans ey
    injection this with _ h2
    injection h2 with _ h3
    exact ⟨rfl, h3⟩
  · rcases Nat.lt_or_gt_of_ne c with q | q
    · have := hp x y hx hy q
      rw [ex, ey] at this
      dsimp only at this
      omega
    · have := hp y x hy hx q
      rw [ex, ey] at this
      dsimp only at this
      omega
theorem ten_mono {Z : List ItC} (hw : ∀ z ∈ Z, z.2.2 ≠ []) {i j : Nat} (h : i < j) (hj : j < Z.length) : ten (psn 0 Z) i < ten (psn 0 Z) j := by
  rw [ten_psn (by omega), ten_psn hj]
  have e : Z.take (j + 1) = Z.take (i + 1) ++ (Z.drop (i + 1)).take (j - i) := by
    rw [show j + 1 = i + 1 + (j - i) by omega, List.take_add]
  rw [e, ftl_app]
  have hl : 0 < ((Z.drop (i + 1)).take (j - i)).length := by
    rw [List.length_take, List.length_drop]
    omega
  cases hc : (Z.drop (i + 1)).take (j - i) with
  | nil => rw [hc] at hl; simp at hl
  | cons z r =>
    obtain ⟨sp, k, w⟩ := z
    have hz : (sp, k, w) ∈ Z := by
      have : (sp, k, w) ∈ (Z.drop (i + 1)).take (j - i) := by rw [hc]; exact List.mem_cons_self
      exact List.mem_of_mem_drop (List.mem_of_mem_take this)
    have := hw _ hz
    have : 0 < w.length := List.length_pos_iff.mpr this
    rw [ftl_c]
    omega
/-- the entry that ends next behind a place -/
def nxb (A : List (Nat × Nat × Nat)) (ex : List (Nat × Nat × Nat)) (p : Nat) : Option (Nat × Nat × Nat) := ex.find? (fun q => decide (p < ten A q.2.1))
def nbv (A : List (Nat × Nat × Nat)) (ex : List (Nat × Nat × Nat)) (p : Nat) : Int32 := match nxb A ex p with
  | some q => nI q.1
  | none => -(nI 1)
theorem nxb_n {A ex : List (Nat × Nat × Nat)} {p : Nat} (h : ∀ q ∈ ex, ten A q.2.1 ≤ p) : nxb A ex p = none := by
  unfold nxb
  rw [List.find?_eq_none]
  intro q hq
  have := h q hq
  simp
  omega
theorem nxb_s {A ex : List (Nat × Nat × Nat)} {p : Nat} {q0 : Nat × Nat × Nat} (hm : ∀ i j, i < j → j < A.length → ten A i < ten A j) (hp : ex.Pairwise (fun x y => x.2.1 < y.2.1)) (hl : ∀ q ∈ ex, q.2.1 < A.length) (h : q0 ∈ ex) (h1 : p < ten A q0.2.1) (h2 : ∀ q ∈ ex, p < ten A q.2.1 → ten A q0.2.1 ≤ ten A q.2.1) : nxb A ex p = some q0 := by
  unfold nxb
  cases hf : ex.find? (fun q => decide (p < ten A q.2.1)) with
  | none =>
    rw [List.find?_eq_none] at hf
    exact absurd (decide_eq_true h1) (hf q0 h)
  | some q' =>
    obtain ⟨c1, as, bs, e, c2⟩ := List.find?_eq_some_iff_append.mp hf
    have c1 := of_decide_eq_true c1
    have hq' : q' ∈ ex := by rw [e]; simp
    rw [e] at h
    rcases List.mem_append.mp h with q | q
    · have := c2 q0 q
      simp at this
      omega
    · rcases List.mem_cons.mp q with q | q
      · rw [q]
      · exfalso
        rw [e, List.pairwise_append] at hp
        have := (List.pairwise_cons.mp hp.2.1).1 q0 q
        have := hm _ _ this (hl q0 (by rw [e]; exact h))
        have := h2 q' hq' c1
        omega
theorem tks_mono (s : List Int32) : ∀ i j, i < j → j < (tks s).length → ten (tks s) i < ten (tks s) j := fun i j h hj => by
  unfold tks at hj ⊢
  rw [psn_len] at hj
  exact ten_mono (LX_w _ _ (lxT_ok s).1) h hj
theorem ent_lt {s : List Int32} : ∀ q ∈ (outl (kds s)).2, q.2.1 < (tks s).length := fun q hq => by
  obtain ⟨i, l, b⟩ := q
  obtain ⟨f, e, -, -, -, h1, h2, -⟩ := ent_spn hq
  have : (kds s).length = (tks s).length := by unfold kds; rw [List.length_map]
  show l < _
  omega
theorem MR.at {I : mI} {base off : Nat} {A : List (Nat × Nat × Nat)} (h : MR I base off A) {t : Nat} (ht : t < A.length) : I 100 (base + t) = nI (off + tst A t) ∧ I 101 (base + t) = nI (off + ten A t) := by
  have e : A[t]? = some A[t] := List.getElem?_eq_getElem ht
  generalize A[t] = q at e
  obtain ⟨k, a, b⟩ := q
  have := h t k a b e
  unfold tst ten
  rw [e]
  exact ⟨this.2.1, this.2.2⟩
theorem RDs.lst {I : mI} {s : List Int32} (hR : RDs I s) {i l b : Nat} (h : (i, l, b) ∈ (outl (kds s)).2) : I 102 i = nI l := by
  obtain ⟨f, e, -, -, a1, a2, a3, -, dp, a4, -⟩ := ent_spn h
  have := ((hR.2.2.1 i (by omega)).s a4).1
  rw [Nat.zero_add] at this
  rw [this]
  congr 1
  omega
section NB
variable {E : XE} {d : Nat} {Q : Int32 → mI → mP → Prop} {P : mP} {s : List Int32} {I : mI}
theorem m_spanEnd (hM : MO P) (hs : s.length ≤ 120) (hR : RDs I s) {i l b : Nat} (he : (i, l, b) ∈ (outl (kds s)).2) (hq : Q (nI (ten (tks s) l)) I P) : V E d m_Model_spanEnd 112 Q 0 [some (.inr 95), some (.inl (nI i))] [] 112 I P := by
  have hl := ent_lt _ he
  obtain ⟨f, e, -, -, a1, -⟩ := ent_spn he
  have htl := tks_len s
  obtain ⟨p0, p1, -, p9, p10, p11, p12, -⟩ := hM
  have h101 := (hR.2.1.at hl).2
  rw [Nat.zero_add, Nat.zero_add] at h101
  dsimp only at hl h101
  refine x_Model_spanEnd_0 _ _ ?_
  simp only [k95, p11, p12, k101, k102, nzl 101 (by decide), nzl 102 (by decide), true_and]
  rw [clp (show i < 2 ^ 31 by omega), hR.lst he, clp (show l < 2 ^ 31 by omega), h101]
  exact ⟨vp_in_nI (by omega) (by decide), vp_in_nI (by omega) (by decide), hq⟩
/-- the best so far -/
def isb (A ex : List (Nat × Nat × Nat)) (p i : Nat) : Option (Nat × Nat × Nat) → Prop
  | none => ∀ q ∈ ex, q.1 < i → ten A q.2.1 ≤ p
  | some q0 => q0 ∈ ex ∧ p < ten A q0.2.1 ∧ ∀ q ∈ ex, q.1 < i → p < ten A q.2.1 → ten A q0.2.1 ≤ ten A q.2.1
def ibv : Option (Nat × Nat × Nat) → Int32
  | none => -(nI 1)
  | some q => nI q.1
theorem neg_lt : -(nI 1) < (0 : Int32) := by decide
theorem nn_lt {n : Nat} (h : n < 2 ^ 31) : ¬ nI n < (0 : Int32) := by
  have e : (nI n < nI 0) ↔ _ := ltn (x := nI n) (n := 0) (by decide)
  rw [nI_t h] at e
  intro c
  have := e.mp c
  omega
theorem l_nextBehind (hM : MO P) (hs : s.length ≤ 120) (hR : RDs I s) {p : Nat} (hp : p < 2 ^ 20) (hq : Q (nbv (tks s) (outl (kds s)).2 p) I P) : ∀ (n i : Nat) (bst : Option (Nat × Nat × Nat)), i + n = (kds s).length → isb (tks s) (outl (kds s)).2 p i bst → V E (d + 1) m_Model_nextBehind 112 Q 4 [some (.inr 95), some (.inl (nI p)), some (.inl (ibv bst)), some (.inl (nI i))] [] 112 I P := by
  have htl := tks_len s
  have hkl : (kds s).length = (tks s).length := by unfold kds; rw [List.length_map]
  have hil : ∀ q ∈ (outl (kds s)).2, q.1 < (kds s).length := fun q hq => by
    obtain ⟨i, l, b⟩ := q
    obtain ⟨f, e, -, -, h0, h1, h2, -⟩ := ent_spn hq
    show i < _
    omega
  have htb : ∀ t, t < (tks s).length → ten (tks s) t ≤ 120 := fun t ht => by
    have e : (tks s)[t]? = some (tks s)[t] := List.getElem?_eq_getElem ht
    have := tks_bd s _ (List.getElem_mem ht)
    unfold ten
    rw [e]
    dsimp only
    omega
  intro n
  induction n with
  | zero =>
    intro i bst hi hb
    refine x_Model_nextBehind_4 _ _ _ _ ⟨k95, ?_⟩
    rw [hR.1]
    refine pk_le (tks s).length i (fun _ => ?_) (fun q => by omega)
    cases bst with
    | none =>
      have := nxb_n (fun q hq => hb q hq (by have := hil q hq; omega))
      unfold nbv at hq
      rw [this] at hq
      exact hq
    | some q0 =>
      obtain ⟨b1, b2, b3⟩ := hb
      have := nxb_s (tks_mono s) (ent_pw _) ent_lt b1 b2 (fun q hq => b3 q hq (by have := hil q hq; omega))
      unfold nbv at hq
      rw [this] at hq
      exact hq
  | succ n ih =>
    intro i bst hi hb
    refine x_Model_nextBehind_4 _ _ _ _ ⟨k95, ?_⟩
    rw [hR.1]
    refine pk_le (tks s).length i (fun q => by omega) (fun _ => ⟨k95, m_begins hM hs hR (by omega) (bz_i (fun e => ?_) (fun e => ⟨k95, ?_⟩))⟩)
    · rw [n1]
      refine ih (i + 1) bst (by omega) ?_
      have hno : ∀ q ∈ (outl (kds s)).2, q.1 ≠ i := fun q hq c => by
        obtain ⟨i', l, b⟩ := q
        subst c
        rw [ent_bgn hq] at e
        cases e
      cases bst with
      | none => exact fun q hq hl => hb q hq (by have := hno q hq; omega)
      | some q0 => exact ⟨hb.1, hb.2.1, fun q hq hl => hb.2.2 q hq (by have := hno q hq; omega)⟩
    · obtain ⟨l, b, he⟩ := bgn_ent e
      have hl := ent_lt _ he
      have hlb := htb l hl
      rw [n1]
      have huq : ∀ q ∈ (outl (kds s)).2, q.1 < i + 1 → q.1 < i ∨ q = (i, l, b) := fun q hq hl => by
        by_cases c : q.1 = i
        · obtain ⟨i', l', b'⟩ := q
          dsimp only at c
          subst c
          obtain ⟨rfl, rfl⟩ := ent_un hq he
          exact Or.inr rfl
        · exact Or.inl (by omega)
      refine m_spanEnd hM hs hR he (pk_le _ p (fun hle => ih (i + 1) bst (by omega) ?_) (fun hgt => ?_))
      · cases bst with
        | none =>
          intro q hq hl
          rcases huq q hq hl with c | c
          · exact hb q hq c
          · rw [c]; exact hle
        | some q0 =>
          refine ⟨hb.1, hb.2.1, fun q hq hl hp' => ?_⟩
          rcases huq q hq hl with c | c
          · exact hb.2.2 q hq c hp'
          · rw [c] at hp'; dsimp only at hp'; omega
      · cases bst with
        | none =>
          refine ⟨fun _ => ih (i + 1) (some (i, l, b)) (by omega) ⟨he, by dsimp only; omega, fun q hq hl hp' => ?_⟩, fun c => absurd neg_lt c⟩
          rcases huq q hq hl with c | c
          · have := hb q hq c
            omega
          · rw [c]; exact Nat.le_refl _
        | some q0 =>
          obtain ⟨i0, l0, b0⟩ := q0
          obtain ⟨b1, b2, b3⟩ := hb
          have hl0 := ent_lt _ b1
          have hlb0 := htb l0 hl0
          have hi0 := hil _ b1
          dsimp only at hi0
          refine ⟨fun c => absurd c (nn_lt (by omega)), fun _ => ⟨k95, m_spanEnd hM hs hR he ⟨k95, m_spanEnd hM hs hR b1 (pk_le _ _ (fun hle => ?_) (fun hg2 => ?_))⟩⟩⟩
          · refine ih (i + 1) (some (i0, l0, b0)) (by omega) ⟨b1, b2, fun q hq hl hp' => ?_⟩
            rcases huq q hq hl with c | c
            · exact b3 q hq c hp'
            · rw [c]; exact hle
          · refine ih (i + 1) (some (i, l, b)) (by omega) ⟨he, by dsimp only; omega, fun q hq hl hp' => ?_⟩
            rcases huq q hq hl with c | c
            · have := b3 q hq c hp'
              dsimp only at this ⊢
              omega
            · rw [c]; exact Nat.le_refl _
theorem m_nextBehind (hM : MO P) (hs : s.length ≤ 120) (hR : RDs I s) {p : Nat} (hp : p < 2 ^ 20) (hq : Q (nbv (tks s) (outl (kds s)).2 p) I P) : V E (d + 1) m_Model_nextBehind 112 Q 0 [some (.inr 95), some (.inl (nI p)), none, none] [] 112 I P :=
  x_Model_nextBehind_0 _ _ (l_nextBehind hM hs hR hp hq (kds s).length 0 none (by omega) (fun q hq hl => by omega))
end NB
