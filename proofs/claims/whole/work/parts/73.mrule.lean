/-! Model.rule, load; a rule is a rule for both. -/
theorem okw_36 {w r : List Int32} (h : okw 3 w r) : w = [nI 36, nI (48 + dgw w)] := by
  obtain ⟨c, dg, hd, hw, hdg⟩ := okw3 h
  obtain ⟨c', cs, hw', -, -, h3, -⟩ := h
  rw [hw] at hw'
  injection hw' with e1 e2
  subst e1
  have hc : c = nI 36 := by
    unfold tkK at h3
    split at h3
    · cases h3
    · split at h3
      · cases h3
      · split at h3
        · assumption
        · repeat' (split at h3)
          all_goals (exact absurd h3 (by decide))
  rw [hdg, hw, hc]
theorem tkw_LX {s : List Int32} {t k : Nat} {sp w : List Int32} (hz : (lxT s).1[t]? = some (sp, k, w)) : tkw s (tks s) t = some w := by
  have ht : t < (tks s).length := by unfold tks; rw [psn_len]; exact (List.getElem?_eq_some_iff.mp hz).1
  unfold tkw
  rw [if_pos ht]
  have e := (sub_psn (Z := (lxT s).1) (R := []) (t := (lxT s).2) (f := t) (b := t + 1) (k := k) (sp := sp) (w := w) (by omega) (by have := (List.getElem?_eq_some_iff.mp hz).1; omega) (by rw [drop_it hz, show t + 1 - t = 1 by omega]; rfl)).2.2
  rw [(lxT_ok s).2, Nat.add_sub_cancel] at e
  unfold tks
  rw [e]
  simp [fl]
theorem anyq_iff (x : List Int32) (i : Nat) : ∀ (n q : Nat), anyq x i n q = true ↔ ∃ j, q ≤ j ∧ j < q + n ∧ sTk x (tks x) i x (tks x) j = true
  | 0, q => by
    refine ⟨fun h => (by cases h), fun ⟨j, h1, h2, _⟩ => (by omega)⟩
  | n + 1, q => by
    have es : anyq x i (n + 1) q = (sTk x (tks x) i x (tks x) q || anyq x i n (q + 1)) := rfl
    rw [es, Bool.or_eq_true, anyq_iff x i n (q + 1)]
    constructor
    · rintro (h | ⟨j, h1, h2, h3⟩)
      · exact ⟨q, Nat.le_refl _, by omega, h⟩
      · exact ⟨j, by omega, by omega, h3⟩
    · rintro ⟨j, h1, h2, h3⟩
      by_cases c : j = q
      · subst c; exact Or.inl h3
      · exact Or.inr ⟨j, by omega, by omega, h3⟩
theorem allk_iff (x : List Int32) (ar : Nat) : ∀ (n i : Nat), allk x ar n i = true ↔ ∀ j, i ≤ j → j < i + n → (kds x)[j]? = some 3 → anyq x j (ar + 1) 0 = true
  | 0, i => ⟨fun _ j h1 h2 => by omega, fun _ => rfl⟩
  | n + 1, i => by
    have es : allk x ar (n + 1) i = ((!((kds x)[i]? == some 3) || anyq x i (ar + 1) 0) && allk x ar n (i + 1)) := rfl
    rw [es, Bool.and_eq_true, allk_iff x ar n (i + 1), Bool.or_eq_true]
    constructor
    · rintro ⟨h1, h2⟩ j hj1 hj2 h3
      by_cases c : j = i
      · subst c
        rcases h1 with h1 | h1
        · rw [h3] at h1; simp at h1
        · exact h1
      · exact h2 j (by omega) (by omega) h3
    · intro h
      refine ⟨?_, fun j h1 h2 h3 => h j (by omega) (by omega) h3⟩
      by_cases c : (kds x)[i]? = some 3
      · exact Or.inr (h i (Nat.le_refl _) (by omega) c)
      · exact Or.inl (by simpa using c)
theorem rfR_isR (x : List Int32) : rfR x = (isR (lxT x).1).isSome := by
  have hkd : kds x = (lxT x).1.map (fun z => z.2.1) := by unfold kds tks; rw [kds_psn]
  have hLX := (lxT_ok x).1
  have hlen : (kds x).length = (lxT x).1.length := by rw [hkd, List.length_map]
  have key : ∀ ar, ar + 1 ≤ (kds x).length → (allk x ar ((kds x).length - (ar + 1)) (ar + 1) = true ↔ knw ar 0 (lxT x).1 (fun _ => false) = true) := by
    intro ar har
    rw [allk_iff, knw_iff]
    have hk3 : ∀ j, (kds x)[j]? = some 3 → ∃ sp w, (lxT x).1[j]? = some (sp, 3, w) := fun j hj => by
      rw [hkd, List.getElem?_map] at hj
      cases hz : (lxT x).1[j]? with
      | none => rw [hz] at hj; cases hj
      | some z =>
        obtain ⟨sp, k, w⟩ := z
        rw [hz] at hj
        injection hj with hj
        dsimp only at hj
        subst hj
        exact ⟨sp, w, hz⟩
    constructor
    · intro h i sp w hz hi
      right
      have hil := (List.getElem?_eq_some_iff.mp hz).1
      have h3 : (kds x)[i]? = some 3 := by rw [hkd, List.getElem?_map, hz]; rfl
      obtain ⟨j, -, hj, hs⟩ := (anyq_iff x i _ _).mp (h i (by omega) (by omega) h3)
      have hs := of_decide_eq_true hs
      have hjl : j < (tks x).length := by
        have := kds_len x
        omega
      have hk := tkw_k hs.1 hjl hs.2
      rw [h3] at hk
      obtain ⟨sp', w', hz'⟩ := hk3 j hk.symm
      refine ⟨j, sp', w', by omega, by omega, hz', ?_⟩
      have := hs.2
      rw [tkw_LX hz, tkw_LX hz'] at this
      cases this
      rfl
    · intro h j h1 h2 h3
      obtain ⟨sp, w, hz⟩ := hk3 j h3
      rcases h j sp w hz (by omega) with c | ⟨j', sp', w', a1, a2, a3, a4⟩
      · cases c
      · refine (anyq_iff x j _ _).mpr ⟨j', by omega, by omega, decide_eq_true ⟨by have := kds_len x; omega, ?_⟩⟩
        rw [tkw_LX hz, tkw_LX a3, okw_36 (LX_at hLX hz).2, okw_36 (LX_at hLX a3).2, a4]
  unfold rfR isR
  rw [← hkd]
  cases h : le_ true (kds x) with
  | none => rfl
  | some z =>
    obtain ⟨ar, d1⟩ := z
    dsimp only
    by_cases c1 : d1 ≤ 12 ∧ (kds x)[ar]? = some 8
    · rw [if_pos c1, decide_eq_true c1, Bool.true_and]
      have harl := (List.getElem?_eq_some_iff.mp c1.2).1
      cases h2 : le_ true ((kds x).drop (ar + 1)) with
      | none => rfl
      | some z2 =>
        obtain ⟨m, d2⟩ := z2
        dsimp only
        rw [← hlen]
        by_cases c2 : d2 ≤ 12 ∧ ar + 1 + m = (kds x).length
        · rw [if_pos c2, decide_eq_true c2, Bool.true_and]
          have hk := key ar (by omega)
          by_cases c3 : knw ar 0 (lxT x).1 (fun _ => false) = true
          · rw [if_pos c3, hk.mpr c3]
            rfl
          · rw [if_neg c3]
            cases hh : allk x ar ((kds x).length - (ar + 1)) (ar + 1) with
            | true => exact absurd (hk.mp hh) c3
            | false => rfl
        · rw [if_neg c2, decide_eq_false c2]
          rfl
    · rw [if_neg c1, decide_eq_false c1]
      rfl
section MR
variable {E : XE} {d : Nat} {Q : Int32 → mI → mP → Prop} {P : mP} {bf ld s mk : List Int32} {rl : List (List Int32)} {R : Nat} {cy : Int32}
theorem l_mrule (hM : MO P) (h6 : rl.length < 6) {I0 : mI} (hq1 : ∀ I', FrY I0 I' → MC I' [] ld s mk (rl ++ [bf]) R cy → Q (nI rl.length) I' P) : ∀ (n k : Nat) (I : mI), k + n = bf.length → MC I bf ld s mk rl R cy → FrY I0 I → Rc (I 96) (256 + 64 * rl.length) (bf.take k) → V E (d + 1) m_Model_rule 112 Q 33 [some (.inr 95), some (.inl (nI k))] [] 112 I P := by
  have p0 : P 95 0 = 96 := hM.1
  have p6 : P 95 6 = 98 := hM.2.2.1
  have em : nI 256 + nI 64 * nI rl.length = nI (256 + 64 * rl.length) := by rw [pk_mul, nI_add]
  intro n
  induction n with
  | zero =>
    intro k I hk hC fr c1
    obtain ⟨⟨b1, b2, b3⟩, ⟨c1', c2, c3⟩, ⟨d1, d2, d3⟩, ⟨e1, e2⟩, ⟨g1, g2, g3⟩, i1, i2⟩ := hC
    have u98 : ∀ v, (uI I 98 rl.length v) 95 = I 95 := fun v => uI_n (by decide)
    refine x_Model_rule_33 _ _ ⟨k95, ?_⟩
    simp only [k95, p6, k98, nzl 98 (by decide), true_and]
    rw [b1, g1, clp (show rl.length < 2 ^ 31 by omega), uI_o (show 5 ≠ 4 by decide), u98, g1, n1, uI_s, pk_sub (by omega), Nat.add_sub_cancel]
    refine pk_le bf.length k (fun _ => ⟨vp_in_nI (by omega) (by decide), hq1 _ (fun m hm => ?_) ?_⟩) (fun c => by omega)
    · rw [uI_n (by omega), uI_n (by omega), uI_n (by omega)]
      exact fr m hm
    · generalize hJ : uI (uI (uI I 98 rl.length (nI bf.length)) 95 4 (nI 0)) 95 5 (nI (rl.length + 1)) = J
      have j95 : ∀ j, j ≠ 4 → j ≠ 5 → J 95 j = I 95 j := fun j n1 n2 => by rw [← hJ, uI_o n2, uI_o n1, u98]
      have j96 : J 96 = I 96 := by rw [← hJ, uI_n (by decide), uI_n (by decide), uI_n (by decide)]
      have j97 : J 97 = I 97 := by rw [← hJ, uI_n (by decide), uI_n (by decide), uI_n (by decide)]
      have j98 : ∀ r, J 98 r = if r = rl.length then nI bf.length else I 98 r := fun r => by
        rw [← hJ, uI_n (by decide), uI_n (by decide)]
        by_cases c : r = rl.length
        · rw [if_pos c, c, uI_s]
        · rw [if_neg c, uI_o c]
      rw [List.take_of_length_le (by omega)] at c1
      refine ⟨⟨?_, fun j y hy => by simp at hy, by simp⟩, ⟨?_, ?_, c3⟩, ⟨?_, ?_, d3⟩, ⟨?_, e2⟩, ⟨?_, ?_, fun r y hy => ?_⟩, ?_, ?_⟩
      · rw [← hJ, uI_o (by decide), uI_s]; rfl
      · rw [j95 3 (by decide) (by decide)]; exact c1'
      · rw [j96]; exact c2
      · rw [j95 2 (by decide) (by decide)]; exact d1
      · rw [j96]; exact d2
      · rw [j97]; exact e1
      · rw [← hJ, uI_s, List.length_append]; rfl
      · rw [List.length_append, List.length_singleton]; omega
      · rw [j96, j98]
        by_cases c : r < rl.length
        · rw [List.getElem?_append_left c] at hy
          rw [if_neg (by omega)]
          exact g3 r y hy
        · rw [List.getElem?_append_right (by omega)] at hy
          have hr : r = rl.length := by
            have := (List.getElem?_eq_some_iff.mp hy).1
            simp at this
            omega
          subst hr
          rw [Nat.sub_self] at hy
          cases hy
          rw [if_pos rfl]
          exact ⟨rfl, c1, b3⟩
      · rw [j95 7 (by decide) (by decide)]; exact i1
      · rw [j95 8 (by decide) (by decide)]; exact i2
  | succ n ih =>
    intro k I hk hC fr c1
    have hC' := hC
    obtain ⟨⟨b1, b2, b3⟩, ⟨c1', c2, c3⟩, ⟨d1, d2, d3⟩, ⟨e1, e2⟩, ⟨g1, g2, g3⟩, i1, i2⟩ := hC'
    have v1 : bf[k]? = some bf[k] := List.getElem?_eq_getElem (by omega)
    refine x_Model_rule_33 _ _ ⟨k95, ?_⟩
    simp only [k95, p0, k96, nzl 96 (by decide), true_and]
    rw [b1, g1, em, nI_add, nI_add, clp (show 192 + k < 2 ^ 31 by omega), clp (show 256 + 64 * rl.length + k < 2 ^ 31 by omega), b2 k _ v1, n1]
    have tk1 : bf.take (k + 1) = bf.take k ++ [bf[k]] := List.take_succ_eq_append_getElem (by omega)
    have l1 : (bf.take k).length = k := by rw [List.length_take]; omega
    have e96 : (uI I 96 (256 + 64 * rl.length + k) bf[k]) 96 = upd (I 96) (256 + 64 * rl.length + k) bf[k] := by unfold uI; rw [sI_s]
    refine pk_le bf.length k (fun c => by omega) (fun _ => ⟨vp_in_nI (by omega) (by decide), vp_in_nI (by omega) (by decide), ih (k + 1) _ (by omega) ?_ (fun m hm => by rw [uI_n (by omega)]; exact fr m hm) ?_⟩)
    · refine ⟨⟨by rw [uI_n (by decide)]; exact b1, by rw [e96]; exact b2.upo (by omega), b3⟩, ⟨by rw [uI_n (by decide)]; exact c1', by rw [e96]; exact c2.upo (by omega), c3⟩, ⟨by rw [uI_n (by decide)]; exact d1, by rw [e96]; exact d2.upo (by omega), d3⟩, ⟨by rw [uI_n (by decide)]; exact e1, e2⟩, ⟨by rw [uI_n (by decide)]; exact g1, g2, fun r y hy => ?_⟩, by rw [uI_n (by decide)]; exact i1, by rw [uI_n (by decide)]; exact i2⟩
      obtain ⟨q1, q2, q3⟩ := g3 r y hy
      have hrl := (List.getElem?_eq_some_iff.mp hy).1
      exact ⟨by rw [uI_n (by decide)]; exact q1, by rw [e96]; exact q2.upo (by omega), q3⟩
    · rw [e96, tk1]
      have := c1.psh (v := bf[k])
      rw [l1] at this
      exact this
theorem m_rule (hM : MO P) {I : mI} (hC : MC I bf ld s mk rl R cy) (h6 : rl.length = 6 → Q (-(nI 1)) I P)
    (h0 : ∀ I', rl.length < 6 → isR (lxT bf).1 = none → FrY I I' → MC I' bf ld s mk rl R cy → Q (-(nI 1)) I' P)
    (h1 : ∀ I' ar, rl.length < 6 → isR (lxT bf).1 = some ar → FrY I I' → MC I' [] ld s mk (rl ++ [bf]) R cy → Q (nI rl.length) I' P) : V E (d + 4) m_Model_rule 112 Q 0 [some (.inr 95), none] [] 112 I P := by
  have hC' := hC
  obtain ⟨⟨b1, b2, b3⟩, -, -, -, ⟨g1, g2, g3⟩, -⟩ := hC'
  refine x_Model_rule_0 _ ⟨k95, ?_⟩
  rw [g1, b1]
  refine pk_lt rl.length 6 (fun c => ⟨k95, k95, m_readRule (d := d) hM b3 (by omega) b2 (fun I1 f1 hX => ⟨k95, m_isRule (d := d + 2) hM b3 (by omega) hX ?_⟩)⟩) (fun c => h6 (by omega))
  rw [rfR_isR]
  refine bn_i (fun e => ?_) (fun e => h0 I1 c ?_ f1.y (f1.mc hC))
  · obtain ⟨ar, har⟩ := Option.isSome_iff_exists.mp e
    exact l_mrule (I0 := I1) hM c (fun I2 f2 hC2 => h1 I2 ar c har (f1.y.tr f2) hC2) bf.length 0 I1 (by omega) (f1.mc hC) (fun _ _ => rfl) (fun j y hy => by simp at hy)
  · cases h : isR (lxT bf).1 with
    | none => rfl
    | some ar => rw [h] at e; cases e
theorem l_mload (hM : MO P) {I0 : mI} (hq : ∀ I', FrY I0 I' → MC I' [] bf bf (List.replicate bf.length (nI 0)) rl 0 (nI 0) → Q (nI (spns (kds bf)).length) I' P) : ∀ (n k : Nat) (I : mI), k + n = bf.length → (I 95 4 = nI bf.length ∧ Rc (I 96) 192 bf ∧ bf.length ≤ 60) → (I 95 5 = nI rl.length ∧ rl.length ≤ 6 ∧ ∀ r x, rl[r]? = some x → I 98 r = nI x.length ∧ Rc (I 96) (256 + 64 * r) x ∧ x.length ≤ 60) → FrY I0 I → Rc (I 96) 0 (bf.take k) → Rc (I 96) 128 (bf.take k) → Rc (I 97) 0 (List.replicate k (nI 0)) → V E (d + 4) m_Model_load 112 Q 2 [some (.inr 95), some (.inl (nI k))] [] 112 I P := by
  have p0 : P 95 0 = 96 := hM.1
  have p1 : P 95 1 = 97 := hM.2.1
  intro n
  induction n with
  | zero =>
    intro k I hk hb hr fr c1 c2 c3
    have hkb : k = bf.length := by omega
    subst hkb
    rw [List.take_length] at c1 c2
    obtain ⟨b1, b2, b3⟩ := hb
    obtain ⟨g1, g2, g3⟩ := hr
    refine x_Model_load_2 _ _ ⟨k95, ?_⟩
    simp only [k95, true_and]
    rw [uI_o (show 4 ≠ 2 by decide), b1]
    refine pk_le bf.length bf.length (fun _ => ?_) (fun c => by omega)
    generalize hJ : uI (uI (uI (uI (uI I 95 2 (nI bf.length)) 95 3 (nI bf.length)) 95 4 (nI 0)) 95 7 (nI 0)) 95 8 (nI 0) = J
    have jm : ∀ m, m ≠ 95 → J m = I m := fun m hm => by rw [← hJ, uI_n hm, uI_n hm, uI_n hm, uI_n hm, uI_n hm]
    have hCJ : MC J [] bf bf (List.replicate bf.length (nI 0)) rl 0 (nI 0) := by
      refine ⟨⟨?_, fun j y hy => by simp at hy, by simp⟩, ⟨?_, by rw [jm 96 (by decide)]; exact c2, b3⟩, ⟨?_, by rw [jm 96 (by decide)]; exact c1, by omega⟩, ⟨by rw [jm 97 (by decide)]; exact c3, by rw [List.length_replicate]⟩, ⟨?_, g2, fun r y hy => by rw [jm 98 (by decide), jm 96 (by decide)]; exact g3 r y hy⟩, ?_, ?_⟩
      · rw [← hJ, uI_o (by decide), uI_o (by decide), uI_s]; rfl
      · rw [← hJ, uI_o (by decide), uI_o (by decide), uI_o (by decide), uI_s]
      · rw [← hJ, uI_o (by decide), uI_o (by decide), uI_o (by decide), uI_o (by decide), uI_s]
      · rw [← hJ, uI_o (by decide), uI_o (by decide), uI_o (by decide), uI_o (by decide), uI_o (by decide)]; exact g1
      · rw [← hJ, uI_o (by decide), uI_s]
      · rw [← hJ, uI_s]
    refine m_read hM hCJ (fun I' f' hC' hR' => ?_)
    rw [hR'.2.2.2.1]
    exact hq I' (fun m hm => by rw [f'.y m hm, jm m (by omega)]; exact fr m hm) hC'
  | succ n ih =>
    intro k I hk hb hr fr c1 c2 c3
    obtain ⟨b1, b2, b3⟩ := hb
    obtain ⟨g1, g2, g3⟩ := hr
    have v1 : bf[k]? = some bf[k] := List.getElem?_eq_getElem (by omega)
    refine x_Model_load_2 _ _ ⟨k95, ?_⟩
    simp only [k95, p0, p1, k96, k97, nzl 96 (by decide), nzl 97 (by decide), true_and]
    rw [b1, nI_add, nI_add, clp (show 192 + k < 2 ^ 31 by omega), clp (show 128 + k < 2 ^ 31 by omega), clp (show k < 2 ^ 31 by omega), uI_o (show 192 + k ≠ k by omega), b2 k _ v1, n1]
    have tk1 : bf.take (k + 1) = bf.take k ++ [bf[k]] := List.take_succ_eq_append_getElem (by omega)
    have l1 : (bf.take k).length = k := by rw [List.length_take]; omega
    generalize hJ : uI (uI (uI I 96 k bf[k]) 96 (128 + k) bf[k]) 97 k (nI 0) = J
    have jm : ∀ m, m ≠ 96 → m ≠ 97 → J m = I m := fun m h1 h2 => by rw [← hJ, uI_n h2, uI_n h1, uI_n h1]
    have j96 : J 96 = upd (upd (I 96) k bf[k]) (128 + k) bf[k] := by
      rw [← hJ, uI_n (by decide)]
      unfold uI
      rw [sI_s, sI_s]
    have j97 : J 97 = upd (I 97) k (nI 0) := by
      rw [← hJ]
      unfold uI
      rw [sI_s, sI_n (by decide), sI_n (by decide)]
    refine pk_le bf.length k (fun c => by omega) (fun _ => ⟨vp_in_nI (by omega) (by decide), vp_in_nI (by omega) (by decide), vp_in_nI (by omega) (by decide), vp_in_nI (by omega) (by decide), vp_in_nI (by omega) (by decide), ih (k + 1) J (by omega) ⟨?_, ?_, b3⟩ ⟨?_, g2, fun r y hy => ?_⟩ (fun m hm => by rw [jm m (by omega) (by omega)]; exact fr m hm) ?_ ?_ ?_⟩)
    · rw [jm 95 (by decide) (by decide)]; exact b1
    · rw [j96]; exact (b2.upo (by omega)).upo (by omega)
    · rw [jm 95 (by decide) (by decide)]; exact g1
    · obtain ⟨q1, q2, q3⟩ := g3 r y hy
      have hrl := (List.getElem?_eq_some_iff.mp hy).1
      exact ⟨by rw [jm 98 (by decide) (by decide)]; exact q1, by rw [j96]; exact (q2.upo (by omega)).upo (by omega), q3⟩
    · rw [j96, tk1]
      have := c1.psh (v := bf[k])
      rw [l1, Nat.zero_add] at this
      exact this.upo (by rw [List.length_append, l1, List.length_singleton]; omega)
    · rw [j96, tk1]
      have := (c2.upo (p := k) (v := bf[k]) (by omega)).psh (v := bf[k])
      rw [l1] at this
      exact this
    · rw [j97]
      have := c3.psh (v := nI 0)
      rw [List.length_replicate, Nat.zero_add, ← List.replicate_succ'] at this
      exact this
theorem m_load (hM : MO P) {I : mI} (hC : MC I bf ld s mk rl R cy) (hq : ∀ I', FrY I I' → MC I' [] bf bf (List.replicate bf.length (nI 0)) rl 0 (nI 0) → Q (nI (spns (kds bf)).length) I' P) : V E (d + 4) m_Model_load 112 Q 0 [some (.inr 95), none] [] 112 I P :=
  x_Model_load_0 _ (l_mload hM hq bf.length 0 I (by omega) hC.1 hC.2.2.2.2.1 (fun _ _ => rfl) (fun j y hy => by simp at hy) (fun j y hy => by simp at hy) (fun j y hy => by simp at hy))
end MR
