/-! Model.byEnd, start, end, kind, mark. -/
theorem nxb_i {A ex : List (Nat × Nat × Nat)} {p n : Nat} (hm : ∀ i j, i < j → j < A.length → ten A i < ten A j) (hp : ex.Pairwise (fun x y => x.2.1 < y.2.1)) (hl : ∀ q ∈ ex, q.2.1 < A.length) (h1 : ∀ j q, j < n → ex[j]? = some q → ten A q.2.1 ≤ p) (h2 : ∀ j q, n ≤ j → ex[j]? = some q → p < ten A q.2.1) : nxb A ex p = ex[n]? := by
  cases hn : ex[n]? with
  | none =>
    refine nxb_n (fun q hq => ?_)
    obtain ⟨j, hj, e⟩ := List.getElem_of_mem hq
    have := List.getElem?_eq_none_iff.mp hn
    exact h1 j q (by omega) (by rw [List.getElem?_eq_getElem hj, e])
  | some q0 =>
    refine nxb_s hm hp hl (List.mem_of_getElem? hn) (h2 n q0 (Nat.le_refl _) hn) (fun q hq hpq => ?_)
    obtain ⟨j, hj, e⟩ := List.getElem_of_mem hq
    have hjq : ex[j]? = some q := by rw [List.getElem?_eq_getElem hj, e]
    have hjn : n ≤ j := by
      apply Decidable.byContradiction
      intro c
      have := h1 j q (by omega) hjq
      omega
    by_cases c : n = j
    · subst c
      rw [hn] at hjq
      cases hjq
      exact Nat.le_refl _
    · obtain ⟨hn1, hn2⟩ := List.getElem?_eq_some_iff.mp hn
      have := List.pairwise_iff_getElem.mp hp n j hn1 hj (by omega)
      rw [hn2, e] at this
      exact Nat.le_of_lt (hm _ _ this (hl q hq))
theorem nxb_0 (s : List Int32) : nxb (tks s) (outl (kds s)).2 0 = (outl (kds s)).2[0]? := by
  refine nxb_i (tks_mono s) (ent_pw _) ent_lt (fun j q h => by omega) (fun j q _ hq => ?_)
  have hl := ent_lt _ (List.mem_of_getElem? hq)
  have e : (tks s)[q.2.1]? = some (tks s)[q.2.1] := List.getElem?_eq_getElem hl
  have := tks_bd s _ (List.getElem_mem hl)
  unfold ten
  rw [e]
  dsimp only
  omega
theorem nxb_n1 {s : List Int32} {n : Nat} {q : Nat × Nat × Nat} (h : (outl (kds s)).2[n]? = some q) : nxb (tks s) (outl (kds s)).2 (ten (tks s) q.2.1) = (outl (kds s)).2[n + 1]? := by
  have hp := List.pairwise_iff_getElem.mp (ent_pw (kds s))
  obtain ⟨hn, en⟩ := List.getElem?_eq_some_iff.mp h
  refine nxb_i (tks_mono s) (ent_pw _) ent_lt (fun j q' hj hq => ?_) (fun j q' hj hq => ?_)
  · obtain ⟨hj1, ej⟩ := List.getElem?_eq_some_iff.mp hq
    by_cases c : j = n
    · subst c
      rw [h] at hq
      cases hq
      exact Nat.le_refl _
    · have := hp j n hj1 hn (by omega)
      rw [ej, en] at this
      exact Nat.le_of_lt (tks_mono s _ _ this (ent_lt _ (List.mem_of_getElem? h)))
  · obtain ⟨hj1, ej⟩ := List.getElem?_eq_some_iff.mp hq
    have := hp n j hn hj1 (by omega)
    rw [ej, en] at this
    exact tks_mono s _ _ this (ent_lt _ (List.mem_of_getElem? hq))
theorem gat_cs {α : Type} (ex : List α) (x : Int32) : (∀ f : α → Int32, gat (ex.map f) x = -(nI 1)) ∨ ∃ r q, r < 2 ^ 31 ∧ ex[r]? = some q ∧ x = nI r ∧ ∀ f : α → Int32, gat (ex.map f) x = f q := by
  by_cases c : x < 0
  · exact Or.inl (fun f => gat_o c)
  · obtain ⟨r, hr, rfl⟩ := pos_n c
    cases hq : ex[r]? with
    | none =>
      refine Or.inl (fun f => ?_)
      rw [gat_i hr, List.getElem?_map, hq]
      rfl
    | some q =>
      refine Or.inr ⟨r, q, hr, hq, rfl, fun f => ?_⟩
      rw [gat_i hr, List.getElem?_map, hq]
      rfl
def exv (ex : List (Nat × Nat × Nat)) (n : Nat) : Int32 := ((ex.map (fun q => nI q.1))[n]?).getD (-(nI 1))
section BE
variable {E : XE} {d : Nat} {Q : Int32 → mI → mP → Prop} {P : mP} {bf ld s mk : List Int32} {rl : List (List Int32)} {R : Nat} {cy : Int32} {I : mI}
theorem nbv_e {A ex : List (Nat × Nat × Nat)} {p n : Nat} (h : nxb A ex p = ex[n]?) : nbv A ex p = exv ex n := by
  unfold nbv exv
  rw [h, List.getElem?_map]
  cases ex[n]? <;> rfl
theorem ent_i {s : List Int32} (hs : s.length ≤ 120) {i l b : Nat} (h : (i, l, b) ∈ (outl (kds s)).2) : i ≤ l ∧ l < (tks s).length ∧ l < 120 ∧ ten (tks s) l ≤ 120 ∧ i < (kds s).length := by
  obtain ⟨f, e, -, -, h0, h1, h2, -⟩ := ent_spn h
  have hl := ent_lt _ h
  dsimp only at hl
  have htl := tks_len s
  have e1 : (tks s)[l]? = some (tks s)[l] := List.getElem?_eq_getElem hl
  have := tks_bd s _ (List.getElem_mem hl)
  refine ⟨h0, hl, by omega, ?_, by omega⟩
  unfold ten
  rw [e1]
  dsimp only
  omega
theorem l_byEnd (hM : MO P) (hs : s.length ≤ 120) (hR : RDs I s) {r : Nat} (hr : r < 2 ^ 31) (hq : Q (exv (outl (kds s)).2 r) I P) : ∀ (m n : Nat), n + m = r → n ≤ 200 → V E (d + 2) m_Model_byEnd 112 Q 20 [some (.inr 95), some (.inl (nI r)), some (.inl (exv (outl (kds s)).2 n)), some (.inl (nI n)), none] [] 112 I P := by
  have hkl : (kds s).length = (tks s).length := by unfold kds; rw [List.length_map]
  have htl := tks_len s
  intro m
  induction m with
  | zero =>
    intro n hn _
    have : n = r := by omega
    subst this
    exact x_Model_byEnd_20 _ _ _ _ (pk_le n n (fun _ => hq) (fun q => by omega))
  | succ m ih =>
    intro n hn h2
    refine x_Model_byEnd_20 _ _ _ _ (pk_le r n (fun q => by omega) (fun _ => ?_))
    cases he : (outl (kds s)).2[n]? with
    | none =>
      have hl := List.getElem?_eq_none_iff.mp he
      have e1 : exv (outl (kds s)).2 n = -(nI 1) := by unfold exv; rw [List.getElem?_map, he]; rfl
      have e2 : exv (outl (kds s)).2 r = -(nI 1) := by
        unfold exv
        rw [List.getElem?_map, List.getElem?_eq_none (by omega)]
        rfl
      rw [e1]
      rw [e2] at hq
      exact ⟨fun _ => hq, fun c => absurd neg_lt c⟩
    | some q =>
      obtain ⟨i, l, b⟩ := q
      have e1 : exv (outl (kds s)).2 n = nI i := by unfold exv; rw [List.getElem?_map, he]; rfl
      have hmem := List.mem_of_getElem? he
      obtain ⟨g1, g2, g3, g4, -⟩ := ent_i hs hmem
      rw [e1]
      refine ⟨fun c => absurd c (nn_lt (by omega)), fun _ => ⟨k95, m_spanEnd hM hs hR hmem ⟨k95, m_nextBehind hM hs hR (by omega) ?_⟩⟩⟩
      rw [nbv_e (nxb_n1 he), n1]
      have hnl : n < (outl (kds s)).2.length := (List.getElem?_eq_some_iff.mp he).1
      have hcap : n < 120 := by
        -- ends grow, so there are no more entries than tokens
        have hp := List.pairwise_iff_getElem.mp (ent_pw (kds s))
        have key : ∀ j (hj : j < (outl (kds s)).2.length), j ≤ ((outl (kds s)).2[j]).2.1 := by
          intro j
          induction j with
          | zero => intro _; exact Nat.zero_le _
          | succ j ihj =>
            intro hj
            have a := ihj (by omega)
            have b := hp j (j + 1) (by omega) hj (by omega)
            omega
        have := key n hnl
        rw [(List.getElem?_eq_some_iff.mp he).2] at this
        dsimp only at this
        omega
      exact ih (n + 1) (by omega) (by omega)
theorem m_byEnd (hM : MO P) (h : MC I bf ld s mk rl R cy) {x : Int32} (hq : ∀ I', FrR I I' → MC I' bf ld s mk rl R cy → RDs I' s → Q (gat ((outl (kds s)).2.map (fun q => nI q.1)) x) I' P) : V E (d + 4) m_Model_byEnd 112 Q 0 [some (.inr 95), some (.inl x), none, none, none] [] 112 I P := by
  have hs := h.2.2.1.2.2
  refine x_Model_byEnd_0 _ _ ⟨k95, m_read hM h (fun I' f h' r => ?_)⟩
  have hq := hq I' f h' r
  refine ⟨fun c => ⟨k95, m_nextBehind (d := d + 2) hM hs r (by decide) (x_Model_byEnd_18 _ _ _ ?_)⟩, fun c => x_Model_byEnd_18 _ _ _ ?_⟩
  · have c' : ¬ x < 0 := by
      intro c2
      have a1 := (nle (x := x) (n := 0) (by decide)).mp c
      have a2 := (ltn (x := x) (n := 0) (by decide)).mp c2
      omega
    obtain ⟨r0, hr0, rfl⟩ := pos_n c'
    rw [nbv_e (nxb_0 s)]
    rw [gat_i hr0] at hq
    exact l_byEnd (d := d + 2) hM hs r hr0 hq r0 0 (by omega) (by omega)
  · have c' : x < 0 := by
      have a1 : ¬ _ := fun q => c ((nle (x := x) (n := 0) (by decide)).mpr q)
      exact (ltn (x := x) (n := 0) (by decide)).mpr (by omega)
    rw [gat_o c'] at hq
    refine x_Model_byEnd_20 _ _ _ _ ⟨fun _ => hq, fun c2 => absurd ?_ c2⟩
    have a2 := (ltn (x := x) (n := 0) (by decide)).mp c'
    exact (len (x := x) (n := 0) (by decide)).mpr (by omega)
theorem m_start (hM : MO P) (h : MC I bf ld s mk rl R cy) {x : Int32} (hq : ∀ I', FrR I I' → MC I' bf ld s mk rl R cy → Q (gat ((outl (kds s)).2.map (fun q => nI (tst (tks s) q.1))) x) I' P) : V E (d + 5) m_Model_start 112 Q 0 [some (.inr 95), some (.inl x), none] [] 112 I P := by
  have hs := h.2.2.1.2.2
  refine x_Model_start_0 _ _ ⟨k95, m_byEnd (d := d) hM h (fun I' f h' r => ?_)⟩
  have hq := hq I' f h'
  rcases gat_cs (outl (kds s)).2 x with g | ⟨n, ⟨i, l, b⟩, hn, he, -, g⟩
  · rw [g] at hq ⊢
    exact ⟨fun c => absurd c (by decide), fun _ => hq⟩
  · rw [g] at hq ⊢
    obtain ⟨g1, g2, g3, g4, -⟩ := ent_i hs (List.mem_of_getElem? he)
    obtain ⟨p0, p1, -, p9, p10, -⟩ := hM
    have h100 := (r.2.1.at (show i < (tks s).length by omega)).1
    rw [Nat.zero_add, Nat.zero_add] at h100
    refine ⟨fun _ => ?_, fun c => absurd ((nle (x := nI i) (n := 0) (by decide)).mpr (by rw [nI_t (by omega)]; omega)) c⟩
    simp only [k95, p10, k100, nzl 100 (by decide), true_and]
    rw [clp (show i < 2 ^ 31 by omega), h100]
    exact ⟨vp_in_nI (by omega) (by decide), hq⟩
theorem m_end (hM : MO P) (h : MC I bf ld s mk rl R cy) {x : Int32} (hq : ∀ I', FrR I I' → MC I' bf ld s mk rl R cy → Q (gat ((outl (kds s)).2.map (fun q => nI (ten (tks s) q.2.1))) x) I' P) : V E (d + 5) m_Model_end 112 Q 0 [some (.inr 95), some (.inl x), none] [] 112 I P := by
  have hs := h.2.2.1.2.2
  refine x_Model_end_0 _ _ ⟨k95, m_byEnd (d := d) hM h (fun I' f h' r => ?_)⟩
  have hq := hq I' f h'
  rcases gat_cs (outl (kds s)).2 x with g | ⟨n, ⟨i, l, b⟩, hn, he, -, g⟩
  · rw [g] at hq ⊢
    exact ⟨fun c => absurd c (by decide), fun _ => hq⟩
  · rw [g] at hq ⊢
    obtain ⟨g1, g2, g3, g4, -⟩ := ent_i hs (List.mem_of_getElem? he)
    exact ⟨fun _ => ⟨k95, m_spanEnd hM hs r (List.mem_of_getElem? he) hq⟩, fun c => absurd ((nle (x := nI i) (n := 0) (by decide)).mpr (by rw [nI_t (by omega)]; omega)) c⟩
theorem l_kind (hM : MO P) (hs : s.length ≤ 120) (hR : RDs I s) {j f e : Nat} {g : Bool} (hj : (spns (kds s))[j]? = some (f, e, g)) (hq : Q (nI (kd1 (kds s) (f, e, g))) I P) : ∀ (m i : Nat), i + m = f → V E (d + 1) m_Model_kind 112 Q 20 [some (.inr 95), some (.inl (nI j)), some (.inl (nI i))] [] 112 I P := by
  have hkl : (kds s).length = (tks s).length := by unfold kds; rw [List.length_map]
  have htl := tks_len s
  have ha := out_all (kds s) (kds s).length 0 0 (by omega) (Nat.le_refl _)
  obtain ⟨-, hM1⟩ := hR
  obtain ⟨hMR, hLD, hG⟩ := hM1
  obtain ⟨p0, p1, -, p9, p10, p11, p12, -, p14, p15, -⟩ := hM
  obtain ⟨-, a2, a3, a4⟩ := ha.2.2.2.2.1 f e g (List.mem_of_getElem? hj)
  have hjl : j < (spns (kds s)).length := (List.getElem?_eq_some_iff.mp hj).1
  have hslen : (spns (kds s)).length ≤ 120 := by
    have e1 := congrArg List.length ha.1
    rw [List.length_map] at e1
    have := oln_l1 (kds s) (kds s).length 0 0 (Nat.le_refl _)
    unfold spns
    omega
  intro m
  induction m with
  | zero =>
    intro i hi
    have : i = f := by omega
    subst this
    obtain ⟨h104, h105⟩ := hG.2 j i e g hj i (Nat.le_refl _) a2
    refine x_Model_kind_20 _ _ _ ?_
    simp only [k95, p15, p14, p9, p12, k105, k104, k99, k102, nzl 105 (by decide), nzl 104 (by decide), nzl 99 (by decide), nzl 102 (by decide), true_and]
    rw [clp (show i < 2 ^ 31 by omega), h105, h104]
    refine ⟨vp_in_nI (by omega) (by decide), fun _ => ⟨vp_in_nI (by omega) (by decide), bn_i (fun hg => ?_) (fun hg => ?_)⟩, fun c => absurd rfl c⟩
    · subst hg
      obtain ⟨b1, b2, dp, b3, b4⟩ := a4 rfl
      have hql : (kds s)[i]? = some (kds s)[i] := List.getElem?_eq_getElem (by omega)
      have h10 := kds_k10 s _ (List.getElem_mem (show i < (kds s).length by omega))
      have h99 := hMR.ms i _ hql
      have hld := ((hLD i (by omega)).s b4).1
      rw [Nat.zero_add] at h99 hld
      rw [h99, hld, rc_eq h10 (Or.inr (Or.inl rfl))]
      have hdr := drop_it hql
      unfold kd1 icn at hq
      rw [if_pos rfl] at hq
      dsimp only at hq
      rw [hql] at hq
      rw [hdr] at b4
      generalize (kds s)[i] = k at *
      refine ⟨vp_in_nI (by omega) (by decide), fun ck => ⟨vp_in_nI (by omega) (by decide), ?_⟩, fun ck => ?_⟩
      · have hk1 : k = 1 := by
          apply Decidable.byContradiction
          intro c1
          by_cases c3 : k = 3
          · rw [c3, le_hole] at b4
            cases b4
          · rw [le_oth _ c1 ck c3] at b4
            cases b4
        subst hk1
        cases h4 : (kds s)[i + 1]? == some 4 with
        | true =>
          have h4' : (kds s)[i + 1]? = some 4 := by simpa using h4
          rw [h4, if_pos rfl] at hq
          rw [drop_it h4'] at b4
          have hm3 : 3 ≤ e - i := by
            rw [le_eq] at b4
            split at b4
            · have := congrArg (fun o => o.map Prod.fst) b4
              simp at this
              omega
            · rename_i a _ ea
              cases hla : la_ false a with
              | none => rw [hla] at b4; cases b4
              | some z =>
                rw [hla] at b4
                have := la_b hla
                have := congrArg (fun o => o.map Prod.fst) b4
                simp at this
                omega
            · rename_i r hr1 hr2 hr3
              injection hr3 with _ hr3
              exact absurd hr3.symm (hr2 _)
            · rename_i hr; cases hr
            · rename_i hr; cases hr
            · cases b4
          exact pk_le (i + (e - i) - 1) i (fun c => by omega) (fun _ => hq)
        | false =>
          rw [h4] at hq
          rw [if_neg (by decide), if_pos rfl] at hq
          have hn4 : ∀ r', (kds s).drop (i + 1) ≠ 4 :: r' := fun r' c => by
            have := congrArg (fun l => l[0]?) c
            rw [List.getElem?_drop] at this
            have h2 : (kds s)[i + 1]? = some 4 := by simpa using this
            rw [h2] at h4
            cases h4
          rw [le_name hn4] at b4
          have : e - i = 1 := by
            have := congrArg (fun o => o.map Prod.fst) b4
            simp at this
            omega
          exact pk_le (i + (e - i) - 1) i (fun _ => hq) (fun c => by omega)
      · subst ck
        rw [if_neg (by simp), if_neg (by decide)] at hq
        exact hq
    · subst hg
      unfold kd1 at hq
      rw [if_neg (by simp)] at hq
      exact hq
  | succ m ih =>
    intro i hi
    obtain ⟨f', e', g', hm', h1, h2⟩ := spn_cov (kds s) (kds s).length 0 0 (by omega) (Nat.le_refl _) i (Nat.zero_le _) (by omega)
    obtain ⟨j', hj', ej'⟩ := List.getElem_of_mem hm'
    have hq' : (spns (kds s))[j']? = some (f', e', g') := by unfold spns; rw [List.getElem?_eq_getElem hj', ej']
    have h105 := (hG.2 j' f' e' g' hq' i h1 h2).2
    have hjj : j' ≠ j := fun c => by
      subst c
      rw [hj] at hq'
      cases hq'
      omega
    have hj'l : j' < (spns (kds s)).length := hj'
    refine x_Model_kind_20 _ _ _ ?_
    simp only [k95, p15, k105, nzl 105 (by decide), true_and]
    rw [clp (show i < 2 ^ 31 by omega), h105, n1]
    refine ⟨vp_in_nI (by omega) (by decide), fun c => ?_, fun _ => ih (i + 1) (by omega)⟩
    exact absurd ((nI_eq (by omega) (by omega)).mp c) hjj
theorem m_kind (hM : MO P) (h : MC I bf ld s mk rl R cy) {x : Int32} (hq : ∀ I', FrR I I' → MC I' bf ld s mk rl R cy → Q (gat ((outl (kds s)).1.map nI) x) I' P) : V E (d + 4) m_Model_kind 112 Q 0 [some (.inr 95), some (.inl x), none] [] 112 I P := by
  have hs := h.2.2.1.2.2
  refine x_Model_kind_0 _ _ ⟨k95, m_read hM h (fun I' f h' r => ?_)⟩
  have hq := hq I' f h'
  have ha := out_all (kds s) (kds s).length 0 0 (by omega) (Nat.le_refl _)
  have e1 : (outl (kds s)).1 = (spns (kds s)).map (kd1 (kds s)) := ha.1
  have hslen : (spns (kds s)).length ≤ 120 := by
    have e2 := congrArg List.length ha.1
    rw [List.length_map] at e2
    have := oln_l1 (kds s) (kds s).length 0 0 (Nat.le_refl _)
    have hkl : (kds s).length = (tks s).length := by unfold kds; rw [List.length_map]
    have htl := tks_len s
    unfold spns
    omega
  rw [e1, List.map_map] at hq
  rw [r.2.2.2.1]
  refine ⟨fun c => ?_, fun c => ⟨k95, ?_⟩⟩
  · rw [gat_o c] at hq
    exact hq
  · obtain ⟨j, hj, rfl⟩ := pos_n c
    rw [gat_i hj] at hq
    refine pk_lt j _ (fun c2 => ?_) (fun c2 => ?_)
    · obtain ⟨q, hq'⟩ : ∃ q, (spns (kds s))[j]? = some q := ⟨_, List.getElem?_eq_getElem c2⟩
      obtain ⟨f', e', g'⟩ := q
      rw [List.getElem?_map, hq'] at hq
      exact l_kind hM hs r hq' hq f' 0 (by omega)
    · rw [List.getElem?_map, List.getElem?_eq_none (by omega)] at hq
      exact hq
end BE
