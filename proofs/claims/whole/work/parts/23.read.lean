/-! The reference's reading of the program: statements, and which are good. -/
def gdr (ks : List Nat) (f e : Nat) : Bool := match le_ false (ks.drop f) with
  | some (m, dp) => decide (dp ≤ 12 ∧ f + m = e)
  | none => false
/-- statements: first and last token, and whether it is good -/
def spn (ks : List Nat) : Nat → Nat → Nat → List (Nat × Nat × Bool)
  | 0, f, t => if f < t then [(f, t - 1, false)] else []
  | n + 1, f, t => if ks[t]? = some 7 then (f, t, gdr ks f t) :: spn ks n (t + 1) (t + 1) else spn ks n f (t + 1)
theorem spn_s (ks : List Nat) (n f t : Nat) : spn ks (n + 1) f t = if ks[t]? = some 7 then (f, t, gdr ks f t) :: spn ks n (t + 1) (t + 1) else spn ks n f (t + 1) := rfl
def spns (ks : List Nat) : List (Nat × Nat × Bool) := spn ks ks.length 0 0
def GR (I : mI) (sp : List (Nat × Nat × Bool)) : Prop := I 95 17 = nI sp.length ∧ ∀ (j f e : Nat) (g : Bool), sp[j]? = some (f, e, g) → ∀ k, f ≤ k → k ≤ e → I 104 k = bI g ∧ I 105 k = nI j
def FrW (I I' : mI) : Prop := (∀ m, m ≠ 95 → m ≠ 104 → m ≠ 105 → I' m = I m) ∧ ∀ j, j ≠ 17 → I' 95 j = I 95 j
theorem FrW.rf {I : mI} : FrW I I := ⟨fun _ _ _ _ => rfl, fun _ _ => rfl⟩
theorem FrW.tr {I I' I'' : mI} (h : FrW I I') (h' : FrW I' I'') : FrW I I'' := ⟨fun m a b c => (h'.1 m a b c).trans (h.1 m a b c), fun j hj => (h'.2 j hj).trans (h.2 j hj)⟩
theorem nar_b (g : Bool) : vp_nar .boolean (bI g) = bI g := by cases g <;> rfl
section RD2
variable {E : XE} {d : Nat} {Q : Int32 → mI → mP → Prop} {P : mP} {ks : List Nat}
theorem l_set (hM : MO P) {e c : Nat} (he : e < 128) (g : Bool) : ∀ (n k : Nat) (I : mI), e + 1 - k = n → k ≤ e + 1 → I 95 17 = nI c →
    (∀ I', FrG [104, 105] k (e + 1) I I' → (∀ x, k ≤ x → x ≤ e → I' 104 x = bI g ∧ I' 105 x = nI c) → V E (d + 1) m_Model_read 112 Q 146 [some (.inr 95), none, some (.inl (nI e)), none, none] [] 112 I' P) → V E (d + 1) m_Model_read 112 Q 115 [some (.inr 95), none, some (.inl (nI e)), some (.inl (bI g)), some (.inl (nI k))] [] 112 I P := by
  obtain ⟨-, -, -, -, -, -, -, -, p14, p15, -⟩ := hM
  intro n
  induction n with
  | zero =>
    intro k I hn hk hc h
    refine x_Model_read_115 _ _ _ _ (pk_lt e k (fun _ => h I FrG.rf (fun x h1 h2 => by omega)) (fun q => by omega))
  | succ n ih =>
    intro k I hn hk hc h
    refine x_Model_read_115 _ _ _ _ (pk_lt e k (fun q => by omega) (fun _ => ?_))
    simp only [k95, p14, k104, p15, k105, nzl 104 (by decide), nzl 105 (by decide), true_and, nar_b, uI_n (show 95 ≠ 104 by decide), hc]
    have hin : vp_in (nI k) 128 := vp_in_nI (by omega) (by decide)
    refine ⟨hin, hin, ?_⟩
    rw [clp (by omega), n1]
    have hf : FrG [104, 105] k (e + 1) I (uI (uI I 104 k (bI g)) 105 k (nI c)) := (FrG.rf.u (by decide) (Nat.le_refl _) (by omega)).u (by decide) (Nat.le_refl _) (by omega)
    refine ih (k + 1) _ (by omega) (by omega) ?_ (fun I' hf' hx => h I' (hf.tr ⟨hf'.1, fun m j hj => hf'.2 m j (by omega)⟩) (fun x h1 h2 => ?_))
    · rw [uI_n (by decide), uI_n (by decide)]
      exact hc
    · by_cases e1 : x = k
      · subst e1
        rw [hf'.2 104 x (by omega), hf'.2 105 x (by omega), uI_n (by decide), uI_s, uI_s]
        exact ⟨rfl, rfl⟩
      · exact hx x (by omega) h2
theorem l_read (hM : MO P) (hl : ks.length ≤ 120) (hk : k10 ks) : ∀ (m i : Nat) (sp : List (Nat × Nat × Bool)) (I : mI), ks.length - i ≤ m → i ≤ ks.length → sp.length ≤ i → (∀ (j f e : Nat) (g : Bool), sp[j]? = some (f, e, g) → e < i) → I 95 16 = nI ks.length → MS I 0 ks → (∀ t, t < ks.length → LDR false I 0 ks t) → GR I sp →
    (∀ I', FrW I I' → GR I' (sp ++ spn ks (ks.length - i) i i) → Q (nI 0) I' P) → V E (d + 1) m_Model_read 112 Q 30 [some (.inr 95), some (.inl (nI i)), none, none, none] [] 112 I P := by
  have hM' := hM
  obtain ⟨-, -, -, p9, -, -, p12, p13, -⟩ := hM'
  intro m
  induction m with
  | zero =>
    intro i sp I hm hi hs hb h16 hS hL hG h
    refine x_Model_read_30 _ _ ⟨k95, ?_⟩
    rw [h16]
    refine pk_le ks.length i (fun _ => h I FrW.rf ?_) (fun q => by omega)
    rw [show ks.length - i = 0 by omega]
    unfold spn
    rw [if_neg (Nat.lt_irrefl _), List.append_nil]
    exact hG
  | succ m ih =>
    intro i sp I hm hi hs hb h16 hS hL hG h
    refine x_Model_read_30 _ _ ⟨k95, ?_⟩
    rw [h16]
    refine pk_le ks.length i (fun q => h I FrW.rf ?_) (fun hil => ?_)
    · rw [show ks.length - i = 0 by omega]
      unfold spn
      rw [if_neg (Nat.lt_irrefl _), List.append_nil]
      exact hG
    · -- the end of a statement at e: its tokens are marked, and on it goes
      have close : ∀ (e : Nat) (g : Bool), i ≤ e → e < ks.length → (spn ks (ks.length - i) i i = (i, e, g) :: spn ks (ks.length - (e + 1)) (e + 1) (e + 1)) → V E (d + 1) m_Model_read 112 Q 112 [some (.inr 95), some (.inl (nI i)), some (.inl (nI e)), some (.inl (bI g)), none] [] 112 I P := by
        intro e g hie hel hsp
        refine x_Model_read_112 _ _ _ _ (l_set hM (by omega) g _ i I rfl (by omega) hG.1 (fun I1 hf1 hx1 => x_Model_read_146 _ _ ⟨k95, k95, ?_⟩))
        have h17 : I1 95 17 = nI sp.length := by rw [hf1.1 95 (by decide)]; exact hG.1
        rw [h17, n1, n1]
        have hf2 : FrW I (uI I1 95 17 (nI (sp.length + 1))) := ⟨fun m a b c => by rw [uI_n a, hf1.1 m (by simp [b, c])], fun j hj => by rw [uI_o hj, hf1.1 95 (by decide)]⟩
        refine ih (e + 1) (sp ++ [(i, e, g)]) _ (by omega) (by omega) (by simp; omega) (fun j f e' g' hj => ?_) ?_ ?_ ?_ ?_ (fun I' hf' hg' => h I' (hf2.tr hf') ?_)
        · by_cases hjl : j < sp.length
          · rw [List.getElem?_append_left hjl] at hj
            have := hb j f e' g' hj
            omega
          · have ej : j = sp.length := by
              have := (List.getElem?_eq_some_iff.mp hj).1
              rw [List.length_append] at this
              simp at this
              omega
            subst ej
            rw [List.getElem?_append_right (Nat.le_refl _), Nat.sub_self] at hj
            cases hj
            omega
        · rw [hf2.2 16 (by decide)]
          exact h16
        · intro t k' ht
          rw [hf2.1 99 (by decide) (by decide) (by decide)]
          exact hS t k' ht
        · intro t ht
          exact (hL t ht).kept (by rw [hf2.1 102 (by decide) (by decide) (by decide)]) (by rw [hf2.1 103 (by decide) (by decide) (by decide)])
        · refine ⟨by rw [uI_s, List.length_append]; rfl, fun j f e' g' hj k h1 h2 => ?_⟩
          rw [uI_n (by decide), uI_n (by decide)]
          by_cases hjl : j < sp.length
          · rw [List.getElem?_append_left hjl] at hj
            have hlt := hb j f e' g' hj
            rw [hf1.2 104 k (by omega), hf1.2 105 k (by omega)]
            exact hG.2 j f e' g' hj k h1 h2
          · have ej : j = sp.length := by
              have := (List.getElem?_eq_some_iff.mp hj).1
              rw [List.length_append] at this
              simp at this
              omega
            subst ej
            rw [List.getElem?_append_right (Nat.le_refl _), Nat.sub_self] at hj
            cases hj
            exact hx1 k h1 h2
        · rw [hsp]
          simpa using hg'
      -- the search for the end
      have find : ∀ (n e : Nat), ks.length - e = n → i ≤ e → e < ks.length → spn ks (ks.length - i) i i = spn ks (ks.length - e) i e → V E (d + 1) m_Model_read 112 Q 40 [some (.inr 95), some (.inl (nI i)), some (.inl (nI e)), none, none] [] 112 I P := by
        intro n
        induction n with
        | zero => intro e hn hie hel; omega
        | succ n ihn =>
          intro e hn hie hel hsp
          have hg := List.getElem?_eq_getElem hel
          have hk0 := hk _ (List.mem_of_getElem? hg)
          generalize hkk : ks[e] = k0 at hg hk0
          have hsp2 : spn ks (ks.length - i) i i = if ks[e]? = some 7 then (i, e, gdr ks i e) :: spn ks (ks.length - (e + 1)) (e + 1) (e + 1) else spn ks (ks.length - (e + 1)) i (e + 1) := by
            rw [hsp, show ks.length - e = (ks.length - (e + 1)) + 1 by omega, spn_s]
          have hse : I 99 e = nI (rc k0) := by
            have := hS e k0 hg
            rwa [Nat.zero_add] at this
          have hine : vp_in (nI e) 192 := vp_in_nI (by omega) (by decide)
          have at67 : (ks[e]? = some 7 ∨ e + 1 = ks.length) → V E (d + 1) m_Model_read 112 Q 67 [some (.inr 95), some (.inl (nI i)), some (.inl (nI e)), none, none] [] 112 I P := by
            intro hend
            refine x_Model_read_67 _ _ _ ?_
            simp only [k95, p9, k99, p12, k102, p13, k103, nzl 99 (by decide), nzl 102 (by decide), nzl 103 (by decide), true_and]
            rw [clp (by omega), clp (by omega), hse]
            simp only [rc_7 hk0]
            refine ⟨hine, fun c7 => ?_, fun c7 => ?_⟩
            · have hn7 : ¬ ks[e]? = some 7 := fun q => c7 (by rw [hg] at q; injection q)
              have he : e + 1 = ks.length := by
                rcases hend with q | q
                · exact absurd q hn7
                · exact q
              refine close e false hie hel ?_
              rw [hsp2, if_neg hn7, show ks.length - (e + 1) = 0 by omega]
              unfold spn
              rw [if_pos (by omega), if_neg (Nat.lt_irrefl _)]
              rfl
            · have h7 : ks[e]? = some 7 := by rw [hg, c7]
              rw [if_pos h7] at hsp2
              have hno : gdr ks i e = false → V E (d + 1) m_Model_read 112 Q 112 [some (.inr 95), some (.inl (nI i)), some (.inl (nI e)), some (.inl (nI 0)), none] [] 112 I P := fun q => close e false hie hel (by rw [hsp2, q])
              have hLi := hL i (by omega)
              refine pk_le e i (fun q => hno ?_) (fun q => ?_)
              · have : i = e := by omega
                subst this
                unfold gdr
                rw [drop_k h7, le_oth _ (by decide) (by decide) (by decide)]
              · have hini : vp_in (nI i) 192 := vp_in_nI (by omega) (by decide)
                refine ⟨hini, ?_⟩
                rw [pk_sub (show 1 ≤ e by omega)]
                cases hle : le_ false (ks.drop i) with
                | none =>
                  have e0 := hLi.n hle
                  rw [Nat.zero_add] at e0
                  rw [e0]
                  exact ⟨fun _ => hno (by unfold gdr; rw [hle]), fun a => absurd a (m1_ne (by omega))⟩
                | some z =>
                  obtain ⟨mm, dp⟩ := z
                  obtain ⟨e1, e2⟩ := hLi.s hle
                  rw [Nat.zero_add] at e1 e2
                  have hbb := le_b hle
                  have hdd := le_d hle
                  rw [List.length_drop] at hbb
                  rw [e1, e2]
                  have hgd : gdr ks i e = decide (dp ≤ 12 ∧ i + mm = e) := by unfold gdr; rw [hle]
                  rw [nI_eq (by omega) (by omega)]
                  refine ⟨fun a => hno (by rw [hgd]; exact decide_eq_false (by omega)), fun a => ⟨hini, ?_⟩⟩
                  refine pk_lt 12 dp (fun b => hno (by rw [hgd]; exact decide_eq_false (by omega))) (fun b => close e true hie hel (by rw [hsp2, hgd, decide_eq_true (by omega)]))
          refine x_Model_read_40 _ _ _ ⟨k95, ?_⟩
          rw [h16, pk_sub (show 1 ≤ ks.length by omega)]
          refine pk_le (ks.length - 1) e (fun q => at67 (Or.inr (by omega))) (fun q => ?_)
          simp only [k95, p9, k99, nzl 99 (by decide), true_and]
          rw [clp (by omega), hse]
          simp only [rc_7 hk0]
          refine ⟨hine, fun c7 => at67 (Or.inl (by rw [hg, c7])), fun c7 => ?_⟩
          rw [n1]
          refine ihn (e + 1) (by omega) (by omega) (by omega) ?_
          rw [hsp2, if_neg (fun q => c7 (by rw [hg] at q; injection q))]
      exact find _ i rfl (Nat.le_refl _) hil rfl
/-- what read leaves -/
def FrR (I I' : mI) : Prop := (∀ m, m ≠ 95 → (m < 99 ∨ 105 < m) → I' m = I m) ∧ (∀ j, j ≠ 16 → j ≠ 17 → I' 95 j = I 95 j) ∧ ∀ m j, 99 ≤ m → m ≤ 103 → 120 ≤ j → I' m j = I m j
theorem tks_k10 (s : List Int32) : k10 ((tks s).map Prod.fst) := by
  have key : ∀ (n : Nat) (s acc : List Int32) (p : Nat), ∀ q ∈ psn p (lx n s acc).1, q.1 < 10 := by
    intro n
    induction n with
    | zero => intro s acc p q hq; simp [lx, psn] at hq
    | succ n ih =>
      intro s acc p q hq
      cases s with
      | nil => simp [lx, psn] at hq
      | cons c r =>
        rw [lx_cons] at hq
        split at hq
        · exact ih _ _ _ q hq
        · split at hq
          · exact ih _ _ _ q hq
          · rw [psn_c] at hq
            rcases List.mem_cons.mp hq with rfl | hq
            · exact tkK_10 _ _
            · exact ih _ _ _ q hq
  intro k hk
  obtain ⟨q, hq, rfl⟩ := List.mem_map.mp hk
  exact key _ _ _ _ q hq
theorem tks_len (s : List Int32) : (tks s).length ≤ s.length := by
  have key : ∀ (n : Nat) (s acc : List Int32), (lx n s acc).1.length ≤ s.length := by
    intro n
    induction n with
    | zero => intro s acc; simp [lx]
    | succ n ih =>
      intro s acc
      cases s with
      | nil => simp [lx]
      | cons c r =>
        rw [lx_cons]
        split
        · exact Nat.le_trans (ih _ _) (by simp)
        · split
          · exact Nat.le_trans (ih _ _) (by simp; omega)
          · simp only [List.length_cons]
            have := ih (r.drop (tkN (tkK c r) r)) []
            rw [List.length_drop] at this
            omega
  unfold tks
  rw [psn_len]
  exact key _ _ _
def kds (s : List Int32) : List Nat := (tks s).map Prod.fst
theorem kds_k10 (s : List Int32) : k10 (kds s) := tks_k10 s
theorem MR.ms {I : mI} {base off : Nat} {s : List Int32} (h : MR I base off (tks s)) : MS I base (kds s) := by
  intro t k hk
  unfold kds at hk
  rw [List.getElem?_map] at hk
  cases hq : (tks s)[t]? with
  | none => rw [hq] at hk; cases hk
  | some q =>
    obtain ⟨k', a, b⟩ := q
    rw [hq] at hk
    cases hk
    exact (h t k' a b hq).1
theorem s_read (hM : MO P) {s : List Int32} (hs : s.length ≤ 120) {I : mI} (h2 : I 95 2 = nI s.length) (hc : Rc (I 96) 0 s)
    (h : ∀ I', FrR I I' → I' 95 16 = nI (tks s).length → MR I' 0 0 (tks s) → (∀ t, t < (kds s).length → LDR false I' 0 (kds s) t) → GR I' (spns (kds s)) → Q (nI 0) I' P) : V E (d + 3) m_Model_read 112 Q 0 [some (.inr 95), none, none, none, none] [] 112 I P := by
  have htl := tks_len s
  have hkl : (kds s).length = (tks s).length := by unfold kds; rw [List.length_map]
  refine x_Model_read_0 _ ⟨k95, k95, ?_⟩
  rw [h2]
  refine s_tokenise hM (by omega) (by omega) hc (fun I1 hf1 hr1 => ⟨k95, k95, k95, ?_⟩)
  rw [uI_s, ← hkl]
  have hr1' : MR (uI I1 95 16 (nI (kds s).length)) 0 0 (tks s) := fun t k a b ht => by
    rw [uI_n (by decide), uI_n (by decide), uI_n (by decide)]
    exact hr1 t k a b ht
  refine s_structure (hol := false) (ks := kds s) hM (by omega) (kds_k10 s) (by simp) hr1'.ms (fun I2 hf2 hl2 => ⟨k95, ?_⟩)
  have hr2 : MR (uI I2 95 17 (nI 0)) 0 0 (tks s) := fun t k a b ht => by
    rw [uI_n (by decide), uI_n (by decide), uI_n (by decide), hf2.1 99 (by decide), hf2.1 100 (by decide), hf2.1 101 (by decide)]
    exact hr1' t k a b ht
  refine l_read (ks := kds s) hM (by omega) (kds_k10 s) (kds s).length 0 [] _ (by omega) (by omega) (by simp) (fun j f e g hj => by simp at hj) ?_ hr2.ms ?_ ?_ (fun I' hf' hg' => h I' ?_ ?_ ?_ ?_ hg')
  · rw [uI_o (by decide), hf2.1 95 (by decide), uI_s]
  · intro t ht
    exact (hl2 t ht).kept (by rw [uI_n (by decide)]) (by rw [uI_n (by decide)])
  · exact ⟨by rw [uI_s]; rfl, fun j f e g hj => by simp at hj⟩
  · refine ⟨fun m hm hm2 => ?_, fun j h16 h17 => ?_, fun m j h99 h103 hj => ?_⟩
    · rw [hf'.1 m hm (by omega) (by omega), uI_n hm, hf2.1 m (by simp; omega), uI_n hm, hf1.1 m (by omega) (by omega) (by omega)]
    · rw [hf'.2 j h17, uI_o h17, hf2.1 95 (by decide), uI_o h16, hf1.1 95 (by decide) (by decide) (by decide)]
    · rw [hf'.1 m (by omega) (by omega) (by omega), uI_n (by omega), hf2.2 m j (by omega), uI_n (by omega), hf1.2 m j (by omega)]
  · rw [hf'.2 16 (by decide), uI_o (by decide), hf2.1 95 (by decide), uI_s, hkl]
  · intro t k a b ht
    rw [hf'.1 99 (by decide) (by decide) (by decide), hf'.1 100 (by decide) (by decide) (by decide), hf'.1 101 (by decide) (by decide) (by decide)]
    exact hr2 t k a b ht
  · intro t ht
    exact (hl2 t ht).kept (by rw [hf'.1 102 (by decide) (by decide) (by decide), uI_n (by decide)]) (by rw [hf'.1 103 (by decide) (by decide) (by decide), uI_n (by decide)])
end RD2
