/-! A pattern fits in the program as it fits in the part that has been put. -/
theorem tkw_psn {Z : List ItC} {tl : List Int32} {t k : Nat} {sp w : List Int32} (hz : Z[t]? = some (sp, k, w)) : tkw (fl Z tl) (psn 0 Z) t = some w := by
  have ht := (List.getElem?_eq_some_iff.mp hz).1
  unfold tkw
  rw [if_pos (by rw [psn_len]; exact ht)]
  have e := (sub_psn (Z := Z) (R := []) (t := tl) (f := t) (b := t + 1) (k := k) (sp := sp) (w := w) (by omega) (by omega) (by rw [drop_it hz, show t + 1 - t = 1 by omega]; rfl)).2.2
  rw [Nat.add_sub_cancel] at e
  rw [e]
  simp [fl]
theorem tkw_pre {A B : List ItC} {tl tl' : List Int32} {t : Nat} (h : t < A.length) : tkw (fl (A ++ B) tl) (psn 0 (A ++ B)) t = tkw (fl A tl') (psn 0 A) t := by
  obtain ⟨z, hz⟩ : ∃ z, A[t]? = some z := ⟨_, List.getElem?_eq_getElem h⟩
  obtain ⟨sp, k, w⟩ := z
  rw [tkw_psn hz, tkw_psn (Z := A ++ B) (k := k) (sp := sp) (w := w) (by rw [List.getElem?_append_left h]; exact hz)]
theorem sTk_pre {s : List Int32} {P : List (Nat × Nat × Nat)} {A B : List ItC} {tl tl' : List Int32} {p t : Nat} (h : t < A.length) : sTk s P p (fl (A ++ B) tl) (psn 0 (A ++ B)) t = sTk s P p (fl A tl') (psn 0 A) t := by
  unfold sTk
  rw [tkw_pre h]
theorem sTks_pre {A B : List ItC} {tl tl' : List Int32} {f t m : Nat} (h1 : f + m ≤ A.length) (h2 : t + m ≤ A.length) : sTks (fl (A ++ B) tl) (psn 0 (A ++ B)) f t m = sTks (fl A tl') (psn 0 A) f t m := by
  unfold sTks
  have : ∀ j ∈ List.range m, sTk (fl (A ++ B) tl) (psn 0 (A ++ B)) (f + j) (fl (A ++ B) tl) (psn 0 (A ++ B)) (t + j) = sTk (fl A tl') (psn 0 A) (f + j) (fl A tl') (psn 0 A) (t + j) := by
    intro j hj
    have hj := List.mem_range.mp hj
    unfold sTk
    rw [tkw_pre (show f + j < A.length by omega), tkw_pre (show t + j < A.length by omega), psn_len, psn_len, List.length_append]
    congr 1
    apply propext
    constructor
    · rintro ⟨_, b⟩; exact ⟨by omega, b⟩
    · rintro ⟨_, b⟩; exact ⟨by omega, b⟩
  rw [Bool.eq_iff_iff, List.all_eq_true, List.all_eq_true]
  constructor
  · intro h j hj; rw [← this j hj]; exact h j hj
  · intro h j hj; rw [this j hj]; exact h j hj
def BWi (B : BN) (n : Nat) : Prop := ∀ d f b, B d = some (f, b) → f < b ∧ b ≤ n
/-- an expression that lies in A: what begins in it is the same in A and in all -/
theorem le_pre {A B : List Nat} {f t dp : Nat} (h : le_ false ((A ++ B).drop f) = some (A.length - f, dp)) (hdp : dp ≤ 12) (h1 : f ≤ t) (h2 : t < A.length) : (∃ m d, t + m ≤ A.length ∧ d ≤ 12 ∧ le_ true ((A ++ B).drop t) = some (m, d) ∧ le_ true (A.drop t) = some (m, d) ∧ n12 (A ++ B)[t]?) ∨ (le_ true ((A ++ B).drop t) = none ∧ le_ true (A.drop t) = none) := by
  have hq : (A ++ B)[t]? = some A[t] := by rw [List.getElem?_append_left h2, List.getElem?_eq_getElem h2]
  have hA : A[t]? = some A[t] := List.getElem?_eq_getElem h2
  have hdA : A.drop t = ((A ++ B).drop t).take (A.length - t) := by
    rw [List.drop_append_of_le_length (by omega), List.take_append_of_le_length (by rw [List.length_drop]; omega), List.take_of_length_le (by rw [List.length_drop]; omega)]
  by_cases hn : n12 (A ++ B)[t]?
  · left
    obtain ⟨X, -, hE⟩ := (sc_all ((A ++ B).drop f).length).1 ((A ++ B).drop f) (Nat.le_refl _) _ _ h 0 0 (by omega)
    obtain ⟨j2, b2, hx⟩ := hE.2.1 (t - f) (by omega) (by omega) (by rw [Nat.sub_zero, List.getElem?_drop, show f + (t - f) = t by omega]; exact hn)
    obtain ⟨e1, e2, e3, e4, e5, d, e6, e7⟩ := hE.1 _ _ _ hx
    rw [Nat.sub_zero, List.drop_drop, show f + (t - f) = t by omega] at e6
    have e8 := (hf1 _ _ _ _ _ e6).1
    refine ⟨j2 - (t - f) + 1, d, by omega, by omega, e8, ?_, hn⟩
    rw [hdA]
    exact le_take e8 (by omega)
  · right
    have h3 := (hf1 _ _ _ _ _ h).2
    have n3 : A[t] ≠ 3 := h3 _ (by
      rw [List.mem_iff_getElem?]
      refine ⟨t - f, ?_⟩
      rw [List.getElem?_take_of_lt (by omega), List.getElem?_drop, show f + (t - f) = t by omega, hq])
    rw [drop_it hq, drop_it hA]
    rw [hq] at hn
    generalize A[t] = k at *
    have n1' : k ≠ 1 := fun c => hn (Or.inl (by rw [c]))
    have n2' : k ≠ 2 := fun c => hn (Or.inr (by rw [c]))
    exact ⟨le_oth _ n1' n2' n3, le_oth _ n1' n2' n3⟩
theorem mtc_pre {s : List Int32} {P : List (Nat × Nat × Nat)} {X W : List MIt} {tl tl' : List Int32} {f dp : Nat} (h : le_ false ((kdi (X ++ W)).drop f) = some (X.length - f, dp)) (hdp : dp ≤ 12) : ∀ (n p t : Nat) (B : BN), f ≤ t → t ≤ X.length → BWi B X.length → ∀ B', (mtc s P (fl ((X ++ W).map un) tl) (psn 0 ((X ++ W).map un)) n p t B = some (X.length, B') ↔ mtc s P (fl (X.map un) tl') (psn 0 (X.map un)) n p t B = some (X.length, B'))
  | 0, p, t, B, _, _, _, B' => Iff.rfl
  | n + 1, p, t, B, h1, h2, hB, B' => by
    by_cases ht : t < X.length
    · have hu : ∀ s' A', mtc s P s' A' (n + 1) p t B = if (P.map Prod.fst)[p]? = some 3 then (match bho s' A' (dgt s P p) t B with
        | some (t', B') => mtc s P s' A' n (p + 1) t' B'
        | none => none) else if sTk s P p s' A' t = true then mtc s P s' A' n (p + 1) (t + 1) B else none := fun _ _ => rfl
      rw [hu, hu]
      have e1 := kdi_app X W
      rw [e1] at h
      by_cases c3 : (P.map Prod.fst)[p]? = some 3
      · rw [if_pos c3, if_pos c3]
        rw [← kdi_len X] at h
        rcases le_pre h hdp h1 (by rw [kdi_len]; exact ht) with ⟨m, d', l1, l2, l3, l4, -⟩ | ⟨l3, l4⟩
        · rw [kdi_len] at l1
          have b1 : ∀ s', bho s' (psn 0 ((X ++ W).map un)) (dgt s P p) t B = (match B (dgt s P p) with
            | none => some (t + m, fun x => if x = dgt s P p then some (t, t + m) else B x)
            | some (f', b') => if b' - f' = m ∧ sTks s' (psn 0 ((X ++ W).map un)) f' t m = true then some (t + m, B) else none) := fun s' => by
            unfold bho
            rw [kdi_psn, e1, l3]
            dsimp only
            rw [if_pos l2]
            cases B (dgt s P p) <;> rfl
          have b2 : ∀ s', bho s' (psn 0 (X.map un)) (dgt s P p) t B = (match B (dgt s P p) with
            | none => some (t + m, fun x => if x = dgt s P p then some (t, t + m) else B x)
            | some (f', b') => if b' - f' = m ∧ sTks s' (psn 0 (X.map un)) f' t m = true then some (t + m, B) else none) := fun s' => by
            unfold bho
            rw [kdi_psn, l4]
            dsimp only
            rw [if_pos l2]
            cases B (dgt s P p) <;> rfl
          have hlb := le_b l3
          rw [b1, b2]
          cases hBv : B (dgt s P p) with
          | none =>
            dsimp only
            refine mtc_pre (by rw [e1]; rw [kdi_len] at h; exact h) hdp n (p + 1) (t + m) _ (by omega) l1 (fun d0 f0 b0 e => ?_) B'
            by_cases c : d0 = dgt s P p
            · rw [if_pos c] at e
              cases e
              omega
            · rw [if_neg c] at e
              exact hB d0 f0 b0 e
          | some fb =>
            obtain ⟨f', b'⟩ := fb
            have hw := hB _ _ _ hBv
            dsimp only
            by_cases cm : b' - f' = m
            · have es : sTks (fl ((X ++ W).map un) tl) (psn 0 ((X ++ W).map un)) f' t m = sTks (fl (X.map un) tl') (psn 0 (X.map un)) f' t m := by
                rw [List.map_append]
                exact sTks_pre (by rw [List.length_map]; omega) (by rw [List.length_map]; omega)
              rw [es]
              by_cases cs : b' - f' = m ∧ sTks (fl (X.map un) tl') (psn 0 (X.map un)) f' t m = true
              · rw [if_pos cs]
                exact mtc_pre (by rw [e1]; rw [kdi_len] at h; exact h) hdp n (p + 1) (t + m) B (by omega) l1 hB B'
              · rw [if_neg cs] <;> exact Iff.rfl
            · rw [if_neg (fun c => cm c.1), if_neg (fun c => cm c.1)]
        · have b1 : ∀ s', bho s' (psn 0 ((X ++ W).map un)) (dgt s P p) t B = none := fun s' => by
            unfold bho
            rw [kdi_psn, e1, l3]
          have b2 : ∀ s', bho s' (psn 0 (X.map un)) (dgt s P p) t B = none := fun s' => by
            unfold bho
            rw [kdi_psn, l4]
          rw [b1, b2]
      · rw [if_neg c3, if_neg c3]
        have es : sTk s P p (fl ((X ++ W).map un) tl) (psn 0 ((X ++ W).map un)) t = sTk s P p (fl (X.map un) tl') (psn 0 (X.map un)) t := by
          rw [List.map_append]
          exact sTk_pre (by rw [List.length_map]; exact ht)
        rw [es]
        by_cases cs : sTk s P p (fl (X.map un) tl') (psn 0 (X.map un)) t = true
        · rw [if_pos cs, if_pos cs]
          exact mtc_pre (by rw [e1]; exact h) hdp n (p + 1) (t + 1) B (by omega) (by omega) hB B'
        · rw [if_neg cs, if_neg cs]
    · constructor
      · intro e
        have := mtc_ge _ _ _ _ _ _ e
        omega
      · intro e
        have := mtc_ge _ _ _ _ _ _ e
        omega
theorem fil_pre {X W : List MIt} {B : BN} {num : Int32} : ∀ (T : List ItC) (fst : Bool), BK B X.length T → fil (X ++ W) B num fst T = fil X B num fst T
  | [], _, _ => rfl
  | (sp, k, w) :: T, fst, h => by
    have h' : BK B X.length T := fun sp' w' hm => h sp' w' (List.mem_cons_of_mem _ hm)
    by_cases hk : k = 3
    · subst hk
      obtain ⟨f, b, hBv, hfb, hb⟩ := h sp w List.mem_cons_self
      obtain ⟨z, R, hzR⟩ := tkd hfb hb
      have e2 : ((X ++ W).drop f).take (b - f) = z :: R := by
        rw [List.drop_append_of_le_length (by omega), List.take_append_of_le_length (by rw [List.length_drop]; omega)]
        exact hzR
      rw [fil_hole hBv hzR, fil_hole hBv e2, fil_pre T false h']
    · rw [fil_tok hk, fil_tok hk, fil_pre T false h']
/-- what a pattern binds in an expression of a program are expressions of it -/
theorem mtc_ben {s : List Int32} {P : List (Nat × Nat × Nat)} {M : List MIt} {s' : List Int32} {i l b : Nat} (he : (i, l, b) ∈ (outl (kdi M)).2) : ∀ (n p t : Nat) (B : BN), i ≤ t → BEn (kdi M) B → ∀ B', mtc s P s' (psn 0 (M.map un)) n p t B = some (l + 1, B') → BEn (kdi M) B'
  | 0, p, t, B, _, hB, B', h => by
    cases h
    exact hB
  | n + 1, p, t, B, h1, hB, B', h => by
    have hge := mtc_ge _ _ _ _ _ _ h
    obtain ⟨f0, e0, hsp, s1, s2, s3, s4, s5, dp0, s6, s7⟩ := ent_spn he
    unfold mtc at h
    split at h
    · split at h
      · rename_i t' B2 hb
        have hge2 := mtc_ge _ _ _ _ _ _ h
        unfold bho at hb
        rw [kdi_psn] at hb
        split at hb
        · rename_i m dp hle
          have hm := le_b hle
          have hbg : bgn (kdi M) t = true := by
            cases hbb : bgn (kdi M) t with
            | true => rfl
            | false =>
              rw [le_nb hsp (show f0 ≤ t by omega) (by omega) hbb] at hle
              cases hle
          obtain ⟨l', b', he'⟩ := bgn_ent hbg
          obtain ⟨dp', -, hle'⟩ := ent_le he'
          obtain ⟨_, _, _, _, w1, _⟩ := ent_spn he'
          rw [hle] at hle'
          have hml : m = l' - t + 1 := by
            have := congrArg (fun o => o.map Prod.fst) hle'
            simpa using this
          split at hb
          · split at hb
            · cases hb
              refine mtc_ben he n (p + 1) _ _ (by omega) (fun d f b'' e => ?_) B' h
              by_cases c : d = dgt s P p
              · rw [if_pos c] at e
                cases e
                exact ⟨l', b', he', by omega⟩
              · rw [if_neg c] at e
                exact hB d f b'' e
            · split at hb
              · cases hb
                exact mtc_ben he n (p + 1) _ _ (by omega) hB B' h
              · cases hb
          · cases hb
        · cases hb
      · cases h
    · split at h
      · exact mtc_ben he n (p + 1) _ _ (by omega) hB B' h
      · cases h
/-- the outline behind a prefix that is closed -/
theorem oln_pre (ks : List Nat) (m : Nat) : ∀ (n f t : Nat), (n = 0 → f = t) → (0 < n → ks[t + n - 1]? = some 7) → ∃ E0, (oln ks (n + m) f t).2 = E0 ++ (oln ks m (t + n) (t + n)).2 ∧ ∀ q ∈ E0, q.2.1 < t + n
  | 0, f, t, h1, _ => by
    have := h1 rfl
    subst this
    exact ⟨[], by rw [Nat.zero_add]; rfl, fun q hq => by simp at hq⟩
  | n + 1, f, t, _, h2 => by
    have h2 := h2 (by omega)
    rw [show n + 1 + m = n + m + 1 by omega, oln_s, show t + (n + 1) = t + 1 + n by omega]
    by_cases c : ks[t]? = some 7
    · rw [if_pos c]
      obtain ⟨E0, e1, e2⟩ := oln_pre ks m n (t + 1) (t + 1) (fun _ => rfl) (fun _ => by rw [show t + 1 + n - 1 = t + (n + 1) - 1 by omega]; exact h2)
      refine ⟨rsx ks f t ++ E0, by dsimp only; rw [e1, List.append_assoc], fun q hq => ?_⟩
      rcases List.mem_append.mp hq with h | h
      · cases hg : gdr ks f t with
        | false => rw [rsx_no hg] at h; simp at h
        | true =>
          obtain ⟨i, l, b⟩ := q
          have := ((rsx_ex hg).2.2.1 i l b h).2.2.1
          show l < t + 1 + n
          omega
      · exact e2 q h
    · rw [if_neg c]
      cases n with
      | zero =>
        rw [show t + (0 + 1) - 1 = t by omega] at h2
        exact absurd h2 c
      | succ n =>
        exact oln_pre ks m (n + 1) f (t + 1) (fun q => by omega) (fun _ => by rw [show t + 1 + (n + 1) - 1 = t + (n + 1 + 1) - 1 by omega]; exact h2)
/-- the next entry is the first that is left -/
theorem nxb_sp {M : List MIt} {tl : List Int32} (hLX : LX (M.map un) tl) {Ed Er : List (Nat × Nat × Nat)} {p : Nat} (he : (outl (kdi M)).2 = Ed ++ Er) (h1 : ∀ q ∈ Ed, ten (psn 0 (M.map un)) q.2.1 ≤ p) (h2 : ∀ q ∈ Er, p < ten (psn 0 (M.map un)) q.2.1) : nxb (psn 0 (M.map un)) (outl (kdi M)).2 p = Er.head? := by
  have hml : (psn 0 (M.map un)).length = M.length := by rw [psn_len, List.length_map]
  have hm : ∀ i j, i < j → j < (psn 0 (M.map un)).length → ten (psn 0 (M.map un)) i < ten (psn 0 (M.map un)) j := fun i j hij hj => ten_mono (LX_w _ _ hLX) hij (by rw [psn_len] at hj; exact hj)
  have hl : ∀ q ∈ (outl (kdi M)).2, q.2.1 < (psn 0 (M.map un)).length := fun q hq => by
    obtain ⟨i, l, b⟩ := q
    obtain ⟨f, e, -, -, -, a, a2, -⟩ := ent_spn hq
    rw [kdi_len] at a2
    show l < _
    omega
  have := nxb_i (n := Ed.length) (p := p) hm (ent_pw (kdi M)) hl (fun j q hj hq => ?_) (fun j q hj hq => ?_)
  · rw [this, he, List.getElem?_append_right (Nat.le_refl _), Nat.sub_self, List.head?_eq_getElem?]
  · rw [he, List.getElem?_append_left hj] at hq
    exact h1 q (List.mem_of_getElem? hq)
  · rw [he, List.getElem?_append_right hj] at hq
    exact h2 q (List.mem_of_getElem? hq)
