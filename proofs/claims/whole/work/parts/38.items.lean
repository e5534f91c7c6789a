/-! Texts as lists of tokens, each with the space before it and with marks. -/
abbrev MIt : Type := List Int32 × Int32 × Nat × List Int32 × Int32
def un (z : MIt) : ItC := (z.1, z.2.2.1, z.2.2.2.1)
def um (z : MIt) : ItC := (List.replicate z.1.length z.2.1, z.2.2.1, List.replicate z.2.2.2.1.length z.2.2.2.2)
def mkd (z : MIt) : Nat := z.2.2.1
def mw (z : MIt) : List Int32 := z.2.2.2.1
def sps (z : MIt) (sp : List Int32) (m : Int32) : MIt := (sp, m, z.2.2)
theorem fl_nl : ∀ (Z : List ItC) (t : List Int32), fl Z t = fl Z [] ++ t
  | [], t => rfl
  | (sp, k, w) :: Z, t => by
    show sp ++ (w ++ fl Z t) = (sp ++ (w ++ fl Z [])) ++ t
    rw [fl_nl Z t]
    simp
theorem ftl_c (sp w : List Int32) (k : Nat) (Z : List ItC) : ftl ((sp, k, w) :: Z) = sp.length + w.length + ftl Z := by
  unfold ftl
  show (sp ++ (w ++ fl Z [])).length = _
  rw [List.length_append, List.length_append]
  omega
theorem ftl_app (A B : List ItC) : ftl (A ++ B) = ftl A + ftl B := by
  unfold ftl
  rw [fl_app, fl_nl, List.length_append]
theorem psn_shift (c : Nat) : ∀ (Z : List ItC) (p : Nat), psn (p + c) Z = (psn p Z).map (fun q => (q.1, q.2.1 + c, q.2.2 + c))
  | [], _ => rfl
  | (sp, k, w) :: Z, p => by
    rw [psn_c, psn_c, List.map_cons, ← psn_shift c Z]
    rw [show p + c + sp.length + w.length = p + sp.length + w.length + c by omega, show p + c + sp.length = p + sp.length + c by omega]
theorem psn_take (Z : List ItC) (p n : Nat) : (psn p Z).take n = psn p (Z.take n) := by
  by_cases h : n ≤ Z.length
  · conv => lhs; rw [← List.take_append_drop n Z, psn_app]
    rw [List.take_append_of_le_length (by rw [psn_len, List.length_take]; omega), List.take_of_length_le (by rw [psn_len, List.length_take]; omega)]
  · rw [List.take_of_length_le (by rw [psn_len]; omega), List.take_of_length_le (by omega)]
theorem psn_drop (Z : List ItC) (p n : Nat) : (psn p Z).drop n = psn (p + ftl (Z.take n)) (Z.drop n) := by
  by_cases h : n ≤ Z.length
  · conv => lhs; rw [← List.take_append_drop n Z, psn_app]
    rw [List.drop_append_of_le_length (by rw [psn_len, List.length_take]; omega), List.drop_eq_nil_of_le (by rw [psn_len, List.length_take]; omega)]
    rfl
  · rw [List.drop_eq_nil_of_le (by rw [psn_len]; omega), List.drop_eq_nil_of_le (show Z.length ≤ n by omega)]
    rfl
theorem psn_get {Z : List ItC} {t k : Nat} {sp w : List Int32} (h : Z[t]? = some (sp, k, w)) (p : Nat) : (psn p Z)[t]? = some (k, p + ftl (Z.take t) + sp.length, p + ftl (Z.take t) + sp.length + w.length) := by
  have ht := (List.getElem?_eq_some_iff.mp h).1
  have e := psn_drop Z p t
  have hd : Z.drop t = (sp, k, w) :: Z.drop (t + 1) := by
    rw [List.drop_eq_getElem_cons ht]
    congr 1
    exact (List.getElem?_eq_some_iff.mp h).2
  rw [hd, psn_c] at e
  have := congrArg (fun l => l[0]?) e
  simpa using this
theorem tst_psn {Z : List ItC} {t k : Nat} {sp w : List Int32} (h : Z[t]? = some (sp, k, w)) : tst (psn 0 Z) t = ftl (Z.take t) + sp.length := by
  unfold tst
  rw [psn_get h]
  show 0 + ftl (Z.take t) + sp.length = _
  omega
theorem ten_psn {Z : List ItC} {t : Nat} (h : t < Z.length) : ten (psn 0 Z) t = ftl (Z.take (t + 1)) := by
  obtain ⟨sp, k, w⟩ : ItC := Z[t]
  have hz : Z[t]? = some Z[t] := List.getElem?_eq_getElem h
  unfold ten
  obtain ⟨⟨sp, k, w⟩, hq⟩ : ∃ q, Z[t] = q := ⟨_, rfl⟩
  rw [hq] at hz
  rw [psn_get hz]
  show 0 + ftl (Z.take t) + sp.length + w.length = _
  rw [List.take_add_one, hz]
  show _ = ftl (Z.take t ++ [(sp, k, w)])
  rw [ftl_app, ftl_c]
  show _ = _ + (_ + 0)
  omega
/-- tokens f .. b - 1 of a text, its first one's space left out -/
theorem sub_psn {Z R : List ItC} {t : List Int32} {f b k : Nat} {sp w : List Int32} (hfb : f < b) (hb : b ≤ Z.length) (h : (Z.drop f).take (b - f) = (sp, k, w) :: R) : tst (psn 0 Z) f = ftl (Z.take f) + sp.length ∧ ten (psn 0 Z) (b - 1) = ftl (Z.take f) + sp.length + (w ++ fl R []).length ∧ sub (fl Z t) (tst (psn 0 Z) f) (ten (psn 0 Z) (b - 1)) = w ++ fl R [] := by
  have hz : Z[f]? = some (sp, k, w) := by
    have := congrArg (fun l => l[0]?) h
    simp only [List.getElem?_cons_zero] at this
    rw [List.getElem?_take_of_lt (by omega), List.getElem?_drop] at this
    exact this
  have e1 := tst_psn hz
  have eZ : Z = Z.take f ++ (((sp, k, w) :: R) ++ Z.drop b) := by
    rw [← h]
    conv => lhs; rw [← List.take_append_drop f Z, ← List.take_append_drop (b - f) (Z.drop f)]
    rw [List.drop_drop, show f + (b - f) = b by omega]
  have eT : Z.take b = Z.take f ++ ((sp, k, w) :: R) := by
    rw [← h]
    conv => lhs; rw [show b = f + (b - f) by omega, List.take_add]
  have e2 : ten (psn 0 Z) (b - 1) = ftl (Z.take f) + sp.length + (w ++ fl R []).length := by
    rw [ten_psn (by omega), show b - 1 + 1 = b by omega, eT, ftl_app, ftl_c, List.length_append]
    show _ + (_ + _ + (fl R []).length) = _
    omega
  refine ⟨e1, e2, ?_⟩
  rw [e1, e2]
  unfold sub
  have eF : fl Z t = (fl (Z.take f) [] ++ sp) ++ ((w ++ fl R []) ++ fl (Z.drop b) t) := by
    conv => lhs; rw [eZ]
    rw [fl_app, fl_nl]
    show _ ++ (sp ++ (w ++ fl (R ++ Z.drop b) t)) = _
    rw [fl_app, fl_nl R]
    simp
  rw [eF]
  have l1 : (fl (Z.take f) [] ++ sp).length = ftl (Z.take f) + sp.length := by rw [List.length_append]; rfl
  rw [← l1, List.drop_left, Nat.add_sub_cancel_left, List.take_left]
theorem shf_psn {X Z R : List ItC} {f b k : Nat} {sp w sp1 : List Int32} (hfb : f < b) (hb : b ≤ Z.length) (h : (Z.drop f).take (b - f) = (sp, k, w) :: R) : psn 0 X ++ shf (psn 0 Z) f b (fl X sp1).length = psn 0 (X ++ (sp1, k, w) :: R) := by
  obtain ⟨e1, -, -⟩ := sub_psn (t := []) hfb hb h
  rw [psn_app]
  congr 1
  unfold shf
  rw [psn_drop, psn_take, h, psn_c, psn_c, e1]
  have l1 : (fl X sp1).length = ftl X + sp1.length := fl_len X sp1
  rw [l1, List.map_cons]
  congr 1
  · simp only [Nat.zero_add]
    congr 2 <;> omega
  · rw [show 0 + ftl (Z.take f) + sp.length + w.length = w.length + (ftl (Z.take f) + sp.length) by omega, psn_shift, List.map_map]
    rw [show 0 + ftl X + sp1.length + w.length = w.length + (ftl X + sp1.length) by omega, psn_shift (ftl X + sp1.length)]
    apply List.map_congr_left
    intro q _
    show (q.1, q.2.1 + (ftl (Z.take f) + sp.length) + (ftl X + sp1.length) - (ftl (Z.take f) + sp.length), q.2.2 + (ftl (Z.take f) + sp.length) + (ftl X + sp1.length) - (ftl (Z.take f) + sp.length)) = _
    congr 2 <;> omega
theorem psn_um : ∀ (Z : List MIt) (p : Nat), psn p (Z.map um) = psn p (Z.map un)
  | [], _ => rfl
  | (sp, m, k, w, mw) :: Z, p => by
    show (k, p + (List.replicate sp.length m).length, p + (List.replicate sp.length m).length + (List.replicate w.length mw).length) :: psn _ (Z.map um) = (k, p + sp.length, p + sp.length + w.length) :: psn _ (Z.map un)
    rw [List.length_replicate, List.length_replicate, psn_um Z]
theorem ftl_um : ∀ (Z : List MIt), ftl (Z.map um) = ftl (Z.map un)
  | [] => rfl
  | (sp, m, k, w, mw) :: Z => by
    show ftl ((List.replicate sp.length m, k, List.replicate w.length mw) :: Z.map um) = ftl ((sp, k, w) :: Z.map un)
    rw [ftl_c, ftl_c, ftl_um Z, List.length_replicate, List.length_replicate]
def TZ (I : mI) (o : Nat) (Z : List MIt) (t : List Int32) (m : Int32) : Prop := TXT I o (fl (Z.map un) t) (fl (Z.map um) (List.replicate t.length m)) (psn 0 (Z.map un))
/-- every token has a character -/
def WN (Z : List MIt) : Prop := ∀ z ∈ Z, z.2.2.2.1 ≠ []
theorem WN.wd0 {Z : List MIt} (h : WN Z) : ∀ z ∈ Z.map un, z.2.2 ≠ [] := fun z hz => by
  obtain ⟨y, hy, rfl⟩ := List.mem_map.mp hz
  exact h y hy
theorem WN.bd {Z : List MIt} (h : WN Z) (t : List Int32) : ∀ q ∈ psn 0 (Z.map un), q.2.1 < q.2.2 ∧ q.2.2 ≤ (fl (Z.map un) t).length := fun q hq => by
  have := psn_bd (Z.map un) 0 h.wd0 q hq
  rw [fl_len]
  omega
theorem WN.len : ∀ {Z : List MIt}, WN Z → Z.length ≤ ftl (Z.map un)
  | [], _ => Nat.zero_le _
  | (sp, m, k, w, mw) :: Z, h => by
    have ih := WN.len (Z := Z) (fun z hz => h z (List.mem_cons_of_mem _ hz))
    have hw : w ≠ [] := h _ List.mem_cons_self
    have : 0 < w.length := List.length_pos_iff.mpr hw
    show Z.length + 1 ≤ ftl ((sp, k, w) :: Z.map un)
    rw [ftl_c]
    omega
section IT
variable {E : XE} {d : Nat} {Q : Int32 → mI → mP → Prop} {P : mP} {o o' N N' : Nat}
theorem z_appendSpan (hT : TO P o N) (hT' : TO P o' N') (hN : N < 2 ^ 20) (hN' : N' < 2 ^ 20) (hap : apt o o') {I : mI} {X Z R : List MIt} {sp t : List Int32} {m m' : Int32} {z : MIt} (hx : TZ I o X sp m) (hx' : TZ I o' Z t m') (hW : WN X) (hW' : WN Z) (hs' : (fl (Z.map un) t).length ≤ N') {f b : Nat} (hfb : f < b) (hb : b ≤ Z.length) (hR : (Z.drop f).take (b - f) = z :: R) (hr : ftl ((X ++ sps z sp m :: R).map un) ≤ N) (h : ∀ I', FrK o I I' → TZ I' o (X ++ sps z sp m :: R) [] m → Q (nI 0) I' P) : V E (d + 2) m_Text_appendSpan 112 Q 0 [some (.inr o), some (.inr o'), some (.inl (nI f)), some (.inl (nI b)), none, none, none] [] 112 I P := by
  obtain ⟨sp0, m0, k, w, mw⟩ := z
  have hRu : ((Z.map un).drop f).take (b - f) = (sp0, k, w) :: R.map un := by rw [← List.map_drop, ← List.map_take, hR]; rfl
  have hRm : ((Z.map um).drop f).take (b - f) = (List.replicate sp0.length m0, k, List.replicate w.length mw) :: R.map um := by rw [← List.map_drop, ← List.map_take, hR]; rfl
  obtain ⟨e1, e2, e3⟩ := sub_psn (t := t) hfb (by rw [List.length_map]; exact hb) hRu
  obtain ⟨-, -, e4⟩ := sub_psn (t := List.replicate t.length m') hfb (by rw [List.length_map]; exact hb) hRm
  rw [psn_um] at e4
  have hw : w ≠ [] := by
    have : (sp0, m0, k, w, mw) ∈ Z := by
      have : (sp0, m0, k, w, mw) ∈ (Z.drop f).take (b - f) := by rw [hR]; exact List.mem_cons_self
      exact List.mem_of_mem_drop (List.mem_of_mem_take this)
    exact hW' _ this
  have hwl : 0 < w.length := List.length_pos_iff.mpr hw
  have hlen : (psn 0 (Z.map un)).length = Z.length := by rw [psn_len, List.length_map]
  have hZl := hW'.len
  have hfl := fl_len (Z.map un) t
  have hRl : R.length + 1 = b - f := by
    have := congrArg List.length hR
    rw [List.length_take, List.length_drop, List.length_cons] at this
    omega
  have hWR : WN R := fun y hy => hW' y (by
    have : y ∈ (Z.drop f).take (b - f) := by rw [hR]; exact List.mem_cons_of_mem _ hy
    exact List.mem_of_mem_drop (List.mem_of_mem_take this))
  have hRlen := hWR.len
  have hXl := hW.len
  have hr' : ftl (X.map un) + (sp.length + w.length + ftl (R.map un)) ≤ N := by
    have e : (X ++ sps (sp0, m0, k, w, mw) sp m :: R).map un = X.map un ++ (sp, k, w) :: R.map un := by rw [List.map_append]; rfl
    rw [e, ftl_app, ftl_c] at hr
    exact hr
  have hwR : (w ++ fl (R.map un) []).length = w.length + ftl (R.map un) := by rw [List.length_append]; rfl
  refine s_appendSpan hT hT' hN hN' hap hx hx' hs' (by rw [hlen]; omega) hfb (by rw [hlen]; exact hb) (hW'.bd t) (fun t' k' a e hft hq => ?_) (by rw [e1, e2, hwR]; omega) (by rw [e1, e2, hwR, fl_len]; omega) (by rw [psn_len, List.length_map]; omega) (fun I' hf hx2 => h I' hf ?_)
  · -- later tokens lie behind
    rw [e1]
    have htl : t' < (Z.map un).length := by
      have := (List.getElem?_eq_some_iff.mp hq).1
      rw [psn_len] at this
      exact this
    obtain ⟨⟨sp', k2, w'⟩, hz'⟩ : ∃ q, (Z.map un)[t']? = some q := ⟨_, List.getElem?_eq_getElem htl⟩
    rw [psn_get hz'] at hq
    cases hq
    by_cases et : t' = f
    · subst et
      have hz0 : (Z.map un)[t']? = some (sp0, k, w) := by
        have := congrArg (fun l => l[0]?) hRu
        simp only [List.getElem?_cons_zero] at this
        rw [List.getElem?_take_of_lt (by omega), List.getElem?_drop] at this
        exact this
      rw [hz0] at hz'
      cases hz'
      omega
    · have hz0 : (Z.map un)[f]? = some (sp0, k, w) := by
        have := congrArg (fun l => l[0]?) hRu
        simp only [List.getElem?_cons_zero] at this
        rw [List.getElem?_take_of_lt (by omega), List.getElem?_drop] at this
        exact this
      have : (Z.map un).take t' = (Z.map un).take f ++ (((Z.map un).drop f).take (t' - f)) := by
        conv => lhs; rw [show t' = f + (t' - f) by omega, List.take_add]
      rw [this, ftl_app]
      have hd : ((Z.map un).drop f).take (t' - f) = (sp0, k, w) :: (((Z.map un).drop f).take (t' - f)).drop 1 := by
        rw [List.drop_eq_getElem_cons (show f < (Z.map un).length by omega), show t' - f = t' - f - 1 + 1 by omega, List.take_succ_cons]
        congr 1
        exact (List.getElem?_eq_some_iff.mp hz0).2
      rw [hd, ftl_c]
      omega
  · unfold TZ
    have eu : (X ++ sps (sp0, m0, k, w, mw) sp m :: R).map un = X.map un ++ (sp, k, w) :: R.map un := by rw [List.map_append]; rfl
    have em : (X ++ sps (sp0, m0, k, w, mw) sp m :: R).map um = X.map um ++ (List.replicate sp.length m, k, List.replicate w.length mw) :: R.map um := by rw [List.map_append]; rfl
    rw [eu, em, ← shf_psn hfb (by rw [List.length_map]; exact hb) hRu, fl_app, fl_app]
    rw [e3, e4] at hx2
    show TXT I' o (fl (X.map un) (sp ++ (w ++ fl (R.map un) []))) (fl (X.map um) (List.replicate sp.length m ++ (List.replicate w.length mw ++ fl (R.map um) []))) _
    rw [fl_nl (X.map un) (sp ++ _), fl_nl (X.map um) (_ ++ _)]
    rw [fl_nl (X.map un) sp, fl_nl (X.map um) (List.replicate sp.length m), List.append_assoc, List.append_assoc] at hx2
    rw [fl_nl (X.map un) sp]
    exact hx2
end IT
