/-! The steps. -/
theorem Rc.psh {f : Nat → Int32} {s : List Int32} {o : Nat} {v : Int32} (h : Rc f o s) : Rc (upd f (o + s.length) v) o (s ++ [v]) := by
  intro j x hx
  unfold upd
  by_cases hj : j < s.length
  · rw [List.getElem?_append_left hj] at hx
    rw [if_neg (by omega)]
    exact h j x hx
  · by_cases e : j = s.length
    · subst e
      rw [if_pos rfl]
      rw [List.getElem?_append_right (Nat.le_refl _), Nat.sub_self] at hx
      injection hx
    · exfalso
      have := (List.getElem?_eq_some_iff.mp hx).1
      simp at this
      omega
theorem gno {s : List Int32} {i : Nat} (h : s.length ≤ i) : s[i]? = none := List.getElem?_eq_none h
theorem stp_s (a b : List Int32) (n i j : Nat) : stp a b (n + 1) i j = match a[i]?, b[j]? with
    | some x, some y => if x = y then (nI 1000 + x) :: stp a b n (i + 1) (j + 1) else if wv a b i j = 1 + wv a b (i + 1) j then (nI 2000 + x) :: stp a b n (i + 1) j else (nI 3000 + y) :: stp a b n i (j + 1)
    | some x, none => (nI 2000 + x) :: stp a b n (i + 1) j
    | none, some y => (nI 3000 + y) :: stp a b n i (j + 1)
    | none, none => [] := rfl
section WK
variable {E : XE} {d : Nat} {Q : Int32 → mI → mP → Prop} {P : mP} {a b : List Int32} {o : Nat}
theorem l_walk (hP : P 92 0 = 93) (hP1 : P 92 1 = 94) (hT : TO P o 120) (ho : o + 5 < 85) (h4o : 4 < o) (ha : a.length ≤ 60) (hb : b.length ≤ 120) : ∀ (f i j n : Nat) (S : List Int32) (I : mI), n + f = a.length + b.length → n ≤ i + j → i ≤ a.length → j ≤ b.length → S.length = n → I o 5 = nI b.length → Rc (I 4) 0 a → Rc (I (o + 1)) 0 b → DT (I 93) a b 0 0 → Rc (I 94) 0 S → I 92 2 = nI n →
    (∀ I', (∀ m, m ≠ 92 → m ≠ 94 → I' m = I m) → (∀ k, k ≠ 2 → I' 92 k = I 92 k) → Rc (I' 94) 0 (S ++ stp a b f i j) → I' 92 2 = nI (S ++ stp a b f i j).length → Q (nI 0) I' P) → V E (d + 1) m_Patch_walk 112 Q 32 [some (.inr 92), some (.inr 4), some (.inl (nI a.length)), some (.inr o), some (.inl (nI i)), some (.inl (nI j)), some (.inl (nI (a.length + b.length))), some (.inl (nI n))] [] 112 I P := by
  have hT' := hT
  obtain ⟨t0, ⟨p0, c0⟩, -⟩ := hT'
  intro f
  induction f with
  | zero =>
    intro i j n S I hn hij hi hj hS h5 hca hcb hD hR h2 h
    refine x_Patch_walk_32 _ _ _ _ _ _ _ _ (pk_le (a.length + b.length) n (fun _ => ?_) (fun q => by omega))
    have e : stp a b 0 i j = [] := rfl
    rw [e, List.append_nil] at h
    exact h I (fun _ _ _ => rfl) (fun _ _ => rfl) hR (by rw [hS]; exact h2)
  | succ f ih =>
    intro i j n S I hn hij hi hj hS h5 hca hcb hD hR h2 h
    have s181 : ∀ (v : Int32) (i' j' : Nat), i' ≤ a.length → j' ≤ b.length → n + 1 ≤ i' + j' → stp a b (f + 1) i j = v :: stp a b f i' j' → V E (d + 1) m_Patch_walk 112 Q 181 [some (.inr 92), some (.inr 4), some (.inl (nI a.length)), some (.inr o), some (.inl (nI i')), some (.inl (nI j')), some (.inl (nI (a.length + b.length))), some (.inl (nI n))] [] 112 (uI I 94 n v) P := by
      intro v i' j' hi' hj' hij' e
      refine x_Patch_walk_181 _ _ _ _ _ _ _ _ ⟨k92, k92, ?_⟩
      rw [uI_n (by decide), h2, n1]
      refine ih i' j' (n + 1) (S ++ [v]) _ (by omega) hij' hi' hj' (by simp [hS]) ?_ ?_ ?_ ?_ ?_ ?_ ?_
      · rw [uI_n (by omega), uI_n (by omega)]; exact h5
      · rw [uI_n (by omega), uI_n (by omega)]; exact hca
      · rw [uI_n (by omega), uI_n (by omega)]; exact hcb
      · rw [uI_n (by omega), uI_n (by omega)]; exact hD
      · rw [uI_n (by omega)]
        unfold uI
        rw [sI_s, ← hS]
        have := hR.psh (v := v)
        rw [Nat.zero_add] at this
        exact this
      · rw [uI_s]
      · rw [e] at h
        intro I' h1 h2' h3 h4
        rw [List.append_assoc, List.singleton_append] at h3 h4
        refine h I' (fun m hm hm' => ?_) (fun k hk => ?_) h3 h4
        · rw [h1 m hm hm', uI_n hm, uI_n hm']
        · rw [h2' k hk, uI_o hk, uI_n (by decide)]
    refine x_Patch_walk_32 _ _ _ _ _ _ _ _ (pk_le (a.length + b.length) n (fun q => by omega) (fun _ => ?_))
    rw [h5]
    have fin : a.length ≤ i → b.length ≤ j → Q (nI 0) I P := by
      intro q q2
      have e : stp a b (f + 1) i j = [] := by
        rw [stp_s]
        rw [gno q, gno q2]
      rw [e, List.append_nil] at h
      exact h I (fun _ _ _ => rfl) (fun _ _ => rfl) hR (by rw [hS]; exact h2)
    have in94 : vp_in (nI n) 180 := vp_in_nI (by omega) (by decide)
    have s149 : j < b.length → (∀ y, b[j]? = some y → stp a b (f + 1) i j = (nI 3000 + y) :: stp a b f i (j + 1)) → V E (d + 1) m_Patch_walk 112 Q 149 [some (.inr 92), some (.inr 4), some (.inl (nI a.length)), some (.inr o), some (.inl (nI i)), some (.inl (nI j)), some (.inl (nI (a.length + b.length))), some (.inl (nI n))] [] 112 I P := by
      intro q e
      obtain ⟨y, hy, -⟩ := drop_c (s := b) (p := j) q
      refine x_Patch_walk_149 _ _ _ _ _ _ _ _ ⟨t0, ?_⟩
      rw [h5]
      refine pk_le b.length j (fun q2 => by omega) (fun _ => ?_)
      simp only [t0, p0, c0, hP1, k92, k94, nzz 1 (by decide), nzl 94 (by decide), true_and, h2]
      rw [clp (show n < 2 ^ 31 by omega), clp (show j < 2 ^ 31 by omega), n1, hcb.at0 hy]
      exact ⟨vp_in_nI (by omega) (by decide), in94, s181 _ i (j + 1) hi (by omega) (by omega) (e y hy)⟩
    have s109 : (i < a.length ∨ j < b.length) → (∀ x y, a[i]? = some x → b[j]? = some y → x ≠ y) → V E (d + 1) m_Patch_walk 112 Q 109 [some (.inr 92), some (.inr 4), some (.inl (nI a.length)), some (.inr o), some (.inl (nI i)), some (.inl (nI j)), some (.inl (nI (a.length + b.length))), some (.inl (nI n))] [] 112 I P := by
      intro hor hne
      refine x_Patch_walk_109 _ _ _ _ _ _ _ _ (pk_le a.length i (fun q => ?_) (fun q => ⟨k92, ?_⟩))
      · refine s149 (by omega) (fun y hy => ?_)
        rw [stp_s]
        rw [gno q, hy]
      · obtain ⟨x, hx, -⟩ := drop_c (s := a) (p := i) q
        refine s_deletes hP hD ha hb q hj (bz_i (fun c => ?_) (fun c => ?_))
        · have c' := of_decide_eq_false c
          have hjl : j < b.length := by
            apply Classical.byContradiction
            intro hc
            rw [wv_m (by omega), wv_m (by omega)] at c'
            omega
          refine s149 hjl (fun y hy => ?_)
          rw [stp_s]
          rw [hx, hy]
          simp only [if_neg (hne x y hx hy), if_neg c']
        · have c' := of_decide_eq_true c
          simp only [k4_, hP1, k92, k94, nzl 94 (by decide), true_and, h2]
          rw [clp (show n < 2 ^ 31 by omega), clp (show i < 2 ^ 31 by omega), n1, hca.at0 hx]
          refine ⟨vp_in_nI (by omega) (by decide), in94, s181 _ (i + 1) j (by omega) hj (by omega) ?_⟩
          rw [stp_s]
          rw [hx]
          cases hb' : b[j]? with
          | none => rfl
          | some y => simp only [if_neg (hne x y hx hb'), if_pos c']
    have s54 : (i < a.length ∨ j < b.length) → V E (d + 1) m_Patch_walk 112 Q 54 [some (.inr 92), some (.inr 4), some (.inl (nI a.length)), some (.inr o), some (.inl (nI i)), some (.inl (nI j)), some (.inl (nI (a.length + b.length))), some (.inl (nI n))] [] 112 I P := by
      intro hor
      refine x_Patch_walk_54 _ _ _ _ _ _ _ _ (pk_le a.length i (fun q => s109 hor (fun x y hx _ => by rw [gno q] at hx; cases hx)) (fun q => ⟨t0, ?_⟩))
      rw [h5]
      refine pk_le b.length j (fun q2 => s109 hor (fun x y _ hy => by rw [gno q2] at hy; cases hy)) (fun q2 => ?_)
      obtain ⟨x, hx, -⟩ := drop_c (s := a) (p := i) q
      obtain ⟨y, hy, -⟩ := drop_c (s := b) (p := j) q2
      simp only [t0, p0, c0, k4_, hP1, k92, k94, nzz 1 (by decide), nzl 94 (by decide), true_and, h2]
      rw [clp (show n < 2 ^ 31 by omega), clp (show i < 2 ^ 31 by omega), clp (show j < 2 ^ 31 by omega), n1, n1, hca.at0 hx, hcb.at0 hy]
      refine ⟨vp_in_nI (by omega) (by decide), vp_in_nI (by omega) (by decide), fun c => s109 hor (fun x' y' hx' hy' => ?_), fun c => ⟨vp_in_nI (by omega) (by decide), in94, s181 _ (i + 1) (j + 1) (by omega) (by omega) (by omega) ?_⟩⟩
      · rw [hx] at hx'
        rw [hy] at hy'
        cases hx'
        cases hy'
        exact c
      · rw [stp_s]
        rw [hx, hy]
        simp only [if_pos c]
    refine pk_lt i a.length (fun q => s54 (Or.inl q)) (fun q => ⟨t0, pk_le b.length j (fun q2 => fin (by omega) q2) (fun q2 => s54 (Or.inr q2))⟩)
theorem s_walk (hP : P 92 0 = 93) (hP1 : P 92 1 = 94) (hT : TO P o 120) (ho : o + 5 < 85) (h4o : 4 < o) (ha : a.length ≤ 60) (hb : b.length ≤ 120) {I : mI} (h5 : I o 5 = nI b.length) (hca : Rc (I 4) 0 a) (hcb : Rc (I (o + 1)) 0 b) (hD : DT (I 93) a b 0 0)
    (h : ∀ I', (∀ m, m ≠ 92 → m ≠ 94 → I' m = I m) → I' 92 3 = nI (wv a b 0 0) → Rc (I' 94) 0 (stps a b) → I' 92 2 = nI (stps a b).length → Q (nI 0) I' P) : V E (d + 1) m_Patch_walk 112 Q 0 [some (.inr 92), some (.inr 4), some (.inl (nI a.length)), some (.inr o), none, none, none, none] [] 112 I P := by
  refine x_Patch_walk_0 _ _ _ _ ?_
  simp only [hT.1, k92, hP, k93, nzl 93 (by decide), true_and]
  rw [h5, nI_add, clp (show 0 < 2 ^ 31 by decide), uI_n (by decide)]
  have e0 := hD 0 0 (by omega) (by omega) (by omega)
  rw [show 121 * 0 + 0 = 0 from rfl] at e0
  rw [e0]
  refine ⟨vp_in_nI (by decide) (by decide), l_walk hP hP1 hT ho h4o ha hb (a.length + b.length) 0 0 0 [] _ (by omega) (by omega) (by omega) (by omega) rfl ?_ ?_ ?_ ?_ (fun j x hx => by simp at hx) ?_ ?_⟩
  · rw [uI_n (by omega), uI_n (by omega)]; exact h5
  · rw [uI_n (by omega), uI_n (by omega)]; exact hca
  · rw [uI_n (by omega), uI_n (by omega)]; exact hcb
  · rw [uI_n (by omega), uI_n (by omega)]; exact hD
  · rw [uI_o (by decide), uI_s]
  · intro I' h1 h2 h3 h4
    rw [List.nil_append] at h3 h4
    refine h I' (fun m hm hm' => ?_) ?_ h3 h4
    · rw [h1 m hm hm', uI_n hm, uI_n hm]
    · rw [h2 3 (by decide), uI_s]
/-- what the class keeps of the patch -/
def PT (I : mI) (a b : List Int32) : Prop := I 92 3 = nI (wv a b 0 0) ∧ Rc (I 94) 0 (stps a b) ∧ I 92 2 = nI (stps a b).length
def FrPt (I I' : mI) : Prop := ∀ m, m ≠ 92 → m ≠ 93 → m ≠ 94 → I' m = I m
theorem s_trace (hP : P 92 0 = 93) (hP1 : P 92 1 = 94) (hT : TO P o 120) (ho : o + 5 < 85) (h4o : 4 < o) (ha : a.length ≤ 60) (hb : b.length ≤ 120) {I : mI} {kn : Bool} (hk : I 92 4 = bI kn) (hkn : kn = true → PT I a b) (h5 : I o 5 = nI b.length) (hca : Rc (I 4) 0 a) (hcb : Rc (I (o + 1)) 0 b)
    (h : ∀ I', FrPt I I' → PT I' a b → I' 92 4 = bI true → Q (nI 0) I' P) : V E (d + 2) m_Patch_trace 112 Q 0 [some (.inr 92), some (.inr 4), some (.inl (nI a.length)), some (.inr o)] [] 112 I P := by
  refine x_Patch_trace_0 _ _ _ _ ⟨k92, ?_⟩
  rw [hk]
  refine bn_i (fun c => h I (fun _ _ _ _ => rfl) (hkn c) (by rw [hk, c])) (fun c => pk_lt 60 a.length (fun q => by omega) (fun _ => ⟨hT.1, ?_⟩))
  rw [h5]
  refine pk_le b.length 120 (fun _ => ⟨k92, ?_⟩) (fun q => by omega)
  refine s_weigh hP hT ho h4o ha hb h5 hca hcb (fun I1 f1 D1 => ⟨k92, ?_⟩)
  refine s_walk hP hP1 hT ho h4o ha hb (by rw [f1 o (by omega)]; exact h5) (by rw [f1 4 (by omega)]; exact hca) (by rw [f1 (o + 1) (by omega)]; exact hcb) D1 (fun I2 f2 w1 w2 w3 => ⟨k92, rfl, rfl, ?_⟩)
  refine h _ (fun m h92 h93 h94 => ?_) ⟨?_, ?_, ?_⟩ ?_
  · rw [uI_n h92, f2 m h92 h94, f1 m h93]
  · rw [uI_o (by decide)]; exact w1
  · rw [uI_n (by decide)]; exact w2
  · rw [uI_o (by decide)]; exact w3
  · rw [uI_s]; rfl
end WK
