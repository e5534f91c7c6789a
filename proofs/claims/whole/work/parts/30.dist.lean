/-! How many changes lead from one text to another. -/
def wdf : Nat → List Int32 → List Int32 → Nat
  | 0, a, b => a.length + b.length
  | _ + 1, [], b => b.length
  | _ + 1, x :: a, [] => a.length + 1
  | n + 1, x :: a, y :: b => if x = y then wdf n a b else 1 + min (wdf n a (y :: b)) (wdf n (x :: a) b)
theorem wdf_f : ∀ (n n' : Nat) (a b : List Int32), a.length + b.length ≤ n → a.length + b.length ≤ n' → wdf n a b = wdf n' a b
  | 0, n', a, b, h, _ => by
    have ha : a = [] := List.length_eq_zero_iff.mp (by omega)
    have hb : b = [] := List.length_eq_zero_iff.mp (by omega)
    subst ha; subst hb
    cases n' <;> rfl
  | n + 1, 0, a, b, _, h => by
    have ha : a = [] := List.length_eq_zero_iff.mp (by omega)
    have hb : b = [] := List.length_eq_zero_iff.mp (by omega)
    subst ha; subst hb
    rfl
  | n + 1, n' + 1, [], b, _, _ => rfl
  | n + 1, n' + 1, x :: a, [], _, _ => rfl
  | n + 1, n' + 1, x :: a, y :: b, h, h' => by
    simp only [List.length_cons] at h h'
    unfold wdf
    rw [wdf_f n n' a b (by omega) (by omega), wdf_f n n' a (y :: b) (by simp; omega) (by simp; omega), wdf_f n n' (x :: a) b (by simp; omega) (by simp; omega)]
def wd (a b : List Int32) : Nat := wdf (a.length + b.length) a b
theorem wd_l (b : List Int32) : wd [] b = b.length := by
  unfold wd
  cases b <;> simp [wdf]
theorem wd_r (a : List Int32) : wd a [] = a.length := by
  unfold wd
  cases a <;> simp [wdf]
theorem wd_c (x y : Int32) (a b : List Int32) : wd (x :: a) (y :: b) = if x = y then wd a b else 1 + min (wd a (y :: b)) (wd (x :: a) b) := by
  unfold wd
  rw [show (x :: a).length + (y :: b).length = a.length + b.length + 1 + 1 by simp; omega]
  conv => lhs; unfold wdf
  rw [wdf_f _ (a.length + b.length) a b (by omega) (by omega), wdf_f _ (a.length + (y :: b).length) a (y :: b) (by simp; omega) (by omega), wdf_f _ ((x :: a).length + b.length) (x :: a) b (by simp; omega) (by omega)]
theorem wd_bd : ∀ (N : Nat) (a b : List Int32), a.length + b.length ≤ N → wd a b ≤ a.length + b.length
  | 0, a, b, h => by
    have ha : a = [] := List.length_eq_zero_iff.mp (by omega)
    have hb : b = [] := List.length_eq_zero_iff.mp (by omega)
    subst ha; subst hb
    decide
  | N + 1, [], b, _ => by rw [wd_l]; simp
  | N + 1, x :: a, [], _ => by rw [wd_r]; simp
  | N + 1, x :: a, y :: b, h => by
    simp only [List.length_cons] at h ⊢
    have h1 := wd_bd N a b (by omega)
    have h2 := wd_bd N a (y :: b) (by simp; omega)
    simp only [List.length_cons] at h2
    rw [wd_c]
    split <;> omega
/-- one character more changes the number by one at most -/
theorem wd_lip : ∀ (N : Nat) (a b : List Int32), a.length + b.length ≤ N → (∀ x, wd (x :: a) b ≤ 1 + wd a b) ∧ (∀ y, wd a b ≤ 1 + wd a (y :: b)) ∧ (∀ y, wd a (y :: b) ≤ 1 + wd a b) ∧ (∀ x, wd a b ≤ 1 + wd (x :: a) b)
  | 0, a, b, h => by
    have ha : a = [] := List.length_eq_zero_iff.mp (by omega)
    have hb : b = [] := List.length_eq_zero_iff.mp (by omega)
    subst ha; subst hb
    refine ⟨fun x => ?_, fun x => ?_, fun x => ?_, fun x => ?_⟩ <;> simp [wd_l, wd_r]
  | N + 1, [], b, h => by
    refine ⟨fun x => ?_, fun y => ?_, fun y => ?_, fun x => ?_⟩
    · cases b with
      | nil => simp [wd_l, wd_r]
      | cons y b =>
        have ih := wd_lip N [] b (by simp at h ⊢; omega)
        rw [wd_c, wd_l, wd_l]
        simp only [List.length_cons]
        split <;> omega
    · simp [wd_l]
      omega
    · simp [wd_l]
      omega
    · cases b with
      | nil => simp [wd_l]
      | cons y b =>
        have ih := wd_lip N [] b (by simp at h ⊢; omega)
        have i4 := ih.2.2.2 x
        rw [wd_l] at i4
        rw [wd_c, wd_l, wd_l]
        simp only [List.length_cons]
        split <;> omega
  | N + 1, z :: a, [], h => by
    refine ⟨fun x => ?_, fun y => ?_, fun y => ?_, fun x => ?_⟩
    · simp [wd_r]
      omega
    · have ih := wd_lip N a [] (by simp at h ⊢; omega)
      have i2 := ih.2.1 y
      rw [wd_r] at i2
      rw [wd_c, wd_r, wd_r]
      simp only [List.length_cons]
      split <;> omega
    · have ih := wd_lip N a [] (by simp at h ⊢; omega)
      rw [wd_c, wd_r, wd_r]
      simp only [List.length_cons]
      split <;> omega
    · simp [wd_r]
      omega
  | N + 1, z :: a, w :: b, h => by
    simp only [List.length_cons] at h
    have iab := wd_lip N a b (by omega)
    have ia := wd_lip N a (w :: b) (by simp; omega)
    have ib := wd_lip N (z :: a) b (by simp; omega)
    have e := wd_c z w a b
    refine ⟨fun x => ?_, fun y => ?_, fun y => ?_, fun x => ?_⟩
    · rw [wd_c x w]
      have h2 := ib.2.1 w
      split <;> omega
    · rw [wd_c z y]
      have h1 := ia.1 z
      have h2 := ia.2.1 y
      split <;> omega
    · rw [wd_c z y]
      have h2 := ia.2.2.2 z
      split <;> omega
    · rw [wd_c x w]
      have h1 := ib.2.2.1 w
      have h2 := ib.2.2.2 x
      split <;> omega
theorem drop_e {s : List Int32} {p : Nat} {x : Int32} (h : s[p]? = some x) : s.drop p = x :: s.drop (p + 1) := by
  obtain ⟨l1, e1⟩ := List.getElem?_eq_some_iff.mp h
  rw [List.drop_eq_getElem_cons l1, e1]
def wv (a b : List Int32) (i j : Nat) : Nat := wd (a.drop i) (b.drop j)
theorem wv_n {a b : List Int32} {i j : Nat} (h : a.length ≤ i) : wv a b i j = b.length - j := by
  unfold wv
  rw [List.drop_eq_nil_of_le h, wd_l, List.length_drop]
theorem wv_m {a b : List Int32} {i j : Nat} (h : b.length ≤ j) : wv a b i j = a.length - i := by
  unfold wv
  rw [List.drop_eq_nil_of_le h, wd_r, List.length_drop]
theorem wv_e {a b : List Int32} {i j : Nat} {x y : Int32} (hx : a[i]? = some x) (hy : b[j]? = some y) : wv a b i j = if x = y then wv a b (i + 1) (j + 1) else 1 + min (wv a b (i + 1) j) (wv a b i (j + 1)) := by
  unfold wv
  rw [drop_e hx, drop_e hy, wd_c]
theorem wv_k {a b : List Int32} {i j : Nat} {x y : Int32} (hx : a[i]? = some x) (hy : b[j]? = some y) : wv a b (i + 1) (j + 1) ≤ 1 + min (wv a b (i + 1) j) (wv a b i (j + 1)) := by
  unfold wv
  rw [drop_e hx, drop_e hy]
  have := wd_lip _ (a.drop (i + 1)) (b.drop (j + 1)) (Nat.le_refl _)
  have h1 := this.2.1 y
  have h2 := this.2.2.2 x
  omega
theorem wv_b (a b : List Int32) (i j : Nat) : wv a b i j ≤ a.length + b.length := by
  unfold wv
  have := wd_bd _ (a.drop i) (b.drop j) (Nat.le_refl _)
  rw [List.length_drop, List.length_drop] at this
  omega
/-- the table from place (i0, j0) on, in the order in which it is filled -/
def DT (f : Nat → Int32) (a b : List Int32) (i0 j0 : Nat) : Prop := ∀ i j, i ≤ a.length → j ≤ b.length → (i0 < i ∨ (i = i0 ∧ j0 ≤ j)) → f (121 * i + j) = nI (wv a b i j)
theorem DT.st {f : Nat → Int32} {a b : List Int32} {i j : Nat} (h : DT f a b i (j + 1)) (hb : b.length ≤ 120) (hj : j ≤ b.length) : DT (upd f (121 * i + j) (nI (wv a b i j))) a b i j := by
  intro i' j' h1 h2 h3
  by_cases e : i' = i ∧ j' = j
  · obtain ⟨rfl, rfl⟩ := e
    unfold upd
    rw [if_pos rfl]
  · unfold upd
    rw [if_neg (by omega)]
    exact h i' j' h1 h2 (by omega)
theorem DT.row {f : Nat → Int32} {a b : List Int32} {i : Nat} (h : DT f a b i 0) : DT f a b (i - 1) (b.length + 1) := fun i' j' h1 h2 h3 => h i' j' h1 h2 (by omega)
theorem mxn (a b : Nat) : nI a * nI b = nI (a * b) := pk_mul a b
section CO
variable {E : XE} {d : Nat} {Q : Int32 → mI → mP → Prop} {P : mP} {a b : List Int32}
theorem l_compare (hM : MO P) (ha : a.length ≤ 60) (hb : b.length ≤ 120) : ∀ (k : Nat) (I : mI), k ≤ a.length + 1 → I 95 3 = nI a.length → I 95 2 = nI b.length → Rc (I 96) 128 a → Rc (I 96) 0 b → DT (I 111) a b k 0 →
    (∀ I', (∀ m, m ≠ 111 → I' m = I m) → DT (I' 111) a b 0 0 → Q (nI 0) I' P) → V E d m_Model_compare 112 Q 5 [some (.inr 95), some (.inl (ix k)), none, none, none, none, none] [] 112 I P := by
  have hM' := hM
  obtain ⟨p0, -, -, -, -, -, -, -, -, -, -, -, -, -, -, p25⟩ := hM'
  intro k
  induction k with
  | zero =>
    intro I _ _ _ _ _ hD h
    exact x_Model_compare_5 _ _ ⟨fun _ => h I (fun _ _ => rfl) hD, fun q => absurd m1_lt q⟩
  | succ i ih =>
    intro I hi h3 h2 hca hcb hD h
    show V E d m_Model_compare 112 Q 5 [some (.inr 95), some (.inl (nI i)), none, none, none, none, none] [] 112 I P
    refine x_Model_compare_5 _ _ ⟨fun q => absurd q (nI_pos (by omega)), fun _ => ⟨k95, ?_⟩⟩
    rw [h2]
    -- the row i, from j = k - 1 down
    have row : ∀ (k : Nat) (I1 : mI), k ≤ b.length + 1 → (∀ m, m ≠ 111 → I1 m = I m) → DT (I1 111) a b i k → V E d m_Model_compare 112 Q 14 [some (.inr 95), some (.inl (nI i)), some (.inl (ix k)), none, none, none, none] [] 112 I1 P := by
      intro k
      induction k with
      | zero =>
        intro I1 _ hf hD1
        refine x_Model_compare_14 _ _ _ ⟨fun _ => ?_, fun q => absurd m1_lt q⟩
        rw [ix_add]
        refine ih I1 (by omega) (by rw [hf 95 (by decide)]; exact h3) (by rw [hf 95 (by decide)]; exact h2) (by rw [hf 96 (by decide)]; exact hca) (by rw [hf 96 (by decide)]; exact hcb) ?_ (fun I' hf' hD' => h I' (fun m hm => (hf' m hm).trans (hf m hm)) hD')
        exact hD1
      | succ j ihj =>
        intro I1 hj hf hD1
        have g3 : I1 95 3 = nI a.length := by rw [hf 95 (by decide)]; exact h3
        have g2 : I1 95 2 = nI b.length := by rw [hf 95 (by decide)]; exact h2
        have hij : 121 * i + j < 7381 := by omega
        -- the value is stored
        have store : V E d m_Model_compare 112 Q 152 [some (.inr 95), some (.inl (nI i)), some (.inl (nI j)), some (.inl (nI (wv a b i j))), none, none, none] [] 112 I1 P := by
          refine x_Model_compare_152 _ _ _ _ ?_
          simp only [k95, p25, k111, nzl 111 (by decide), true_and]
          rw [mxn, nI_add, clp (by omega), ix_add]
          refine ⟨vp_in_nI hij (by decide), ihj _ (by omega) (fun m hm => by rw [uI_n hm]; exact hf m hm) ?_⟩
          show DT (uI I1 111 (121 * i + j) (nI (wv a b i j)) 111) a b i j
          unfold uI
          rw [sI_s]
          exact hD1.st hb (by omega)
        show V E d m_Model_compare 112 Q 14 [some (.inr 95), some (.inl (nI i)), some (.inl (nI j)), none, none, none, none] [] 112 I1 P
        refine x_Model_compare_14 _ _ _ ⟨fun q => absurd q (nI_pos (by omega)), fun _ => ⟨k95, ?_⟩⟩
        rw [g3, g2]
        have at42 : ∀ v, (a.length ≤ i ∨ b.length ≤ j → v = wv a b i j) → V E d m_Model_compare 112 Q 42 [some (.inr 95), some (.inl (nI i)), some (.inl (nI j)), some (.inl (nI v)), none, none, none] [] 112 I1 P := by
          intro v hv
          refine x_Model_compare_42 _ _ _ _ ⟨k95, ?_⟩
          rw [g3, g2]
          refine pk_le a.length i (fun q => by rw [hv (Or.inl q)]; exact store) (fun q => ⟨k95, pk_le b.length j (fun q2 => by rw [hv (Or.inr q2)]; exact store) (fun q2 => ?_)⟩)
          obtain ⟨x, hx, -⟩ := drop_c (s := a) (p := i) q
          obtain ⟨y, hy, -⟩ := drop_c (s := b) (p := j) q2
          simp only [k95, p25, k111, nzl 111 (by decide), true_and]
          have e1 : I1 111 (121 * i + 121 + j) = nI (wv a b (i + 1) j) := by
            have := hD1 (i + 1) j (by omega) (by omega) (Or.inl (by omega))
            rw [show 121 * (i + 1) + j = 121 * i + 121 + j by omega] at this
            exact this
          have e2 : I1 111 (121 * i + j + 1) = nI (wv a b i (j + 1)) := hD1 i (j + 1) (by omega) (by omega) (Or.inr ⟨rfl, Nat.le_refl _⟩)
          have e3 : I1 111 (121 * i + 121 + j + 1) = nI (wv a b (i + 1) (j + 1)) := by
            have := hD1 (i + 1) (j + 1) (by omega) (by omega) (Or.inl (by omega))
            rw [show 121 * (i + 1) + (j + 1) = 121 * i + 121 + j + 1 by omega] at this
            exact this
          have b1 := wv_b a b (i + 1) j
          have b2 := wv_b a b i (j + 1)
          have b3 := wv_b a b (i + 1) (j + 1)
          have hk := wv_k hx hy
          have he := wv_e hx hy
          rw [mxn, nI_add, nI_add, nI_add, nI_add, clp (by omega), clp (by omega), e1, e2]
          refine ⟨vp_in_nI (by omega) (by decide), vp_in_nI (by omega) (by decide), ?_⟩
          have at106 : V E d m_Model_compare 112 Q 106 [some (.inr 95), some (.inl (nI i)), some (.inl (nI j)), some (.inl (nI (1 + min (wv a b (i + 1) j) (wv a b i (j + 1))))), none, none, none] [] 112 I1 P := by
            refine x_Model_compare_106 _ _ _ _ ?_
            simp only [k95, p25, k111, p0, k96, nzl 111 (by decide), nzl 96 (by decide), true_and]
            rw [mxn, nI_add, nI_add, nI_add, nI_add, clp (by omega), clp (by omega), clp (by omega), e3]
            have ea : I1 96 (128 + i) = x := by rw [hf 96 (by decide)]; exact hca i x hx
            have eb : I1 96 j = y := by rw [hf 96 (by decide)]; exact hcb.at0 hy
            rw [ea, eb]
            refine ⟨vp_in_nI (by omega) (by decide), vp_in_nI (by omega) (by decide), vp_in_nI (by omega) (by decide), fun c => ?_, fun c => ?_⟩
            · rw [if_neg c] at he
              rw [← he]
              exact store
            · rw [if_pos c] at he
              refine pk_le _ _ (fun q3 => ?_) (fun q3 => ?_)
              · have : 1 + min (wv a b (i + 1) j) (wv a b i (j + 1)) = wv a b i j := by omega
                rw [this]
                exact store
              · rw [← he]
                exact store
          refine pk_le _ _ (fun q3 => ?_) (fun q3 => ?_)
          · rw [nI_add, show 1 + wv a b i (j + 1) = 1 + min (wv a b (i + 1) j) (wv a b i (j + 1)) by omega]
            exact at106
          · rw [nI_add, show 1 + wv a b (i + 1) j = 1 + min (wv a b (i + 1) j) (wv a b i (j + 1)) by omega]
            exact at106
        rw [nI_eq (by omega) (by omega)]
        refine ⟨fun q => ⟨k95, ?_⟩, fun q => ⟨k95, ?_⟩⟩
        · rw [pk_sub (by omega)]
          refine at42 _ (fun q2 => ?_)
          rw [wv_m (by omega)]
        · rw [pk_sub (by omega)]
          refine at42 _ (fun q2 => ?_)
          rw [wv_n (by omega)]
    exact row (b.length + 1) I (Nat.le_refl _) (fun _ _ => rfl) (by
      intro i' j' h1' h2' h3'
      exact hD i' j' h1' h2' (by omega))
theorem s_compare (hM : MO P) (ha : a.length ≤ 60) (hb : b.length ≤ 120) {I : mI} (h3 : I 95 3 = nI a.length) (h2 : I 95 2 = nI b.length) (hca : Rc (I 96) 128 a) (hcb : Rc (I 96) 0 b)
    (h : ∀ I', (∀ m, m ≠ 111 → I' m = I m) → DT (I' 111) a b 0 0 → Q (nI 0) I' P) : V E d m_Model_compare 112 Q 0 [some (.inr 95), none, none, none, none, none, none] [] 112 I P := by
  refine x_Model_compare_0 _ ⟨k95, ?_⟩
  rw [h3]
  exact l_compare hM ha hb (a.length + 1) I (Nat.le_refl _) h3 h2 hca hcb (fun i j h1 _ h4 => by omega) h
end CO
