/-! Model.putIn. -/
theorem bv_t {f w : Nat} (hf : f < 2 ^ 20) (hw : w < 2 ^ 20) : (nI f - nI w).toInt = (f : Int) - w := by
  rw [Int32.toInt_sub, nI_t (by omega), nI_t (by omega)]
  exact Int.bmod_eq_of_le (by omega) (by omega)
theorem bv_le {f w : Nat} (hf : f < 2 ^ 20) (hw : w < 2 ^ 20) : nI f - nI w ≤ (0 : Int32) ↔ f ≤ w := by
  have e : (nI f - nI w ≤ nI 0) ↔ _ := len (x := nI f - nI w) (n := 0) (by decide)
  rw [bv_t hf hw] at e
  constructor
  · intro h
    have := e.mp h
    omega
  · intro h
    exact e.mpr (by omega)
/-- what the moving leaves: places below a, the rest moved, places from 120 on -/
def mvd (g g1 : Nat → Int32) (a b f L : Nat) : Prop := (∀ j, j < a → g1 j = g j) ∧ (∀ j, b ≤ j → j < L → g1 (j + f - (b - a)) = g j) ∧ ∀ j, 120 ≤ j → g1 j = g j
def FrV (I I' : mI) : Prop := (∀ m, m ≠ 96 → m ≠ 97 → I' m = I m) ∧ ∀ m j, 120 ≤ j → I' m j = I m j
theorem upd_s {g : Nat → Int32} {p : Nat} {v : Int32} : upd g p v p = v := by unfold upd; rw [if_pos rfl]
theorem upd_o {g : Nat → Int32} {p j : Nat} {v : Int32} (h : j ≠ p) : upd g p v j = g j := by unfold upd; rw [if_neg h]
section PI
variable {E : XE} {d : Nat} {Q : Int32 → mI → mP → Prop} {P : mP} {a b f L : Nat}
theorem l_mvr (hM : MO P) (hab : a ≤ b) (hbL : b ≤ L) (hL : L ≤ 120) (hf : b - a < f) (hr : L + f ≤ 120 + (b - a)) {I0 : mI} (hq : ∀ I', FrV I0 I' → mvd (I0 96) (I' 96) a b f L → mvd (I0 97) (I' 97) a b f L → V E d m_Model_putIn 112 Q 86 [some (.inr 95), some (.inl (nI a)), none, some (.inl (nI f - nI (b - a))), some (.inl (nI 0)), none] [] 112 I' P) : ∀ (n k : Nat) (I : mI), k + n = L - b → I 95 2 = nI L → FrV I0 I → (∀ m, m = 96 ∨ m = 97 → (∀ j, j < L - k → I m j = I0 m j) ∧ (∀ j, L - k ≤ j → j < L → I m (j + f - (b - a)) = I0 m j)) → V E d m_Model_putIn 112 Q 12 [some (.inr 95), some (.inl (nI a)), some (.inl (nI b)), some (.inl (nI f - nI (b - a))), some (.inl (nI k)), none] [] 112 I P := by
  obtain ⟨p0, p1, -⟩ := hM
  intro n
  induction n with
  | zero =>
    intro k I hk h2 fr hi
    refine x_Model_putIn_12 _ _ _ _ _ ⟨k95, ?_⟩
    rw [h2, pk_sub (by omega)]
    refine pk_le (L - b) k (fun _ => hq I fr ?_ ?_) (fun c => by omega)
    · exact ⟨fun j hj => (hi 96 (Or.inl rfl)).1 j (by omega), fun j h1 h2 => (hi 96 (Or.inl rfl)).2 j (by omega) h2, fun j hj => fr.2 96 j hj⟩
    · exact ⟨fun j hj => (hi 97 (Or.inr rfl)).1 j (by omega), fun j h1 h2 => (hi 97 (Or.inr rfl)).2 j (by omega) h2, fun j hj => fr.2 97 j hj⟩
  | succ n ih =>
    intro k I hk h2 fr hi
    refine x_Model_putIn_12 _ _ _ _ _ ⟨k95, ?_⟩
    rw [h2, pk_sub (by omega)]
    refine pk_le (L - b) k (fun c => by omega) (fun _ => ⟨fun c => ?_, fun _ => ⟨k95, ?_⟩⟩)
    · have := (bv_le (by omega) (by omega)).mp c
      omega
    · rw [show nI L - nI 1 = nI (L - 1) from pk_sub (by omega), show nI (L - 1) - nI k = nI (L - 1 - k) from pk_sub (by omega)]
      refine x_Model_putIn_45 _ _ _ _ _ _ ?_
      simp only [k95, p0, p1, k96, k97, nzl 96 (by decide), nzl 97 (by decide), true_and]
      rw [sub3 (by omega), clp (show L - 1 - k < 2 ^ 31 by omega), clp (show L - 1 - k + f - (b - a) < 2 ^ 31 by omega), n1]
      refine ⟨vp_in_nI (by omega) (by decide), vp_in_nI (by omega) (by decide), vp_in_nI (by omega) (by decide), vp_in_nI (by omega) (by decide), ih (k + 1) _ (by omega) ?_ ⟨fun m h1 h2 => ?_, fun m j hj => ?_⟩ (fun m hm => ?_)⟩
      · rw [uI_n (by decide), uI_n (by decide)]
        exact h2
      · rw [uI_n h2, uI_n h1]
        exact fr.1 m h1 h2
      · rw [uI_at (by omega), uI_at (by omega)]
        exact fr.2 m j hj
      · have e96 : (uI (uI I 96 (L - 1 - k + f - (b - a)) (I 96 (L - 1 - k))) 97 (L - 1 - k + f - (b - a)) ((uI I 96 (L - 1 - k + f - (b - a)) (I 96 (L - 1 - k))) 97 (L - 1 - k))) m = upd (I m) (L - 1 - k + f - (b - a)) (I m (L - 1 - k)) := by
          rcases hm with rfl | rfl
          · rw [uI_n (by decide)]
            unfold uI
            rw [sI_s]
          · have : (uI I 96 (L - 1 - k + f - (b - a)) (I 96 (L - 1 - k))) 97 = I 97 := uI_n (by decide)
            rw [this]
            unfold uI
            rw [sI_s, sI_n (by decide)]
        rw [e96]
        obtain ⟨i1, i2⟩ := hi m hm
        refine ⟨fun j hj => ?_, fun j h1 h2 => ?_⟩
        · rw [upd_o (by omega)]
          exact i1 j (by omega)
        · by_cases e : j = L - 1 - k
          · subst e
            rw [upd_s]
            exact i1 _ (by omega)
          · rw [upd_o (by omega)]
            exact i2 j (by omega) h2
theorem l_mvl (hM : MO P) (hab : a ≤ b) (hbL : b ≤ L) (hL : L ≤ 120) (hf : f ≤ b - a) {I0 : mI} (hq : ∀ I', FrV I0 I' → mvd (I0 96) (I' 96) a b f L → mvd (I0 97) (I' 97) a b f L → V E d m_Model_putIn 112 Q 86 [some (.inr 95), some (.inl (nI a)), none, some (.inl (nI f - nI (b - a))), some (.inl (nI 0)), none] [] 112 I' P) : ∀ (n k : Nat) (I : mI), k + n = L - b → I 95 2 = nI L → FrV I0 I → (∀ m, m = 96 ∨ m = 97 → (∀ j, j < a → I m j = I0 m j) ∧ (∀ j, b + k ≤ j → I m j = I0 m j) ∧ (∀ j, b ≤ j → j < b + k → I m (j + f - (b - a)) = I0 m j)) → V E d m_Model_putIn 112 Q 12 [some (.inr 95), some (.inl (nI a)), some (.inl (nI b)), some (.inl (nI f - nI (b - a))), some (.inl (nI k)), none] [] 112 I P := by
  obtain ⟨p0, p1, -⟩ := hM
  intro n
  induction n with
  | zero =>
    intro k I hk h2 fr hi
    refine x_Model_putIn_12 _ _ _ _ _ ⟨k95, ?_⟩
    rw [h2, pk_sub (by omega)]
    refine pk_le (L - b) k (fun _ => hq I fr ?_ ?_) (fun c => by omega)
    · exact ⟨fun j hj => (hi 96 (Or.inl rfl)).1 j (by omega), fun j h1 h2 => (hi 96 (Or.inl rfl)).2.2 j h1 (by omega), fun j hj => fr.2 96 j hj⟩
    · exact ⟨fun j hj => (hi 97 (Or.inr rfl)).1 j (by omega), fun j h1 h2 => (hi 97 (Or.inr rfl)).2.2 j h1 (by omega), fun j hj => fr.2 97 j hj⟩
  | succ n ih =>
    intro k I hk h2 fr hi
    refine x_Model_putIn_12 _ _ _ _ _ ⟨k95, ?_⟩
    rw [h2, pk_sub (by omega)]
    refine pk_le (L - b) k (fun c => by omega) (fun _ => ⟨fun _ => ?_, fun c => absurd ((bv_le (by omega) (by omega)).mpr hf) c⟩)
    rw [nI_add]
    refine x_Model_putIn_45 _ _ _ _ _ _ ?_
    simp only [k95, p0, p1, k96, k97, nzl 96 (by decide), nzl 97 (by decide), true_and]
    rw [sub3 (by omega), clp (show b + k < 2 ^ 31 by omega), clp (show b + k + f - (b - a) < 2 ^ 31 by omega), n1]
    refine ⟨vp_in_nI (by omega) (by decide), vp_in_nI (by omega) (by decide), vp_in_nI (by omega) (by decide), vp_in_nI (by omega) (by decide), ih (k + 1) _ (by omega) ?_ ⟨fun m h1 h2 => ?_, fun m j hj => ?_⟩ (fun m hm => ?_)⟩
    · rw [uI_n (by decide), uI_n (by decide)]
      exact h2
    · rw [uI_n h2, uI_n h1]
      exact fr.1 m h1 h2
    · rw [uI_at (by omega), uI_at (by omega)]
      exact fr.2 m j hj
    · have e96 : (uI (uI I 96 (b + k + f - (b - a)) (I 96 (b + k))) 97 (b + k + f - (b - a)) ((uI I 96 (b + k + f - (b - a)) (I 96 (b + k))) 97 (b + k))) m = upd (I m) (b + k + f - (b - a)) (I m (b + k)) := by
        rcases hm with rfl | rfl
        · rw [uI_n (by decide)]
          unfold uI
          rw [sI_s]
        · have : (uI I 96 (b + k + f - (b - a)) (I 96 (b + k))) 97 = I 97 := uI_n (by decide)
          rw [this]
          unfold uI
          rw [sI_s, sI_n (by decide)]
      rw [e96]
      obtain ⟨i1, i2, i3⟩ := hi m hm
      refine ⟨fun j hj => ?_, fun j hj => ?_, fun j h1 h2 => ?_⟩
      · rw [upd_o (by omega)]
        exact i1 j hj
      · rw [upd_o (by omega)]
        exact i2 j (by omega)
      · by_cases e : j = b + k
        · subst e
          rw [upd_s]
          exact i2 _ (by omega)
        · rw [upd_o (by omega)]
          exact i3 j h1 (by omega)
/-- the fresh characters go in -/
theorem l_put86 (hM : MO P) {F G : List Int32} (hF : F.length ≤ 120) (hG : G.length = F.length) (har : a + F.length ≤ 120) {I0 : mI} {x3 : Int32} (hq : ∀ I', FrV I0 I' → (∀ m, m = 96 ∨ m = 97 → (∀ j, (j < a ∨ a + F.length ≤ j) → I' m j = I0 m j)) → Rc (I' 96) a F → Rc (I' 97) a G → Q (nI 0) (uI I' 95 2 (I' 95 2 + x3)) P) : ∀ (n k : Nat) (I : mI), k + n = F.length → I 95 22 = nI F.length → Rc (I 107) 0 F → Rc (I 108) 0 G → FrV I0 I → (∀ m, m = 96 ∨ m = 97 → (∀ j, (j < a ∨ a + k ≤ j) → I m j = I0 m j)) → Rc (I 96) a (F.take k) → Rc (I 97) a (G.take k) → V E d m_Model_putIn 112 Q 86 [some (.inr 95), some (.inl (nI a)), none, some (.inl x3), some (.inl (nI k)), none] [] 112 I P := by
  obtain ⟨p0, p1, -, p9, p10, p11, p12, p13, p14, p15, p19, p20, p21, -⟩ := hM
  intro n
  induction n with
  | zero =>
    intro k I hk h22 h107 h108 fr hi c1 c2
    refine x_Model_putIn_86 _ _ _ _ ⟨k95, ?_⟩
    rw [h22]
    refine pk_le F.length k (fun _ => ⟨k95, k95, hq I fr (fun m hm j hj => hi m hm j (by omega)) ?_ ?_⟩) (fun c => by omega)
    · rw [List.take_of_length_le (by omega)] at c1; exact c1
    · rw [List.take_of_length_le (by omega)] at c2; exact c2
  | succ n ih =>
    intro k I hk h22 h107 h108 fr hi c1 c2
    have v1 : F[k]? = some F[k] := List.getElem?_eq_getElem (by omega)
    have v2 : G[k]? = some G[k] := List.getElem?_eq_getElem (by omega)
    refine x_Model_putIn_86 _ _ _ _ ⟨k95, ?_⟩
    simp only [k95, p0, p1, p20, p21, k96, k97, k107, k108, nzl 96 (by decide), nzl 97 (by decide), nzl 107 (by decide), nzl 108 (by decide), true_and]
    have e108 : (uI I 96 (nI a + nI k).toNatClampNeg (I 107 (nI k).toNatClampNeg)) 108 = I 108 := uI_n (by decide)
    rw [e108, h22, nI_add, clp (show k < 2 ^ 31 by omega), clp (show a + k < 2 ^ 31 by omega), h107.at0 v1, h108.at0 v2, n1]
    have e96 : (uI (uI I 96 (a + k) F[k]) 97 (a + k) G[k]) 96 = upd (I 96) (a + k) F[k] := by
      rw [uI_n (by decide)]
      unfold uI
      rw [sI_s]
    have e97 : (uI (uI I 96 (a + k) F[k]) 97 (a + k) G[k]) 97 = upd (I 97) (a + k) G[k] := by
      have : (uI I 96 (a + k) F[k]) 97 = I 97 := uI_n (by decide)
      show (sI (uI I 96 (a + k) F[k]) 97 (upd ((uI I 96 (a + k) F[k]) 97) (a + k) G[k])) 97 = _
      rw [sI_s, this]
    have tk1 : F.take (k + 1) = F.take k ++ [F[k]] := List.take_succ_eq_append_getElem (by omega)
    have tk2 : G.take (k + 1) = G.take k ++ [G[k]] := List.take_succ_eq_append_getElem (by omega)
    have l1 : (F.take k).length = k := by rw [List.length_take]; omega
    have l2 : (G.take k).length = k := by rw [List.length_take]; omega
    refine pk_le F.length k (fun c => by omega) (fun _ => ⟨vp_in_nI (by omega) (by decide), vp_in_nI (by omega) (by decide), vp_in_nI (by omega) (by decide), vp_in_nI (by omega) (by decide), ih (k + 1) _ (by omega) ?_ ?_ ?_ ⟨fun m h1 h2 => ?_, fun m j hj => ?_⟩ (fun m hm j hj => ?_) ?_ ?_⟩)
    · rw [uI_n (by decide), uI_n (by decide)]; exact h22
    · rw [uI_n (by decide), uI_n (by decide)]; exact h107
    · rw [uI_n (by decide), uI_n (by decide)]; exact h108
    · rw [uI_n h2, uI_n h1]; exact fr.1 m h1 h2
    · rw [uI_at (by omega), uI_at (by omega)]; exact fr.2 m j hj
    · rcases hm with rfl | rfl
      · rw [e96, upd_o (by omega)]
        exact hi 96 (Or.inl rfl) j (by omega)
      · rw [e97, upd_o (by omega)]
        exact hi 97 (Or.inr rfl) j (by omega)
    · rw [e96, tk1]
      have := c1.psh (v := F[k])
      rw [l1] at this
      exact this
    · rw [e97, tk2]
      have := c2.psh (v := G[k])
      rw [l2] at this
      exact this
theorem Rc.cat {g : Nat → Int32} {o : Nat} {A B : List Int32} (h1 : Rc g o A) (h2 : Rc g (o + A.length) B) : Rc g o (A ++ B) := by
  intro j y hy
  by_cases c : j < A.length
  · rw [List.getElem?_append_left c] at hy
    exact h1 j y hy
  · rw [List.getElem?_append_right (by omega)] at hy
    have := h2 _ y hy
    rw [show o + A.length + (j - A.length) = o + j by omega] at this
    exact this
theorem m_putIn (hM : MO P) {I : mI} {s mk F G : List Int32} (hs : s.length ≤ 120) (hmk : mk.length = s.length) (hab : a ≤ b) (hb : b ≤ s.length) (h2 : I 95 2 = nI s.length) (hc : Rc (I 96) 0 s) (hm : Rc (I 97) 0 mk) (hF : FS I F G) (hr : s.length + F.length ≤ 120 + (b - a))
    (h : ∀ I', (∀ m, m ≠ 95 → m ≠ 96 → m ≠ 97 → I' m = I m) → (∀ j, j ≠ 2 → I' 95 j = I 95 j) → (∀ j, 120 ≤ j → I' 96 j = I 96 j) → I' 95 2 = nI (s.take a ++ (F ++ s.drop b)).length → Rc (I' 96) 0 (s.take a ++ (F ++ s.drop b)) → Rc (I' 97) 0 (mk.take a ++ (G ++ mk.drop b)) → Q (nI 0) I' P) : V E d m_Model_putIn 112 Q 0 [some (.inr 95), some (.inl (nI a)), some (.inl (nI b)), none, none, none] [] 112 I P := by
  obtain ⟨f1, f2, f3, f4⟩ := hF
  have hF120 : F.length ≤ 120 := by omega
  rw [List.take_of_length_le (by omega)] at f2 f3
  rw [show min F.length 121 = F.length by omega] at f1
  refine x_Model_putIn_0 _ _ _ ⟨k95, ?_⟩
  rw [f1, pk_sub hab]
  have fin : ∀ I', FrV I I' → mvd (I 96) (I' 96) a b F.length s.length → mvd (I 97) (I' 97) a b F.length s.length → V E d m_Model_putIn 112 Q 86 [some (.inr 95), some (.inl (nI a)), none, some (.inl (nI F.length - nI (b - a))), some (.inl (nI 0)), none] [] 112 I' P := by
    intro I1 fr m1 m2
    refine l_put86 (I0 := I1) hM hF120 f4 (by omega) (fun I2 fr2 hi c1 c2 => ?_) F.length 0 I1 (by omega) (by rw [fr.1 95 (by decide) (by decide)]; exact f1) (by rw [fr.1 107 (by decide) (by decide)]; exact f2) (by rw [fr.1 108 (by decide) (by decide)]; exact f3) ⟨fun _ _ _ => rfl, fun _ _ _ => rfl⟩ (fun m hm j hj => rfl) (fun j y hy => by simp at hy) (fun j y hy => by simp at hy)
    have e95 : I2 95 = I 95 := (fr2.1 95 (by decide) (by decide)).trans (fr.1 95 (by decide) (by decide))
    have cat : ∀ (m : Nat) (t H : List Int32), m = 96 ∨ m = 97 → t.length = s.length → H.length = F.length → Rc (I m) 0 t → mvd (I m) (I1 m) a b F.length s.length → Rc (I2 m) a H → Rc (I2 m) 0 (t.take a ++ (H ++ t.drop b)) := by
      intro m t H hm ht hH r0 mv r2
      have lt : (t.take a).length = a := by rw [List.length_take]; omega
      refine Rc.cat (fun j y hy => ?_) (Rc.cat (by rw [Nat.zero_add, lt]; exact r2) (fun j y hy => ?_))
      · have hj := (List.getElem?_eq_some_iff.mp hy).1
        rw [lt] at hj
        rw [List.getElem?_take_of_lt hj] at hy
        rw [Nat.zero_add, hi m hm j (by omega), mv.1 j hj]
        exact r0.at0 hy
      · have hj := (List.getElem?_eq_some_iff.mp hy).1
        rw [List.length_drop] at hj
        rw [List.getElem?_drop] at hy
        rw [lt, Nat.zero_add, hH, hi m hm _ (by omega)]
        have := mv.2.1 (b + j) (by omega) (by omega)
        rw [show b + j + F.length - (b - a) = a + F.length + j by omega] at this
        rw [this]
        exact r0.at0 hy
    refine h _ (fun m n1 n2 n3 => ?_) (fun j hj => ?_) (fun j hj => ?_) ?_ ?_ ?_
    · rw [uI_n n1, fr2.1 m n2 n3, fr.1 m n2 n3]
    · rw [uI_o hj, e95]
    · rw [uI_n (by decide), fr2.2 96 j hj, fr.2 96 j hj]
    · rw [uI_s, e95, h2, sub3 (by omega)]
      congr 1
      rw [List.length_append, List.length_append, List.length_take, List.length_drop]
      omega
    · rw [uI_n (by decide)]
      exact cat 96 s F (Or.inl rfl) rfl rfl hc m1 c1
    · rw [uI_n (by decide)]
      exact cat 97 mk G (Or.inr rfl) hmk f4 hm m2 c2
  by_cases c : b - a < F.length
  · exact l_mvr (I0 := I) hM hab hb hs c (by omega) fin (s.length - b) 0 I (by omega) h2 ⟨fun _ _ _ => rfl, fun _ _ _ => rfl⟩ (fun m hm => ⟨fun j _ => rfl, fun j h1 h2 => by omega⟩)
  · exact l_mvl (I0 := I) hM hab hb hs (by omega) fin (s.length - b) 0 I (by omega) h2 ⟨fun _ _ _ => rfl, fun _ _ _ => rfl⟩ (fun m hm => ⟨fun j _ => rfl, fun j _ => rfl, fun j h1 h2 => by omega⟩)
end PI
