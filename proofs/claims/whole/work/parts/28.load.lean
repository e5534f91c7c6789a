/-! The shape of the references; Program.become and load. -/
def TRW (P : mP) (o : Nat) : Prop := P o 0 = o + 1 ∧ P o 1 = o + 2 ∧ P o 2 = o + 3 ∧ P o 3 = o + 4 ∧ P o 4 = o + 5
def Sh (P : mP) : Prop := (P 2 0 = 3 ∧ P 2 2 = 4 ∧ P 2 4 = 5 ∧ P 2 6 = 60 ∧ P 2 8 = 92) ∧
  (∀ r, r < 6 → P 5 r = 6 + 9 * r ∧ P (6 + 9 * r) 0 = 7 + 9 * r ∧ P (6 + 9 * r) 2 = 13 + 9 * r ∧ P (6 + 9 * r) 3 = 14 + 9 * r ∧ TRW P (7 + 9 * r)) ∧
  (TRW P 61 ∧ TRW P 67 ∧ TRW P 73 ∧ TRW P 79) ∧ ((P 60 0 = 61 ∧ P 60 1 = 67) ∨ (P 60 0 = 67 ∧ P 60 1 = 61)) ∧ (P 60 2 = 73 ∧ P 60 3 = 79 ∧ P 60 4 = 85 ∧ P 60 5 = 91) ∧ OO P ∧ (P 92 0 = 93 ∧ P 92 1 = 94) ∧ MO P
theorem Sh.now {P : mP} (h : Sh P) : (P 60 0 = 61 ∨ P 60 0 = 67) ∧ TO P (P 60 0) 120 := by
  obtain ⟨-, -, ⟨h1, h2, -⟩, h3, -⟩ := h
  rcases h3 with ⟨h3, -⟩ | ⟨h3, -⟩
  · rw [h3]
    exact ⟨Or.inl rfl, rfl, ⟨h1.1, rfl⟩, ⟨h1.2.1, rfl⟩, ⟨h1.2.2.1, rfl⟩, ⟨h1.2.2.2.1, rfl⟩, ⟨h1.2.2.2.2, rfl⟩⟩
  · rw [h3]
    exact ⟨Or.inr rfl, rfl, ⟨h2.1, rfl⟩, ⟨h2.2.1, rfl⟩, ⟨h2.2.2.1, rfl⟩, ⟨h2.2.2.2.1, rfl⟩, ⟨h2.2.2.2.2, rfl⟩⟩
theorem k60 : kk 112 60 = (0, 2) := rfl
theorem k2_ : kk 112 2 = (0, 0) := rfl
theorem k3_ : kk 112 3 = (1, 60) := rfl
theorem k4_ : kk 112 4 = (1, 60) := rfl
theorem k5_ : kk 112 5 = (3, 6) := rfl
theorem k92 : kk 112 92 = (0, 5) := rfl
def tst (A : List (Nat × Nat × Nat)) (i : Nat) : Nat := match A[i]? with
  | some q => q.2.1
  | none => 0
def ten (A : List (Nat × Nat × Nat)) (i : Nat) : Nat := match A[i]? with
  | some q => q.2.2
  | none => 0
theorem TR.st {I : mI} {o i : Nat} {A : List (Nat × Nat × Nat)} (h : TR I o A) (hi : i < A.length) : I (o + 4) i = nI (tst A i) ∧ I (o + 5) i = nI (ten A i) := by
  have e := List.getElem?_eq_getElem hi
  unfold tst ten
  rw [e]
  obtain ⟨-, g2, g3⟩ := h.2 i _ _ _ e
  exact ⟨g2, g3⟩
/-- marks written over the spans of expressions -/
def mkx (A : List (Nat × Nat × Nat)) (n : Nat) (v : Int32) (ex : List (Nat × Nat × Nat)) (f : Nat → Int32) : Nat → Int32 := ex.foldl (fun f q => mkf f (tst A q.1) (min (ten A q.2.1) n) v) f
theorem mkx_c (A : List (Nat × Nat × Nat)) (n : Nat) (v : Int32) (q : Nat × Nat × Nat) (ex : List (Nat × Nat × Nat)) (f : Nat → Int32) : mkx A n v (q :: ex) f = mkx A n v ex (mkf f (tst A q.1) (min (ten A q.2.1) n) v) := rfl
section PB
variable {E : XE} {d : Nat} {Q : Int32 → mI → mP → Prop} {P : mP} {o : Nat}
theorem l_become_P (hP : P 60 0 = o ∧ P 60 4 = 85) (hO : OO P) (hT : TO P o 120) (ho : o + 5 < 85) (ho2 : 60 < o) {n : Nat} (hn : n ≤ 120) {A ex : List (Nat × Nat × Nat)} (hA : A.length ≤ 120) (hA2 : ∀ q ∈ A, q.2.1 < 2 ^ 31 ∧ q.2.2 < 2 ^ 31) (hex : ex.length ≤ 120) (hex2 : ∀ q ∈ ex, q.1 < A.length ∧ q.2.1 < A.length) : ∀ (m k : Nat) (I : mI), ex.length - k ≤ m → k ≤ ex.length → I o 5 = nI n → TR I o A → OE I ex →
    Q (nI 0) (uI (sI I (o + 2) (mkx A n (nI 0) (ex.drop k) (I (o + 2)))) 60 6 (nI 0)) P → V E (d + 2) m_Program_become 112 Q 22 [some (.inr 60), none, none, some (.inl (nI k))] [] 112 I P := by
  have hT' := hT
  obtain ⟨t0, -, -, -, ⟨q3, c3⟩, ⟨q4, c4⟩⟩ := hT'
  obtain ⟨p0, p4⟩ := hP
  obtain ⟨-, u2, u3, -, -⟩ := hO
  have fin : ∀ (k : Nat) (I : mI), k = ex.length → OE I ex → Q (nI 0) (uI (sI I (o + 2) (mkx A n (nI 0) (ex.drop k) (I (o + 2)))) 60 6 (nI 0)) P → V E (d + 2) m_Program_become 112 Q 22 [some (.inr 60), none, none, some (.inl (nI k))] [] 112 I P := by
    intro k I hk hE h
    subst hk
    rw [List.drop_length, show mkx A n (nI 0) [] (I (o + 2)) = I (o + 2) from rfl, sI_id] at h
    refine x_Program_become_22 _ _ ?_
    simp only [k60, p4, k85, nzl 85 (by decide), true_and, hE.1]
    exact pk_le ex.length ex.length (fun _ => h) (fun g => absurd g (Nat.lt_irrefl _))
  intro m
  induction m with
  | zero =>
    intro k I hm hk h5 hR hE h
    exact fin k I (by omega) hE h
  | succ m ih =>
    intro k I hm hk h5 hR hE h
    by_cases hkl : k < ex.length
    · have hg := List.getElem?_eq_getElem hkl
      have hmem := List.mem_of_getElem? hg
      generalize ex[k] = q at hg hmem
      obtain ⟨i, l, b⟩ := q
      have hd : ex.drop k = (i, l, b) :: ex.drop (k + 1) := by
        obtain ⟨h1, h2⟩ := List.getElem?_eq_some_iff.mp hg
        rw [List.drop_eq_getElem_cons h1, h2]
      obtain ⟨b1, b2⟩ := hex2 _ hmem
      dsimp only at b1 b2
      obtain ⟨e1, e2, e3⟩ := hE.2 k i l b hg
      have hst := (hR.st b1).1
      have hen := (hR.st b2).2
      have hs31 : tst A i < 2 ^ 31 := by
        unfold tst
        rw [List.getElem?_eq_getElem b1]
        exact (hA2 _ (List.getElem_mem b1)).1
      have he31 : ten A l < 2 ^ 31 := by
        unfold ten
        rw [List.getElem?_eq_getElem b2]
        exact (hA2 _ (List.getElem_mem b2)).2
      refine x_Program_become_22 _ _ ?_
      simp only [k60, p0, p4, k85, t0, q3, c3, q4, c4, u2, k87, u3, k88, nzl 85 (by decide), nzl 87 (by decide), nzl 88 (by decide), nzz 4 (by decide), nzz 5 (by decide), true_and, hE.1]
      refine pk_le ex.length k (fun g => by omega) (fun g => ?_)
      rw [clp (by omega), e1, e2, clp (by omega), clp (by omega), hst, hen]
      have hne : (o ≠ 0) = True := by simp; omega
      simp only [hne, true_and]
      refine ⟨vp_in_nI (by omega) (by decide), vp_in_nI (by omega) (by decide), vp_in_nI (by omega) (by decide), vp_in_nI (by omega) (by decide), ?_⟩
      refine s_markSpan (n := n) hT (by decide) hn hs31 he31 h5 ?_
      rw [n1]
      refine ih (k + 1) _ (by omega) (by omega) (by rw [sI_n (by omega)]; exact h5) ?_ ?_ ?_
      · refine ⟨by rw [sI_n (by omega)]; exact hR.1, fun t k' a' b' ht => ?_⟩
        rw [sI_n (by omega), sI_n (by omega), sI_n (by omega)]
        exact hR.2 t k' a' b' ht
      · refine ⟨by rw [sI_n (by omega)]; exact hE.1, fun t k' a' b' ht => ?_⟩
        rw [sI_n (by omega), sI_n (by omega), sI_n (by omega)]
        exact hE.2 t k' a' b' ht
      · rw [hd, mkx_c] at h
        have e5 : ∀ f g : Nat → Int32, sI (sI I (o + 2) f) (o + 2) g = sI I (o + 2) g := fun f g => by
          funext m'
          by_cases hm' : m' = o + 2
          · rw [hm', sI_s, sI_s]
          · rw [sI_n hm', sI_n hm', sI_n hm']
        rw [e5, sI_s]
        exact h
    · exact fin k I (by omega) hE h
end PB
