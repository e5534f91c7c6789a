/-! The class's table of changes. -/
theorem k93 : kk 112 93 = (1, 7381) := rfl
theorem k94 : kk 112 94 = (1, 180) := rfl
section WE
variable {E : XE} {d : Nat} {Q : Int32 → mI → mP → Prop} {P : mP} {a b : List Int32} {o : Nat}
theorem l_weigh (hP : P 92 0 = 93) (hT : TO P o 120) (ho : o + 5 < 85) (ha : a.length ≤ 60) (hb : b.length ≤ 120) : ∀ (k : Nat) (I : mI), k ≤ a.length + 1 → I o 5 = nI b.length → Rc (I 4) 0 a → 4 < o → Rc (I (o + 1)) 0 b → DT (I 93) a b k 0 →
    (∀ I', (∀ m, m ≠ 93 → I' m = I m) → DT (I' 93) a b 0 0 → Q (nI 0) I' P) → V E (d + 1) m_Patch_weigh 112 Q 3 [some (.inr 92), some (.inr 4), some (.inl (nI a.length)), some (.inr o), some (.inl (ix k)), none, none, none] [] 112 I P := by
  have hT' := hT
  obtain ⟨t0, ⟨p0, c0⟩, -⟩ := hT'
  intro k
  induction k with
  | zero =>
    intro I _ _ _ _ _ hD h
    exact x_Patch_weigh_3 _ _ _ _ _ ⟨fun _ => h I (fun _ _ => rfl) hD, fun q => absurd m1_lt q⟩
  | succ i ih =>
    intro I hi h5 hca h4o hcb hD h
    show V E (d + 1) m_Patch_weigh 112 Q 3 [some (.inr 92), some (.inr 4), some (.inl (nI a.length)), some (.inr o), some (.inl (nI i)), none, none, none] [] 112 I P
    refine x_Patch_weigh_3 _ _ _ _ _ ⟨fun q => absurd q (nI_pos (by omega)), fun _ => ⟨t0, ?_⟩⟩
    rw [h5, mxn]
    have row : ∀ (k : Nat) (I1 : mI), k ≤ b.length + 1 → (∀ m, m ≠ 93 → I1 m = I m) → DT (I1 93) a b i k → V E (d + 1) m_Patch_weigh 112 Q 21 [some (.inr 92), some (.inr 4), some (.inl (nI a.length)), some (.inr o), some (.inl (nI i)), some (.inl (nI (i * 121))), some (.inl (ix k)), none] [] 112 I1 P := by
      intro k
      induction k with
      | zero =>
        intro I1 _ hf hD1
        refine x_Patch_weigh_21 _ _ _ _ _ _ _ ⟨fun _ => ?_, fun q => absurd m1_lt q⟩
        rw [ix_add]
        exact ih I1 (by omega) (by rw [hf o (by omega)]; exact h5) (by rw [hf 4 (by decide)]; exact hca) h4o (by rw [hf (o + 1) (by omega)]; exact hcb) hD1 (fun I' hf' hD' => h I' (fun m hm => (hf' m hm).trans (hf m hm)) hD')
      | succ j ihj =>
        intro I1 hj hf hD1
        have g5 : I1 o 5 = nI b.length := by rw [hf o (by omega)]; exact h5
        have hij : 121 * i + j < 7381 := by omega
        have store : ∀ v : Int32, v = nI (wv a b i j) → V E (d + 1) m_Patch_weigh 112 Q 21 [some (.inr 92), some (.inr 4), some (.inl (nI a.length)), some (.inr o), some (.inl (nI i)), some (.inl (nI (i * 121))), some (.inl (nI j + -(nI 1))), none] [] 112 (uI I1 93 (121 * i + j) v) P := by
          intro v hv
          subst hv
          rw [ix_add]
          refine ihj _ (by omega) (fun m hm => by rw [uI_n hm]; exact hf m hm) ?_
          show DT (uI I1 93 (121 * i + j) (nI (wv a b i j)) 93) a b i j
          unfold uI
          rw [sI_s]
          exact hD1.st hb (by omega)
        show V E (d + 1) m_Patch_weigh 112 Q 21 [some (.inr 92), some (.inr 4), some (.inl (nI a.length)), some (.inr o), some (.inl (nI i)), some (.inl (nI (i * 121))), some (.inl (nI j)), none] [] 112 I1 P
        refine x_Patch_weigh_21 _ _ _ _ _ _ _ ⟨fun q => absurd q (nI_pos (by omega)), fun _ => ?_⟩
        simp only [t0, p0, c0, hP, k92, k93, k4_, nzz 1 (by decide), nzl 93 (by decide), true_and, g5]
        have ei : nI (i * 121) + nI j = nI (121 * i + j) := by rw [nI_add, Nat.mul_comm]
        rw [ei, clp (show 121 * i + j < 2 ^ 31 by omega)]
        have hin : vp_in (nI (121 * i + j)) 7381 := vp_in_nI hij (by decide)
        rw [nI_eq (by omega) (by omega), nI_eq (by omega) (by omega)]
        refine ⟨fun qi => ⟨fun qj => ?_, fun qj => ⟨hin, store _ ?_⟩⟩, fun qi => ⟨hin, store _ ?_⟩⟩
        · have hil : i < a.length := by omega
          have hjl : j < b.length := by omega
          obtain ⟨x, hx, -⟩ := drop_c (s := a) (p := i) hil
          obtain ⟨y, hy, -⟩ := drop_c (s := b) (p := j) hjl
          have e1 : I1 93 (i * 121 + 121 + j) = nI (wv a b (i + 1) j) := by
            have := hD1 (i + 1) j (by omega) (by omega) (Or.inl (by omega))
            rw [show 121 * (i + 1) + j = i * 121 + 121 + j by omega] at this
            exact this
          have e2 : I1 93 (121 * i + j + 1) = nI (wv a b i (j + 1)) := hD1 i (j + 1) (by omega) (by omega) (Or.inr ⟨rfl, Nat.le_refl _⟩)
          have e3 : I1 93 (i * 121 + 121 + j + 1) = nI (wv a b (i + 1) (j + 1)) := by
            have := hD1 (i + 1) (j + 1) (by omega) (by omega) (Or.inl (by omega))
            rw [show 121 * (i + 1) + (j + 1) = i * 121 + 121 + j + 1 by omega] at this
            exact this
          have b1 := wv_b a b (i + 1) j
          have b2 := wv_b a b i (j + 1)
          have he := wv_e hx hy
          rw [clp (show i < 2 ^ 31 by omega), clp (show j < 2 ^ 31 by omega), nI_add (i * 121) 121, nI_add (i * 121 + 121) j, nI_add (121 * i + j) 1, nI_add (i * 121 + 121 + j) 1, clp (show i * 121 + 121 + j < 2 ^ 31 by omega), clp (show 121 * i + j + 1 < 2 ^ 31 by omega), clp (show i * 121 + 121 + j + 1 < 2 ^ 31 by omega), e1, e2, e3]
          have ea : I1 4 i = x := by rw [hf 4 (by decide)]; exact hca.at0 hx
          have eb : I1 (o + 1) j = y := by rw [hf (o + 1) (by omega)]; exact hcb.at0 hy
          rw [ea, eb]
          refine ⟨vp_in_nI (by omega) (by decide), vp_in_nI (by omega) (by decide), fun c => ⟨vp_in_nI (by omega) (by decide), vp_in_nI (by omega) (by decide), hin, store _ ?_⟩, fun c => ⟨vp_in_nI (by omega) (by decide), hin, store _ ?_⟩⟩
          · rw [if_neg c] at he
            rw [mnn (by omega) (by omega), nI_add, he]
          · rw [if_pos c] at he
            rw [he]
        · rw [pk_sub (by omega), wv_m (by omega)]
        · rw [pk_sub (by omega), wv_n (by omega)]
    exact row (b.length + 1) I (Nat.le_refl _) (fun _ _ => rfl) (by
      intro i' j' h1' h2' h3'
      exact hD i' j' h1' h2' (by omega))
theorem s_weigh (hP : P 92 0 = 93) (hT : TO P o 120) (ho : o + 5 < 85) (ho4 : 4 < o) (ha : a.length ≤ 60) (hb : b.length ≤ 120) {I : mI} (h5 : I o 5 = nI b.length) (hca : Rc (I 4) 0 a) (hcb : Rc (I (o + 1)) 0 b)
    (h : ∀ I', (∀ m, m ≠ 93 → I' m = I m) → DT (I' 93) a b 0 0 → Q (nI 0) I' P) : V E (d + 1) m_Patch_weigh 112 Q 0 [some (.inr 92), some (.inr 4), some (.inl (nI a.length)), some (.inr o), none, none, none, none] [] 112 I P :=
  x_Patch_weigh_0 _ _ _ _ (l_weigh hP hT ho ha hb (a.length + 1) I (Nat.le_refl _) h5 hca ho4 hcb (fun i j h1 _ h4 => by omega) h)
theorem s_deletes (hP : P 92 0 = 93) {I : mI} (hD : DT (I 93) a b 0 0) (ha : a.length ≤ 60) (hb : b.length ≤ 120) {i j : Nat} (hi : i < a.length) (hj : j ≤ b.length) (h : Q (bI (decide (wv a b i j = 1 + wv a b (i + 1) j))) I P) : V E d m_Patch_deletes 112 Q 0 [some (.inr 92), some (.inl (nI i)), some (.inl (nI j))] [] 112 I P := by
  refine x_Patch_deletes_0 _ _ _ ?_
  simp only [k92, hP, k93, nzl 93 (by decide), true_and]
  have e1 := hD i j (by omega) hj (by omega)
  have e2 := hD (i + 1) j (by omega) hj (by omega)
  have b1 := wv_b a b i j
  have b2 := wv_b a b (i + 1) j
  rw [n1, mxn, mxn, nI_add, nI_add, Nat.mul_comm i, Nat.mul_comm (i + 1), clp (by omega), clp (by omega), e1, e2, nI_add, nI_eq (by omega) (by omega)]
  refine ⟨vp_in_nI (by omega) (by decide), vp_in_nI (by omega) (by decide), fun c => ?_, fun c => ?_⟩
  · rw [decide_eq_false c] at h
    exact ⟨rfl, h⟩
  · rw [decide_eq_true c] at h
    exact ⟨rfl, h⟩
end WE
/-- the steps from place (i, j) on -/
def stp (a b : List Int32) : Nat → Nat → Nat → List Int32
  | 0, _, _ => []
  | n + 1, i, j => match a[i]?, b[j]? with
    | some x, some y => if x = y then (nI 1000 + x) :: stp a b n (i + 1) (j + 1) else if wv a b i j = 1 + wv a b (i + 1) j then (nI 2000 + x) :: stp a b n (i + 1) j else (nI 3000 + y) :: stp a b n i (j + 1)
    | some x, none => (nI 2000 + x) :: stp a b n (i + 1) j
    | none, some y => (nI 3000 + y) :: stp a b n i (j + 1)
    | none, none => []
def stps (a b : List Int32) : List Int32 := stp a b (a.length + b.length) 0 0
theorem stp_len (a b : List Int32) : ∀ (n i j : Nat), (stp a b n i j).length ≤ n
  | 0, _, _ => Nat.le_refl _
  | n + 1, i, j => by
    unfold stp
    split
    · split
      · exact Nat.succ_le_succ (stp_len a b n _ _)
      · split
        · exact Nat.succ_le_succ (stp_len a b n _ _)
        · exact Nat.succ_le_succ (stp_len a b n _ _)
    · exact Nat.succ_le_succ (stp_len a b n _ _)
    · exact Nat.succ_le_succ (stp_len a b n _ _)
    · exact Nat.zero_le _
