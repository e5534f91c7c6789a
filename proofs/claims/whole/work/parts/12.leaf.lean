/-! Leaves of the class Text, and the pure words for them. -/
def bI (b : Bool) : Int32 := match b with
  | true => nI 1
  | false => nI 0
theorem bI_t : bI true = nI 1 := rfl
theorem bI_f : bI false = nI 0 := rfl
theorem bI_z {b : Bool} : bI b = 0 ↔ b = false := by cases b <;> decide
theorem zb_b (b : Bool) : zb (bI b) := by cases b <;> rfl
theorem nI_t {n : Nat} (h : n < 2 ^ 31) : (nI n).toInt = (n : Int) := nI_toInt h
def isL (x : Int32) : Bool := decide ((97 ≤ x.toInt ∧ x.toInt ≤ 122) ∨ (65 ≤ x.toInt ∧ x.toInt ≤ 90))
def isD (x : Int32) : Bool := decide (48 ≤ x.toInt ∧ x.toInt ≤ 57)
theorem ltn {x : Int32} {n : Nat} (h : n < 2 ^ 31) : x < nI n ↔ x.toInt < n := by rw [Int32.lt_iff_toInt_lt, nI_t h]
theorem nlt {x : Int32} {n : Nat} (h : n < 2 ^ 31) : nI n < x ↔ (n : Int) < x.toInt := by rw [Int32.lt_iff_toInt_lt, nI_t h]
theorem len {x : Int32} {n : Nat} (h : n < 2 ^ 31) : x ≤ nI n ↔ x.toInt ≤ n := by rw [Int32.le_iff_toInt_le, nI_t h]
theorem nle {x : Int32} {n : Nat} (h : n < 2 ^ 31) : nI n ≤ x ↔ (n : Int) ≤ x.toInt := by rw [Int32.le_iff_toInt_le, nI_t h]
theorem eqn {x : Int32} {n : Nat} (h : n < 2 ^ 31) : x = nI n ↔ x.toInt = n := by rw [← Int32.toInt_inj, nI_t h]
section LF
variable {E : XE} {d : Nat} {Q : Int32 → mI → mP → Prop} {I : mI} {P : mP}
theorem s_isLetter {x : Int32} (h : Q (bI (isL x)) I P) : V E d m_Text_isLetter 112 Q 0 [some (.inl x)] [] 112 I P := by
  refine x_Text_isLetter_0 x ?_
  simp only [ltn (n := 97) (by decide), ltn (n := 65) (by decide), nlt (n := 90) (by decide), len (n := 122) (by decide)]
  have ht : (97 ≤ x.toInt ∧ x.toInt ≤ 122) ∨ (65 ≤ x.toInt ∧ x.toInt ≤ 90) → zb (nI 1) ∧ Q (nI 1) I P := fun q => ⟨rfl, by rw [isL, decide_eq_true q] at h; exact h⟩
  have hf : ¬ ((97 ≤ x.toInt ∧ x.toInt ≤ 122) ∨ (65 ≤ x.toInt ∧ x.toInt ≤ 90)) → zb (nI 0) ∧ Q (nI 0) I P := fun q => ⟨rfl, by rw [isL, decide_eq_false q] at h; exact h⟩
  refine ⟨fun a => ⟨fun b => hf (by omega), fun b => ⟨fun c => hf (by omega), fun c => ht (by omega)⟩⟩, fun a => ⟨fun b => ht (by omega), fun b => ⟨fun c => hf (by omega), fun c => ⟨fun e => hf (by omega), fun e => ht (by omega)⟩⟩⟩⟩
theorem s_isDigit {x : Int32} (h : Q (bI (isD x)) I P) : V E d m_Text_isDigit 112 Q 0 [some (.inl x)] [] 112 I P := by
  refine x_Text_isDigit_0 x ?_
  simp only [ltn (n := 48) (by decide), nlt (n := 57) (by decide)]
  have ht : (48 ≤ x.toInt ∧ x.toInt ≤ 57) → zb (nI 1) ∧ Q (nI 1) I P := fun q => ⟨rfl, by rw [isD, decide_eq_true q] at h; exact h⟩
  have hf : ¬ (48 ≤ x.toInt ∧ x.toInt ≤ 57) → zb (nI 0) ∧ Q (nI 0) I P := fun q => ⟨rfl, by rw [isD, decide_eq_false q] at h; exact h⟩
  exact ⟨fun a => hf (by omega), fun a => ⟨fun b => hf (by omega), fun b => ht (by omega)⟩⟩
/-- does a name (kind 1) or a number go on with this character? -/
def gO (k : Nat) (x : Int32) : Bool := isD x || (Nat.beq k 1 && isL x)
theorem bI_ne {b : Bool} : ¬ bI b = 0 ↔ b = true := by cases b <;> decide
theorem bz_i {b : Bool} {A B : Prop} (f : b = false → A) (g : b = true → B) : (bI b = 0 → A) ∧ (¬ bI b = 0 → B) := ⟨fun h => f (bI_z.mp h), fun h => g (bI_ne.mp h)⟩
theorem bn_i {b : Bool} {A B : Prop} (f : b = true → A) (g : b = false → B) : (¬ bI b = 0 → A) ∧ (bI b = 0 → B) := ⟨fun h => f (bI_ne.mp h), fun h => g (bI_z.mp h)⟩
theorem s_goesOn {x : Int32} {k : Nat} (hk : k < 2 ^ 31) (h : Q (bI (gO k x)) I P) : V E (d + 1) m_Text_goesOn 112 Q 0 [some (.inl (nI k)), some (.inl x)] [] 112 I P := by
  refine x_Text_goesOn_0 _ _ (s_isDigit ?_)
  unfold gO at h
  refine bn_i (fun a => ?_) (fun a => ?_)
  · rw [a] at h
    exact ⟨rfl, h⟩
  · rw [a, Bool.false_or] at h
    refine ⟨fun b => ?_, fun b => s_isLetter ?_⟩
    · have : k ≠ 1 := fun e => b (by rw [e])
      rw [show Nat.beq k 1 = false from by cases hb : Nat.beq k 1 with
        | false => rfl
        | true => exact absurd (Nat.eq_of_beq_eq_true hb) this] at h
      exact ⟨rfl, h⟩
    · have e : k = 1 := (nI_eq hk (by decide)).mp b
      subst e
      have h : Q (bI (isL x)) I P := h
      refine bz_i (fun c => ?_) (fun c => ?_)
      · rw [c] at h
        exact ⟨rfl, h⟩
      · rw [c] at h
        exact ⟨rfl, h⟩
end LF
/-- a Text object at cell o, its rows of n behind it -/
def TO (P : mP) (o n : Nat) : Prop := kk 112 o = (0, 3) ∧ (P o 0 = o + 1 ∧ kk 112 (o + 1) = (1, n)) ∧ (P o 1 = o + 2 ∧ kk 112 (o + 2) = (1, n)) ∧ (P o 2 = o + 3 ∧ kk 112 (o + 3) = (1, n)) ∧ (P o 3 = o + 4 ∧ kk 112 (o + 4) = (1, n)) ∧ (P o 4 = o + 5 ∧ kk 112 (o + 5) = (1, n))
theorem nz1 {a k : Nat} : (a + (k + 1) ≠ 0) = True := by simp
theorem nzz {a : Nat} (k : Nat) (h : k ≠ 0) : (a + k ≠ 0) = True := by simp [h]
theorem clp {n : Nat} (h : n < 2 ^ 31) : (nI n).toNatClampNeg = n := nI_clamp h
section LT
variable {E : XE} {d : Nat} {Q : Int32 → mI → mP → Prop} {I : mI} {P : mP} {o N : Nat}
/-- the kind of token t (a Nat; -1 where there is none) -/
theorem s_kindAt (hT : TO P o N) {n : Nat} (hN : N < 2 ^ 31) (hn : I o 6 = nI n) (hnN : n ≤ N) {x : Int32} (h0 : ∀ t, t < n → x = nI t → Q (I (o + 3) t) I P) (h1 : (∀ t, t < n → x ≠ nI t) → Q (-(nI 1)) I P) : V E d m_Text_kindAt 112 Q 0 [some (.inr o), some (.inl x)] [] 112 I P := by
  obtain ⟨t0, -, -, ⟨p2, k2⟩, -⟩ := hT
  refine x_Text_kindAt_0 _ _ ?_
  rw [hn]
  simp only [t0, p2, k2, nzz 3 (by decide), true_and]
  rcases pk_ix x (n := n) (by omega) with hx | hx | ⟨t, ht, rfl⟩
  · refine ⟨fun _ => h1 (fun t ht e => ?_), fun a => absurd hx a⟩
    rw [e] at hx
    exact nI_pos (by omega) hx
  · have hx0 : ¬ x < 0 := fun q => by
      rw [Int32.lt_iff_toInt_lt] at q
      rw [nle (by omega)] at hx
      simp at q
      omega
    refine ⟨fun a => absurd a hx0, fun _ => ⟨fun _ => h1 (fun t ht e => ?_), fun a => absurd hx a⟩⟩
    rw [e] at hx
    rw [nI_leI (by omega) (by omega)] at hx
    omega
  · refine ⟨fun a => absurd a (nI_pos (by omega)), fun _ => ⟨fun a => ?_, fun _ => ⟨vp_in_nI (by omega) hN, ?_⟩⟩⟩
    · rw [nI_leI (by omega) (by omega)] at a
      omega
    · rw [clp (by omega)]
      exact h0 t ht rfl
end LT
