/-! Rule.become. -/
def msk (dg : Nat) : Int32 := nI 1 <<< (nI dg &&& 31)
theorem msk_b : ∀ dg, dg < 10 → (msk dg).toBitVec = BitVec.twoPow 32 dg := by decide
/-- the figures in a set of bits -/
def KB (x : Int32) (D : Nat → Bool) : Prop := ∀ dg, dg < 10 → x.toBitVec.getLsbD dg = D dg
theorem KB.z : KB (nI 0) (fun _ => false) := by
  have : ∀ dg, dg < 10 → (nI 0).toBitVec.getLsbD dg = false := by decide
  exact this
theorem KB.and {x : Int32} {D : Nat → Bool} (h : KB x D) {dg : Nat} (hd : dg < 10) : (x &&& msk dg) = 0 ↔ D dg = false := by
  rw [← h dg hd, ← Int32.toBitVec_inj, Int32.toBitVec_and, msk_b dg hd, BitVec.and_twoPow]
  cases hx : x.toBitVec.getLsbD dg with
  | false => simp
  | true =>
    have : ∀ dg, dg < 10 → ¬ BitVec.twoPow 32 dg = (0 : Int32).toBitVec := by decide
    simp
    exact this dg hd
theorem KB.or {x : Int32} {D : Nat → Bool} (h : KB x D) {dg : Nat} (hd : dg < 10) : KB (x ||| msk dg) (fun y => D y || y == dg) := by
  intro y hy
  rw [Int32.toBitVec_or, msk_b dg hd, BitVec.getLsbD_or, h y hy, BitVec.getLsbD_twoPow]
  congr 1
  have : decide (dg < 32) = true := decide_eq_true (by omega)
  rw [this, Bool.true_and]
  by_cases e : y = dg
  · subst e
    simp
  · have e' : ¬ dg = y := fun c => e c.symm
    simp [e, e']
/-- do the template's holes stand before -/
def knw (ar : Nat) : Nat → List ItC → (Nat → Bool) → Bool
  | _, [], _ => true
  | t, (_, k, w) :: Z, D => if k = 3 then (if ar < t ∧ D (dgw w) = false then false else knw ar (t + 1) Z (fun y => D y || y == dgw w)) else knw ar (t + 1) Z D
section RB
variable {E : XE} {d : Nat} {Q : Int32 → mI → mP → Prop} {P : mP} {o : Nat} {Z : List ItC} {t mk : List Int32} {ar : Nat}
theorem l_knows (hO : RO P o) {I : mI} (h1' : I o 1 = nI ar) (har : ar < 2 ^ 20) (hx : TXT I (o + 1) (fl Z t) mk (psn 0 Z)) (hLX : LX Z t) (h60 : (fl Z t).length ≤ 60) (hk10 : k10 (Z.map (fun z => z.2.1))) : ∀ (n i : Nat) (kb : Int32) (D : Nat → Bool), i + n = Z.length → KB kb D → Q (bI (knw ar i (Z.drop i) D)) I P → V E (d + 2) m_Rule_knowsTemplateHoles 112 Q 4 [some (.inr o), some (.inl kb), some (.inl (nI i)), none] [] 112 I P := by
  obtain ⟨o0, o1, oT, -, -⟩ := hO
  have hZl := LX_len hLX
  have hpl : (psn 0 Z).length = Z.length := psn_len 0 Z
  have hkk := kds_psn Z 0
  intro n
  induction n with
  | zero =>
    intro i kb D hi hD h
    refine x_Rule_knowsTemplateHoles_4 _ _ _ ?_
    simp only [o0, o1, oT.1, nzz 1 (by decide), true_and]
    rw [hx.2.2.2.2.1, hpl]
    refine pk_le Z.length i (fun _ => ⟨rfl, ?_⟩) (fun q => by omega)
    rw [List.drop_eq_nil_of_le (by omega)] at h
    exact h
  | succ n ih =>
    intro i kb D hi hD h
    have hil : i < Z.length := by omega
    obtain ⟨⟨sp, k, w⟩, hz⟩ : ∃ q, Z[i]? = some q := ⟨_, List.getElem?_eq_getElem hil⟩
    have hdr := drop_it hz
    have hk : (Z.map (fun z => z.2.1))[i]? = some k := by rw [List.getElem?_map, hz]; rfl
    rw [hdr] at h
    have hkw : knw ar i ((sp, k, w) :: Z.drop (i + 1)) D = if k = 3 then (if ar < i ∧ D (dgw w) = false then false else knw ar (i + 1) (Z.drop (i + 1)) (fun y => D y || y == dgw w)) else knw ar (i + 1) (Z.drop (i + 1)) D := rfl
    rw [hkw] at h
    refine x_Rule_knowsTemplateHoles_4 _ _ _ ?_
    simp only [o0, o1, oT.1, nzz 1 (by decide), true_and]
    rw [hx.2.2.2.2.1, hpl]
    refine pk_le Z.length i (fun q => by omega) (fun _ => ?_)
    refine s_isHole (d := d) oT (by decide) hx.2.2.2.2.kr (by rw [hkk, List.length_map]; omega) (by rw [hkk]; exact hk10) (by omega) (bz_i (fun c => ?_) (fun c => ?_))
    · have hk3 : ¬ k = 3 := by
        intro e
        subst e
        rw [hkk, hk] at c
        exact absurd c (by decide)
      rw [if_neg hk3] at h
      rw [n1]
      exact ih (i + 1) kb D (by omega) hD h
    · have hk3 : k = 3 := by
        rw [hkk, hk] at c
        simpa using c
      subst hk3
      rw [if_pos rfl] at h
      obtain ⟨c0, dg, hd10, hww, hdw⟩ := okw3 (LX_at hLX hz).2
      have hch := dgt_psn (t := t) hz (x := nI (48 + dg)) (by rw [hww]; rfl)
      rw [hdw] at h
      simp only [o0, o1, oT.1, nzz 1 (by decide), true_and]
      refine s_digitOf oT (by decide) hx h60 (by omega) (by omega) hch ?_
      rw [dig_e, h1', n1]
      have em : nI 1 <<< (nI dg &&& 31) = msk dg := rfl
      rw [em]
      refine pk_le i ar (fun q => ?_) (fun q => ⟨fun cc => ?_, fun cc => ⟨rfl, ?_⟩⟩)
      · rw [if_neg (by omega)] at h
        exact ih (i + 1) _ _ (by omega) (hD.or hd10) h
      · have : ¬ D dg = false := fun e => cc ((hD.and hd10).mpr e)
        rw [if_neg (fun e => this e.2)] at h
        exact ih (i + 1) _ _ (by omega) (hD.or hd10) h
      · rw [if_pos ⟨q, (hD.and hd10).mp cc⟩] at h
        exact h
theorem s_knows (hO : RO P o) {I : mI} (h1' : I o 1 = nI ar) (har : ar < 2 ^ 20) (hx : TXT I (o + 1) (fl Z t) mk (psn 0 Z)) (hLX : LX Z t) (h60 : (fl Z t).length ≤ 60) (hk10 : k10 (Z.map (fun z => z.2.1))) (h : Q (bI (knw ar 0 Z (fun _ => false))) I P) : V E (d + 2) m_Rule_knowsTemplateHoles 112 Q 0 [some (.inr o), none, none, none] [] 112 I P :=
  x_Rule_knowsTemplateHoles_0 _ (l_knows hO h1' har hx hLX h60 hk10 Z.length 0 (nI 0) (fun _ => false) (by omega) KB.z (by rw [List.drop_zero]; exact h))
end RB
theorem knw_iff (ar : Nat) : ∀ (Z : List ItC) (t : Nat) (D : Nat → Bool), knw ar t Z D = true ↔ ∀ i sp w, Z[i]? = some (sp, 3, w) → ar < t + i → D (dgw w) = true ∨ ∃ j sp' w', j < i ∧ t + j ≤ ar ∧ Z[j]? = some (sp', 3, w') ∧ dgw w' = dgw w
  | [], t, D => by
    refine ⟨fun _ i sp w h => by simp at h, fun _ => rfl⟩
  | (sp0, k, w0) :: Z, t, D => by
    have hkw : knw ar t ((sp0, k, w0) :: Z) D = if k = 3 then (if ar < t ∧ D (dgw w0) = false then false else knw ar (t + 1) Z (fun y => D y || y == dgw w0)) else knw ar (t + 1) Z D := rfl
    rw [hkw]
    by_cases hk : k = 3
    · subst hk
      rw [if_pos rfl]
      by_cases hc : ar < t ∧ D (dgw w0) = false
      · rw [if_pos hc]
        refine ⟨fun h => absurd h (by decide), fun h => ?_⟩
        exfalso
        rcases h 0 sp0 w0 rfl (by omega) with h' | ⟨j, sp', w', hj, -⟩
        · rw [hc.2] at h'
          cases h'
        · omega
      · rw [if_neg hc, knw_iff ar Z (t + 1)]
        constructor
        · intro h i sp w hz hi
          cases i with
          | zero =>
            cases hz
            left
            cases hD : D (dgw w0) with
            | true => rfl
            | false => exact absurd ⟨by omega, hD⟩ hc
          | succ i =>
            have hz' : Z[i]? = some (sp, 3, w) := hz
            rcases h i sp w hz' (by omega) with h' | ⟨j, sp', w', hj, hj2, hz2, hd⟩
            · rw [Bool.or_eq_true] at h'
              rcases h' with h' | h'
              · exact Or.inl h'
              · have e : dgw w = dgw w0 := by simpa using h'
                by_cases hta : t ≤ ar
                · exact Or.inr ⟨0, sp0, w0, by omega, by omega, rfl, e.symm⟩
                · left
                  cases hD : D (dgw w0) with
                  | true => rw [e]; exact hD
                  | false => exact absurd ⟨by omega, hD⟩ hc
            · exact Or.inr ⟨j + 1, sp', w', by omega, by omega, hz2, hd⟩
        · intro h i sp w hz hi
          rcases h (i + 1) sp w hz (by omega) with h' | ⟨j, sp', w', hj, hj2, hz2, hd⟩
          · left
            rw [h', Bool.true_or]
          · cases j with
            | zero =>
              cases hz2
              left
              rw [Bool.or_eq_true]
              right
              simpa using hd.symm
            | succ j => exact Or.inr ⟨j, sp', w', by omega, by omega, hz2, hd⟩
    · rw [if_neg hk, knw_iff ar Z (t + 1)]
      constructor
      · intro h i sp w hz hi
        cases i with
        | zero => cases hz; exact absurd rfl hk
        | succ i =>
          rcases h i sp w hz (by omega) with h' | ⟨j, sp', w', hj, hj2, hz2, hd⟩
          · exact Or.inl h'
          · exact Or.inr ⟨j + 1, sp', w', by omega, by omega, hz2, hd⟩
      · intro h i sp w hz hi
        rcases h (i + 1) sp w hz (by omega) with h' | ⟨j, sp', w', hj, hj2, hz2, hd⟩
        · exact Or.inl h'
        · cases j with
          | zero => cases hz2; exact absurd rfl hk
          | succ j => exact Or.inr ⟨j, sp', w', by omega, by omega, hz2, hd⟩
