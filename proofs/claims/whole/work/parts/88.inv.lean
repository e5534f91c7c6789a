/-! What class and reference hold between two calls. -/
def PTk (I : mI) (a b : List Int32) : Prop := ∃ kn, I 92 4 = bI kn ∧ (kn = true → PT I a b)
theorem PTk.fr {I I' : mI} {a b : List Int32} (h : PTk I a b) (e92 : I' 92 = I 92) (e94 : I' 94 = I 94) : PTk I' a b := by
  obtain ⟨kn, h1, h2⟩ := h
  refine ⟨kn, by rw [e92]; exact h1, fun c => ?_⟩
  have := h2 c
  unfold PT at this ⊢
  rw [e92, e94]
  exact this
def INV (I : mI) (P : mP) (bf ld : List Int32) (rs : List RlT) (N : List MIt) (tl : List Int32) (R : Nat) (cy : Int32) : Prop :=
  CP I P bf ld rs N tl (-(nI 1)) R ∧ I 2 7 = cy ∧ MC I bf ld (fl (N.map un) tl) (fl ((N.map gz).map um) (List.replicate tl.length (nI 0))) (rtx rs) R cy ∧ PTk I ld (fl (N.map un) tl) ∧ RGd rs ∧ LX (N.map un) tl ∧ ums [] N
def IVx (I : mI) (P : mP) (Rb : Nat) : Prop := ∃ bf ld rs N tl R cy, INV I P bf ld rs N tl R cy ∧ R ≤ Rb
section NV
variable {I : mI} {P : mP} {bf ld : List Int32} {rs : List RlT} {N : List MIt} {tl : List Int32} {R : Nat} {cy : Int32}
theorem CP.lo {mt : Int32} {I' : mI} (h : CP I P bf ld rs N tl mt R) (hf : ∀ m, m < 95 → I' m = I m) : CP I' P bf ld rs N tl mt R := h.fr2 (fun j _ => by rw [hf 2 (by decide)]) (fun m a b => hf m (by omega))
theorem MC.hi {s mk : List Int32} {rl : List (List Int32)} {I' : mI} (h : MC I bf ld s mk rl R cy) (hf : ∀ m, 95 ≤ m → I' m = I m) : MC I' bf ld s mk rl R cy := h.fr (fun j _ => by rw [hf 95 (by decide)]) (fun m a b => hf m (by omega))
/-- after the class's call and then the reference's -/
theorem inv_of {I2 : mI} {Rb : Nat} (hC : CP I P bf ld rs N tl (-(nI 1)) R) (h7 : I 2 7 = cy) (hk : PTk I ld (fl (N.map un) tl)) (hG : RGd rs) (hL : LX (N.map un) tl) (hU : ums [] N) (hR : R ≤ Rb) (f2 : ∀ m, m < 95 → I2 m = I m) (hM : MC I2 bf ld (fl (N.map un) tl) (fl ((N.map gz).map um) (List.replicate tl.length (nI 0))) (rtx rs) R cy) : IVx I2 P Rb :=
  ⟨bf, ld, rs, N, tl, R, cy, ⟨hC.lo f2, by rw [f2 2 (by decide)]; exact h7, hM, hk.fr (f2 92 (by decide)) (f2 94 (by decide)), hG, hL, hU⟩, hR⟩
theorem outl_spns (ks : List Nat) : (outl ks).1.length = (spns ks).length := by
  have := congrArg List.length (out_all ks ks.length 0 0 (by omega) (Nat.le_refl _)).1
  rw [List.length_map] at this
  exact this
theorem sta_gat {l : List Int32} {w v : Int32} (hl : l.length < 2 ^ 31) (h : sta l 0 w v) : v = gat l w := by
  rcases h with ⟨k, x, h1, h2, h3⟩ | ⟨h1, h2⟩
  · have hk := (List.getElem?_eq_some_iff.mp h2).1
    rw [Nat.zero_add] at h1
    rw [h1, gat_i (by omega), h2, h3]
    rfl
  · by_cases c : w < 0
    · rw [gat_o c, h1]
    · obtain ⟨r, hr, rfl⟩ := pos_n c
      rw [gat_i hr, List.getElem?_eq_none]
      · exact h1
      · apply Decidable.byContradiction
        intro cc
        exact h2 r (by omega) (by rw [Nat.zero_add])
theorem isR_le {Z : List ItC} {ar : Nat} (h : isR Z = some ar) : ∃ dp, le_ true (Z.map (fun z => z.2.1)) = some (ar, dp) := by
  unfold isR at h
  cases h1 : le_ true (Z.map (fun z => z.2.1)) with
  | none => rw [h1] at h; cases h
  | some q1 =>
    obtain ⟨a, d1⟩ := q1
    rw [h1] at h
    dsimp only at h
    split at h
    · split at h
      · split at h
        · split at h
          · cases h
            exact ⟨d1, rfl⟩
          · cases h
        · cases h
      · cases h
    · cases h
theorem rrun_R {tl : List Int32} {rs : List RlT} (h6 : rs.length ≤ 6) : ∀ (n : Nat) (M : List MIt) (R m : Nat) (M' : List MIt) (R' m' : Nat), rrun tl rs n M R m = some (M', R', m') → R' ≤ R + 6000 * n
  | 0, M, R, m, M', R', m', h => by cases h; omega
  | n + 1, M, R, m, M', R', m', h => by
    have e : rrun tl rs (n + 1) M R m = match rcyc tl rs M R with
      | some (M2, R2) => if R2 ≤ R then some (M2, R2, m + 1) else rrun tl rs n M2 R2 (m + 1)
      | none => none := rfl
    rw [e] at h
    cases hc : rcyc tl rs M R with
    | none => rw [hc] at h; cases h
    | some v =>
      obtain ⟨M2, R2⟩ := v
      have hb := rcyc_R _ _ _ _ _ hc
      rw [hc] at h
      dsimp only at h
      split at h
      · cases h
        omega
      · have := rrun_R h6 n M2 R2 (m + 1) M' R' m' h
        omega
end NV
