/-! Model.pass. -/
def fitB (Z : List ItC) (tr : List Int32) (ar : Nat) (tl : List Int32) (M : List MIt) (i l : Nat) : Option BN := match mtc (fl Z tr) (psn 0 Z) (fl (M.map un) tl) (psn 0 (M.map un)) ar 0 i B0 with
  | some (e, B) => if e = l + 1 then some B else none
  | none => none
def rpl (Z : List ItC) (tr : List Int32) (ar : Nat) (tl : List Int32) : Nat → List MIt → Nat → Nat → Option (List MIt × Nat)
  | 0, M, _, R => some (M, R)
  | n + 1, M, p, R => match nxb (psn 0 (M.map un)) (outl (kdi M)).2 p with
    | none => some (M, R)
    | some (i, l, _) => match fitB Z tr ar tl M i l with
      | none => rpl Z tr ar tl n M (ten (psn 0 (M.map un)) l) R
      | some B => if (fl ((rfx M Z ar R i l B).map un) tl).length ≤ 120 ∧ gdi (kdi (rfx M Z ar R i l B)) i = true then rpl Z tr ar tl n (rfx M Z ar R i l B) (tst (psn 0 (M.map un)) i + ftl ((fil M B (nI (R + 1)) true (Z.drop (ar + 1))).map un)) (R + 1) else none
theorem rpl_s (Z : List ItC) (tr : List Int32) (ar : Nat) (tl : List Int32) (n : Nat) (M : List MIt) (p R : Nat) : rpl Z tr ar tl (n + 1) M p R = match nxb (psn 0 (M.map un)) (outl (kdi M)).2 p with
    | none => some (M, R)
    | some (i, l, _) => match fitB Z tr ar tl M i l with
      | none => rpl Z tr ar tl n M (ten (psn 0 (M.map un)) l) R
      | some B => if (fl ((rfx M Z ar R i l B).map un) tl).length ≤ 120 ∧ gdi (kdi (rfx M Z ar R i l B)) i = true then rpl Z tr ar tl n (rfx M Z ar R i l B) (tst (psn 0 (M.map un)) i + ftl ((fil M B (nI (R + 1)) true (Z.drop (ar + 1))).map un)) (R + 1) else none := rfl
/-- what the reference's cells hold, with the program as tokens -/
abbrev MCz (I : mI) (bf ld : List Int32) (M : List MIt) (tl : List Int32) (rl : List (List Int32)) (R : Nat) (cy : Int32) : Prop := MC I bf ld (fl (M.map un) tl) (fl (M.map um) (List.replicate tl.length (nI 0))) rl R cy
theorem nxb_m {A ex : List (Nat × Nat × Nat)} {p : Nat} {q : Nat × Nat × Nat} (h : nxb A ex p = some q) : q ∈ ex := List.mem_of_find?_eq_some h
section MP
variable {E : XE} {d : Nat} {Q : Int32 → mI → mP → Prop} {P : mP} {bf ld tl : List Int32} {rl : List (List Int32)} {cy : Int32} {off : Nat} {Z : List ItC} {tr : List Int32} {ar dpx : Nat}
theorem l_mpass (hM : MO P) (hLZ : LX Z tr) (hx : (fl Z tr).length ≤ 60) (ho : off + (fl Z tr).length ≤ 640) (ho1 : 192 ≤ off) (har : le_ true (Z.map (fun z => z.2.1)) = some (ar, dpx)) (hG : RG Z ar) : ∀ (n turn : Nat) (M : List MIt) (p R : Nat) (I : mI), turn + n = 1000 → R + n < 2 ^ 30 → p ≤ 240 → MCz I bf ld M tl rl R cy → LX (M.map un) tl → RDs I (fl (M.map un) tl) → RdR I off (fl Z tr) →
    (∀ I' M' R', rpl Z tr ar tl n M p R = some (M', R') → FrY I I' → MCz I' bf ld M' tl rl R' cy → LX (M'.map un) tl → Q (nI 1) I' P) → (∀ I' s' mk' R', rpl Z tr ar tl n M p R = none → FrY I I' → MC I' bf ld s' mk' rl R' cy → Q (nI 0) I' P) → V E (d + 5) m_Model_pass 112 Q 33 [some (.inr 95), none, none, some (.inl (nbv (psn 0 (M.map un)) (outl (kdi M)).2 p)), some (.inl (nI turn)), none] [] 112 I P := by
  have hal : ar + 1 ≤ Z.length := by
    apply Decidable.byContradiction
    intro c
    obtain ⟨qz, mz, hrn0, hqz⟩ := hG.2
    rw [List.drop_eq_nil_of_le (by omega)] at hrn0
    cases hrn0
    omega
  have hM' := hM
  obtain ⟨p0, p1, -, p9, p10, p11, p12, -⟩ := hM'
  have hkz : kds (fl Z tr) = Z.map (fun z => z.2.1) := by unfold kds; rw [tks_LX hLZ, kds_psn]
  intro n
  induction n with
  | zero =>
    intro turn M p R I ht hRb hp hC hLX hR hX h1 h0
    exact x_Model_pass_33 _ _ _ (pk_le 1000 turn (fun _ => ⟨rfl, h1 I M R rfl (fun _ _ => rfl) hC hLX⟩) (fun c => by omega))
  | succ n ih =>
    intro turn M p R I ht hRb hp hC hLX hR hX h1 h0
    have hs := hC.2.2.1.2.2
    have etm := tks_LX hLX
    have ekm := kds_LX hLX
    rw [rpl_s] at h1 h0
    refine x_Model_pass_33 _ _ _ (pk_le 1000 turn (fun c => by omega) (fun _ => ?_))
    cases hn : nxb (psn 0 (M.map un)) (outl (kdi M)).2 p with
    | none =>
      rw [hn] at h1
      have e : nbv (psn 0 (M.map un)) (outl (kdi M)).2 p = -(nI 1) := by unfold nbv; rw [hn]
      rw [e]
      exact ⟨fun _ => ⟨rfl, h1 I M R rfl (fun _ _ => rfl) hC hLX⟩, fun c => absurd neg_lt c⟩
    | some q =>
      obtain ⟨i, l, b⟩ := q
      rw [hn] at h1 h0
      dsimp only at h1 h0
      have he : (i, l, b) ∈ (outl (kdi M)).2 := nxb_m hn
      have he' : (i, l, b) ∈ (outl (kds (fl (M.map un) tl))).2 := by rw [ekm]; exact he
      obtain ⟨g1, g2, g3, g4, g5⟩ := ent_i hs he'
      have e : nbv (psn 0 (M.map un)) (outl (kdi M)).2 p = nI i := by unfold nbv; rw [hn]
      rw [e]
      have h100 := (hR.2.1.at (show i < (tks (fl (M.map un) tl)).length by omega)).1
      rw [Nat.zero_add, Nat.zero_add] at h100
      obtain ⟨t1, t2⟩ := tst_bd (show i < (tks (fl (M.map un) tl)).length by omega)
      refine ⟨fun c => absurd c (nn_lt (by omega)), fun _ => ⟨k95, m_spanEnd hM hs hR he' ?_⟩⟩
      simp only [k95, p10, k100, nzl 100 (by decide), true_and]
      rw [clp (show i < 2 ^ 31 by omega), h100, n1]
      refine ⟨vp_in_nI (by omega) (by decide), m_fitsAt (d := d + 2) hM hs hx ho (by rw [hkz]; exact har) he' hR hC.2.2.1.2.1 hX (fun I2 B f2 hm hB hBE => ⟨fun c => absurd c (by decide), fun _ => ?_⟩) (fun I2 f2 hm => ⟨fun _ => ?_, fun c => absurd rfl c⟩)⟩
      · rw [tks_LX hLZ, etm] at hm
        have hfit : fitB Z tr ar tl M i l = some B := by
          unfold fitB
          rw [hm]
          dsimp only
          rw [if_pos rfl]
        rw [hfit] at h1 h0
        dsimp only at h1 h0
        have hBE' : BEn (kdi M) B := by rw [← ekm]; exact hBE
        obtain ⟨hBK, y, Y, qy, my, hY, hry, hqy, hoy, -⟩ := fil_good (nI (R + 1)) hLX hLZ hG hm hBE'
        have hL2 : LX ((rfx M Z ar R i l B).map un) tl := rfx_LX hLX he hY hry hqy hoy
        refine m_rewrite (d := d) hM (f2.mc hC) (by omega) hLX hLZ hx ho ho1 har hal hBE (f2.rd hR) (f2.rr hX) hB hBK he' hY hL2 (fun I4 hsz f4 hC4 hR4 hX4 h22 => ?_) (fun I4 hsz f4 hC4 => ?_)
        · rw [kds_LX hL2]
          refine bn_i (fun hg => ?_) (fun hg => ⟨rfl, h0 I4 _ _ (R + 1) ?_ (f2.y.tr f4) hC4⟩)
          · rw [if_pos ⟨hsz, hg⟩] at h1 h0
            rw [h22, nI_add]
            have hF120 : tst (tks (fl (M.map un) tl)) i + ftl ((y :: Y).map un) ≤ 240 := by
              have hMl : (tks (fl (M.map un) tl)).length = M.length := by rw [etm, psn_len, List.length_map]
              have hiM : i < M.length := by omega
              have hz : M[i]? = some M[i] := List.getElem?_eq_getElem hiM
              have eun := rfx_un (tl := tl) hz hY (fil_sp0 hBK hY) g1 (by
                have : (tks (fl (M.map un) tl)).length = M.length := by rw [etm, psn_len, List.length_map]
                omega)
              have := congrArg List.length eun
              rw [List.length_append, List.length_append] at this
              have e2 : (fl ((y :: Y).map un) []).length = ftl ((y :: Y).map un) := rfl
              omega
            refine m_nextBehind (d := d + 3) hM hsz hR4 (by omega) ?_
            rw [tks_LX hL2, kds_LX hL2]
            rw [hY] at h1 h0
            rw [etm] at hF120 ⊢
            exact ih (turn + 1) (rfx M Z ar R i l B) _ (R + 1) I4 (by omega) (by omega) hF120 hC4 hL2 hR4 hX4 (fun I' M' R' e' f' => h1 I' M' R' e' ((f2.y.tr f4).tr f')) (fun I' s' mk' R' e' f' => h0 I' s' mk' R' e' ((f2.y.tr f4).tr f'))
          · rw [if_neg (fun c => by rw [hg] at c; cases c.2)]
        · refine ⟨fun c => absurd rfl c, fun _ => ⟨rfl, h0 I4 _ _ R ?_ (f2.y.tr f4) hC4⟩⟩
          rw [if_neg (fun c => hsz c.1)]
      · rw [tks_LX hLZ, etm] at hm
        have hfit : fitB Z tr ar tl M i l = none := by
          unfold fitB
          cases hmm : mtc (fl Z tr) (psn 0 Z) (fl (M.map un) tl) (psn 0 (M.map un)) ar 0 i B0 with
          | none => rfl
          | some v =>
            obtain ⟨e', B⟩ := v
            dsimp only
            rw [if_neg (fun c => hm B (by rw [hmm, c]))]
        rw [hfit] at h1 h0
        dsimp only at h1 h0
        refine m_nextBehind (d := d + 3) hM hs (f2.rd hR) (by omega) ?_
        rw [etm, ekm]
        rw [etm] at g4
        exact ih (turn + 1) M _ R I2 (by omega) (by omega) (by omega) (f2.mc hC) hLX (f2.rd hR) (f2.rr hX) (fun I' M' R' e' f' => h1 I' M' R' e' (f2.y.tr f')) (fun I' s' mk' R' e' f' => h0 I' s' mk' R' e' (f2.y.tr f'))
theorem m_pass (hM : MO P) {r R : Nat} {M : List MIt} {I : mI} (hr : rl[r]? = some (fl Z tr)) (hLZ : LX Z tr) (har : le_ true (Z.map (fun z => z.2.1)) = some (ar, dpx)) (hG : RG Z ar) (hRb : R < 2 ^ 29) (hC : MCz I bf ld M tl rl R cy) (hLX : LX (M.map un) tl)
    (h1 : ∀ I' M' R', rpl Z tr ar tl 1000 M 0 R = some (M', R') → FrY I I' → MCz I' bf ld M' tl rl R' cy → LX (M'.map un) tl → Q (nI 1) I' P) (h0 : ∀ I' s' mk' R', rpl Z tr ar tl 1000 M 0 R = none → FrY I I' → MC I' bf ld s' mk' rl R' cy → Q (nI 0) I' P) : V E (d + 5) m_Model_pass 112 Q 0 [some (.inr 95), some (.inl (nI r)), none, none, none, none] [] 112 I P := by
  have hrl := (List.getElem?_eq_some_iff.mp hr).1
  have hC' := hC
  obtain ⟨-, -, ⟨-, -, hs⟩, -, ⟨e1, e2, e3⟩, -⟩ := hC'
  obtain ⟨q1, q2, q3⟩ := e3 r _ hr
  have p6 : P 95 6 = 98 := hM.2.2.1
  have em : nI 256 + nI 64 * nI r = nI (256 + 64 * r) := by rw [pk_mul, nI_add]
  refine x_Model_pass_0 _ _ ?_
  simp only [k95, p6, k98, nzl 98 (by decide), true_and]
  rw [clp (show r < 2 ^ 31 by omega), q1, em]
  refine ⟨vp_in_nI (by omega) (by decide), m_readRule (d := d + 1) hM q3 (by omega) q2 (fun I1 f1 hX1 => m_read (d := d + 1) hM (f1.mc hC) (fun I2 f2 hC2 hR2 => m_nextBehind (d := d + 3) hM hs hR2 (by decide) ?_))⟩
  rw [tks_LX hLX, kds_LX hLX]
  exact l_mpass hM hLZ q3 (by omega) (by omega) har hG 1000 0 M 0 R I2 rfl (by omega) (by omega) hC2 hLX hR2 (hX1.rd f2) (fun I' M' R' e' f' => h1 I' M' R' e' ((f1.y.tr f2.y).tr f')) (fun I' s' mk' R' e' f' => h0 I' s' mk' R' e' ((f1.y.tr f2.y).tr f'))
end MP
