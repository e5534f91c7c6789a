/-! Model.fits; what is counted token by token and entry by entry is the same. -/
def ctf (g : Nat → Bool) : Nat → Nat → Nat
  | 0, _ => 0
  | n + 1, i => (if g i = true then 1 else 0) + ctf g n (i + 1)
theorem ctf_c (g : Nat → Bool) : ∀ (n i : Nat), ctf g n i = (List.range' i n).countP g
  | 0, i => rfl
  | n + 1, i => by
    rw [List.range'_succ, List.countP_cons, ← ctf_c g n (i + 1)]
    show (if g i = true then 1 else 0) + ctf g n (i + 1) = _
    omega
theorem ent_perm (ks : List Nat) : ((outl ks).2.map Prod.fst).Perm ((List.range' 0 ks.length).filter (bgn ks)) := by
  have nd : ((outl ks).2.map Prod.fst).Nodup := by
    unfold List.Nodup
    rw [List.pairwise_map]
    refine (ent_pw ks).imp_of_mem (fun {x y} hx hy h c => ?_)
    obtain ⟨i, l, b⟩ := x
    obtain ⟨i', l', b'⟩ := y
    dsimp only at c h
    subst c
    have := (ent_un hx hy).1
    omega
  have nd2 : ((List.range' 0 ks.length).filter (bgn ks)).Nodup := List.Nodup.sublist List.filter_sublist List.nodup_range'
  rw [List.perm_ext_iff_of_nodup nd nd2]
  intro i
  rw [List.mem_filter, List.mem_map]
  constructor
  · rintro ⟨⟨i', l, b⟩, hm, rfl⟩
    obtain ⟨f, e, -, -, h1, h2, h3, -⟩ := ent_spn hm
    exact ⟨List.mem_range'_1.mpr ⟨Nat.zero_le _, by dsimp only; omega⟩, ent_bgn hm⟩
  · rintro ⟨-, hb⟩
    obtain ⟨l, b, hm⟩ := bgn_ent hb
    exact ⟨_, hm, rfl⟩
theorem nbg_len (ks : List Nat) : nbg ks ks.length 0 = (outl ks).2.length := by
  have e : ∀ (n i : Nat), nbg ks n i = ctf (bgn ks) n i := by
    intro n
    induction n with
    | zero => intro i; rfl
    | succ n ih =>
      intro i
      show (if bgn ks i = true then 1 else 0) + nbg ks n (i + 1) = _
      rw [ih]
      rfl
  rw [e, ctf_c, List.countP_eq_length_filter, ← (ent_perm ks).length_eq, List.length_map]
def lst (ks : List Nat) (i : Nat) : Nat := match le_ false (ks.drop i) with
  | some (m, _) => i + m
  | none => 0
theorem ent_lst {ks : List Nat} {i l b : Nat} (h : (i, l, b) ∈ (outl ks).2) : lst ks i = l + 1 := by
  obtain ⟨f, e, -, -, h1, -, -, -, dp, h2, -⟩ := ent_spn h
  unfold lst
  rw [h2]
  dsimp only
  omega
theorem cft_ctf {Zr : List ItC} {tr : List Int32} {ar : Nat} {s : List Int32} {A : List (Nat × Nat × Nat)} (ks : List Nat) : ctf (fun i => bgn ks i && mtb Zr tr ar s A i (lst ks i)) ks.length 0 = cft Zr tr ar s A (outl ks).2 := by
  have e1 : ∀ ex : List (Nat × Nat × Nat), (∀ q ∈ ex, q ∈ (outl ks).2) → cft Zr tr ar s A ex = (ex.map Prod.fst).countP (fun i => mtb Zr tr ar s A i (lst ks i)) := by
    intro ex
    induction ex with
    | nil => intro _; rfl
    | cons q ex ih =>
      intro h
      obtain ⟨f, l, b⟩ := q
      rw [List.map_cons, List.countP_cons, ← ih (fun q hq => h q (List.mem_cons_of_mem _ hq))]
      dsimp only
      rw [ent_lst (h _ List.mem_cons_self)]
      show (if mtb Zr tr ar s A f (l + 1) = true then 1 else 0) + cft Zr tr ar s A ex = _
      omega
  rw [e1 _ (fun _ h => h), (ent_perm ks).countP_eq, List.countP_filter, ctf_c]
  congr 1
  funext i
  rw [Bool.and_comm]
section MFT
variable {E : XE} {d : Nat} {Q : Int32 → mI → mP → Prop} {P : mP} {bf ld tl : List Int32} {rs : List RlT} {cy : Int32} {off : Nat} {Z : List ItC} {tr : List Int32} {ar dpx : Nat}
theorem l_mfits (hM : MO P) {M : List MIt} {R : Nat} {rl : List (List Int32)} (hLZ : LX Z tr) (hx : (fl Z tr).length ≤ 60) (ho : off + (fl Z tr).length ≤ 640) (har : le_ true (Z.map (fun z => z.2.1)) = some (ar, dpx)) (hLX : LX (M.map un) tl) {I0 : mI} : ∀ (n i c : Nat) (I : mI), i + n = (kdi M).length → c + n < 2 ^ 20 → FrY I0 I → MCz I bf ld M tl rl R cy → RDs I (fl (M.map un) tl) → RdR I off (fl Z tr) → (∀ I', FrY I0 I' → MCz I' bf ld M tl rl R cy → Q (nI (c + ctf (fun i => bgn (kdi M) i && mtb Z tr ar (fl (M.map un) tl) (psn 0 (M.map un)) i (lst (kdi M) i)) n i)) I' P) → V E (d + 3) m_Model_fits 112 Q 40 [some (.inr 95), none, some (.inl (nI c)), some (.inl (nI i))] [] 112 I P := by
  have etm := tks_LX hLX
  have ekm := kds_LX hLX
  have hkz : kds (fl Z tr) = Z.map (fun z => z.2.1) := by unfold kds; rw [tks_LX hLZ, kds_psn]
  have hkl := kds_len (fl (M.map un) tl)
  rw [ekm] at hkl
  intro n
  induction n with
  | zero =>
    intro i c I hi hc fr hC hR hX hq
    refine x_Model_fits_40 _ _ _ ⟨k95, ?_⟩
    rw [hR.1]
    have := hC.2.2.1.2.2
    have htl := tks_len (fl (M.map un) tl)
    exact pk_le (tks (fl (M.map un) tl)).length i (fun _ => hq I fr hC) (fun q => by omega)
  | succ n ih =>
    intro i c I hi hc fr hC hR hX hq
    have hs := hC.2.2.1.2.2
    have htl := tks_len (fl (M.map un) tl)
    have es : ∀ g : Nat → Bool, ctf g (n + 1) i = (if g i = true then 1 else 0) + ctf g n (i + 1) := fun g => rfl
    rw [es] at hq
    refine x_Model_fits_40 _ _ _ ⟨k95, ?_⟩
    rw [hR.1]
    refine pk_le (tks (fl (M.map un) tl)).length i (fun q => by omega) (fun _ => ⟨k95, m_begins hM hs hR (by rw [ekm]; omega) (bz_i (fun e => ?_) (fun e => ⟨k95, ?_⟩))⟩)
    · rw [n1]
      rw [ekm] at e
      simp only [e, Bool.false_and, Bool.false_eq_true, if_false, Nat.zero_add] at hq
      exact ih (i + 1) c I (by omega) (by omega) fr hC hR hX hq
    · rw [n1, n1]
      obtain ⟨l, b, he⟩ := bgn_ent e
      have he' : (i, l, b) ∈ (outl (kdi M)).2 := by rw [← ekm]; exact he
      rw [ekm] at e
      simp only [e, Bool.true_and, ent_lst he'] at hq
      refine m_fitsAt (d := d) hM hs hx ho (by rw [hkz]; exact har) he hR hC.2.2.1.2.1 hX (fun I2 B f2 hm hB hBE => ⟨fun cc => absurd cc (by decide), fun _ => ?_⟩) (fun I2 f2 hm => ⟨fun _ => ?_, fun cc => absurd rfl cc⟩)
      · rw [tks_LX hLZ, etm] at hm
        have hb : mtb Z tr ar (fl (M.map un) tl) (psn 0 (M.map un)) i (l + 1) = true := by
          unfold mtb
          rw [hm]
          exact decide_eq_true rfl
        rw [if_pos hb] at hq
        exact ih (i + 1) (c + 1) I2 (by omega) (by omega) (fr.tr f2.y) (f2.mc hC) (f2.rd hR) (f2.rr hX) (fun I' f' hC' => by rw [Nat.add_assoc]; exact hq I' f' hC')
      · rw [tks_LX hLZ, etm] at hm
        have hb : ¬ mtb Z tr ar (fl (M.map un) tl) (psn 0 (M.map un)) i (l + 1) = true := by
          unfold mtb
          cases hmm : mtc (fl Z tr) (psn 0 Z) (fl (M.map un) tl) (psn 0 (M.map un)) ar 0 i B0 with
          | none => simp
          | some v =>
            obtain ⟨e', B⟩ := v
            dsimp only
            intro cc
            exact hm B (by rw [hmm, of_decide_eq_true cc])
        rw [if_neg hb, Nat.zero_add] at hq
        exact ih (i + 1) c I2 (by omega) (by omega) (fr.tr f2.y) (f2.mc hC) (f2.rd hR) (f2.rr hX) hq
theorem m_fits (hM : MO P) (hG : RGd rs) {M : List MIt} {R : Nat} {I : mI} (hC : MCz I bf ld M tl (rtx rs) R cy) (hLX : LX (M.map un) tl) {x : Int32} (hx : (∀ r, r < rs.length → x ≠ nI r) → Q (-(nI 1)) I P)
    (h : ∀ r Z t ar I', x = nI r → rs[r]? = some (Z, t, ar) → FrY I I' → MCz I' bf ld M tl (rtx rs) R cy → Q (nI (cft Z t ar (fl (M.map un) tl) (psn 0 (M.map un)) (outl (kdi M)).2)) I' P) : V E (d + 4) m_Model_fits 112 Q 0 [some (.inr 95), some (.inl x), none, none] [] 112 I P := by
  have e6 : (rtx rs).length = rs.length := List.length_map _
  have hC' := hC
  obtain ⟨-, -, ⟨-, -, hs⟩, -, ⟨e1, e2, e3⟩, -⟩ := hC'
  have p6 : P 95 6 = 98 := hM.2.2.1
  refine x_Model_fits_0 _ _ ⟨fun c => hx (fun r hr e => ?_), fun c => ⟨k95, ?_⟩⟩
  · subst e
    exact absurd c (nn_lt (by omega))
  · obtain ⟨r, hr, rfl⟩ := pos_n c
    rw [e1, e6]
    simp only [k95, p6, k98, nzl 98 (by decide), true_and]
    refine pk_lt r rs.length (fun hrl => ?_) (fun hrl => hx (fun r' hr' e => ?_))
    · obtain ⟨⟨Z, t, ar⟩, hz⟩ : ∃ q, rs[r]? = some q := ⟨_, List.getElem?_eq_getElem hrl⟩
      obtain ⟨hLZ, hRG, dp, hle⟩ := hG Z t ar (List.mem_of_getElem? hz)
      have hrl' : (rtx rs)[r]? = some (fl Z t) := by unfold rtx; rw [List.getElem?_map, hz]; rfl
      obtain ⟨q1, q2, q3⟩ := e3 r _ hrl'
      have em : nI 256 + nI 64 * nI r = nI (256 + 64 * r) := by rw [pk_mul, nI_add]
      rw [clp hr, q1, em]
      have hkl := kds_len (fl (M.map un) tl)
      rw [kds_LX hLX] at hkl
      have htl := tks_len (fl (M.map un) tl)
      refine ⟨vp_in_nI (by omega) (by decide), m_readRule (d := d) hM q3 (by omega) q2 (fun I1 f1 hX1 => m_read (d := d) hM (f1.mc hC) (fun I2 f2 hC2 hR2 => ?_))⟩
      refine l_mfits (d := d + 1) (I0 := I2) hM hLZ q3 (by omega) hle hLX (kdi M).length 0 0 I2 (by omega) (by omega) (fun _ _ => rfl) hC2 hR2 (hX1.rd f2) (fun I' f' hC' => ?_)
      rw [Nat.zero_add, cft_ctf]
      exact h r Z t ar I' rfl hz ((f1.y.tr f2.y).tr f') hC'
    · have := (nI_eq (by omega) (by omega)).mp e
      omega
end MFT
