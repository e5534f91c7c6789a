/-! Program.rewrite. -/
theorem Sh.t61 {P : mP} (h : Sh P) : TO P 61 120 := ⟨rfl, ⟨h.2.2.1.1.1, rfl⟩, ⟨h.2.2.1.1.2.1, rfl⟩, ⟨h.2.2.1.1.2.2.1, rfl⟩, ⟨h.2.2.1.1.2.2.2.1, rfl⟩, ⟨h.2.2.1.1.2.2.2.2, rfl⟩⟩
theorem Sh.t67 {P : mP} (h : Sh P) : TO P 67 120 := ⟨rfl, ⟨h.2.2.1.2.1.1, rfl⟩, ⟨h.2.2.1.2.1.2.1, rfl⟩, ⟨h.2.2.1.2.1.2.2.1, rfl⟩, ⟨h.2.2.1.2.1.2.2.2.1, rfl⟩, ⟨h.2.2.1.2.1.2.2.2.2, rfl⟩⟩
theorem Sh.t73 {P : mP} (h : Sh P) : TO P 73 120 := ⟨rfl, ⟨h.2.2.1.2.2.1.1, rfl⟩, ⟨h.2.2.1.2.2.1.2.1, rfl⟩, ⟨h.2.2.1.2.2.1.2.2.1, rfl⟩, ⟨h.2.2.1.2.2.1.2.2.2.1, rfl⟩, ⟨h.2.2.1.2.2.1.2.2.2.2, rfl⟩⟩
theorem Sh.t79 {P : mP} (h : Sh P) : TO P 79 120 := ⟨rfl, ⟨h.2.2.1.2.2.2.1, rfl⟩, ⟨h.2.2.1.2.2.2.2.1, rfl⟩, ⟨h.2.2.1.2.2.2.2.2.1, rfl⟩, ⟨h.2.2.1.2.2.2.2.2.2.1, rfl⟩, ⟨h.2.2.1.2.2.2.2.2.2.2, rfl⟩⟩
theorem kk_rule {r : Nat} (hr : r < 6) : kk 112 (6 + 9 * r) = (0, 1) ∧ kk 112 (7 + 9 * r) = (0, 3) ∧ (∀ j, j < 5 → kk 112 (8 + j + 9 * r) = (1, 60)) ∧ kk 112 (13 + 9 * r) = (1, 10) ∧ kk 112 (14 + 9 * r) = (1, 10) := by
  have : ∀ r, r < 6 → kk 112 (6 + 9 * r) = (0, 1) ∧ kk 112 (7 + 9 * r) = (0, 3) ∧ (∀ j, j < 5 → kk 112 (8 + j + 9 * r) = (1, 60)) ∧ kk 112 (13 + 9 * r) = (1, 10) ∧ kk 112 (14 + 9 * r) = (1, 10) := by decide
  exact this r hr
theorem Sh.ro {P : mP} (h : Sh P) {r : Nat} (hr : r < 6) : RO P (6 + 9 * r) := by
  obtain ⟨-, h2, -⟩ := h
  obtain ⟨-, q0, q2, q3, w0, w1, w2, w3, w4⟩ := h2 r hr
  obtain ⟨k0, k1, k2, k3, k4⟩ := kk_rule hr
  have e : ∀ j, 7 + 9 * r + j = 6 + 9 * r + 1 + j := fun j => by omega
  refine ⟨k0, by rw [q0]; omega, ?_, ⟨by rw [q2]; omega, ?_⟩, ⟨by rw [q3]; omega, ?_⟩⟩
  · rw [show 6 + 9 * r + 1 = 7 + 9 * r by omega]
    have k2' : ∀ j, j < 5 → kk 112 (7 + 9 * r + (j + 1)) = (1, 60) := fun j hj => by rw [show 7 + 9 * r + (j + 1) = 8 + j + 9 * r by omega]; exact k2 j hj
    exact ⟨k1, ⟨w0, k2' 0 (by decide)⟩, ⟨w1, k2' 1 (by decide)⟩, ⟨w2, k2' 2 (by decide)⟩, ⟨w3, k2' 3 (by decide)⟩, ⟨w4, k2' 4 (by decide)⟩⟩
  · rw [show 6 + 9 * r + 7 = 13 + 9 * r by omega]; exact k3
  · rw [show 6 + 9 * r + 8 = 14 + 9 * r by omega]; exact k4
def kdi (Z : List MIt) : List Nat := Z.map mkd
theorem kdi_un (Z : List MIt) : (Z.map un).map (fun z => z.2.1) = kdi Z := by
  unfold kdi
  rw [List.map_map]
  rfl
theorem kdi_psn (Z : List MIt) (p : Nat) : (psn p (Z.map un)).map Prod.fst = kdi Z := by rw [kds_psn, kdi_un]
theorem TZ.kr {I : mI} {o : Nat} {Z : List MIt} {t : List Int32} {m : Int32} (h : TZ I o Z t m) : KR I o (kdi Z) := by
  have := h.2.2.2.2.kr
  rw [kdi_psn] at this
  exact this
theorem TZ.fr {I I' : mI} {o : Nat} {Z : List MIt} {t : List Int32} {m : Int32} (h : TZ I o Z t m) (hf : ∀ m, o ≤ m → m ≤ o + 5 → I' m = I m) : TZ I' o Z t m := TXT.fr h hf
theorem RLz.fr {I I' : mI} {o ar : Nat} {Z : List ItC} {t mk : List Int32} (h : RLz I o Z t mk ar) (hf : ∀ m, o ≤ m → m ≤ o + 6 → I' m = I m) : RLz I' o Z t mk ar := by
  obtain ⟨h1, h2, h3⟩ := h
  exact ⟨by rw [hf o (by omega) (by omega)]; exact h1, h2.fr (fun m a b => hf m (by omega) (by omega)), h3⟩
theorem fil_ne {Zo : List MIt} {B : BN} {num : Int32} {fst : Bool} {T : List ItC} (hT : T ≠ []) (hBK : BK B Zo.length T) : ∃ y Y, fil Zo B num fst T = y :: Y := by
  cases T with
  | nil => exact absurd rfl hT
  | cons z T =>
    obtain ⟨sp, k, w⟩ := z
    by_cases hk : k = 3
    · subst hk
      obtain ⟨f, b, hB, hfb, hb⟩ := hBK sp w List.mem_cons_self
      obtain ⟨z, R, hzR⟩ := tkd hfb hb
      rw [fil_hole hB hzR]
      exact ⟨_, _, rfl⟩
    · rw [fil_tok hk]
      exact ⟨_, _, rfl⟩
section RW
variable {E : XE} {d : Nat} {Q : Int32 → mI → mP → Prop} {P : mP} {o op on : Nat} {Z : List ItC} {t mk : List Int32} {X : List MIt} {ar : Nat} {B : BN}
theorem s_rewrite (hS : Sh P) (hP1 : P 60 1 = on) (hon : on = 61 ∨ on = 67) (hO : RO P o) (ho : o + 8 < 60) {I : mI} (hR : RLz I o Z t mk ar) {m : Int32} (hX : TZ I on X [] m) (hW : WN X) (hXl : ftl (X.map un) ≤ 120) (hBR : BR I o B X.length) (hBK : BK B X.length (Z.drop (ar + 1))) {R a rest first : Nat} (hR6 : I 60 6 = nI R) {sp : List Int32} {msp : Int32} {y0 : Nat × List Int32 × Int32} (hz : X[first]? = some (sp, msp, y0)) (ha : a < 2 ^ 20) (hrest : rest ≤ 120) {q n mx : Nat} (hrn : rn true 0 0 0 (kdi (fil X B (nI (R + 1)) true (Z.drop (ar + 1)))) = some (q, n, mx)) (hk10 : k10 (kdi (fil X B (nI (R + 1)) true (Z.drop (ar + 1))))) (hsz : ftl ((fil X B (nI (R + 1)) true (Z.drop (ar + 1))).map un) < 2 ^ 20) (hmx : mx < 2 ^ 20)
    (h1 : ∀ I' y Y, ftl ((X.take first).map un) + sp.length + ftl ((fil X B (nI (R + 1)) true (Z.drop (ar + 1))).map un) + rest ≤ 120 → a + mx ≤ 12 → fil X B (nI (R + 1)) true (Z.drop (ar + 1)) = y :: Y → (∀ m, (m < on ∨ on + 5 < m) → (m < 79 ∨ 84 < m) → m ≠ 60 → m ≠ o + 3 → I' m = I m) → (∀ j, j ≠ 6 → I' 60 j = I 60 j) → I' 60 6 = nI (R + 1) → TZ I' on (X.take first ++ sps y sp msp :: Y) [] msp → WN (X.take first ++ sps y sp msp :: Y) → RLz I' o Z t (List.replicate (fl Z t).length (nI (R + 1))) ar → Q (nI 1) I' P)
    (h0 : ∀ I', ¬ (ftl ((X.take first).map un) + sp.length + ftl ((fil X B (nI (R + 1)) true (Z.drop (ar + 1))).map un) + rest ≤ 120 ∧ a + mx ≤ 12) → (∀ m, (m < 79 ∨ 84 < m) → m ≠ o + 3 → I' m = I m) → (∃ mk', RLz I' o Z t mk' ar) → Q (nI 0) I' P) : V E (d + 4) m_Program_rewrite 112 Q 0 [some (.inr 60), some (.inr o), some (.inl (nI first)), some (.inl (nI a)), some (.inl (nI rest))] [] 112 I P := by
  have hTn : TO P on 120 := by
    rcases hon with rfl | rfl
    · exact hS.t61
    · exact hS.t67
  have hP3 : P 60 3 = 79 := hS.2.2.2.2.1.2.1
  have hTp := hS.t79
  have hfX := fl_len (X.map un) []
  have hfX' : (fl (X.map un) []).length ≤ 120 := by rw [hfX]; simpa using hXl
  have hXn := hW.len
  have hfl : first < X.length := (List.getElem?_eq_some_iff.mp hz).1
  have hzu : (X.map un)[first]? = some (sp, y0.1, y0.2.1) := by rw [List.getElem?_map, hz]; rfl
  have hst := tst_psn hzu
  have hne : Z.drop (ar + 1) ≠ [] := by
    intro e
    have := congrArg List.length e
    rw [List.length_drop] at this
    have := hR.2.2.2.2.1
    simp at *
    omega
  obtain ⟨y, Y, hY⟩ := fil_ne (num := nI (R + 1)) (fst := true) hne hBK
  have hsl : ftl ((X.take first).map un) + sp.length ≤ 120 := by
    have : ftl (X.map un) = ftl ((X.map un).take first) + ftl ((X.map un).drop first) := by rw [← ftl_app, List.take_append_drop]
    rw [drop_it hzu, ftl_c] at this
    rw [List.map_take]
    omega
  refine x_Program_rewrite_0 _ _ _ _ _ ?_
  simp only [k60, hP1, hTn.1, hTn.2.2.2.2.1.1, hTn.2.2.2.2.1.2, nzz 4 (by decide), true_and]
  have hon0 : (on ≠ 0) = True := by rcases hon with rfl | rfl <;> simp
  simp only [hon0, true_and]
  refine ⟨vp_in_nI (by omega) (by decide), hO.1, s_filledSize (d := d + 1) hO hTn (by decide) hR hX hW hfX' hBR (nI (R + 1)) hBK ?_⟩
  rw [clp (show first < 2 ^ 31 by omega), (hX.2.2.2.2.st (by rw [psn_len, List.length_map]; exact hfl)).1, hst, nI_add, nI_add, ← List.map_take]
  generalize hLL : ftl ((fil X B (nI (R + 1)) true (Z.drop (ar + 1))).map un) = LL at *
  refine pk_le (ftl ((X.take first).map un) + sp.length + LL + rest) 120 (fun c => ?_) (fun c => ⟨rfl, h0 I (fun cc => by omega) (fun _ _ _ => rfl) ⟨mk, hR⟩⟩)
  simp only [k60, hP1, hP3, hon0, nzl 79 (by decide), true_and]
  rw [hR6, n1]
  refine ⟨hO.1, s_fill (d := d) hO hTn hTp (by decide) (by unfold apt; omega) (by omega) (by omega) hR hX hW hfX' hBR hBK (by omega) (fun I1 f1 x1 w1 r1 => ?_)⟩
  simp only [k60, hP3, nzl 79 (by decide), true_and]
  have hyl := w1.len
  refine ⟨hTp.1, s_deepestNesting hTp (by decide) hk10 (by unfold kdi; rw [List.length_map]; omega) x1.kr hrn ?_⟩
  rw [nI_add]
  refine pk_le (a + mx) 12 (fun c2 => ?_) (fun c2 => ⟨rfl, h0 I1 (fun cc => by omega) (fun m hm hm2 => f1 m (by omega) hm2) ⟨_, r1⟩⟩)
  simp only [k60, hP1, hP3, hon0, nzl 79 (by decide), true_and]
  have xn1 : TZ I1 on X [] m := hX.fr (fun m' h1' h2' => f1 m' (by omega) (by omega))
  refine ⟨hTn.1, z_cutAt hTn (by decide) xn1 hW hXl hz (fun I2 f2 x2 => ?_)⟩
  simp only [k60, hP1, hP3, hon0, nzl 79 (by decide), true_and]
  have ap : apt on 79 := by unfold apt; omega
  have xp2 : TZ I2 79 (fil X B (nI (R + 1)) true (Z.drop (ar + 1))) [] (nI (R + 1)) := f2.txt ap x1
  refine ⟨hTp.1, hTn.1, ?_⟩
  rw [xp2.2.2.2.2.1, psn_len, List.length_map]
  have hWt : WN (X.take first) := fun z hz => hW z (List.mem_of_mem_take hz)
  have hfp := fl_len ((fil X B (nI (R + 1)) true (Z.drop (ar + 1))).map un) []
  have hpos : 0 < (fil X B (nI (R + 1)) true (Z.drop (ar + 1))).length := by rw [hY]; simp
  have etk : ((fil X B (nI (R + 1)) true (Z.drop (ar + 1))).drop 0).take ((fil X B (nI (R + 1)) true (Z.drop (ar + 1))).length - 0) = y :: Y := by
    rw [List.drop_zero, Nat.sub_zero, List.take_of_length_le (Nat.le_refl _), hY]
  have hlen2 : ftl ((X.take first ++ sps y sp msp :: Y).map un) + (un y).1.length = ftl ((X.take first).map un) + sp.length + LL := by
    rw [List.map_append, ftl_app, ← hLL, hY]
    obtain ⟨a1, a2, a3, a4, a5⟩ := y
    show ftl _ + ftl ((sp, a3, a4) :: Y.map un) + a1.length = ftl _ + sp.length + ftl ((a1, a3, a4) :: Y.map un)
    rw [ftl_c, ftl_c]
    omega
  refine z_appendSpan (d := d + 1) hTn hTp (by decide) (by decide) ap x2 xp2 hWt w1 (by rw [hfp, hLL]; simp; omega) hpos (Nat.le_refl _) etk (by omega) (fun I3 f3 x3 => ⟨rfl, ?_⟩)
  have f23 := f2.tr f3
  have e6 : I3 60 6 = nI R := by rw [f23 60 (by omega), f1 60 (by omega) (by omega)]; exact hR6
  rw [e6, n1]
  refine h1 _ y Y c c2 hY (fun m' a1 a2 a3 a4 => ?_) (fun j hj => ?_) ?_ ?_ ?_ ?_
  · rw [uI_n a3, f23 m' (by omega), f1 m' (by omega) a4]
  · rw [uI_o hj, f23 60 (by omega), f1 60 (by omega) (by omega)]
  · rw [uI_s]
  · exact x3.fr (fun m' a1 a2 => uI_n (by omega))
  · intro z hz'
    rcases List.mem_append.mp hz' with hz' | hz'
    · exact hWt z hz'
    · rcases List.mem_cons.mp hz' with rfl | hz'
      · exact w1 y (by rw [hY]; exact List.mem_cons_self)
      · exact w1 z (by rw [hY]; exact List.mem_cons_of_mem _ hz')
  · refine r1.fr (fun m' a1 a2 => ?_)
    rw [uI_n (by omega), f23 m' (by omega)]
end RW
