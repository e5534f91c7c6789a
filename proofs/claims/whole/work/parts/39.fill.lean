/-! Templates are filled: the class. -/
theorem drop_it {α : Type} {Z : List α} {t : Nat} {z : α} (h : Z[t]? = some z) : Z.drop t = z :: Z.drop (t + 1) := by
  rw [List.drop_eq_getElem_cons (List.getElem?_eq_some_iff.mp h).1]
  congr 1
  exact (List.getElem?_eq_some_iff.mp h).2
theorem fl_at {Z : List ItC} {t k : Nat} {sp w tl : List Int32} (h : Z[t]? = some (sp, k, w)) : fl Z tl = fl (Z.take t) [] ++ (sp ++ (w ++ fl (Z.drop (t + 1)) tl)) := by
  conv => lhs; rw [← List.take_append_drop t Z, drop_it h, fl_app, fl_nl]
  rfl
theorem spa_psn {Z : List ItC} {t : Nat} (h : t ≤ Z.length) : spa (psn 0 Z) t = ftl (Z.take t) := by
  cases t with
  | zero => rfl
  | succ t => exact ten_psn (by omega)
section FI
variable {E : XE} {d : Nat} {Q : Int32 → mI → mP → Prop} {P : mP} {o o' N N' : Nat}
theorem z_appendSpace (hT : TO P o N) (hT' : TO P o' N') (hN : N < 2 ^ 20) (hN' : N' < 2 ^ 20) (hap : apt o o') {I : mI} {X Z : List MIt} {t sp : List Int32} {m m' m2 : Int32} (hx : TZ I o X [] m) (hx' : TZ I o' Z t m') (hW' : WN Z) (hs' : (fl (Z.map un) t).length ≤ N') {i : Nat} (hi : i ≤ Z.length) (hsp : (∃ y, Z[i]? = some (sp, m2, y)) ∨ (i = Z.length ∧ sp = t ∧ m2 = m')) (hr : ftl (X.map un) + sp.length ≤ N) (h : ∀ I', FrK o I I' → TZ I' o X sp m2 → Q (nI 0) I' P) : V E (d + 2) m_Text_appendSpace 112 Q 0 [some (.inr o), some (.inr o'), some (.inl (nI i)), none, none] [] 112 I P := by
  have hlen : (psn 0 (Z.map un)).length = Z.length := by rw [psn_len, List.length_map]
  have hZl := hW'.len
  have hfl := fl_len (Z.map un) t
  have e1 : spa (psn 0 (Z.map un)) i = ftl ((Z.map un).take i) := spa_psn (by rw [List.length_map]; exact hi)
  have key : spe (psn 0 (Z.map un)) (fl (Z.map un) t).length i = ftl ((Z.map un).take i) + sp.length ∧ sub (fl (Z.map un) t) (ftl ((Z.map un).take i)) (ftl ((Z.map un).take i) + sp.length) = sp ∧ sub (fl (Z.map um) (List.replicate t.length m')) (ftl ((Z.map un).take i)) (ftl ((Z.map un).take i) + sp.length) = List.replicate sp.length m2 ∧ ftl ((Z.map un).take i) + sp.length ≤ (fl (Z.map un) t).length := by
    have cut : ∀ (a b c : List Int32), sub (a ++ (b ++ c)) a.length (a.length + b.length) = b := by
      intro a b c
      unfold sub
      rw [List.drop_left, Nat.add_sub_cancel_left, List.take_left]
    have cut' : ∀ (a b c : List Int32) (n k : Nat), a.length = n → b.length = k → sub (a ++ (b ++ c)) n (n + k) = b := by
      intro a b c n k h1 h2
      subst h1
      subst h2
      exact cut a b c
    have lm : (fl ((Z.map um).take i) []).length = ftl ((Z.map un).take i) := by
      rw [← List.map_take, ← List.map_take]
      exact ftl_um _
    rcases hsp with ⟨⟨k, w, mw⟩, hz⟩ | ⟨rfl, rfl, rfl⟩
    · have hil : i < Z.length := (List.getElem?_eq_some_iff.mp hz).1
      have hzu : (Z.map un)[i]? = some (sp, k, w) := by rw [List.getElem?_map, hz]; rfl
      have hzm : (Z.map um)[i]? = some (List.replicate sp.length m2, k, List.replicate w.length mw) := by rw [List.getElem?_map, hz]; rfl
      refine ⟨?_, ?_, ?_, ?_⟩
      · unfold spe
        rw [if_pos (by rw [hlen]; exact hil), tst_psn hzu]
      · rw [fl_at hzu]
        exact cut' _ _ _ _ _ rfl rfl
      · rw [fl_at hzm]
        exact cut' _ _ _ _ _ lm (List.length_replicate ..)
      · rw [fl_at hzu, List.length_append, List.length_append]
        show _ ≤ ftl _ + _
        omega
    · have et : (Z.map un).take Z.length = Z.map un := List.take_of_length_le (by rw [List.length_map]; exact Nat.le_refl _)
      rw [et] at lm ⊢
      refine ⟨?_, ?_, ?_, ?_⟩
      · unfold spe
        rw [if_neg (by rw [hlen]; omega), hfl]
      · rw [fl_nl]
        have := cut' (fl (Z.map un) []) sp [] _ _ rfl rfl
        rw [List.append_nil] at this
        exact this
      · rw [fl_nl]
        have := cut' (fl (Z.map um) []) (List.replicate sp.length m2) [] (ftl (Z.map un)) sp.length (ftl_um Z) (List.length_replicate ..)
        rw [List.append_nil] at this
        exact this
      · rw [hfl]
        exact Nat.le_refl _
  obtain ⟨k1, k2, k3, k4⟩ := key
  refine s_appendSpace hT hT' hN hN' hap hx hx' hs' (by rw [hlen]; omega) (by rw [hlen]; exact hi) (by rw [e1, k1]; omega) (by rw [k1]; exact k4) (by rw [e1, k1, fl_len]; simp; omega) (fun I' hf hx2 => h I' hf ?_)
  rw [e1, k1, k2, k3] at hx2
  unfold TZ
  rw [fl_nl (X.map un) sp, fl_nl (X.map um) (List.replicate sp.length m2)]
  exact hx2
theorem z_cutAt (hT : TO P o N) (hN : N < 2 ^ 20) {I : mI} {X : List MIt} {m m2 : Int32} {sp : List Int32} (hx : TZ I o X [] m) (hW : WN X) (hs : ftl (X.map un) ≤ N) {i : Nat} {y : Nat × List Int32 × Int32} (hz : X[i]? = some (sp, m2, y)) (h : ∀ I', FrK o I I' → TZ I' o (X.take i) sp m2 → Q (nI 0) I' P) : V E d m_Text_cutAt 112 Q 0 [some (.inr o), some (.inl (nI i))] [] 112 I P := by
  obtain ⟨k, w, mw⟩ := y
  have hil : i < X.length := (List.getElem?_eq_some_iff.mp hz).1
  have hzu : (X.map un)[i]? = some (sp, k, w) := by rw [List.getElem?_map, hz]; rfl
  have hzm : (X.map um)[i]? = some (List.replicate sp.length m2, k, List.replicate w.length mw) := by rw [List.getElem?_map, hz]; rfl
  have hXl := hW.len
  have hfl := fl_len (X.map un) []
  have et := tst_psn hzu
  have lm : (fl ((X.map um).take i) []).length = ftl ((X.map un).take i) := by
    rw [← List.map_take, ← List.map_take]
    exact ftl_um _
  have cut : ∀ (a b c : List Int32) (n : Nat), a.length + b.length = n → (a ++ (b ++ c)).take n = a ++ b := by
    intro a b c n hn
    rw [← List.append_assoc, List.take_left' (by rw [List.length_append]; exact hn)]
  refine s_cutAt hT hN hx (by rw [psn_len, List.length_map]; omega) (by rw [hfl]; simpa using hs) (by rw [psn_len, List.length_map]; exact hil) ?_ (fun I' hf hx2 => h I' hf ?_)
  · rw [et, fl_at hzu, List.length_append, List.length_append]
    show _ ≤ ftl _ + _
    omega
  · unfold TZ
    rw [et] at hx2
    have a1 : (fl (X.map un) []).take (ftl ((X.map un).take i) + sp.length) = fl ((X.take i).map un) sp := by
      rw [fl_at hzu, cut _ _ _ (ftl ((X.map un).take i) + sp.length) rfl, ← fl_nl, List.map_take]
    have a2 : (fl (X.map um) (List.replicate ([] : List Int32).length m)).take (ftl ((X.map un).take i) + sp.length) = fl ((X.take i).map um) (List.replicate sp.length m2) := by
      rw [fl_at hzm, cut _ _ _ _ (by rw [lm, List.length_replicate]), ← fl_nl, List.map_take]
    rw [a1, a2, psn_take, ← List.map_take] at hx2
    exact hx2
end FI
/-- the figure of a hole -/
def dgw (w : List Int32) : Nat := match w with
  | _ :: x :: _ => (x - nI 48).toNatClampNeg
  | _ => 0
theorem isD_n {x : Int32} (h : isD x = true) : ∃ dg, dg < 10 ∧ x = nI (48 + dg) := by
  have h' := of_decide_eq_true h
  refine ⟨(x.toInt - 48).toNat, by omega, ?_⟩
  rw [eqn (by omega)]
  omega
theorem okw3 {w r : List Int32} (h : okw 3 w r) : ∃ c dg, dg < 10 ∧ w = [c, nI (48 + dg)] ∧ dgw w = dg := by
  obtain ⟨c, cs, rfl, -, -, h3, h4⟩ := h
  have h5 : cs.length = 1 := by
    unfold tkN at h4
    rw [if_pos rfl] at h4
    exact h4.symm
  match cs, h5 with
  | [x], _ =>
    have hx : isD x = true := by
      unfold tkK at h3
      simp only [List.singleton_append] at h3
      repeat' (split at h3)
      all_goals (first | assumption | (exact absurd h3 (by decide)))
    obtain ⟨dg, hd, rfl⟩ := isD_n hx
    refine ⟨c, dg, hd, rfl, ?_⟩
    show (nI (48 + dg) - nI 48).toNatClampNeg = dg
    rw [dig_e, clp (by omega)]
theorem LX_at : ∀ {Z : List ItC} {t : List Int32}, LX Z t → ∀ {i k : Nat} {sp w : List Int32}, Z[i]? = some (sp, k, w) → clo false sp = true ∧ okw k w (fl (Z.drop (i + 1)) t)
  | [], _, _, i, k, sp, w, e => by simp at e
  | (sp0, k0, w0) :: Z, t, h, 0, k, sp, w, e => by
    cases e
    exact ⟨h.1, h.2.1⟩
  | (sp0, k0, w0) :: Z, t, h, i + 1, k, sp, w, e => LX_at (Z := Z) (t := t) h.2.2 e
theorem dgt_psn {Z : List ItC} {t : List Int32} {i k : Nat} {sp w : List Int32} (h : Z[i]? = some (sp, k, w)) {x : Int32} (hw : w[1]? = some x) : (fl Z t)[tst (psn 0 Z) i + 1]? = some x := by
  rw [tst_psn h, fl_at h, ← List.append_assoc]
  rw [List.getElem?_append_right (by rw [List.length_append]; unfold ftl; omega)]
  rw [List.length_append, show ftl (Z.take i) + sp.length + 1 - ((fl (Z.take i) []).length + sp.length) = 1 by unfold ftl; omega]
  rw [List.getElem?_append_left (List.getElem?_eq_some_iff.mp hw).1]
  exact hw
theorem HD_LX {Z : List ItC} {t : List Int32} (h : LX Z t) : HD (fl Z t) (psn 0 Z) ∧ ∀ i sp w, Z[i]? = some (sp, 3, w) → dgt (fl Z t) (psn 0 Z) i = dgw w := by
  have key : ∀ i sp w, Z[i]? = some (sp, 3, w) → dgt (fl Z t) (psn 0 Z) i = dgw w ∧ dgw w < 10 ∧ (fl Z t)[tst (psn 0 Z) i + 1]? = some (nI (48 + dgw w)) := by
    intro i sp w e
    obtain ⟨c, dg, hd, hw, hdg⟩ := okw3 (LX_at h e).2
    have e2 := dgt_psn (t := t) e (x := nI (48 + dg)) (by rw [hw]; rfl)
    refine ⟨?_, by omega, by rw [hdg]; exact e2⟩
    unfold dgt
    rw [e2, hdg]
    show (nI (48 + dg) - nI 48).toNatClampNeg = dg
    rw [dig_e, clp (by omega)]
  refine ⟨fun i a b e => ?_, fun i sp w e => (key i sp w e).1⟩
  have hil : i < Z.length := by
    have := (List.getElem?_eq_some_iff.mp e).1
    rw [psn_len] at this
    exact this
  obtain ⟨⟨sp, k, w⟩, hz⟩ : ∃ q, Z[i]? = some q := ⟨_, List.getElem?_eq_getElem hil⟩
  rw [psn_get hz] at e
  cases e
  obtain ⟨k1, k2, k3⟩ := key i sp w hz
  rw [k1]
  exact ⟨k2, k3⟩
/-- the template, its holes filled -/
def fil (Zo : List MIt) (B : BN) (num : Int32) : Bool → List ItC → List MIt
  | _, [] => []
  | fst, (sp, k, w) :: T => (if k = 3 then (match B (dgw w) with
      | some (f, b) => (match (Zo.drop f).take (b - f) with
        | z :: R => sps z (if fst = true then [] else sp) num :: R
        | [] => [])
      | none => []) else [((if fst = true then [] else sp), num, k, w, num)]) ++ fil Zo B num false T
