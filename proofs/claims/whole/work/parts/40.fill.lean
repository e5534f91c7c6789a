/-! How long a filled template is, and the template filled: the class. -/
def mkr (n : Int32) (Z : List ItC) : List MIt := Z.map (fun z => (z.1, n, z.2.1, z.2.2, n))
theorem mkr_un (n : Int32) (Z : List ItC) : (mkr n Z).map un = Z := by
  unfold mkr
  rw [List.map_map]
  conv => rhs; rw [← List.map_id Z]
  rfl
/-- the rule in cell o: its tokens and where its arrow is -/
def RLz (I : mI) (o : Nat) (Z : List ItC) (t mk : List Int32) (ar : Nat) : Prop := I o 1 = nI ar ∧ TXT I (o + 1) (fl Z t) mk (psn 0 Z) ∧ LX Z t ∧ (fl Z t).length ≤ 60 ∧ ar + 1 < Z.length ∧ k10 (Z.map (fun z => z.2.1))
theorem kds_psn (Z : List ItC) : ∀ p, (psn p Z).map Prod.fst = Z.map (fun z => z.2.1) := by
  induction Z with
  | nil => intro p; rfl
  | cons z Z ih =>
    intro p
    obtain ⟨sp, k, w⟩ := z
    rw [psn_c, List.map_cons, ih]
    rfl
theorem LX_len {Z : List ItC} {t : List Int32} (h : LX Z t) : Z.length ≤ (fl Z t).length := by
  have h1 : WN (mkr 0 Z) := fun z hz => by
    obtain ⟨y, hy, rfl⟩ := List.mem_map.mp hz
    exact LX_w Z t h y hy
  have := h1.len
  rw [mkr_un] at this
  rw [fl_len]
  unfold mkr at this
  rw [List.length_map] at this
  omega
theorem LX_bd {Z : List ItC} {t : List Int32} (h : LX Z t) : ∀ q ∈ psn 0 Z, q.2.1 < q.2.2 ∧ q.2.2 ≤ (fl Z t).length := fun q hq => by
  have := psn_bd Z 0 (LX_w Z t h) q hq
  rw [fl_len]
  omega
/-- all holes of the template are bound, to tokens that are there -/
def BK (B : BN) (n : Nat) (T : List ItC) : Prop := ∀ sp w, (sp, 3, w) ∈ T → ∃ f b, B (dgw w) = some (f, b) ∧ f < b ∧ b ≤ n
def rem0 (fst : Bool) (T : List ItC) : Nat := ftl T - (if fst = true then (match T with
  | (sp, _, _) :: _ => sp.length
  | [] => 0) else 0)
section FZ
variable {E : XE} {d : Nat} {Q : Int32 → mI → mP → Prop} {P : mP} {o o' N' : Nat} {Z : List ItC} {t mk : List Int32} {Zo : List MIt} {to : List Int32} {mo : Int32} {ar : Nat} {B : BN}
theorem fil_hole {num : Int32} {fst : Bool} {sp w : List Int32} {T : List ItC} {f b : Nat} {z : MIt} {R : List MIt} (hB : B (dgw w) = some (f, b)) (hR : (Zo.drop f).take (b - f) = z :: R) : fil Zo B num fst ((sp, 3, w) :: T) = (sps z (if fst = true then [] else sp) num :: R) ++ fil Zo B num false T := by
  show (if 3 = 3 then _ else _) ++ _ = _
  rw [if_pos rfl, hB]
  dsimp only
  rw [hR]
theorem fil_tok {num : Int32} {fst : Bool} {sp w : List Int32} {k : Nat} {T : List ItC} (hk : k ≠ 3) : fil Zo B num fst ((sp, k, w) :: T) = [((if fst = true then [] else sp), num, k, w, num)] ++ fil Zo B num false T := by
  show (if k = 3 then _ else _) ++ _ = _
  rw [if_neg hk]
theorem tkd {f b : Nat} (h1 : f < b) (h2 : b ≤ Zo.length) : ∃ z R, (Zo.drop f).take (b - f) = z :: R := by
  refine ⟨Zo[f], (Zo.drop (f + 1)).take (b - f - 1), ?_⟩
  rw [List.drop_eq_getElem_cons (show f < Zo.length by omega), show b - f = b - f - 1 + 1 by omega, List.take_succ_cons]
  rfl
theorem l_filledSize (hO : RO P o) (hT' : TO P o' N') (hN' : N' < 2 ^ 20) {I : mI} (hR : RLz I o Z t mk ar) (hx' : TZ I o' Zo to mo) (hW' : WN Zo) (hs' : (fl (Zo.map un) to).length ≤ N') (hBR : BR I o B Zo.length) (num : Int32) : ∀ (n i L : Nat) (fst : Bool), i + n = Z.length → L + rem0 fst (Z.drop i) < 2 ^ 20 → BK B Zo.length (Z.drop i) → ftl ((fil Zo B num fst (Z.drop i)).map un) < 2 ^ 26 → Q (nI (L + ftl ((fil Zo B num fst (Z.drop i)).map un))) I P → V E (d + 2) m_Rule_filledSize 112 Q 28 [some (.inr o), some (.inr o'), some (.inl (nI (L + rem0 fst (Z.drop i)))), some (.inl (nI i)), none] [] 112 I P := by
  sorry
end FZ
