/-! The reference's marks: 0 where the class has none. -/
def gm (m : Int32) : Int32 := if m = -(nI 1) then nI 0 else m
def gz (z : MIt) : MIt := (z.1, gm z.2.1, z.2.2.1, z.2.2.2.1, gm z.2.2.2.2)
theorem gz_un (N : List MIt) : (N.map gz).map un = N.map un := by rw [List.map_map]; rfl
theorem gz_kdi (N : List MIt) : kdi (N.map gz) = kdi N := by unfold kdi; rw [List.map_map]; rfl
theorem gm_n {n : Nat} (h : n < 2 ^ 31) : gm (nI n) = nI n := by
  unfold gm
  rw [if_neg]
  intro c
  have := congrArg Int32.toInt c
  rw [nI_t h] at this
  have e : (-(nI 1)).toInt = -1 := by decide
  omega
theorem fil_gz {X : List MIt} {B : BN} {num : Int32} (hn : gm num = num) : ∀ (T : List ItC) (fst : Bool), fil (X.map gz) B num fst T = (fil X B num fst T).map gz
  | [], _ => rfl
  | (sp, k, w) :: T, fst => by
    show (if k = 3 then (match B (dgw w) with
      | some (f, b) => (match ((X.map gz).drop f).take (b - f) with
        | z :: R => sps z (if fst = true then [] else sp) num :: R
        | [] => [])
      | none => []) else [((if fst = true then [] else sp), num, k, w, num)]) ++ fil (X.map gz) B num false T = ((if k = 3 then (match B (dgw w) with
      | some (f, b) => (match (X.drop f).take (b - f) with
        | z :: R => sps z (if fst = true then [] else sp) num :: R
        | [] => [])
      | none => []) else [((if fst = true then [] else sp), num, k, w, num)]) ++ fil X B num false T).map gz
    rw [List.map_append, fil_gz hn T false]
    congr 1
    by_cases hk : k = 3
    · rw [if_pos hk, if_pos hk]
      cases B (dgw w) with
      | none => rfl
      | some fb =>
        obtain ⟨f, b⟩ := fb
        dsimp only
        rw [← List.map_drop, ← List.map_take]
        cases (X.drop f).take (b - f) with
        | nil => rfl
        | cons z R =>
          show sps (gz z) _ num :: R.map gz = gz (sps z _ num) :: R.map gz
          congr 1
          unfold sps gz
          dsimp only
          rw [hn]
    · rw [if_neg hk, if_neg hk]
      show _ = [gz _]
      unfold gz
      dsimp only
      rw [hn]
theorem rfx_gz {M : List MIt} {Z : List ItC} {ar R i l : Nat} {B : BN} (hR : R + 1 < 2 ^ 31) : rfx (M.map gz) Z ar R i l B = (rfx M Z ar R i l B).map gz := by
  unfold rfx
  rw [fil_gz (gm_n hR), List.getElem?_map]
  cases M[i]? with
  | none => rfl
  | some z =>
    cases fil M B (nI (R + 1)) true (Z.drop (ar + 1)) with
    | nil => rfl
    | cons y Y =>
      show (M.map gz).take i ++ sps (gz y) (gz z).1 (gz z).2.1 :: (Y.map gz ++ (M.map gz).drop (l + 1)) = (M.take i ++ sps y z.1 z.2.1 :: (Y ++ M.drop (l + 1))).map gz
      rw [List.map_append, List.map_cons, List.map_append, List.map_take, List.map_drop]
      rfl
theorem rpl_gz {Z : List ItC} {tr : List Int32} {ar : Nat} {tl : List Int32} : ∀ (n : Nat) (M : List MIt) (p R : Nat), R + n < 2 ^ 31 → rpl Z tr ar tl n (M.map gz) p R = (rpl Z tr ar tl n M p R).map (fun q => (q.1.map gz, q.2))
  | 0, M, p, R, _ => rfl
  | n + 1, M, p, R, hR => by
    have hfit : ∀ i l, fitB Z tr ar tl (M.map gz) i l = fitB Z tr ar tl M i l := fun i l => by
      unfold fitB
      rw [gz_un]
    rw [rpl_s, rpl_s, gz_un, gz_kdi]
    cases nxb (psn 0 (M.map un)) (outl (kdi M)).2 p with
    | none => rfl
    | some q =>
      obtain ⟨i, l, b⟩ := q
      dsimp only
      rw [hfit]
      cases fitB Z tr ar tl M i l with
      | none => exact rpl_gz n M _ R (by omega)
      | some B =>
        dsimp only
        rw [rfx_gz (by omega), gz_un, gz_kdi, fil_gz (gm_n (by omega)), gz_un]
        by_cases c : (fl ((rfx M Z ar R i l B).map un) tl).length ≤ 120 ∧ gdi (kdi (rfx M Z ar R i l B)) i = true
        · rw [if_pos c, if_pos c]
          exact rpl_gz n _ _ (R + 1) (by omega)
        · rw [if_neg c, if_neg c]
          rfl
theorem rpl_sz {Z : List ItC} {tr : List Int32} {ar : Nat} {tl : List Int32} : ∀ (n : Nat) (M : List MIt) (p R : Nat) (M' : List MIt) (R' : Nat), (fl (M.map un) tl).length ≤ 120 → rpl Z tr ar tl n M p R = some (M', R') → (fl (M'.map un) tl).length ≤ 120
  | 0, M, p, R, M', R', h, e => by cases e; exact h
  | n + 1, M, p, R, M', R', h, e => by
    rw [rpl_s] at e
    split at e
    · cases e; exact h
    · split at e
      · exact rpl_sz n _ _ _ _ _ h e
      · split at e
        · rename_i c
          exact rpl_sz n _ _ _ _ _ c.1 e
        · cases e
section RZ
variable {tl : List Int32}
theorem pass_gz {Z : List ItC} {t : List Int32} {ar : Nat} {N : List MIt} {R : Nat} (hLZ : LX Z t) (hRG : RG Z ar) (hL : LX (N.map un) tl) (h120 : (fl (N.map un) tl).length ≤ 120) (hU : ums [] N) (hR : R < 2 ^ 30) : rpl Z t ar tl 1000 (N.map gz) 0 R = (pp Z t ar tl N.length N [] R).map (fun q => (q.1.map gz, q.2)) ∧ ∀ X2 R2, pp Z t ar tl N.length N [] R = some (X2, R2) → (LX (X2.map un) tl ∧ (fl (X2.map un) tl).length ≤ 120) ∧ ums [] X2 := by
  have hNl : N.length ≤ 1000 := by
    have := LX_len hL
    rw [List.length_map] at this
    omega
  have hR' : R + 1000 < 2 ^ 31 := by omega
  have hR2 : R + N.length < 2 ^ 31 := by omega
  have h1 := rpl_pp hLZ hRG hL hNl hU R hR2
  exact ⟨(rpl_gz 1000 N 0 R hR').trans (congrArg (fun o => o.map (fun q => (q.1.map gz, q.2))) h1.1), fun X2 R2 e => ⟨⟨(h1.2 X2 R2 e).1, rpl_sz 1000 N 0 R X2 R2 h120 (h1.1.trans e)⟩, (h1.2 X2 R2 e).2⟩⟩
theorem rcyc_cyc : ∀ (rs : List RlT) (N : List MIt) (R : Nat), RGd rs → LX (N.map un) tl → (fl (N.map un) tl).length ≤ 120 → ums [] N → R + 1000 * rs.length < 2 ^ 30 → rcyc tl rs (N.map gz) R = (cyc tl rs N R).map (fun q => (q.1.map gz, q.2)) ∧ ∀ N2 R2, cyc tl rs N R = some (N2, R2) → (LX (N2.map un) tl ∧ (fl (N2.map un) tl).length ≤ 120) ∧ ums [] N2
  | [], N, R, _, hL, h120, hU, _ => ⟨rfl, fun N2 R2 e => by cases e; exact ⟨⟨hL, h120⟩, hU⟩⟩
  | (Z, t, ar) :: rs, N, R, hG, hL, h120, hU, hR => by
    rw [List.length_cons] at hR
    obtain ⟨hLZ, hRG, -⟩ := hG Z t ar List.mem_cons_self
    have hG' : RGd rs := fun Z t ar h => hG Z t ar (List.mem_cons_of_mem _ h)
    have hNl : N.length ≤ 120 := by
      have := LX_len hL
      rw [List.length_map] at this
      omega
    have hfin : ∀ X2 R2, pp Z t ar tl N.length N [] R = some (X2, R2) → R2 + 1000 * rs.length < 2 ^ 30 := fun X2 R2 e => by
      have := pp_R _ _ _ _ _ _ e
      omega
    obtain ⟨h1, h2⟩ := pass_gz hLZ hRG hL h120 hU (show R < 2 ^ 30 by omega)
    have e1 : rcyc tl ((Z, t, ar) :: rs) (N.map gz) R = match rpl Z t ar tl 1000 (N.map gz) 0 R with
      | some (M2, R2) => rcyc tl rs M2 R2
      | none => none := rfl
    have e2 : cyc tl ((Z, t, ar) :: rs) N R = match pp Z t ar tl N.length N [] R with
      | some (N2, R2) => cyc tl rs N2 R2
      | none => none := rfl
    rw [e1, e2, h1]
    cases hpp : pp Z t ar tl N.length N [] R with
    | none => exact ⟨rfl, fun N2 R2 e => (by cases e)⟩
    | some v =>
      obtain ⟨X2, R2⟩ := v
      obtain ⟨⟨hx, hsz⟩, hU2⟩ := h2 X2 R2 hpp
      exact rcyc_cyc rs X2 R2 hG' hx hsz hU2 (hfin X2 R2 hpp)
theorem rrun_runl {rs : List RlT} (hG : RGd rs) (h6 : rs.length ≤ 6) : ∀ (n : Nat) (N : List MIt) (R m : Nat), LX (N.map un) tl → (fl (N.map un) tl).length ≤ 120 → ums [] N → R + 6000 * n < 2 ^ 29 → rrun tl rs n (N.map gz) R m = (runl tl rs n N R m).map (fun q => (q.1.map gz, q.2)) ∧ ∀ N2 R2 m2, runl tl rs n N R m = some (N2, R2, m2) → (LX (N2.map un) tl ∧ (fl (N2.map un) tl).length ≤ 120) ∧ ums [] N2
  | 0, N, R, m, hL, h120, hU, _ => ⟨rfl, fun N2 R2 m2 e => by cases e; exact ⟨⟨hL, h120⟩, hU⟩⟩
  | n + 1, N, R, m, hL, h120, hU, hR => by
    obtain ⟨h1, h2⟩ := rcyc_cyc rs N R hG hL h120 hU (by omega)
    have e1 : rrun tl rs (n + 1) (N.map gz) R m = match rcyc tl rs (N.map gz) R with
      | some (M2, R2) => if R2 ≤ R then some (M2, R2, m + 1) else rrun tl rs n M2 R2 (m + 1)
      | none => none := rfl
    have e2 : runl tl rs (n + 1) N R m = match cyc tl rs N R with
      | some (N2, R2) => if R2 ≤ R then some (N2, R2, m + 1) else runl tl rs n N2 R2 (m + 1)
      | none => none := rfl
    have hb := fun M' R' => rcyc_R (tl := tl) rs (N.map gz) R M' R'
    rw [e1, e2, h1]
    rw [h1] at hb
    cases hc : cyc tl rs N R with
    | none => exact ⟨rfl, fun N2 R2 m2 e => (by cases e)⟩
    | some v =>
      obtain ⟨X2, R2⟩ := v
      rw [hc] at hb
      have hb2 := hb (X2.map gz) R2 rfl
      obtain ⟨⟨g1, g2⟩, g3⟩ := h2 X2 R2 hc
      show (if R2 ≤ R then some (X2.map gz, R2, m + 1) else rrun tl rs n (X2.map gz) R2 (m + 1)) = (if R2 ≤ R then some (X2, R2, m + 1) else runl tl rs n X2 R2 (m + 1)).map (fun q => (q.1.map gz, q.2)) ∧ ∀ N2 R3 m2, (if R2 ≤ R then some (X2, R2, m + 1) else runl tl rs n X2 R2 (m + 1)) = some (N2, R3, m2) → (LX (N2.map un) tl ∧ (fl (N2.map un) tl).length ≤ 120) ∧ ums [] N2
      by_cases c : R2 ≤ R
      · rw [if_pos c, if_pos c]
        exact ⟨rfl, fun N2 R3 m2 e => by cases e; exact ⟨⟨g1, g2⟩, g3⟩⟩
      · rw [if_neg c, if_neg c]
        exact rrun_runl hG h6 n X2 R2 (m + 1) g1 g2 g3 (by omega)
end RZ
