theorem scn_len : ∀ (n : Nat) (l : List Nat) (t : Nat) (s : List Nat), (scn n l t s).1.length ≤ n
  | 0, _, _, _ => Nat.le_refl _
  | n + 1, [], _, _ => Nat.zero_le _
  | n + 1, k :: r, t, s => by
    rw [scn_c]
    split
    · exact Nat.le_succ_of_le (scn_len n r (t + 1) (t :: s))
    · split
      · split
        · exact Nat.succ_le_succ (scn_len n r (t + 1) _)
        · exact Nat.le_succ_of_le (scn_len n r (t + 1) [])
      · split
        · exact Nat.succ_le_succ (scn_len n r (t + 1) s)
        · exact Nat.le_succ_of_le (scn_len n r (t + 1) s)
/-- is the statement from token f to the semicolon at e an expression that may be rewritten? -/
def gds (ks : List Nat) (f e : Nat) : Bool := match le_ true (ks.drop f) with
  | some (m, dp) => decide (dp ≤ 12 ∧ f + m = e) && !((ks.drop f).take (e - f)).any (fun k => k == 3)
  | none => false
def rst (ks : List Nat) (f e : Nat) : Nat := if gds ks f e = true then (if icn ks f = true then 3 else if ks[f]? = some 1 then 1 else 2) else 0
def rsx (ks : List Nat) (f e : Nat) : List (Nat × Nat × Nat) := if gds ks f e = true then (scn (e - f) (ks.drop f) f []).1 else []
def oln (ks : List Nat) : Nat → Nat → Nat → List Nat × List (Nat × Nat × Nat)
  | 0, f, t => if f < t then ([0], []) else ([], [])
  | n + 1, f, t => if ks[t]? = some 7 then (rst ks f t :: (oln ks n (t + 1) (t + 1)).1, rsx ks f t ++ (oln ks n (t + 1) (t + 1)).2) else oln ks n f (t + 1)
def outl (ks : List Nat) : List Nat × List (Nat × Nat × Nat) := oln ks ks.length 0 0
theorem oln_s (ks : List Nat) (n f t : Nat) : oln ks (n + 1) f t = if ks[t]? = some 7 then (rst ks f t :: (oln ks n (t + 1) (t + 1)).1, rsx ks f t ++ (oln ks n (t + 1) (t + 1)).2) else oln ks n f (t + 1) := rfl
def FrO (I I' : mI) : Prop := ∀ m, m < 85 ∨ 90 < m → I' m = I m
section OB
variable {E : XE} {d : Nat} {Q : Int32 → mI → mP → Prop} {P : mP} {o N : Nat} {ks : List Nat}
theorem l_hasHole (hT : TO P o N) (hN : N < 2 ^ 20) (hl : ks.length ≤ N) (hk : k10 ks) {I : mI} (hR : KR I o ks) {e : Nat} (he : e < 2 ^ 22) : ∀ (n t : Nat), e - t = n → t ≤ e → Q (bI (((ks.drop t).take (e - t)).any (fun k => k == 3))) I P → V E (d + 2) m_Outline_hasHole 112 Q 2 [some (.inr o), none, some (.inl (nI e)), some (.inl (nI t))] [] 112 I P := by
  intro n
  induction n with
  | zero =>
    intro t hn hte h
    refine x_Outline_hasHole_2 _ _ _ (pk_le e t (fun _ => ?_) (fun g => by omega))
    rw [hn] at h
    exact ⟨rfl, h⟩
  | succ n ih =>
    intro t hn hte h
    refine x_Outline_hasHole_2 _ _ _ (pk_le e t (fun g => by omega) (fun g => ⟨hT.1, s_isHole hT (by omega) hR hl hk (by omega) ?_⟩))
    have e1 : ((ks.drop t).take (e - t)).any (fun k => k == 3) = ((ks[t]? == some 3) || ((ks.drop (t + 1)).take (e - (t + 1))).any (fun k => k == 3)) := by
      rw [show e - t = (e - (t + 1)) + 1 by omega]
      cases hg : ks[t]? with
      | none =>
        have hle := List.getElem?_eq_none_iff.mp hg
        rw [List.drop_eq_nil_of_le hle, List.drop_eq_nil_of_le (by omega)]
        simp
      | some k =>
        rw [drop_k hg, List.take_succ_cons, List.any_cons]
        rfl
    rw [e1] at h
    refine bz_i (fun c => ?_) (fun c => ?_)
    · rw [c, Bool.false_or] at h
      rw [n1]
      exact ih (t + 1) (by omega) (by omega) h
    · rw [c, Bool.true_or] at h
      exact ⟨rfl, h⟩
theorem s_hasHole (hT : TO P o N) (hN : N < 2 ^ 20) (hl : ks.length ≤ N) (hk : k10 ks) {I : mI} (hR : KR I o ks) {f e : Nat} (he : e < 2 ^ 22) (hf : f ≤ e) (h : Q (bI (((ks.drop f).take (e - f)).any (fun k => k == 3))) I P) : V E (d + 2) m_Outline_hasHole 112 Q 0 [some (.inr o), some (.inl (nI f)), some (.inl (nI e)), none] [] 112 I P :=
  x_Outline_hasHole_0 _ _ _ (l_hasHole hT hN hl hk hR he _ f rfl hf h)
def os1 (I : mI) (c : Nat) (x : Int32) : mI := uI (uI I 86 c x) 85 1 (nI (c + 1))
theorem s_addStatement (hO : OO P) {I : mI} {sk : List Nat} (h : OS I sk) (hl : sk.length < 120) {x : Int32} (hq : Q (nI 0) (os1 I sk.length x) P) : V E d m_Outline_addStatement 112 Q 0 [some (.inr 85), some (.inl x)] [] 112 I P := by
  obtain ⟨p0, p2, p3, p4, p6⟩ := hO
  refine x_Outline_addStatement_0 _ _ ?_
  simp only [k85, p0, k86, nzl 86 (by decide), true_and, uI_n (show 85 ≠ 86 by decide), h.1]
  refine ⟨by decide, by decide, pk_le 120 sk.length (fun g => by omega) (fun g => ⟨vp_in_nI hl (by decide), ?_⟩)⟩
  rw [clp (by omega), n1]
  exact hq
theorem os1_fr {I : mI} {c : Nat} {x : Int32} : FrO I (os1 I c x) := fun m hm => by
  unfold os1
  rw [uI_n (by omega), uI_n (by omega)]
theorem os1_oe {I : mI} {c : Nat} {x : Int32} {ex : List (Nat × Nat × Nat)} (h : OE I ex) : OE (os1 I c x) ex := by
  unfold os1
  refine ⟨by rw [uI_o (by decide), uI_n (by decide)]; exact h.1, fun k f l a hk => ?_⟩
  rw [uI_n (by decide), uI_n (by decide), uI_n (by decide), uI_n (by decide), uI_n (by decide), uI_n (by decide)]
  exact h.2 k f l a hk
theorem os1_os {I : mI} {sk : List Nat} {x : Nat} (h : OS I sk) : OS (os1 I sk.length (nI x)) (sk ++ [x]) := by
  unfold os1
  refine ⟨by rw [uI_s, List.length_append]; rfl, fun k y hy => ?_⟩
  rw [uI_n (by decide)]
  by_cases hl : k < sk.length
  · rw [List.getElem?_append_left hl] at hy
    rw [uI_o (by omega)]
    exact h.2 k y hy
  · have e : k = sk.length := by
      have := (List.getElem?_eq_some_iff.mp hy).1
      rw [List.length_append] at this
      simp at this
      omega
    subst e
    rw [List.getElem?_append_right (Nat.le_refl _), Nat.sub_self] at hy
    cases hy
    exact uI_s
theorem FrX.os {I I' : mI} {sk : List Nat} (hf : FrX I I') (h : OS I sk) : OS I' sk := ⟨by rw [hf.2.2 1 (by decide)]; exact h.1, fun k x hx => by rw [hf.2.1]; exact h.2 k x hx⟩
theorem bxv_eq {a t e : Nat} {q : Option (Nat × Nat)} (h1 : e < 2 ^ 31) (h2 : ∀ m dp, q = some (m, dp) → t + m < 2 ^ 31) : bxv a t q = nI e ↔ ∃ m dp, q = some (m, dp) ∧ a + dp ≤ 12 ∧ t + m = e := by
  unfold bxv
  split
  · rename_i m dp
    by_cases hd : a + dp ≤ 12
    · rw [if_pos hd, nI_eq (h2 m dp rfl) h1]
      exact ⟨fun g => ⟨m, dp, rfl, hd, g⟩, fun ⟨m', dp', g, _, g2⟩ => by cases g; exact g2⟩
    · rw [if_neg hd]
      exact ⟨fun g => absurd g (m1_ne h1), fun ⟨m', dp', g, g1, _⟩ => by cases g; exact absurd g1 hd⟩
  · exact ⟨fun g => absurd g (m1_ne h1), fun ⟨m', dp', g, _⟩ => by cases g⟩
theorem s_readStatement (hO : OO P) (hT : TO P o N) (ho : o + 5 < 85) (hN : N < 2 ^ 20) (hl : ks.length ≤ N) (hk : k10 ks) {f e : Nat} (hf : f ≤ e) (he : e < ks.length) {I : mI} {ex : List (Nat × Nat × Nat)} (hx : ex.length + (e - f) ≤ 120) (hR : KR I o ks) (hE : OE I ex)
    (h : ∀ I', FrX I I' → OE I' (ex ++ rsx ks f e) → Q (nI (rst ks f e)) I' P) : V E (d + 26) m_Outline_readStatement 112 Q 0 [some (.inr 85), some (.inr o), some (.inl (nI f)), some (.inl (nI e))] [] 112 I P := by
  refine x_Outline_readStatement_0 _ _ _ _ ⟨hT.1, s_behindExpression (d := d) hT hN hR hl hk (by omega) ?_⟩
  have hb2 : ∀ m dp, le_ true (ks.drop f) = some (m, dp) → f + m < 2 ^ 31 := fun m dp hm => by
    have := le_b hm
    rw [List.length_drop] at this
    omega
  have bad : gds ks f e = false → Q (nI 0) I P := fun g => by
    have h0 := h I FrX.rf
    unfold rsx rst at h0
    rw [if_neg (by rw [g]; decide), if_neg (by rw [g]; decide), List.append_nil] at h0
    exact h0 hE
  refine ⟨fun c => bad ?_, fun c => ?_⟩
  · unfold gds
    split
    · rename_i m dp hm
      rw [show decide (dp ≤ 12 ∧ f + m = e) = false from decide_eq_false (fun q => c ((bxv_eq (by omega) hb2).mpr ⟨m, dp, hm, by omega, q.2⟩)), Bool.false_and]
    · rfl
  · obtain ⟨m, dp, hm, hdp, hfm⟩ := (bxv_eq (by omega) hb2).mp c
    have hgd : gds ks f e = !((ks.drop f).take (e - f)).any (fun k => k == 3) := by
      unfold gds
      rw [hm]
      dsimp only
      rw [decide_eq_true (show dp ≤ 12 ∧ f + m = e from ⟨by omega, hfm⟩), Bool.true_and]
    refine s_hasHole (d := d + 23) hT hN hl hk hR (by omega) hf (bz_i (fun c2 => ?_) (fun c2 => bad (by rw [hgd, c2]; rfl)))
    rw [c2] at hgd
    have hgd : gds ks f e = true := hgd
    refine ⟨k85, s_addExpressions (d := d + 24) hO hT ho hN hl hk hf (by omega) hx hR hE (fun I' hfx hE' => ⟨hT.1, ?_⟩)⟩
    have hR' : KR I' o ks := ⟨by rw [hfx.1 o (by omega)]; exact hR.1, fun t k ht => by rw [hfx.1 (o + 3) (by omega)]; exact hR.2 t k ht⟩
    have h0 := h I' hfx
    unfold rsx rst at h0
    rw [if_pos hgd, if_pos hgd] at h0
    have h0 := h0 hE'
    refine s_isCallName hT (by omega) hR' hl hk (by omega) (bz_i (fun g => ⟨hT.1, s_kAt hT (by omega) hR' hl (by omega) ?_⟩) (fun g => ?_))
    · rw [if_neg (by rw [g]; decide)] at h0
      simp only [kAt_eq hk (show 1 < 2 ^ 31 by decide)]
      refine ⟨fun c => ?_, fun c => ?_⟩
      · rw [if_neg c] at h0
        exact h0
      · rw [if_pos c] at h0
        exact h0
    · rw [if_pos g] at h0
      exact h0
theorem l_become (hO : OO P) (hT : TO P o N) (ho : o + 5 < 85) (hN : N < 2 ^ 20) (hl : ks.length ≤ N) (hl2 : ks.length ≤ 120) (hk : k10 ks) : ∀ (n f t : Nat) (sk : List Nat) (ex : List (Nat × Nat × Nat)) (I : mI), t + n = ks.length → f ≤ t → sk.length ≤ f → ex.length ≤ f → KR I o ks → OS I sk → OE I ex →
    (∀ I', FrO I I' → OS I' (sk ++ (oln ks n f t).1) → OE I' (ex ++ (oln ks n f t).2) → Q (nI 0) I' P) → V E (d + 27) m_Outline_become 112 Q 14 [some (.inr 85), some (.inr o), some (.inl (nI f)), some (.inl (nI t))] [] 112 I P := by
  intro n
  induction n with
  | zero =>
    intro f t sk ex I hn hf hs hx hR hS hE h
    have ht : t = ks.length := by omega
    refine x_Outline_become_14 _ _ _ _ ⟨hT.1, ?_⟩
    rw [hR.1]
    refine pk_le ks.length t (fun _ => ⟨hT.1, ?_⟩) (fun g => by omega)
    unfold oln at h
    refine pk_le ks.length f (fun g => ?_) (fun g => ⟨k85, s_addStatement hO hS (by omega) ?_⟩)
    · rw [if_neg (by omega)] at h
      simp only [List.append_nil] at h
      exact h I (fun _ _ => rfl) hS hE
    · rw [if_pos (by omega)] at h
      simp only [List.append_nil] at h
      exact h _ os1_fr (os1_os hS) (os1_oe hE)
  | succ n ih =>
    intro f t sk ex I hn hf hs hx hR hS hE h
    rw [oln_s] at h
    refine x_Outline_become_14 _ _ _ _ ⟨hT.1, ?_⟩
    rw [hR.1]
    refine pk_le ks.length t (fun g => by omega) (fun g => ⟨hT.1, s_kAt hT (by omega) hR hl (by omega) ?_⟩)
    simp only [kAt_eq hk (show 7 < 2 ^ 31 by decide)]
    refine ⟨fun c => ?_, fun c => ⟨k85, ?_⟩⟩
    · rw [if_neg c] at h
      rw [n1]
      exact ih f (t + 1) sk ex I (by omega) (by omega) hs hx hR hS hE h
    · rw [if_pos c] at h
      refine s_readStatement (d := d) hO hT ho hN hl hk hf g (by omega) hR hE (fun I1 hf1 hE1 => ⟨k85, s_addStatement hO (hf1.os hS) (by omega) ?_⟩)
      rw [n1]
      have hrl : (rsx ks f t).length ≤ t - f := by
        unfold rsx
        split
        · exact scn_len _ _ _ _
        · simp
      have hfr : FrO I (os1 I1 sk.length (nI (rst ks f t))) := fun m hm => by rw [os1_fr m hm, hf1.1 m hm]
      refine ih (t + 1) (t + 1) (sk ++ [rst ks f t]) (ex ++ rsx ks f t) _ (by omega) (Nat.le_refl _) (by simp; omega) (by simp; omega) ?_ (os1_os (hf1.os hS)) (os1_oe hE1) (fun I' hf' hs' he' => h I' (fun m hm => by rw [hf' m hm, hfr m hm]) ?_ ?_)
      · exact ⟨by rw [hfr o (by omega)]; exact hR.1, fun t k ht => by rw [hfr (o + 3) (by omega)]; exact hR.2 t k ht⟩
      · simpa using hs'
      · simpa using he'
theorem s_become_O (hO : OO P) (hT : TO P o N) (ho : o + 5 < 85) (hN : N < 2 ^ 20) (hl : ks.length ≤ N) (hl2 : ks.length ≤ 120) (hk : k10 ks) {I : mI} (hR : KR I o ks) (h : ∀ I', FrO I I' → OS I' (outl ks).1 → OE I' (outl ks).2 → Q (nI 0) I' P) : V E (d + 27) m_Outline_become 112 Q 0 [some (.inr 85), some (.inr o), none, none] [] 112 I P := by
  refine x_Outline_become_0 _ _ ⟨k85, k85, ?_⟩
  have hf : FrO I (uI (uI I 85 1 (nI 0)) 85 5 (nI 0)) := fun m hm => by rw [uI_n (by omega), uI_n (by omega)]
  refine l_become hO hT ho hN hl hl2 hk ks.length 0 0 [] [] _ (by omega) (by omega) (by simp) (by simp) ?_ ?_ ?_ (fun I' hf' hs he => h I' (fun m hm => by rw [hf' m hm, hf m hm]) hs he)
  · exact ⟨by rw [hf o (by omega)]; exact hR.1, fun t k ht => by rw [hf (o + 3) (by omega)]; exact hR.2 t k ht⟩
  · exact ⟨by rw [uI_o (by decide), uI_s]; rfl, fun k x hx => by simp at hx⟩
  · exact ⟨by rw [uI_s]; rfl, fun k f l a hx => by simp at hx⟩
end OB
