/-! Reading of characters into tokens, purely. -/
def isSp (c : Int32) : Bool := c == nI 32 || c == nI 10
/-- the kind of the token that begins with c, before r -/
def tkK (c : Int32) (r : List Int32) : Nat :=
  if isL c = true then 1 else if isD c = true then 2 else if c = nI 36 then (match r with
    | x :: _ => if isD x = true then 3 else 9
    | [] => 9) else if c = nI 40 then 4 else if c = nI 41 then 5 else if c = nI 44 then 6 else if c = nI 59 then 7 else if c = nI 62 then 8 else 9
/-- how many of the first of a list -/
def tw (p : Int32 → Bool) : List Int32 → Nat
  | [] => 0
  | c :: r => if p c = true then tw p r + 1 else 0
theorem tw_le (p : Int32 → Bool) : ∀ r, tw p r ≤ r.length
  | [] => Nat.le_refl _
  | c :: r => by
    unfold tw
    split
    · exact Nat.succ_le_succ (tw_le p r)
    · exact Nat.zero_le _
def tkN (k : Nat) (r : List Int32) : Nat := if k = 3 then 1 else if k = 1 ∨ k = 2 then tw (gO k) r else 0
def cmL (r : List Int32) : Nat := tw (fun x => !(x == nI 10)) r
abbrev ItC : Type := List Int32 × Nat × List Int32
def lx : Nat → List Int32 → List Int32 → List ItC × List Int32
  | 0, _, sp => ([], sp)
  | _ + 1, [], sp => ([], sp)
  | n + 1, c :: r, sp => if isSp c = true then lx n r (sp ++ [c]) else if c = nI 35 then lx n (r.drop (cmL r)) (sp ++ c :: r.take (cmL r)) else
    ((sp, tkK c r, c :: r.take (tkN (tkK c r) r)) :: (lx n (r.drop (tkN (tkK c r) r)) []).1, (lx n (r.drop (tkN (tkK c r) r)) []).2)
theorem lx_cons (n : Nat) (c : Int32) (r sp : List Int32) : lx (n + 1) (c :: r) sp = if isSp c = true then lx n r (sp ++ [c]) else if c = nI 35 then lx n (r.drop (cmL r)) (sp ++ c :: r.take (cmL r)) else
    ((sp, tkK c r, c :: r.take (tkN (tkK c r) r)) :: (lx n (r.drop (tkN (tkK c r) r)) []).1, (lx n (r.drop (tkN (tkK c r) r)) []).2) := rfl
theorem lx_nil (n : Nat) (sp : List Int32) : lx n [] sp = ([], sp) := by cases n <;> rfl
theorem lx_fuel : ∀ (n m : Nat) (s sp : List Int32), s.length ≤ n → s.length ≤ m → lx n s sp = lx m s sp
  | n, m, [], sp, _, _ => by rw [lx_nil, lx_nil]
  | 0, _, c :: r, _, h, _ => by simp at h
  | _, 0, c :: r, _, _, h => by simp at h
  | n + 1, m + 1, c :: r, sp, hn, hm => by
    have h1 : r.length ≤ n := by simpa using hn
    have h2 : r.length ≤ m := by simpa using hm
    have hd : ∀ k, (r.drop k).length ≤ n ∧ (r.drop k).length ≤ m := fun k => by rw [List.length_drop]; omega
    unfold lx
    split
    · exact lx_fuel n m r _ h1 h2
    · split
      · exact lx_fuel n m _ _ (hd _).1 (hd _).2
      · rw [lx_fuel n m (r.drop (tkN (tkK c r) r)) [] (hd _).1 (hd _).2]
/-- the text again -/
def fl : List ItC → List Int32 → List Int32
  | [], t => t
  | (sp, _, w) :: Z, t => sp ++ (w ++ fl Z t)
theorem fl_app (A B : List ItC) (t : List Int32) : fl (A ++ B) t = fl A (fl B t) := by
  induction A with
  | nil => rfl
  | cons a A ih =>
    obtain ⟨sp, k, w⟩ := a
    show sp ++ (w ++ fl (A ++ B) t) = sp ++ (w ++ fl A (fl B t))
    rw [ih]
/-- space in which every comment has ended -/
def clo : Bool → List Int32 → Bool
  | b, [] => !b
  | false, c :: r => if isSp c = true then clo false r else if c = nI 35 then clo true r else false
  | true, c :: r => if c = nI 10 then clo false r else clo true r
/-- the space at the end of a text -/
def tlo : Bool → List Int32 → Bool
  | _, [] => true
  | false, c :: r => if isSp c = true then tlo false r else if c = nI 35 then tlo true r else false
  | true, c :: r => if c = nI 10 then tlo false r else tlo true r
/-- the token's own characters, and what follows -/
def okw (k : Nat) (w r : List Int32) : Prop := ∃ c cs, w = c :: cs ∧ isSp c = false ∧ c ≠ nI 35 ∧ tkK c (cs ++ r) = k ∧ tkN k (cs ++ r) = cs.length
def LX : List ItC → List Int32 → Prop
  | [], t => tlo false t = true
  | (sp, k, w) :: Z, t => clo false sp = true ∧ okw k w (fl Z t) ∧ LX Z t
theorem tw_stop (p : Int32 → Bool) : ∀ (a r : List Int32), (∀ c ∈ a, p c = true) → (∀ c r', r = c :: r' → p c = false) → tw p (a ++ r) = a.length
  | [], r, _, h => by
    cases r with
    | nil => rfl
    | cons c r' =>
      show (if p c = true then _ else _) = _
      rw [h c r' rfl]
      rfl
  | c :: a, r, h1, h2 => by
    show (if p c = true then tw p (a ++ r) + 1 else 0) = _
    rw [if_pos (h1 c List.mem_cons_self), tw_stop p a r (fun x hx => h1 x (List.mem_cons_of_mem _ hx)) h2]
    rfl
/-- closed space is passed over -/
theorem lx_clo : ∀ (sp r acc : List Int32) (n : Nat), clo false sp = true → (sp ++ r).length ≤ n → ∃ m, r.length ≤ m ∧ lx n (sp ++ r) acc = lx m r (acc ++ sp) := by
  intro sp
  -- by strong induction on the length
  have key : ∀ (k : Nat) (sp r acc : List Int32) (n : Nat), sp.length ≤ k → clo false sp = true → (sp ++ r).length ≤ n → ∃ m, r.length ≤ m ∧ lx n (sp ++ r) acc = lx m r (acc ++ sp) := by
    intro k
    induction k with
    | zero =>
      intro sp r acc n hk _ hn
      have : sp = [] := List.length_eq_zero_iff.mp (by omega)
      subst this
      exact ⟨n, hn, by simp⟩
    | succ k ih =>
      intro sp r acc n hk hc hn
      cases sp with
      | nil => exact ⟨n, hn, by simp⟩
      | cons c sp =>
        cases n with
        | zero => simp at hn
        | succ n =>
          have hn' : (sp ++ r).length ≤ n := by simpa using hn
          have hk' : sp.length ≤ k := by simpa using hk
          unfold clo at hc
          by_cases h1 : isSp c = true
          · rw [if_pos h1] at hc
            obtain ⟨m, hm, he⟩ := ih sp r (acc ++ [c]) n hk' hc hn'
            refine ⟨m, hm, ?_⟩
            show lx (n + 1) (c :: (sp ++ r)) acc = _
            rw [lx_cons, if_pos h1, he]
            simp
          · rw [if_neg h1] at hc
            by_cases h2 : c = nI 35
            · rw [if_pos h2] at hc
              -- the comment: up to its line end, which lies in sp
              have hcom : ∀ (a : List Int32), clo true a = true → ∃ x y, a = x ++ y ∧ (∀ c ∈ x, (!(c == nI 10)) = true) ∧ (∃ y', y = nI 10 :: y') ∧ clo false y = true := by
                intro a
                induction a with
                | nil => intro h; simp [clo] at h
                | cons z a iha =>
                  intro h
                  unfold clo at h
                  by_cases hz : z = nI 10
                  · rw [if_pos hz] at h
                    refine ⟨[], z :: a, rfl, by simp, ⟨a, by rw [hz]⟩, ?_⟩
                    unfold clo
                    rw [if_pos (by unfold isSp; rw [hz]; decide)]
                    exact h
                  · rw [if_neg hz] at h
                    obtain ⟨x, y, e1, e2, e3, e4⟩ := iha h
                    refine ⟨z :: x, y, by rw [e1]; rfl, fun w hw => ?_, e3, e4⟩
                    rcases List.mem_cons.mp hw with rfl | hw
                    · simpa using hz
                    · exact e2 w hw
              obtain ⟨x, y, e1, e2, ⟨y', e3⟩, e4⟩ := hcom sp hc
              have hcl : cmL (sp ++ r) = x.length := by
                unfold cmL
                rw [e1, List.append_assoc]
                exact tw_stop _ x (y ++ r) e2 (fun c r' hr => by
                  rw [e3] at hr
                  cases hr
                  rfl)
              have hy : y.length ≤ k := by have : sp.length = x.length + y.length := by rw [e1, List.length_append]
                                           omega
              have hyn : (y ++ r).length ≤ n := by rw [List.length_append] at hn' ⊢; have : sp.length = x.length + y.length := by rw [e1, List.length_append]
                                                   omega
              obtain ⟨m, hm, he⟩ := ih y r (acc ++ c :: x) n hy e4 hyn
              refine ⟨m, hm, ?_⟩
              show lx (n + 1) (c :: (sp ++ r)) acc = _
              rw [lx_cons, if_neg h1, if_pos h2, hcl, e1, List.append_assoc, List.drop_left, List.take_left, he]
              simp
            · rw [if_neg h2] at hc
              cases hc
  exact fun r acc n => key sp.length sp r acc n (Nat.le_refl _)
theorem lx_tlo : ∀ (k : Nat) (t acc : List Int32) (n : Nat), t.length ≤ k → tlo false t = true → t.length ≤ n → lx n t acc = ([], acc ++ t) := by
  intro k
  induction k with
  | zero =>
    intro t acc n hk _ _
    have : t = [] := List.length_eq_zero_iff.mp (by omega)
    subst this
    rw [lx_nil]
    simp
  | succ k ih =>
    intro t acc n hk hc hn
    cases t with
    | nil => rw [lx_nil]; simp
    | cons c t =>
      cases n with
      | zero => simp at hn
      | succ n =>
        have hn' : t.length ≤ n := by simpa using hn
        have hk' : t.length ≤ k := by simpa using hk
        unfold tlo at hc
        rw [lx_cons]
        by_cases h1 : isSp c = true
        · rw [if_pos h1] at hc ⊢
          rw [ih t _ n hk' hc hn']
          simp
        · rw [if_neg h1] at hc ⊢
          by_cases h2 : c = nI 35
          · rw [if_pos h2] at hc ⊢
            have hcom : ∀ (a : List Int32), tlo true a = true → tlo false (a.drop (cmL a)) = true := by
              intro a
              induction a with
              | nil => intro _; rfl
              | cons z a iha =>
                intro h
                unfold tlo at h
                by_cases hz : z = nI 10
                · rw [if_pos hz] at h
                  have : cmL (z :: a) = 0 := by unfold cmL tw; rw [hz]; rfl
                  rw [this, List.drop_zero]
                  unfold tlo
                  rw [if_pos (by unfold isSp; rw [hz]; decide)]
                  exact h
                · rw [if_neg hz] at h
                  have : cmL (z :: a) = cmL a + 1 := by
                    unfold cmL
                    show (if (!(z == nI 10)) = true then _ else _) = _
                    rw [if_pos (by simpa using hz)]
                  rw [this, List.drop_succ_cons]
                  exact iha h
            rw [ih _ _ n (by rw [List.length_drop]; omega) (hcom t hc) (by rw [List.length_drop]; omega)]
            simp
          · rw [if_neg h2] at hc
            cases hc
/-- a valid list of tokens is what is read -/
theorem lx_LX : ∀ (Z : List ItC) (t : List Int32) (n : Nat), LX Z t → (fl Z t).length ≤ n → lx n (fl Z t) [] = (Z, t)
  | [], t, n, h, hn => by
    have := lx_tlo t.length t [] n (Nat.le_refl _) h hn
    show lx n t [] = ([], t)
    simpa using this
  | (sp, k, w) :: Z, t, n, h, hn => by
    obtain ⟨h1, ⟨c, cs, hw, hc1, hc2, hk, hm⟩, h3⟩ := h
    have hn : (sp ++ (w ++ fl Z t)).length ≤ n := hn
    obtain ⟨m, hm1, he⟩ := lx_clo sp (w ++ fl Z t) [] n h1 hn
    show lx n (sp ++ (w ++ fl Z t)) [] = _
    rw [he]
    subst hw
    cases m with
    | zero => simp at hm1
    | succ m =>
      have hm2 : (cs ++ fl Z t).length ≤ m := by simpa using hm1
      show lx (m + 1) (c :: (cs ++ fl Z t)) _ = _
      rw [lx_cons, if_neg (by rw [hc1]; decide), if_neg hc2, hk, hm, List.drop_left, List.take_left, lx_LX Z t m h3 (by rw [List.length_append] at hm2; omega)]
      simp
