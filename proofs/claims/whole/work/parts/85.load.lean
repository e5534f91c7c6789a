/-! RecipeRewriter.load. -/
section CL
variable {E : XE} {d : Nat} {Q : Int32 → mI → mP → Prop} {P : mP} {bf ld : List Int32} {rs : List RlT} {N : List MIt} {tl : List Int32} {mt : Int32} {R : Nat} {I : mI}
theorem c_load (hP : CP I P bf ld rs N tl mt R) (h : ∀ I', CP I' P [] bf rs (ini bf) (lxT bf).2 (-(nI 1)) 0 → I' 2 7 = nI 0 → I' 92 4 = bI false → (∀ m, 95 ≤ m → I' m = I m) → Q (nI (outl (kds bf)).1.length) I' P) : V E (d + 29) m_RR_load 112 Q 0 [some (.inr 2)] [] 112 I P := by
  have hP' := hP
  obtain ⟨hS, b1, b2, b3, b4, b5, b6, b7, b8, hL, hG, hPG⟩ := hP'
  obtain ⟨⟨p0, p2, p4, p6, p8⟩, -⟩ := hS
  have hS := hP.1
  have hP4 : P 60 4 = 85 := hS.2.2.2.2.1.2.2.1
  have hoc := hS.now.1
  refine x_RR_load_0 _ ?_
  simp only [k2_, p0, p2, p6, k3_, k4_, k60, nzl 3 (by decide), nzl 4 (by decide), nzl 60 (by decide), true_and]
  have z0 : (nI 0).toNatClampNeg = 0 := clp (by decide)
  have e21 : ∀ f, (sI I 4 f) 2 = I 2 := fun f => sI_n (by decide)
  rw [e21, b1, z0, clp (show bf.length < 2 ^ 31 by omega), uI_o (show 3 ≠ 7 by decide), uI_o (show 3 ≠ 1 by decide), uI_s]
  refine ⟨by decide, by decide, nn_lt (by omega), by omega, by omega, ?_⟩
  generalize hJ : uI (uI (uI (sI I 4 (va_cpy (I 3) (I 4) 0 0 bf.length)) 2 3 (nI bf.length)) 2 1 (nI 0)) 2 7 (nI 0) = J
  have jm : ∀ m, m ≠ 2 → m ≠ 4 → J m = I m := fun m h1 h2 => by rw [← hJ, uI_n h1, uI_n h1, uI_n h1, sI_n h2]
  have j4 : Rc (J 4) 0 bf := by
    rw [← hJ, uI_n (by decide), uI_n (by decide), uI_n (by decide), sI_s]
    exact b2.cp0 (Nat.le_refl _)
  have j23 : J 2 3 = nI bf.length := by rw [← hJ, uI_o (by decide), uI_o (by decide), uI_s]
  have j21 : J 2 1 = nI 0 := by rw [← hJ, uI_o (by decide), uI_s]
  have j27 : J 2 7 = nI 0 := by rw [← hJ, uI_s]
  have j25 : J 2 5 = I 2 5 := by rw [← hJ, uI_o (by decide), uI_o (by decide), uI_o (by decide), sI_n (by decide)]
  refine s_become_P (d := d) hS k4_ (by decide) (by decide) b3 b3 j4 (fun I1 f1 x1 hOS hOE h6 => ?_)
  simp only [k2_, p8, k92, nzl 92 (by decide), true_and]
  refine x_Patch_forget_0 _ ⟨k92, rfl, rfl, ?_⟩
  simp only [k2_, p6, k60, hP4, k85, nzl 60 (by decide), nzl 85 (by decide), true_and]
  have u92 : ∀ m, m ≠ 92 → (uI I1 92 4 (nI 0)) m = I1 m := fun m hm => uI_n hm
  rw [u92 85 (by decide), hOS.1]
  have fm : ∀ m, m < 60 → (uI I1 92 4 (nI 0)) m = J m := fun m hm => by rw [u92 m (by omega), f1.1 m (by omega) (by omega) (by omega)]
  have hlx := lxT_ok bf
  have hWN : WN (ini bf) := fun z hz => by
    have := LX_w _ _ hlx.1 (un z) (by rw [← ini_un]; exact List.mem_map.mpr ⟨z, hz, rfl⟩)
    exact this
  refine h _ ⟨hS, ?_, ?_, by simp, ?_, ?_, b3, ?_, b8, ?_, hG, ⟨?_, ?_, ?_, ?_, hWN, by rw [ini_kdi]; exact kds_k10 bf, by rw [ini_un, hlx.2]; omega⟩⟩ ?_ uI_s (fun m hm => ?_)
  · rw [fm 2 (by decide)]; exact j21
  · exact fun j y hy => by simp at hy
  · rw [fm 2 (by decide)]; exact j23
  · rw [fm 4 (by decide)]; exact j4
  · rw [fm 2 (by decide), j25]; exact b7
  · intro r Z t ar hr
    obtain ⟨mk, hz⟩ := hL r Z t ar hr
    have hrl := (List.getElem?_eq_some_iff.mp hr).1
    exact ⟨mk, hz.fr (fun m x1 x2 => by rw [fm m (by omega), jm m (by omega) (by omega)])⟩
  · have x2 : TXT (uI I1 92 4 (nI 0)) (P 60 0) bf (mk0 bf) (tks bf) := x1.fr (fun m x1 x2 => u92 m (by omega))
    rw [mk0_ini] at x2
    unfold TZ
    rw [ini_un, hlx.2]
    exact x2
  · rw [ini_kdi]
    exact hOS.fr (fun m x1 x2 => u92 m (by omega))
  · rw [ini_kdi]
    exact hOE.fr (fun m x1 x2 => u92 m (by omega))
  · rw [u92 60 (by decide)]; exact h6
  · rw [fm 2 (by decide)]; exact j27
  · rw [u92 m (by omega), f1.1 m (by omega) (by omega) (by omega), jm m (by omega) (by omega)]
theorem ini_ums (s : List Int32) : ums [] (ini s) := ums_ini s (ini s).length [] (ini s) (Nat.le_refl _) rfl clz.nil
/-- the reference's marks of a loaded program -/
theorem ini_gz (s : List Int32) : fl (((ini s).map gz).map um) (List.replicate (lxT s).2.length (nI 0)) = List.replicate s.length (nI 0) := by
  have hlx := lxT_ok s
  have hlen : (fl (((ini s).map gz).map um) (List.replicate (lxT s).2.length (nI 0))).length = s.length := by
    rw [fl_ul, gz_un, ini_un, hlx.2]
  rw [List.eq_replicate_iff]
  refine ⟨hlen, fun x hx => ?_⟩
  have key : ∀ (L : List MIt) (t : List Int32), (∀ z ∈ L, z.2.1 = nI 0 ∧ wm z = nI 0) → (∀ y ∈ t, y = nI 0) → ∀ y ∈ fl (L.map um) t, y = nI 0 := by
    intro L
    induction L with
    | nil => intro t _ ht y hy; exact ht y hy
    | cons z L ih =>
      intro t hL ht y hy
      obtain ⟨sp, m, k, w, m'⟩ := z
      obtain ⟨g1, g2⟩ := hL _ List.mem_cons_self
      have g1 : m = nI 0 := g1
      have g2 : m' = nI 0 := g2
      have hy : y ∈ List.replicate sp.length m ++ (List.replicate w.length m' ++ fl (L.map um) t) := hy
      rcases List.mem_append.mp hy with q | q
      · rw [List.eq_of_mem_replicate q, g1]
      · rcases List.mem_append.mp q with q | q
        · rw [List.eq_of_mem_replicate q, g2]
        · exact ih t (fun z hz => hL z (List.mem_cons_of_mem _ hz)) ht y q
  refine key ((ini s).map gz) _ (fun z hz => ?_) (fun y hy => List.eq_of_mem_replicate hy) x hx
  obtain ⟨v, hv, rfl⟩ := List.mem_map.mp hz
  unfold ini at hv
  obtain ⟨i, hi, rfl⟩ := List.mem_mapIdx.mp hv
  have hg : ∀ b, gm (m01 b) = nI 0 := fun b => by cases b <;> decide
  exact ⟨hg _, hg _⟩
end CL
