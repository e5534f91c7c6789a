/-! The reference's constructor. -/
section CM
variable {E : XE} {d : Nat} {Q : Int32 → mI → mP → Prop}
theorem mo_init {I : mI} {P : mP} (hz : ZI I 96) (h : ∀ I' P', ZI I' 112 → (∀ m, m < 95 → P' m = P m) → MO P' → Q (nI 0) I' P') : V E (d + 1) m_Model_init 112 Q 0 [some (.inr 95)] [] 96 I P := by
  have c6 : (nI 6).toNatClampNeg = 6 := clp (by decide)
  have c10 : (nI 10).toNatClampNeg = 10 := clp (by decide)
  have c128 : (nI 128).toNatClampNeg = 128 := clp (by decide)
  have c192 : (nI 192).toNatClampNeg = 192 := clp (by decide)
  have c640 : (nI 640).toNatClampNeg = 640 := clp (by decide)
  have c7381 : (nI 7381).toNatClampNeg = 7381 := clp (by decide)
  refine x_Model_init_0 _ ⟨by rw [c640]; rfl, by decide, by decide, rfl, by decide, ?_⟩
  refine x_Model_init_13 _ ⟨by rw [c128]; rfl, by decide, by decide, rfl, by decide, ?_⟩
  refine x_Model_init_22 _ ⟨by rw [c6]; rfl, by decide, by decide, rfl, by decide, ?_⟩
  refine x_Model_init_30 _ ⟨by rw [c192]; rfl, by decide, by decide, rfl, by decide, ?_⟩
  refine x_Model_init_39 _ ⟨by rw [c192]; rfl, by decide, by decide, rfl, by decide, ?_⟩
  refine x_Model_init_48 _ ⟨by rw [c192]; rfl, by decide, by decide, rfl, by decide, ?_⟩
  refine x_Model_init_57 _ ⟨by rw [c192]; rfl, by decide, by decide, rfl, by decide, ?_⟩
  refine x_Model_init_66 _ ⟨by rw [c192]; rfl, by decide, by decide, rfl, by decide, ?_⟩
  refine x_Model_init_75 _ ⟨by rw [c128]; rfl, by decide, by decide, rfl, by decide, ?_⟩
  refine x_Model_init_84 _ ⟨by rw [c128]; rfl, by decide, by decide, rfl, by decide, ?_⟩
  refine x_Model_init_93 _ ⟨by rw [c10]; rfl, by decide, by decide, rfl, by decide, ?_⟩
  refine x_Model_init_101 _ ⟨by rw [c128]; rfl, by decide, by decide, rfl, by decide, ?_⟩
  refine x_Model_init_110 _ ⟨by rw [c128]; rfl, by decide, by decide, rfl, by decide, ?_⟩
  refine x_Model_init_119 _ ⟨by rw [c128]; rfl, by decide, by decide, rfl, by decide, ?_⟩
  refine x_Model_init_128 _ ⟨by rw [c128]; rfl, by decide, by decide, rfl, by decide, ?_⟩
  refine x_Model_init_137 _ ⟨by rw [c7381]; rfl, by decide, by decide, rfl, by decide, rk_i rfl (h _ _ ?_ (fun m hm => ?_) ?_)⟩
  · exact ((((((((((((((((hz.nw).nw).nw).nw).nw).nw).nw).nw).nw).nw).nw).nw).nw).nw).nw).nw)
  · rw [uP_n (by omega), sP_n (by omega), uP_n (by omega), sP_n (by omega), uP_n (by omega), sP_n (by omega), uP_n (by omega), sP_n (by omega), uP_n (by omega), sP_n (by omega), uP_n (by omega), sP_n (by omega), uP_n (by omega), sP_n (by omega), uP_n (by omega), sP_n (by omega), uP_n (by omega), sP_n (by omega), uP_n (by omega), sP_n (by omega), uP_n (by omega), sP_n (by omega), uP_n (by omega), sP_n (by omega), uP_n (by omega), sP_n (by omega), uP_n (by omega), sP_n (by omega), uP_n (by omega), sP_n (by omega), uP_n (by omega), sP_n (by omega)]
  · refine ⟨?_, ?_, ?_, ?_, ?_, ?_, ?_, ?_, ?_, ?_, ?_, ?_, ?_, ?_, ?_, ?_⟩
    · rw [uP_o (by decide), sP_n (by decide), uP_o (by decide), sP_n (by decide), uP_o (by decide), sP_n (by decide), uP_o (by decide), sP_n (by decide), uP_o (by decide), sP_n (by decide), uP_o (by decide), sP_n (by decide), uP_o (by decide), sP_n (by decide), uP_o (by decide), sP_n (by decide), uP_o (by decide), sP_n (by decide), uP_o (by decide), sP_n (by decide), uP_o (by decide), sP_n (by decide), uP_o (by decide), sP_n (by decide), uP_o (by decide), sP_n (by decide), uP_o (by decide), sP_n (by decide), uP_o (by decide), sP_n (by decide), uP_s]
    · rw [uP_o (by decide), sP_n (by decide), uP_o (by decide), sP_n (by decide), uP_o (by decide), sP_n (by decide), uP_o (by decide), sP_n (by decide), uP_o (by decide), sP_n (by decide), uP_o (by decide), sP_n (by decide), uP_o (by decide), sP_n (by decide), uP_o (by decide), sP_n (by decide), uP_o (by decide), sP_n (by decide), uP_o (by decide), sP_n (by decide), uP_o (by decide), sP_n (by decide), uP_o (by decide), sP_n (by decide), uP_o (by decide), sP_n (by decide), uP_o (by decide), sP_n (by decide), uP_s]
    · rw [uP_o (by decide), sP_n (by decide), uP_o (by decide), sP_n (by decide), uP_o (by decide), sP_n (by decide), uP_o (by decide), sP_n (by decide), uP_o (by decide), sP_n (by decide), uP_o (by decide), sP_n (by decide), uP_o (by decide), sP_n (by decide), uP_o (by decide), sP_n (by decide), uP_o (by decide), sP_n (by decide), uP_o (by decide), sP_n (by decide), uP_o (by decide), sP_n (by decide), uP_o (by decide), sP_n (by decide), uP_o (by decide), sP_n (by decide), uP_s]
    · rw [uP_o (by decide), sP_n (by decide), uP_o (by decide), sP_n (by decide), uP_o (by decide), sP_n (by decide), uP_o (by decide), sP_n (by decide), uP_o (by decide), sP_n (by decide), uP_o (by decide), sP_n (by decide), uP_o (by decide), sP_n (by decide), uP_o (by decide), sP_n (by decide), uP_o (by decide), sP_n (by decide), uP_o (by decide), sP_n (by decide), uP_o (by decide), sP_n (by decide), uP_o (by decide), sP_n (by decide), uP_s]
    · rw [uP_o (by decide), sP_n (by decide), uP_o (by decide), sP_n (by decide), uP_o (by decide), sP_n (by decide), uP_o (by decide), sP_n (by decide), uP_o (by decide), sP_n (by decide), uP_o (by decide), sP_n (by decide), uP_o (by decide), sP_n (by decide), uP_o (by decide), sP_n (by decide), uP_o (by decide), sP_n (by decide), uP_o (by decide), sP_n (by decide), uP_o (by decide), sP_n (by decide), uP_s]
    · rw [uP_o (by decide), sP_n (by decide), uP_o (by decide), sP_n (by decide), uP_o (by decide), sP_n (by decide), uP_o (by decide), sP_n (by decide), uP_o (by decide), sP_n (by decide), uP_o (by decide), sP_n (by decide), uP_o (by decide), sP_n (by decide), uP_o (by decide), sP_n (by decide), uP_o (by decide), sP_n (by decide), uP_o (by decide), sP_n (by decide), uP_s]
    · rw [uP_o (by decide), sP_n (by decide), uP_o (by decide), sP_n (by decide), uP_o (by decide), sP_n (by decide), uP_o (by decide), sP_n (by decide), uP_o (by decide), sP_n (by decide), uP_o (by decide), sP_n (by decide), uP_o (by decide), sP_n (by decide), uP_o (by decide), sP_n (by decide), uP_o (by decide), sP_n (by decide), uP_s]
    · rw [uP_o (by decide), sP_n (by decide), uP_o (by decide), sP_n (by decide), uP_o (by decide), sP_n (by decide), uP_o (by decide), sP_n (by decide), uP_o (by decide), sP_n (by decide), uP_o (by decide), sP_n (by decide), uP_o (by decide), sP_n (by decide), uP_o (by decide), sP_n (by decide), uP_s]
    · rw [uP_o (by decide), sP_n (by decide), uP_o (by decide), sP_n (by decide), uP_o (by decide), sP_n (by decide), uP_o (by decide), sP_n (by decide), uP_o (by decide), sP_n (by decide), uP_o (by decide), sP_n (by decide), uP_o (by decide), sP_n (by decide), uP_s]
    · rw [uP_o (by decide), sP_n (by decide), uP_o (by decide), sP_n (by decide), uP_o (by decide), sP_n (by decide), uP_o (by decide), sP_n (by decide), uP_o (by decide), sP_n (by decide), uP_o (by decide), sP_n (by decide), uP_s]
    · rw [uP_o (by decide), sP_n (by decide), uP_o (by decide), sP_n (by decide), uP_o (by decide), sP_n (by decide), uP_o (by decide), sP_n (by decide), uP_o (by decide), sP_n (by decide), uP_s]
    · rw [uP_o (by decide), sP_n (by decide), uP_o (by decide), sP_n (by decide), uP_o (by decide), sP_n (by decide), uP_o (by decide), sP_n (by decide), uP_s]
    · rw [uP_o (by decide), sP_n (by decide), uP_o (by decide), sP_n (by decide), uP_o (by decide), sP_n (by decide), uP_s]
    · rw [uP_o (by decide), sP_n (by decide), uP_o (by decide), sP_n (by decide), uP_s]
    · rw [uP_o (by decide), sP_n (by decide), uP_s]
    · rw [uP_s]
end CM
