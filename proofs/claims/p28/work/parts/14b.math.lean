theorem sm_min : Cond.static ⟨"java/lang/Math", "min", "(II)I"⟩ ∈ tb := tb_at 1285 (by decide +kernel) (by decide +kernel)
theorem sm_max : Cond.static ⟨"java/lang/Math", "max", "(II)I"⟩ ∈ tb := tb_at 1267 (by decide +kernel) (by decide +kernel)
theorem mm_Cd_73 : Cond.methodLink "ParishBoards$Code" 73 ⟨"java/lang/Math", "min", "(II)I"⟩ ∈ tb := tb_at 1691 (by decide +kernel) (by decide +kernel)
theorem mm_Cd_79 : Cond.methodLink "ParishBoards$Code" 79 ⟨"java/lang/Math", "max", "(II)I"⟩ ∈ tb := tb_at 1692 (by decide +kernel) (by decide +kernel)
theorem mm_Wd_197 : Cond.methodLink "ParishBoards$World" 197 ⟨"java/lang/Math", "min", "(II)I"⟩ ∈ tb := tb_at 1607 (by decide +kernel) (by decide +kernel)
theorem mm_Wd_202 : Cond.methodLink "ParishBoards$World" 202 ⟨"java/lang/Math", "max", "(II)I"⟩ ∈ tb := tb_at 1608 (by decide +kernel) (by decide +kernel)
theorem mm_SI_80 : Cond.methodLink "ParishBoardsLaw$Sim" 80 ⟨"java/lang/Math", "min", "(II)I"⟩ ∈ tb := tb_at 1591 (by decide +kernel) (by decide +kernel)
theorem mm_SI_86 : Cond.methodLink "ParishBoardsLaw$Sim" 86 ⟨"java/lang/Math", "max", "(II)I"⟩ ∈ tb := tb_at 1592 (by decide +kernel) (by decide +kernel)
theorem mm_Ars_304 : Cond.methodLink "java/util/Arrays" 304 ⟨"java/lang/Math", "min", "(II)I"⟩ ∈ tb := tb_at 1284 (by decide +kernel) (by decide +kernel)
theorem mm_Asu_194 : Cond.methodLink "jdk/internal/util/ArraysSupport" 194 ⟨"java/lang/Math", "max", "(II)I"⟩ ∈ tb := tb_at 1266 (by decide +kernel) (by decide +kernel)
/-! Math.min and max -/
def imin (x y : Int32) : Int32 := if y < x then y else x
def imax (x y : Int32) : Int32 := if x < y then y else x
theorem Wx.mmin {K : KM} {d rc rs : Nat} {Q : Option Value → Mu → Prop} {pc index : Nat} {L : List (Nat × Value)} {st : List Value} {μ : Mu} {x y : Int32} (h1 : decode (kB K) pc = .ok (.invokestatic index, 3)) (hl : Cond.methodLink (kO K) index ⟨"java/lang/Math", "min", "(II)I"⟩ ∈ tb) (hcat : (st.map fun v => v.category).sum ≤ 8) (hD : 1 ≤ d) (kk : Wx K d rc rs Q (pc + 3) L (.int (imin x y) :: st) μ) : Wx K d rc rs Q pc L (.int y :: .int x :: st) μ := by
  intro p l e s m args below meth c R B0 mc ms Z adr0 μ0 hC hd1 hdl hmc hms hE H locs cells slots ls adr hR hX hlo hc hs1 hls hL1 hS
  have hW := hC.2.2.2.2.2.1
  have hcode : Cond.code Lib.Math.min.name Lib.Math.min.code 2 (some .int) ∈ tb := mok_JM_min_7cf53.1
  have hcat2 : ((cvs adr st).map fun v => v.category).sum + 13 ≤ R.locals := by rw [cvs_cat]; omega
  exact va_mmin hC.1 hC.2.1 (by rw [hC.2.2.1]; exact hls.1.symm) hC.2.2.2.2.1 (hW _ hl) (hW _ sm_min) (hW _ mok_JM_min_7cf53.2.1) (hW _ hcode) (by omega) hcat2 (by omega) (by omega) h1 (kk p l e s m args below meth c R B0 mc ms Z adr0 μ0 hC hd1 hdl hmc hms hE H locs cells slots ls adr hR hX hlo hc hs1 hls hL1 (lvv_cons lvv_int (lvv_tl (lvv_tl hS))))
theorem Wx.mmax {K : KM} {d rc rs : Nat} {Q : Option Value → Mu → Prop} {pc index : Nat} {L : List (Nat × Value)} {st : List Value} {μ : Mu} {x y : Int32} (h1 : decode (kB K) pc = .ok (.invokestatic index, 3)) (hl : Cond.methodLink (kO K) index ⟨"java/lang/Math", "max", "(II)I"⟩ ∈ tb) (hcat : (st.map fun v => v.category).sum ≤ 8) (hD : 1 ≤ d) (kk : Wx K d rc rs Q (pc + 3) L (.int (imax x y) :: st) μ) : Wx K d rc rs Q pc L (.int y :: .int x :: st) μ := by
  intro p l e s m args below meth c R B0 mc ms Z adr0 μ0 hC hd1 hdl hmc hms hE H locs cells slots ls adr hR hX hlo hc hs1 hls hL1 hS
  have hW := hC.2.2.2.2.2.1
  have hcode : Cond.code Lib.Math.max.name Lib.Math.max.code 2 (some .int) ∈ tb := mok_JM_max_7cf53.1
  have hcat2 : ((cvs adr st).map fun v => v.category).sum + 13 ≤ R.locals := by rw [cvs_cat]; omega
  exact va_mmax hC.1 hC.2.1 (by rw [hC.2.2.1]; exact hls.1.symm) hC.2.2.2.2.1 (hW _ hl) (hW _ sm_max) (hW _ mok_JM_max_7cf53.2.1) (hW _ hcode) (by omega) hcat2 (by omega) (by omega) h1 (kk p l e s m args below meth c R B0 mc ms Z adr0 μ0 hC hd1 hdl hmc hms hE H locs cells slots ls adr hR hX hlo hc hs1 hls hL1 (lvv_cons lvv_int (lvv_tl (lvv_tl hS))))
