/-! the law's list: all roads, and what went out on them -/
section LI3
variable {d rc rs : Nat} {Q : Option Value → Mu → Prop} {μ m μ' : Mu} {c' fo tt ff hh : Nat} {x7 : Int32} {P N R r j c cv Ls R1 R2 : Nat} {X W : Nat → Nat → Nat} {F G H : Nat → Nat} {Y : List Nat}
def upN (F : Nat → Nat) (r v : Nat) : Nat → Nat := fun i => if i = r then v else F i
theorem upN_o {F : Nat → Nat} {r v i : Nat} (h : i ≠ r) : upN F r v i = F i := if_neg h
theorem upN_r {F : Nat → Nat} {r v : Nat} : upN F r v r = v := if_pos rfl
theorem fl_cg {f g : Nat → List TkE} : ∀ n, (∀ i, i < n → f i = g i) → fl f n = fl g n
  | 0, _ => rfl
  | n + 1, h => by rw [fl, fl, fl_cg n (fun i hi => h i (by omega)), h n (by omega)]
set_option maxRecDepth 100000 in
set_option maxHeartbeats 1000000 in
theorem li_row (hD : 8 ≤ d) (hr : r < 8) (hF : ff < 5) (hG : tt < 5) (hL : LQ μ P N r 0 0 (rX F G H) W c) (hM : Mb μ cv c Y) (hw : WF μ) (hs : SCl μ Ls) (hY : Y.length ≤ 1000)
    (kk : ∀ μ c cv rc rs h, 1 ≤ h → h ≤ 9 → LsT μ P N (r + 1) 0 (rX (upN F r ff) (upN G r tt) (upN H r h)) W cv c (Y ++ rdB (upN F r ff) (upN G r tt) (upN H r h) r) Ls → WF μ → R1 ≤ rc → R2 ≤ rs → Wx K_LW_list d rc rs Q 124 [(0, .ref (hd 6 0)), (1, .ref (hd 105 0)), (2, .ref (hd 100 0)), (3, .int (nI P)), (4, .int (nI N)), (5, .int (nI R)), (6, .int (nI r + 1))] [] μ) (b1 : 11 + R1 ≤ rc) (b2 : 36031 + R2 ≤ rs) :
    ((¬ (4 : Int32) < 0 ∧ 4 ≤ 1000000 ∧ 1 ≤ rc ∧ 4 ≤ rs) ∧ (∃ q171, FreN μ q171 ∧ (∃ n173, (mS (mkA μ q171 (2, 4)) q171 = (2, n173) ∧ vp_in (0 : Int32) n173 ∧ hiN q171) ∧ (∃ n175, (mS (setI (mkA μ q171 (2, 4)) q171 (0 : Int32).toNatClampNeg (nI ff)) q171 = (2, n175) ∧ vp_in (1 : Int32) n175 ∧ hiN q171) ∧ CalS K_LW_below (d - 1) 0 0 [.int (x7 >>> ((6 : Int32) &&& 31)), .int 3] (setI (setI (mkA μ q171 (2, 4)) q171 (0 : Int32).toNatClampNeg (nI ff)) q171 (1 : Int32).toNatClampNeg (nI tt)) (fun ρ μ177 => ∃ y178, ρ = some (.int y178) ∧ ((y178 = 0 → CalS K_LW_below (d - 1) 0 0 [.int (x7 >>> ((4 : Int32) &&& 31)), .int 9] μ177 (fun ρ μ254 => ∃ y255, ρ = some (.int y255) ∧ (∃ n256, (mS μ254 q171 = (2, n256) ∧ vp_in (2 : Int32) n256 ∧ hiN q171) ∧ (∃ n258, (mS (setI μ254 q171 (2 : Int32).toNatClampNeg ((1 : Int32) + y255)) q171 = (2, n258) ∧ vp_in (3 : Int32) n258 ∧ hiN q171) ∧ (∃ cc260 ss261 : Nat, (cc260 ≤ rc - 1 - 0 - 0 ∧ ss261 ≤ rs - 4 - 0 - 0) ∧ CalS K_SI_with (d - 1) cc260 ss261 [.ref (hd 121 r), .ref q171] (setI (setI μ254 q171 (2 : Int32).toNatClampNeg ((1 : Int32) + y255)) q171 (3 : Int32).toNatClampNeg 0) (fun ρ μ263 => ∃ b264, ρ = some (.ref b264) ∧ ((mS μ263 (hd 100 0) = (1, 11) ∧ hiN (hd 100 0)) ∧ (∃ cc266 ss267 : Nat, (cc266 ≤ rc - 1 - 0 - 0 - cc260 ∧ ss267 ≤ rs - 4 - 0 - 0 - ss261) ∧ (mS (setR μ263 (hd 100 0) 11 b264) (hd 105 0) = (1, 12) ∧ CalS K_SB_append_15ec4 (d - 1) cc266 ss267 [.ref (hd 105 0), .ref (hd 1 65)] (setR μ263 (hd 100 0) 11 b264) (fun ρ μ269 => ∃ b271, ρ = some (.ref b271) ∧ (∃ cc272 ss273 : Nat, (cc272 ≤ rc - 1 - 0 - 0 - cc260 - cc266 ∧ ss273 ≤ rs - 4 - 0 - 0 - ss261 - ss267) ∧ (mS μ269 b271 = (1, 12) ∧ CalS K_SB_append_bf812 (d - 1) cc272 ss273 [.ref b271, .int (nI r)] μ269 (fun ρ μ275 => ∃ b277, ρ = some (.ref b277) ∧ (∃ cc278 ss279 : Nat, (cc278 ≤ rc - 1 - 0 - 0 - cc260 - cc266 - cc272 ∧ ss279 ≤ rs - 4 - 0 - 0 - ss261 - ss267 - ss273) ∧ (mS μ275 b277 = (1, 12) ∧ CalS K_SB_append_15ec4 (d - 1) cc278 ss279 [.ref b277, .ref (hd 1 66)] μ275 (fun ρ μ281 => ∃ b283, ρ = some (.ref b283) ∧ (∃ cc284 ss285 : Nat, (cc284 ≤ rc - 1 - 0 - 0 - cc260 - cc266 - cc272 - cc278 ∧ ss285 ≤ rs - 4 - 0 - 0 - ss261 - ss267 - ss273 - ss279) ∧ (mS μ281 b283 = (1, 12) ∧ CalS K_SB_append_bf812 (d - 1) cc284 ss285 [.ref b283, .int (nI ff)] μ281 (fun ρ μ287 => ∃ b289, ρ = some (.ref b289) ∧ (∃ cc290 ss291 : Nat, (cc290 ≤ rc - 1 - 0 - 0 - cc260 - cc266 - cc272 - cc278 - cc284 ∧ ss291 ≤ rs - 4 - 0 - 0 - ss261 - ss267 - ss273 - ss279 - ss285) ∧ (mS μ287 b289 = (1, 12) ∧ CalS K_SB_append_15ec4 (d - 1) cc290 ss291 [.ref b289, .ref (hd 1 67)] μ287 (fun ρ μ293 => ∃ b295, ρ = some (.ref b295) ∧ (∃ cc296 ss297 : Nat, (cc296 ≤ rc - 1 - 0 - 0 - cc260 - cc266 - cc272 - cc278 - cc284 - cc290 ∧ ss297 ≤ rs - 4 - 0 - 0 - ss261 - ss267 - ss273 - ss279 - ss285 - ss291) ∧ (mS μ293 b295 = (1, 12) ∧ CalS K_SB_append_bf812 (d - 1) cc296 ss297 [.ref b295, .int (nI tt)] μ293 (fun ρ μ299 => ∃ b301, ρ = some (.ref b301) ∧ (∃ cc302 ss303 : Nat, (cc302 ≤ rc - 1 - 0 - 0 - cc260 - cc266 - cc272 - cc278 - cc284 - cc290 - cc296 ∧ ss303 ≤ rs - 4 - 0 - 0 - ss261 - ss267 - ss273 - ss279 - ss285 - ss291 - ss297) ∧ (mS μ299 b301 = (1, 12) ∧ CalS K_SB_append_15ec4 (d - 1) cc302 ss303 [.ref b301, .ref (hd 1 68)] μ299 (fun ρ μ305 => ∃ b307, ρ = some (.ref b307) ∧ (mS μ305 (hd 100 0) = (1, 11) ∧ (∃ b309, gR μ305 (hd 100 0) 11 = some b309 ∧ (∃ n311, (mS μ305 b309 = (40, n311) ∧ vp_in (nI r) n311) ∧ (∃ b313, gR μ305 b309 (nI r).toNatClampNeg = some b313 ∧ (∃ n315, (mS μ305 b313 = (2, n315) ∧ vp_in (2 : Int32) n315) ∧ (∃ cc317 ss318 : Nat, (cc317 ≤ rc - 1 - 0 - 0 - cc260 - cc266 - cc272 - cc278 - cc284 - cc290 - cc296 - cc302 ∧ ss318 ≤ rs - 4 - 0 - 0 - ss261 - ss267 - ss273 - ss279 - ss285 - ss291 - ss297 - ss303) ∧ (mS μ305 b307 = (1, 12) ∧ CalS K_SB_append_bf812 (d - 1) cc317 ss318 [.ref b307, .int (gI μ305 b313 (2 : Int32).toNatClampNeg)] μ305 (fun ρ μ320 => ∃ b322, ρ = some (.ref b322) ∧ (∃ cc323 ss324 : Nat, (cc323 ≤ rc - 1 - 0 - 0 - cc260 - cc266 - cc272 - cc278 - cc284 - cc290 - cc296 - cc302 - cc317 ∧ ss324 ≤ rs - 4 - 0 - 0 - ss261 - ss267 - ss273 - ss279 - ss285 - ss291 - ss297 - ss303 - ss318) ∧ (mS μ320 b322 = (1, 12) ∧ CalS K_SB_append_15ec4 (d - 1) cc323 ss324 [.ref b322, .ref (hd 1 69)] μ320 (fun ρ μ326 => ∃ b328, ρ = some (.ref b328) ∧ Wx K_LW_list d (rc - 1 - 0 - 0 - cc260 - cc266 - cc272 - cc278 - cc284 - cc290 - cc296 - cc302 - cc317 - cc323) (rs - 4 - 0 - 0 - ss261 - ss267 - ss273 - ss279 - ss285 - ss291 - ss297 - ss303 - ss318 - ss324) Q 124 [(0, .ref (hd 6 0)), (1, .ref (hd 105 0)), (2, .ref (hd 100 0)), (3, .int (nI P)), (4, .int (nI N)), (5, .int (nI R)), (6, .int ((nI r) + 1))] [] μ326))))))))))))))))))))))))))))))))))))))) ∧ (¬ y178 = 0 → CalS K_LW_below (d - 1) 0 0 [.int (x7 >>> ((4 : Int32) &&& 31)), .int 3] μ177 (fun ρ μ179 => ∃ y180, ρ = some (.int y180) ∧ (∃ n181, (mS μ179 q171 = (2, n181) ∧ vp_in (2 : Int32) n181 ∧ hiN q171) ∧ (∃ n183, (mS (setI μ179 q171 (2 : Int32).toNatClampNeg ((1 : Int32) + y180)) q171 = (2, n183) ∧ vp_in (3 : Int32) n183 ∧ hiN q171) ∧ (∃ cc185 ss186 : Nat, (cc185 ≤ rc - 1 - 0 - 0 ∧ ss186 ≤ rs - 4 - 0 - 0) ∧ CalS K_SI_with (d - 1) cc185 ss186 [.ref (hd 121 r), .ref q171] (setI (setI μ179 q171 (2 : Int32).toNatClampNeg ((1 : Int32) + y180)) q171 (3 : Int32).toNatClampNeg 0) (fun ρ μ188 => ∃ b189, ρ = some (.ref b189) ∧ ((mS μ188 (hd 100 0) = (1, 11) ∧ hiN (hd 100 0)) ∧ (∃ cc191 ss192 : Nat, (cc191 ≤ rc - 1 - 0 - 0 - cc185 ∧ ss192 ≤ rs - 4 - 0 - 0 - ss186) ∧ (mS (setR μ188 (hd 100 0) 11 b189) (hd 105 0) = (1, 12) ∧ CalS K_SB_append_15ec4 (d - 1) cc191 ss192 [.ref (hd 105 0), .ref (hd 1 65)] (setR μ188 (hd 100 0) 11 b189) (fun ρ μ194 => ∃ b196, ρ = some (.ref b196) ∧ (∃ cc197 ss198 : Nat, (cc197 ≤ rc - 1 - 0 - 0 - cc185 - cc191 ∧ ss198 ≤ rs - 4 - 0 - 0 - ss186 - ss192) ∧ (mS μ194 b196 = (1, 12) ∧ CalS K_SB_append_bf812 (d - 1) cc197 ss198 [.ref b196, .int (nI r)] μ194 (fun ρ μ200 => ∃ b202, ρ = some (.ref b202) ∧ (∃ cc203 ss204 : Nat, (cc203 ≤ rc - 1 - 0 - 0 - cc185 - cc191 - cc197 ∧ ss204 ≤ rs - 4 - 0 - 0 - ss186 - ss192 - ss198) ∧ (mS μ200 b202 = (1, 12) ∧ CalS K_SB_append_15ec4 (d - 1) cc203 ss204 [.ref b202, .ref (hd 1 66)] μ200 (fun ρ μ206 => ∃ b208, ρ = some (.ref b208) ∧ (∃ cc209 ss210 : Nat, (cc209 ≤ rc - 1 - 0 - 0 - cc185 - cc191 - cc197 - cc203 ∧ ss210 ≤ rs - 4 - 0 - 0 - ss186 - ss192 - ss198 - ss204) ∧ (mS μ206 b208 = (1, 12) ∧ CalS K_SB_append_bf812 (d - 1) cc209 ss210 [.ref b208, .int (nI ff)] μ206 (fun ρ μ212 => ∃ b214, ρ = some (.ref b214) ∧ (∃ cc215 ss216 : Nat, (cc215 ≤ rc - 1 - 0 - 0 - cc185 - cc191 - cc197 - cc203 - cc209 ∧ ss216 ≤ rs - 4 - 0 - 0 - ss186 - ss192 - ss198 - ss204 - ss210) ∧ (mS μ212 b214 = (1, 12) ∧ CalS K_SB_append_15ec4 (d - 1) cc215 ss216 [.ref b214, .ref (hd 1 67)] μ212 (fun ρ μ218 => ∃ b220, ρ = some (.ref b220) ∧ (∃ cc221 ss222 : Nat, (cc221 ≤ rc - 1 - 0 - 0 - cc185 - cc191 - cc197 - cc203 - cc209 - cc215 ∧ ss222 ≤ rs - 4 - 0 - 0 - ss186 - ss192 - ss198 - ss204 - ss210 - ss216) ∧ (mS μ218 b220 = (1, 12) ∧ CalS K_SB_append_bf812 (d - 1) cc221 ss222 [.ref b220, .int (nI tt)] μ218 (fun ρ μ224 => ∃ b226, ρ = some (.ref b226) ∧ (∃ cc227 ss228 : Nat, (cc227 ≤ rc - 1 - 0 - 0 - cc185 - cc191 - cc197 - cc203 - cc209 - cc215 - cc221 ∧ ss228 ≤ rs - 4 - 0 - 0 - ss186 - ss192 - ss198 - ss204 - ss210 - ss216 - ss222) ∧ (mS μ224 b226 = (1, 12) ∧ CalS K_SB_append_15ec4 (d - 1) cc227 ss228 [.ref b226, .ref (hd 1 68)] μ224 (fun ρ μ230 => ∃ b232, ρ = some (.ref b232) ∧ (mS μ230 (hd 100 0) = (1, 11) ∧ (∃ b234, gR μ230 (hd 100 0) 11 = some b234 ∧ (∃ n236, (mS μ230 b234 = (40, n236) ∧ vp_in (nI r) n236) ∧ (∃ b238, gR μ230 b234 (nI r).toNatClampNeg = some b238 ∧ (∃ n240, (mS μ230 b238 = (2, n240) ∧ vp_in (2 : Int32) n240) ∧ (∃ cc242 ss243 : Nat, (cc242 ≤ rc - 1 - 0 - 0 - cc185 - cc191 - cc197 - cc203 - cc209 - cc215 - cc221 - cc227 ∧ ss243 ≤ rs - 4 - 0 - 0 - ss186 - ss192 - ss198 - ss204 - ss210 - ss216 - ss222 - ss228) ∧ (mS μ230 b232 = (1, 12) ∧ CalS K_SB_append_bf812 (d - 1) cc242 ss243 [.ref b232, .int (gI μ230 b238 (2 : Int32).toNatClampNeg)] μ230 (fun ρ μ245 => ∃ b247, ρ = some (.ref b247) ∧ (∃ cc248 ss249 : Nat, (cc248 ≤ rc - 1 - 0 - 0 - cc185 - cc191 - cc197 - cc203 - cc209 - cc215 - cc221 - cc227 - cc242 ∧ ss249 ≤ rs - 4 - 0 - 0 - ss186 - ss192 - ss198 - ss204 - ss210 - ss216 - ss222 - ss228 - ss243) ∧ (mS μ245 b247 = (1, 12) ∧ CalS K_SB_append_15ec4 (d - 1) cc248 ss249 [.ref b247, .ref (hd 1 69)] μ245 (fun ρ μ251 => ∃ b253, ρ = some (.ref b253) ∧ Wx K_LW_list d (rc - 1 - 0 - 0 - cc185 - cc191 - cc197 - cc203 - cc209 - cc215 - cc221 - cc227 - cc242 - cc248) (rs - 4 - 0 - 0 - ss186 - ss192 - ss198 - ss204 - ss210 - ss216 - ss222 - ss228 - ss243 - ss249) Q 124 [(0, .ref (hd 6 0)), (1, .ref (hd 105 0)), (2, .ref (hd 100 0)), (3, .int (nI P)), (4, .int (nI N)), (5, .int (nI R)), (6, .int ((nI r) + 1))] [] μ251))))))))))))))))))))))))))))))))))))))))))))) := by
  have lf := hL.2.2.2.2.2.2.2.2.2
  have h5 : hiN (hd 115 r) := hi_hd (by decide) (by decide)
  have m4 : mS (mkA μ (hd 115 r) (2, 4)) (hd 115 r) = (2, 4) := if_pos rfl
  have tl : ∀ y : Nat, y < 9 → (∀ i, i < 4 → gI (setI (setI (setI (setI (mkA μ (hd 115 r) (2, 4)) (hd 115 r) (0 : Int32).toNatClampNeg (nI ff)) (hd 115 r) (1 : Int32).toNatClampNeg (nI tt)) (hd 115 r) (2 : Int32).toNatClampNeg ((1 : Int32) + nI y)) (hd 115 r) (3 : Int32).toNatClampNeg 0) (hd 115 r) i = nI (rX (upN F r ff) (upN G r tt) (upN H r (1 + y)) r i)) := fun y hy i hi => by
    rw [I1, nI_add, gI_hi h5]
    show mI (setI (setI (setI (setI (mkA μ (hd 115 r) (2, 4)) (hd 115 r) 0 (nI ff)) (hd 115 r) 1 (nI tt)) (hd 115 r) 2 (nI (1 + y))) (hd 115 r) 3 0) (hd 115 r) i = _
    unfold rX
    rw [upN_r, upN_r, upN_r]
    rcases (by omega : i = 0 ∨ i = 1 ∨ i = 2 ∨ i = 3) with rfl | rfl | rfl | rfl
    · rw [mI_set, if_neg (by omega), mI_set, if_neg (by omega), mI_set, if_neg (by omega), mI_set, if_pos ⟨rfl, rfl⟩, if_pos rfl]
    · rw [mI_set, if_neg (by omega), mI_set, if_neg (by omega), mI_set, if_pos ⟨rfl, rfl⟩, if_neg (by decide), if_pos rfl]
    · rw [mI_set, if_neg (by omega), mI_set, if_pos ⟨rfl, rfl⟩, if_neg (by decide), if_neg (by decide), if_pos rfl]
    · rw [mI_set, if_pos ⟨rfl, rfl⟩, if_neg (by decide), if_neg (by decide), if_neg (by decide)]; rfl
  have ff2 : FrS (fun κ i => κ = 115 ∧ i = r) μ (setI (setI (mkA μ (hd 115 r) (2, 4)) (hd 115 r) (0 : Int32).toNatClampNeg (nI ff)) (hd 115 r) (1 : Int32).toNatClampNeg (nI tt)) := ((FrS.rf.mk (by decide) ⟨rfl, rfl⟩).sI (by decide) ⟨rfl, rfl⟩).sI (by decide) ⟨rfl, rfl⟩
  have S2 := ff2.s8 (fun κ i z => by omega) hM.2.1
  have Lc : ∀ h, LQ μ P N r 0 0 (rX (upN F r ff) (upN G r tt) (upN H r h)) W c := fun h => hL.cg (fun k hk i _ => by unfold rX; rw [upN_o (by omega), upN_o (by omega), upN_o (by omega)]) (fun _ _ _ _ => rfl)
  refine ⟨⟨by decide, by decide, by omega, by omega⟩, hd 115 r, ⟨lf.2.2.2.1 r (Nat.le_refl _), h5⟩, 4, ⟨m4, vI (k := 0) (by decide) (by decide), h5⟩, 4, ⟨m4, vI (k := 1) (by decide) (by decide), h5⟩, c8_below (n := 3) (by decide) (by decide) (by omega) S2 ⟨_, rfl, fun _ => c8_below (n := 9) (by decide) (by decide) (by omega) S2 ⟨_, rfl, 4, ⟨m4, vI (k := 2) (by decide) (by decide), h5⟩, 4, ⟨m4, vI (k := 3) (by decide) (by decide), h5⟩, ?_⟩, fun _ => c8_below (n := 3) (by decide) (by decide) (by omega) S2 ⟨_, rfl, 4, ⟨m4, vI (k := 2) (by decide) (by decide), h5⟩, 4, ⟨m4, vI (k := 3) (by decide) (by decide), h5⟩, ?_⟩⟩⟩
  · have hb := below_lt (x := x7 >>> ((4 : Int32) &&& 31)) (n := 9) (by decide)
    exact li_rt (F := upN F r ff) (G := upN G r tt) (H := upN H r (1 + belowN (x7 >>> ((4 : Int32) &&& 31)) 9)) (R1 := R1) (R2 := R2) upN_r upN_r hD hr (by rw [upN_r]; omega) (by rw [upN_r]; omega) (by rw [upN_r]; omega) (Lc _) hM hw hs ((ff2.sI (by decide) ⟨rfl, rfl⟩).sI (by decide) ⟨rfl, rfl⟩) m4 (tl _ hb) hY (fun μ c cv rc rs a b e g => kk μ c cv rc rs _ (by omega) (by omega) a b e g) (by omega) (by omega)
  · have hb := below_lt (x := x7 >>> ((4 : Int32) &&& 31)) (n := 3) (by decide)
    exact li_rt (F := upN F r ff) (G := upN G r tt) (H := upN H r (1 + belowN (x7 >>> ((4 : Int32) &&& 31)) 3)) (R1 := R1) (R2 := R2) upN_r upN_r hD hr (by rw [upN_r]; omega) (by rw [upN_r]; omega) (by rw [upN_r]; omega) (Lc _) hM hw hs ((ff2.sI (by decide) ⟨rfl, rfl⟩).sI (by decide) ⟨rfl, rfl⟩) m4 (tl _ (by omega)) hY (fun μ c cv rc rs a b e g => kk μ c cv rc rs _ (by omega) (by omega) a b e g) (by omega) (by omega)
def OwW9 (κ i : Nat) : Prop := (κ = 109 ∧ i = 3) ∨ κ = 113 ∨ (κ = 100 ∧ i = 0)
def WR (μ : Mu) (R : Nat) : Prop := BxR μ 12 3 113 R R noP
theorem WR.ot (h : WR μ R) (f : FrS (OwT2 c c') μ μ') : WR μ' R := BxR.fr h f (f.gr (by decide) (by unfold OwT2 Dy; omega)) (by decide) (by unfold OwT2 Dy; omega) (fun k _ => by unfold OwT2 Dy; omega)
theorem LQ.wnt (h : LQ μ P N r fo j X W c) (f : FrS OwW9 μ μ') (eR : ∀ k, k ≠ 12 → gR μ' (hd 100 0) k = gR μ (hd 100 0) k) (eI : ∀ k, gI μ' (hd 100 0) k = gI μ (hd 100 0) k) (e0 : mS μ' (hd 100 0) = (1, 11)) : LQ μ' P N r fo j X W c := by
  obtain ⟨⟨o1, o2, o3, o4⟩, h6, h7, h8, h9, h10, h11, h14, ⟨q, l1, l2, l3, -⟩, ⟨g0, g1, g2, g3, g4, g5, g6⟩⟩ := h
  have n : ∀ κ i, ¬ (κ = 109 ∧ i = 3) → κ ≠ 113 → κ ≠ 100 → ¬ OwW9 κ i := fun κ i a b c z => by unfold OwW9 at z; omega
  have s : ∀ κ i, κ < 256 → ¬ (κ = 109 ∧ i = 3) → κ ≠ 113 → κ ≠ 100 → mS μ' (hd κ i) = mS μ (hd κ i) := fun κ i hh a b c => f.S hh (n κ i a b c)
  have n' : ∀ {κ i : Nat}, κ ≠ 109 → κ ≠ 113 → κ ≠ 100 → ¬ OwW9 κ i := fun a b c => n _ _ (fun z => a z.1) b c
  have s' : ∀ {κ i : Nat}, κ < 256 → κ ≠ 109 → κ ≠ 113 → κ ≠ 100 → mS μ' (hd κ i) = mS μ (hd κ i) := fun hh a b c => s _ _ hh (fun z => a z.1) b c
  exact ⟨⟨e0, fun k hk => (eI k).trans (o2 k hk), (eI 4).trans o3, (eI 5).trans o4⟩,
    h6.fr f (eR _ (by decide)) (by decide) (by decide) (n' (by decide) (by decide) (by decide)) (fun k _ => n' (by decide) (by decide) (by decide)), h7.fr f (eR _ (by decide)) (by decide) (n _ _ (by decide) (by decide) (by decide)) (fun k _ => n' (by decide) (by decide) (by decide)),
    h8.fr f (eR _ (by decide)) (by decide) (n _ _ (by decide) (by decide) (by decide)) (fun k _ => n' (by decide) (by decide) (by decide)), h9.fr f (eR _ (by decide)) (by decide) (n _ _ (by decide) (by decide) (by decide)) (fun k _ => n' (by decide) (by decide) (by decide)), h10.fr f (eR _ (by decide)) (by decide) (n _ _ (by decide) (by decide) (by decide)) (fun k _ => n' (by decide) (by decide) (by decide)),
    h11.fr f (eR _ (by decide)) (by decide) (by decide) (n' (by decide) (by decide) (by decide)) (fun k _ => n' (by decide) (by decide) (by decide)), h14.fr f (eR _ (by decide)) (by decide) (by decide) (n' (by decide) (by decide) (by decide)) (fun k _ => n' (by decide) (by decide) (by decide)),
    LR.nil ((eR 13 (by decide)).trans l1) l2 ((s' (by decide) (by decide) (by decide) (by decide)).trans l3), g0.nx (Nat.le_refl _) f (fun κ i z a => by unfold OwW9 at z; omega), fun i => ⟨(s' (by decide) (by decide) (by decide) (by decide)).trans (g1 i).1, (s' (by decide) (by decide) (by decide) (by decide)).trans (g1 i).2⟩, fun i a => (s' (by decide) (by decide) (by decide) (by decide)).trans (g2 i a), fun i a => (s' (by decide) (by decide) (by decide) (by decide)).trans (g3 i a), fun i a => (s' (by decide) (by decide) (by decide) (by decide)).trans (g4 i a), fun i a => (s' (by decide) (by decide) (by decide) (by decide)).trans (g5 i a), fun i a => (s' (by decide) (by decide) (by decide) (by decide)).trans (g6 i a)⟩
def rdO (P R : Nat) (F G H : Nat → Nat) : Prop := ∀ r, r < R → F r < P ∧ G r < P ∧ F r ≠ G r ∧ 1 ≤ H r ∧ H r ≤ 9
set_option maxRecDepth 100000 in
set_option maxHeartbeats 1000000 in
theorem li_124 (hD : 8 ≤ d) (hP2 : 2 ≤ P) (hP : P ≤ 5) (hN : N ≤ 3) (hR : R ≤ 8) (hLs : Ls ≤ 260)
    (kk : ∀ μ c cv rc rs F G H k, rdO P R F G H → k ≤ 10 → LsT μ P N R 0 (rX F G H) W cv c ((flT (fl paT P) ++ flT (fl noT N)) ++ flT (fl (rdT F G H) R)) Ls → WR μ R → R1 ≤ rc → R2 ≤ rs → Wx K_LW_list d rc rs Q 337 [(0, .ref (hd 6 0)), (1, .ref (hd 105 0)), (2, .ref (hd 100 0)), (3, .int (nI P)), (4, .int (nI N)), (5, .int (nI R)), (6, .int (nI k))] [] μ) :
    ∀ k, k ≤ R → ∀ μ c cv rc rs F G H, rdO P k F G H → LsT μ P N k 0 (rX F G H) W cv c ((flT (fl paT P) ++ flT (fl noT N)) ++ flT (fl (rdT F G H) k)) Ls → WF μ → (R - k) * 11 + 9 + R1 ≤ rc → (R - k) * 36031 + 488 + R2 ≤ rs → Wx K_LW_list d rc rs Q 124 [(0, .ref (hd 6 0)), (1, .ref (hd 105 0)), (2, .ref (hd 100 0)), (3, .int (nI P)), (4, .int (nI N)), (5, .int (nI R)), (6, .int (nI k))] [] μ := by
  have b0 : hiN (hd 100 0) := hi_hd (by decide) (by decide)
  refine up_loop R (fun μ c cv rc rs F G H hO hL hw b1 b2 => ?_) (fun k hk ih μ c cv rc rs F G H hO hL hw b1 b2 => ?_)
  · obtain ⟨L0, M0, s0⟩ := hL
    refine y_LW_list_124 (by omega) ⟨fun _ => ?_, fun h => absurd (Int32.le_refl _) h⟩
    rw [nI_clamp (show R < 2 ^ 31 by omega)]
    have F1 : FrS OwW9 μ (mkM μ (hd 109 3) 113 R 60) := FrS.rf.mM (by decide) (by decide) (Or.inl ⟨rfl, rfl⟩) (fun i _ => Or.inr (Or.inl rfl))
    have n1 : mS (mkM μ (hd 109 3) 113 R 60) (hd 100 0) = (1, 11) := ((FrS.rf.mM (own := fun κ i => (κ = 109 ∧ i = 3) ∨ κ = 113) (by decide) (by decide) (Or.inl ⟨rfl, rfl⟩) (fun i _ => Or.inr rfl) : FrS _ μ (mkM μ (hd 109 3) 113 R 60)).S (by decide) (by omega)).trans L0.1.1
    have K1 : FrS (fun κ i => (κ = 109 ∧ i = 3) ∨ κ = 113) μ (mkM μ (hd 109 3) 113 R 60) := FrS.rf.mM (by decide) (by decide) (Or.inl ⟨rfl, rfl⟩) (fun i _ => Or.inr rfl)
    have K2 : FrS (fun κ i => κ = 100 ∧ i = 0) (mkM μ (hd 109 3) 113 R 60) (setR (mkM μ (hd 109 3) 113 R 60) (hd 100 0) 12 (hd 109 3)) := FrS.rf.sR (by decide) ⟨rfl, rfl⟩
    have F2 : FrS OwW9 μ (setR (mkM μ (hd 109 3) 113 R 60) (hd 100 0) 12 (hd 109 3)) := F1.sR (by decide) (Or.inr (Or.inr ⟨rfl, rfl⟩))
    have r12 : ∀ k, gR (setR (mkM μ (hd 109 3) 113 R 60) (hd 100 0) 12 (hd 109 3)) (hd 100 0) k = if k = 12 then some (hd 109 3) else gR μ (hd 100 0) k := fun k => by
      rw [gR_hi b0, mR_set]
      by_cases e : k = 12
      · rw [if_pos ⟨rfl, e⟩, if_pos e]
      · rw [if_neg (fun z => e z.2), if_neg e, ← gR_hi b0, K1.gr (by decide) (by omega)]
    have L1 := L0.wnt F2 (fun k hk => by rw [r12, if_neg hk]) (fun k => by rw [gI_hi b0, mI_setR, ← gI_hi b0, K1.gi (by decide) (by omega)]) n1
    have M1 := M0.fx F2 (fun κ i z => by unfold OwW9 at z; omega)
    have s1 := sc_fr s0 F2 (fun κ i z => by unfold OwW9 at z; omega)
    have W1 : WR (setR (mkM μ (hd 109 3) 113 R 60) (hd 100 0) 12 (hd 109 3)) R := mM_Bx ⟨by decide, by decide⟩ (by rw [r12, if_pos rfl]) K2 (by omega) (fun i => by omega)
    refine ⟨⟨ip0 (by omega), by decide, by omega, by decide, by omega, by omega⟩, hd 109 3, 113, ⟨⟨by decide, by decide⟩, ⟨hw.1, hi_hd (by decide) (by decide)⟩, fun i _ => hd_ne (by decide) (by decide) (by decide), fun i _ => hw.2 i⟩, ⟨n1, b0⟩, c8_cell (k := 6) s1 hLs (by decide) (by omega) M1.2.1 (fun y => ⟨_, rfl, c8_below (n := 11) (by decide) (by decide) (by omega) M1.2.1 ⟨_, rfl, ?_⟩⟩)⟩
    have hb := below_lt (x := y) (n := 11) (by decide)
    exact kk _ c cv _ _ F G H _ hO (by omega) ⟨L1, M1, s1⟩ W1 (by omega) (by omega)
  · obtain ⟨L0, M0, s0⟩ := hL
    have S := M0.2.1
    have l0 := bl_pa (P := P) hP
    have l2 := bl_no (N := N) hN
    have l3 := bl_rd (R := k) (F := F) (G := G) (H := H) (by omega) (fun i hi => by obtain ⟨q1, q2, -, -, q5⟩ := hO i hi; exact ⟨by omega, by omega, q5⟩)
    have lY : ((flT (fl paT P) ++ flT (fl noT N)) ++ flT (fl (rdT F G H) k)).length ≤ 1000 := by rw [List.length_append, List.length_append]; omega
    have hm4 : nI k - nI k / (4 : Int32) * (4 : Int32) = nI (k % 4) := by rw [I4]; exact nI_mod (by omega) (by decide)
    -- the next road, with what was chosen
    have nx : ∀ (ff tt : Nat), ff < P → tt < P → ff ≠ tt → ∀ μ c cv rc rs h, 1 ≤ h → h ≤ 9 → LsT μ P N (k + 1) 0 (rX (upN F k ff) (upN G k tt) (upN H k h)) W cv c (((flT (fl paT P) ++ flT (fl noT N)) ++ flT (fl (rdT F G H) k)) ++ rdB (upN F k ff) (upN G k tt) (upN H k h) k) Ls → WF μ → (R - (k + 1)) * 11 + 9 + R1 ≤ rc → (R - (k + 1)) * 36031 + 488 + R2 ≤ rs → Wx K_LW_list d rc rs Q 124 [(0, .ref (hd 6 0)), (1, .ref (hd 105 0)), (2, .ref (hd 100 0)), (3, .int (nI P)), (4, .int (nI N)), (5, .int (nI R)), (6, .int (nI k + 1))] [] μ := fun ff tt h1 h2 h3 μ c cv rc rs h h4 h5 hL hw b1 b2 => by
      rw [nI_s]
      refine ih μ c cv rc rs (upN F k ff) (upN G k tt) (upN H k h) (fun i hi => ?_) ?_ hw b1 b2
      · by_cases e : i = k
        · rw [e, upN_r, upN_r, upN_r]; exact ⟨h1, h2, h3, h4, h5⟩
        · rw [upN_o e, upN_o e, upN_o e]; exact hO i (by omega)
      · have e : fl (rdT (upN F k ff) (upN G k tt) (upN H k h)) k = fl (rdT F G H) k := fl_cg k (fun i hi => by unfold rdT; rw [upN_o (by omega), upN_o (by omega), upN_o (by omega)])
        rw [flT_fl, e, rd_B (by omega) (by rw [upN_r]; omega) (by rw [upN_r]; omega) (by rw [upN_r]; omega), ← List.append_assoc]
        exact hL
    have a2 : mS μ (hd 100 0) = (1, 11) := L0.1.1
    have e11 : gR μ (hd 100 0) 11 = some (hd 121 k) := L0.2.2.2.2.2.2.1.1
    have hP0 : ¬ nI P = 0 := fun z => by have := (nI_eq (b := 0) (by omega) (by decide)).mp z; omega
    refine y_LW_list_124 (by omega) ⟨fun h => absurd ((nI_leI (by omega) (by omega)).mp h) (by omega), fun _ => ⟨by decide, ?_⟩⟩
    rw [hm4, I2, nI_add]
    refine c8_cell s0 hLs (by omega) (by omega) S (fun y => ⟨_, rfl, fun hz => ?_, fun hz => ?_⟩)
    · have hkP := (nI_leI (by omega) (by omega)).mp hz
      refine c8_below (n := P) (by omega) (by omega) (by omega) S ⟨_, rfl, ?_⟩
      have hf := below_lt (x := y >>> (nI k &&& 31)) (n := P) (by omega)
      generalize belowN (y >>> (nI k &&& 31)) P = ff at hf ⊢
      refine y_LW_list_163 (by omega) ⟨fun _ => ?_, fun h => absurd hz h⟩
      rw [show nI P - (1 : Int32) = nI (P - 1) by rw [I1, nI_sub (by omega)]]
      refine c8_below (n := P - 1) (by omega) (by omega) (by omega) S ⟨_, rfl, hP0, a2, _, e11, ?_⟩
      have hy := below_lt (x := y >>> (nI k &&& 31) >>> (2 &&& 31)) (n := P - 1) (by omega)
      generalize belowN (y >>> (nI k &&& 31) >>> (2 &&& 31)) (P - 1) = yy at hy ⊢
      rw [show nI ff + ((1 : Int32) + nI yy) = nI (ff + (1 + yy)) by rw [I1, nI_add, nI_add], nI_mod (by omega) (by omega)]
      have ht : (ff + (1 + yy)) % P < P := Nat.mod_lt _ (by omega)
      have hne : ff ≠ (ff + (1 + yy)) % P := by
        rcases Nat.lt_or_ge (ff + (1 + yy)) P with z | z
        · rw [Nat.mod_eq_of_lt z]; omega
        · rw [Nat.mod_eq_sub_mod z, Nat.mod_eq_of_lt (by omega)]; omega
      exact li_row (R1 := (R - (k + 1)) * 11 + 9 + R1) (R2 := (R - (k + 1)) * 36031 + 488 + R2) hD (by omega) (by omega) (by omega) L0 M0 hw s0 lY (fun μ c cv rc rs h q1 q2 q3 q4 q5 q6 => nx ff _ hf ht hne μ c cv rc rs h q1 q2 q3 q4 q5 q6) (by omega) (by omega)
    · have hkP : k < P := Nat.lt_of_not_le (fun y => hz ((nI_leI (by omega) (by omega)).mpr y))
      refine y_LW_list_163 (by omega) ⟨fun h => absurd h hz, fun _ => ⟨hP0, a2, _, e11, ?_⟩⟩
      rw [show (nI k + 1) - (nI k + 1) / nI P * nI P = nI ((k + 1) % P) by rw [nI_s]; exact nI_mod (by omega) (by omega)]
      have ht : (k + 1) % P < P := Nat.mod_lt _ (by omega)
      have hne : k ≠ (k + 1) % P := by
        rcases Nat.lt_or_ge (k + 1) P with z | z
        · rw [Nat.mod_eq_of_lt z]; omega
        · rw [Nat.mod_eq_sub_mod z, Nat.mod_eq_of_lt (by omega)]; omega
      exact li_row (R1 := (R - (k + 1)) * 11 + 9 + R1) (R2 := (R - (k + 1)) * 36031 + 488 + R2) hD (by omega) (by omega) (by omega) L0 M0 hw s0 lY (fun μ c cv rc rs h q1 q2 q3 q4 q5 q6 => nx k _ hkP ht hne μ c cv rc rs h q1 q2 q3 q4 q5 q6) (by omega) (by omega)
end LI3
