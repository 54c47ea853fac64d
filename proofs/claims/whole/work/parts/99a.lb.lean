/-! the law: its cases -/
/-- both sides hold the same -/
def LI (μ : Mu) (n : Nat) : Prop := ∃ (T : PT) (C Ct : Nat → List Op) (D : DT) (t : Nat → Nat) (L : Nat) (x : Int32), CI μ T C Ct D t L x ∧ MI μ T C Ct D t L x ∧ NI T C Ct D n
/-- the script -/
def SCR (μ : Mu) (Ls : Nat) (xs : Nat → Int32) : Prop := mS μ (hd 6 0) = (2, Ls) ∧ ∀ k, k < Ls → mI μ (hd 6 0) k = xs k
theorem SCR.e8 {μ μ' : Mu} {Ls : Nat} {xs : Nat → Int32} (h : SCR μ Ls xs) (f : Fr OwE8 μ μ') : SCR μ' Ls xs := ⟨by rw [f.1]; exact h.1, fun k hk => (f.I (by decide) (by unfold OwE8 OwC8; omega)).trans (h.2 k hk)⟩
theorem SCR.x {μ μ' : Mu} {Ls : Nat} {xs : Nat → Int32} (h : SCR μ Ls xs) (f : FrX μ μ') : SCR μ' Ls xs := ⟨f.2.2.trans h.1, fun k hk => (f.1.I (by decide) (by decide)).trans (h.2 k hk)⟩
theorem Fr.m40 {μ μ' : Mu} (f : Fr OwE8 μ μ') : EqR 40 82 μ μ' := EqR.of f (by decide) (fun κ i a b z => by unfold OwE8 OwC8 at z; omega)
theorem FrX.c8 {μ μ' : Mu} (f : FrX μ μ') : EqR 8 38 μ μ' := f.1.sub (by decide) (by decide)
theorem MO.pack {rv : RV} {r : Option Value} {μ1 μ' : Mu} {T : PT} {C Ct : Nat → List Op} {D : DT} {t : Nat → Nat} {L : Nat} {x : Int32} (f : FrX μ1 μ') (X : MI μ' T C Ct D t L x) (w : MO rv r μ') : ∃ v, r = some (.int v) ∧ (FrX μ1 μ' ∧ MI μ' T C Ct D t L x ∧ MO rv (some (.int v)) μ') := by
  rcases rv with v | z
  · obtain ⟨rfl, h2⟩ := w
    exact ⟨v, rfl, f, X, rfl, h2⟩
  · obtain ⟨⟨v, rfl⟩, h2⟩ := w
    exact ⟨v, rfl, f, X, ⟨v, rfl⟩, h2⟩
theorem same_ans {rv : RV} {code y : Int32} {μ1 μ2 : Mu} {l : List (Nat × Nat)} (hl : exOK l rv) (h0 : ∀ z ∈ l, nI z.2 ≠ 0) (w : WO rv code μ1) (m : MO rv (some (.int y)) μ2) (e : mL μ2 (hd 90 0) 0 = mL μ1 (hd 90 0) 0) : mI μ2 (hd 40 0) 0 = code ∧ (code = 0 → mL μ2 (hd 90 0) 0 = y.toInt64) := by
  rcases rv with v | z
  · obtain ⟨w1, w2⟩ := w
    obtain ⟨m1, m2⟩ := m
    have m1' : Value.int y = Value.int v := Option.some.inj m1
    cases m1'
    exact ⟨m2.trans w1.symm, fun _ => e.trans w2⟩
  · have w' : code = nI z.2 := w
    obtain ⟨-, m2⟩ := m
    exact ⟨m2.trans w'.symm, fun c => absurd (w'.symm.trans c) (h0 z (hl z rfl))⟩
/-- behind a case -/
def LNx (d rc rs n i Ls : Nat) (xs : Nat → Int32) (Q : Option Value → Mu → Prop) : Prop := ∀ (rc' rs' : Nat) (μ' : Mu), rc ≤ rc' + 13 → rs ≤ rs' + 1386 → St μ' → SCR μ' Ls xs → LI μ' (n + 1) → Wx K_LA d rc' rs' Q 1579 [(0, .ref (hd 6 0)), (1, .ref (hd 8 0)), (2, .ref (hd 40 0)), (3, .ref (hd 90 0)), (4, .int (nI i))] [] μ'
theorem Wx.arg {K : KM} {d rc rs pc i k j0 j4 Ls : Nat} {xs : Nat → Int32} {Q : Option Value → Mu → Prop} {L : List (Nat × Value)} {st : List Value} {μ : Mu} (d0 : decode (kB K) pc = .ok (.aload_n 0, 1)) (d1 : decode (kB K) (pc + 1) = .ok (.iload 4, 2)) (d2 : decode (kB K) (pc + 1 + 2) = .ok (.iconst (k : Int), 1)) (d3 : decode (kB K) (pc + 1 + 2 + 1) = .ok (.iadd, 1)) (d4 : decode (kB K) (pc + 1 + 2 + 1 + 1) = .ok (.iaload, 1)) (h0 : L[j0]? = some (0, .ref (hd 6 0))) (h4 : L[j4]? = some (4, .int (nI i))) (hs : SCR μ Ls xs) (hi : i + k < Ls) (hL : Ls ≤ 3072)
    (kk : Wx K d rc rs Q (pc + 1 + 2 + 1 + 1 + 1) L (.int (xs (i + k)) :: st) μ) : Wx K d rc rs Q pc L st μ := by
  refine Wa.aload_n (n := 0) (j := j0) d0 h0 ?_
  refine Wa.iload (j := j4) d1 h4 ?_
  refine Wa.iconst (v := nI k) d2 (by rfl) ?_
  refine Wa.iadd d3 ?_
  rw [nI_add]
  refine Wa.iald d4 hs.1 (vp_in_nI hi (by omega)) ?_
  rw [nI_clamp (by omega), show gI μ (hd 6 0) (i + k) = mI μ (hd 6 0) (i + k) from if_neg (by decide), hs.2 _ hi]
  exact kk
theorem lb_feed {d rc rs n Ls i : Nat} {xs : Nat → Int32} {Q : Option Value → Mu → Prop} {μ : Mu} (hD : 113 ≤ d) (hc : 13 ≤ rc) (hs : 1386 ≤ rs) (hS : St μ) (hR : SCR μ Ls xs) (hi : i + 6 ≤ Ls) (hL : Ls ≤ 3072) (hn : n + 1 ≤ 512) (hI : LI μ n) (next : LNx d rc rs n i Ls xs Q) : Wx K_LA d rc rs Q 156 [(0, .ref (hd 6 0)), (1, .ref (hd 8 0)), (2, .ref (hd 40 0)), (3, .ref (hd 90 0)), (4, .int (nI i))] [] μ := by
  obtain ⟨T, C, Ct, D, t, L, x, hC, hM, hN⟩ := hI
  refine Wa.aload_n (j := 1) d_LA_156 rfl ?_
  refine Wx.arg (k := 1) (j0 := 0) (j4 := 4) d_LA_157 d_LA_158 d_LA_160 d_LA_161 d_LA_162 rfl rfl hR (by omega) hL ?_
  refine Wx.arg (k := 2) (j0 := 0) (j4 := 4) d_LA_163 d_LA_164 d_LA_166 d_LA_167 d_LA_168 rfl rfl hR (by omega) hL ?_
  refine Wx.arg (k := 3) (j0 := 0) (j4 := 4) d_LA_169 d_LA_170 d_LA_172 d_LA_173 d_LA_174 rfl rfl hR (by omega) hL ?_
  refine Wx.arg (k := 4) (j0 := 0) (j4 := 4) d_LA_175 d_LA_176 d_LA_178 d_LA_179 d_LA_180 rfl rfl hR (by omega) hL ?_
  refine Wx.arg (k := 5) (j0 := 0) (j4 := 4) d_LA_181 d_LA_182 d_LA_184 d_LA_185 d_LA_186 rfl rfl hR (by omega) hL ?_
  refine Wa.aload_n (j := 3) d_LA_187 rfl ?_
  refine Wx.callH (K' := K_LW_feed) (hh := hh_feed) (As := [.ref (hd 8 0), .int (xs (i + 1)), .int (xs (i + 2)), .int (xs (i + 3)), .int (xs (i + 4)), .int (xs (i + 5)), .ref (hd 90 0)]) (d - 1) 1 6 (Q' := fun r μ' => ∃ code, r = some (.int code) ∧ Fr OwE8 μ μ' ∧ CI μ' T C Ct D (dvFeed t L (xs (i + 1)) (xs (i + 2)) (xs (i + 3)) (xs (i + 4)) (xs (i + 5))).2.1 (dvFeed t L (xs (i + 1)) (xs (i + 2)) (xs (i + 3)) (xs (i + 4)) (xs (i + 5))).2.2 x ∧ WO (dvFeed t L (xs (i + 1)) (xs (i + 2)) (xs (i + 3)) (xs (i + 4)) (xs (i + 5))).1 code μ') d_LA_188 moh_feed (tb_at 1018 (by decide +kernel) (by decide +kernel)) sl_LW_80.2 rfl rfl (Nat.le_of_ble_eq_true rfl) (by omega) (by omega) (by omega) (c_LW_feed (n := n) hC (by omega) (Nat.le_refl _) (Nat.le_refl _) hS (fun μ' code f s X w => ⟨code, rfl, f, X, w⟩)) (fun v1 μ1 s1 q1 => ?_)
  obtain ⟨code, e, f1, X1, w1⟩ := q1
  cases e
  have m1 : MI μ1 T C Ct D t L x := hM.tr f1.m40
  have r1 := hR.e8 f1
  refine Wa.istore (i := 5) d_LA_191 (by decide) rfl ?_
  refine Wa.aload_n (j := 3) d_LA_193 rfl ?_
  refine Wx.arg (k := 1) (j0 := 1) (j4 := 5) d_LA_194 d_LA_195 d_LA_197 d_LA_198 d_LA_199 rfl rfl r1 (by omega) hL ?_
  refine Wx.arg (k := 2) (j0 := 1) (j4 := 5) d_LA_200 d_LA_201 d_LA_203 d_LA_204 d_LA_205 rfl rfl r1 (by omega) hL ?_
  refine Wx.arg (k := 3) (j0 := 1) (j4 := 5) d_LA_206 d_LA_207 d_LA_209 d_LA_210 d_LA_211 rfl rfl r1 (by omega) hL ?_
  refine Wx.arg (k := 4) (j0 := 1) (j4 := 5) d_LA_212 d_LA_213 d_LA_215 d_LA_216 d_LA_217 rfl rfl r1 (by omega) hL ?_
  refine Wx.arg (k := 5) (j0 := 1) (j4 := 5) d_LA_218 d_LA_219 d_LA_221 d_LA_222 d_LA_223 rfl rfl r1 (by omega) hL ?_
  refine Wx.cVi (q := E_MM) (As := [.int (xs (i + 1)), .int (xs (i + 2)), .int (xs (i + 3)), .int (xs (i + 4)), .int (xs (i + 5))]) 11 (d - 1) 1 5 (fun v μ' => FrX μ1 μ' ∧ MI μ' T C Ct D (dvFeed t L (xs (i + 1)) (xs (i + 2)) (xs (i + 3)) (xs (i + 4)) (xs (i + 5))).2.1 (dvFeed t L (xs (i + 1)) (xs (i + 2)) (xs (i + 3)) (xs (i + 4)) (xs (i + 5))).2.2 x ∧ MO (dvFeed t L (xs (i + 1)) (xs (i + 2)) (xs (i + 3)) (xs (i + 4)) (xs (i + 5))).1 (some (.int v)) μ') d_LA_224 mok_MM_feed vl_LW_85 rfl rfl rfl (Nat.le_of_ble_eq_true rfl) (by omega) (by omega) (by omega) (s_40 s1 (by decide)) (c_MM_feed m1 hC.2.2.1.1 (by omega) (Nat.le_refl _) (Nat.le_refl _) s1 (fun μ' r f s X w => MO.pack f X w)) (fun v2 μ2 s2 q2 => ?_)
  obtain ⟨f2, X2, w2⟩ := q2
  have r2 := r1.x f2
  have C2 := X1.tr f2.c8
  obtain ⟨a1, a2⟩ := same_ans (exo_feed (T := T) (C := C) (Ct := Ct) (D := D) (t := t) (L := L) (x := x)) (by decide) w1 w2 (f2.2.1.L (κ := 90) (by decide) (by decide))
  refine Wa.istore (i := 6) d_LA_227 (by decide) rfl ?_
  refine Wa.aload_n (j := 4) d_LA_229 rfl ?_
  refine Wx.cVi (q := E_MM) (As := []) 11 (d - 1) 0 0 (fun v μ' => v = v1 ∧ μ' = μ2) d_LA_230 mok_MM_thrown vl_LW_86 rfl rfl rfl (Nat.le_of_ble_eq_true rfl) (by omega) (Nat.zero_le _) (Nat.zero_le _) (s_40 s2 (by decide)) (c_MM_thrown (by omega) s2 ⟨_, rfl, a1, rfl⟩) (fun v3 μ3 s3 q3 => ?_)
  obtain ⟨e3, e4⟩ := q3
  rw [e3, e4]
  have li : LI μ2 (n + 1) := ⟨_, _, _, _, _, _, _, C2, X2, hN.same hn⟩
  refine Wa.iload (j := 1) d_LA_233 rfl ?_
  refine Wa.icmp_eq 240 d_LA_235 (by decide) (fun _ => ?_) (fun h => absurd rfl h)
  refine Wa.iload (j := 1) d_LA_240 rfl ?_
  refine Wa.if_ne 257 d_LA_242 (by decide) (fun _ => ?_) (fun h0 => ?_)
  · refine Wa.goto 1579 d_LA_257 (by decide) ?_
    exact Wa.loc [2, 3, 4, 5, 6] rfl (next _ _ μ2 (by omega) (by omega) s2 r2 li)
  · refine Wa.aload_n (j := 5) d_LA_245 rfl ?_
    refine Wa.iconst (v := 0) d_LA_246 rfl ?_
    refine Wa.lald d_LA_247 (s_90 s2 (by decide)) (vp_in_nI (n := 0) (N := 1) (by decide) (by decide)) ?_
    refine Wa.iload (j := 0) d_LA_248 rfl ?_
    refine Wa.i2l d_LA_250 ?_
    refine Wa.lcmp d_LA_251 ?_
    refine Wa.if_eq 257 d_LA_252 (by decide) (fun _ => ?_) (fun h => absurd ((lg_cmp_eq _ _).mpr (a2 h0)) h)
    refine Wa.goto 1579 d_LA_257 (by decide) ?_
    exact Wa.loc [2, 3, 4, 5, 6] rfl (next _ _ μ2 (by omega) (by omega) s2 r2 li)
theorem lb_trim {d rc rs n Ls i : Nat} {xs : Nat → Int32} {Q : Option Value → Mu → Prop} {μ : Mu} (hD : 113 ≤ d) (hc : 13 ≤ rc) (hs : 1386 ≤ rs) (hS : St μ) (hR : SCR μ Ls xs) (hi : i + 6 ≤ Ls) (hL : Ls ≤ 3072) (hn : n + 1 ≤ 512) (hI : LI μ n) (next : LNx d rc rs n i Ls xs Q) : Wx K_LA d rc rs Q 260 [(0, .ref (hd 6 0)), (1, .ref (hd 8 0)), (2, .ref (hd 40 0)), (3, .ref (hd 90 0)), (4, .int (nI i))] [] μ := by
  obtain ⟨T, C, Ct, D, t, L, x, hC, hM, hN⟩ := hI
  refine Wa.aload_n (j := 1) d_LA_260 rfl ?_
  refine Wx.arg (k := 1) (j0 := 0) (j4 := 4) d_LA_261 d_LA_262 d_LA_264 d_LA_265 d_LA_266 rfl rfl hR (by omega) hL ?_
  refine Wa.aload_n (j := 3) d_LA_267 rfl ?_
  refine Wx.callH (K' := K_LW_trim) (hh := hh_trim) (As := [.ref (hd 8 0), .int (xs (i + 1)), .ref (hd 90 0)]) (d - 1) 1 6 (Q' := fun r μ' => ∃ code, r = some (.int code) ∧ Fr OwE8 μ μ' ∧ CI μ' T C Ct D t (dvTrim L (xs (i + 1))).2 x ∧ WO (dvTrim L (xs (i + 1))).1 code μ') d_LA_268 moh_trim (tb_at 1097 (by decide +kernel) (by decide +kernel)) sl_LW_90.2 rfl rfl (Nat.le_of_ble_eq_true rfl) (by omega) (by omega) (by omega) (c_LW_trim (n := n) hC (by omega) (Nat.le_refl _) (Nat.le_refl _) hS (fun μ' code f s X w => ⟨code, rfl, f, X, w⟩)) (fun v1 μ1 s1 q1 => ?_)
  obtain ⟨code, e, f1, X1, w1⟩ := q1
  cases e
  have m1 : MI μ1 T C Ct D t L x := hM.tr f1.m40
  have r1 := hR.e8 f1
  refine Wa.istore (i := 5) d_LA_271 (by decide) rfl ?_
  refine Wa.aload_n (j := 3) d_LA_273 rfl ?_
  refine Wx.arg (k := 1) (j0 := 1) (j4 := 5) d_LA_274 d_LA_275 d_LA_277 d_LA_278 d_LA_279 rfl rfl r1 (by omega) hL ?_
  refine Wx.cVi (q := E_MM) (As := [.int (xs (i + 1))]) 11 (d - 1) 0 0 (fun v μ' => FrX μ1 μ' ∧ MI μ' T C Ct D t (dvTrim L (xs (i + 1))).2 x ∧ MO (dvTrim L (xs (i + 1))).1 (some (.int v)) μ') d_LA_280 mok_MM_trim vl_LW_93 rfl rfl rfl (Nat.le_of_ble_eq_true rfl) (by omega) (by omega) (by omega) (s_40 s1 (by decide)) (c_MM_trim m1 hC.2.2.1.1 (by omega) s1 (fun μ' r f s X w => MO.pack f X w)) (fun v2 μ2 s2 q2 => ?_)
  obtain ⟨f2, X2, w2⟩ := q2
  have r2 := r1.x f2
  have C2 := X1.tr f2.c8
  obtain ⟨a1, a2⟩ := same_ans (exo_trim (T := T) (C := C) (Ct := Ct) (D := D) (t := t) (L := L) (x := x)) (by decide) w1 w2 (f2.2.1.L (κ := 90) (by decide) (by decide))
  refine Wa.istore (i := 6) d_LA_283 (by decide) rfl ?_
  refine Wa.aload_n (j := 4) d_LA_285 rfl ?_
  refine Wx.cVi (q := E_MM) (As := []) 11 (d - 1) 0 0 (fun v μ' => v = v1 ∧ μ' = μ2) d_LA_286 mok_MM_thrown vl_LW_86 rfl rfl rfl (Nat.le_of_ble_eq_true rfl) (by omega) (Nat.zero_le _) (Nat.zero_le _) (s_40 s2 (by decide)) (c_MM_thrown (by omega) s2 ⟨_, rfl, a1, rfl⟩) (fun v3 μ3 s3 q3 => ?_)
  obtain ⟨e3, e4⟩ := q3
  rw [e3, e4]
  have li : LI μ2 (n + 1) := ⟨_, _, _, _, _, _, _, C2, X2, hN.same hn⟩
  refine Wa.iload (j := 1) d_LA_289 rfl ?_
  refine Wa.icmp_eq 296 d_LA_291 (by decide) (fun _ => ?_) (fun h => absurd rfl h)
  refine Wa.iload (j := 1) d_LA_296 rfl ?_
  refine Wa.if_ne 313 d_LA_298 (by decide) (fun _ => ?_) (fun h0 => ?_)
  · refine Wa.goto 1579 d_LA_313 (by decide) ?_
    exact Wa.loc [2, 3, 4, 5, 6] rfl (next _ _ μ2 (by omega) (by omega) s2 r2 li)
  · refine Wa.aload_n (j := 5) d_LA_301 rfl ?_
    refine Wa.iconst (v := 0) d_LA_302 rfl ?_
    refine Wa.lald d_LA_303 (s_90 s2 (by decide)) (vp_in_nI (n := 0) (N := 1) (by decide) (by decide)) ?_
    refine Wa.iload (j := 0) d_LA_304 rfl ?_
    refine Wa.i2l d_LA_306 ?_
    refine Wa.lcmp d_LA_307 ?_
    refine Wa.if_eq 313 d_LA_308 (by decide) (fun _ => ?_) (fun h => absurd ((lg_cmp_eq _ _).mpr (a2 h0)) h)
    refine Wa.goto 1579 d_LA_313 (by decide) ?_
    exact Wa.loc [2, 3, 4, 5, 6] rfl (next _ _ μ2 (by omega) (by omega) s2 r2 li)
theorem lb_count {d rc rs n Ls i : Nat} {xs : Nat → Int32} {Q : Option Value → Mu → Prop} {μ : Mu} (hD : 113 ≤ d) (hc : 13 ≤ rc) (hs : 1386 ≤ rs) (hS : St μ) (hR : SCR μ Ls xs) (hi : i + 6 ≤ Ls) (hL : Ls ≤ 3072) (hn : n + 1 ≤ 512) (hI : LI μ n) (next : LNx d rc rs n i Ls xs Q) : Wx K_LA d rc rs Q 342 [(0, .ref (hd 6 0)), (1, .ref (hd 8 0)), (2, .ref (hd 40 0)), (3, .ref (hd 90 0)), (4, .int (nI i))] [] μ := by
  obtain ⟨T, C, Ct, D, t, L, x, hC, hM, hN⟩ := hI
  refine Wa.aload_n (j := 1) d_LA_342 rfl ?_
  refine Wx.arg (k := 1) (j0 := 0) (j4 := 4) d_LA_343 d_LA_344 d_LA_346 d_LA_347 d_LA_348 rfl rfl hR (by omega) hL ?_
  refine Wa.aload_n (j := 3) d_LA_349 rfl ?_
  refine Wx.callH (K' := K_LW_count) (hh := hh_count) (As := [.ref (hd 8 0), .int (xs (i + 1)), .ref (hd 90 0)]) (d - 1) 1 6 (Q' := fun r μ' => ∃ code, r = some (.int code) ∧ Fr OwE8 μ μ' ∧ CI μ' T C Ct D t L x ∧ WO (rvCount T D L (xs (i + 1))) code μ') d_LA_350 moh_count (tb_at 1121 (by decide +kernel) (by decide +kernel)) sl_LW_102.2 rfl rfl (Nat.le_of_ble_eq_true rfl) (by omega) (by omega) (by omega) (c_LW_count (n := n) hC (by omega) (Nat.le_refl _) (Nat.le_refl _) hS (fun μ' code f s X w => ⟨code, rfl, f, X, w⟩)) (fun v1 μ1 s1 q1 => ?_)
  obtain ⟨code, e, f1, X1, w1⟩ := q1
  cases e
  have m1 : MI μ1 T C Ct D t L x := hM.tr f1.m40
  have r1 := hR.e8 f1
  refine Wa.istore (i := 5) d_LA_353 (by decide) rfl ?_
  refine Wa.aload_n (j := 3) d_LA_355 rfl ?_
  refine Wx.arg (k := 1) (j0 := 1) (j4 := 5) d_LA_356 d_LA_357 d_LA_359 d_LA_360 d_LA_361 rfl rfl r1 (by omega) hL ?_
  refine Wx.cVi (q := E_MM) (As := [.int (xs (i + 1))]) 11 (d - 1) 1 5 (fun v μ' => FrX μ1 μ' ∧ MI μ' T C Ct D t L x ∧ MO (rvCount T D L (xs (i + 1))) (some (.int v)) μ') d_LA_362 mok_MM_count vl_LW_104 rfl rfl rfl (Nat.le_of_ble_eq_true rfl) (by omega) (by omega) (by omega) (s_40 s1 (by decide)) (c_MM_count m1 hN.1 (by omega) (Nat.le_refl _) (Nat.le_refl _) s1 (fun μ' r f s X w => MO.pack f X w)) (fun v2 μ2 s2 q2 => ?_)
  obtain ⟨f2, X2, w2⟩ := q2
  have r2 := r1.x f2
  have C2 := X1.tr f2.c8
  obtain ⟨a1, a2⟩ := same_ans (exo_count (T := T) (C := C) (Ct := Ct) (D := D) (t := t) (L := L) (x := x)) (by decide) w1 w2 (f2.2.1.L (κ := 90) (by decide) (by decide))
  refine Wa.istore (i := 6) d_LA_365 (by decide) rfl ?_
  refine Wa.aload_n (j := 4) d_LA_367 rfl ?_
  refine Wx.cVi (q := E_MM) (As := []) 11 (d - 1) 0 0 (fun v μ' => v = v1 ∧ μ' = μ2) d_LA_368 mok_MM_thrown vl_LW_86 rfl rfl rfl (Nat.le_of_ble_eq_true rfl) (by omega) (Nat.zero_le _) (Nat.zero_le _) (s_40 s2 (by decide)) (c_MM_thrown (by omega) s2 ⟨_, rfl, a1, rfl⟩) (fun v3 μ3 s3 q3 => ?_)
  obtain ⟨e3, e4⟩ := q3
  rw [e3, e4]
  have li : LI μ2 (n + 1) := ⟨_, _, _, _, _, _, _, C2, X2, hN.same hn⟩
  refine Wa.iload (j := 1) d_LA_371 rfl ?_
  refine Wa.icmp_eq 378 d_LA_373 (by decide) (fun _ => ?_) (fun h => absurd rfl h)
  refine Wa.iload (j := 1) d_LA_378 rfl ?_
  refine Wa.if_ne 395 d_LA_380 (by decide) (fun _ => ?_) (fun h0 => ?_)
  · refine Wa.goto 1579 d_LA_395 (by decide) ?_
    exact Wa.loc [2, 3, 4, 5, 6] rfl (next _ _ μ2 (by omega) (by omega) s2 r2 li)
  · refine Wa.aload_n (j := 5) d_LA_383 rfl ?_
    refine Wa.iconst (v := 0) d_LA_384 rfl ?_
    refine Wa.lald d_LA_385 (s_90 s2 (by decide)) (vp_in_nI (n := 0) (N := 1) (by decide) (by decide)) ?_
    refine Wa.iload (j := 0) d_LA_386 rfl ?_
    refine Wa.i2l d_LA_388 ?_
    refine Wa.lcmp d_LA_389 ?_
    refine Wa.if_eq 395 d_LA_390 (by decide) (fun _ => ?_) (fun h => absurd ((lg_cmp_eq _ _).mpr (a2 h0)) h)
    refine Wa.goto 1579 d_LA_395 (by decide) ?_
    exact Wa.loc [2, 3, 4, 5, 6] rfl (next _ _ μ2 (by omega) (by omega) s2 r2 li)
theorem lb_parish {d rc rs n Ls i : Nat} {xs : Nat → Int32} {Q : Option Value → Mu → Prop} {μ : Mu} (hD : 113 ≤ d) (hc : 13 ≤ rc) (hs : 1386 ≤ rs) (hS : St μ) (hR : SCR μ Ls xs) (hi : i + 6 ≤ Ls) (hL : Ls ≤ 3072) (hn : n + 1 ≤ 512) (hI : LI μ n) (next : LNx d rc rs n i Ls xs Q) : Wx K_LA d rc rs Q 398 [(0, .ref (hd 6 0)), (1, .ref (hd 8 0)), (2, .ref (hd 40 0)), (3, .ref (hd 90 0)), (4, .int (nI i))] [] μ := by
  obtain ⟨T, C, Ct, D, t, L, x, hC, hM, hN⟩ := hI
  refine Wa.aload_n (j := 1) d_LA_398 rfl ?_
  refine Wx.arg (k := 1) (j0 := 0) (j4 := 4) d_LA_399 d_LA_400 d_LA_402 d_LA_403 d_LA_404 rfl rfl hR (by omega) hL ?_
  refine Wx.arg (k := 2) (j0 := 0) (j4 := 4) d_LA_405 d_LA_406 d_LA_408 d_LA_409 d_LA_410 rfl rfl hR (by omega) hL ?_
  refine Wa.aload_n (j := 3) d_LA_411 rfl ?_
  refine Wx.callH (K' := K_LW_parish) (hh := hh_parish) (As := [.ref (hd 8 0), .int (xs (i + 1)), .int (xs (i + 2)), .ref (hd 90 0)]) (d - 1) 1 6 (Q' := fun r μ' => ∃ code, r = some (.int code) ∧ Fr OwE8 μ μ' ∧ CI μ' T C Ct D t L x ∧ WO (rvParish T D (xs (i + 1)) (xs (i + 2))) code μ') d_LA_412 moh_parish (tb_at 1145 (by decide +kernel) (by decide +kernel)) sl_LW_105.2 rfl rfl (Nat.le_of_ble_eq_true rfl) (by omega) (by omega) (by omega) (c_LW_parish (n := n) hC (by omega) (Nat.le_refl _) (Nat.le_refl _) hS (fun μ' code f s X w => ⟨code, rfl, f, X, w⟩)) (fun v1 μ1 s1 q1 => ?_)
  obtain ⟨code, e, f1, X1, w1⟩ := q1
  cases e
  have m1 : MI μ1 T C Ct D t L x := hM.tr f1.m40
  have r1 := hR.e8 f1
  refine Wa.istore (i := 5) d_LA_415 (by decide) rfl ?_
  refine Wa.aload_n (j := 3) d_LA_417 rfl ?_
  refine Wx.arg (k := 1) (j0 := 1) (j4 := 5) d_LA_418 d_LA_419 d_LA_421 d_LA_422 d_LA_423 rfl rfl r1 (by omega) hL ?_
  refine Wx.arg (k := 2) (j0 := 1) (j4 := 5) d_LA_424 d_LA_425 d_LA_427 d_LA_428 d_LA_429 rfl rfl r1 (by omega) hL ?_
  refine Wx.cVi (q := E_MM) (As := [.int (xs (i + 1)), .int (xs (i + 2))]) 11 (d - 1) 0 0 (fun v μ' => FrX μ1 μ' ∧ MI μ' T C Ct D t L x ∧ MO (rvParish T D (xs (i + 1)) (xs (i + 2))) (some (.int v)) μ') d_LA_430 mok_MM_parish vl_LW_108 rfl rfl rfl (Nat.le_of_ble_eq_true rfl) (by omega) (by omega) (by omega) (s_40 s1 (by decide)) (c_MM_parish m1 hN.1 (by omega) s1 (fun μ' r f s X w => MO.pack f X w)) (fun v2 μ2 s2 q2 => ?_)
  obtain ⟨f2, X2, w2⟩ := q2
  have r2 := r1.x f2
  have C2 := X1.tr f2.c8
  obtain ⟨a1, a2⟩ := same_ans (exo_parish (T := T) (C := C) (Ct := Ct) (D := D) (t := t) (L := L) (x := x)) (by decide) w1 w2 (f2.2.1.L (κ := 90) (by decide) (by decide))
  refine Wa.istore (i := 6) d_LA_433 (by decide) rfl ?_
  refine Wa.aload_n (j := 4) d_LA_435 rfl ?_
  refine Wx.cVi (q := E_MM) (As := []) 11 (d - 1) 0 0 (fun v μ' => v = v1 ∧ μ' = μ2) d_LA_436 mok_MM_thrown vl_LW_86 rfl rfl rfl (Nat.le_of_ble_eq_true rfl) (by omega) (Nat.zero_le _) (Nat.zero_le _) (s_40 s2 (by decide)) (c_MM_thrown (by omega) s2 ⟨_, rfl, a1, rfl⟩) (fun v3 μ3 s3 q3 => ?_)
  obtain ⟨e3, e4⟩ := q3
  rw [e3, e4]
  have li : LI μ2 (n + 1) := ⟨_, _, _, _, _, _, _, C2, X2, hN.same hn⟩
  refine Wa.iload (j := 1) d_LA_439 rfl ?_
  refine Wa.icmp_eq 446 d_LA_441 (by decide) (fun _ => ?_) (fun h => absurd rfl h)
  refine Wa.iload (j := 1) d_LA_446 rfl ?_
  refine Wa.if_ne 463 d_LA_448 (by decide) (fun _ => ?_) (fun h0 => ?_)
  · refine Wa.goto 1579 d_LA_463 (by decide) ?_
    exact Wa.loc [2, 3, 4, 5, 6] rfl (next _ _ μ2 (by omega) (by omega) s2 r2 li)
  · refine Wa.aload_n (j := 5) d_LA_451 rfl ?_
    refine Wa.iconst (v := 0) d_LA_452 rfl ?_
    refine Wa.lald d_LA_453 (s_90 s2 (by decide)) (vp_in_nI (n := 0) (N := 1) (by decide) (by decide)) ?_
    refine Wa.iload (j := 0) d_LA_454 rfl ?_
    refine Wa.i2l d_LA_456 ?_
    refine Wa.lcmp d_LA_457 ?_
    refine Wa.if_eq 463 d_LA_458 (by decide) (fun _ => ?_) (fun h => absurd ((lg_cmp_eq _ _).mpr (a2 h0)) h)
    refine Wa.goto 1579 d_LA_463 (by decide) ?_
    exact Wa.loc [2, 3, 4, 5, 6] rfl (next _ _ μ2 (by omega) (by omega) s2 r2 li)
theorem lb_knows {d rc rs n Ls i : Nat} {xs : Nat → Int32} {Q : Option Value → Mu → Prop} {μ : Mu} (hD : 113 ≤ d) (hc : 13 ≤ rc) (hs : 1386 ≤ rs) (hS : St μ) (hR : SCR μ Ls xs) (hi : i + 6 ≤ Ls) (hL : Ls ≤ 3072) (hn : n + 1 ≤ 512) (hI : LI μ n) (next : LNx d rc rs n i Ls xs Q) : Wx K_LA d rc rs Q 466 [(0, .ref (hd 6 0)), (1, .ref (hd 8 0)), (2, .ref (hd 40 0)), (3, .ref (hd 90 0)), (4, .int (nI i))] [] μ := by
  obtain ⟨T, C, Ct, D, t, L, x, hC, hM, hN⟩ := hI
  refine Wa.aload_n (j := 1) d_LA_466 rfl ?_
  refine Wx.arg (k := 1) (j0 := 0) (j4 := 4) d_LA_467 d_LA_468 d_LA_470 d_LA_471 d_LA_472 rfl rfl hR (by omega) hL ?_
  refine Wx.arg (k := 2) (j0 := 0) (j4 := 4) d_LA_473 d_LA_474 d_LA_476 d_LA_477 d_LA_478 rfl rfl hR (by omega) hL ?_
  refine Wa.aload_n (j := 3) d_LA_479 rfl ?_
  refine Wx.callH (K' := K_LW_knows) (hh := hh_knows) (As := [.ref (hd 8 0), .int (xs (i + 1)), .int (xs (i + 2)), .ref (hd 90 0)]) (d - 1) 1 6 (Q' := fun r μ' => ∃ code, r = some (.int code) ∧ Fr OwE8 μ μ' ∧ CI μ' T C Ct D t L x ∧ WO (rvKnows T D (xs (i + 1)) (xs (i + 2))) code μ') d_LA_480 moh_knows (tb_at 1157 (by decide +kernel) (by decide +kernel)) sl_LW_109.2 rfl rfl (Nat.le_of_ble_eq_true rfl) (by omega) (by omega) (by omega) (c_LW_knows (n := n) hC (by omega) (Nat.le_refl _) (Nat.le_refl _) hS (fun μ' code f s X w => ⟨code, rfl, f, X, w⟩)) (fun v1 μ1 s1 q1 => ?_)
  obtain ⟨code, e, f1, X1, w1⟩ := q1
  cases e
  have m1 : MI μ1 T C Ct D t L x := hM.tr f1.m40
  have r1 := hR.e8 f1
  refine Wa.istore (i := 5) d_LA_483 (by decide) rfl ?_
  refine Wa.aload_n (j := 3) d_LA_485 rfl ?_
  refine Wx.arg (k := 1) (j0 := 1) (j4 := 5) d_LA_486 d_LA_487 d_LA_489 d_LA_490 d_LA_491 rfl rfl r1 (by omega) hL ?_
  refine Wx.arg (k := 2) (j0 := 1) (j4 := 5) d_LA_492 d_LA_493 d_LA_495 d_LA_496 d_LA_497 rfl rfl r1 (by omega) hL ?_
  refine Wx.cVi (q := E_MM) (As := [.int (xs (i + 1)), .int (xs (i + 2))]) 11 (d - 1) 0 0 (fun v μ' => FrX μ1 μ' ∧ MI μ' T C Ct D t L x ∧ MO (rvKnows T D (xs (i + 1)) (xs (i + 2))) (some (.int v)) μ') d_LA_498 mok_MM_knows vl_LW_111 rfl rfl rfl (Nat.le_of_ble_eq_true rfl) (by omega) (by omega) (by omega) (s_40 s1 (by decide)) (c_MM_knows m1 (by omega) s1 (fun μ' r f s X w => MO.pack f X w)) (fun v2 μ2 s2 q2 => ?_)
  obtain ⟨f2, X2, w2⟩ := q2
  have r2 := r1.x f2
  have C2 := X1.tr f2.c8
  obtain ⟨a1, a2⟩ := same_ans (exo_knows (T := T) (C := C) (Ct := Ct) (D := D) (t := t) (L := L) (x := x)) (by decide) w1 w2 (f2.2.1.L (κ := 90) (by decide) (by decide))
  refine Wa.istore (i := 6) d_LA_501 (by decide) rfl ?_
  refine Wa.aload_n (j := 4) d_LA_503 rfl ?_
  refine Wx.cVi (q := E_MM) (As := []) 11 (d - 1) 0 0 (fun v μ' => v = v1 ∧ μ' = μ2) d_LA_504 mok_MM_thrown vl_LW_86 rfl rfl rfl (Nat.le_of_ble_eq_true rfl) (by omega) (Nat.zero_le _) (Nat.zero_le _) (s_40 s2 (by decide)) (c_MM_thrown (by omega) s2 ⟨_, rfl, a1, rfl⟩) (fun v3 μ3 s3 q3 => ?_)
  obtain ⟨e3, e4⟩ := q3
  rw [e3, e4]
  have li : LI μ2 (n + 1) := ⟨_, _, _, _, _, _, _, C2, X2, hN.same hn⟩
  refine Wa.iload (j := 1) d_LA_507 rfl ?_
  refine Wa.icmp_eq 514 d_LA_509 (by decide) (fun _ => ?_) (fun h => absurd rfl h)
  refine Wa.iload (j := 1) d_LA_514 rfl ?_
  refine Wa.if_ne 531 d_LA_516 (by decide) (fun _ => ?_) (fun h0 => ?_)
  · refine Wa.goto 1579 d_LA_531 (by decide) ?_
    exact Wa.loc [2, 3, 4, 5, 6] rfl (next _ _ μ2 (by omega) (by omega) s2 r2 li)
  · refine Wa.aload_n (j := 5) d_LA_519 rfl ?_
    refine Wa.iconst (v := 0) d_LA_520 rfl ?_
    refine Wa.lald d_LA_521 (s_90 s2 (by decide)) (vp_in_nI (n := 0) (N := 1) (by decide) (by decide)) ?_
    refine Wa.iload (j := 0) d_LA_522 rfl ?_
    refine Wa.i2l d_LA_524 ?_
    refine Wa.lcmp d_LA_525 ?_
    refine Wa.if_eq 531 d_LA_526 (by decide) (fun _ => ?_) (fun h => absurd ((lg_cmp_eq _ _).mpr (a2 h0)) h)
    refine Wa.goto 1579 d_LA_531 (by decide) ?_
    exact Wa.loc [2, 3, 4, 5, 6] rfl (next _ _ μ2 (by omega) (by omega) s2 r2 li)
theorem lb_sheet {d rc rs n Ls i : Nat} {xs : Nat → Int32} {Q : Option Value → Mu → Prop} {μ : Mu} (hD : 113 ≤ d) (hc : 13 ≤ rc) (hs : 1386 ≤ rs) (hS : St μ) (hR : SCR μ Ls xs) (hi : i + 6 ≤ Ls) (hL : Ls ≤ 3072) (hn : n + 1 ≤ 512) (hI : LI μ n) (next : LNx d rc rs n i Ls xs Q) : Wx K_LA d rc rs Q 534 [(0, .ref (hd 6 0)), (1, .ref (hd 8 0)), (2, .ref (hd 40 0)), (3, .ref (hd 90 0)), (4, .int (nI i))] [] μ := by
  obtain ⟨T, C, Ct, D, t, L, x, hC, hM, hN⟩ := hI
  refine Wa.aload_n (j := 1) d_LA_534 rfl ?_
  refine Wx.arg (k := 1) (j0 := 0) (j4 := 4) d_LA_535 d_LA_536 d_LA_538 d_LA_539 d_LA_540 rfl rfl hR (by omega) hL ?_
  refine Wx.arg (k := 2) (j0 := 0) (j4 := 4) d_LA_541 d_LA_542 d_LA_544 d_LA_545 d_LA_546 rfl rfl hR (by omega) hL ?_
  refine Wa.aload_n (j := 3) d_LA_547 rfl ?_
  refine Wx.callH (K' := K_LW_sheet) (hh := hh_sheet) (As := [.ref (hd 8 0), .int (xs (i + 1)), .int (xs (i + 2)), .ref (hd 90 0)]) (d - 1) 1 6 (Q' := fun r μ' => ∃ code, r = some (.int code) ∧ Fr OwE8 μ μ' ∧ CI μ' T C Ct D t L x ∧ WO (rvSheet T D (xs (i + 1)) (xs (i + 2))) code μ') d_LA_548 moh_sheet (tb_at 1165 (by decide +kernel) (by decide +kernel)) sl_LW_112.2 rfl rfl (Nat.le_of_ble_eq_true rfl) (by omega) (by omega) (by omega) (c_LW_sheet (n := n) hC (by omega) (Nat.le_refl _) (Nat.le_refl _) hS (fun μ' code f s X w => ⟨code, rfl, f, X, w⟩)) (fun v1 μ1 s1 q1 => ?_)
  obtain ⟨code, e, f1, X1, w1⟩ := q1
  cases e
  have m1 : MI μ1 T C Ct D t L x := hM.tr f1.m40
  have r1 := hR.e8 f1
  refine Wa.istore (i := 5) d_LA_551 (by decide) rfl ?_
  refine Wa.aload_n (j := 3) d_LA_553 rfl ?_
  refine Wx.arg (k := 1) (j0 := 1) (j4 := 5) d_LA_554 d_LA_555 d_LA_557 d_LA_558 d_LA_559 rfl rfl r1 (by omega) hL ?_
  refine Wx.arg (k := 2) (j0 := 1) (j4 := 5) d_LA_560 d_LA_561 d_LA_563 d_LA_564 d_LA_565 rfl rfl r1 (by omega) hL ?_
  refine Wx.cVi (q := E_MM) (As := [.int (xs (i + 1)), .int (xs (i + 2))]) 11 (d - 1) 0 0 (fun v μ' => FrX μ1 μ' ∧ MI μ' T C Ct D t L x ∧ MO (rvSheet T D (xs (i + 1)) (xs (i + 2))) (some (.int v)) μ') d_LA_566 mok_MM_sheet vl_LW_114 rfl rfl rfl (Nat.le_of_ble_eq_true rfl) (by omega) (by omega) (by omega) (s_40 s1 (by decide)) (c_MM_sheet m1 (by omega) s1 (fun μ' r f s X w => MO.pack f X w)) (fun v2 μ2 s2 q2 => ?_)
  obtain ⟨f2, X2, w2⟩ := q2
  have r2 := r1.x f2
  have C2 := X1.tr f2.c8
  obtain ⟨a1, a2⟩ := same_ans (exo_sheet (T := T) (C := C) (Ct := Ct) (D := D) (t := t) (L := L) (x := x)) (by decide) w1 w2 (f2.2.1.L (κ := 90) (by decide) (by decide))
  refine Wa.istore (i := 6) d_LA_569 (by decide) rfl ?_
  refine Wa.aload_n (j := 4) d_LA_571 rfl ?_
  refine Wx.cVi (q := E_MM) (As := []) 11 (d - 1) 0 0 (fun v μ' => v = v1 ∧ μ' = μ2) d_LA_572 mok_MM_thrown vl_LW_86 rfl rfl rfl (Nat.le_of_ble_eq_true rfl) (by omega) (Nat.zero_le _) (Nat.zero_le _) (s_40 s2 (by decide)) (c_MM_thrown (by omega) s2 ⟨_, rfl, a1, rfl⟩) (fun v3 μ3 s3 q3 => ?_)
  obtain ⟨e3, e4⟩ := q3
  rw [e3, e4]
  have li : LI μ2 (n + 1) := ⟨_, _, _, _, _, _, _, C2, X2, hN.same hn⟩
  refine Wa.iload (j := 1) d_LA_575 rfl ?_
  refine Wa.icmp_eq 582 d_LA_577 (by decide) (fun _ => ?_) (fun h => absurd rfl h)
  refine Wa.iload (j := 1) d_LA_582 rfl ?_
  refine Wa.if_ne 599 d_LA_584 (by decide) (fun _ => ?_) (fun h0 => ?_)
  · refine Wa.goto 1579 d_LA_599 (by decide) ?_
    exact Wa.loc [2, 3, 4, 5, 6] rfl (next _ _ μ2 (by omega) (by omega) s2 r2 li)
  · refine Wa.aload_n (j := 5) d_LA_587 rfl ?_
    refine Wa.iconst (v := 0) d_LA_588 rfl ?_
    refine Wa.lald d_LA_589 (s_90 s2 (by decide)) (vp_in_nI (n := 0) (N := 1) (by decide) (by decide)) ?_
    refine Wa.iload (j := 0) d_LA_590 rfl ?_
    refine Wa.i2l d_LA_592 ?_
    refine Wa.lcmp d_LA_593 ?_
    refine Wa.if_eq 599 d_LA_594 (by decide) (fun _ => ?_) (fun h => absurd ((lg_cmp_eq _ _).mpr (a2 h0)) h)
    refine Wa.goto 1579 d_LA_599 (by decide) ?_
    exact Wa.loc [2, 3, 4, 5, 6] rfl (next _ _ μ2 (by omega) (by omega) s2 r2 li)
theorem lb_stamp {d rc rs n Ls i : Nat} {xs : Nat → Int32} {Q : Option Value → Mu → Prop} {μ : Mu} (hD : 113 ≤ d) (hc : 13 ≤ rc) (hs : 1386 ≤ rs) (hS : St μ) (hR : SCR μ Ls xs) (hi : i + 6 ≤ Ls) (hL : Ls ≤ 3072) (hn : n + 1 ≤ 512) (hI : LI μ n) (next : LNx d rc rs n i Ls xs Q) : Wx K_LA d rc rs Q 602 [(0, .ref (hd 6 0)), (1, .ref (hd 8 0)), (2, .ref (hd 40 0)), (3, .ref (hd 90 0)), (4, .int (nI i))] [] μ := by
  obtain ⟨T, C, Ct, D, t, L, x, hC, hM, hN⟩ := hI
  refine Wa.aload_n (j := 1) d_LA_602 rfl ?_
  refine Wx.arg (k := 1) (j0 := 0) (j4 := 4) d_LA_603 d_LA_604 d_LA_606 d_LA_607 d_LA_608 rfl rfl hR (by omega) hL ?_
  refine Wx.arg (k := 2) (j0 := 0) (j4 := 4) d_LA_609 d_LA_610 d_LA_612 d_LA_613 d_LA_614 rfl rfl hR (by omega) hL ?_
  refine Wa.aload_n (j := 3) d_LA_615 rfl ?_
  refine Wx.callH (K' := K_LW_stamp) (hh := hh_stamp) (As := [.ref (hd 8 0), .int (xs (i + 1)), .int (xs (i + 2)), .ref (hd 90 0)]) (d - 1) 1 6 (Q' := fun r μ' => ∃ code, r = some (.int code) ∧ Fr OwE8 μ μ' ∧ CI μ' T C Ct D t L x ∧ WO (rvStamp T D (xs (i + 1)) (xs (i + 2))) code μ') d_LA_616 moh_stamp (tb_at 1177 (by decide +kernel) (by decide +kernel)) sl_LW_115.2 rfl rfl (Nat.le_of_ble_eq_true rfl) (by omega) (by omega) (by omega) (c_LW_stamp (n := n) hC (by omega) (Nat.le_refl _) (Nat.le_refl _) hS (fun μ' code f s X w => ⟨code, rfl, f, X, w⟩)) (fun v1 μ1 s1 q1 => ?_)
  obtain ⟨code, e, f1, X1, w1⟩ := q1
  cases e
  have m1 : MI μ1 T C Ct D t L x := hM.tr f1.m40
  have r1 := hR.e8 f1
  refine Wa.istore (i := 5) d_LA_619 (by decide) rfl ?_
  refine Wa.aload_n (j := 3) d_LA_621 rfl ?_
  refine Wx.arg (k := 1) (j0 := 1) (j4 := 5) d_LA_622 d_LA_623 d_LA_625 d_LA_626 d_LA_627 rfl rfl r1 (by omega) hL ?_
  refine Wx.arg (k := 2) (j0 := 1) (j4 := 5) d_LA_628 d_LA_629 d_LA_631 d_LA_632 d_LA_633 rfl rfl r1 (by omega) hL ?_
  refine Wx.cVi (q := E_MM) (As := [.int (xs (i + 1)), .int (xs (i + 2))]) 11 (d - 1) 0 0 (fun v μ' => FrX μ1 μ' ∧ MI μ' T C Ct D t L x ∧ MO (rvStamp T D (xs (i + 1)) (xs (i + 2))) (some (.int v)) μ') d_LA_634 mok_MM_stamp vl_LW_117 rfl rfl rfl (Nat.le_of_ble_eq_true rfl) (by omega) (by omega) (by omega) (s_40 s1 (by decide)) (c_MM_stamp m1 (by omega) s1 (fun μ' r f s X w => MO.pack f X w)) (fun v2 μ2 s2 q2 => ?_)
  obtain ⟨f2, X2, w2⟩ := q2
  have r2 := r1.x f2
  have C2 := X1.tr f2.c8
  obtain ⟨a1, a2⟩ := same_ans (exo_stamp (T := T) (C := C) (Ct := Ct) (D := D) (t := t) (L := L) (x := x)) (by decide) w1 w2 (f2.2.1.L (κ := 90) (by decide) (by decide))
  refine Wa.istore (i := 6) d_LA_637 (by decide) rfl ?_
  refine Wa.aload_n (j := 4) d_LA_639 rfl ?_
  refine Wx.cVi (q := E_MM) (As := []) 11 (d - 1) 0 0 (fun v μ' => v = v1 ∧ μ' = μ2) d_LA_640 mok_MM_thrown vl_LW_86 rfl rfl rfl (Nat.le_of_ble_eq_true rfl) (by omega) (Nat.zero_le _) (Nat.zero_le _) (s_40 s2 (by decide)) (c_MM_thrown (by omega) s2 ⟨_, rfl, a1, rfl⟩) (fun v3 μ3 s3 q3 => ?_)
  obtain ⟨e3, e4⟩ := q3
  rw [e3, e4]
  have li : LI μ2 (n + 1) := ⟨_, _, _, _, _, _, _, C2, X2, hN.same hn⟩
  refine Wa.iload (j := 1) d_LA_643 rfl ?_
  refine Wa.icmp_eq 650 d_LA_645 (by decide) (fun _ => ?_) (fun h => absurd rfl h)
  refine Wa.iload (j := 1) d_LA_650 rfl ?_
  refine Wa.if_ne 667 d_LA_652 (by decide) (fun _ => ?_) (fun h0 => ?_)
  · refine Wa.goto 1579 d_LA_667 (by decide) ?_
    exact Wa.loc [2, 3, 4, 5, 6] rfl (next _ _ μ2 (by omega) (by omega) s2 r2 li)
  · refine Wa.aload_n (j := 5) d_LA_655 rfl ?_
    refine Wa.iconst (v := 0) d_LA_656 rfl ?_
    refine Wa.lald d_LA_657 (s_90 s2 (by decide)) (vp_in_nI (n := 0) (N := 1) (by decide) (by decide)) ?_
    refine Wa.iload (j := 0) d_LA_658 rfl ?_
    refine Wa.i2l d_LA_660 ?_
    refine Wa.lcmp d_LA_661 ?_
    refine Wa.if_eq 667 d_LA_662 (by decide) (fun _ => ?_) (fun h => absurd ((lg_cmp_eq _ _).mpr (a2 h0)) h)
    refine Wa.goto 1579 d_LA_667 (by decide) ?_
    exact Wa.loc [2, 3, 4, 5, 6] rfl (next _ _ μ2 (by omega) (by omega) s2 r2 li)
theorem lb_shown {d rc rs n Ls i : Nat} {xs : Nat → Int32} {Q : Option Value → Mu → Prop} {μ : Mu} (hD : 113 ≤ d) (hc : 13 ≤ rc) (hs : 1386 ≤ rs) (hS : St μ) (hR : SCR μ Ls xs) (hi : i + 6 ≤ Ls) (hL : Ls ≤ 3072) (hn : n + 1 ≤ 512) (hI : LI μ n) (next : LNx d rc rs n i Ls xs Q) : Wx K_LA d rc rs Q 670 [(0, .ref (hd 6 0)), (1, .ref (hd 8 0)), (2, .ref (hd 40 0)), (3, .ref (hd 90 0)), (4, .int (nI i))] [] μ := by
  obtain ⟨T, C, Ct, D, t, L, x, hC, hM, hN⟩ := hI
  refine Wa.aload_n (j := 1) d_LA_670 rfl ?_
  refine Wx.arg (k := 1) (j0 := 0) (j4 := 4) d_LA_671 d_LA_672 d_LA_674 d_LA_675 d_LA_676 rfl rfl hR (by omega) hL ?_
  refine Wx.arg (k := 2) (j0 := 0) (j4 := 4) d_LA_677 d_LA_678 d_LA_680 d_LA_681 d_LA_682 rfl rfl hR (by omega) hL ?_
  refine Wx.arg (k := 3) (j0 := 0) (j4 := 4) d_LA_683 d_LA_684 d_LA_686 d_LA_687 d_LA_688 rfl rfl hR (by omega) hL ?_
  refine Wa.aload_n (j := 3) d_LA_689 rfl ?_
  refine Wx.callH (K' := K_LW_shown) (hh := hh_shown) (As := [.ref (hd 8 0), .int (xs (i + 1)), .int (xs (i + 2)), .int (xs (i + 3)), .ref (hd 90 0)]) (d - 1) 1 6 (Q' := fun r μ' => ∃ code, r = some (.int code) ∧ Fr OwE8 μ μ' ∧ CI μ' T C Ct D t L x ∧ WO (rvShown T D (xs (i + 1)) (xs (i + 2)) (xs (i + 3))) code μ') d_LA_690 moh_shown (tb_at 1185 (by decide +kernel) (by decide +kernel)) sl_LW_118.2 rfl rfl (Nat.le_of_ble_eq_true rfl) (by omega) (by omega) (by omega) (c_LW_shown (n := n) hC (by omega) (Nat.le_refl _) (Nat.le_refl _) hS (fun μ' code f s X w => ⟨code, rfl, f, X, w⟩)) (fun v1 μ1 s1 q1 => ?_)
  obtain ⟨code, e, f1, X1, w1⟩ := q1
  cases e
  have m1 : MI μ1 T C Ct D t L x := hM.tr f1.m40
  have r1 := hR.e8 f1
  refine Wa.istore (i := 5) d_LA_693 (by decide) rfl ?_
  refine Wa.aload_n (j := 3) d_LA_695 rfl ?_
  refine Wx.arg (k := 1) (j0 := 1) (j4 := 5) d_LA_696 d_LA_697 d_LA_699 d_LA_700 d_LA_701 rfl rfl r1 (by omega) hL ?_
  refine Wx.arg (k := 2) (j0 := 1) (j4 := 5) d_LA_702 d_LA_703 d_LA_705 d_LA_706 d_LA_707 rfl rfl r1 (by omega) hL ?_
  refine Wx.arg (k := 3) (j0 := 1) (j4 := 5) d_LA_708 d_LA_709 d_LA_711 d_LA_712 d_LA_713 rfl rfl r1 (by omega) hL ?_
  refine Wx.cVi (q := E_MM) (As := [.int (xs (i + 1)), .int (xs (i + 2)), .int (xs (i + 3))]) 11 (d - 1) 0 0 (fun v μ' => FrX μ1 μ' ∧ MI μ' T C Ct D t L x ∧ MO (rvShown T D (xs (i + 1)) (xs (i + 2)) (xs (i + 3))) (some (.int v)) μ') d_LA_714 mok_MM_shown vl_LW_121 rfl rfl rfl (Nat.le_of_ble_eq_true rfl) (by omega) (by omega) (by omega) (s_40 s1 (by decide)) (c_MM_shown m1 (by omega) s1 (fun μ' r f s X w => MO.pack f X w)) (fun v2 μ2 s2 q2 => ?_)
  obtain ⟨f2, X2, w2⟩ := q2
  have r2 := r1.x f2
  have C2 := X1.tr f2.c8
  obtain ⟨a1, a2⟩ := same_ans (exo_shown (T := T) (C := C) (Ct := Ct) (D := D) (t := t) (L := L) (x := x)) (by decide) w1 w2 (f2.2.1.L (κ := 90) (by decide) (by decide))
  refine Wa.istore (i := 6) d_LA_717 (by decide) rfl ?_
  refine Wa.aload_n (j := 4) d_LA_719 rfl ?_
  refine Wx.cVi (q := E_MM) (As := []) 11 (d - 1) 0 0 (fun v μ' => v = v1 ∧ μ' = μ2) d_LA_720 mok_MM_thrown vl_LW_86 rfl rfl rfl (Nat.le_of_ble_eq_true rfl) (by omega) (Nat.zero_le _) (Nat.zero_le _) (s_40 s2 (by decide)) (c_MM_thrown (by omega) s2 ⟨_, rfl, a1, rfl⟩) (fun v3 μ3 s3 q3 => ?_)
  obtain ⟨e3, e4⟩ := q3
  rw [e3, e4]
  have li : LI μ2 (n + 1) := ⟨_, _, _, _, _, _, _, C2, X2, hN.same hn⟩
  refine Wa.iload (j := 1) d_LA_723 rfl ?_
  refine Wa.icmp_eq 730 d_LA_725 (by decide) (fun _ => ?_) (fun h => absurd rfl h)
  refine Wa.iload (j := 1) d_LA_730 rfl ?_
  refine Wa.if_ne 747 d_LA_732 (by decide) (fun _ => ?_) (fun h0 => ?_)
  · refine Wa.goto 1579 d_LA_747 (by decide) ?_
    exact Wa.loc [2, 3, 4, 5, 6] rfl (next _ _ μ2 (by omega) (by omega) s2 r2 li)
  · refine Wa.aload_n (j := 5) d_LA_735 rfl ?_
    refine Wa.iconst (v := 0) d_LA_736 rfl ?_
    refine Wa.lald d_LA_737 (s_90 s2 (by decide)) (vp_in_nI (n := 0) (N := 1) (by decide) (by decide)) ?_
    refine Wa.iload (j := 0) d_LA_738 rfl ?_
    refine Wa.i2l d_LA_740 ?_
    refine Wa.lcmp d_LA_741 ?_
    refine Wa.if_eq 747 d_LA_742 (by decide) (fun _ => ?_) (fun h => absurd ((lg_cmp_eq _ _).mpr (a2 h0)) h)
    refine Wa.goto 1579 d_LA_747 (by decide) ?_
    exact Wa.loc [2, 3, 4, 5, 6] rfl (next _ _ μ2 (by omega) (by omega) s2 r2 li)
theorem lb_compare {d rc rs n Ls i : Nat} {xs : Nat → Int32} {Q : Option Value → Mu → Prop} {μ : Mu} (hD : 113 ≤ d) (hc : 13 ≤ rc) (hs : 1386 ≤ rs) (hS : St μ) (hR : SCR μ Ls xs) (hi : i + 6 ≤ Ls) (hL : Ls ≤ 3072) (hn : n + 1 ≤ 512) (hI : LI μ n) (next : LNx d rc rs n i Ls xs Q) : Wx K_LA d rc rs Q 750 [(0, .ref (hd 6 0)), (1, .ref (hd 8 0)), (2, .ref (hd 40 0)), (3, .ref (hd 90 0)), (4, .int (nI i))] [] μ := by
  obtain ⟨T, C, Ct, D, t, L, x, hC, hM, hN⟩ := hI
  refine Wa.aload_n (j := 1) d_LA_750 rfl ?_
  refine Wx.arg (k := 1) (j0 := 0) (j4 := 4) d_LA_751 d_LA_752 d_LA_754 d_LA_755 d_LA_756 rfl rfl hR (by omega) hL ?_
  refine Wx.arg (k := 2) (j0 := 0) (j4 := 4) d_LA_757 d_LA_758 d_LA_760 d_LA_761 d_LA_762 rfl rfl hR (by omega) hL ?_
  refine Wa.aload_n (j := 3) d_LA_763 rfl ?_
  refine Wx.callH (K' := K_LW_compare) (hh := hh_compare) (As := [.ref (hd 8 0), .int (xs (i + 1)), .int (xs (i + 2)), .ref (hd 90 0)]) (d - 1) 1 6 (Q' := fun r μ' => ∃ code, r = some (.int code) ∧ Fr OwE8 μ μ' ∧ CI μ' T C Ct D t L x ∧ WO (rvCompare D (xs (i + 1)) (xs (i + 2))) code μ') d_LA_764 moh_compare (tb_at 1198 (by decide +kernel) (by decide +kernel)) sl_LW_122.2 rfl rfl (Nat.le_of_ble_eq_true rfl) (by omega) (by omega) (by omega) (c_LW_compare (n := n) hC (by omega) (Nat.le_refl _) (Nat.le_refl _) hS (fun μ' code f s X w => ⟨code, rfl, f, X, w⟩)) (fun v1 μ1 s1 q1 => ?_)
  obtain ⟨code, e, f1, X1, w1⟩ := q1
  cases e
  have m1 : MI μ1 T C Ct D t L x := hM.tr f1.m40
  have r1 := hR.e8 f1
  refine Wa.istore (i := 5) d_LA_767 (by decide) rfl ?_
  refine Wa.aload_n (j := 3) d_LA_769 rfl ?_
  refine Wx.arg (k := 1) (j0 := 1) (j4 := 5) d_LA_770 d_LA_771 d_LA_773 d_LA_774 d_LA_775 rfl rfl r1 (by omega) hL ?_
  refine Wx.arg (k := 2) (j0 := 1) (j4 := 5) d_LA_776 d_LA_777 d_LA_779 d_LA_780 d_LA_781 rfl rfl r1 (by omega) hL ?_
  refine Wx.cVi (q := E_MM) (As := [.int (xs (i + 1)), .int (xs (i + 2))]) 11 (d - 1) 0 0 (fun v μ' => FrX μ1 μ' ∧ MI μ' T C Ct D t L x ∧ MO (rvCompare D (xs (i + 1)) (xs (i + 2))) (some (.int v)) μ') d_LA_782 mok_MM_compare vl_LW_124 rfl rfl rfl (Nat.le_of_ble_eq_true rfl) (by omega) (by omega) (by omega) (s_40 s1 (by decide)) (c_MM_compare m1 (by omega) s1 (fun μ' r f s X w => MO.pack f X w)) (fun v2 μ2 s2 q2 => ?_)
  obtain ⟨f2, X2, w2⟩ := q2
  have r2 := r1.x f2
  have C2 := X1.tr f2.c8
  obtain ⟨a1, a2⟩ := same_ans (exo_compare (T := T) (C := C) (Ct := Ct) (D := D) (t := t) (L := L) (x := x)) (by decide) w1 w2 (f2.2.1.L (κ := 90) (by decide) (by decide))
  refine Wa.istore (i := 6) d_LA_785 (by decide) rfl ?_
  refine Wa.aload_n (j := 4) d_LA_787 rfl ?_
  refine Wx.cVi (q := E_MM) (As := []) 11 (d - 1) 0 0 (fun v μ' => v = v1 ∧ μ' = μ2) d_LA_788 mok_MM_thrown vl_LW_86 rfl rfl rfl (Nat.le_of_ble_eq_true rfl) (by omega) (Nat.zero_le _) (Nat.zero_le _) (s_40 s2 (by decide)) (c_MM_thrown (by omega) s2 ⟨_, rfl, a1, rfl⟩) (fun v3 μ3 s3 q3 => ?_)
  obtain ⟨e3, e4⟩ := q3
  rw [e3, e4]
  have li : LI μ2 (n + 1) := ⟨_, _, _, _, _, _, _, C2, X2, hN.same hn⟩
  refine Wa.iload (j := 1) d_LA_791 rfl ?_
  refine Wa.icmp_eq 798 d_LA_793 (by decide) (fun _ => ?_) (fun h => absurd rfl h)
  refine Wa.iload (j := 1) d_LA_798 rfl ?_
  refine Wa.if_ne 815 d_LA_800 (by decide) (fun _ => ?_) (fun h0 => ?_)
  · refine Wa.goto 1579 d_LA_815 (by decide) ?_
    exact Wa.loc [2, 3, 4, 5, 6] rfl (next _ _ μ2 (by omega) (by omega) s2 r2 li)
  · refine Wa.aload_n (j := 5) d_LA_803 rfl ?_
    refine Wa.iconst (v := 0) d_LA_804 rfl ?_
    refine Wa.lald d_LA_805 (s_90 s2 (by decide)) (vp_in_nI (n := 0) (N := 1) (by decide) (by decide)) ?_
    refine Wa.iload (j := 0) d_LA_806 rfl ?_
    refine Wa.i2l d_LA_808 ?_
    refine Wa.lcmp d_LA_809 ?_
    refine Wa.if_eq 815 d_LA_810 (by decide) (fun _ => ?_) (fun h => absurd ((lg_cmp_eq _ _).mpr (a2 h0)) h)
    refine Wa.goto 1579 d_LA_815 (by decide) ?_
    exact Wa.loc [2, 3, 4, 5, 6] rfl (next _ _ μ2 (by omega) (by omega) s2 r2 li)
theorem lb_road {d rc rs n Ls i : Nat} {xs : Nat → Int32} {Q : Option Value → Mu → Prop} {μ : Mu} (hD : 113 ≤ d) (hc : 13 ≤ rc) (hs : 1386 ≤ rs) (hS : St μ) (hR : SCR μ Ls xs) (hi : i + 6 ≤ Ls) (hL : Ls ≤ 3072) (hn : n + 1 ≤ 512) (hI : LI μ n) (next : LNx d rc rs n i Ls xs Q) : Wx K_LA d rc rs Q 818 [(0, .ref (hd 6 0)), (1, .ref (hd 8 0)), (2, .ref (hd 40 0)), (3, .ref (hd 90 0)), (4, .int (nI i))] [] μ := by
  obtain ⟨T, C, Ct, D, t, L, x, hC, hM, hN⟩ := hI
  refine Wa.aload_n (j := 1) d_LA_818 rfl ?_
  refine Wx.arg (k := 1) (j0 := 0) (j4 := 4) d_LA_819 d_LA_820 d_LA_822 d_LA_823 d_LA_824 rfl rfl hR (by omega) hL ?_
  refine Wx.arg (k := 2) (j0 := 0) (j4 := 4) d_LA_825 d_LA_826 d_LA_828 d_LA_829 d_LA_830 rfl rfl hR (by omega) hL ?_
  refine Wa.aload_n (j := 3) d_LA_831 rfl ?_
  refine Wx.callH (K' := K_LW_road) (hh := hh_road) (As := [.ref (hd 8 0), .int (xs (i + 1)), .int (xs (i + 2)), .ref (hd 90 0)]) (d - 1) 1 6 (Q' := fun r μ' => ∃ code, r = some (.int code) ∧ Fr OwE8 μ μ' ∧ CI μ' T C Ct D t L x ∧ WO (rvRoad T D (xs (i + 1)) (xs (i + 2))) code μ') d_LA_832 moh_road (tb_at 1210 (by decide +kernel) (by decide +kernel)) sl_LW_125.2 rfl rfl (Nat.le_of_ble_eq_true rfl) (by omega) (by omega) (by omega) (c_LW_road (n := n) hC (by omega) (Nat.le_refl _) (Nat.le_refl _) hS (fun μ' code f s X w => ⟨code, rfl, f, X, w⟩)) (fun v1 μ1 s1 q1 => ?_)
  obtain ⟨code, e, f1, X1, w1⟩ := q1
  cases e
  have m1 : MI μ1 T C Ct D t L x := hM.tr f1.m40
  have r1 := hR.e8 f1
  refine Wa.istore (i := 5) d_LA_835 (by decide) rfl ?_
  refine Wa.aload_n (j := 3) d_LA_837 rfl ?_
  refine Wx.arg (k := 1) (j0 := 1) (j4 := 5) d_LA_838 d_LA_839 d_LA_841 d_LA_842 d_LA_843 rfl rfl r1 (by omega) hL ?_
  refine Wx.arg (k := 2) (j0 := 1) (j4 := 5) d_LA_844 d_LA_845 d_LA_847 d_LA_848 d_LA_849 rfl rfl r1 (by omega) hL ?_
  refine Wx.cVi (q := E_MM) (As := [.int (xs (i + 1)), .int (xs (i + 2))]) 11 (d - 1) 0 0 (fun v μ' => FrX μ1 μ' ∧ MI μ' T C Ct D t L x ∧ MO (rvRoad T D (xs (i + 1)) (xs (i + 2))) (some (.int v)) μ') d_LA_850 mok_MM_road vl_LW_127 rfl rfl rfl (Nat.le_of_ble_eq_true rfl) (by omega) (by omega) (by omega) (s_40 s1 (by decide)) (c_MM_road m1 hN.1 (by omega) s1 (fun μ' r f s X w => MO.pack f X w)) (fun v2 μ2 s2 q2 => ?_)
  obtain ⟨f2, X2, w2⟩ := q2
  have r2 := r1.x f2
  have C2 := X1.tr f2.c8
  obtain ⟨a1, a2⟩ := same_ans (exo_road (T := T) (C := C) (Ct := Ct) (D := D) (t := t) (L := L) (x := x)) (by decide) w1 w2 (f2.2.1.L (κ := 90) (by decide) (by decide))
  refine Wa.istore (i := 6) d_LA_853 (by decide) rfl ?_
  refine Wa.aload_n (j := 4) d_LA_855 rfl ?_
  refine Wx.cVi (q := E_MM) (As := []) 11 (d - 1) 0 0 (fun v μ' => v = v1 ∧ μ' = μ2) d_LA_856 mok_MM_thrown vl_LW_86 rfl rfl rfl (Nat.le_of_ble_eq_true rfl) (by omega) (Nat.zero_le _) (Nat.zero_le _) (s_40 s2 (by decide)) (c_MM_thrown (by omega) s2 ⟨_, rfl, a1, rfl⟩) (fun v3 μ3 s3 q3 => ?_)
  obtain ⟨e3, e4⟩ := q3
  rw [e3, e4]
  have li : LI μ2 (n + 1) := ⟨_, _, _, _, _, _, _, C2, X2, hN.same hn⟩
  refine Wa.iload (j := 1) d_LA_859 rfl ?_
  refine Wa.icmp_eq 866 d_LA_861 (by decide) (fun _ => ?_) (fun h => absurd rfl h)
  refine Wa.iload (j := 1) d_LA_866 rfl ?_
  refine Wa.if_ne 883 d_LA_868 (by decide) (fun _ => ?_) (fun h0 => ?_)
  · refine Wa.goto 1579 d_LA_883 (by decide) ?_
    exact Wa.loc [2, 3, 4, 5, 6] rfl (next _ _ μ2 (by omega) (by omega) s2 r2 li)
  · refine Wa.aload_n (j := 5) d_LA_871 rfl ?_
    refine Wa.iconst (v := 0) d_LA_872 rfl ?_
    refine Wa.lald d_LA_873 (s_90 s2 (by decide)) (vp_in_nI (n := 0) (N := 1) (by decide) (by decide)) ?_
    refine Wa.iload (j := 0) d_LA_874 rfl ?_
    refine Wa.i2l d_LA_876 ?_
    refine Wa.lcmp d_LA_877 ?_
    refine Wa.if_eq 883 d_LA_878 (by decide) (fun _ => ?_) (fun h => absurd ((lg_cmp_eq _ _).mpr (a2 h0)) h)
    refine Wa.goto 1579 d_LA_883 (by decide) ?_
    exact Wa.loc [2, 3, 4, 5, 6] rfl (next _ _ μ2 (by omega) (by omega) s2 r2 li)
theorem lb_write {d rc rs n Ls i : Nat} {xs : Nat → Int32} {Q : Option Value → Mu → Prop} {μ : Mu} (hD : 113 ≤ d) (hc : 13 ≤ rc) (hs : 1386 ≤ rs) (hS : St μ) (hR : SCR μ Ls xs) (hi : i + 6 ≤ Ls) (hL : Ls ≤ 3072) (hn : n + 1 ≤ 512) (hI : LI μ n) (next : LNx d rc rs n i Ls xs Q) : Wx K_LA d rc rs Q 886 [(0, .ref (hd 6 0)), (1, .ref (hd 8 0)), (2, .ref (hd 40 0)), (3, .ref (hd 90 0)), (4, .int (nI i))] [] μ := by
  obtain ⟨T, C, Ct, D, t, L, x, hC, hM, hN⟩ := hI
  refine Wa.aload_n (j := 1) d_LA_886 rfl ?_
  refine Wx.arg (k := 1) (j0 := 0) (j4 := 4) d_LA_887 d_LA_888 d_LA_890 d_LA_891 d_LA_892 rfl rfl hR (by omega) hL ?_
  refine Wx.arg (k := 2) (j0 := 0) (j4 := 4) d_LA_893 d_LA_894 d_LA_896 d_LA_897 d_LA_898 rfl rfl hR (by omega) hL ?_
  refine Wx.arg (k := 3) (j0 := 0) (j4 := 4) d_LA_899 d_LA_900 d_LA_902 d_LA_903 d_LA_904 rfl rfl hR (by omega) hL ?_
  refine Wa.aload_n (j := 3) d_LA_905 rfl ?_
  refine Wx.callH (K' := K_LW_write) (hh := hh_write) (As := [.ref (hd 8 0), .int (xs (i + 1)), .int (xs (i + 2)), .int (xs (i + 3)), .ref (hd 90 0)]) (d - 1) 1 6 (Q' := fun r μ' => ∃ code, r = some (.int code) ∧ Fr OwE8 μ μ' ∧ CI μ' T C Ct (dvWrite T D (xs (i + 1)) (xs (i + 2)) (xs (i + 3))).2 t L x ∧ WO (dvWrite T D (xs (i + 1)) (xs (i + 2)) (xs (i + 3))).1 code μ') d_LA_906 moh_write (tb_at 1222 (by decide +kernel) (by decide +kernel)) sl_LW_128.2 rfl rfl (Nat.le_of_ble_eq_true rfl) (by omega) (by omega) (by omega) (c_LW_write (n := n) hC (by omega) (Nat.le_refl _) (Nat.le_refl _) hS (fun μ' code f s X w => ⟨code, rfl, f, X, w⟩)) (fun v1 μ1 s1 q1 => ?_)
  obtain ⟨code, e, f1, X1, w1⟩ := q1
  cases e
  have m1 : MI μ1 T C Ct D t L x := hM.tr f1.m40
  have r1 := hR.e8 f1
  refine Wa.istore (i := 5) d_LA_909 (by decide) rfl ?_
  refine Wa.aload_n (j := 3) d_LA_911 rfl ?_
  refine Wx.arg (k := 1) (j0 := 1) (j4 := 5) d_LA_912 d_LA_913 d_LA_915 d_LA_916 d_LA_917 rfl rfl r1 (by omega) hL ?_
  refine Wx.arg (k := 2) (j0 := 1) (j4 := 5) d_LA_918 d_LA_919 d_LA_921 d_LA_922 d_LA_923 rfl rfl r1 (by omega) hL ?_
  refine Wx.arg (k := 3) (j0 := 1) (j4 := 5) d_LA_924 d_LA_925 d_LA_927 d_LA_928 d_LA_929 rfl rfl r1 (by omega) hL ?_
  refine Wx.cVi (q := E_MM) (As := [.int (xs (i + 1)), .int (xs (i + 2)), .int (xs (i + 3))]) 11 (d - 1) 0 0 (fun v μ' => FrX μ1 μ' ∧ MI μ' T C Ct (dvWrite T D (xs (i + 1)) (xs (i + 2)) (xs (i + 3))).2 t L x ∧ MO (dvWrite T D (xs (i + 1)) (xs (i + 2)) (xs (i + 3))).1 (some (.int v)) μ') d_LA_930 mok_MM_write vl_LW_130 rfl rfl rfl (Nat.le_of_ble_eq_true rfl) (by omega) (by omega) (by omega) (s_40 s1 (by decide)) (c_MM_write m1 (by omega) s1 (fun μ' r f s X w => MO.pack f X w)) (fun v2 μ2 s2 q2 => ?_)
  obtain ⟨f2, X2, w2⟩ := q2
  have r2 := r1.x f2
  have C2 := X1.tr f2.c8
  obtain ⟨a1, a2⟩ := same_ans (exo_write (T := T) (C := C) (Ct := Ct) (D := D) (t := t) (L := L) (x := x)) (by decide) w1 w2 (f2.2.1.L (κ := 90) (by decide) (by decide))
  refine Wa.istore (i := 6) d_LA_933 (by decide) rfl ?_
  refine Wa.aload_n (j := 4) d_LA_935 rfl ?_
  refine Wx.cVi (q := E_MM) (As := []) 11 (d - 1) 0 0 (fun v μ' => v = v1 ∧ μ' = μ2) d_LA_936 mok_MM_thrown vl_LW_86 rfl rfl rfl (Nat.le_of_ble_eq_true rfl) (by omega) (Nat.zero_le _) (Nat.zero_le _) (s_40 s2 (by decide)) (c_MM_thrown (by omega) s2 ⟨_, rfl, a1, rfl⟩) (fun v3 μ3 s3 q3 => ?_)
  obtain ⟨e3, e4⟩ := q3
  rw [e3, e4]
  have li : LI μ2 (n + 1) := ⟨_, _, _, _, _, _, _, C2, X2, hN.write hn⟩
  refine Wa.iload (j := 1) d_LA_939 rfl ?_
  refine Wa.icmp_eq 946 d_LA_941 (by decide) (fun _ => ?_) (fun h => absurd rfl h)
  refine Wa.iload (j := 1) d_LA_946 rfl ?_
  refine Wa.if_ne 963 d_LA_948 (by decide) (fun _ => ?_) (fun h0 => ?_)
  · refine Wa.goto 1579 d_LA_963 (by decide) ?_
    exact Wa.loc [2, 3, 4, 5, 6] rfl (next _ _ μ2 (by omega) (by omega) s2 r2 li)
  · refine Wa.aload_n (j := 5) d_LA_951 rfl ?_
    refine Wa.iconst (v := 0) d_LA_952 rfl ?_
    refine Wa.lald d_LA_953 (s_90 s2 (by decide)) (vp_in_nI (n := 0) (N := 1) (by decide) (by decide)) ?_
    refine Wa.iload (j := 0) d_LA_954 rfl ?_
    refine Wa.i2l d_LA_956 ?_
    refine Wa.lcmp d_LA_957 ?_
    refine Wa.if_eq 963 d_LA_958 (by decide) (fun _ => ?_) (fun h => absurd ((lg_cmp_eq _ _).mpr (a2 h0)) h)
    refine Wa.goto 1579 d_LA_963 (by decide) ?_
    exact Wa.loc [2, 3, 4, 5, 6] rfl (next _ _ μ2 (by omega) (by omega) s2 r2 li)
theorem lb_note {d rc rs n Ls i : Nat} {xs : Nat → Int32} {Q : Option Value → Mu → Prop} {μ : Mu} (hD : 113 ≤ d) (hc : 13 ≤ rc) (hs : 1386 ≤ rs) (hS : St μ) (hR : SCR μ Ls xs) (hi : i + 6 ≤ Ls) (hL : Ls ≤ 3072) (hn : n + 1 ≤ 512) (hI : LI μ n) (next : LNx d rc rs n i Ls xs Q) : Wx K_LA d rc rs Q 966 [(0, .ref (hd 6 0)), (1, .ref (hd 8 0)), (2, .ref (hd 40 0)), (3, .ref (hd 90 0)), (4, .int (nI i))] [] μ := by
  obtain ⟨T, C, Ct, D, t, L, x, hC, hM, hN⟩ := hI
  refine Wa.aload_n (j := 1) d_LA_966 rfl ?_
  refine Wx.arg (k := 1) (j0 := 0) (j4 := 4) d_LA_967 d_LA_968 d_LA_970 d_LA_971 d_LA_972 rfl rfl hR (by omega) hL ?_
  refine Wx.arg (k := 2) (j0 := 0) (j4 := 4) d_LA_973 d_LA_974 d_LA_976 d_LA_977 d_LA_978 rfl rfl hR (by omega) hL ?_
  refine Wx.arg (k := 3) (j0 := 0) (j4 := 4) d_LA_979 d_LA_980 d_LA_982 d_LA_983 d_LA_984 rfl rfl hR (by omega) hL ?_
  refine Wa.aload_n (j := 3) d_LA_985 rfl ?_
  refine Wx.callH (K' := K_LW_note) (hh := hh_note) (As := [.ref (hd 8 0), .int (xs (i + 1)), .int (xs (i + 2)), .int (xs (i + 3)), .ref (hd 90 0)]) (d - 1) 1 6 (Q' := fun r μ' => ∃ code, r = some (.int code) ∧ Fr OwE8 μ μ' ∧ CI μ' T C Ct (dvNote T D (xs (i + 1)) (xs (i + 2)) (xs (i + 3))).2 t L x ∧ WO (dvNote T D (xs (i + 1)) (xs (i + 2)) (xs (i + 3))).1 code μ') d_LA_986 moh_note (tb_at 1253 (by decide +kernel) (by decide +kernel)) sl_LW_131.2 rfl rfl (Nat.le_of_ble_eq_true rfl) (by omega) (by omega) (by omega) (c_LW_note (n := n) hC (by omega) (Nat.le_refl _) (Nat.le_refl _) hS (fun μ' code f s X w => ⟨code, rfl, f, X, w⟩)) (fun v1 μ1 s1 q1 => ?_)
  obtain ⟨code, e, f1, X1, w1⟩ := q1
  cases e
  have m1 : MI μ1 T C Ct D t L x := hM.tr f1.m40
  have r1 := hR.e8 f1
  refine Wa.istore (i := 5) d_LA_989 (by decide) rfl ?_
  refine Wa.aload_n (j := 3) d_LA_991 rfl ?_
  refine Wx.arg (k := 1) (j0 := 1) (j4 := 5) d_LA_992 d_LA_993 d_LA_995 d_LA_996 d_LA_997 rfl rfl r1 (by omega) hL ?_
  refine Wx.arg (k := 2) (j0 := 1) (j4 := 5) d_LA_998 d_LA_999 d_LA_1001 d_LA_1002 d_LA_1003 rfl rfl r1 (by omega) hL ?_
  refine Wx.arg (k := 3) (j0 := 1) (j4 := 5) d_LA_1004 d_LA_1005 d_LA_1007 d_LA_1008 d_LA_1009 rfl rfl r1 (by omega) hL ?_
  refine Wx.cVi (q := E_MM) (As := [.int (xs (i + 1)), .int (xs (i + 2)), .int (xs (i + 3))]) 11 (d - 1) 0 0 (fun v μ' => FrX μ1 μ' ∧ MI μ' T C Ct (dvNote T D (xs (i + 1)) (xs (i + 2)) (xs (i + 3))).2 t L x ∧ MO (dvNote T D (xs (i + 1)) (xs (i + 2)) (xs (i + 3))).1 (some (.int v)) μ') d_LA_1010 mok_MM_note vl_LW_133 rfl rfl rfl (Nat.le_of_ble_eq_true rfl) (by omega) (by omega) (by omega) (s_40 s1 (by decide)) (c_MM_note m1 (by omega) s1 (fun μ' r f s X w => MO.pack f X w)) (fun v2 μ2 s2 q2 => ?_)
  obtain ⟨f2, X2, w2⟩ := q2
  have r2 := r1.x f2
  have C2 := X1.tr f2.c8
  obtain ⟨a1, a2⟩ := same_ans (exo_note (T := T) (C := C) (Ct := Ct) (D := D) (t := t) (L := L) (x := x)) (by decide) w1 w2 (f2.2.1.L (κ := 90) (by decide) (by decide))
  refine Wa.istore (i := 6) d_LA_1013 (by decide) rfl ?_
  refine Wa.aload_n (j := 4) d_LA_1015 rfl ?_
  refine Wx.cVi (q := E_MM) (As := []) 11 (d - 1) 0 0 (fun v μ' => v = v1 ∧ μ' = μ2) d_LA_1016 mok_MM_thrown vl_LW_86 rfl rfl rfl (Nat.le_of_ble_eq_true rfl) (by omega) (Nat.zero_le _) (Nat.zero_le _) (s_40 s2 (by decide)) (c_MM_thrown (by omega) s2 ⟨_, rfl, a1, rfl⟩) (fun v3 μ3 s3 q3 => ?_)
  obtain ⟨e3, e4⟩ := q3
  rw [e3, e4]
  have li : LI μ2 (n + 1) := ⟨_, _, _, _, _, _, _, C2, X2, hN.note hn⟩
  refine Wa.iload (j := 1) d_LA_1019 rfl ?_
  refine Wa.icmp_eq 1026 d_LA_1021 (by decide) (fun _ => ?_) (fun h => absurd rfl h)
  refine Wa.iload (j := 1) d_LA_1026 rfl ?_
  refine Wa.if_ne 1043 d_LA_1028 (by decide) (fun _ => ?_) (fun h0 => ?_)
  · refine Wa.goto 1579 d_LA_1043 (by decide) ?_
    exact Wa.loc [2, 3, 4, 5, 6] rfl (next _ _ μ2 (by omega) (by omega) s2 r2 li)
  · refine Wa.aload_n (j := 5) d_LA_1031 rfl ?_
    refine Wa.iconst (v := 0) d_LA_1032 rfl ?_
    refine Wa.lald d_LA_1033 (s_90 s2 (by decide)) (vp_in_nI (n := 0) (N := 1) (by decide) (by decide)) ?_
    refine Wa.iload (j := 0) d_LA_1034 rfl ?_
    refine Wa.i2l d_LA_1036 ?_
    refine Wa.lcmp d_LA_1037 ?_
    refine Wa.if_eq 1043 d_LA_1038 (by decide) (fun _ => ?_) (fun h => absurd ((lg_cmp_eq _ _).mpr (a2 h0)) h)
    refine Wa.goto 1579 d_LA_1043 (by decide) ?_
    exact Wa.loc [2, 3, 4, 5, 6] rfl (next _ _ μ2 (by omega) (by omega) s2 r2 li)
theorem lb_merge {d rc rs n Ls i : Nat} {xs : Nat → Int32} {Q : Option Value → Mu → Prop} {μ : Mu} (hD : 113 ≤ d) (hc : 13 ≤ rc) (hs : 1386 ≤ rs) (hS : St μ) (hR : SCR μ Ls xs) (hi : i + 6 ≤ Ls) (hL : Ls ≤ 3072) (hn : n + 1 ≤ 512) (hI : LI μ n) (next : LNx d rc rs n i Ls xs Q) : Wx K_LA d rc rs Q 1046 [(0, .ref (hd 6 0)), (1, .ref (hd 8 0)), (2, .ref (hd 40 0)), (3, .ref (hd 90 0)), (4, .int (nI i))] [] μ := by
  obtain ⟨T, C, Ct, D, t, L, x, hC, hM, hN⟩ := hI
  refine Wa.aload_n (j := 1) d_LA_1046 rfl ?_
  refine Wx.arg (k := 1) (j0 := 0) (j4 := 4) d_LA_1047 d_LA_1048 d_LA_1050 d_LA_1051 d_LA_1052 rfl rfl hR (by omega) hL ?_
  refine Wx.arg (k := 2) (j0 := 0) (j4 := 4) d_LA_1053 d_LA_1054 d_LA_1056 d_LA_1057 d_LA_1058 rfl rfl hR (by omega) hL ?_
  refine Wx.arg (k := 3) (j0 := 0) (j4 := 4) d_LA_1059 d_LA_1060 d_LA_1062 d_LA_1063 d_LA_1064 rfl rfl hR (by omega) hL ?_
  refine Wa.aload_n (j := 3) d_LA_1065 rfl ?_
  refine Wx.callH (K' := K_LW_merge) (hh := hh_merge) (As := [.ref (hd 8 0), .int (xs (i + 1)), .int (xs (i + 2)), .int (xs (i + 3)), .ref (hd 90 0)]) (d - 1) 1 6 (Q' := fun r μ' => ∃ code, r = some (.int code) ∧ Fr OwE8 μ μ' ∧ CI μ' T C Ct (dvMerge T D (xs (i + 1)) (xs (i + 2)) (xs (i + 3))).2 t L x ∧ WO (dvMerge T D (xs (i + 1)) (xs (i + 2)) (xs (i + 3))).1 code μ') d_LA_1066 moh_merge (tb_at 1289 (by decide +kernel) (by decide +kernel)) sl_LW_134.2 rfl rfl (Nat.le_of_ble_eq_true rfl) (by omega) (by omega) (by omega) (c_LW_merge (n := n) hC (by omega) (Nat.le_refl _) (Nat.le_refl _) hS (fun μ' code f s X w => ⟨code, rfl, f, X, w⟩)) (fun v1 μ1 s1 q1 => ?_)
  obtain ⟨code, e, f1, X1, w1⟩ := q1
  cases e
  have m1 : MI μ1 T C Ct D t L x := hM.tr f1.m40
  have r1 := hR.e8 f1
  refine Wa.istore (i := 5) d_LA_1069 (by decide) rfl ?_
  refine Wa.aload_n (j := 3) d_LA_1071 rfl ?_
  refine Wx.arg (k := 1) (j0 := 1) (j4 := 5) d_LA_1072 d_LA_1073 d_LA_1075 d_LA_1076 d_LA_1077 rfl rfl r1 (by omega) hL ?_
  refine Wx.arg (k := 2) (j0 := 1) (j4 := 5) d_LA_1078 d_LA_1079 d_LA_1081 d_LA_1082 d_LA_1083 rfl rfl r1 (by omega) hL ?_
  refine Wx.arg (k := 3) (j0 := 1) (j4 := 5) d_LA_1084 d_LA_1085 d_LA_1087 d_LA_1088 d_LA_1089 rfl rfl r1 (by omega) hL ?_
  refine Wx.cVi (q := E_MM) (As := [.int (xs (i + 1)), .int (xs (i + 2)), .int (xs (i + 3))]) 11 (d - 1) 0 0 (fun v μ' => FrX μ1 μ' ∧ MI μ' T C Ct (dvMerge T D (xs (i + 1)) (xs (i + 2)) (xs (i + 3))).2 t L x ∧ MO (dvMerge T D (xs (i + 1)) (xs (i + 2)) (xs (i + 3))).1 (some (.int v)) μ') d_LA_1090 mok_MM_merge vl_LW_136 rfl rfl rfl (Nat.le_of_ble_eq_true rfl) (by omega) (by omega) (by omega) (s_40 s1 (by decide)) (c_MM_merge m1 (by omega) s1 (fun μ' r f s X w => MO.pack f X w)) (fun v2 μ2 s2 q2 => ?_)
  obtain ⟨f2, X2, w2⟩ := q2
  have r2 := r1.x f2
  have C2 := X1.tr f2.c8
  obtain ⟨a1, a2⟩ := same_ans (exo_merge (T := T) (C := C) (Ct := Ct) (D := D) (t := t) (L := L) (x := x)) (by decide) w1 w2 (f2.2.1.L (κ := 90) (by decide) (by decide))
  refine Wa.istore (i := 6) d_LA_1093 (by decide) rfl ?_
  refine Wa.aload_n (j := 4) d_LA_1095 rfl ?_
  refine Wx.cVi (q := E_MM) (As := []) 11 (d - 1) 0 0 (fun v μ' => v = v1 ∧ μ' = μ2) d_LA_1096 mok_MM_thrown vl_LW_86 rfl rfl rfl (Nat.le_of_ble_eq_true rfl) (by omega) (Nat.zero_le _) (Nat.zero_le _) (s_40 s2 (by decide)) (c_MM_thrown (by omega) s2 ⟨_, rfl, a1, rfl⟩) (fun v3 μ3 s3 q3 => ?_)
  obtain ⟨e3, e4⟩ := q3
  rw [e3, e4]
  have li : LI μ2 (n + 1) := ⟨_, _, _, _, _, _, _, C2, X2, hN.merge hn⟩
  refine Wa.iload (j := 1) d_LA_1099 rfl ?_
  refine Wa.icmp_eq 1106 d_LA_1101 (by decide) (fun _ => ?_) (fun h => absurd rfl h)
  refine Wa.iload (j := 1) d_LA_1106 rfl ?_
  refine Wa.if_ne 1123 d_LA_1108 (by decide) (fun _ => ?_) (fun h0 => ?_)
  · refine Wa.goto 1579 d_LA_1123 (by decide) ?_
    exact Wa.loc [2, 3, 4, 5, 6] rfl (next _ _ μ2 (by omega) (by omega) s2 r2 li)
  · refine Wa.aload_n (j := 5) d_LA_1111 rfl ?_
    refine Wa.iconst (v := 0) d_LA_1112 rfl ?_
    refine Wa.lald d_LA_1113 (s_90 s2 (by decide)) (vp_in_nI (n := 0) (N := 1) (by decide) (by decide)) ?_
    refine Wa.iload (j := 0) d_LA_1114 rfl ?_
    refine Wa.i2l d_LA_1116 ?_
    refine Wa.lcmp d_LA_1117 ?_
    refine Wa.if_eq 1123 d_LA_1118 (by decide) (fun _ => ?_) (fun h => absurd ((lg_cmp_eq _ _).mpr (a2 h0)) h)
    refine Wa.goto 1579 d_LA_1123 (by decide) ?_
    exact Wa.loc [2, 3, 4, 5, 6] rfl (next _ _ μ2 (by omega) (by omega) s2 r2 li)
theorem lb_send {d rc rs n Ls i : Nat} {xs : Nat → Int32} {Q : Option Value → Mu → Prop} {μ : Mu} (hD : 113 ≤ d) (hc : 13 ≤ rc) (hs : 1386 ≤ rs) (hS : St μ) (hR : SCR μ Ls xs) (hi : i + 6 ≤ Ls) (hL : Ls ≤ 3072) (hn : n + 1 ≤ 512) (hI : LI μ n) (next : LNx d rc rs n i Ls xs Q) : Wx K_LA d rc rs Q 1126 [(0, .ref (hd 6 0)), (1, .ref (hd 8 0)), (2, .ref (hd 40 0)), (3, .ref (hd 90 0)), (4, .int (nI i))] [] μ := by
  obtain ⟨T, C, Ct, D, t, L, x, hC, hM, hN⟩ := hI
  refine Wa.aload_n (j := 1) d_LA_1126 rfl ?_
  refine Wx.arg (k := 1) (j0 := 0) (j4 := 4) d_LA_1127 d_LA_1128 d_LA_1130 d_LA_1131 d_LA_1132 rfl rfl hR (by omega) hL ?_
  refine Wa.aload_n (j := 3) d_LA_1133 rfl ?_
  refine Wx.callH (K' := K_LW_send) (hh := hh_send) (As := [.ref (hd 8 0), .int (xs (i + 1)), .ref (hd 90 0)]) (d - 1) 1 6 (Q' := fun r μ' => ∃ code, r = some (.int code) ∧ Fr OwE8 μ μ' ∧ CI μ' T C Ct (dvSend T D (xs (i + 1))).2 t L x ∧ WO (dvSend T D (xs (i + 1))).1 code μ') d_LA_1134 moh_send (tb_at 1312 (by decide +kernel) (by decide +kernel)) sl_LW_137.2 rfl rfl (Nat.le_of_ble_eq_true rfl) (by omega) (by omega) (by omega) (c_LW_send (n := n) hC (by omega) (Nat.le_refl _) (Nat.le_refl _) hS (fun μ' code f s X w => ⟨code, rfl, f, X, w⟩)) (fun v1 μ1 s1 q1 => ?_)
  obtain ⟨code, e, f1, X1, w1⟩ := q1
  cases e
  have m1 : MI μ1 T C Ct D t L x := hM.tr f1.m40
  have r1 := hR.e8 f1
  refine Wa.istore (i := 5) d_LA_1137 (by decide) rfl ?_
  refine Wa.aload_n (j := 3) d_LA_1139 rfl ?_
  refine Wx.arg (k := 1) (j0 := 1) (j4 := 5) d_LA_1140 d_LA_1141 d_LA_1143 d_LA_1144 d_LA_1145 rfl rfl r1 (by omega) hL ?_
  refine Wx.cVi (q := E_MM) (As := [.int (xs (i + 1))]) 11 (d - 1) 0 0 (fun v μ' => FrX μ1 μ' ∧ MI μ' T C Ct (dvSend T D (xs (i + 1))).2 t L x ∧ MO (dvSend T D (xs (i + 1))).1 (some (.int v)) μ') d_LA_1146 mok_MM_send vl_LW_139 rfl rfl rfl (Nat.le_of_ble_eq_true rfl) (by omega) (by omega) (by omega) (s_40 s1 (by decide)) (c_MM_send m1 hN.1 (by omega) s1 (fun μ' r f s X w => MO.pack f X w)) (fun v2 μ2 s2 q2 => ?_)
  obtain ⟨f2, X2, w2⟩ := q2
  have r2 := r1.x f2
  have C2 := X1.tr f2.c8
  obtain ⟨a1, a2⟩ := same_ans (exo_send (T := T) (C := C) (Ct := Ct) (D := D) (t := t) (L := L) (x := x)) (by decide) w1 w2 (f2.2.1.L (κ := 90) (by decide) (by decide))
  refine Wa.istore (i := 6) d_LA_1149 (by decide) rfl ?_
  refine Wa.aload_n (j := 4) d_LA_1151 rfl ?_
  refine Wx.cVi (q := E_MM) (As := []) 11 (d - 1) 0 0 (fun v μ' => v = v1 ∧ μ' = μ2) d_LA_1152 mok_MM_thrown vl_LW_86 rfl rfl rfl (Nat.le_of_ble_eq_true rfl) (by omega) (Nat.zero_le _) (Nat.zero_le _) (s_40 s2 (by decide)) (c_MM_thrown (by omega) s2 ⟨_, rfl, a1, rfl⟩) (fun v3 μ3 s3 q3 => ?_)
  obtain ⟨e3, e4⟩ := q3
  rw [e3, e4]
  have li : LI μ2 (n + 1) := ⟨_, _, _, _, _, _, _, C2, X2, hN.sent hn⟩
  refine Wa.iload (j := 1) d_LA_1155 rfl ?_
  refine Wa.icmp_eq 1162 d_LA_1157 (by decide) (fun _ => ?_) (fun h => absurd rfl h)
  refine Wa.iload (j := 1) d_LA_1162 rfl ?_
  refine Wa.if_ne 1179 d_LA_1164 (by decide) (fun _ => ?_) (fun h0 => ?_)
  · refine Wa.goto 1579 d_LA_1179 (by decide) ?_
    exact Wa.loc [2, 3, 4, 5, 6] rfl (next _ _ μ2 (by omega) (by omega) s2 r2 li)
  · refine Wa.aload_n (j := 5) d_LA_1167 rfl ?_
    refine Wa.iconst (v := 0) d_LA_1168 rfl ?_
    refine Wa.lald d_LA_1169 (s_90 s2 (by decide)) (vp_in_nI (n := 0) (N := 1) (by decide) (by decide)) ?_
    refine Wa.iload (j := 0) d_LA_1170 rfl ?_
    refine Wa.i2l d_LA_1172 ?_
    refine Wa.lcmp d_LA_1173 ?_
    refine Wa.if_eq 1179 d_LA_1174 (by decide) (fun _ => ?_) (fun h => absurd ((lg_cmp_eq _ _).mpr (a2 h0)) h)
    refine Wa.goto 1579 d_LA_1179 (by decide) ?_
    exact Wa.loc [2, 3, 4, 5, 6] rfl (next _ _ μ2 (by omega) (by omega) s2 r2 li)
theorem lb_setDays {d rc rs n Ls i : Nat} {xs : Nat → Int32} {Q : Option Value → Mu → Prop} {μ : Mu} (hD : 113 ≤ d) (hc : 13 ≤ rc) (hs : 1386 ≤ rs) (hS : St μ) (hR : SCR μ Ls xs) (hi : i + 6 ≤ Ls) (hL : Ls ≤ 3072) (hn : n + 1 ≤ 512) (hI : LI μ n) (next : LNx d rc rs n i Ls xs Q) : Wx K_LA d rc rs Q 1182 [(0, .ref (hd 6 0)), (1, .ref (hd 8 0)), (2, .ref (hd 40 0)), (3, .ref (hd 90 0)), (4, .int (nI i))] [] μ := by
  obtain ⟨T, C, Ct, D, t, L, x, hC, hM, hN⟩ := hI
  refine Wa.aload_n (j := 1) d_LA_1182 rfl ?_
  refine Wx.arg (k := 1) (j0 := 0) (j4 := 4) d_LA_1183 d_LA_1184 d_LA_1186 d_LA_1187 d_LA_1188 rfl rfl hR (by omega) hL ?_
  refine Wx.arg (k := 2) (j0 := 0) (j4 := 4) d_LA_1189 d_LA_1190 d_LA_1192 d_LA_1193 d_LA_1194 rfl rfl hR (by omega) hL ?_
  refine Wa.aload_n (j := 3) d_LA_1195 rfl ?_
  refine Wx.callH (K' := K_LW_setDays) (hh := hh_setDays) (As := [.ref (hd 8 0), .int (xs (i + 1)), .int (xs (i + 2)), .ref (hd 90 0)]) (d - 1) 1 6 (Q' := fun r μ' => ∃ code, r = some (.int code) ∧ Fr OwE8 μ μ' ∧ CI μ' T C Ct (dvSetDays T D (xs (i + 1)) (xs (i + 2))).2 t L x ∧ WO (dvSetDays T D (xs (i + 1)) (xs (i + 2))).1 code μ') d_LA_1196 moh_setDays (tb_at 1324 (by decide +kernel) (by decide +kernel)) sl_LW_140.2 rfl rfl (Nat.le_of_ble_eq_true rfl) (by omega) (by omega) (by omega) (c_LW_setDays (n := n) hC (by omega) (Nat.le_refl _) (Nat.le_refl _) hS (fun μ' code f s X w => ⟨code, rfl, f, X, w⟩)) (fun v1 μ1 s1 q1 => ?_)
  obtain ⟨code, e, f1, X1, w1⟩ := q1
  cases e
  have m1 : MI μ1 T C Ct D t L x := hM.tr f1.m40
  have r1 := hR.e8 f1
  refine Wa.istore (i := 5) d_LA_1199 (by decide) rfl ?_
  refine Wa.aload_n (j := 3) d_LA_1201 rfl ?_
  refine Wx.arg (k := 1) (j0 := 1) (j4 := 5) d_LA_1202 d_LA_1203 d_LA_1205 d_LA_1206 d_LA_1207 rfl rfl r1 (by omega) hL ?_
  refine Wx.arg (k := 2) (j0 := 1) (j4 := 5) d_LA_1208 d_LA_1209 d_LA_1211 d_LA_1212 d_LA_1213 rfl rfl r1 (by omega) hL ?_
  refine Wx.cVi (q := E_MM) (As := [.int (xs (i + 1)), .int (xs (i + 2))]) 11 (d - 1) 0 0 (fun v μ' => FrX μ1 μ' ∧ MI μ' T C Ct (dvSetDays T D (xs (i + 1)) (xs (i + 2))).2 t L x ∧ MO (dvSetDays T D (xs (i + 1)) (xs (i + 2))).1 (some (.int v)) μ') d_LA_1214 mok_MM_setDays vl_LW_142 rfl rfl rfl (Nat.le_of_ble_eq_true rfl) (by omega) (by omega) (by omega) (s_40 s1 (by decide)) (c_MM_setDays m1 (by omega) s1 (fun μ' r f s X w => MO.pack f X w)) (fun v2 μ2 s2 q2 => ?_)
  obtain ⟨f2, X2, w2⟩ := q2
  have r2 := r1.x f2
  have C2 := X1.tr f2.c8
  obtain ⟨a1, a2⟩ := same_ans (exo_setDays (T := T) (C := C) (Ct := Ct) (D := D) (t := t) (L := L) (x := x)) (by decide) w1 w2 (f2.2.1.L (κ := 90) (by decide) (by decide))
  refine Wa.istore (i := 6) d_LA_1217 (by decide) rfl ?_
  refine Wa.aload_n (j := 4) d_LA_1219 rfl ?_
  refine Wx.cVi (q := E_MM) (As := []) 11 (d - 1) 0 0 (fun v μ' => v = v1 ∧ μ' = μ2) d_LA_1220 mok_MM_thrown vl_LW_86 rfl rfl rfl (Nat.le_of_ble_eq_true rfl) (by omega) (Nat.zero_le _) (Nat.zero_le _) (s_40 s2 (by decide)) (c_MM_thrown (by omega) s2 ⟨_, rfl, a1, rfl⟩) (fun v3 μ3 s3 q3 => ?_)
  obtain ⟨e3, e4⟩ := q3
  rw [e3, e4]
  have li : LI μ2 (n + 1) := ⟨_, _, _, _, _, _, _, C2, X2, hN.setDays hn⟩
  refine Wa.iload (j := 1) d_LA_1223 rfl ?_
  refine Wa.icmp_eq 1230 d_LA_1225 (by decide) (fun _ => ?_) (fun h => absurd rfl h)
  refine Wa.iload (j := 1) d_LA_1230 rfl ?_
  refine Wa.if_ne 1247 d_LA_1232 (by decide) (fun _ => ?_) (fun h0 => ?_)
  · refine Wa.goto 1579 d_LA_1247 (by decide) ?_
    exact Wa.loc [2, 3, 4, 5, 6] rfl (next _ _ μ2 (by omega) (by omega) s2 r2 li)
  · refine Wa.aload_n (j := 5) d_LA_1235 rfl ?_
    refine Wa.iconst (v := 0) d_LA_1236 rfl ?_
    refine Wa.lald d_LA_1237 (s_90 s2 (by decide)) (vp_in_nI (n := 0) (N := 1) (by decide) (by decide)) ?_
    refine Wa.iload (j := 0) d_LA_1238 rfl ?_
    refine Wa.i2l d_LA_1240 ?_
    refine Wa.lcmp d_LA_1241 ?_
    refine Wa.if_eq 1247 d_LA_1242 (by decide) (fun _ => ?_) (fun h => absurd ((lg_cmp_eq _ _).mpr (a2 h0)) h)
    refine Wa.goto 1579 d_LA_1247 (by decide) ?_
    exact Wa.loc [2, 3, 4, 5, 6] rfl (next _ _ μ2 (by omega) (by omega) s2 r2 li)
theorem lb_pass {d rc rs n Ls i : Nat} {xs : Nat → Int32} {Q : Option Value → Mu → Prop} {μ : Mu} (hD : 113 ≤ d) (hc : 13 ≤ rc) (hs : 1386 ≤ rs) (hS : St μ) (hR : SCR μ Ls xs) (hi : i + 6 ≤ Ls) (hL : Ls ≤ 3072) (hn : n + 1 ≤ 512) (hI : LI μ n) (next : LNx d rc rs n i Ls xs Q) : Wx K_LA d rc rs Q 1250 [(0, .ref (hd 6 0)), (1, .ref (hd 8 0)), (2, .ref (hd 40 0)), (3, .ref (hd 90 0)), (4, .int (nI i))] [] μ := by
  obtain ⟨T, C, Ct, D, t, L, x, hC, hM, hN⟩ := hI
  refine Wa.aload_n (j := 1) d_LA_1250 rfl ?_
  refine Wx.arg (k := 1) (j0 := 0) (j4 := 4) d_LA_1251 d_LA_1252 d_LA_1254 d_LA_1255 d_LA_1256 rfl rfl hR (by omega) hL ?_
  refine Wa.aload_n (j := 3) d_LA_1257 rfl ?_
  refine Wx.callH (K' := K_LW_pass) (hh := hh_pass) (As := [.ref (hd 8 0), .int (xs (i + 1)), .ref (hd 90 0)]) (d - 1) 1 6 (Q' := fun r μ' => ∃ code, r = some (.int code) ∧ Fr OwE8 μ μ' ∧ CI μ' T C Ct (dvPass T C Ct D (xs (i + 1))).2 t L x ∧ WO (dvPass T C Ct D (xs (i + 1))).1 code μ') d_LA_1258 moh_pass (tb_at 1332 (by decide +kernel) (by decide +kernel)) sl_LW_143.2 rfl rfl (Nat.le_of_ble_eq_true rfl) (by omega) (by omega) (by omega) (c_LW_pass (n := n) hC hN (by omega) (Nat.le_refl _) (Nat.le_refl _) hS (fun μ' code f s X w => ⟨code, rfl, f, X, w⟩)) (fun v1 μ1 s1 q1 => ?_)
  obtain ⟨code, e, f1, X1, w1⟩ := q1
  cases e
  have m1 : MI μ1 T C Ct D t L x := hM.tr f1.m40
  have r1 := hR.e8 f1
  refine Wa.istore (i := 5) d_LA_1261 (by decide) rfl ?_
  refine Wa.aload_n (j := 3) d_LA_1263 rfl ?_
  refine Wx.arg (k := 1) (j0 := 1) (j4 := 5) d_LA_1264 d_LA_1265 d_LA_1267 d_LA_1268 d_LA_1269 rfl rfl r1 (by omega) hL ?_
  refine Wx.cVi (q := E_MM) (As := [.int (xs (i + 1))]) 11 (d - 1) 0 0 (fun v μ' => FrX μ1 μ' ∧ MI μ' T C Ct (dvPass T C Ct D (xs (i + 1))).2 t L x ∧ MO (dvPass T C Ct D (xs (i + 1))).1 (some (.int v)) μ') d_LA_1270 mok_MM_pass vl_LW_145 rfl rfl rfl (Nat.le_of_ble_eq_true rfl) (by omega) (by omega) (by omega) (s_40 s1 (by decide)) (c_MM_pass m1 hN (by omega) s1 (fun μ' r f s X w => MO.pack f X w)) (fun v2 μ2 s2 q2 => ?_)
  obtain ⟨f2, X2, w2⟩ := q2
  have r2 := r1.x f2
  have C2 := X1.tr f2.c8
  obtain ⟨a1, a2⟩ := same_ans (exo_pass (T := T) (C := C) (Ct := Ct) (D := D) (t := t) (L := L) (x := x)) (by decide) w1 w2 (f2.2.1.L (κ := 90) (by decide) (by decide))
  refine Wa.istore (i := 6) d_LA_1273 (by decide) rfl ?_
  refine Wa.aload_n (j := 4) d_LA_1275 rfl ?_
  refine Wx.cVi (q := E_MM) (As := []) 11 (d - 1) 0 0 (fun v μ' => v = v1 ∧ μ' = μ2) d_LA_1276 mok_MM_thrown vl_LW_86 rfl rfl rfl (Nat.le_of_ble_eq_true rfl) (by omega) (Nat.zero_le _) (Nat.zero_le _) (s_40 s2 (by decide)) (c_MM_thrown (by omega) s2 ⟨_, rfl, a1, rfl⟩) (fun v3 μ3 s3 q3 => ?_)
  obtain ⟨e3, e4⟩ := q3
  rw [e3, e4]
  have li : LI μ2 (n + 1) := ⟨_, _, _, _, _, _, _, C2, X2, hN.pass hn⟩
  refine Wa.iload (j := 1) d_LA_1279 rfl ?_
  refine Wa.icmp_eq 1286 d_LA_1281 (by decide) (fun _ => ?_) (fun h => absurd rfl h)
  refine Wa.iload (j := 1) d_LA_1286 rfl ?_
  refine Wa.if_ne 1303 d_LA_1288 (by decide) (fun _ => ?_) (fun h0 => ?_)
  · refine Wa.goto 1579 d_LA_1303 (by decide) ?_
    exact Wa.loc [2, 3, 4, 5, 6] rfl (next _ _ μ2 (by omega) (by omega) s2 r2 li)
  · refine Wa.aload_n (j := 5) d_LA_1291 rfl ?_
    refine Wa.iconst (v := 0) d_LA_1292 rfl ?_
    refine Wa.lald d_LA_1293 (s_90 s2 (by decide)) (vp_in_nI (n := 0) (N := 1) (by decide) (by decide)) ?_
    refine Wa.iload (j := 0) d_LA_1294 rfl ?_
    refine Wa.i2l d_LA_1296 ?_
    refine Wa.lcmp d_LA_1297 ?_
    refine Wa.if_eq 1303 d_LA_1298 (by decide) (fun _ => ?_) (fun h => absurd ((lg_cmp_eq _ _).mpr (a2 h0)) h)
    refine Wa.goto 1579 d_LA_1303 (by decide) ?_
    exact Wa.loc [2, 3, 4, 5, 6] rfl (next _ _ μ2 (by omega) (by omega) s2 r2 li)
theorem lb_foresee {d rc rs n Ls i : Nat} {xs : Nat → Int32} {Q : Option Value → Mu → Prop} {μ : Mu} (hD : 113 ≤ d) (hc : 13 ≤ rc) (hs : 1386 ≤ rs) (hS : St μ) (hR : SCR μ Ls xs) (hi : i + 6 ≤ Ls) (hL : Ls ≤ 3072) (hn : n + 1 ≤ 512) (hI : LI μ n) (next : LNx d rc rs n i Ls xs Q) : Wx K_LA d rc rs Q 1306 [(0, .ref (hd 6 0)), (1, .ref (hd 8 0)), (2, .ref (hd 40 0)), (3, .ref (hd 90 0)), (4, .int (nI i))] [] μ := by
  obtain ⟨T, C, Ct, D, t, L, x, hC, hM, hN⟩ := hI
  refine Wa.aload_n (j := 1) d_LA_1306 rfl ?_
  refine Wx.arg (k := 1) (j0 := 0) (j4 := 4) d_LA_1307 d_LA_1308 d_LA_1310 d_LA_1311 d_LA_1312 rfl rfl hR (by omega) hL ?_
  refine Wx.arg (k := 2) (j0 := 0) (j4 := 4) d_LA_1313 d_LA_1314 d_LA_1316 d_LA_1317 d_LA_1318 rfl rfl hR (by omega) hL ?_
  refine Wa.aload_n (j := 3) d_LA_1319 rfl ?_
  refine Wx.callH (K' := K_LW_foresee) (hh := hh_foresee) (As := [.ref (hd 8 0), .int (xs (i + 1)), .int (xs (i + 2)), .ref (hd 90 0)]) (d - 1) 1 6 (Q' := fun r μ' => ∃ code, r = some (.int code) ∧ Fr OwE8 μ μ' ∧ CI μ' T C Ct D t L x ∧ WO (rvForesee T C Ct D (xs (i + 1)) (xs (i + 2))) code μ') d_LA_1320 moh_foresee (tb_at 1413 (by decide +kernel) (by decide +kernel)) sl_LW_146.2 rfl rfl (Nat.le_of_ble_eq_true rfl) (by omega) (by omega) (by omega) (c_LW_foresee (n := n) hC hN (by omega) (Nat.le_refl _) (Nat.le_refl _) hS (fun μ' code f s X w => ⟨code, rfl, f, X, w⟩)) (fun v1 μ1 s1 q1 => ?_)
  obtain ⟨code, e, f1, X1, w1⟩ := q1
  cases e
  have m1 : MI μ1 T C Ct D t L x := hM.tr f1.m40
  have r1 := hR.e8 f1
  refine Wa.istore (i := 5) d_LA_1323 (by decide) rfl ?_
  refine Wa.aload_n (j := 3) d_LA_1325 rfl ?_
  refine Wx.arg (k := 1) (j0 := 1) (j4 := 5) d_LA_1326 d_LA_1327 d_LA_1329 d_LA_1330 d_LA_1331 rfl rfl r1 (by omega) hL ?_
  refine Wx.arg (k := 2) (j0 := 1) (j4 := 5) d_LA_1332 d_LA_1333 d_LA_1335 d_LA_1336 d_LA_1337 rfl rfl r1 (by omega) hL ?_
  refine Wx.cVi (q := E_MM) (As := [.int (xs (i + 1)), .int (xs (i + 2))]) 11 (d - 1) 0 0 (fun v μ' => FrX μ1 μ' ∧ MI μ' T C Ct D t L x ∧ MO (rvForesee T C Ct D (xs (i + 1)) (xs (i + 2))) (some (.int v)) μ') d_LA_1338 mok_MM_foresee vl_LW_148 rfl rfl rfl (Nat.le_of_ble_eq_true rfl) (by omega) (by omega) (by omega) (s_40 s1 (by decide)) (c_MM_foresee m1 hN (by omega) s1 (fun μ' r f s X w => MO.pack f X w)) (fun v2 μ2 s2 q2 => ?_)
  obtain ⟨f2, X2, w2⟩ := q2
  have r2 := r1.x f2
  have C2 := X1.tr f2.c8
  obtain ⟨a1, a2⟩ := same_ans (exo_foresee (T := T) (C := C) (Ct := Ct) (D := D) (t := t) (L := L) (x := x)) (by decide) w1 w2 (f2.2.1.L (κ := 90) (by decide) (by decide))
  refine Wa.istore (i := 6) d_LA_1341 (by decide) rfl ?_
  refine Wa.aload_n (j := 4) d_LA_1343 rfl ?_
  refine Wx.cVi (q := E_MM) (As := []) 11 (d - 1) 0 0 (fun v μ' => v = v1 ∧ μ' = μ2) d_LA_1344 mok_MM_thrown vl_LW_86 rfl rfl rfl (Nat.le_of_ble_eq_true rfl) (by omega) (Nat.zero_le _) (Nat.zero_le _) (s_40 s2 (by decide)) (c_MM_thrown (by omega) s2 ⟨_, rfl, a1, rfl⟩) (fun v3 μ3 s3 q3 => ?_)
  obtain ⟨e3, e4⟩ := q3
  rw [e3, e4]
  have li : LI μ2 (n + 1) := ⟨_, _, _, _, _, _, _, C2, X2, hN.same hn⟩
  refine Wa.iload (j := 1) d_LA_1347 rfl ?_
  refine Wa.icmp_eq 1354 d_LA_1349 (by decide) (fun _ => ?_) (fun h => absurd rfl h)
  refine Wa.iload (j := 1) d_LA_1354 rfl ?_
  refine Wa.if_ne 1371 d_LA_1356 (by decide) (fun _ => ?_) (fun h0 => ?_)
  · refine Wa.goto 1579 d_LA_1371 (by decide) ?_
    exact Wa.loc [2, 3, 4, 5, 6] rfl (next _ _ μ2 (by omega) (by omega) s2 r2 li)
  · refine Wa.aload_n (j := 5) d_LA_1359 rfl ?_
    refine Wa.iconst (v := 0) d_LA_1360 rfl ?_
    refine Wa.lald d_LA_1361 (s_90 s2 (by decide)) (vp_in_nI (n := 0) (N := 1) (by decide) (by decide)) ?_
    refine Wa.iload (j := 0) d_LA_1362 rfl ?_
    refine Wa.i2l d_LA_1364 ?_
    refine Wa.lcmp d_LA_1365 ?_
    refine Wa.if_eq 1371 d_LA_1366 (by decide) (fun _ => ?_) (fun h => absurd ((lg_cmp_eq _ _).mpr (a2 h0)) h)
    refine Wa.goto 1579 d_LA_1371 (by decide) ?_
    exact Wa.loc [2, 3, 4, 5, 6] rfl (next _ _ μ2 (by omega) (by omega) s2 r2 li)
theorem lb_until {d rc rs n Ls i : Nat} {xs : Nat → Int32} {Q : Option Value → Mu → Prop} {μ : Mu} (hD : 113 ≤ d) (hc : 13 ≤ rc) (hs : 1386 ≤ rs) (hS : St μ) (hR : SCR μ Ls xs) (hi : i + 6 ≤ Ls) (hL : Ls ≤ 3072) (hn : n + 1 ≤ 512) (hI : LI μ n) (next : LNx d rc rs n i Ls xs Q) : Wx K_LA d rc rs Q 1374 [(0, .ref (hd 6 0)), (1, .ref (hd 8 0)), (2, .ref (hd 40 0)), (3, .ref (hd 90 0)), (4, .int (nI i))] [] μ := by
  obtain ⟨T, C, Ct, D, t, L, x, hC, hM, hN⟩ := hI
  refine Wa.aload_n (j := 1) d_LA_1374 rfl ?_
  refine Wx.arg (k := 1) (j0 := 0) (j4 := 4) d_LA_1375 d_LA_1376 d_LA_1378 d_LA_1379 d_LA_1380 rfl rfl hR (by omega) hL ?_
  refine Wx.arg (k := 2) (j0 := 0) (j4 := 4) d_LA_1381 d_LA_1382 d_LA_1384 d_LA_1385 d_LA_1386 rfl rfl hR (by omega) hL ?_
  refine Wa.aload_n (j := 3) d_LA_1387 rfl ?_
  refine Wx.callH (K' := K_LW_until) (hh := hh_until) (As := [.ref (hd 8 0), .int (xs (i + 1)), .int (xs (i + 2)), .ref (hd 90 0)]) (d - 1) 1 6 (Q' := fun r μ' => ∃ code, r = some (.int code) ∧ Fr OwE8 μ μ' ∧ CI μ' T C Ct D t L x ∧ WO (rvUntil T C Ct D (xs (i + 1)) (xs (i + 2))) code μ') d_LA_1388 moh_until (tb_at 1435 (by decide +kernel) (by decide +kernel)) sl_LW_149.2 rfl rfl (Nat.le_of_ble_eq_true rfl) (by omega) (by omega) (by omega) (c_LW_until (n := n) hC hN (by omega) (Nat.le_refl _) (Nat.le_refl _) hS (fun μ' code f s X w => ⟨code, rfl, f, X, w⟩)) (fun v1 μ1 s1 q1 => ?_)
  obtain ⟨code, e, f1, X1, w1⟩ := q1
  cases e
  have m1 : MI μ1 T C Ct D t L x := hM.tr f1.m40
  have r1 := hR.e8 f1
  refine Wa.istore (i := 5) d_LA_1391 (by decide) rfl ?_
  refine Wa.aload_n (j := 3) d_LA_1393 rfl ?_
  refine Wx.arg (k := 1) (j0 := 1) (j4 := 5) d_LA_1394 d_LA_1395 d_LA_1397 d_LA_1398 d_LA_1399 rfl rfl r1 (by omega) hL ?_
  refine Wx.arg (k := 2) (j0 := 1) (j4 := 5) d_LA_1400 d_LA_1401 d_LA_1403 d_LA_1404 d_LA_1405 rfl rfl r1 (by omega) hL ?_
  refine Wx.cVi (q := E_MM) (As := [.int (xs (i + 1)), .int (xs (i + 2))]) 11 (d - 1) 0 0 (fun v μ' => FrX μ1 μ' ∧ MI μ' T C Ct D t L x ∧ MO (rvUntil T C Ct D (xs (i + 1)) (xs (i + 2))) (some (.int v)) μ') d_LA_1406 mok_MM_until vl_LW_151 rfl rfl rfl (Nat.le_of_ble_eq_true rfl) (by omega) (by omega) (by omega) (s_40 s1 (by decide)) (c_MM_until m1 hN (by omega) s1 (fun μ' r f s X w => MO.pack f X w)) (fun v2 μ2 s2 q2 => ?_)
  obtain ⟨f2, X2, w2⟩ := q2
  have r2 := r1.x f2
  have C2 := X1.tr f2.c8
  obtain ⟨a1, a2⟩ := same_ans (exo_until (T := T) (C := C) (Ct := Ct) (D := D) (t := t) (L := L) (x := x)) (by decide) w1 w2 (f2.2.1.L (κ := 90) (by decide) (by decide))
  refine Wa.istore (i := 6) d_LA_1409 (by decide) rfl ?_
  refine Wa.aload_n (j := 4) d_LA_1411 rfl ?_
  refine Wx.cVi (q := E_MM) (As := []) 11 (d - 1) 0 0 (fun v μ' => v = v1 ∧ μ' = μ2) d_LA_1412 mok_MM_thrown vl_LW_86 rfl rfl rfl (Nat.le_of_ble_eq_true rfl) (by omega) (Nat.zero_le _) (Nat.zero_le _) (s_40 s2 (by decide)) (c_MM_thrown (by omega) s2 ⟨_, rfl, a1, rfl⟩) (fun v3 μ3 s3 q3 => ?_)
  obtain ⟨e3, e4⟩ := q3
  rw [e3, e4]
  have li : LI μ2 (n + 1) := ⟨_, _, _, _, _, _, _, C2, X2, hN.same hn⟩
  refine Wa.iload (j := 1) d_LA_1415 rfl ?_
  refine Wa.icmp_eq 1422 d_LA_1417 (by decide) (fun _ => ?_) (fun h => absurd rfl h)
  refine Wa.iload (j := 1) d_LA_1422 rfl ?_
  refine Wa.if_ne 1439 d_LA_1424 (by decide) (fun _ => ?_) (fun h0 => ?_)
  · refine Wa.goto 1579 d_LA_1439 (by decide) ?_
    exact Wa.loc [2, 3, 4, 5, 6] rfl (next _ _ μ2 (by omega) (by omega) s2 r2 li)
  · refine Wa.aload_n (j := 5) d_LA_1427 rfl ?_
    refine Wa.iconst (v := 0) d_LA_1428 rfl ?_
    refine Wa.lald d_LA_1429 (s_90 s2 (by decide)) (vp_in_nI (n := 0) (N := 1) (by decide) (by decide)) ?_
    refine Wa.iload (j := 0) d_LA_1430 rfl ?_
    refine Wa.i2l d_LA_1432 ?_
    refine Wa.lcmp d_LA_1433 ?_
    refine Wa.if_eq 1439 d_LA_1434 (by decide) (fun _ => ?_) (fun h => absurd ((lg_cmp_eq _ _).mpr (a2 h0)) h)
    refine Wa.goto 1579 d_LA_1439 (by decide) ?_
    exact Wa.loc [2, 3, 4, 5, 6] rfl (next _ _ μ2 (by omega) (by omega) s2 r2 li)
theorem lb_advise {d rc rs n Ls i : Nat} {xs : Nat → Int32} {Q : Option Value → Mu → Prop} {μ : Mu} (hD : 113 ≤ d) (hc : 13 ≤ rc) (hs : 1386 ≤ rs) (hS : St μ) (hR : SCR μ Ls xs) (hi : i + 6 ≤ Ls) (hL : Ls ≤ 3072) (hn : n + 1 ≤ 512) (hI : LI μ n) (next : LNx d rc rs n i Ls xs Q) : Wx K_LA d rc rs Q 1468 [(0, .ref (hd 6 0)), (1, .ref (hd 8 0)), (2, .ref (hd 40 0)), (3, .ref (hd 90 0)), (4, .int (nI i))] [] μ := by
  obtain ⟨T, C, Ct, D, t, L, x, hC, hM, hN⟩ := hI
  refine Wa.aload_n (j := 1) d_LA_1468 rfl ?_
  refine Wx.arg (k := 1) (j0 := 0) (j4 := 4) d_LA_1469 d_LA_1470 d_LA_1472 d_LA_1473 d_LA_1474 rfl rfl hR (by omega) hL ?_
  refine Wa.aload_n (j := 3) d_LA_1475 rfl ?_
  refine Wx.callH (K' := K_LW_advise) (hh := hh_advise) (As := [.ref (hd 8 0), .int (xs (i + 1)), .ref (hd 90 0)]) (d - 1) 1 6 (Q' := fun r μ' => ∃ code, r = some (.int code) ∧ Fr OwE8 μ μ' ∧ CI μ' T C Ct D t L x ∧ WO (rvAdvise T C Ct D (xs (i + 1))) code μ') d_LA_1476 moh_advise (tb_at 1444 (by decide +kernel) (by decide +kernel)) sl_LW_161.2 rfl rfl (Nat.le_of_ble_eq_true rfl) (by omega) (by omega) (by omega) (c_LW_advise (n := n) hC hN (by omega) (Nat.le_refl _) (Nat.le_refl _) hS (fun μ' code f s X w => ⟨code, rfl, f, X, w⟩)) (fun v1 μ1 s1 q1 => ?_)
  obtain ⟨code, e, f1, X1, w1⟩ := q1
  cases e
  have m1 : MI μ1 T C Ct D t L x := hM.tr f1.m40
  have r1 := hR.e8 f1
  refine Wa.istore (i := 5) d_LA_1479 (by decide) rfl ?_
  refine Wa.aload_n (j := 3) d_LA_1481 rfl ?_
  refine Wx.arg (k := 1) (j0 := 1) (j4 := 5) d_LA_1482 d_LA_1483 d_LA_1485 d_LA_1486 d_LA_1487 rfl rfl r1 (by omega) hL ?_
  refine Wx.cVi (q := E_MM) (As := [.int (xs (i + 1))]) 11 (d - 1) 0 0 (fun v μ' => FrX μ1 μ' ∧ MI μ' T C Ct D t L x ∧ MO (rvAdvise T C Ct D (xs (i + 1))) (some (.int v)) μ') d_LA_1488 mok_MM_advise vl_LW_163 rfl rfl rfl (Nat.le_of_ble_eq_true rfl) (by omega) (by omega) (by omega) (s_40 s1 (by decide)) (c_MM_advise m1 hN (by omega) s1 (fun μ' r f s X w => MO.pack f X w)) (fun v2 μ2 s2 q2 => ?_)
  obtain ⟨f2, X2, w2⟩ := q2
  have r2 := r1.x f2
  have C2 := X1.tr f2.c8
  obtain ⟨a1, a2⟩ := same_ans (exo_advise (T := T) (C := C) (Ct := Ct) (D := D) (t := t) (L := L) (x := x)) (by decide) w1 w2 (f2.2.1.L (κ := 90) (by decide) (by decide))
  refine Wa.istore (i := 6) d_LA_1491 (by decide) rfl ?_
  refine Wa.aload_n (j := 4) d_LA_1493 rfl ?_
  refine Wx.cVi (q := E_MM) (As := []) 11 (d - 1) 0 0 (fun v μ' => v = v1 ∧ μ' = μ2) d_LA_1494 mok_MM_thrown vl_LW_86 rfl rfl rfl (Nat.le_of_ble_eq_true rfl) (by omega) (Nat.zero_le _) (Nat.zero_le _) (s_40 s2 (by decide)) (c_MM_thrown (by omega) s2 ⟨_, rfl, a1, rfl⟩) (fun v3 μ3 s3 q3 => ?_)
  obtain ⟨e3, e4⟩ := q3
  rw [e3, e4]
  have li : LI μ2 (n + 1) := ⟨_, _, _, _, _, _, _, C2, X2, hN.same hn⟩
  refine Wa.iload (j := 1) d_LA_1497 rfl ?_
  refine Wa.icmp_eq 1504 d_LA_1499 (by decide) (fun _ => ?_) (fun h => absurd rfl h)
  refine Wa.iload (j := 1) d_LA_1504 rfl ?_
  refine Wa.if_ne 1521 d_LA_1506 (by decide) (fun _ => ?_) (fun h0 => ?_)
  · refine Wa.goto 1579 d_LA_1521 (by decide) ?_
    exact Wa.loc [2, 3, 4, 5, 6] rfl (next _ _ μ2 (by omega) (by omega) s2 r2 li)
  · refine Wa.aload_n (j := 5) d_LA_1509 rfl ?_
    refine Wa.iconst (v := 0) d_LA_1510 rfl ?_
    refine Wa.lald d_LA_1511 (s_90 s2 (by decide)) (vp_in_nI (n := 0) (N := 1) (by decide) (by decide)) ?_
    refine Wa.iload (j := 0) d_LA_1512 rfl ?_
    refine Wa.i2l d_LA_1514 ?_
    refine Wa.lcmp d_LA_1515 ?_
    refine Wa.if_eq 1521 d_LA_1516 (by decide) (fun _ => ?_) (fun h => absurd ((lg_cmp_eq _ _).mpr (a2 h0)) h)
    refine Wa.goto 1579 d_LA_1521 (by decide) ?_
    exact Wa.loc [2, 3, 4, 5, 6] rfl (next _ _ μ2 (by omega) (by omega) s2 r2 li)
