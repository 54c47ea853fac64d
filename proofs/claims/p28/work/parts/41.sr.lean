/-! texts of the JDK's -/
def txL (i : Nat) : Nat := (kTx.getD i []).length
def txC (i k : Nat) : Int32 := (kTx.getD i []).getD k 0
theorem tx_ok : ∀ i, i < 46 → ∀ k, k < 14 → (txC i k &&& 255) = txC i k ∧ ((txC i k).toUInt32 % 65536).toInt32 = txC i k ∧ narrow .char (.int (txC i k)) = .int (txC i k) := by decide +kernel
theorem txL_lt : ∀ i, i < 46 → txL i < 14 := by decide +kernel
theorem s1_c {μ : Mu} {i : Nat} : gI μ (hd 1 i) 1 = 0 := by
  unfold gI cI
  rw [hd_mod (by decide)]; rfl
theorem s1_r {μ : Mu} {i : Nat} : gR μ (hd 1 i) 0 = some (hd 2 i) := by
  unfold gR cR
  rw [hd_mod (by decide), hd_div (by decide)]; rfl
theorem s2_g {μ : Mu} {i k : Nat} : gI μ (hd 2 i) k = txC i k := by
  unfold gI cI
  rw [hd_mod (by decide), hd_div (by decide)]; rfl
section STR
variable {d rc rs : Nat} {Q : Option Value → Mu → Prop} {μ : Mu}
theorem c_Str_isLatin1 {i : Nat} (hD : 1 ≤ d) (hS : St μ) (hi : i < 46) (hQ : Q (some (.int 1)) μ) : Cal K_Str_isLatin1_aae02 d rc rs [.ref (hd 1 i)] μ Q := by
  refine Cal.of (by decide +kernel) rfl rfl (Nat.le_of_ble_eq_true rfl) rfl ?_
  refine Wx.gets d_Str_isLatin1_aae02_0 st_3 sf_Str_38 ?_
  refine Wa.if_eq 17 d_Str_isLatin1_aae02_3 (by decide) (fun h => absurd h (by decide)) (fun _ => ?_)
  refine Wa.aload_n (j := 0) d_Str_isLatin1_aae02_6 rfl ?_
  refine Wa.getf (v := .int 0) d_Str_isLatin1_aae02_7 (s_1 hS hi) f_Str_1.1 f_Str_1.2.1 fl_Str_15 (fun adr => by rw [f_Str_1.2.2]; show Value.int (gI μ (hd 1 i) 1) = _; rw [s1_c]; rfl) (fun _ => lvv_int) ?_
  refine Wa.if_ne 17 d_Str_isLatin1_aae02_10 (by decide) (fun h => absurd rfl h) (fun _ => ?_)
  refine Wa.iconst (v := 1) d_Str_isLatin1_aae02_13 rfl ?_
  refine Wa.goto 18 d_Str_isLatin1_aae02_14 (by decide) ?_
  exact Wx.retz d_Str_isLatin1_aae02_18 rfl (Or.inr rfl) ⟨hS, hQ⟩
theorem c_Str_coder {i : Nat} (hD : 1 ≤ d) (hS : St μ) (hi : i < 46) (hQ : Q (some (.int 0)) μ) : Cal K_Str_coder_7d493 d rc rs [.ref (hd 1 i)] μ Q := by
  refine Cal.of (by decide +kernel) rfl rfl (Nat.le_of_ble_eq_true rfl) rfl ?_
  refine Wx.gets d_Str_coder_7d493_0 st_3 sf_Str_38 ?_
  refine Wa.if_eq 13 d_Str_coder_7d493_3 (by decide) (fun h => absurd h (by decide)) (fun _ => ?_)
  refine Wa.aload_n (j := 0) d_Str_coder_7d493_6 rfl ?_
  refine Wa.getf (v := .int 0) d_Str_coder_7d493_7 (s_1 hS hi) f_Str_1.1 f_Str_1.2.1 fl_Str_15 (fun adr => by rw [f_Str_1.2.2]; show Value.int (gI μ (hd 1 i) 1) = _; rw [s1_c]; rfl) (fun _ => lvv_int) ?_
  refine Wa.goto 14 d_Str_coder_7d493_10 (by decide) ?_
  exact Wx.retb d_Str_coder_7d493_14 rfl rfl ⟨hS, hQ⟩
theorem c_Str_length {i : Nat} (hD : 2 ≤ d) (hS : St μ) (hi : i < 46) (hQ : Q (some (.int (nI (txL i)))) μ) : Cal K_Str_length_8abf5 d rc rs [.ref (hd 1 i)] μ Q := by
  refine Cal.of (by decide +kernel) rfl rfl (Nat.le_of_ble_eq_true rfl) rfl ?_
  refine Wa.aload_n (j := 0) d_Str_length_8abf5_0 rfl ?_
  refine Wx.getR 15 0 d_Str_length_8abf5_1 f_Str_0 rfl fl_Str_9 (s_1 hS hi) s1_r ?_
  refine Wa.alen d_Str_length_8abf5_4 (s_2 hS hi) (by decide) ?_
  refine Wa.aload_n (j := 0) d_Str_length_8abf5_5 rfl ?_
  refine Wx.cVi (q := E_Str) (As := []) 15 (d - 1) 0 0 (fun x μ' => x = 0 ∧ μ' = μ) d_Str_length_8abf5_6 mok_Str_coder_7d493 vl_Str_335 rfl rfl rfl (Nat.le_of_ble_eq_true rfl) (by omega) (Nat.zero_le _) (Nat.zero_le _) (s_1 hS hi) (c_Str_coder (by omega) hS hi ⟨_, rfl, rfl, rfl⟩) (fun x μ' hS' hF => ?_)
  obtain ⟨rfl, rfl⟩ := hF
  refine Wa.ishr d_Str_length_8abf5_9 ?_
  refine Wx.reti d_Str_length_8abf5_10 rfl ⟨hS', ?_⟩
  have e : nI (kTx.getD i []).length >>> ((0 : Int32) &&& 31) = nI (txL i) := by
    show _ >>> ((0 : Int32) &&& 31) = nI (kTx.getD i []).length
    rw [show ((0 : Int32) &&& 31) = 0 by decide, Int32.shiftRight_zero]
  rw [e]; exact hQ
/-- the check of an index, by what the JDK hands on -/
theorem met_chk {l : Launch} {B0 : Nat} {adr : Nat → Nat} {i n : Int32} {v : Value} (hfl : l.stackTraces = false) (hv : v.category = 1) (hi : ¬ i < 0) (hn : i < n) : Met l (kY K_Pre_checkIndex_8e157) (wsK K_Pre_checkIndex_8e157) (rmK 0 0 0) (fun a U => a = [Value.int i, .int n, v].toArray ∧ Rel CT ST B0 adr μ U U.heap ∧ LitOK U adr μ) (CPost CT ST B0 adr μ (fun r μ' => r = some (.int i) ∧ μ' = μ)) 0 0 (fun q => B0 ≤ q) := by
  refine Met.ofW (cc := (kB K_Pre_checkIndex_8e157)) (maxL := (kL K_Pre_checkIndex_8e157)) (ret := (kR K_Pre_checkIndex_8e157)) (by decide +kernel) rfl ?_
  intro p e s m a below meth c s₁ B hml hvv
  obtain ⟨rfl, hR, hLit⟩ := hvv
  have hts := atoms_spec (ws := wsK K_Pre_checkIndex_8e157) B.pre
  have hC : Cx K_Pre_checkIndex_8e157 p s m [Value.int i, .int n, v].toArray meth c := ⟨B.exec, B.bytes, hml, B.returns, findClass_of_methodNamed B.named, fun w hw => hts w (List.mem_cons_of_mem _ hw), B.notSynchronized, fun h => (name_of_methodNamed B.named B.method).1.trans h, Or.inl rfl⟩
  rw [lg_entry_eq]
  have hsl : (lg_sl [Value.int i, .int n, v]).length ≤ kL K_Pre_checkIndex_8e157 := by
    have : (lg_sl [Value.int i, .int n, v]).length = 3 := by
      cases v <;> first | rfl | (exact absurd (show (2 : Nat) = 1 from hv) (by decide))
    rw [this]; exact Nat.le_of_ble_eq_true rfl
  have hl := lv_entry [Value.int i, .int n, v] (n := (kL K_Pre_checkIndex_8e157)) hsl
  have hl2 := lv_sub (l' := cvL adr [(0, .int i), (1, .int n)]) hl [0, 1] rfl
  have hk : Wa CT ST K_Pre_checkIndex_8e157 0 0 0 (fun r μ' => r = some (.int i) ∧ μ' = μ) 0 [(0, .int i), (1, .int n)] [] μ := by
    refine Wa.iload_n (j := 0) d_Pre_checkIndex_8e157_0 rfl ?_
    refine Wa.if_lt 9 d_Pre_checkIndex_8e157_1 (by decide) (fun h => absurd h hi) (fun _ => ?_)
    refine Wa.iload_n (j := 0) d_Pre_checkIndex_8e157_4 rfl ?_
    refine Wa.iload_n (j := 1) d_Pre_checkIndex_8e157_5 rfl ?_
    refine Wa.icmp_lt 16 d_Pre_checkIndex_8e157_6 (by decide) (fun _ => ?_) (fun h => absurd hn h)
    refine Wa.iload_n (j := 0) d_Pre_checkIndex_8e157_16 rfl ?_
    exact Wx.reti d_Pre_checkIndex_8e157_17 rfl ⟨rfl, rfl⟩
  refine hk p l e s m _ below meth c (headSpec (wsK K_Pre_checkIndex_8e157) (rmK 0 0 0)).room B0 0 0 _ adr μ hC (Nat.le_refl 0) (Nat.le_refl _) (Nat.le_refl _) (Nat.le_refl _) ?_ s.heap [] 0 0 _ adr hR Ext.rf (fun _ h => by cases h) rfl rfl hl2 (fun q hq => by simp only [List.mem_cons, List.not_mem_nil, or_false] at hq; rcases hq with rfl | rfl <;> exact lvv_int) (fun _ h => by cases h)
  refine ⟨hLit, ?_, ⟨fun pc k μ' adr' H locs ls cells slots hk => (by cases hk), hfl⟩⟩
  intro r μ' adr' H locs ls pc hQ hv hR' hX hlo hret
  have post : ∀ (o : Option Value), o = r.map (cv adr') → ∀ t : State, t.heap = H → s.WarmedH t.vm → CPost CT ST B0 adr μ (fun r μ' => r = some (.int i) ∧ μ' = μ) [Value.int i, .int n, v].toArray s (.returned o) t := fun o ho t ht hW => ⟨r, μ', adr', by rw [ho], hQ, hv, by rw [ht]; exact hR'.moved hW.alike, hX⟩
  have hlk := B.notSynchronized
  rcases hret with ⟨v, rfl, hd, ty, hty, hnar⟩ | ⟨v, rfl, hd, hty⟩ | ⟨v, rfl, hd, hty⟩ | ⟨v, rfl, hd, hCR⟩ | ⟨rfl, hd, hty⟩
  · exact W.zret B.exec B.bytes (B.returns.trans hty) hnar (post _ rfl) hlo hd hlk
  · exact W.lret B.exec B.bytes (B.returns.trans hty) (post _ rfl) hlo hd hlk
  · exact W.dret B.exec B.bytes (B.returns.trans hty) (post _ rfl) hlo hd hlk
  · rcases hCR with ⟨C, hty⟩ | ⟨C, hty⟩
    · exact W.aret B.exec B.bytes (B.returns.trans hty) (Or.inl ⟨_, rfl⟩) (Or.inr ⟨_, rfl⟩) (post _ rfl) hlo hd hlk
    · exact W.aret B.exec B.bytes (B.returns.trans hty) (Or.inr ⟨_, rfl⟩) (Or.inr ⟨_, rfl⟩) (post _ rfl) hlo hd hlk
  · exact W.vret B.exec B.bytes (B.returns.trans hty) (post _ rfl) hlo hd hlk
theorem Wx.chk {L : List (Nat × Value)} {i n : Int32} (hi : ¬ i < 0) (hn : i < n) (hD : 1 ≤ d) (kk : Wx K_Str_checkIndex_df160 d rc rs Q 8 L [.int i] μ) : Wx K_Str_checkIndex_df160 d rc rs Q 2 L [.int n, .int i] μ := by
  intro p l e s m args below meth c R B0 mc ms Z adr0 μ0 hC hd1 hdl hmc hms hE H locs cells slots ls adr hR hX hlo hc hs1 hls hL1 hS
  have hW := hC.2.2.2.2.2.1
  have call : ∀ v : Value, v.category = 1 → W p l e R s m args below meth c H locs cells slots Z (F0 m 5 ls (v :: cvs adr [.int n, .int i])) := fun v hv => by
    have hM := mok_Pre_checkIndex_8e157
    have hb := (⟨rfl, rfl, by show 0 + 1 ≤ R.frames; omega, by show 8 + ((kL K_Pre_checkIndex_8e157) + 11) + 48 * 0 ≤ R.locals; have := hM.2.2.2.2; omega, wsK_moves hM hC.2.2.2.2.2.1, List.mem_cons_self⟩ : (rmK 0 0 0).cells = 0 ∧ (rmK 0 0 0).slots = 0 ∧ (rmK 0 0 0).frames + 1 ≤ R.frames ∧ 8 + ((kL K_Pre_checkIndex_8e157) + 11) + (rmK 0 0 0).locals ≤ R.locals ∧ (∀ w ∈ wsK K_Pre_checkIndex_8e157, ∀ (a' : Array Value) (U : State), s.WarmedH U.vm → w.before a' U = true) ∧ Cond.code (kY K_Pre_checkIndex_8e157) (kB K_Pre_checkIndex_8e157) (kL K_Pre_checkIndex_8e157) (kR K_Pre_checkIndex_8e157) ∈ wsK K_Pre_checkIndex_8e157)
    have hpre : PreS s H (fun a U => a = [Value.int i, .int n, v].toArray ∧ Rel CT ST B0 adr μ U U.heap ∧ LitOK U adr μ) [Value.int i, .int n, v] := ⟨fun a U g mk h => ⟨h.1, Rel.moved (u := U) (U := U.calling g mk a) (Vm.Alike.refl U.vm) h.2.1, LitOK.same (u := U) rfl h.2.2⟩, fun U hU hWU => ⟨rfl, by rw [hU]; exact hR.moved hWU.alike, hE.1.pass hX hWU⟩⟩
    have hst2 : v :: cvs adr [.int n, .int i] = [Value.int i, .int n, v].reverse ++ cvs adr [] := rfl
    have hcat2 : 2 * (F0 m 5 ls (v :: cvs adr [.int n, .int i])).monitorRoom + ((cvs adr []).map fun v => v.category).sum ≤ 8 := by rw [cvs_cat]; exact lv_room (by decide)
    have hroom : cells + 0 ≤ R.cells ∧ slots + 0 ≤ R.slots := ⟨by omega, by omega⟩
    have hfix : CallFix p m c (kB K_Str_checkIndex_df160) (kL K_Str_checkIndex_df160) s args tb (kO K_Str_checkIndex_df160) := ⟨hC.1, hC.2.1, hC.2.2.1, hC.2.2.2.2.1, hW⟩
    obtain ⟨h1 | ⟨host, h1⟩, h2⟩ := sl_Str_1059
    · exact Wa.after (rc' := 0) (rs' := 0) (st := []) (Q' := fun r μ' => r = some (.int i) ∧ μ' = μ) hC hd1 hdl hmc hms hE hX hlo hc hs1 hls hL1 (fun _ h => by cases h) (Nat.zero_le _) (Nat.zero_le _) (va_runS hfix (met_chk hE.2.2.2 hv hi hn) ⟨⟨hb.1, hb.2.1, hb.2.2.1, hb.2.2.2.1, hb.2.2.2.2.1, hb.2.2.2.2.2, hW _ hM.1, hW _ hM.2.1, hM.2.2.1, hM.len, hW _ h1⟩, hW _ h2⟩ hpre rfl rfl hls.1 hst2 hcat2 d_Str_checkIndex_df160_5 hroom) (fun r μ' e => by obtain ⟨rfl, rfl⟩ := e; exact kk)
    · exact Wa.after (rc' := 0) (rs' := 0) (st := []) (Q' := fun r μ' => r = some (.int i) ∧ μ' = μ) hC hd1 hdl hmc hms hE hX hlo hc hs1 hls hL1 (fun _ h => by cases h) (Nat.zero_le _) (Nat.zero_le _) (va_runSN hfix (met_chk hE.2.2.2 hv hi hn) ⟨⟨hb, hW _ hM.1, hW _ hM.2.1, hM.2.2.1, hM.len, hW _ h1⟩, hW _ h2, trivial⟩ hpre rfl rfl hls.1 hst2 hcat2 d_Str_checkIndex_df160_5 hroom) (fun r μ' e => by obtain ⟨rfl, rfl⟩ := e; exact kk)
  rcases hR.2.2.2.2.2.2 with ⟨cf, kf, fi, f, x, cell, q1, q2, q3, q4, q5, q6, q7, q8⟩ | ⟨t, cf, kf, fi, f, x, cell, q1, q2, q3, q4, q5, q6, q7, q8⟩
  · rcases sf_Str_1053 with hw | ⟨host, hw⟩
    · exact W.gets hC.1 hC.2.1 hC.2.2.2.2.1 (hW _ hw) q1 q2 q3 q4 q5 (fun z => by rw [z] at q6; cases q6) q7 rfl d_Str_checkIndex_df160_2 (call _ rfl)
    · exact va_WgetsN hC.1 hC.2.1 hC.2.2.2.2.1 (hW _ hw) q1 q2 q3 q4 q5 (fun z => by rw [z] at q6; cases q6) q7 rfl d_Str_checkIndex_df160_2 (call _ rfl)
  · rcases sf_Str_1053 with hw | ⟨host, hw⟩
    · exact W.gets hC.1 hC.2.1 hC.2.2.2.2.1 (hW _ hw) q1 q2 q3 q4 q5 (fun z => by rw [z] at q6; cases q6) q7 rfl d_Str_checkIndex_df160_2 (call _ rfl)
    · exact va_WgetsN hC.1 hC.2.1 hC.2.2.2.2.1 (hW _ hw) q1 q2 q3 q4 q5 (fun z => by rw [z] at q6; cases q6) q7 rfl d_Str_checkIndex_df160_2 (call _ rfl)
theorem c_Str_checkIndex {i n : Int32} (hD : 1 ≤ d) (hS : St μ) (hi : ¬ i < 0) (hn : i < n) (hQ : Q none μ) : Cal K_Str_checkIndex_df160 d rc rs [.int i, .int n] μ Q := by
  refine Cal.of (by decide +kernel) rfl rfl (Nat.le_of_ble_eq_true rfl) rfl ?_
  refine Wa.iload_n (j := 0) d_Str_checkIndex_df160_0 rfl ?_
  refine Wa.iload_n (j := 1) d_Str_checkIndex_df160_1 rfl ?_
  refine Wx.chk hi hn hD ?_
  refine Wa.pop d_Str_checkIndex_df160_8 rfl ?_
  exact Wx.retv d_Str_checkIndex_df160_9 rfl ⟨hS, hQ⟩
theorem c_SL_charAt {i k : Nat} (hD : 2 ≤ d) (hS : St μ) (hi : i < 46) (hk : k < txL i) (hQ : Q (some (.int (txC i k))) μ) : Cal K_SL_charAt_3b067 d rc rs [.ref (hd 2 i), .int (nI k)] μ Q := by
  have hl := txL_lt i hi
  obtain ⟨t1, t2, t3⟩ := tx_ok i hi k (by omega)
  refine Cal.of (by decide +kernel) rfl rfl (Nat.le_of_ble_eq_true rfl) rfl ?_
  refine Wa.iload_n (j := 1) d_SL_charAt_3b067_0 rfl ?_
  refine Wa.aload_n (j := 0) d_SL_charAt_3b067_1 rfl ?_
  refine Wa.alen d_SL_charAt_3b067_2 (s_2 hS hi) (by decide) ?_
  refine Wx.cSv (As := [.int (nI k), .int (nI (kTx.getD i []).length)]) (d - 1) 0 0 (fun μ' => μ' = μ) d_SL_charAt_3b067_3 mok_Str_checkIndex_df160 sl_SL_9 rfl rfl (Nat.le_of_ble_eq_true rfl) (by omega) (Nat.zero_le _) (Nat.zero_le _) (c_Str_checkIndex (by omega) hS (nI_pos (by omega)) (nI_lt hk (by show txL i < _; omega)) ⟨rfl, rfl⟩) (fun μ' hS' hF => ?_)
  subst hF
  refine Wa.aload_n (j := 0) d_SL_charAt_3b067_6 rfl ?_
  refine Wa.iload_n (j := 1) d_SL_charAt_3b067_7 rfl ?_
  refine Wa.bald d_SL_charAt_3b067_8 (s_2 hS' hi) (vp_in_nI hk (by show txL i < _; omega)) ?_
  rw [nI_clamp (by omega), s2_g]
  refine Wa.sipush (v := 255) d_SL_charAt_3b067_9 rfl ?_
  refine Wa.iand d_SL_charAt_3b067_12 ?_
  rw [t1]
  refine Wa.i2c d_SL_charAt_3b067_13 ?_
  rw [t2]
  exact Wx.retc d_SL_charAt_3b067_14 rfl t3 ⟨hS', hQ⟩
theorem c_Str_charAt {i k : Nat} (hD : 3 ≤ d) (hS : St μ) (hi : i < 46) (hk : k < txL i) (hQ : Q (some (.int (txC i k))) μ) : Cal K_Str_charAt_5068e d rc rs [.ref (hd 1 i), .int (nI k)] μ Q := by
  have hl := txL_lt i hi
  obtain ⟨t1, t2, t3⟩ := tx_ok i hi k (by omega)
  refine Cal.of (by decide +kernel) rfl rfl (Nat.le_of_ble_eq_true rfl) rfl ?_
  refine Wa.aload_n (j := 0) d_Str_charAt_5068e_0 rfl ?_
  refine Wx.cVi (q := E_Str) (As := []) 15 (d - 1) 0 0 (fun x μ' => x = 1 ∧ μ' = μ) d_Str_charAt_5068e_1 mok_Str_isLatin1_aae02 vl_Str_492 rfl rfl rfl (Nat.le_of_ble_eq_true rfl) (by omega) (Nat.zero_le _) (Nat.zero_le _) (s_1 hS hi) (c_Str_isLatin1 (by omega) hS hi ⟨_, rfl, rfl, rfl⟩) (fun x μ' hS' hF => ?_)
  obtain ⟨rfl, rfl⟩ := hF
  refine Wa.if_eq 16 d_Str_charAt_5068e_4 (by decide) (fun h => absurd h (by decide)) (fun _ => ?_)
  refine Wa.aload_n (j := 0) d_Str_charAt_5068e_7 rfl ?_
  refine Wx.getR 15 0 d_Str_charAt_5068e_8 f_Str_0 rfl fl_Str_9 (s_1 hS' hi) s1_r ?_
  refine Wa.iload_n (j := 1) d_Str_charAt_5068e_11 rfl ?_
  refine Wx.cSi (As := [.ref (hd 2 i), .int (nI k)]) (d - 1) 0 0 (fun x μ2 => x = txC i k ∧ μ2 = μ') d_Str_charAt_5068e_12 mok_SL_charAt_3b067 sl_Str_495 rfl rfl (Nat.le_of_ble_eq_true rfl) (by omega) (Nat.zero_le _) (Nat.zero_le _) (c_SL_charAt (by omega) hS' hi hk ⟨_, rfl, rfl, rfl⟩) (fun x μ2 hS2 hF => ?_)
  obtain ⟨rfl, rfl⟩ := hF
  exact Wx.retc d_Str_charAt_5068e_15 rfl t3 ⟨hS2, hQ⟩
end STR
