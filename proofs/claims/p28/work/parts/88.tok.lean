/-! where the component throws -/
theorem tok_PB_feed : TOK K_PB_feed := ⟨⟨rfl, rfl⟩, fun q hq => by
  rcases List.mem_cons.mp hq with rfl | hq
  · exact ⟨by decide, d_PB_feed_13, d_PB_feed_16, ⟨_, List.mem_of_getElem? (i := 0) rfl, d_PB_feed_17⟩, d_PB_feed_19, d_PB_feed_22⟩
  cases hq⟩
theorem t_PB_feed {d rc rs : Nat} {Q : Option Value → Mu → Prop} {μ : Mu} {x1 : Int32} {x2 : Int32} {x3 : Int32} {x4 : Int32} {x5 : Int32} (hD : 6 ≤ d) (hk : Wx K_PB_feed d rc rs (fun r μ' => St μ' ∧ Q r μ') 0 [(0, .ref (hd 8 0)), (1, .int x1), (2, .int x2), (3, .int x3), (4, .int x4), (5, .int x5)] [] μ) : CalT K_PB_feed d rc rs [.ref (hd 8 0), .int x1, .int x2, .int x3, .int x4, .int x5] μ Q := CalT.of (by decide +kernel) rfl rfl (Nat.le_of_ble_eq_true rfl) rfl tok_PB_feed hD hk
theorem tok_PB_trim : TOK K_PB_trim := ⟨⟨rfl, rfl⟩, fun q hq => by
  rcases List.mem_cons.mp hq with rfl | hq
  · exact ⟨by decide, d_PB_trim_12, d_PB_trim_15, ⟨_, List.mem_of_getElem? (i := 1) rfl, d_PB_trim_16⟩, d_PB_trim_18, d_PB_trim_21⟩
  cases hq⟩
theorem t_PB_trim {d rc rs : Nat} {Q : Option Value → Mu → Prop} {μ : Mu} {x1 : Int32} (hD : 6 ≤ d) (hk : Wx K_PB_trim d rc rs (fun r μ' => St μ' ∧ Q r μ') 0 [(0, .ref (hd 8 0)), (1, .int x1)] [] μ) : CalT K_PB_trim d rc rs [.ref (hd 8 0), .int x1] μ Q := CalT.of (by decide +kernel) rfl rfl (Nat.le_of_ble_eq_true rfl) rfl tok_PB_trim hD hk
theorem tok_PB_count : TOK K_PB_count := ⟨⟨rfl, rfl⟩, fun q hq => by
  rcases List.mem_cons.mp hq with rfl | hq
  · exact ⟨by decide, d_PB_count_10, d_PB_count_13, ⟨_, List.mem_of_getElem? (i := 2) rfl, d_PB_count_14⟩, d_PB_count_16, d_PB_count_19⟩
  cases hq⟩
theorem t_PB_count {d rc rs : Nat} {Q : Option Value → Mu → Prop} {μ : Mu} {x1 : Int32} (hD : 6 ≤ d) (hk : Wx K_PB_count d rc rs (fun r μ' => St μ' ∧ Q r μ') 0 [(0, .ref (hd 8 0)), (1, .int x1)] [] μ) : CalT K_PB_count d rc rs [.ref (hd 8 0), .int x1] μ Q := CalT.of (by decide +kernel) rfl rfl (Nat.le_of_ble_eq_true rfl) rfl tok_PB_count hD hk
theorem tok_PB_parish : TOK K_PB_parish := ⟨⟨rfl, rfl⟩, fun q hq => by
  rcases List.mem_cons.mp hq with rfl | hq
  · exact ⟨by decide, d_PB_parish_18, d_PB_parish_21, ⟨_, List.mem_of_getElem? (i := 3) rfl, d_PB_parish_22⟩, d_PB_parish_24, d_PB_parish_27⟩
  cases hq⟩
theorem t_PB_parish {d rc rs : Nat} {Q : Option Value → Mu → Prop} {μ : Mu} {x1 : Int32} {x2 : Int32} (hD : 6 ≤ d) (hk : Wx K_PB_parish d rc rs (fun r μ' => St μ' ∧ Q r μ') 0 [(0, .ref (hd 8 0)), (1, .int x1), (2, .int x2)] [] μ) : CalT K_PB_parish d rc rs [.ref (hd 8 0), .int x1, .int x2] μ Q := CalT.of (by decide +kernel) rfl rfl (Nat.le_of_ble_eq_true rfl) rfl tok_PB_parish hD hk
theorem tok_PB_knows : TOK K_PB_knows := ⟨⟨rfl, rfl⟩, fun q hq => by
  rcases List.mem_cons.mp hq with rfl | hq
  · exact ⟨by decide, d_PB_knows_16, d_PB_knows_19, ⟨_, List.mem_of_getElem? (i := 4) rfl, d_PB_knows_20⟩, d_PB_knows_22, d_PB_knows_25⟩
  cases hq⟩
theorem t_PB_knows {d rc rs : Nat} {Q : Option Value → Mu → Prop} {μ : Mu} {x1 : Int32} {x2 : Int32} (hD : 6 ≤ d) (hk : Wx K_PB_knows d rc rs (fun r μ' => St μ' ∧ Q r μ') 0 [(0, .ref (hd 8 0)), (1, .int x1), (2, .int x2)] [] μ) : CalT K_PB_knows d rc rs [.ref (hd 8 0), .int x1, .int x2] μ Q := CalT.of (by decide +kernel) rfl rfl (Nat.le_of_ble_eq_true rfl) rfl tok_PB_knows hD hk
theorem tok_PB_sheet : TOK K_PB_sheet := ⟨⟨rfl, rfl⟩, fun q hq => by
  rcases List.mem_cons.mp hq with rfl | hq
  · exact ⟨by decide, d_PB_sheet_18, d_PB_sheet_21, ⟨_, List.mem_of_getElem? (i := 5) rfl, d_PB_sheet_22⟩, d_PB_sheet_24, d_PB_sheet_27⟩
  cases hq⟩
theorem t_PB_sheet {d rc rs : Nat} {Q : Option Value → Mu → Prop} {μ : Mu} {x1 : Int32} {x2 : Int32} (hD : 6 ≤ d) (hk : Wx K_PB_sheet d rc rs (fun r μ' => St μ' ∧ Q r μ') 0 [(0, .ref (hd 8 0)), (1, .int x1), (2, .int x2)] [] μ) : CalT K_PB_sheet d rc rs [.ref (hd 8 0), .int x1, .int x2] μ Q := CalT.of (by decide +kernel) rfl rfl (Nat.le_of_ble_eq_true rfl) rfl tok_PB_sheet hD hk
theorem tok_PB_stamp : TOK K_PB_stamp := ⟨⟨rfl, rfl⟩, fun q hq => by
  rcases List.mem_cons.mp hq with rfl | hq
  · exact ⟨by decide, d_PB_stamp_16, d_PB_stamp_19, ⟨_, List.mem_of_getElem? (i := 6) rfl, d_PB_stamp_20⟩, d_PB_stamp_22, d_PB_stamp_25⟩
  cases hq⟩
theorem t_PB_stamp {d rc rs : Nat} {Q : Option Value → Mu → Prop} {μ : Mu} {x1 : Int32} {x2 : Int32} (hD : 6 ≤ d) (hk : Wx K_PB_stamp d rc rs (fun r μ' => St μ' ∧ Q r μ') 0 [(0, .ref (hd 8 0)), (1, .int x1), (2, .int x2)] [] μ) : CalT K_PB_stamp d rc rs [.ref (hd 8 0), .int x1, .int x2] μ Q := CalT.of (by decide +kernel) rfl rfl (Nat.le_of_ble_eq_true rfl) rfl tok_PB_stamp hD hk
theorem tok_PB_shown : TOK K_PB_shown := ⟨⟨rfl, rfl⟩, fun q hq => by
  rcases List.mem_cons.mp hq with rfl | hq
  · exact ⟨by decide, d_PB_shown_9, d_PB_shown_12, ⟨_, List.mem_of_getElem? (i := 7) rfl, d_PB_shown_13⟩, d_PB_shown_15, d_PB_shown_18⟩
  rcases List.mem_cons.mp hq with rfl | hq
  · exact ⟨by decide, d_PB_shown_41, d_PB_shown_44, ⟨_, List.mem_of_getElem? (i := 8) rfl, d_PB_shown_45⟩, d_PB_shown_47, d_PB_shown_50⟩
  cases hq⟩
theorem t_PB_shown {d rc rs : Nat} {Q : Option Value → Mu → Prop} {μ : Mu} {x1 : Int32} {x2 : Int32} {x3 : Int32} (hD : 6 ≤ d) (hk : Wx K_PB_shown d rc rs (fun r μ' => St μ' ∧ Q r μ') 0 [(0, .ref (hd 8 0)), (1, .int x1), (2, .int x2), (3, .int x3)] [] μ) : CalT K_PB_shown d rc rs [.ref (hd 8 0), .int x1, .int x2, .int x3] μ Q := CalT.of (by decide +kernel) rfl rfl (Nat.le_of_ble_eq_true rfl) rfl tok_PB_shown hD hk
theorem tok_PB_compare : TOK K_PB_compare := ⟨⟨rfl, rfl⟩, fun q hq => by
  rcases List.mem_cons.mp hq with rfl | hq
  · exact ⟨by decide, d_PB_compare_16, d_PB_compare_19, ⟨_, List.mem_of_getElem? (i := 9) rfl, d_PB_compare_20⟩, d_PB_compare_22, d_PB_compare_25⟩
  cases hq⟩
theorem t_PB_compare {d rc rs : Nat} {Q : Option Value → Mu → Prop} {μ : Mu} {x1 : Int32} {x2 : Int32} (hD : 6 ≤ d) (hk : Wx K_PB_compare d rc rs (fun r μ' => St μ' ∧ Q r μ') 0 [(0, .ref (hd 8 0)), (1, .int x1), (2, .int x2)] [] μ) : CalT K_PB_compare d rc rs [.ref (hd 8 0), .int x1, .int x2] μ Q := CalT.of (by decide +kernel) rfl rfl (Nat.le_of_ble_eq_true rfl) rfl tok_PB_compare hD hk
theorem tok_PB_road : TOK K_PB_road := ⟨⟨rfl, rfl⟩, fun q hq => by
  rcases List.mem_cons.mp hq with rfl | hq
  · exact ⟨by decide, d_PB_road_17, d_PB_road_20, ⟨_, List.mem_of_getElem? (i := 10) rfl, d_PB_road_21⟩, d_PB_road_23, d_PB_road_26⟩
  cases hq⟩
theorem t_PB_road {d rc rs : Nat} {Q : Option Value → Mu → Prop} {μ : Mu} {x1 : Int32} {x2 : Int32} (hD : 6 ≤ d) (hk : Wx K_PB_road d rc rs (fun r μ' => St μ' ∧ Q r μ') 0 [(0, .ref (hd 8 0)), (1, .int x1), (2, .int x2)] [] μ) : CalT K_PB_road d rc rs [.ref (hd 8 0), .int x1, .int x2] μ Q := CalT.of (by decide +kernel) rfl rfl (Nat.le_of_ble_eq_true rfl) rfl tok_PB_road hD hk
theorem tok_PB_write : TOK K_PB_write := ⟨⟨rfl, rfl⟩, fun q hq => by
  rcases List.mem_cons.mp hq with rfl | hq
  · exact ⟨by decide, d_PB_write_9, d_PB_write_12, ⟨_, List.mem_of_getElem? (i := 7) rfl, d_PB_write_13⟩, d_PB_write_15, d_PB_write_18⟩
  rcases List.mem_cons.mp hq with rfl | hq
  · exact ⟨by decide, d_PB_write_30, d_PB_write_33, ⟨_, List.mem_of_getElem? (i := 11) rfl, d_PB_write_34⟩, d_PB_write_36, d_PB_write_39⟩
  rcases List.mem_cons.mp hq with rfl | hq
  · exact ⟨by decide, d_PB_write_50, d_PB_write_53, ⟨_, List.mem_of_getElem? (i := 12) rfl, d_PB_write_54⟩, d_PB_write_56, d_PB_write_59⟩
  cases hq⟩
theorem t_PB_write {d rc rs : Nat} {Q : Option Value → Mu → Prop} {μ : Mu} {x1 : Int32} {x2 : Int32} {x3 : Int32} (hD : 6 ≤ d) (hk : Wx K_PB_write d rc rs (fun r μ' => St μ' ∧ Q r μ') 0 [(0, .ref (hd 8 0)), (1, .int x1), (2, .int x2), (3, .int x3)] [] μ) : CalT K_PB_write d rc rs [.ref (hd 8 0), .int x1, .int x2, .int x3] μ Q := CalT.of (by decide +kernel) rfl rfl (Nat.le_of_ble_eq_true rfl) rfl tok_PB_write hD hk
theorem tok_PB_note : TOK K_PB_note := ⟨⟨rfl, rfl⟩, fun q hq => by
  rcases List.mem_cons.mp hq with rfl | hq
  · exact ⟨by decide, d_PB_note_9, d_PB_note_12, ⟨_, List.mem_of_getElem? (i := 7) rfl, d_PB_note_13⟩, d_PB_note_15, d_PB_note_18⟩
  rcases List.mem_cons.mp hq with rfl | hq
  · exact ⟨by decide, d_PB_note_26, d_PB_note_29, ⟨_, List.mem_of_getElem? (i := 13) rfl, d_PB_note_30⟩, d_PB_note_32, d_PB_note_35⟩
  rcases List.mem_cons.mp hq with rfl | hq
  · exact ⟨by decide, d_PB_note_58, d_PB_note_61, ⟨_, List.mem_of_getElem? (i := 14) rfl, d_PB_note_62⟩, d_PB_note_64, d_PB_note_67⟩
  cases hq⟩
theorem t_PB_note {d rc rs : Nat} {Q : Option Value → Mu → Prop} {μ : Mu} {x1 : Int32} {x2 : Int32} {x3 : Int32} (hD : 6 ≤ d) (hk : Wx K_PB_note d rc rs (fun r μ' => St μ' ∧ Q r μ') 0 [(0, .ref (hd 8 0)), (1, .int x1), (2, .int x2), (3, .int x3)] [] μ) : CalT K_PB_note d rc rs [.ref (hd 8 0), .int x1, .int x2, .int x3] μ Q := CalT.of (by decide +kernel) rfl rfl (Nat.le_of_ble_eq_true rfl) rfl tok_PB_note hD hk
theorem tok_PB_merge : TOK K_PB_merge := ⟨⟨rfl, rfl⟩, fun q hq => by
  rcases List.mem_cons.mp hq with rfl | hq
  · exact ⟨by decide, d_PB_merge_18, d_PB_merge_21, ⟨_, List.mem_of_getElem? (i := 15) rfl, d_PB_merge_22⟩, d_PB_merge_24, d_PB_merge_27⟩
  rcases List.mem_cons.mp hq with rfl | hq
  · exact ⟨by decide, d_PB_merge_50, d_PB_merge_53, ⟨_, List.mem_of_getElem? (i := 16) rfl, d_PB_merge_54⟩, d_PB_merge_56, d_PB_merge_59⟩
  cases hq⟩
theorem t_PB_merge {d rc rs : Nat} {Q : Option Value → Mu → Prop} {μ : Mu} {x1 : Int32} {x2 : Int32} {x3 : Int32} (hD : 6 ≤ d) (hk : Wx K_PB_merge d rc rs (fun r μ' => St μ' ∧ Q r μ') 0 [(0, .ref (hd 8 0)), (1, .int x1), (2, .int x2), (3, .int x3)] [] μ) : CalT K_PB_merge d rc rs [.ref (hd 8 0), .int x1, .int x2, .int x3] μ Q := CalT.of (by decide +kernel) rfl rfl (Nat.le_of_ble_eq_true rfl) rfl tok_PB_merge hD hk
theorem tok_PB_send : TOK K_PB_send := ⟨⟨rfl, rfl⟩, fun q hq => by
  rcases List.mem_cons.mp hq with rfl | hq
  · exact ⟨by decide, d_PB_send_8, d_PB_send_11, ⟨_, List.mem_of_getElem? (i := 17) rfl, d_PB_send_12⟩, d_PB_send_14, d_PB_send_17⟩
  cases hq⟩
theorem t_PB_send {d rc rs : Nat} {Q : Option Value → Mu → Prop} {μ : Mu} {x1 : Int32} (hD : 6 ≤ d) (hk : Wx K_PB_send d rc rs (fun r μ' => St μ' ∧ Q r μ') 0 [(0, .ref (hd 8 0)), (1, .int x1)] [] μ) : CalT K_PB_send d rc rs [.ref (hd 8 0), .int x1] μ Q := CalT.of (by decide +kernel) rfl rfl (Nat.le_of_ble_eq_true rfl) rfl tok_PB_send hD hk
theorem tok_PB_setDays : TOK K_PB_setDays := ⟨⟨rfl, rfl⟩, fun q hq => by
  rcases List.mem_cons.mp hq with rfl | hq
  · exact ⟨by decide, d_PB_setDays_8, d_PB_setDays_11, ⟨_, List.mem_of_getElem? (i := 17) rfl, d_PB_setDays_12⟩, d_PB_setDays_14, d_PB_setDays_17⟩
  rcases List.mem_cons.mp hq with rfl | hq
  · exact ⟨by decide, d_PB_setDays_29, d_PB_setDays_32, ⟨_, List.mem_of_getElem? (i := 18) rfl, d_PB_setDays_33⟩, d_PB_setDays_35, d_PB_setDays_38⟩
  cases hq⟩
theorem t_PB_setDays {d rc rs : Nat} {Q : Option Value → Mu → Prop} {μ : Mu} {x1 : Int32} {x2 : Int32} (hD : 6 ≤ d) (hk : Wx K_PB_setDays d rc rs (fun r μ' => St μ' ∧ Q r μ') 0 [(0, .ref (hd 8 0)), (1, .int x1), (2, .int x2)] [] μ) : CalT K_PB_setDays d rc rs [.ref (hd 8 0), .int x1, .int x2] μ Q := CalT.of (by decide +kernel) rfl rfl (Nat.le_of_ble_eq_true rfl) rfl tok_PB_setDays hD hk
theorem tok_PB_pass : TOK K_PB_pass := ⟨⟨rfl, rfl⟩, fun q hq => by
  rcases List.mem_cons.mp hq with rfl | hq
  · exact ⟨by decide, d_PB_pass_11, d_PB_pass_14, ⟨_, List.mem_of_getElem? (i := 18) rfl, d_PB_pass_15⟩, d_PB_pass_17, d_PB_pass_20⟩
  cases hq⟩
theorem t_PB_pass {d rc rs : Nat} {Q : Option Value → Mu → Prop} {μ : Mu} {x1 : Int32} (hD : 6 ≤ d) (hk : Wx K_PB_pass d rc rs (fun r μ' => St μ' ∧ Q r μ') 0 [(0, .ref (hd 8 0)), (1, .int x1)] [] μ) : CalT K_PB_pass d rc rs [.ref (hd 8 0), .int x1] μ Q := CalT.of (by decide +kernel) rfl rfl (Nat.le_of_ble_eq_true rfl) rfl tok_PB_pass hD hk
