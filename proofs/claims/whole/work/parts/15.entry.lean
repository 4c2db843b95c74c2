/-! the law from its entry -/
theorem nL_7 : jNew RL 7 4 8 [.null, .null, .null, .null, .null, .null, .null, .int 0] := ⟨RX4, TX4, tyX4, rfl, inX4, tyX4_ok, by decide +kernel, jT_of 101 (by decide +kernel) rfl, jT_of 102 (by decide +kernel) rfl, jT_of 87 (by decide +kernel) rfl⟩
theorem nL_10 : jNew RL 10 5 22 [.null, .null, .null, .long 0, .long 0, .int 0, .null, .null, .int 0, .null, .null, .null, .null, .int 0, .null, .int 0, .int 0, .int 0, .int 0, .int 0, .int 0, .null] := ⟨RX5, TX5, tyX5, rfl, inX5, tyX5_ok, by decide +kernel, jT_of 816 (by decide +kernel) rfl, jT_of 817 (by decide +kernel) rfl, jT_of 92 (by decide +kernel) rfl⟩
set_option maxHeartbeats 8000000 in
set_option maxRecDepth 20000 in
theorem law_entry {l : Launch} {Z : jZ} {nm : String} {Rel : jMem → jMem → Prop} (h0 : Rel V0x V0m) (hop0 : op_field Rel) (hop1 : op_of Rel) (hop2 : op_set Rel) (hop3 : op_as Rel) (hop4 : op_asks Rel) (hop5 : op_rule Rel) (hop6 : op_offer Rel) (hop7 : op_paper Rel) (hop8 : op_paperOf Rel) (hop9 : op_claim Rel) (hop10 : op_county Rel) (hop11 : op_month Rel) (hop12 : op_seed Rel) (hop13 : op_stands Rel) (hop14 : op_strip Rel) (hop15 : op_stripOf Rel) (hop16 : op_had Rel) (hop17 : op_least Rel) (hop18 : op_order Rel) (hop19 : op_best Rel) (hop20 : op_last Rel) (hop21 : op_giveUp Rel) (hop22 : op_rights Rel) (hop23 : op_share Rel) (hop24 : op_common Rel) (hop25 : op_first Rel) (hop26 : op_feed Rel) (hop27 : op_wipe Rel) (hop28 : op_plan Rel) (hop29 : op_sheet Rel) (hop30 : op_write Rel) (hop31 : op_copy Rel) (hop32 : op_cost Rel) (hop33 : op_offers Rel) (hop34 : op_read Rel) (hop35 : op_image Rel) (hop36 : op_undo Rel) (hop37 : op_tear Rel) (hop38 : op_count Rel) (hop39 : op_status Rel) (hL : Z.2.1 6 ≤ 384) : J l Z RL nm cL_law 4 (some .boolean) 12 600000 7302250 (fun r _ => r = some (.int 1)) 0 [(0, .ref (Z.2.1 5))] [] [] 0 0 := by
  refine c_new nL_7 dL_law_0 rfl (Nat.le_of_ble_eq_true rfl) (Nat.le_of_ble_eq_true rfl) (fun x => ?_)
  refine j_dup dL_law_3 rfl rfl ?_
  refine c_callI (wr := []) [0] [] kL_9 rfl dL_law_4 rfl (tX4_init x) rfl rfl rfl rfl (by decide) rfl rfl (Nat.le_of_ble_eq_true rfl) (by decide) ⟨Nat.le_of_ble_eq_true rfl, Nat.le_of_ble_eq_true rfl⟩ (fun r w1 h => ?_)
  obtain ⟨rfl, q, rfl, rfl⟩ := h
  refine j_astore_n (i := 1) (L' := [(1, _), (0, _)]) dL_law_7 rfl rfl (by decide) rfl ?_
  refine c_new nL_10 dL_law_8 rfl (Nat.le_of_ble_eq_true rfl) (Nat.le_of_ble_eq_true rfl) (fun y => ?_)
  refine j_dup dL_law_11 rfl rfl ?_
  refine c_callI (wr := jw Z q V0x dX) (wc := [(y, .inr (5, [.null, .null, .null, .long 0, .long 0, .int 0, .null, .null, .int 0, .null, .null, .null, .null, .int 0, .null, .int 0, .int 0, .int 0, .int 0, .int 0, .int 0, .null]))]) [48] (List.range 48) kL_12 rfl dL_law_12 rfl (tX5_init y) ?_ (l_first _ _ (jw_len _ _ _ _)) rfl l_nd48 (by decide +kernel) rfl rfl (Nat.le_of_ble_eq_true rfl) (by decide) ⟨Nat.le_of_ble_eq_true rfl, Nat.le_of_ble_eq_true rfl⟩ (fun r w1 h => ?_)
  · show [(jw Z q V0x dX ++ [(y, _)])[48]?] = [some (y, _)]
    rw [List.getElem?_append_right (by rw [jw_len]; decide), jw_len]
    rfl
  obtain ⟨rfl, q', rfl, rfl⟩ := h
  refine j_astore_n (i := 2) (L' := [(2, _), (1, _), (0, _)]) dL_law_15 rfl rfl (by decide) rfl ?_
  refine j_iconst (v := 0) dL_law_16 rfl (by decide) ?_
  refine j_istore_n (i := 3) (L' := [(3, _), (2, _), (1, _), (0, _)]) dL_law_17 rfl rfl (by decide) rfl ?_
  exact law_loop hop0 hop1 hop2 hop3 hop4 hop5 hop6 hop7 hop8 hop9 hop10 hop11 hop12 hop13 hop14 hop15 hop16 hop17 hop18 hop19 hop20 hop21 hop22 hop23 hop24 hop25 hop26 hop27 hop28 hop29 hop30 hop31 hop32 hop33 hop34 hop35 hop36 hop37 hop38 hop39 hL (Z.2.1 6 + 1) 0 V0x V0m (by omega) (Nat.zero_le _) h0
