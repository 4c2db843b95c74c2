/-! length() and charAt(k) of the String constants -/
theorem sJ0_38 : Cond.fieldLink RJ0 38 RJ0 "COMPACT_STRINGS" "Z" ∈ jT := jT_of 661 (by decide +kernel) rfl
theorem sJ0_1053 : Cond.fieldLink RJ0 1053 "jdk/internal/util/Preconditions" "SIOOBE_FORMATTER" "Ljava/util/function/BiFunction;" ∈ jT := jT_of 677 (by decide +kernel) rfl
theorem sJ0_9 : Cond.fieldLink RJ0 9 RJ0 "value" "[B" ∈ jT := jT_of 1233 (by decide +kernel) rfl
theorem sJ0_15 : Cond.fieldLink RJ0 15 RJ0 "coder" "B" ∈ jT := jT_of 1234 (by decide +kernel) rfl
theorem jLen_lt : ∀ c, c < 15 → jLen.getD c 0 < 2 ^ 31 := by decide +kernel
section JS
variable {l : Launch} {Z : jZ} {nm : String} {cc : ByteArray} {nL : Nat} {rt : Option FieldType} {d MC MS : Nat} {Q : Option Value → va_W → Prop} {pc n : Nat} {L : List (Nat × Value)} {S : List Value} {ws : va_W} {kc ks : Nat} {own : String}
theorem j_ldcwS {i idx : Nat} (hi : i < 15) (hix : jIdx.getD i 0 = idx) (ho : own = RX4) (hdg : decode cc pc = .ok (.ldc_w idx, 3)) (hn : pc + 3 = n) (k : J l Z own nm cc nL rt d MC MS Q n L (.ref (Z.2.2.1 i) :: S) ws kc ks) : J l Z own nm cc nL rt d MC MS Q pc L S ws kc ks := by
  subst hn
  subst hix
  subst ho
  intro p e R s m args below meth c A QQ H locs ls hC hB hP hD hS hl
  have go := k p e R s m args below meth c A QQ H locs ls hC hB hP hD hS hl
  have hZ := hC.2.2.2.2.2.2.2.2.1.2 i hi
  intro T hT X
  obtain ⟨t, a1, b1⟩ := go T hT X
  exact ⟨t, X.ldcStringW hC.1 hC.2.2.2.1 hZ.1 (Term.string_eval_of_vm (args := args) (by rfl) ▸ hZ.2) (g := F0 m pc ls S) rfl (by rw [hC.2.1]; exact hdg) t a1, b1⟩
theorem j_cst (hdg : decode cc pc = .ok (.getstatic 38, 3)) (hn : pc + 3 = n) (k : J l Z RJ0 nm cc nL rt d MC MS Q n L (.int 1 :: S) ws kc ks) : J l Z RJ0 nm cc nL rt d MC MS Q pc L S ws kc ks := by
  subst hn
  intro p e R s m args below meth c A QQ H locs ls hC hB hP hD hS hl
  exact va_gets hC.1 hC.2.1 hC.2.2.2.2.2.2.2.1.2.2.2.2.2.1 hS hC.2.2.2.1 (hC.2.2.2.2.1 _ sJ0_38) (fun _ h => h) hdg (k p e R s m args below meth c A QQ H locs ls hC hB hP hD hS hl)
theorem j_fmt (hdg : decode cc pc = .ok (.getstatic 1053, 3)) (hn : pc + 3 = n) (k : ∀ w : Value, (w = .null ∨ ∃ t, w = .ref t) → J l Z RJ0 nm cc nL rt d MC MS Q n L (w :: S) ws kc ks) : J l Z RJ0 nm cc nL rt d MC MS Q pc L S ws kc ks := by
  subst hn
  intro p e R s m args below meth c A QQ H locs ls hC hB hP hD hS hl
  rcases hC.2.2.2.2.2.2.2.1.2.2.2.2.2.2.1 with h | ⟨t, h⟩
  · exact va_gets hC.1 hC.2.1 h hS hC.2.2.2.1 (hC.2.2.2.2.1 _ sJ0_1053) (fun _ h => h) hdg (k _ (Or.inl rfl) p e R s m args below meth c A QQ H locs ls hC hB hP hD hS hl)
  · exact va_gets hC.1 hC.2.1 h hS hC.2.2.2.1 (hC.2.2.2.2.1 _ sJ0_1053) (fun _ h => h) hdg (k _ (Or.inr ⟨t, rfl⟩) p e R s m args below meth c A QQ H locs ls hC hB hP hD hS hl)
theorem j_coder {i : Nat} (hi : i < 15) (hdg : decode cc pc = .ok (.getfield 15, 3)) (hn : pc + 3 = n) (k : J l Z RJ0 nm cc nL rt d MC MS Q n L (.int 0 :: S) ws kc ks) : J l Z RJ0 nm cc nL rt d MC MS Q pc L (.ref (Z.2.2.1 i) :: S) ws kc ks := by
  subst hn
  intro p e R s m args below meth c A QQ H locs ls hC hB hP hD hS hl
  exact vk_getf hC.1 hC.2.1 (hC.2.2.2.2.2.2.2.1.2.2.2.2.2.2.2.1.1 i hi).2.1 hS hC.2.2.2.1 (hC.2.2.2.2.1 _ sJ0_15) (fun _ h => h) hdg (k p e R s m args below meth c A QQ H locs ls hC hB hP hD hS hl)
theorem j_bytes {i : Nat} (hi : i < 15) (hdg : decode cc pc = .ok (.getfield 9, 3)) (hn : pc + 3 = n) (k : J l Z RJ0 nm cc nL rt d MC MS Q n L (.ref (Z.2.2.2.1 i) :: S) ws kc ks) : J l Z RJ0 nm cc nL rt d MC MS Q pc L (.ref (Z.2.2.1 i) :: S) ws kc ks := by
  subst hn
  intro p e R s m args below meth c A QQ H locs ls hC hB hP hD hS hl
  exact vk_getf hC.1 hC.2.1 (hC.2.2.2.2.2.2.2.1.2.2.2.2.2.2.2.1.1 i hi).2.2.1 hS hC.2.2.2.1 (hC.2.2.2.2.1 _ sJ0_9) (fun _ h => h) hdg (k p e R s m args below meth c A QQ H locs ls hC hB hP hD hS hl)
theorem j_blen {i : Nat} (hi : i < 15) (hdg : decode cc pc = .ok (.arraylength, 1)) (hn : pc + 1 = n) (k : J l Z own nm cc nL rt d MC MS Q n L (.int (nI (jLen.getD i 0)) :: S) ws kc ks) : J l Z own nm cc nL rt d MC MS Q pc L (.ref (Z.2.2.2.1 i) :: S) ws kc ks := by
  subst hn
  intro p e R s m args below meth c A QQ H locs ls hC hB hP hD hS hl
  exact va_tlen hC.1 hC.2.1 (hC.2.2.2.2.2.2.2.1.2.2.2.2.2.2.2.1.1 i hi).2.2.2 hS rfl hdg (k p e R s m args below meth c A QQ H locs ls hC hB hP hD hS hl)
theorem j_bald {i : Nat} {x : Int32} (hi : i < 15) (hin : vp_in x (jLen.getD i 0)) (hdg : decode cc pc = .ok (.baload, 1)) (hn : pc + 1 = n) (k : J l Z own nm cc nL rt d MC MS Q n L (.int ((jByt.getD i []).getD x.toNatClampNeg 0) :: S) ws kc ks) : J l Z own nm cc nL rt d MC MS Q pc L (.int x :: .ref (Z.2.2.2.1 i) :: S) ws kc ks := by
  subst hn
  intro p e R s m args below meth c A QQ H locs ls hC hB hP hD hS hl
  exact va_tb hC.1 hC.2.1 (hC.2.2.2.2.2.2.2.1.2.2.2.2.2.2.2.1.1 i hi).2.2.2 hS hin rfl hdg (k p e R s m args below meth c A QQ H locs ls hC hB hP hD hS hl)
end JS
theorem jin_32 {i : Int32} {n : Nat} (h : jin i n = true) (hn : n < 2 ^ 31) : ¬ i < 0 ∧ i < nI n := by
  have h2 : 0 ≤ i.toInt ∧ i.toInt < n := of_decide_eq_true h
  rw [Int32.lt_iff_toInt_lt, Int32.lt_iff_toInt_lt, nI_toInt hn, Int32.toInt_zero]
  omega
theorem dJ0_length_8abf5_0 : decode cJ0_length_8abf5 0 = .ok (.aload_n 0, 1) := by decide +kernel
theorem dJ0_length_8abf5_1 : decode cJ0_length_8abf5 1 = .ok (.getfield 9, 3) := by decide +kernel
theorem dJ0_length_8abf5_4 : decode cJ0_length_8abf5 4 = .ok (.arraylength, 1) := by decide +kernel
theorem dJ0_length_8abf5_5 : decode cJ0_length_8abf5 5 = .ok (.aload_n 0, 1) := by decide +kernel
theorem dJ0_length_8abf5_6 : decode cJ0_length_8abf5 6 = .ok (.invokevirtual 335, 3) := by decide +kernel
theorem dJ0_length_8abf5_9 : decode cJ0_length_8abf5 9 = .ok (.ishr, 1) := by decide +kernel
theorem dJ0_length_8abf5_10 : decode cJ0_length_8abf5 10 = .ok (.ireturn, 1) := by decide +kernel
theorem dJ0_charAt_5068e_0 : decode cJ0_charAt_5068e 0 = .ok (.aload_n 0, 1) := by decide +kernel
theorem dJ0_charAt_5068e_1 : decode cJ0_charAt_5068e 1 = .ok (.invokevirtual 492, 3) := by decide +kernel
theorem dJ0_charAt_5068e_4 : decode cJ0_charAt_5068e 4 = .ok (.ifCond .eq 12, 3) := by decide +kernel
theorem dJ0_charAt_5068e_7 : decode cJ0_charAt_5068e 7 = .ok (.aload_n 0, 1) := by decide +kernel
theorem dJ0_charAt_5068e_8 : decode cJ0_charAt_5068e 8 = .ok (.getfield 9, 3) := by decide +kernel
theorem dJ0_charAt_5068e_11 : decode cJ0_charAt_5068e 11 = .ok (.iload_n 1, 1) := by decide +kernel
theorem dJ0_charAt_5068e_12 : decode cJ0_charAt_5068e 12 = .ok (.invokestatic 495, 3) := by decide +kernel
theorem dJ0_charAt_5068e_15 : decode cJ0_charAt_5068e 15 = .ok (.ireturn, 1) := by decide +kernel
theorem dJ0_charAt_5068e_16 : decode cJ0_charAt_5068e 16 = .ok (.aload_n 0, 1) := by decide +kernel
theorem dJ0_charAt_5068e_17 : decode cJ0_charAt_5068e 17 = .ok (.getfield 9, 3) := by decide +kernel
theorem dJ0_charAt_5068e_20 : decode cJ0_charAt_5068e 20 = .ok (.iload_n 1, 1) := by decide +kernel
theorem dJ0_charAt_5068e_21 : decode cJ0_charAt_5068e 21 = .ok (.invokestatic 498, 3) := by decide +kernel
theorem dJ0_charAt_5068e_24 : decode cJ0_charAt_5068e 24 = .ok (.ireturn, 1) := by decide +kernel
theorem dJ0_coder_7d493_0 : decode cJ0_coder_7d493 0 = .ok (.getstatic 38, 3) := by decide +kernel
theorem dJ0_coder_7d493_3 : decode cJ0_coder_7d493 3 = .ok (.ifCond .eq 10, 3) := by decide +kernel
theorem dJ0_coder_7d493_6 : decode cJ0_coder_7d493 6 = .ok (.aload_n 0, 1) := by decide +kernel
theorem dJ0_coder_7d493_7 : decode cJ0_coder_7d493 7 = .ok (.getfield 15, 3) := by decide +kernel
theorem dJ0_coder_7d493_10 : decode cJ0_coder_7d493 10 = .ok (.goto 4, 3) := by decide +kernel
theorem dJ0_coder_7d493_13 : decode cJ0_coder_7d493 13 = .ok (.iconst 1, 1) := by decide +kernel
theorem dJ0_coder_7d493_14 : decode cJ0_coder_7d493 14 = .ok (.ireturn, 1) := by decide +kernel
theorem dJ0_isLatin1_aae02_0 : decode cJ0_isLatin1_aae02 0 = .ok (.getstatic 38, 3) := by decide +kernel
theorem dJ0_isLatin1_aae02_3 : decode cJ0_isLatin1_aae02 3 = .ok (.ifCond .eq 14, 3) := by decide +kernel
theorem dJ0_isLatin1_aae02_6 : decode cJ0_isLatin1_aae02 6 = .ok (.aload_n 0, 1) := by decide +kernel
theorem dJ0_isLatin1_aae02_7 : decode cJ0_isLatin1_aae02 7 = .ok (.getfield 15, 3) := by decide +kernel
theorem dJ0_isLatin1_aae02_10 : decode cJ0_isLatin1_aae02 10 = .ok (.ifCond .ne 7, 3) := by decide +kernel
theorem dJ0_isLatin1_aae02_13 : decode cJ0_isLatin1_aae02 13 = .ok (.iconst 1, 1) := by decide +kernel
theorem dJ0_isLatin1_aae02_14 : decode cJ0_isLatin1_aae02 14 = .ok (.goto 4, 3) := by decide +kernel
theorem dJ0_isLatin1_aae02_17 : decode cJ0_isLatin1_aae02 17 = .ok (.iconst 0, 1) := by decide +kernel
theorem dJ0_isLatin1_aae02_18 : decode cJ0_isLatin1_aae02 18 = .ok (.ireturn, 1) := by decide +kernel
theorem dJ0_checkIndex_df160_0 : decode cJ0_checkIndex_df160 0 = .ok (.iload_n 0, 1) := by decide +kernel
theorem dJ0_checkIndex_df160_1 : decode cJ0_checkIndex_df160 1 = .ok (.iload_n 1, 1) := by decide +kernel
theorem dJ0_checkIndex_df160_2 : decode cJ0_checkIndex_df160 2 = .ok (.getstatic 1053, 3) := by decide +kernel
theorem dJ0_checkIndex_df160_5 : decode cJ0_checkIndex_df160 5 = .ok (.invokestatic 1059, 3) := by decide +kernel
theorem dJ0_checkIndex_df160_8 : decode cJ0_checkIndex_df160 8 = .ok (.pop, 1) := by decide +kernel
theorem dJ0_checkIndex_df160_9 : decode cJ0_checkIndex_df160 9 = .ok (.return_, 1) := by decide +kernel
theorem dJ1_charAt_3b067_0 : decode cJ1_charAt_3b067 0 = .ok (.iload_n 1, 1) := by decide +kernel
theorem dJ1_charAt_3b067_1 : decode cJ1_charAt_3b067 1 = .ok (.aload_n 0, 1) := by decide +kernel
theorem dJ1_charAt_3b067_2 : decode cJ1_charAt_3b067 2 = .ok (.arraylength, 1) := by decide +kernel
theorem dJ1_charAt_3b067_3 : decode cJ1_charAt_3b067 3 = .ok (.invokestatic 9, 3) := by decide +kernel
theorem dJ1_charAt_3b067_6 : decode cJ1_charAt_3b067 6 = .ok (.aload_n 0, 1) := by decide +kernel
theorem dJ1_charAt_3b067_7 : decode cJ1_charAt_3b067 7 = .ok (.iload_n 1, 1) := by decide +kernel
theorem dJ1_charAt_3b067_8 : decode cJ1_charAt_3b067 8 = .ok (.baload, 1) := by decide +kernel
theorem dJ1_charAt_3b067_9 : decode cJ1_charAt_3b067 9 = .ok (.sipush 255, 3) := by decide +kernel
theorem dJ1_charAt_3b067_12 : decode cJ1_charAt_3b067 12 = .ok (.iand, 1) := by decide +kernel
theorem dJ1_charAt_3b067_13 : decode cJ1_charAt_3b067 13 = .ok (.i2c, 1) := by decide +kernel
theorem dJ1_charAt_3b067_14 : decode cJ1_charAt_3b067 14 = .ok (.ireturn, 1) := by decide +kernel
theorem dJ3_checkIndex_8e157_0 : decode cJ3_checkIndex_8e157 0 = .ok (.iload_n 0, 1) := by decide +kernel
theorem dJ3_checkIndex_8e157_1 : decode cJ3_checkIndex_8e157 1 = .ok (.ifCond .lt 8, 3) := by decide +kernel
theorem dJ3_checkIndex_8e157_4 : decode cJ3_checkIndex_8e157 4 = .ok (.iload_n 0, 1) := by decide +kernel
theorem dJ3_checkIndex_8e157_5 : decode cJ3_checkIndex_8e157 5 = .ok (.iload_n 1, 1) := by decide +kernel
theorem dJ3_checkIndex_8e157_6 : decode cJ3_checkIndex_8e157 6 = .ok (.if_icmp .lt 10, 3) := by decide +kernel
theorem dJ3_checkIndex_8e157_9 : decode cJ3_checkIndex_8e157 9 = .ok (.aload_n 2, 1) := by decide +kernel
theorem dJ3_checkIndex_8e157_10 : decode cJ3_checkIndex_8e157 10 = .ok (.iload_n 0, 1) := by decide +kernel
theorem dJ3_checkIndex_8e157_11 : decode cJ3_checkIndex_8e157 11 = .ok (.iload_n 1, 1) := by decide +kernel
theorem dJ3_checkIndex_8e157_12 : decode cJ3_checkIndex_8e157 12 = .ok (.invokestatic 95, 3) := by decide +kernel
theorem dJ3_checkIndex_8e157_15 : decode cJ3_checkIndex_8e157 15 = .ok (.athrow, 1) := by decide +kernel
theorem dJ3_checkIndex_8e157_16 : decode cJ3_checkIndex_8e157 16 = .ok (.iload_n 0, 1) := by decide +kernel
theorem dJ3_checkIndex_8e157_17 : decode cJ3_checkIndex_8e157 17 = .ok (.ireturn, 1) := by decide +kernel
set_option maxHeartbeats 4000000 in
set_option maxRecDepth 20000 in
theorem tJ3_checkIndex_8e157 {l : Launch} {Z : jZ} {q : Nat → Nat} {ds : List jD} {V : jMem} {a0 a1 : Int32} {w : Value} (hw : w = .null ∨ ∃ t, w = .ref t) (h0 : ¬ a0 < 0) (h1 : a0 < a1) : CtD l Z yJ3_checkIndex_8e157 cJ3_checkIndex_8e157 3 (some .int) 0 q ds [.int a0, .int a1, w] V (some (.int a0)) V := by
  rcases hw with rfl | ⟨t, rfl⟩
  · refine Ct_of (L := [(0, .int a0), (1, .int a1), (2, .null)]) (own := RJ3) (nm := "checkIndex") rfl rfl (by decide +kernel) rfl (Nat.le_of_ble_eq_true rfl) ?_
    refine j_iload_n dJ3_checkIndex_8e157_0 rfl rfl ?_
    refine j_if_lt (tgt := 9) dJ3_checkIndex_8e157_1 rfl (by decide) (fun c1 => absurd c1 h0) (fun c1 => ?_)
    refine j_iload_n dJ3_checkIndex_8e157_4 rfl rfl ?_
    refine j_iload_n dJ3_checkIndex_8e157_5 rfl rfl ?_
    refine j_icmp_lt (tgt := 16) dJ3_checkIndex_8e157_6 rfl (by decide) (fun c2 => ?_) (fun c2 => absurd h1 c2)
    refine j_iload_n dJ3_checkIndex_8e157_16 rfl rfl ?_
    exact j_ireturn dJ3_checkIndex_8e157_17 rfl rfl ⟨Nat.le_refl _, Nat.le_refl _⟩ ⟨rfl, rfl⟩
  · refine Ct_of (L := [(0, .int a0), (1, .int a1), (2, .ref t)]) (own := RJ3) (nm := "checkIndex") rfl rfl (by decide +kernel) rfl (Nat.le_of_ble_eq_true rfl) ?_
    refine j_iload_n dJ3_checkIndex_8e157_0 rfl rfl ?_
    refine j_if_lt (tgt := 9) dJ3_checkIndex_8e157_1 rfl (by decide) (fun c1 => absurd c1 h0) (fun c1 => ?_)
    refine j_iload_n dJ3_checkIndex_8e157_4 rfl rfl ?_
    refine j_iload_n dJ3_checkIndex_8e157_5 rfl rfl ?_
    refine j_icmp_lt (tgt := 16) dJ3_checkIndex_8e157_6 rfl (by decide) (fun c2 => ?_) (fun c2 => absurd h1 c2)
    refine j_iload_n dJ3_checkIndex_8e157_16 rfl rfl ?_
    exact j_ireturn dJ3_checkIndex_8e157_17 rfl rfl ⟨Nat.le_refl _, Nat.le_refl _⟩ ⟨rfl, rfl⟩
set_option maxHeartbeats 4000000 in
set_option maxRecDepth 20000 in
theorem tJ0_checkIndex_df160 {l : Launch} {Z : jZ} {q : Nat → Nat} {ds : List jD} {V : jMem} {a0 a1 : Int32} (h0 : ¬ a0 < 0) (h1 : a0 < a1) : CtD l Z yJ0_checkIndex_df160 cJ0_checkIndex_df160 2 none 1 q ds [.int a0, .int a1] V none V := by
  refine Ct_of (L := [(0, .int a0), (1, .int a1)]) (own := RJ0) (nm := "checkIndex") rfl rfl (by decide +kernel) rfl (Nat.le_of_ble_eq_true rfl) ?_
  refine j_iload_n dJ0_checkIndex_df160_0 rfl rfl ?_
  refine j_iload_n dJ0_checkIndex_df160_1 rfl rfl ?_
  refine j_fmt dJ0_checkIndex_df160_2 rfl (fun w hw => ?_)
  refine o_callS_i (rest := []) kJ0_1059 dJ0_checkIndex_df160_5 rfl (tJ3_checkIndex_8e157 hw h0 h1) rfl rfl (Nat.le_of_ble_eq_true rfl) (by decide) ?_
  refine j_pop dJ0_checkIndex_df160_8 rfl rfl ?_
  exact j_return dJ0_checkIndex_df160_9 rfl ⟨Nat.le_refl _, Nat.le_refl _⟩ ⟨rfl, rfl⟩
def jChar (i : Nat) (x : Int32) : Int32 := ((((jByt.getD i []).getD x.toNatClampNeg 0) &&& 255).toUInt32 % 65536).toInt32
set_option maxHeartbeats 4000000 in
set_option maxRecDepth 20000 in
theorem tJ1_charAt_3b067 {l : Launch} {Z : jZ} {q : Nat → Nat} {ds : List jD} {V : jMem} {i : Nat} {a1 : Int32} (hi : i < 15) (hin : jin a1 (jLen.getD i 0) = true) : CtD l Z yJ1_charAt_3b067 cJ1_charAt_3b067 2 (some .char) 2 q ds [.ref (Z.2.2.2.1 i), .int a1] V (some (.int (jChar i a1))) V := by
  refine Ct_of (L := [(0, .ref (Z.2.2.2.1 i)), (1, .int a1)]) (own := RJ1) (nm := "charAt") rfl rfl (by decide +kernel) rfl (Nat.le_of_ble_eq_true rfl) ?_
  obtain ⟨h0, h1⟩ := jin_32 hin (jLen_lt i hi)
  refine j_iload_n dJ1_charAt_3b067_0 rfl rfl ?_
  refine j_aload_n dJ1_charAt_3b067_1 rfl rfl ?_
  refine j_blen hi dJ1_charAt_3b067_2 rfl ?_
  refine o_callS_v (rest := []) kJ1_9 dJ1_charAt_3b067_3 rfl (tJ0_checkIndex_df160 h0 h1) rfl rfl (Nat.le_of_ble_eq_true rfl) (by decide) ?_
  refine j_aload_n dJ1_charAt_3b067_6 rfl rfl ?_
  refine j_iload_n dJ1_charAt_3b067_7 rfl rfl ?_
  refine j_bald hi (jin_vp hin) dJ1_charAt_3b067_8 rfl ?_
  refine j_sipush (v := 255) dJ1_charAt_3b067_9 rfl (by decide) ?_
  refine j_iand dJ1_charAt_3b067_12 rfl ?_
  refine j_i2c dJ1_charAt_3b067_13 rfl ?_
  exact j_ireturn dJ1_charAt_3b067_14 rfl (pk_nc _) ⟨Nat.le_refl _, Nat.le_refl _⟩ ⟨rfl, rfl⟩
set_option maxHeartbeats 4000000 in
set_option maxRecDepth 20000 in
theorem tJ0_coder_7d493 {l : Launch} {Z : jZ} {q : Nat → Nat} {ds : List jD} {V : jMem} {i : Nat} (hi : i < 15) : CtD l Z yJ0_coder_7d493 cJ0_coder_7d493 1 (some .byte) 0 q ds [.ref (Z.2.2.1 i)] V (some (.int 0)) V := by
  refine Ct_of (L := [(0, .ref (Z.2.2.1 i))]) (own := RJ0) (nm := "coder") rfl rfl (by decide +kernel) rfl (Nat.le_of_ble_eq_true rfl) ?_
  refine j_cst dJ0_coder_7d493_0 rfl ?_
  refine j_if_eq (tgt := 13) dJ0_coder_7d493_3 rfl (by decide) (fun c1 => absurd c1 (by decide)) (fun c1 => ?_)
  refine j_aload_n dJ0_coder_7d493_6 rfl rfl ?_
  refine j_coder hi dJ0_coder_7d493_7 rfl ?_
  refine j_goto (tgt := 14) dJ0_coder_7d493_10 (by decide) ?_
  exact j_ireturn dJ0_coder_7d493_14 rfl rfl ⟨Nat.le_refl _, Nat.le_refl _⟩ ⟨rfl, rfl⟩
set_option maxHeartbeats 4000000 in
set_option maxRecDepth 20000 in
theorem tJ0_isLatin1_aae02 {l : Launch} {Z : jZ} {q : Nat → Nat} {ds : List jD} {V : jMem} {i : Nat} (hi : i < 15) : CtD l Z yJ0_isLatin1_aae02 cJ0_isLatin1_aae02 1 (some .boolean) 0 q ds [.ref (Z.2.2.1 i)] V (some (.int 1)) V := by
  refine Ct_of (L := [(0, .ref (Z.2.2.1 i))]) (own := RJ0) (nm := "isLatin1") rfl rfl (by decide +kernel) rfl (Nat.le_of_ble_eq_true rfl) ?_
  refine j_cst dJ0_isLatin1_aae02_0 rfl ?_
  refine j_if_eq (tgt := 17) dJ0_isLatin1_aae02_3 rfl (by decide) (fun c1 => absurd c1 (by decide)) (fun c1 => ?_)
  refine j_aload_n dJ0_isLatin1_aae02_6 rfl rfl ?_
  refine j_coder hi dJ0_isLatin1_aae02_7 rfl ?_
  refine j_if_ne (tgt := 17) dJ0_isLatin1_aae02_10 rfl (by decide) (fun c2 => absurd rfl c2) (fun c2 => ?_)
  refine j_iconst (v := 1) dJ0_isLatin1_aae02_13 rfl (by decide) ?_
  refine j_goto (tgt := 18) dJ0_isLatin1_aae02_14 (by decide) ?_
  exact j_zreturn dJ0_isLatin1_aae02_18 rfl (Or.inr rfl) ⟨Nat.le_refl _, Nat.le_refl _⟩ ⟨rfl, rfl⟩
def mJ0_length_8abf5 (c : Nat) : Int32 := nI (jLen.getD c 0) >>> ((0 : Int32) &&& (31 : Int32))
set_option maxHeartbeats 4000000 in
set_option maxRecDepth 20000 in
theorem tJ0_length_8abf5 {l : Launch} {Z : jZ} {q : Nat → Nat} {ds : List jD} {V : jMem} {c : Nat} {r : Int32} (hc : c < 15) (hm : mJ0_length_8abf5 c = r) : CtD l Z yJ0_length_8abf5 cJ0_length_8abf5 1 (some .int) 1 q ds [.ref (Z.2.2.1 c)] V (some (.int r)) V := by
  refine Ct_of (L := [(0, .ref (Z.2.2.1 c))]) (own := RJ0) (nm := "length") rfl rfl (by decide +kernel) rfl (Nat.le_of_ble_eq_true rfl) ?_
  unfold mJ0_length_8abf5 at hm
  refine j_aload_n dJ0_length_8abf5_0 rfl rfl ?_
  refine j_bytes hc dJ0_length_8abf5_1 rfl ?_
  refine j_blen hc dJ0_length_8abf5_4 rfl ?_
  refine j_aload_n dJ0_length_8abf5_5 rfl rfl ?_
  refine o_callT_i hc rfl kJ0_335 dJ0_length_8abf5_6 rfl (tJ0_coder_7d493 hc) rfl rfl (Nat.le_of_ble_eq_true rfl) (by decide) ?_
  refine j_ishr dJ0_length_8abf5_9 rfl ?_
  exact j_ireturn dJ0_length_8abf5_10 rfl rfl ⟨Nat.le_refl _, Nat.le_refl _⟩ (jf_t (fun z => .int z) hm)
def mJ0_charAt_5068e (c : Nat) (a1 : Int32) : Option Int32 := jg (jin a1 (jLen.getD c 0)) (some (jChar c a1))
set_option maxHeartbeats 4000000 in
set_option maxRecDepth 20000 in
theorem tJ0_charAt_5068e {l : Launch} {Z : jZ} {q : Nat → Nat} {ds : List jD} {V : jMem} {c : Nat} {a1 r : Int32} (hc : c < 15) (hm : mJ0_charAt_5068e c a1 = some r) : CtD l Z yJ0_charAt_5068e cJ0_charAt_5068e 2 (some .char) 3 q ds [.ref (Z.2.2.1 c), .int a1] V (some (.int r)) V := by
  refine Ct_of (L := [(0, .ref (Z.2.2.1 c)), (1, .int a1)]) (own := RJ0) (nm := "charAt") rfl rfl (by decide +kernel) rfl (Nat.le_of_ble_eq_true rfl) ?_
  unfold mJ0_charAt_5068e at hm
  obtain ⟨g1, hm⟩ := jg_of hm
  refine j_aload_n dJ0_charAt_5068e_0 rfl rfl ?_
  refine o_callT_i hc rfl kJ0_492 dJ0_charAt_5068e_1 rfl (tJ0_isLatin1_aae02 hc) rfl rfl (Nat.le_of_ble_eq_true rfl) (by decide) ?_
  refine j_if_eq (tgt := 16) dJ0_charAt_5068e_4 rfl (by decide) (fun c1 => absurd c1 (by decide)) (fun c1 => ?_)
  refine j_aload_n dJ0_charAt_5068e_7 rfl rfl ?_
  refine j_bytes hc dJ0_charAt_5068e_8 rfl ?_
  refine j_iload_n dJ0_charAt_5068e_11 rfl rfl ?_
  refine o_callS_i (rest := []) kJ0_495 dJ0_charAt_5068e_12 rfl (tJ1_charAt_3b067 hc g1) rfl rfl (Nat.le_of_ble_eq_true rfl) (by decide) ?_
  exact j_ireturn dJ0_charAt_5068e_15 rfl (pk_nc _) ⟨Nat.le_refl _, Nat.le_refl _⟩ (jf_p (fun z => .int z) hm)
