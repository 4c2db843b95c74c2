theorem dJ6_bitCount_0f7a4_0 : decode cJ6_bitCount_0f7a4 0 = .ok (.iload_n 0, 1) := by decide +kernel
theorem dJ6_bitCount_0f7a4_1 : decode cJ6_bitCount_0f7a4 1 = .ok (.iload_n 0, 1) := by decide +kernel
theorem dJ6_bitCount_0f7a4_2 : decode cJ6_bitCount_0f7a4 2 = .ok (.iconst 1, 1) := by decide +kernel
theorem dJ6_bitCount_0f7a4_3 : decode cJ6_bitCount_0f7a4 3 = .ok (.iushr, 1) := by decide +kernel
theorem dJ6_bitCount_0f7a4_4 : decode cJ6_bitCount_0f7a4 4 = .ok (.ldc_w 265, 3) := by decide +kernel
theorem dJ6_bitCount_0f7a4_7 : decode cJ6_bitCount_0f7a4 7 = .ok (.iand, 1) := by decide +kernel
theorem dJ6_bitCount_0f7a4_8 : decode cJ6_bitCount_0f7a4 8 = .ok (.isub, 1) := by decide +kernel
theorem dJ6_bitCount_0f7a4_9 : decode cJ6_bitCount_0f7a4 9 = .ok (.istore_n 0, 1) := by decide +kernel
theorem dJ6_bitCount_0f7a4_10 : decode cJ6_bitCount_0f7a4 10 = .ok (.iload_n 0, 1) := by decide +kernel
theorem dJ6_bitCount_0f7a4_11 : decode cJ6_bitCount_0f7a4 11 = .ok (.ldc_w 266, 3) := by decide +kernel
theorem dJ6_bitCount_0f7a4_14 : decode cJ6_bitCount_0f7a4 14 = .ok (.iand, 1) := by decide +kernel
theorem dJ6_bitCount_0f7a4_15 : decode cJ6_bitCount_0f7a4 15 = .ok (.iload_n 0, 1) := by decide +kernel
theorem dJ6_bitCount_0f7a4_16 : decode cJ6_bitCount_0f7a4 16 = .ok (.iconst 2, 1) := by decide +kernel
theorem dJ6_bitCount_0f7a4_17 : decode cJ6_bitCount_0f7a4 17 = .ok (.iushr, 1) := by decide +kernel
theorem dJ6_bitCount_0f7a4_18 : decode cJ6_bitCount_0f7a4 18 = .ok (.ldc_w 266, 3) := by decide +kernel
theorem dJ6_bitCount_0f7a4_21 : decode cJ6_bitCount_0f7a4 21 = .ok (.iand, 1) := by decide +kernel
theorem dJ6_bitCount_0f7a4_22 : decode cJ6_bitCount_0f7a4 22 = .ok (.iadd, 1) := by decide +kernel
theorem dJ6_bitCount_0f7a4_23 : decode cJ6_bitCount_0f7a4 23 = .ok (.istore_n 0, 1) := by decide +kernel
theorem dJ6_bitCount_0f7a4_24 : decode cJ6_bitCount_0f7a4 24 = .ok (.iload_n 0, 1) := by decide +kernel
theorem dJ6_bitCount_0f7a4_25 : decode cJ6_bitCount_0f7a4 25 = .ok (.iload_n 0, 1) := by decide +kernel
theorem dJ6_bitCount_0f7a4_26 : decode cJ6_bitCount_0f7a4 26 = .ok (.iconst 4, 1) := by decide +kernel
theorem dJ6_bitCount_0f7a4_27 : decode cJ6_bitCount_0f7a4 27 = .ok (.iushr, 1) := by decide +kernel
theorem dJ6_bitCount_0f7a4_28 : decode cJ6_bitCount_0f7a4 28 = .ok (.iadd, 1) := by decide +kernel
theorem dJ6_bitCount_0f7a4_29 : decode cJ6_bitCount_0f7a4 29 = .ok (.ldc_w 267, 3) := by decide +kernel
theorem dJ6_bitCount_0f7a4_32 : decode cJ6_bitCount_0f7a4 32 = .ok (.iand, 1) := by decide +kernel
theorem dJ6_bitCount_0f7a4_33 : decode cJ6_bitCount_0f7a4 33 = .ok (.istore_n 0, 1) := by decide +kernel
theorem dJ6_bitCount_0f7a4_34 : decode cJ6_bitCount_0f7a4 34 = .ok (.iload_n 0, 1) := by decide +kernel
theorem dJ6_bitCount_0f7a4_35 : decode cJ6_bitCount_0f7a4 35 = .ok (.iload_n 0, 1) := by decide +kernel
theorem dJ6_bitCount_0f7a4_36 : decode cJ6_bitCount_0f7a4 36 = .ok (.bipush 8, 2) := by decide +kernel
theorem dJ6_bitCount_0f7a4_38 : decode cJ6_bitCount_0f7a4 38 = .ok (.iushr, 1) := by decide +kernel
theorem dJ6_bitCount_0f7a4_39 : decode cJ6_bitCount_0f7a4 39 = .ok (.iadd, 1) := by decide +kernel
theorem dJ6_bitCount_0f7a4_40 : decode cJ6_bitCount_0f7a4 40 = .ok (.istore_n 0, 1) := by decide +kernel
theorem dJ6_bitCount_0f7a4_41 : decode cJ6_bitCount_0f7a4 41 = .ok (.iload_n 0, 1) := by decide +kernel
theorem dJ6_bitCount_0f7a4_42 : decode cJ6_bitCount_0f7a4 42 = .ok (.iload_n 0, 1) := by decide +kernel
theorem dJ6_bitCount_0f7a4_43 : decode cJ6_bitCount_0f7a4 43 = .ok (.bipush 16, 2) := by decide +kernel
theorem dJ6_bitCount_0f7a4_45 : decode cJ6_bitCount_0f7a4 45 = .ok (.iushr, 1) := by decide +kernel
theorem dJ6_bitCount_0f7a4_46 : decode cJ6_bitCount_0f7a4 46 = .ok (.iadd, 1) := by decide +kernel
theorem dJ6_bitCount_0f7a4_47 : decode cJ6_bitCount_0f7a4 47 = .ok (.istore_n 0, 1) := by decide +kernel
theorem dJ6_bitCount_0f7a4_48 : decode cJ6_bitCount_0f7a4 48 = .ok (.iload_n 0, 1) := by decide +kernel
theorem dJ6_bitCount_0f7a4_49 : decode cJ6_bitCount_0f7a4 49 = .ok (.bipush 63, 2) := by decide +kernel
theorem dJ6_bitCount_0f7a4_51 : decode cJ6_bitCount_0f7a4 51 = .ok (.iand, 1) := by decide +kernel
theorem dJ6_bitCount_0f7a4_52 : decode cJ6_bitCount_0f7a4 52 = .ok (.ireturn, 1) := by decide +kernel
def mJ6_bitCount_0f7a4 (a0 : Int32) : Int32 := (jl (a0 - (((Int32.toUInt32 a0 >>> (Int32.toUInt32 (1 : Int32) &&& Int32.toUInt32 31)).toInt32) &&& (1431655765 : Int32))) (fun (v1 : Int32) => (jl ((v1 &&& (858993459 : Int32)) + (((Int32.toUInt32 v1 >>> (Int32.toUInt32 (2 : Int32) &&& Int32.toUInt32 31)).toInt32) &&& (858993459 : Int32))) (fun (v2 : Int32) => (jl ((v2 + ((Int32.toUInt32 v2 >>> (Int32.toUInt32 (4 : Int32) &&& Int32.toUInt32 31)).toInt32)) &&& (252645135 : Int32)) (fun (v3 : Int32) => (jl (v3 + ((Int32.toUInt32 v3 >>> (Int32.toUInt32 (8 : Int32) &&& Int32.toUInt32 31)).toInt32)) (fun (v4 : Int32) => (jl (v4 + ((Int32.toUInt32 v4 >>> (Int32.toUInt32 (16 : Int32) &&& Int32.toUInt32 31)).toInt32)) (fun (v5 : Int32) => (v5 &&& (63 : Int32))))))))))))
set_option maxHeartbeats 4000000 in
set_option maxRecDepth 20000 in
theorem tJ6_bitCount_0f7a4 {l : Launch} {Z : jZ} {q : Nat → Nat} {ds : List jD} {V : jMem} {a0 : Int32} {r : Int32}  (hm : mJ6_bitCount_0f7a4 a0 = r) : CtD l Z yJ6_bitCount_0f7a4 cJ6_bitCount_0f7a4 1 (some .int) 0 q ds [.int a0] V (some (.int r)) V := by
  refine Ct_of (L := [(0, .int a0)]) (own := RJ6) (nm := "bitCount") rfl rfl (by decide +kernel) rfl (Nat.le_of_ble_eq_true rfl) ?_
  unfold mJ6_bitCount_0f7a4 at hm
  refine j_iload_n dJ6_bitCount_0f7a4_0 rfl rfl ?_
  refine j_iload_n dJ6_bitCount_0f7a4_1 rfl rfl ?_
  refine j_iconst (v := 1) dJ6_bitCount_0f7a4_2 rfl (by decide) ?_
  refine j_iushr dJ6_bitCount_0f7a4_3 rfl ?_
  refine j_ldcw dJ6_bitCount_0f7a4_4 rfl wJ6_265 ?_
  refine j_iand dJ6_bitCount_0f7a4_7 rfl ?_
  refine j_isub dJ6_bitCount_0f7a4_8 rfl ?_
  obtain ⟨v1, ev1⟩ : ∃ y, y = ((a0 - (((Int32.toUInt32 a0 >>> (Int32.toUInt32 (1 : Int32) &&& Int32.toUInt32 31)).toInt32) &&& (1431655765 : Int32))) : Int32) := ⟨_, rfl⟩
  have hm := jl_of hm ev1
  rw [← ev1]
  refine j_istore_n (i := 0) (L' := [(0, _)]) dJ6_bitCount_0f7a4_9 rfl rfl (by decide) rfl ?_
  refine j_iload_n dJ6_bitCount_0f7a4_10 rfl rfl ?_
  refine j_ldcw dJ6_bitCount_0f7a4_11 rfl wJ6_266 ?_
  refine j_iand dJ6_bitCount_0f7a4_14 rfl ?_
  refine j_iload_n dJ6_bitCount_0f7a4_15 rfl rfl ?_
  refine j_iconst (v := 2) dJ6_bitCount_0f7a4_16 rfl (by decide) ?_
  refine j_iushr dJ6_bitCount_0f7a4_17 rfl ?_
  refine j_ldcw dJ6_bitCount_0f7a4_18 rfl wJ6_266 ?_
  refine j_iand dJ6_bitCount_0f7a4_21 rfl ?_
  refine j_iadd dJ6_bitCount_0f7a4_22 rfl ?_
  obtain ⟨v2, ev2⟩ : ∃ y, y = (((v1 &&& (858993459 : Int32)) + (((Int32.toUInt32 v1 >>> (Int32.toUInt32 (2 : Int32) &&& Int32.toUInt32 31)).toInt32) &&& (858993459 : Int32))) : Int32) := ⟨_, rfl⟩
  have hm := jl_of hm ev2
  rw [← ev2]
  refine j_istore_n (i := 0) (L' := [(0, _)]) dJ6_bitCount_0f7a4_23 rfl rfl (by decide) rfl ?_
  refine j_iload_n dJ6_bitCount_0f7a4_24 rfl rfl ?_
  refine j_iload_n dJ6_bitCount_0f7a4_25 rfl rfl ?_
  refine j_iconst (v := 4) dJ6_bitCount_0f7a4_26 rfl (by decide) ?_
  refine j_iushr dJ6_bitCount_0f7a4_27 rfl ?_
  refine j_iadd dJ6_bitCount_0f7a4_28 rfl ?_
  refine j_ldcw dJ6_bitCount_0f7a4_29 rfl wJ6_267 ?_
  refine j_iand dJ6_bitCount_0f7a4_32 rfl ?_
  obtain ⟨v3, ev3⟩ : ∃ y, y = (((v2 + ((Int32.toUInt32 v2 >>> (Int32.toUInt32 (4 : Int32) &&& Int32.toUInt32 31)).toInt32)) &&& (252645135 : Int32)) : Int32) := ⟨_, rfl⟩
  have hm := jl_of hm ev3
  rw [← ev3]
  refine j_istore_n (i := 0) (L' := [(0, _)]) dJ6_bitCount_0f7a4_33 rfl rfl (by decide) rfl ?_
  refine j_iload_n dJ6_bitCount_0f7a4_34 rfl rfl ?_
  refine j_iload_n dJ6_bitCount_0f7a4_35 rfl rfl ?_
  refine j_bipush (v := 8) dJ6_bitCount_0f7a4_36 rfl (by decide) ?_
  refine j_iushr dJ6_bitCount_0f7a4_38 rfl ?_
  refine j_iadd dJ6_bitCount_0f7a4_39 rfl ?_
  obtain ⟨v4, ev4⟩ : ∃ y, y = ((v3 + ((Int32.toUInt32 v3 >>> (Int32.toUInt32 (8 : Int32) &&& Int32.toUInt32 31)).toInt32)) : Int32) := ⟨_, rfl⟩
  have hm := jl_of hm ev4
  rw [← ev4]
  refine j_istore_n (i := 0) (L' := [(0, _)]) dJ6_bitCount_0f7a4_40 rfl rfl (by decide) rfl ?_
  refine j_iload_n dJ6_bitCount_0f7a4_41 rfl rfl ?_
  refine j_iload_n dJ6_bitCount_0f7a4_42 rfl rfl ?_
  refine j_bipush (v := 16) dJ6_bitCount_0f7a4_43 rfl (by decide) ?_
  refine j_iushr dJ6_bitCount_0f7a4_45 rfl ?_
  refine j_iadd dJ6_bitCount_0f7a4_46 rfl ?_
  obtain ⟨v5, ev5⟩ : ∃ y, y = ((v4 + ((Int32.toUInt32 v4 >>> (Int32.toUInt32 (16 : Int32) &&& Int32.toUInt32 31)).toInt32)) : Int32) := ⟨_, rfl⟩
  have hm := jl_of hm ev5
  rw [← ev5]
  refine j_istore_n (i := 0) (L' := [(0, _)]) dJ6_bitCount_0f7a4_47 rfl rfl (by decide) rfl ?_
  refine j_iload_n dJ6_bitCount_0f7a4_48 rfl rfl ?_
  refine j_bipush (v := 63) dJ6_bitCount_0f7a4_49 rfl (by decide) ?_
  refine j_iand dJ6_bitCount_0f7a4_51 rfl ?_
  exact j_ireturn dJ6_bitCount_0f7a4_52 rfl rfl ⟨Nat.le_refl _, Nat.le_refl _⟩ (jf_t (fun z => .int z) hm)
theorem dJ7_fill_d0a16_0 : decode cJ7_fill_d0a16 0 = .ok (.iconst 0, 1) := by decide +kernel
theorem dJ7_fill_d0a16_1 : decode cJ7_fill_d0a16 1 = .ok (.istore_n 3, 1) := by decide +kernel
theorem dJ7_fill_d0a16_2 : decode cJ7_fill_d0a16 2 = .ok (.aload_n 0, 1) := by decide +kernel
theorem dJ7_fill_d0a16_3 : decode cJ7_fill_d0a16 3 = .ok (.arraylength, 1) := by decide +kernel
theorem dJ7_fill_d0a16_4 : decode cJ7_fill_d0a16 4 = .ok (.istore 4, 2) := by decide +kernel
theorem dJ7_fill_d0a16_6 : decode cJ7_fill_d0a16 6 = .ok (.iload_n 3, 1) := by decide +kernel
theorem dJ7_fill_d0a16_7 : decode cJ7_fill_d0a16 7 = .ok (.iload 4, 2) := by decide +kernel
theorem dJ7_fill_d0a16_9 : decode cJ7_fill_d0a16 9 = .ok (.if_icmp .ge 13, 3) := by decide +kernel
theorem dJ7_fill_d0a16_12 : decode cJ7_fill_d0a16 12 = .ok (.aload_n 0, 1) := by decide +kernel
theorem dJ7_fill_d0a16_13 : decode cJ7_fill_d0a16 13 = .ok (.iload_n 3, 1) := by decide +kernel
theorem dJ7_fill_d0a16_14 : decode cJ7_fill_d0a16 14 = .ok (.lload_n 1, 1) := by decide +kernel
theorem dJ7_fill_d0a16_15 : decode cJ7_fill_d0a16 15 = .ok (.lastore, 1) := by decide +kernel
theorem dJ7_fill_d0a16_16 : decode cJ7_fill_d0a16 16 = .ok (.iinc 3 1, 3) := by decide +kernel
theorem dJ7_fill_d0a16_19 : decode cJ7_fill_d0a16 19 = .ok (.goto (-13), 3) := by decide +kernel
theorem dJ7_fill_d0a16_22 : decode cJ7_fill_d0a16 22 = .ok (.return_, 1) := by decide +kernel
def mJ7_fill_d0a16_b6 (p : Nat) (pn : Nat)  : Nat → Int64 → Int32 → Int32 → jMem → Option jMem
  | 0, _, _, _, _ => none
  | n + 1, a1, a3, a4, V => (if a4 ≤ a3 then (some V) else (jg (jin a3 pn) (jl (jsL V p (Int32.toNatClampNeg a3) a1) (fun (V3 : jMem) => (mJ7_fill_d0a16_b6 p pn n a1 (a3 + (1 : Int32)) a4 V3)))))
set_option maxHeartbeats 4000000 in
set_option maxRecDepth 20000 in
theorem tJ7_fill_d0a16_b6 {l : Launch} {Z : jZ} {q : Nat → Nat} {ds : List jD} {p : Nat} {pn : Nat} {V' : jMem} (hp : ds[p]? = some (.inr (1, pn)) ∧ pn < 2 ^ 31)  (n : Nat) : ∀ (a1 : Int64) (a3 : Int32) (a4 : Int32) (V : jMem), mJ7_fill_d0a16_b6 p pn n a1 a3 a4 V = some V' → J l Z RJ7 "fill" cJ7_fill_d0a16 5 none 0 0 0 (fun r' w => r' = none ∧ w = jw Z q V' ds) 6 [(0, .ref (q p)), (1, .long a1), (3, .int a3), (4, .int a4)] [] (jw Z q V ds) 0 0 := by
  induction n with
  | zero => intro a1 a3 a4 V hm; cases hm
  | succ n ih =>
    intro a1 a3 a4 V hm
    rw [mJ7_fill_d0a16_b6] at hm
    refine j_iload_n dJ7_fill_d0a16_6 rfl rfl ?_
    refine j_iload dJ7_fill_d0a16_7 rfl rfl ?_
    refine j_icmp_ge (tgt := 22) dJ7_fill_d0a16_9 rfl (by decide) (fun c1 => ?_) (fun c1 => ?_)
    · have hm := jif_pos c1 hm
      exact j_return dJ7_fill_d0a16_22 rfl ⟨Nat.le_refl _, Nat.le_refl _⟩ (jf_v hm)
    · have hm := jif_neg c1 hm
      refine j_aload_n dJ7_fill_d0a16_12 rfl rfl ?_
      refine j_iload_n dJ7_fill_d0a16_13 rfl rfl ?_
      refine j_lload_n dJ7_fill_d0a16_14 rfl rfl ?_
      obtain ⟨g2, hm⟩ := jg_of hm
      refine o_last (k := (Int32.toNatClampNeg a3)) rfl dJ7_fill_d0a16_15 rfl hp.1 (jin_vp g2) ?_
      obtain ⟨V3, eV3⟩ : ∃ y, y = (jsL V p (Int32.toNatClampNeg a3) a1) := ⟨_, rfl⟩
      have hm := jl_of hm eV3
      rw [← eV3]
      refine j_iinc (v := (a3 + (1 : Int32))) (L' := [(3, _), (0, _), (1, _), (4, _)]) dJ7_fill_d0a16_16 rfl rfl rfl (by decide) rfl ?_
      refine j_goto (tgt := 6) dJ7_fill_d0a16_19 (by decide) ?_
      refine j_sub (L' := [(0, _), (1, _), (3, _), (4, _)]) [1, 2, 0, 3] rfl ?_
      exact ih _ _ _ _  hm
def mJ7_fill_d0a16 (p : Nat) (pn : Nat) (a1 : Int64) (V : jMem) : Option jMem := (mJ7_fill_d0a16_b6 p pn 2000 a1 (0 : Int32) (nI pn) V)
set_option maxHeartbeats 4000000 in
set_option maxRecDepth 20000 in
theorem tJ7_fill_d0a16 {l : Launch} {Z : jZ} {q : Nat → Nat} {ds : List jD} {p : Nat} {pn : Nat} {a1 : Int64} {V : jMem} {V' : jMem} (hp : ds[p]? = some (.inr (1, pn)) ∧ pn < 2 ^ 31) (hm : mJ7_fill_d0a16 p pn a1 V = some V') : CtD l Z yJ7_fill_d0a16 cJ7_fill_d0a16 5 none 0 q ds [.ref (q p), .long a1] V none V' := by
  refine Ct_of (L := [(0, .ref (q p)), (1, .long a1)]) (own := RJ7) (nm := "fill") rfl rfl (by decide +kernel) rfl (Nat.le_of_ble_eq_true rfl) ?_
  unfold mJ7_fill_d0a16 at hm
  refine j_iconst (v := 0) dJ7_fill_d0a16_0 rfl (by decide) ?_
  refine j_istore_n (i := 3) (L' := [(3, _), (0, _), (1, _)]) dJ7_fill_d0a16_1 rfl rfl (by decide) rfl ?_
  refine j_aload_n dJ7_fill_d0a16_2 rfl rfl ?_
  refine m_alen dJ7_fill_d0a16_3 rfl hp.1 ?_
  refine j_istore (L' := [(4, _), (3, _), (0, _), (1, _)]) dJ7_fill_d0a16_4 rfl (by decide) rfl ?_
  refine j_sub (L' := [(0, _), (1, _), (3, _), (4, _)]) [2, 3, 1, 0] rfl ?_
  exact tJ7_fill_d0a16_b6 hp  _ _ _ _ _  hm
