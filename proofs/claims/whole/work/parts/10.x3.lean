theorem dX4_readField_0 : decode cX4_readField 0 = .ok (.aload_n 1, 1) := by decide +kernel
theorem dX4_readField_1 : decode cX4_readField 1 = .ok (.getfield 64, 3) := by decide +kernel
theorem dX4_readField_4 : decode cX4_readField 4 = .ok (.bipush 14, 2) := by decide +kernel
theorem dX4_readField_6 : decode cX4_readField 6 = .ok (.if_icmp .lt 5, 3) := by decide +kernel
theorem dX4_readField_9 : decode cX4_readField 9 = .ok (.iconst 0, 1) := by decide +kernel
theorem dX4_readField_10 : decode cX4_readField 10 = .ok (.ireturn, 1) := by decide +kernel
theorem dX4_readField_11 : decode cX4_readField 11 = .ok (.aload_n 1, 1) := by decide +kernel
theorem dX4_readField_12 : decode cX4_readField 12 = .ok (.iload_n 2, 1) := by decide +kernel
theorem dX4_readField_13 : decode cX4_readField 13 = .ok (.iconst 1, 1) := by decide +kernel
theorem dX4_readField_14 : decode cX4_readField 14 = .ok (.invokevirtual 69, 3) := by decide +kernel
theorem dX4_readField_17 : decode cX4_readField 17 = .ok (.istore_n 3, 1) := by decide +kernel
theorem dX4_readField_18 : decode cX4_readField 18 = .ok (.aload_n 0, 1) := by decide +kernel
theorem dX4_readField_19 : decode cX4_readField 19 = .ok (.aload_n 1, 1) := by decide +kernel
theorem dX4_readField_20 : decode cX4_readField 20 = .ok (.getfield 79, 3) := by decide +kernel
theorem dX4_readField_23 : decode cX4_readField 23 = .ok (.iload_n 3, 1) := by decide +kernel
theorem dX4_readField_24 : decode cX4_readField 24 = .ok (.iconst 1, 1) := by decide +kernel
theorem dX4_readField_25 : decode cX4_readField 25 = .ok (.sipush 9999, 3) := by decide +kernel
theorem dX4_readField_28 : decode cX4_readField 28 = .ok (.invokestatic 343, 3) := by decide +kernel
theorem dX4_readField_31 : decode cX4_readField 31 = .ok (.ifCond .ne 5, 3) := by decide +kernel
theorem dX4_readField_34 : decode cX4_readField 34 = .ok (.iconst 0, 1) := by decide +kernel
theorem dX4_readField_35 : decode cX4_readField 35 = .ok (.ireturn, 1) := by decide +kernel
theorem dX4_readField_36 : decode cX4_readField 36 = .ok (.aload_n 0, 1) := by decide +kernel
theorem dX4_readField_37 : decode cX4_readField 37 = .ok (.ldc_w 347, 3) := by decide +kernel
theorem dX4_readField_40 : decode cX4_readField 40 = .ok (.invokevirtual 325, 3) := by decide +kernel
theorem dX4_readField_43 : decode cX4_readField 43 = .ok (.ifCond .eq 20, 3) := by decide +kernel
theorem dX4_readField_46 : decode cX4_readField 46 = .ok (.aload_n 0, 1) := by decide +kernel
theorem dX4_readField_47 : decode cX4_readField 47 = .ok (.aload_n 1, 1) := by decide +kernel
theorem dX4_readField_48 : decode cX4_readField 48 = .ok (.getfield 82, 3) := by decide +kernel
theorem dX4_readField_51 : decode cX4_readField 51 = .ok (.iload_n 3, 1) := by decide +kernel
theorem dX4_readField_52 : decode cX4_readField 52 = .ok (.iconst 0, 1) := by decide +kernel
theorem dX4_readField_53 : decode cX4_readField 53 = .ok (.bipush 9, 2) := by decide +kernel
theorem dX4_readField_55 : decode cX4_readField 55 = .ok (.invokestatic 343, 3) := by decide +kernel
theorem dX4_readField_58 : decode cX4_readField 58 = .ok (.ifCond .ne 5, 3) := by decide +kernel
theorem dX4_readField_61 : decode cX4_readField 61 = .ok (.iconst 0, 1) := by decide +kernel
theorem dX4_readField_62 : decode cX4_readField 62 = .ok (.ireturn, 1) := by decide +kernel
theorem dX4_readField_63 : decode cX4_readField 63 = .ok (.aload_n 0, 1) := by decide +kernel
theorem dX4_readField_64 : decode cX4_readField 64 = .ok (.ldc_w 348, 3) := by decide +kernel
theorem dX4_readField_67 : decode cX4_readField 67 = .ok (.invokevirtual 325, 3) := by decide +kernel
theorem dX4_readField_70 : decode cX4_readField 70 = .ok (.ifCond .ne 5, 3) := by decide +kernel
theorem dX4_readField_73 : decode cX4_readField 73 = .ok (.iconst 1, 1) := by decide +kernel
theorem dX4_readField_74 : decode cX4_readField 74 = .ok (.ireturn, 1) := by decide +kernel
theorem dX4_readField_75 : decode cX4_readField 75 = .ok (.aload_n 0, 1) := by decide +kernel
theorem dX4_readField_76 : decode cX4_readField 76 = .ok (.bipush 14, 2) := by decide +kernel
theorem dX4_readField_78 : decode cX4_readField 78 = .ok (.invokestatic 349, 3) := by decide +kernel
theorem dX4_readField_81 : decode cX4_readField 81 = .ok (.istore 4, 2) := by decide +kernel
theorem dX4_readField_83 : decode cX4_readField 83 = .ok (.iload 4, 2) := by decide +kernel
theorem dX4_readField_85 : decode cX4_readField 85 = .ok (.ifCond .ge 5, 3) := by decide +kernel
theorem dX4_readField_88 : decode cX4_readField 88 = .ok (.iconst 0, 1) := by decide +kernel
theorem dX4_readField_89 : decode cX4_readField 89 = .ok (.ireturn, 1) := by decide +kernel
theorem dX4_readField_90 : decode cX4_readField 90 = .ok (.aload_n 1, 1) := by decide +kernel
theorem dX4_readField_91 : decode cX4_readField 91 = .ok (.getfield 85, 3) := by decide +kernel
theorem dX4_readField_94 : decode cX4_readField 94 = .ok (.iload_n 3, 1) := by decide +kernel
theorem dX4_readField_95 : decode cX4_readField 95 = .ok (.iload 4, 2) := by decide +kernel
theorem dX4_readField_97 : decode cX4_readField 97 = .ok (.iastore, 1) := by decide +kernel
theorem dX4_readField_98 : decode cX4_readField 98 = .ok (.iconst 1, 1) := by decide +kernel
theorem dX4_readField_99 : decode cX4_readField 99 = .ok (.ireturn, 1) := by decide +kernel
def mX4_readField_b63   (a3 : Int32) (V : jMem) : Option (Int32 × jMem) := ((mX3_isWord 10 V).bind (fun (r1 : Int32) => (if r1 = (0 : Int32) then (some ((1 : Int32), V)) else ((mX4_readSet (14 : Int32) V).bind (fun (p3 : Int32 × jMem) => (if (0 : Int32) ≤ p3.1 then (jg (jin a3 14) (jl (jsI p3.2 5 (Int32.toNatClampNeg a3) p3.1) (fun (V6 : jMem) => (some ((1 : Int32), V6))))) else (some ((0 : Int32), p3.2))))))))
set_option maxHeartbeats 4000000 in
set_option maxRecDepth 20000 in
theorem tX4_readField_b63 {l : Launch} {Z : jZ} {q : Nat → Nat} {a3 : Int32} {V : jMem} {r : Int32} {V' : jMem}    (hm : mX4_readField_b63 a3 V = some (r, V')) : J l Z RX4 "readField" cX4_readField 5 (some .boolean) 5 0 0 (fun r' w => r' = some (.int r) ∧ w = jw Z q V' dX) 63 [(0, .ref (q 36)), (1, .ref (q 1)), (3, .int a3)] [] (jw Z q V dX) 0 0 := by
  unfold mX4_readField_b63 at hm
  refine j_aload_n dX4_readField_63 rfl rfl ?_
  refine j_ldcwS (i := 10) (by decide) rfl rfl dX4_readField_64 rfl ?_
  obtain ⟨r1, er1, hm⟩ := jb_of hm
  refine o_callV_i kX4_325 dX4_readField_67 rfl (tX3_isWord (by decide) er1) rfl rfl rfl rfl rfl (Nat.le_of_ble_eq_true rfl) (by decide) ?_
  refine j_if_ne (tgt := 75) dX4_readField_70 rfl (by decide) (fun c2 => ?_) (fun c2 => ?_)
  · have hm := jif_neg c2 hm
    refine j_aload_n dX4_readField_75 rfl rfl ?_
    refine j_bipush (v := 14) dX4_readField_76 rfl (by decide) ?_
    obtain ⟨p3, ep3, hm⟩ := jb_of hm
    refine o_callS_i kX4_349 dX4_readField_78 rfl (tX4_readSet  ep3) rfl rfl (Nat.le_of_ble_eq_true rfl) (by decide) ?_
    refine j_istore (L' := [(4, _), (0, _), (1, _), (3, _)]) dX4_readField_81 rfl (by decide) rfl ?_
    refine j_iload dX4_readField_83 rfl rfl ?_
    refine j_if_ge (tgt := 90) dX4_readField_85 rfl (by decide) (fun c4 => ?_) (fun c4 => ?_)
    · have hm := jif_pos c4 hm
      refine j_aload_n dX4_readField_90 rfl rfl ?_
      refine m_getr (k := 4) (r := 5) fX4_85 dX4_readField_91 rfl rfl rfl ?_
      refine j_iload_n dX4_readField_94 rfl rfl ?_
      refine j_iload dX4_readField_95 rfl rfl ?_
      obtain ⟨g5, hm⟩ := jg_of hm
      refine o_iast (k := (Int32.toNatClampNeg a3)) rfl dX4_readField_97 rfl rfl (jin_vp g5) ?_
      obtain ⟨V6, eV6⟩ : ∃ y, y = (jsI p3.2 5 (Int32.toNatClampNeg a3) p3.1) := ⟨_, rfl⟩
      have hm := jl_of hm eV6
      rw [← eV6]
      refine j_iconst (v := 1) dX4_readField_98 rfl (by decide) ?_
      exact j_zreturn dX4_readField_99 rfl (by decide) ⟨Nat.le_refl _, Nat.le_refl _⟩ (jf_m (fun z => .int z) hm)
    · have hm := jif_neg c4 hm
      refine j_iconst (v := 0) dX4_readField_88 rfl (by decide) ?_
      exact j_zreturn dX4_readField_89 rfl (by decide) ⟨Nat.le_refl _, Nat.le_refl _⟩ (jf_m (fun z => .int z) hm)
  · have hm := jif_pos c2 hm
    refine j_iconst (v := 1) dX4_readField_73 rfl (by decide) ?_
    exact j_zreturn dX4_readField_74 rfl (by decide) ⟨Nat.le_refl _, Nat.le_refl _⟩ (jf_m (fun z => .int z) hm)
def mX4_readField (a2 : Int32) (V : jMem) : Option (Int32 × jMem) := (if (V.1 1 0) < (14 : Int32) then ((mX0_addField a2 (1 : Int32) V).bind (fun (p2 : Int32 × jMem) => ((mX4_readInto 3 14 p2.1 (1 : Int32) (9999 : Int32) p2.2).bind (fun (p3 : Int32 × jMem) => (if p3.1 = (0 : Int32) then (some ((0 : Int32), p3.2)) else ((mX3_isWord 9 p3.2).bind (fun (r5 : Int32) => (if r5 = (0 : Int32) then (mX4_readField_b63 p2.1 p3.2) else ((mX4_readInto 4 14 p2.1 (0 : Int32) (9 : Int32) p3.2).bind (fun (p7 : Int32 × jMem) => (if p7.1 = (0 : Int32) then (some ((0 : Int32), p7.2)) else (mX4_readField_b63 p2.1 p7.2)))))))))))) else (some ((0 : Int32), V)))
set_option maxHeartbeats 4000000 in
set_option maxRecDepth 20000 in
theorem tX4_readField {l : Launch} {Z : jZ} {q : Nat → Nat} {a2 : Int32} {V : jMem} {r : Int32} {V' : jMem}  (hm : mX4_readField a2 V = some (r, V')) : CtD l Z yX4_readField cX4_readField 5 (some .boolean) 5 q dX [.ref (q 36), .ref (q 1), .int a2] V (some (.int r)) V' := by
  refine Ct_of (L := [(0, .ref (q 36)), (1, .ref (q 1)), (2, .int a2)]) (own := RX4) (nm := "readField") rfl rfl (by decide +kernel) rfl (Nat.le_of_ble_eq_true rfl) ?_
  unfold mX4_readField at hm
  refine j_aload_n dX4_readField_0 rfl rfl ?_
  refine m_geti (k := 0) fX4_64 dX4_readField_1 rfl rfl rfl ?_
  refine j_bipush (v := 14) dX4_readField_4 rfl (by decide) ?_
  refine j_icmp_lt (tgt := 11) dX4_readField_6 rfl (by decide) (fun c1 => ?_) (fun c1 => ?_)
  · have hm := jif_pos c1 hm
    refine j_aload_n dX4_readField_11 rfl rfl ?_
    refine j_iload_n dX4_readField_12 rfl rfl ?_
    refine j_iconst (v := 1) dX4_readField_13 rfl (by decide) ?_
    obtain ⟨p2, ep2, hm⟩ := jb_of hm
    refine o_callV_i kX4_69 dX4_readField_14 rfl (tX0_addField  ep2) rfl rfl rfl rfl rfl (Nat.le_of_ble_eq_true rfl) (by decide) ?_
    refine j_istore_n (i := 3) (L' := [(3, _), (0, _), (1, _), (2, _)]) dX4_readField_17 rfl rfl (by decide) rfl ?_
    refine j_aload_n dX4_readField_18 rfl rfl ?_
    refine j_aload_n dX4_readField_19 rfl rfl ?_
    refine m_getr (k := 2) (r := 3) fX4_79 dX4_readField_20 rfl rfl rfl ?_
    refine j_iload_n dX4_readField_23 rfl rfl ?_
    refine j_iconst (v := 1) dX4_readField_24 rfl (by decide) ?_
    refine j_sipush (v := 9999) dX4_readField_25 rfl (by decide) ?_
    obtain ⟨p3, ep3, hm⟩ := jb_of hm
    refine o_callS_i kX4_343 dX4_readField_28 rfl (tX4_readInto rfl ep3) rfl rfl (Nat.le_of_ble_eq_true rfl) (by decide) ?_
    refine j_if_ne (tgt := 36) dX4_readField_31 rfl (by decide) (fun c4 => ?_) (fun c4 => ?_)
    · have hm := jif_neg c4 hm
      refine j_aload_n dX4_readField_36 rfl rfl ?_
      refine j_ldcwS (i := 9) (by decide) rfl rfl dX4_readField_37 rfl ?_
      obtain ⟨r5, er5, hm⟩ := jb_of hm
      refine o_callV_i kX4_325 dX4_readField_40 rfl (tX3_isWord (by decide) er5) rfl rfl rfl rfl rfl (Nat.le_of_ble_eq_true rfl) (by decide) ?_
      refine j_if_eq (tgt := 63) dX4_readField_43 rfl (by decide) (fun c6 => ?_) (fun c6 => ?_)
      · have hm := jif_pos c6 hm
        refine j_sub (L' := [(0, _), (1, _), (3, _)]) [1, 2, 0] rfl ?_
        exact tX4_readField_b63    hm
      · have hm := jif_neg c6 hm
        refine j_aload_n dX4_readField_46 rfl rfl ?_
        refine j_aload_n dX4_readField_47 rfl rfl ?_
        refine m_getr (k := 3) (r := 4) fX4_82 dX4_readField_48 rfl rfl rfl ?_
        refine j_iload_n dX4_readField_51 rfl rfl ?_
        refine j_iconst (v := 0) dX4_readField_52 rfl (by decide) ?_
        refine j_bipush (v := 9) dX4_readField_53 rfl (by decide) ?_
        obtain ⟨p7, ep7, hm⟩ := jb_of hm
        refine o_callS_i kX4_343 dX4_readField_55 rfl (tX4_readInto rfl ep7) rfl rfl (Nat.le_of_ble_eq_true rfl) (by decide) ?_
        refine j_if_ne (tgt := 63) dX4_readField_58 rfl (by decide) (fun c8 => ?_) (fun c8 => ?_)
        · have hm := jif_neg c8 hm
          refine j_sub (L' := [(0, _), (1, _), (3, _)]) [1, 2, 0] rfl ?_
          exact tX4_readField_b63    hm
        · have hm := jif_pos c8 hm
          refine j_iconst (v := 0) dX4_readField_61 rfl (by decide) ?_
          exact j_zreturn dX4_readField_62 rfl (by decide) ⟨Nat.le_refl _, Nat.le_refl _⟩ (jf_m (fun z => .int z) hm)
    · have hm := jif_pos c4 hm
      refine j_iconst (v := 0) dX4_readField_34 rfl (by decide) ?_
      exact j_zreturn dX4_readField_35 rfl (by decide) ⟨Nat.le_refl _, Nat.le_refl _⟩ (jf_m (fun z => .int z) hm)
  · have hm := jif_neg c1 hm
    refine j_iconst (v := 0) dX4_readField_9 rfl (by decide) ?_
    exact j_zreturn dX4_readField_10 rfl (by decide) ⟨Nat.le_refl _, Nat.le_refl _⟩ (jf_m (fun z => .int z) hm)
theorem dX4_ruleName_0 : decode cX4_ruleName 0 = .ok (.iload_n 0, 1) := by decide +kernel
theorem dX4_ruleName_1 : decode cX4_ruleName 1 = .ok (.tableswitch 47 0 3 #[31, 35, 39, 43], 31) := by decide +kernel
theorem dX4_ruleName_32 : decode cX4_ruleName 32 = .ok (.ldc_w 372, 3) := by decide +kernel
theorem dX4_ruleName_35 : decode cX4_ruleName 35 = .ok (.areturn, 1) := by decide +kernel
theorem dX4_ruleName_36 : decode cX4_ruleName 36 = .ok (.ldc_w 374, 3) := by decide +kernel
theorem dX4_ruleName_39 : decode cX4_ruleName 39 = .ok (.areturn, 1) := by decide +kernel
theorem dX4_ruleName_40 : decode cX4_ruleName 40 = .ok (.ldc_w 376, 3) := by decide +kernel
theorem dX4_ruleName_43 : decode cX4_ruleName 43 = .ok (.areturn, 1) := by decide +kernel
theorem dX4_ruleName_44 : decode cX4_ruleName 44 = .ok (.ldc_w 378, 3) := by decide +kernel
theorem dX4_ruleName_47 : decode cX4_ruleName 47 = .ok (.areturn, 1) := by decide +kernel
theorem dX4_ruleName_48 : decode cX4_ruleName 48 = .ok (.ldc_w 370, 3) := by decide +kernel
theorem dX4_ruleName_51 : decode cX4_ruleName 51 = .ok (.areturn, 1) := by decide +kernel
def mX4_ruleName (a0 : Int32) : Nat := (if a0 = (0 : Int32) then 11 else (if a0 = (1 : Int32) then 12 else (if a0 = (2 : Int32) then 13 else (if a0 = (3 : Int32) then 14 else 8))))
set_option maxHeartbeats 4000000 in
set_option maxRecDepth 20000 in
theorem tX4_ruleName {l : Launch} {Z : jZ} {q : Nat → Nat} {V : jMem} {a0 : Int32} {r : Nat}  (hm : mX4_ruleName a0 = r) : CtD l Z yX4_ruleName cX4_ruleName 1 (some (.object "java/lang/String")) 0 q dX [.int a0] V (some (.ref (Z.2.2.1 r))) V := by
  refine Ct_of (L := [(0, .int a0)]) (own := RX4) (nm := "ruleName") rfl rfl (by decide +kernel) rfl (Nat.le_of_ble_eq_true rfl) ?_
  unfold mX4_ruleName at hm
  refine j_iload_n dX4_ruleName_0 rfl rfl ?_
  by_cases c1 : a0 = (0 : Int32)
  · have hm := jif_pos c1 hm
    refine j_ts_in (z := 0) (off := 31) (tgt := 32) dX4_ruleName_1 (j_ts_lit c1 (by decide)) (by decide) (by decide) rfl (by decide) ?_
    refine j_ldcwS (i := 11) (by decide) rfl rfl dX4_ruleName_32 rfl ?_
    exact j_areturn dX4_ruleName_35 rfl ⟨Nat.le_refl _, Nat.le_refl _⟩ (jf_t (fun z => .ref (Z.2.2.1 z)) hm)
  have hm := jif_neg c1 hm
  by_cases c2 : a0 = (1 : Int32)
  · have hm := jif_pos c2 hm
    refine j_ts_in (z := 1) (off := 35) (tgt := 36) dX4_ruleName_1 (j_ts_lit c2 (by decide)) (by decide) (by decide) rfl (by decide) ?_
    refine j_ldcwS (i := 12) (by decide) rfl rfl dX4_ruleName_36 rfl ?_
    exact j_areturn dX4_ruleName_39 rfl ⟨Nat.le_refl _, Nat.le_refl _⟩ (jf_t (fun z => .ref (Z.2.2.1 z)) hm)
  have hm := jif_neg c2 hm
  by_cases c3 : a0 = (2 : Int32)
  · have hm := jif_pos c3 hm
    refine j_ts_in (z := 2) (off := 39) (tgt := 40) dX4_ruleName_1 (j_ts_lit c3 (by decide)) (by decide) (by decide) rfl (by decide) ?_
    refine j_ldcwS (i := 13) (by decide) rfl rfl dX4_ruleName_40 rfl ?_
    exact j_areturn dX4_ruleName_43 rfl ⟨Nat.le_refl _, Nat.le_refl _⟩ (jf_t (fun z => .ref (Z.2.2.1 z)) hm)
  have hm := jif_neg c3 hm
  by_cases c4 : a0 = (3 : Int32)
  · have hm := jif_pos c4 hm
    refine j_ts_in (z := 3) (off := 43) (tgt := 44) dX4_ruleName_1 (j_ts_lit c4 (by decide)) (by decide) (by decide) rfl (by decide) ?_
    refine j_ldcwS (i := 14) (by decide) rfl rfl dX4_ruleName_44 rfl ?_
    exact j_areturn dX4_ruleName_47 rfl ⟨Nat.le_refl _, Nat.le_refl _⟩ (jf_t (fun z => .ref (Z.2.2.1 z)) hm)
  have hm := jif_neg c4 hm
  refine j_ts_out (tgt := 48) dX4_ruleName_1 (by have := j_ts_ne (k := 0) c1 (by decide); have := j_ts_ne (k := 1) c2 (by decide); have := j_ts_ne (k := 2) c3 (by decide); have := j_ts_ne (k := 3) c4 (by decide); omega) (by decide) ?_
  refine j_ldcwS (i := 8) (by decide) rfl rfl dX4_ruleName_48 rfl ?_
  exact j_areturn dX4_ruleName_51 rfl ⟨Nat.le_refl _, Nat.le_refl _⟩ (jf_t (fun z => .ref (Z.2.2.1 z)) hm)
theorem ltX4_ruleName {a0 : Int32} : mX4_ruleName a0 < 15 := by
  unfold mX4_ruleName
  (repeat' split) <;> decide
theorem dX4_readItem_0 : decode cX4_readItem 0 = .ok (.aload_n 0, 1) := by decide +kernel
theorem dX4_readItem_1 : decode cX4_readItem 1 = .ok (.ldc_w 323, 3) := by decide +kernel
theorem dX4_readItem_4 : decode cX4_readItem 4 = .ok (.invokevirtual 325, 3) := by decide +kernel
theorem dX4_readItem_7 : decode cX4_readItem 7 = .ok (.ifCond .eq 9, 3) := by decide +kernel
theorem dX4_readItem_10 : decode cX4_readItem 10 = .ok (.aload_n 0, 1) := by decide +kernel
theorem dX4_readItem_11 : decode cX4_readItem 11 = .ok (.aload_n 1, 1) := by decide +kernel
theorem dX4_readItem_12 : decode cX4_readItem 12 = .ok (.invokestatic 329, 3) := by decide +kernel
theorem dX4_readItem_15 : decode cX4_readItem 15 = .ok (.ireturn, 1) := by decide +kernel
theorem dX4_readItem_16 : decode cX4_readItem 16 = .ok (.iconst 0, 1) := by decide +kernel
theorem dX4_readItem_17 : decode cX4_readItem 17 = .ok (.istore_n 2, 1) := by decide +kernel
theorem dX4_readItem_18 : decode cX4_readItem 18 = .ok (.iload_n 2, 1) := by decide +kernel
theorem dX4_readItem_19 : decode cX4_readItem 19 = .ok (.bipush 6, 2) := by decide +kernel
theorem dX4_readItem_21 : decode cX4_readItem 21 = .ok (.if_icmp .ge 27, 3) := by decide +kernel
theorem dX4_readItem_24 : decode cX4_readItem 24 = .ok (.aload_n 0, 1) := by decide +kernel
theorem dX4_readItem_25 : decode cX4_readItem 25 = .ok (.iload_n 2, 1) := by decide +kernel
theorem dX4_readItem_26 : decode cX4_readItem 26 = .ok (.invokestatic 332, 3) := by decide +kernel
theorem dX4_readItem_29 : decode cX4_readItem 29 = .ok (.invokevirtual 325, 3) := by decide +kernel
theorem dX4_readItem_32 : decode cX4_readItem 32 = .ok (.ifCond .eq 10, 3) := by decide +kernel
theorem dX4_readItem_35 : decode cX4_readItem 35 = .ok (.aload_n 0, 1) := by decide +kernel
theorem dX4_readItem_36 : decode cX4_readItem 36 = .ok (.aload_n 1, 1) := by decide +kernel
theorem dX4_readItem_37 : decode cX4_readItem 37 = .ok (.iload_n 2, 1) := by decide +kernel
theorem dX4_readItem_38 : decode cX4_readItem 38 = .ok (.invokestatic 336, 3) := by decide +kernel
theorem dX4_readItem_41 : decode cX4_readItem 41 = .ok (.ireturn, 1) := by decide +kernel
theorem dX4_readItem_42 : decode cX4_readItem 42 = .ok (.iinc 2 1, 3) := by decide +kernel
theorem dX4_readItem_45 : decode cX4_readItem 45 = .ok (.goto (-27), 3) := by decide +kernel
theorem dX4_readItem_48 : decode cX4_readItem 48 = .ok (.iconst 0, 1) := by decide +kernel
theorem dX4_readItem_49 : decode cX4_readItem 49 = .ok (.istore_n 2, 1) := by decide +kernel
theorem dX4_readItem_50 : decode cX4_readItem 50 = .ok (.iload_n 2, 1) := by decide +kernel
theorem dX4_readItem_51 : decode cX4_readItem 51 = .ok (.iconst 4, 1) := by decide +kernel
theorem dX4_readItem_52 : decode cX4_readItem 52 = .ok (.if_icmp .ge 36, 3) := by decide +kernel
theorem dX4_readItem_55 : decode cX4_readItem 55 = .ok (.aload_n 0, 1) := by decide +kernel
theorem dX4_readItem_56 : decode cX4_readItem 56 = .ok (.iload_n 2, 1) := by decide +kernel
theorem dX4_readItem_57 : decode cX4_readItem 57 = .ok (.invokestatic 340, 3) := by decide +kernel
theorem dX4_readItem_60 : decode cX4_readItem 60 = .ok (.invokevirtual 325, 3) := by decide +kernel
theorem dX4_readItem_63 : decode cX4_readItem 63 = .ok (.ifCond .eq 19, 3) := by decide +kernel
theorem dX4_readItem_66 : decode cX4_readItem 66 = .ok (.aload_n 0, 1) := by decide +kernel
theorem dX4_readItem_67 : decode cX4_readItem 67 = .ok (.aload_n 1, 1) := by decide +kernel
theorem dX4_readItem_68 : decode cX4_readItem 68 = .ok (.getfield 118, 3) := by decide +kernel
theorem dX4_readItem_71 : decode cX4_readItem 71 = .ok (.iload_n 2, 1) := by decide +kernel
theorem dX4_readItem_72 : decode cX4_readItem 72 = .ok (.iconst 0, 1) := by decide +kernel
theorem dX4_readItem_73 : decode cX4_readItem 73 = .ok (.getstatic 115, 3) := by decide +kernel
theorem dX4_readItem_76 : decode cX4_readItem 76 = .ok (.iload_n 2, 1) := by decide +kernel
theorem dX4_readItem_77 : decode cX4_readItem 77 = .ok (.iaload, 1) := by decide +kernel
theorem dX4_readItem_78 : decode cX4_readItem 78 = .ok (.invokestatic 343, 3) := by decide +kernel
theorem dX4_readItem_81 : decode cX4_readItem 81 = .ok (.ireturn, 1) := by decide +kernel
theorem dX4_readItem_82 : decode cX4_readItem 82 = .ok (.iinc 2 1, 3) := by decide +kernel
theorem dX4_readItem_85 : decode cX4_readItem 85 = .ok (.goto (-35), 3) := by decide +kernel
theorem dX4_readItem_88 : decode cX4_readItem 88 = .ok (.iconst 0, 1) := by decide +kernel
theorem dX4_readItem_89 : decode cX4_readItem 89 = .ok (.ireturn, 1) := by decide +kernel
def mX4_readItem_b50   : Nat → Int32 → jMem → Option (Int32 × jMem)
  | 0, _, _ => none
  | n + 1, a2, V => (if (4 : Int32) ≤ a2 then (some ((0 : Int32), V)) else ((mX3_isWord (mX4_ruleName a2) V).bind (fun (r2 : Int32) => (if r2 = (0 : Int32) then (mX4_readItem_b50 n (a2 + (1 : Int32)) V) else (jg (jin a2 4) ((mX4_readInto 8 4 a2 (0 : Int32) (jLims (Int32.toNatClampNeg a2)) V).bind (fun (p5 : Int32 × jMem) => (jg (jzb p5.1) (some (p5.1, p5.2))))))))))
set_option maxHeartbeats 4000000 in
set_option maxRecDepth 20000 in
theorem tX4_readItem_b50 {l : Launch} {Z : jZ} {q : Nat → Nat}  {r : Int32} {V' : jMem}   (n : Nat) : ∀ (a2 : Int32) (V : jMem), mX4_readItem_b50 n a2 V = some (r, V') → J l Z RX4 "readItem" cX4_readItem 3 (some .boolean) 6 0 0 (fun r' w => r' = some (.int r) ∧ w = jw Z q V' dX) 50 [(0, .ref (q 36)), (1, .ref (q 1)), (2, .int a2)] [] (jw Z q V dX) 0 0 := by
  induction n with
  | zero => intro a2 V hm; cases hm
  | succ n ih =>
    intro a2 V hm
    rw [mX4_readItem_b50] at hm
    refine j_iload_n dX4_readItem_50 rfl rfl ?_
    refine j_iconst (v := 4) dX4_readItem_51 rfl (by decide) ?_
    refine j_icmp_ge (tgt := 88) dX4_readItem_52 rfl (by decide) (fun c1 => ?_) (fun c1 => ?_)
    · have hm := jif_pos c1 hm
      refine j_iconst (v := 0) dX4_readItem_88 rfl (by decide) ?_
      exact j_zreturn dX4_readItem_89 rfl (by decide) ⟨Nat.le_refl _, Nat.le_refl _⟩ (jf_m (fun z => .int z) hm)
    · have hm := jif_neg c1 hm
      refine j_aload_n dX4_readItem_55 rfl rfl ?_
      refine j_iload_n dX4_readItem_56 rfl rfl ?_
      refine o_callS_a kX4_340 dX4_readItem_57 rfl (tX4_ruleName  rfl) rfl rfl (Nat.le_of_ble_eq_true rfl) (by decide) ?_
      obtain ⟨r2, er2, hm⟩ := jb_of hm
      refine o_callV_i kX4_325 dX4_readItem_60 rfl (tX3_isWord (ltX4_ruleName) er2) rfl rfl rfl rfl rfl (Nat.le_of_ble_eq_true rfl) (by decide) ?_
      refine j_if_eq (tgt := 82) dX4_readItem_63 rfl (by decide) (fun c3 => ?_) (fun c3 => ?_)
      · have hm := jif_pos c3 hm
        refine j_iinc (v := (a2 + (1 : Int32))) (L' := [(2, _), (0, _), (1, _)]) dX4_readItem_82 rfl rfl rfl (by decide) rfl ?_
        refine j_goto (tgt := 50) dX4_readItem_85 (by decide) ?_
        refine j_sub (L' := [(0, _), (1, _), (2, _)]) [1, 2, 0] rfl ?_
        exact ih _ _  hm
      · have hm := jif_neg c3 hm
        refine j_aload_n dX4_readItem_66 rfl rfl ?_
        refine j_aload_n dX4_readItem_67 rfl rfl ?_
        refine m_getr (k := 13) (r := 8) fX4_118 dX4_readItem_68 rfl rfl rfl ?_
        refine j_iload_n dX4_readItem_71 rfl rfl ?_
        refine j_iconst (v := 0) dX4_readItem_72 rfl (by decide) ?_
        refine j_getR sX4_115 dX4_readItem_73 rfl ?_
        refine j_iload_n dX4_readItem_76 rfl rfl ?_
        obtain ⟨g4, hm⟩ := jg_of hm
        refine j_ldR dX4_readItem_77 rfl (jin_vp g4) ?_
        obtain ⟨p5, ep5, hm⟩ := jb_of hm
        refine o_callS_i kX4_343 dX4_readItem_78 rfl (tX4_readInto rfl ep5) rfl rfl (Nat.le_of_ble_eq_true rfl) (by decide) ?_
        obtain ⟨g6, hm⟩ := jg_of hm
        exact j_zreturn dX4_readItem_81 rfl (jzb_of g6) ⟨Nat.le_refl _, Nat.le_refl _⟩ (jf_m (fun z => .int z) hm)
def mX4_readItem_b18   : Nat → Int32 → jMem → Option (Int32 × jMem)
  | 0, _, _ => none
  | n + 1, a2, V => (if (6 : Int32) ≤ a2 then (mX4_readItem_b50 2000 (0 : Int32) V) else ((mX3_isWord (mX4_kindName a2) V).bind (fun (r2 : Int32) => (if r2 = (0 : Int32) then (mX4_readItem_b18 n (a2 + (1 : Int32)) V) else ((mX4_readField a2 V).bind (fun (p4 : Int32 × jMem) => (jg (jzb p4.1) (some (p4.1, p4.2)))))))))
set_option maxHeartbeats 4000000 in
set_option maxRecDepth 20000 in
theorem tX4_readItem_b18 {l : Launch} {Z : jZ} {q : Nat → Nat}  {r : Int32} {V' : jMem}   (n : Nat) : ∀ (a2 : Int32) (V : jMem), mX4_readItem_b18 n a2 V = some (r, V') → J l Z RX4 "readItem" cX4_readItem 3 (some .boolean) 6 0 0 (fun r' w => r' = some (.int r) ∧ w = jw Z q V' dX) 18 [(0, .ref (q 36)), (1, .ref (q 1)), (2, .int a2)] [] (jw Z q V dX) 0 0 := by
  induction n with
  | zero => intro a2 V hm; cases hm
  | succ n ih =>
    intro a2 V hm
    rw [mX4_readItem_b18] at hm
    refine j_iload_n dX4_readItem_18 rfl rfl ?_
    refine j_bipush (v := 6) dX4_readItem_19 rfl (by decide) ?_
    refine j_icmp_ge (tgt := 48) dX4_readItem_21 rfl (by decide) (fun c1 => ?_) (fun c1 => ?_)
    · have hm := jif_pos c1 hm
      refine j_iconst (v := 0) dX4_readItem_48 rfl (by decide) ?_
      refine j_istore_n (i := 2) (L' := [(2, _), (0, _), (1, _)]) dX4_readItem_49 rfl rfl (by decide) rfl ?_
      refine j_sub (L' := [(0, _), (1, _), (2, _)]) [1, 2, 0] rfl ?_
      exact tX4_readItem_b50   _ _ _  hm
    · have hm := jif_neg c1 hm
      refine j_aload_n dX4_readItem_24 rfl rfl ?_
      refine j_iload_n dX4_readItem_25 rfl rfl ?_
      refine o_callS_a kX4_332 dX4_readItem_26 rfl (tX4_kindName  rfl) rfl rfl (Nat.le_of_ble_eq_true rfl) (by decide) ?_
      obtain ⟨r2, er2, hm⟩ := jb_of hm
      refine o_callV_i kX4_325 dX4_readItem_29 rfl (tX3_isWord (ltX4_kindName) er2) rfl rfl rfl rfl rfl (Nat.le_of_ble_eq_true rfl) (by decide) ?_
      refine j_if_eq (tgt := 42) dX4_readItem_32 rfl (by decide) (fun c3 => ?_) (fun c3 => ?_)
      · have hm := jif_pos c3 hm
        refine j_iinc (v := (a2 + (1 : Int32))) (L' := [(2, _), (0, _), (1, _)]) dX4_readItem_42 rfl rfl rfl (by decide) rfl ?_
        refine j_goto (tgt := 18) dX4_readItem_45 (by decide) ?_
        refine j_sub (L' := [(0, _), (1, _), (2, _)]) [1, 2, 0] rfl ?_
        exact ih _ _  hm
      · have hm := jif_neg c3 hm
        refine j_aload_n dX4_readItem_35 rfl rfl ?_
        refine j_aload_n dX4_readItem_36 rfl rfl ?_
        refine j_iload_n dX4_readItem_37 rfl rfl ?_
        obtain ⟨p4, ep4, hm⟩ := jb_of hm
        refine o_callS_i kX4_336 dX4_readItem_38 rfl (tX4_readField  ep4) rfl rfl (Nat.le_of_ble_eq_true rfl) (by decide) ?_
        obtain ⟨g5, hm⟩ := jg_of hm
        exact j_zreturn dX4_readItem_41 rfl (jzb_of g5) ⟨Nat.le_refl _, Nat.le_refl _⟩ (jf_m (fun z => .int z) hm)
def mX4_readItem (V : jMem) : Option (Int32 × jMem) := ((mX3_isWord 0 V).bind (fun (r1 : Int32) => (if r1 = (0 : Int32) then (mX4_readItem_b18 2000 (0 : Int32) V) else ((mX4_readStrip V).bind (fun (p3 : Int32 × jMem) => (jg (jzb p3.1) (some (p3.1, p3.2))))))))
set_option maxHeartbeats 4000000 in
set_option maxRecDepth 20000 in
theorem tX4_readItem {l : Launch} {Z : jZ} {q : Nat → Nat} {V : jMem} {r : Int32} {V' : jMem}  (hm : mX4_readItem V = some (r, V')) : CtD l Z yX4_readItem cX4_readItem 3 (some .boolean) 6 q dX [.ref (q 36), .ref (q 1)] V (some (.int r)) V' := by
  refine Ct_of (L := [(0, .ref (q 36)), (1, .ref (q 1))]) (own := RX4) (nm := "readItem") rfl rfl (by decide +kernel) rfl (Nat.le_of_ble_eq_true rfl) ?_
  unfold mX4_readItem at hm
  refine j_aload_n dX4_readItem_0 rfl rfl ?_
  refine j_ldcwS (i := 0) (by decide) rfl rfl dX4_readItem_1 rfl ?_
  obtain ⟨r1, er1, hm⟩ := jb_of hm
  refine o_callV_i kX4_325 dX4_readItem_4 rfl (tX3_isWord (by decide) er1) rfl rfl rfl rfl rfl (Nat.le_of_ble_eq_true rfl) (by decide) ?_
  refine j_if_eq (tgt := 16) dX4_readItem_7 rfl (by decide) (fun c2 => ?_) (fun c2 => ?_)
  · have hm := jif_pos c2 hm
    refine j_iconst (v := 0) dX4_readItem_16 rfl (by decide) ?_
    refine j_istore_n (i := 2) (L' := [(2, _), (0, _), (1, _)]) dX4_readItem_17 rfl rfl (by decide) rfl ?_
    refine j_sub (L' := [(0, _), (1, _), (2, _)]) [1, 2, 0] rfl ?_
    exact tX4_readItem_b18   _ _ _  hm
  · have hm := jif_neg c2 hm
    refine j_aload_n dX4_readItem_10 rfl rfl ?_
    refine j_aload_n dX4_readItem_11 rfl rfl ?_
    obtain ⟨p3, ep3, hm⟩ := jb_of hm
    refine o_callS_i kX4_329 dX4_readItem_12 rfl (tX4_readStrip  ep3) rfl rfl (Nat.le_of_ble_eq_true rfl) (by decide) ?_
    obtain ⟨g4, hm⟩ := jg_of hm
    exact j_zreturn dX4_readItem_15 rfl (jzb_of g4) ⟨Nat.le_refl _, Nat.le_refl _⟩ (jf_m (fun z => .int z) hm)
theorem dX4_readItems_0 : decode cX4_readItems 0 = .ok (.aload_n 0, 1) := by decide +kernel
theorem dX4_readItems_1 : decode cX4_readItems 1 = .ok (.invokevirtual 307, 3) := by decide +kernel
theorem dX4_readItems_4 : decode cX4_readItems 4 = .ok (.iconst 1, 1) := by decide +kernel
theorem dX4_readItems_5 : decode cX4_readItems 5 = .ok (.istore_n 2, 1) := by decide +kernel
theorem dX4_readItems_6 : decode cX4_readItems 6 = .ok (.iload_n 2, 1) := by decide +kernel
theorem dX4_readItems_7 : decode cX4_readItems 7 = .ok (.bipush 120, 2) := by decide +kernel
theorem dX4_readItems_9 : decode cX4_readItems 9 = .ok (.if_icmp .gt 53, 3) := by decide +kernel
theorem dX4_readItems_12 : decode cX4_readItems 12 = .ok (.aload_n 0, 1) := by decide +kernel
theorem dX4_readItems_13 : decode cX4_readItems 13 = .ok (.aload_n 1, 1) := by decide +kernel
theorem dX4_readItems_14 : decode cX4_readItems 14 = .ok (.invokestatic 310, 3) := by decide +kernel
theorem dX4_readItems_17 : decode cX4_readItems 17 = .ok (.ifCond .ne 10, 3) := by decide +kernel
theorem dX4_readItems_20 : decode cX4_readItems 20 = .ok (.iconst (-1), 1) := by decide +kernel
theorem dX4_readItems_21 : decode cX4_readItems 21 = .ok (.aload_n 0, 1) := by decide +kernel
theorem dX4_readItems_22 : decode cX4_readItems 22 = .ok (.getfield 314, 3) := by decide +kernel
theorem dX4_readItems_25 : decode cX4_readItems 25 = .ok (.isub, 1) := by decide +kernel
theorem dX4_readItems_26 : decode cX4_readItems 26 = .ok (.ireturn, 1) := by decide +kernel
theorem dX4_readItems_27 : decode cX4_readItems 27 = .ok (.aload_n 0, 1) := by decide +kernel
theorem dX4_readItems_28 : decode cX4_readItems 28 = .ok (.getfield 317, 3) := by decide +kernel
theorem dX4_readItems_31 : decode cX4_readItems 31 = .ok (.iconst 3, 1) := by decide +kernel
theorem dX4_readItems_32 : decode cX4_readItems 32 = .ok (.if_icmp .ne 5, 3) := by decide +kernel
theorem dX4_readItems_35 : decode cX4_readItems 35 = .ok (.iload_n 2, 1) := by decide +kernel
theorem dX4_readItems_36 : decode cX4_readItems 36 = .ok (.ireturn, 1) := by decide +kernel
theorem dX4_readItems_37 : decode cX4_readItems 37 = .ok (.aload_n 0, 1) := by decide +kernel
theorem dX4_readItems_38 : decode cX4_readItems 38 = .ok (.getfield 317, 3) := by decide +kernel
theorem dX4_readItems_41 : decode cX4_readItems 41 = .ok (.iconst 2, 1) := by decide +kernel
theorem dX4_readItems_42 : decode cX4_readItems 42 = .ok (.if_icmp .eq 10, 3) := by decide +kernel
theorem dX4_readItems_45 : decode cX4_readItems 45 = .ok (.iconst (-1), 1) := by decide +kernel
theorem dX4_readItems_46 : decode cX4_readItems 46 = .ok (.aload_n 0, 1) := by decide +kernel
theorem dX4_readItems_47 : decode cX4_readItems 47 = .ok (.getfield 314, 3) := by decide +kernel
theorem dX4_readItems_50 : decode cX4_readItems 50 = .ok (.isub, 1) := by decide +kernel
theorem dX4_readItems_51 : decode cX4_readItems 51 = .ok (.ireturn, 1) := by decide +kernel
theorem dX4_readItems_52 : decode cX4_readItems 52 = .ok (.aload_n 0, 1) := by decide +kernel
theorem dX4_readItems_53 : decode cX4_readItems 53 = .ok (.invokevirtual 320, 3) := by decide +kernel
theorem dX4_readItems_56 : decode cX4_readItems 56 = .ok (.iinc 2 1, 3) := by decide +kernel
theorem dX4_readItems_59 : decode cX4_readItems 59 = .ok (.goto (-53), 3) := by decide +kernel
theorem dX4_readItems_62 : decode cX4_readItems 62 = .ok (.iconst (-1), 1) := by decide +kernel
theorem dX4_readItems_63 : decode cX4_readItems 63 = .ok (.aload_n 0, 1) := by decide +kernel
theorem dX4_readItems_64 : decode cX4_readItems 64 = .ok (.getfield 314, 3) := by decide +kernel
theorem dX4_readItems_67 : decode cX4_readItems 67 = .ok (.isub, 1) := by decide +kernel
theorem dX4_readItems_68 : decode cX4_readItems 68 = .ok (.ireturn, 1) := by decide +kernel
def mX4_readItems_b6   : Nat → Int32 → jMem → Option (Int32 × jMem)
  | 0, _, _ => none
  | n + 1, a2, V => (if (120 : Int32) < a2 then (some (((-1 : Int32) - (V.1 36 2)), V)) else ((mX4_readItem V).bind (fun (p2 : Int32 × jMem) => (if p2.1 = (0 : Int32) then (some (((-1 : Int32) - (p2.2.1 36 2)), p2.2)) else (if (p2.2.1 36 4) = (3 : Int32) then (some (a2, p2.2)) else (if (p2.2.1 36 4) = (2 : Int32) then ((mX3_next p2.2).bind (fun (p6 : jMem) => (mX4_readItems_b6 n (a2 + (1 : Int32)) p6))) else (some (((-1 : Int32) - (p2.2.1 36 2)), p2.2))))))))
set_option maxHeartbeats 4000000 in
set_option maxRecDepth 20000 in
theorem tX4_readItems_b6 {l : Launch} {Z : jZ} {q : Nat → Nat}  {r : Int32} {V' : jMem}   (n : Nat) : ∀ (a2 : Int32) (V : jMem), mX4_readItems_b6 n a2 V = some (r, V') → J l Z RX4 "readItems" cX4_readItems 3 (some .int) 7 0 0 (fun r' w => r' = some (.int r) ∧ w = jw Z q V' dX) 6 [(0, .ref (q 36)), (1, .ref (q 1)), (2, .int a2)] [] (jw Z q V dX) 0 0 := by
  induction n with
  | zero => intro a2 V hm; cases hm
  | succ n ih =>
    intro a2 V hm
    rw [mX4_readItems_b6] at hm
    refine j_iload_n dX4_readItems_6 rfl rfl ?_
    refine j_bipush (v := 120) dX4_readItems_7 rfl (by decide) ?_
    refine j_icmp_gt (tgt := 62) dX4_readItems_9 rfl (by decide) (fun c1 => ?_) (fun c1 => ?_)
    · have hm := jif_pos c1 hm
      refine j_iconst (v := -1) dX4_readItems_62 rfl (by decide) ?_
      refine j_aload_n dX4_readItems_63 rfl rfl ?_
      refine m_geti (k := 2) fX4_314 dX4_readItems_64 rfl rfl rfl ?_
      refine j_isub dX4_readItems_67 rfl ?_
      exact j_ireturn dX4_readItems_68 rfl rfl ⟨Nat.le_refl _, Nat.le_refl _⟩ (jf_m (fun z => .int z) hm)
    · have hm := jif_neg c1 hm
      refine j_aload_n dX4_readItems_12 rfl rfl ?_
      refine j_aload_n dX4_readItems_13 rfl rfl ?_
      obtain ⟨p2, ep2, hm⟩ := jb_of hm
      refine o_callS_i kX4_310 dX4_readItems_14 rfl (tX4_readItem  ep2) rfl rfl (Nat.le_of_ble_eq_true rfl) (by decide) ?_
      refine j_if_ne (tgt := 27) dX4_readItems_17 rfl (by decide) (fun c3 => ?_) (fun c3 => ?_)
      · have hm := jif_neg c3 hm
        refine j_aload_n dX4_readItems_27 rfl rfl ?_
        refine m_geti (k := 4) fX4_317 dX4_readItems_28 rfl rfl rfl ?_
        refine j_iconst (v := 3) dX4_readItems_31 rfl (by decide) ?_
        refine j_icmp_ne (tgt := 37) dX4_readItems_32 rfl (by decide) (fun c4 => ?_) (fun c4 => ?_)
        · have hm := jif_neg c4 hm
          refine j_aload_n dX4_readItems_37 rfl rfl ?_
          refine m_geti (k := 4) fX4_317 dX4_readItems_38 rfl rfl rfl ?_
          refine j_iconst (v := 2) dX4_readItems_41 rfl (by decide) ?_
          refine j_icmp_eq (tgt := 52) dX4_readItems_42 rfl (by decide) (fun c5 => ?_) (fun c5 => ?_)
          · have hm := jif_pos c5 hm
            refine j_aload_n dX4_readItems_52 rfl rfl ?_
            obtain ⟨p6, ep6, hm⟩ := jb_of hm
            refine o_callV_v kX4_320 dX4_readItems_53 rfl (tX3_next  ep6) rfl rfl rfl rfl rfl (Nat.le_of_ble_eq_true rfl) (by decide) ?_
            refine j_iinc (v := (a2 + (1 : Int32))) (L' := [(2, _), (0, _), (1, _)]) dX4_readItems_56 rfl rfl rfl (by decide) rfl ?_
            refine j_goto (tgt := 6) dX4_readItems_59 (by decide) ?_
            refine j_sub (L' := [(0, _), (1, _), (2, _)]) [1, 2, 0] rfl ?_
            exact ih _ _  hm
          · have hm := jif_neg c5 hm
            refine j_iconst (v := -1) dX4_readItems_45 rfl (by decide) ?_
            refine j_aload_n dX4_readItems_46 rfl rfl ?_
            refine m_geti (k := 2) fX4_314 dX4_readItems_47 rfl rfl rfl ?_
            refine j_isub dX4_readItems_50 rfl ?_
            exact j_ireturn dX4_readItems_51 rfl rfl ⟨Nat.le_refl _, Nat.le_refl _⟩ (jf_m (fun z => .int z) hm)
        · have hm := jif_pos c4 hm
          refine j_iload_n dX4_readItems_35 rfl rfl ?_
          exact j_ireturn dX4_readItems_36 rfl rfl ⟨Nat.le_refl _, Nat.le_refl _⟩ (jf_m (fun z => .int z) hm)
      · have hm := jif_pos c3 hm
        refine j_iconst (v := -1) dX4_readItems_20 rfl (by decide) ?_
        refine j_aload_n dX4_readItems_21 rfl rfl ?_
        refine m_geti (k := 2) fX4_314 dX4_readItems_22 rfl rfl rfl ?_
        refine j_isub dX4_readItems_25 rfl ?_
        exact j_ireturn dX4_readItems_26 rfl rfl ⟨Nat.le_refl _, Nat.le_refl _⟩ (jf_m (fun z => .int z) hm)
def mX4_readItems (V : jMem) : Option (Int32 × jMem) := ((mX3_start V).bind (fun (p1 : jMem) => (mX4_readItems_b6 2000 (1 : Int32) p1)))
set_option maxHeartbeats 4000000 in
set_option maxRecDepth 20000 in
theorem tX4_readItems {l : Launch} {Z : jZ} {q : Nat → Nat} {V : jMem} {r : Int32} {V' : jMem}  (hm : mX4_readItems V = some (r, V')) : CtD l Z yX4_readItems cX4_readItems 3 (some .int) 7 q dX [.ref (q 36), .ref (q 1)] V (some (.int r)) V' := by
  refine Ct_of (L := [(0, .ref (q 36)), (1, .ref (q 1))]) (own := RX4) (nm := "readItems") rfl rfl (by decide +kernel) rfl (Nat.le_of_ble_eq_true rfl) ?_
  unfold mX4_readItems at hm
  refine j_aload_n dX4_readItems_0 rfl rfl ?_
  obtain ⟨p1, ep1, hm⟩ := jb_of hm
  refine o_callV_v kX4_307 dX4_readItems_1 rfl (tX3_start  ep1) rfl rfl rfl rfl rfl (Nat.le_of_ble_eq_true rfl) (by decide) ?_
  refine j_iconst (v := 1) dX4_readItems_4 rfl (by decide) ?_
  refine j_istore_n (i := 2) (L' := [(2, _), (0, _), (1, _)]) dX4_readItems_5 rfl rfl (by decide) rfl ?_
  refine j_sub (L' := [(0, _), (1, _), (2, _)]) [1, 2, 0] rfl ?_
  exact tX4_readItems_b6   _ _ _  hm
theorem dX4_plan_0 : decode cX4_plan 0 = .ok (.aload_n 0, 1) := by decide +kernel
theorem dX4_plan_1 : decode cX4_plan 1 = .ok (.getfield 19, 3) := by decide +kernel
theorem dX4_plan_4 : decode cX4_plan 4 = .ok (.aload_n 0, 1) := by decide +kernel
theorem dX4_plan_5 : decode cX4_plan 5 = .ok (.getfield 12, 3) := by decide +kernel
theorem dX4_plan_8 : decode cX4_plan 8 = .ok (.invokevirtual 243, 3) := by decide +kernel
theorem dX4_plan_11 : decode cX4_plan 11 = .ok (.aload_n 0, 1) := by decide +kernel
theorem dX4_plan_12 : decode cX4_plan 12 = .ok (.getfield 32, 3) := by decide +kernel
theorem dX4_plan_15 : decode cX4_plan 15 = .ok (.aload_n 0, 1) := by decide +kernel
theorem dX4_plan_16 : decode cX4_plan 16 = .ok (.getfield 12, 3) := by decide +kernel
theorem dX4_plan_19 : decode cX4_plan 19 = .ok (.invokestatic 247, 3) := by decide +kernel
theorem dX4_plan_22 : decode cX4_plan 22 = .ok (.istore_n 1, 1) := by decide +kernel
theorem dX4_plan_23 : decode cX4_plan 23 = .ok (.iload_n 1, 1) := by decide +kernel
theorem dX4_plan_24 : decode cX4_plan 24 = .ok (.ifCond .ge 14, 3) := by decide +kernel
theorem dX4_plan_27 : decode cX4_plan 27 = .ok (.aload_n 0, 1) := by decide +kernel
theorem dX4_plan_28 : decode cX4_plan 28 = .ok (.getfield 12, 3) := by decide +kernel
theorem dX4_plan_31 : decode cX4_plan 31 = .ok (.aload_n 0, 1) := by decide +kernel
theorem dX4_plan_32 : decode cX4_plan 32 = .ok (.getfield 19, 3) := by decide +kernel
theorem dX4_plan_35 : decode cX4_plan 35 = .ok (.invokevirtual 243, 3) := by decide +kernel
theorem dX4_plan_38 : decode cX4_plan 38 = .ok (.aload_n 0, 1) := by decide +kernel
theorem dX4_plan_39 : decode cX4_plan 39 = .ok (.getfield 32, 3) := by decide +kernel
theorem dX4_plan_42 : decode cX4_plan 42 = .ok (.iconst 0, 1) := by decide +kernel
theorem dX4_plan_43 : decode cX4_plan 43 = .ok (.putfield 236, 3) := by decide +kernel
theorem dX4_plan_46 : decode cX4_plan 46 = .ok (.iload_n 1, 1) := by decide +kernel
theorem dX4_plan_47 : decode cX4_plan 47 = .ok (.ireturn, 1) := by decide +kernel
def mX4_plan_b38   (a1 : Int32) (V : jMem) : Option (Int32 × jMem) := (jl (jsI V 36 1 (0 : Int32)) (fun (V1 : jMem) => (some (a1, V1))))
set_option maxHeartbeats 4000000 in
set_option maxRecDepth 20000 in
theorem tX4_plan_b38 {l : Launch} {Z : jZ} {q : Nat → Nat} {a1 : Int32} {V : jMem} {r : Int32} {V' : jMem}    (hm : mX4_plan_b38 a1 V = some (r, V')) : J l Z RX4 "plan" cX4_plan 2 (some .int) 8 0 0 (fun r' w => r' = some (.int r) ∧ w = jw Z q V' dX) 38 [(0, .ref (q 0)), (1, .int a1)] [] (jw Z q V dX) 0 0 := by
  unfold mX4_plan_b38 at hm
  refine j_aload_n dX4_plan_38 rfl rfl ?_
  refine m_getr (k := 4) (r := 36) fX4_32 dX4_plan_39 rfl rfl rfl ?_
  refine j_iconst (v := 0) dX4_plan_42 rfl (by decide) ?_
  refine m_puti (k := 1) fX4_236 dX4_plan_43 rfl rfl rfl ?_
  obtain ⟨V1, eV1⟩ : ∃ y, y = (jsI V 36 1 (0 : Int32)) := ⟨_, rfl⟩
  have hm := jl_of hm eV1
  rw [← eV1]
  refine j_iload_n dX4_plan_46 rfl rfl ?_
  exact j_ireturn dX4_plan_47 rfl rfl ⟨Nat.le_refl _, Nat.le_refl _⟩ (jf_m (fun z => .int z) hm)
def mX4_plan (V : jMem) : Option (Int32 × jMem) := ((mX0_become 21 1 V).bind (fun (p1 : jMem) => ((mX4_readItems p1).bind (fun (p2 : Int32 × jMem) => (if (0 : Int32) ≤ p2.1 then (mX4_plan_b38 p2.1 p2.2) else ((mX0_become 1 21 p2.2).bind (fun (p4 : jMem) => (mX4_plan_b38 p2.1 p4))))))))
set_option maxHeartbeats 4000000 in
set_option maxRecDepth 20000 in
theorem tX4_plan {l : Launch} {Z : jZ} {q : Nat → Nat} {V : jMem} {r : Int32} {V' : jMem}  (hm : mX4_plan V = some (r, V')) : CtD l Z yX4_plan cX4_plan 2 (some .int) 8 q dX [.ref (q 0)] V (some (.int r)) V' := by
  refine Ct_of (L := [(0, .ref (q 0))]) (own := RX4) (nm := "plan") rfl rfl (by decide +kernel) rfl (Nat.le_of_ble_eq_true rfl) ?_
  unfold mX4_plan at hm
  refine j_aload_n dX4_plan_0 rfl rfl ?_
  refine m_getr (k := 2) (r := 21) fX4_19 dX4_plan_1 rfl rfl rfl ?_
  refine j_aload_n dX4_plan_4 rfl rfl ?_
  refine m_getr (k := 0) (r := 1) fX4_12 dX4_plan_5 rfl rfl rfl ?_
  obtain ⟨p1, ep1, hm⟩ := jb_of hm
  refine o_callV_v kX4_243 dX4_plan_8 rfl (tX0_become jland_21 jland_1 ep1) rfl rfl rfl rfl rfl (Nat.le_of_ble_eq_true rfl) (by decide) ?_
  refine j_aload_n dX4_plan_11 rfl rfl ?_
  refine m_getr (k := 4) (r := 36) fX4_32 dX4_plan_12 rfl rfl rfl ?_
  refine j_aload_n dX4_plan_15 rfl rfl ?_
  refine m_getr (k := 0) (r := 1) fX4_12 dX4_plan_16 rfl rfl rfl ?_
  obtain ⟨p2, ep2, hm⟩ := jb_of hm
  refine o_callS_i kX4_247 dX4_plan_19 rfl (tX4_readItems  ep2) rfl rfl (Nat.le_of_ble_eq_true rfl) (by decide) ?_
  refine j_istore_n (i := 1) (L' := [(1, _), (0, _)]) dX4_plan_22 rfl rfl (by decide) rfl ?_
  refine j_iload_n dX4_plan_23 rfl rfl ?_
  refine j_if_ge (tgt := 38) dX4_plan_24 rfl (by decide) (fun c3 => ?_) (fun c3 => ?_)
  · have hm := jif_pos c3 hm
    refine j_sub (L' := [(0, _), (1, _)]) [1, 0] rfl ?_
    exact tX4_plan_b38    hm
  · have hm := jif_neg c3 hm
    refine j_aload_n dX4_plan_27 rfl rfl ?_
    refine m_getr (k := 0) (r := 1) fX4_12 dX4_plan_28 rfl rfl rfl ?_
    refine j_aload_n dX4_plan_31 rfl rfl ?_
    refine m_getr (k := 2) (r := 21) fX4_19 dX4_plan_32 rfl rfl rfl ?_
    obtain ⟨p4, ep4, hm⟩ := jb_of hm
    refine o_callV_v kX4_243 dX4_plan_35 rfl (tX0_become jland_1 jland_21 ep4) rfl rfl rfl rfl rfl (Nat.le_of_ble_eq_true rfl) (by decide) ?_
    refine j_sub (L' := [(0, _), (1, _)]) [1, 0] rfl ?_
    exact tX4_plan_b38    hm
theorem dX4_isSheet_0 : decode cX4_isSheet 0 = .ok (.iload_n 0, 1) := by decide +kernel
theorem dX4_isSheet_1 : decode cX4_isSheet 1 = .ok (.iconst 0, 1) := by decide +kernel
theorem dX4_isSheet_2 : decode cX4_isSheet 2 = .ok (.iconst 3, 1) := by decide +kernel
theorem dX4_isSheet_3 : decode cX4_isSheet 3 = .ok (.invokestatic 55, 3) := by decide +kernel
theorem dX4_isSheet_6 : decode cX4_isSheet 6 = .ok (.ireturn, 1) := by decide +kernel
def mX4_isSheet (a0 : Int32) : Int32 := (mX4_isWithin a0 (0 : Int32) (3 : Int32))
set_option maxHeartbeats 4000000 in
set_option maxRecDepth 20000 in
theorem tX4_isSheet {l : Launch} {Z : jZ} {q : Nat → Nat} {V : jMem} {a0 : Int32} {r : Int32}  (hm : mX4_isSheet a0 = r) : CtD l Z yX4_isSheet cX4_isSheet 1 (some .boolean) 1 q dX [.int a0] V (some (.int r)) V := by
  refine Ct_of (L := [(0, .int a0)]) (own := RX4) (nm := "isSheet") rfl rfl (by decide +kernel) rfl (Nat.le_of_ble_eq_true rfl) ?_
  unfold mX4_isSheet at hm
  refine j_iload_n dX4_isSheet_0 rfl rfl ?_
  refine j_iconst (v := 0) dX4_isSheet_1 rfl (by decide) ?_
  refine j_iconst (v := 3) dX4_isSheet_2 rfl (by decide) ?_
  refine o_callS_i kX4_55 dX4_isSheet_3 rfl (tX4_isWithin  rfl) rfl rfl (Nat.le_of_ble_eq_true rfl) (by decide) ?_
  exact j_zreturn dX4_isSheet_6 rfl zzX4_isWithin ⟨Nat.le_refl _, Nat.le_refl _⟩ (jf_t (fun z => .int z) hm)
theorem zzX4_isSheet {a0 : Int32} : mX4_isSheet a0 = 0 ∨ mX4_isSheet a0 = 1 := by
  unfold mX4_isSheet
  (repeat' split) <;> first | exact Or.inl rfl | exact Or.inr rfl | exact zzX4_isWithin
theorem dX4_sheet_0 : decode cX4_sheet 0 = .ok (.iload_n 1, 1) := by decide +kernel
theorem dX4_sheet_1 : decode cX4_sheet 1 = .ok (.invokestatic 251, 3) := by decide +kernel
theorem dX4_sheet_4 : decode cX4_sheet 4 = .ok (.ifCond .eq 25, 3) := by decide +kernel
theorem dX4_sheet_7 : decode cX4_sheet 7 = .ok (.iload_n 2, 1) := by decide +kernel
theorem dX4_sheet_8 : decode cX4_sheet 8 = .ok (.ifCond .eq 28, 3) := by decide +kernel
theorem dX4_sheet_11 : decode cX4_sheet 11 = .ok (.iload_n 2, 1) := by decide +kernel
theorem dX4_sheet_12 : decode cX4_sheet 12 = .ok (.bipush 8, 2) := by decide +kernel
theorem dX4_sheet_14 : decode cX4_sheet 14 = .ok (.if_icmp .eq 22, 3) := by decide +kernel
theorem dX4_sheet_17 : decode cX4_sheet 17 = .ok (.iload_n 2, 1) := by decide +kernel
theorem dX4_sheet_18 : decode cX4_sheet 18 = .ok (.bipush 16, 2) := by decide +kernel
theorem dX4_sheet_20 : decode cX4_sheet 20 = .ok (.if_icmp .eq 16, 3) := by decide +kernel
theorem dX4_sheet_23 : decode cX4_sheet 23 = .ok (.iload_n 2, 1) := by decide +kernel
theorem dX4_sheet_24 : decode cX4_sheet 24 = .ok (.bipush 64, 2) := by decide +kernel
theorem dX4_sheet_26 : decode cX4_sheet 26 = .ok (.if_icmp .eq 10, 3) := by decide +kernel
theorem dX4_sheet_29 : decode cX4_sheet 29 = .ok (.aload_n 0, 1) := by decide +kernel
theorem dX4_sheet_30 : decode cX4_sheet 30 = .ok (.ldc 59, 2) := by decide +kernel
theorem dX4_sheet_32 : decode cX4_sheet 32 = .ok (.invokevirtual 60, 3) := by decide +kernel
theorem dX4_sheet_35 : decode cX4_sheet 35 = .ok (.ireturn, 1) := by decide +kernel
theorem dX4_sheet_36 : decode cX4_sheet 36 = .ok (.iload_n 3, 1) := by decide +kernel
theorem dX4_sheet_37 : decode cX4_sheet 37 = .ok (.ifCond .ge 10, 3) := by decide +kernel
theorem dX4_sheet_40 : decode cX4_sheet 40 = .ok (.aload_n 0, 1) := by decide +kernel
theorem dX4_sheet_41 : decode cX4_sheet 41 = .ok (.ldc 254, 2) := by decide +kernel
theorem dX4_sheet_43 : decode cX4_sheet 43 = .ok (.invokevirtual 60, 3) := by decide +kernel
theorem dX4_sheet_46 : decode cX4_sheet 46 = .ok (.ireturn, 1) := by decide +kernel
theorem dX4_sheet_47 : decode cX4_sheet 47 = .ok (.iload_n 3, 1) := by decide +kernel
theorem dX4_sheet_48 : decode cX4_sheet 48 = .ok (.bipush 40, 2) := by decide +kernel
theorem dX4_sheet_50 : decode cX4_sheet 50 = .ok (.if_icmp .le 10, 3) := by decide +kernel
theorem dX4_sheet_53 : decode cX4_sheet 53 = .ok (.aload_n 0, 1) := by decide +kernel
theorem dX4_sheet_54 : decode cX4_sheet 54 = .ok (.ldc 59, 2) := by decide +kernel
theorem dX4_sheet_56 : decode cX4_sheet 56 = .ok (.invokevirtual 60, 3) := by decide +kernel
theorem dX4_sheet_59 : decode cX4_sheet 59 = .ok (.ireturn, 1) := by decide +kernel
theorem dX4_sheet_60 : decode cX4_sheet 60 = .ok (.aload_n 0, 1) := by decide +kernel
theorem dX4_sheet_61 : decode cX4_sheet 61 = .ok (.getfield 38, 3) := by decide +kernel
theorem dX4_sheet_64 : decode cX4_sheet 64 = .ok (.iload_n 1, 1) := by decide +kernel
theorem dX4_sheet_65 : decode cX4_sheet 65 = .ok (.aaload, 1) := by decide +kernel
theorem dX4_sheet_66 : decode cX4_sheet 66 = .ok (.iload_n 2, 1) := by decide +kernel
theorem dX4_sheet_67 : decode cX4_sheet 67 = .ok (.iload_n 3, 1) := by decide +kernel
theorem dX4_sheet_68 : decode cX4_sheet 68 = .ok (.invokevirtual 255, 3) := by decide +kernel
theorem dX4_sheet_71 : decode cX4_sheet 71 = .ok (.aload_n 0, 1) := by decide +kernel
theorem dX4_sheet_72 : decode cX4_sheet 72 = .ok (.getfield 38, 3) := by decide +kernel
theorem dX4_sheet_75 : decode cX4_sheet 75 = .ok (.iload_n 1, 1) := by decide +kernel
theorem dX4_sheet_76 : decode cX4_sheet 76 = .ok (.aaload, 1) := by decide +kernel
theorem dX4_sheet_77 : decode cX4_sheet 77 = .ok (.getfield 258, 3) := by decide +kernel
theorem dX4_sheet_80 : decode cX4_sheet 80 = .ok (.ireturn, 1) := by decide +kernel
def mX4_sheet_b29   (V : jMem) : Option (Int32 × jMem) := ((mX4_refuse (-1000000001 : Int32) V).bind (fun (p1 : Int32 × jMem) => (some (p1.1, p1.2))))
set_option maxHeartbeats 4000000 in
set_option maxRecDepth 20000 in
theorem tX4_sheet_b29 {l : Launch} {Z : jZ} {q : Nat → Nat} {V : jMem} {r : Int32} {V' : jMem}    (hm : mX4_sheet_b29 V = some (r, V')) : J l Z RX4 "sheet" cX4_sheet 4 (some .int) 2 0 0 (fun r' w => r' = some (.int r) ∧ w = jw Z q V' dX) 29 [(0, .ref (q 0))] [] (jw Z q V dX) 0 0 := by
  unfold mX4_sheet_b29 at hm
  refine j_aload_n dX4_sheet_29 rfl rfl ?_
  refine j_ldc dX4_sheet_30 rfl wX4_59 ?_
  obtain ⟨p1, ep1, hm⟩ := jb_of hm
  refine o_callV_i kX4_60 dX4_sheet_32 rfl (tX4_refuse  ep1) rfl rfl rfl rfl rfl (Nat.le_of_ble_eq_true rfl) (by decide) ?_
  exact j_ireturn dX4_sheet_35 rfl rfl ⟨Nat.le_refl _, Nat.le_refl _⟩ (jf_m (fun z => .int z) hm)
def mX4_sheet_b36   (a1 : Int32) (a2 : Int32) (a3 : Int32) (V : jMem) : Option (Int32 × jMem) := (if (0 : Int32) ≤ a3 then (if a3 ≤ (40 : Int32) then (jg (jin a1 4) ((mX2_lay (Int32.toNatClampNeg a1) a2 a3 V).bind (fun (p4 : jMem) => (some ((p4.1 (39 + 2 * (Int32.toNatClampNeg a1)) 1), p4))))) else ((mX4_refuse (-1000000001 : Int32) V).bind (fun (p5 : Int32 × jMem) => (some (p5.1, p5.2))))) else ((mX4_refuse (-1000000007 : Int32) V).bind (fun (p6 : Int32 × jMem) => (some (p6.1, p6.2)))))
set_option maxHeartbeats 4000000 in
set_option maxRecDepth 20000 in
theorem tX4_sheet_b36 {l : Launch} {Z : jZ} {q : Nat → Nat} {a1 : Int32} {a2 : Int32} {a3 : Int32} {V : jMem} {r : Int32} {V' : jMem}    (hm : mX4_sheet_b36 a1 a2 a3 V = some (r, V')) : J l Z RX4 "sheet" cX4_sheet 4 (some .int) 2 0 0 (fun r' w => r' = some (.int r) ∧ w = jw Z q V' dX) 36 [(0, .ref (q 0)), (1, .int a1), (2, .int a2), (3, .int a3)] [] (jw Z q V dX) 0 0 := by
  unfold mX4_sheet_b36 at hm
  refine j_iload_n dX4_sheet_36 rfl rfl ?_
  refine j_if_ge (tgt := 47) dX4_sheet_37 rfl (by decide) (fun c1 => ?_) (fun c1 => ?_)
  · have hm := jif_pos c1 hm
    refine j_iload_n dX4_sheet_47 rfl rfl ?_
    refine j_bipush (v := 40) dX4_sheet_48 rfl (by decide) ?_
    refine j_icmp_le (tgt := 60) dX4_sheet_50 rfl (by decide) (fun c2 => ?_) (fun c2 => ?_)
    · have hm := jif_pos c2 hm
      refine j_aload_n dX4_sheet_60 rfl rfl ?_
      refine m_getr (k := 5) (r := 38) fX4_38 dX4_sheet_61 rfl rfl rfl ?_
      refine j_iload_n dX4_sheet_64 rfl rfl ?_
      obtain ⟨g3, hm⟩ := jg_of hm
      refine o_aald (k := (Int32.toNatClampNeg a1)) rfl dX4_sheet_65 rfl rfl (jin_vp g3) ?_
      refine j_iload_n dX4_sheet_66 rfl rfl ?_
      refine j_iload_n dX4_sheet_67 rfl rfl ?_
      obtain ⟨p4, ep4, hm⟩ := jb_of hm
      refine o_callV_v kX4_255 dX4_sheet_68 rfl (tX2_lay (jin_lt g3) ep4) (jsheet_o (jin_lt g3)) rfl rfl rfl rfl (Nat.le_of_ble_eq_true rfl) (by decide) ?_
      refine j_aload_n dX4_sheet_71 rfl rfl ?_
      refine m_getr (k := 5) (r := 38) fX4_38 dX4_sheet_72 rfl rfl rfl ?_
      refine j_iload_n dX4_sheet_75 rfl rfl ?_
      refine o_aald (k := (Int32.toNatClampNeg a1)) rfl dX4_sheet_76 rfl rfl (jin_vp g3) ?_
      refine m_geti (k := 1) fX4_258 dX4_sheet_77 rfl (jsheet_o (jin_lt g3)) rfl ?_
      exact j_ireturn dX4_sheet_80 rfl rfl ⟨Nat.le_refl _, Nat.le_refl _⟩ (jf_m (fun z => .int z) hm)
    · have hm := jif_neg c2 hm
      refine j_aload_n dX4_sheet_53 rfl rfl ?_
      refine j_ldc dX4_sheet_54 rfl wX4_59 ?_
      obtain ⟨p5, ep5, hm⟩ := jb_of hm
      refine o_callV_i kX4_60 dX4_sheet_56 rfl (tX4_refuse  ep5) rfl rfl rfl rfl rfl (Nat.le_of_ble_eq_true rfl) (by decide) ?_
      exact j_ireturn dX4_sheet_59 rfl rfl ⟨Nat.le_refl _, Nat.le_refl _⟩ (jf_m (fun z => .int z) hm)
  · have hm := jif_neg c1 hm
    refine j_aload_n dX4_sheet_40 rfl rfl ?_
    refine j_ldc dX4_sheet_41 rfl wX4_254 ?_
    obtain ⟨p6, ep6, hm⟩ := jb_of hm
    refine o_callV_i kX4_60 dX4_sheet_43 rfl (tX4_refuse  ep6) rfl rfl rfl rfl rfl (Nat.le_of_ble_eq_true rfl) (by decide) ?_
    exact j_ireturn dX4_sheet_46 rfl rfl ⟨Nat.le_refl _, Nat.le_refl _⟩ (jf_m (fun z => .int z) hm)
def mX4_sheet (a1 : Int32) (a2 : Int32) (a3 : Int32) (V : jMem) : Option (Int32 × jMem) := (if (mX4_isSheet a1) = (0 : Int32) then (mX4_sheet_b29 V) else (if a2 = (0 : Int32) then (mX4_sheet_b36 a1 a2 a3 V) else (if a2 = (8 : Int32) then (mX4_sheet_b36 a1 a2 a3 V) else (if a2 = (16 : Int32) then (mX4_sheet_b36 a1 a2 a3 V) else (if a2 = (64 : Int32) then (mX4_sheet_b36 a1 a2 a3 V) else (mX4_sheet_b29 V))))))
set_option maxHeartbeats 4000000 in
set_option maxRecDepth 20000 in
theorem tX4_sheet {l : Launch} {Z : jZ} {q : Nat → Nat} {a1 : Int32} {a2 : Int32} {a3 : Int32} {V : jMem} {r : Int32} {V' : jMem}  (hm : mX4_sheet a1 a2 a3 V = some (r, V')) : CtD l Z yX4_sheet cX4_sheet 4 (some .int) 2 q dX [.ref (q 0), .int a1, .int a2, .int a3] V (some (.int r)) V' := by
  refine Ct_of (L := [(0, .ref (q 0)), (1, .int a1), (2, .int a2), (3, .int a3)]) (own := RX4) (nm := "sheet") rfl rfl (by decide +kernel) rfl (Nat.le_of_ble_eq_true rfl) ?_
  unfold mX4_sheet at hm
  refine j_iload_n dX4_sheet_0 rfl rfl ?_
  refine o_callS_i kX4_251 dX4_sheet_1 rfl (tX4_isSheet  rfl) rfl rfl (Nat.le_of_ble_eq_true rfl) (by decide) ?_
  refine j_if_eq (tgt := 29) dX4_sheet_4 rfl (by decide) (fun c1 => ?_) (fun c1 => ?_)
  · have hm := jif_pos c1 hm
    refine j_sub (L' := [(0, _)]) [0] rfl ?_
    exact tX4_sheet_b29    hm
  · have hm := jif_neg c1 hm
    refine j_iload_n dX4_sheet_7 rfl rfl ?_
    refine j_if_eq (tgt := 36) dX4_sheet_8 rfl (by decide) (fun c2 => ?_) (fun c2 => ?_)
    · have hm := jif_pos c2 hm
      exact tX4_sheet_b36    hm
    · have hm := jif_neg c2 hm
      refine j_iload_n dX4_sheet_11 rfl rfl ?_
      refine j_bipush (v := 8) dX4_sheet_12 rfl (by decide) ?_
      refine j_icmp_eq (tgt := 36) dX4_sheet_14 rfl (by decide) (fun c3 => ?_) (fun c3 => ?_)
      · have hm := jif_pos c3 hm
        exact tX4_sheet_b36    hm
      · have hm := jif_neg c3 hm
        refine j_iload_n dX4_sheet_17 rfl rfl ?_
        refine j_bipush (v := 16) dX4_sheet_18 rfl (by decide) ?_
        refine j_icmp_eq (tgt := 36) dX4_sheet_20 rfl (by decide) (fun c4 => ?_) (fun c4 => ?_)
        · have hm := jif_pos c4 hm
          exact tX4_sheet_b36    hm
        · have hm := jif_neg c4 hm
          refine j_iload_n dX4_sheet_23 rfl rfl ?_
          refine j_bipush (v := 64) dX4_sheet_24 rfl (by decide) ?_
          refine j_icmp_eq (tgt := 36) dX4_sheet_26 rfl (by decide) (fun c5 => ?_) (fun c5 => ?_)
          · have hm := jif_pos c5 hm
            exact tX4_sheet_b36    hm
          · have hm := jif_neg c5 hm
            refine j_sub (L' := [(0, _)]) [0] rfl ?_
            exact tX4_sheet_b29    hm
theorem dX4_sheetFault_0 : decode cX4_sheetFault 0 = .ok (.iload_n 1, 1) := by decide +kernel
theorem dX4_sheetFault_1 : decode cX4_sheetFault 1 = .ok (.invokestatic 251, 3) := by decide +kernel
theorem dX4_sheetFault_4 : decode cX4_sheetFault 4 = .ok (.ifCond .ne 6, 3) := by decide +kernel
theorem dX4_sheetFault_7 : decode cX4_sheetFault 7 = .ok (.ldc 59, 2) := by decide +kernel
theorem dX4_sheetFault_9 : decode cX4_sheetFault 9 = .ok (.ireturn, 1) := by decide +kernel
theorem dX4_sheetFault_10 : decode cX4_sheetFault 10 = .ok (.aload_n 0, 1) := by decide +kernel
theorem dX4_sheetFault_11 : decode cX4_sheetFault 11 = .ok (.getfield 38, 3) := by decide +kernel
theorem dX4_sheetFault_14 : decode cX4_sheetFault 14 = .ok (.iload_n 1, 1) := by decide +kernel
theorem dX4_sheetFault_15 : decode cX4_sheetFault 15 = .ok (.aaload, 1) := by decide +kernel
theorem dX4_sheetFault_16 : decode cX4_sheetFault 16 = .ok (.invokevirtual 266, 3) := by decide +kernel
theorem dX4_sheetFault_19 : decode cX4_sheetFault 19 = .ok (.ifCond .eq 9, 3) := by decide +kernel
theorem dX4_sheetFault_22 : decode cX4_sheetFault 22 = .ok (.ldc_w 270, 3) := by decide +kernel
theorem dX4_sheetFault_25 : decode cX4_sheetFault 25 = .ok (.goto 4, 3) := by decide +kernel
theorem dX4_sheetFault_28 : decode cX4_sheetFault 28 = .ok (.iconst 0, 1) := by decide +kernel
theorem dX4_sheetFault_29 : decode cX4_sheetFault 29 = .ok (.ireturn, 1) := by decide +kernel
def mX4_sheetFault (a1 : Int32) (V : jMem) : Option Int32 := (if (mX4_isSheet a1) = (0 : Int32) then (some (-1000000001 : Int32)) else (jg (jin a1 4) (if (mX2_isMissing (Int32.toNatClampNeg a1) V) = (0 : Int32) then (some (0 : Int32)) else (some (-1000000006 : Int32)))))
set_option maxHeartbeats 4000000 in
set_option maxRecDepth 20000 in
theorem tX4_sheetFault {l : Launch} {Z : jZ} {q : Nat → Nat} {a1 : Int32} {V : jMem} {r : Int32}  (hm : mX4_sheetFault a1 V = some r) : CtD l Z yX4_sheetFault cX4_sheetFault 2 (some .int) 2 q dX [.ref (q 0), .int a1] V (some (.int r)) V := by
  refine Ct_of (L := [(0, .ref (q 0)), (1, .int a1)]) (own := RX4) (nm := "sheetFault") rfl rfl (by decide +kernel) rfl (Nat.le_of_ble_eq_true rfl) ?_
  unfold mX4_sheetFault at hm
  refine j_iload_n dX4_sheetFault_0 rfl rfl ?_
  refine o_callS_i kX4_251 dX4_sheetFault_1 rfl (tX4_isSheet  rfl) rfl rfl (Nat.le_of_ble_eq_true rfl) (by decide) ?_
  refine j_if_ne (tgt := 10) dX4_sheetFault_4 rfl (by decide) (fun c1 => ?_) (fun c1 => ?_)
  · have hm := jif_neg c1 hm
    refine j_aload_n dX4_sheetFault_10 rfl rfl ?_
    refine m_getr (k := 5) (r := 38) fX4_38 dX4_sheetFault_11 rfl rfl rfl ?_
    refine j_iload_n dX4_sheetFault_14 rfl rfl ?_
    obtain ⟨g2, hm⟩ := jg_of hm
    refine o_aald (k := (Int32.toNatClampNeg a1)) rfl dX4_sheetFault_15 rfl rfl (jin_vp g2) ?_
    refine o_callV_i kX4_266 dX4_sheetFault_16 rfl (tX2_isMissing (jin_lt g2) rfl) (jsheet_o (jin_lt g2)) rfl rfl rfl rfl (Nat.le_of_ble_eq_true rfl) (by decide) ?_
    refine j_if_eq (tgt := 28) dX4_sheetFault_19 rfl (by decide) (fun c3 => ?_) (fun c3 => ?_)
    · have hm := jif_pos c3 hm
      refine j_iconst (v := 0) dX4_sheetFault_28 rfl (by decide) ?_
      exact j_ireturn dX4_sheetFault_29 rfl rfl ⟨Nat.le_refl _, Nat.le_refl _⟩ (jf_p (fun z => .int z) hm)
    · have hm := jif_neg c3 hm
      refine j_ldcw dX4_sheetFault_22 rfl wX4_270 ?_
      refine j_goto (tgt := 29) dX4_sheetFault_25 (by decide) ?_
      exact j_ireturn dX4_sheetFault_29 rfl rfl ⟨Nat.le_refl _, Nat.le_refl _⟩ (jf_p (fun z => .int z) hm)
  · have hm := jif_pos c1 hm
    refine j_ldc dX4_sheetFault_7 rfl wX4_59 ?_
    exact j_ireturn dX4_sheetFault_9 rfl rfl ⟨Nat.le_refl _, Nat.le_refl _⟩ (jf_p (fun z => .int z) hm)
theorem dX4_write_0 : decode cX4_write 0 = .ok (.aload_n 0, 1) := by decide +kernel
theorem dX4_write_1 : decode cX4_write 1 = .ok (.iload_n 1, 1) := by decide +kernel
theorem dX4_write_2 : decode cX4_write 2 = .ok (.invokevirtual 259, 3) := by decide +kernel
theorem dX4_write_5 : decode cX4_write 5 = .ok (.istore 5, 2) := by decide +kernel
theorem dX4_write_7 : decode cX4_write 7 = .ok (.iload 5, 2) := by decide +kernel
theorem dX4_write_9 : decode cX4_write 9 = .ok (.ifCond .eq 11, 3) := by decide +kernel
theorem dX4_write_12 : decode cX4_write 12 = .ok (.aload_n 0, 1) := by decide +kernel
theorem dX4_write_13 : decode cX4_write 13 = .ok (.iload 5, 2) := by decide +kernel
theorem dX4_write_15 : decode cX4_write 15 = .ok (.invokevirtual 60, 3) := by decide +kernel
theorem dX4_write_18 : decode cX4_write 18 = .ok (.i2l, 1) := by decide +kernel
theorem dX4_write_19 : decode cX4_write 19 = .ok (.lreturn, 1) := by decide +kernel
theorem dX4_write_20 : decode cX4_write 20 = .ok (.iload_n 2, 1) := by decide +kernel
theorem dX4_write_21 : decode cX4_write 21 = .ok (.iconst 0, 1) := by decide +kernel
theorem dX4_write_22 : decode cX4_write 22 = .ok (.aload_n 0, 1) := by decide +kernel
theorem dX4_write_23 : decode cX4_write 23 = .ok (.getfield 38, 3) := by decide +kernel
theorem dX4_write_26 : decode cX4_write 26 = .ok (.iload_n 1, 1) := by decide +kernel
theorem dX4_write_27 : decode cX4_write 27 = .ok (.aaload, 1) := by decide +kernel
theorem dX4_write_28 : decode cX4_write 28 = .ok (.getfield 258, 3) := by decide +kernel
theorem dX4_write_31 : decode cX4_write 31 = .ok (.iconst 1, 1) := by decide +kernel
theorem dX4_write_32 : decode cX4_write 32 = .ok (.isub, 1) := by decide +kernel
theorem dX4_write_33 : decode cX4_write 33 = .ok (.invokestatic 55, 3) := by decide +kernel
theorem dX4_write_36 : decode cX4_write 36 = .ok (.ifCond .ne 11, 3) := by decide +kernel
theorem dX4_write_39 : decode cX4_write 39 = .ok (.aload_n 0, 1) := by decide +kernel
theorem dX4_write_40 : decode cX4_write 40 = .ok (.ldc 59, 2) := by decide +kernel
theorem dX4_write_42 : decode cX4_write 42 = .ok (.invokevirtual 60, 3) := by decide +kernel
theorem dX4_write_45 : decode cX4_write 45 = .ok (.i2l, 1) := by decide +kernel
theorem dX4_write_46 : decode cX4_write 46 = .ok (.lreturn, 1) := by decide +kernel
theorem dX4_write_47 : decode cX4_write 47 = .ok (.aload_n 0, 1) := by decide +kernel
theorem dX4_write_48 : decode cX4_write 48 = .ok (.getfield 38, 3) := by decide +kernel
theorem dX4_write_51 : decode cX4_write 51 = .ok (.iload_n 1, 1) := by decide +kernel
theorem dX4_write_52 : decode cX4_write 52 = .ok (.aaload, 1) := by decide +kernel
theorem dX4_write_53 : decode cX4_write 53 = .ok (.iload_n 2, 1) := by decide +kernel
theorem dX4_write_54 : decode cX4_write 54 = .ok (.lload_n 3, 1) := by decide +kernel
theorem dX4_write_55 : decode cX4_write 55 = .ok (.invokevirtual 262, 3) := by decide +kernel
theorem dX4_write_58 : decode cX4_write 58 = .ok (.lreturn, 1) := by decide +kernel
def mX4_write (a1 : Int32) (a2 : Int32) (a3 : Int64) (V : jMem) : Option (Int64 × jMem) := ((mX4_sheetFault a1 V).bind (fun (r1 : Int32) => (if r1 = (0 : Int32) then (jg (jin a1 4) (if (mX4_isWithin a2 (0 : Int32) ((V.1 (39 + 2 * (Int32.toNatClampNeg a1)) 1) - (1 : Int32))) = (0 : Int32) then ((mX4_refuse (-1000000001 : Int32) V).bind (fun (p6 : Int32 × jMem) => (some ((Int32.toInt64 p6.1), p6.2)))) else ((mX2_put (Int32.toNatClampNeg a1) a2 a3 V).bind (fun (p5 : Int64 × jMem) => (some (p5.1, p5.2)))))) else ((mX4_refuse r1 V).bind (fun (p7 : Int32 × jMem) => (some ((Int32.toInt64 p7.1), p7.2)))))))
set_option maxHeartbeats 4000000 in
set_option maxRecDepth 20000 in
theorem tX4_write {l : Launch} {Z : jZ} {q : Nat → Nat} {a1 : Int32} {a2 : Int32} {a3 : Int64} {V : jMem} {r : Int64} {V' : jMem}  (hm : mX4_write a1 a2 a3 V = some (r, V')) : CtD l Z yX4_write cX4_write 6 (some .long) 3 q dX [.ref (q 0), .int a1, .int a2, .long a3] V (some (.long r)) V' := by
  refine Ct_of (L := [(0, .ref (q 0)), (1, .int a1), (2, .int a2), (3, .long a3)]) (own := RX4) (nm := "write") rfl rfl (by decide +kernel) rfl (Nat.le_of_ble_eq_true rfl) ?_
  unfold mX4_write at hm
  refine j_aload_n dX4_write_0 rfl rfl ?_
  refine j_iload_n dX4_write_1 rfl rfl ?_
  obtain ⟨r1, er1, hm⟩ := jb_of hm
  refine o_callV_i kX4_259 dX4_write_2 rfl (tX4_sheetFault  er1) rfl rfl rfl rfl rfl (Nat.le_of_ble_eq_true rfl) (by decide) ?_
  refine j_istore (L' := [(5, _), (0, _), (1, _), (2, _), (3, _)]) dX4_write_5 rfl (by decide) rfl ?_
  refine j_iload dX4_write_7 rfl rfl ?_
  refine j_if_eq (tgt := 20) dX4_write_9 rfl (by decide) (fun c2 => ?_) (fun c2 => ?_)
  · have hm := jif_pos c2 hm
    refine j_iload_n dX4_write_20 rfl rfl ?_
    refine j_iconst (v := 0) dX4_write_21 rfl (by decide) ?_
    refine j_aload_n dX4_write_22 rfl rfl ?_
    refine m_getr (k := 5) (r := 38) fX4_38 dX4_write_23 rfl rfl rfl ?_
    refine j_iload_n dX4_write_26 rfl rfl ?_
    obtain ⟨g3, hm⟩ := jg_of hm
    refine o_aald (k := (Int32.toNatClampNeg a1)) rfl dX4_write_27 rfl rfl (jin_vp g3) ?_
    refine m_geti (k := 1) fX4_258 dX4_write_28 rfl (jsheet_o (jin_lt g3)) rfl ?_
    refine j_iconst (v := 1) dX4_write_31 rfl (by decide) ?_
    refine j_isub dX4_write_32 rfl ?_
    refine o_callS_i kX4_55 dX4_write_33 rfl (tX4_isWithin  rfl) rfl rfl (Nat.le_of_ble_eq_true rfl) (by decide) ?_
    refine j_if_ne (tgt := 47) dX4_write_36 rfl (by decide) (fun c4 => ?_) (fun c4 => ?_)
    · have hm := jif_neg c4 hm
      refine j_aload_n dX4_write_47 rfl rfl ?_
      refine m_getr (k := 5) (r := 38) fX4_38 dX4_write_48 rfl rfl rfl ?_
      refine j_iload_n dX4_write_51 rfl rfl ?_
      refine o_aald (k := (Int32.toNatClampNeg a1)) rfl dX4_write_52 rfl rfl (jin_vp g3) ?_
      refine j_iload_n dX4_write_53 rfl rfl ?_
      refine j_lload_n dX4_write_54 rfl rfl ?_
      obtain ⟨p5, ep5, hm⟩ := jb_of hm
      refine o_callV_l kX4_262 dX4_write_55 rfl (tX2_put (jin_lt g3) ep5) (jsheet_o (jin_lt g3)) rfl rfl rfl rfl (Nat.le_of_ble_eq_true rfl) (by decide) ?_
      exact j_lreturn dX4_write_58 rfl ⟨Nat.le_refl _, Nat.le_refl _⟩ (jf_m (fun z => .long z) hm)
    · have hm := jif_pos c4 hm
      refine j_aload_n dX4_write_39 rfl rfl ?_
      refine j_ldc dX4_write_40 rfl wX4_59 ?_
      obtain ⟨p6, ep6, hm⟩ := jb_of hm
      refine o_callV_i kX4_60 dX4_write_42 rfl (tX4_refuse  ep6) rfl rfl rfl rfl rfl (Nat.le_of_ble_eq_true rfl) (by decide) ?_
      refine j_i2l dX4_write_45 rfl ?_
      exact j_lreturn dX4_write_46 rfl ⟨Nat.le_refl _, Nat.le_refl _⟩ (jf_m (fun z => .long z) hm)
  · have hm := jif_neg c2 hm
    refine j_aload_n dX4_write_12 rfl rfl ?_
    refine j_iload dX4_write_13 rfl rfl ?_
    obtain ⟨p7, ep7, hm⟩ := jb_of hm
    refine o_callV_i kX4_60 dX4_write_15 rfl (tX4_refuse  ep7) rfl rfl rfl rfl rfl (Nat.le_of_ble_eq_true rfl) (by decide) ?_
    refine j_i2l dX4_write_18 rfl ?_
    exact j_lreturn dX4_write_19 rfl ⟨Nat.le_refl _, Nat.le_refl _⟩ (jf_m (fun z => .long z) hm)
theorem dX4_copy_0 : decode cX4_copy 0 = .ok (.iload_n 1, 1) := by decide +kernel
theorem dX4_copy_1 : decode cX4_copy 1 = .ok (.invokestatic 251, 3) := by decide +kernel
theorem dX4_copy_4 : decode cX4_copy 4 = .ok (.ifCond .eq 10, 3) := by decide +kernel
theorem dX4_copy_7 : decode cX4_copy 7 = .ok (.iload_n 3, 1) := by decide +kernel
theorem dX4_copy_8 : decode cX4_copy 8 = .ok (.invokestatic 251, 3) := by decide +kernel
theorem dX4_copy_11 : decode cX4_copy 11 = .ok (.ifCond .ne 10, 3) := by decide +kernel
theorem dX4_copy_14 : decode cX4_copy 14 = .ok (.aload_n 0, 1) := by decide +kernel
theorem dX4_copy_15 : decode cX4_copy 15 = .ok (.ldc 59, 2) := by decide +kernel
theorem dX4_copy_17 : decode cX4_copy 17 = .ok (.invokevirtual 60, 3) := by decide +kernel
theorem dX4_copy_20 : decode cX4_copy 20 = .ok (.ireturn, 1) := by decide +kernel
theorem dX4_copy_21 : decode cX4_copy 21 = .ok (.aload_n 0, 1) := by decide +kernel
theorem dX4_copy_22 : decode cX4_copy 22 = .ok (.getfield 38, 3) := by decide +kernel
theorem dX4_copy_25 : decode cX4_copy 25 = .ok (.iload_n 1, 1) := by decide +kernel
theorem dX4_copy_26 : decode cX4_copy 26 = .ok (.aaload, 1) := by decide +kernel
theorem dX4_copy_27 : decode cX4_copy 27 = .ok (.astore 6, 2) := by decide +kernel
theorem dX4_copy_29 : decode cX4_copy 29 = .ok (.aload_n 0, 1) := by decide +kernel
theorem dX4_copy_30 : decode cX4_copy 30 = .ok (.getfield 38, 3) := by decide +kernel
theorem dX4_copy_33 : decode cX4_copy 33 = .ok (.iload_n 3, 1) := by decide +kernel
theorem dX4_copy_34 : decode cX4_copy 34 = .ok (.aaload, 1) := by decide +kernel
theorem dX4_copy_35 : decode cX4_copy 35 = .ok (.astore 7, 2) := by decide +kernel
theorem dX4_copy_37 : decode cX4_copy 37 = .ok (.aload 6, 2) := by decide +kernel
theorem dX4_copy_39 : decode cX4_copy 39 = .ok (.invokevirtual 266, 3) := by decide +kernel
theorem dX4_copy_42 : decode cX4_copy 42 = .ok (.ifCond .ne 11, 3) := by decide +kernel
theorem dX4_copy_45 : decode cX4_copy 45 = .ok (.aload 7, 2) := by decide +kernel
theorem dX4_copy_47 : decode cX4_copy 47 = .ok (.invokevirtual 266, 3) := by decide +kernel
theorem dX4_copy_50 : decode cX4_copy 50 = .ok (.ifCond .eq 11, 3) := by decide +kernel
theorem dX4_copy_53 : decode cX4_copy 53 = .ok (.aload_n 0, 1) := by decide +kernel
theorem dX4_copy_54 : decode cX4_copy 54 = .ok (.ldc_w 270, 3) := by decide +kernel
theorem dX4_copy_57 : decode cX4_copy 57 = .ok (.invokevirtual 60, 3) := by decide +kernel
theorem dX4_copy_60 : decode cX4_copy 60 = .ok (.ireturn, 1) := by decide +kernel
theorem dX4_copy_61 : decode cX4_copy 61 = .ok (.aload 6, 2) := by decide +kernel
theorem dX4_copy_63 : decode cX4_copy 63 = .ok (.getfield 271, 3) := by decide +kernel
theorem dX4_copy_66 : decode cX4_copy 66 = .ok (.aload 7, 2) := by decide +kernel
theorem dX4_copy_68 : decode cX4_copy 68 = .ok (.getfield 271, 3) := by decide +kernel
theorem dX4_copy_71 : decode cX4_copy 71 = .ok (.if_icmp .eq 10, 3) := by decide +kernel
theorem dX4_copy_74 : decode cX4_copy 74 = .ok (.aload_n 0, 1) := by decide +kernel
theorem dX4_copy_75 : decode cX4_copy 75 = .ok (.ldc 111, 2) := by decide +kernel
theorem dX4_copy_77 : decode cX4_copy 77 = .ok (.invokevirtual 60, 3) := by decide +kernel
theorem dX4_copy_80 : decode cX4_copy 80 = .ok (.ireturn, 1) := by decide +kernel
theorem dX4_copy_81 : decode cX4_copy 81 = .ok (.aload 6, 2) := by decide +kernel
theorem dX4_copy_83 : decode cX4_copy 83 = .ok (.iload_n 2, 1) := by decide +kernel
theorem dX4_copy_84 : decode cX4_copy 84 = .ok (.iload 5, 2) := by decide +kernel
theorem dX4_copy_86 : decode cX4_copy 86 = .ok (.invokevirtual 274, 3) := by decide +kernel
theorem dX4_copy_89 : decode cX4_copy 89 = .ok (.ifCond .eq 15, 3) := by decide +kernel
theorem dX4_copy_92 : decode cX4_copy 92 = .ok (.aload 7, 2) := by decide +kernel
theorem dX4_copy_94 : decode cX4_copy 94 = .ok (.iload 4, 2) := by decide +kernel
theorem dX4_copy_96 : decode cX4_copy 96 = .ok (.iload 5, 2) := by decide +kernel
theorem dX4_copy_98 : decode cX4_copy 98 = .ok (.invokevirtual 274, 3) := by decide +kernel
theorem dX4_copy_101 : decode cX4_copy 101 = .ok (.ifCond .ne 10, 3) := by decide +kernel
theorem dX4_copy_104 : decode cX4_copy 104 = .ok (.aload_n 0, 1) := by decide +kernel
theorem dX4_copy_105 : decode cX4_copy 105 = .ok (.ldc 59, 2) := by decide +kernel
theorem dX4_copy_107 : decode cX4_copy 107 = .ok (.invokevirtual 60, 3) := by decide +kernel
theorem dX4_copy_110 : decode cX4_copy 110 = .ok (.ireturn, 1) := by decide +kernel
theorem dX4_copy_111 : decode cX4_copy 111 = .ok (.aload 6, 2) := by decide +kernel
theorem dX4_copy_113 : decode cX4_copy 113 = .ok (.getfield 277, 3) := by decide +kernel
theorem dX4_copy_116 : decode cX4_copy 116 = .ok (.iload_n 2, 1) := by decide +kernel
theorem dX4_copy_117 : decode cX4_copy 117 = .ok (.aload 7, 2) := by decide +kernel
theorem dX4_copy_119 : decode cX4_copy 119 = .ok (.getfield 277, 3) := by decide +kernel
theorem dX4_copy_122 : decode cX4_copy 122 = .ok (.iload 4, 2) := by decide +kernel
theorem dX4_copy_124 : decode cX4_copy 124 = .ok (.iload 5, 2) := by decide +kernel
theorem dX4_copy_126 : decode cX4_copy 126 = .ok (.invokestatic 281, 3) := by decide +kernel
theorem dX4_copy_129 : decode cX4_copy 129 = .ok (.iload 5, 2) := by decide +kernel
theorem dX4_copy_131 : decode cX4_copy 131 = .ok (.ireturn, 1) := by decide +kernel
def mX4_copy_b14   (V : jMem) : Option (Int32 × jMem) := ((mX4_refuse (-1000000001 : Int32) V).bind (fun (p1 : Int32 × jMem) => (some (p1.1, p1.2))))
set_option maxHeartbeats 4000000 in
set_option maxRecDepth 20000 in
theorem tX4_copy_b14 {l : Launch} {Z : jZ} {q : Nat → Nat} {V : jMem} {r : Int32} {V' : jMem}    (hm : mX4_copy_b14 V = some (r, V')) : J l Z RX4 "copy" cX4_copy 8 (some .int) 2 0 0 (fun r' w => r' = some (.int r) ∧ w = jw Z q V' dX) 14 [(0, .ref (q 0))] [] (jw Z q V dX) 0 0 := by
  unfold mX4_copy_b14 at hm
  refine j_aload_n dX4_copy_14 rfl rfl ?_
  refine j_ldc dX4_copy_15 rfl wX4_59 ?_
  obtain ⟨p1, ep1, hm⟩ := jb_of hm
  refine o_callV_i kX4_60 dX4_copy_17 rfl (tX4_refuse  ep1) rfl rfl rfl rfl rfl (Nat.le_of_ble_eq_true rfl) (by decide) ?_
  exact j_ireturn dX4_copy_20 rfl rfl ⟨Nat.le_refl _, Nat.le_refl _⟩ (jf_m (fun z => .int z) hm)
def mX4_copy_b53   (V : jMem) : Option (Int32 × jMem) := ((mX4_refuse (-1000000006 : Int32) V).bind (fun (p1 : Int32 × jMem) => (some (p1.1, p1.2))))
set_option maxHeartbeats 4000000 in
set_option maxRecDepth 20000 in
theorem tX4_copy_b53 {l : Launch} {Z : jZ} {q : Nat → Nat} {V : jMem} {r : Int32} {V' : jMem}    (hm : mX4_copy_b53 V = some (r, V')) : J l Z RX4 "copy" cX4_copy 8 (some .int) 2 0 0 (fun r' w => r' = some (.int r) ∧ w = jw Z q V' dX) 53 [(0, .ref (q 0))] [] (jw Z q V dX) 0 0 := by
  unfold mX4_copy_b53 at hm
  refine j_aload_n dX4_copy_53 rfl rfl ?_
  refine j_ldcw dX4_copy_54 rfl wX4_270 ?_
  obtain ⟨p1, ep1, hm⟩ := jb_of hm
  refine o_callV_i kX4_60 dX4_copy_57 rfl (tX4_refuse  ep1) rfl rfl rfl rfl rfl (Nat.le_of_ble_eq_true rfl) (by decide) ?_
  exact j_ireturn dX4_copy_60 rfl rfl ⟨Nat.le_refl _, Nat.le_refl _⟩ (jf_m (fun z => .int z) hm)
def mX4_copy_b104   (V : jMem) : Option (Int32 × jMem) := ((mX4_refuse (-1000000001 : Int32) V).bind (fun (p1 : Int32 × jMem) => (some (p1.1, p1.2))))
set_option maxHeartbeats 4000000 in
set_option maxRecDepth 20000 in
theorem tX4_copy_b104 {l : Launch} {Z : jZ} {q : Nat → Nat} {V : jMem} {r : Int32} {V' : jMem}    (hm : mX4_copy_b104 V = some (r, V')) : J l Z RX4 "copy" cX4_copy 8 (some .int) 2 0 0 (fun r' w => r' = some (.int r) ∧ w = jw Z q V' dX) 104 [(0, .ref (q 0))] [] (jw Z q V dX) 0 0 := by
  unfold mX4_copy_b104 at hm
  refine j_aload_n dX4_copy_104 rfl rfl ?_
  refine j_ldc dX4_copy_105 rfl wX4_59 ?_
  obtain ⟨p1, ep1, hm⟩ := jb_of hm
  refine o_callV_i kX4_60 dX4_copy_107 rfl (tX4_refuse  ep1) rfl rfl rfl rfl rfl (Nat.le_of_ble_eq_true rfl) (by decide) ?_
  exact j_ireturn dX4_copy_110 rfl rfl ⟨Nat.le_refl _, Nat.le_refl _⟩ (jf_m (fun z => .int z) hm)
def mX4_copy (a1 : Int32) (a2 : Int32) (a3 : Int32) (a4 : Int32) (a5 : Int32) (V : jMem) : Option (Int32 × jMem) := (if (mX4_isSheet a1) = (0 : Int32) then (mX4_copy_b14 V) else (if (mX4_isSheet a3) = (0 : Int32) then (mX4_copy_b14 V) else (jg (jin a1 4) (jg (jin a3 4) (if (mX2_isMissing (Int32.toNatClampNeg a1) V) = (0 : Int32) then (if (mX2_isMissing (Int32.toNatClampNeg a3) V) = (0 : Int32) then (if (V.1 (39 + 2 * (Int32.toNatClampNeg a1)) 0) = (V.1 (39 + 2 * (Int32.toNatClampNeg a3)) 0) then (if (mX2_holds (Int32.toNatClampNeg a1) a2 a5 V) = (0 : Int32) then (mX4_copy_b104 V) else (if (mX2_holds (Int32.toNatClampNeg a3) a4 a5 V) = (0 : Int32) then (mX4_copy_b104 V) else (jg (jnn a2) (jg (jnn a4) (jg (jnn a5) (jg (jle a2 a5 40) (jg (jle a4 a5 40) (jl (jsB V (39 + 2 * (Int32.toNatClampNeg a3) + 1) (va_cpy (V.2 (39 + 2 * (Int32.toNatClampNeg a1) + 1)) (V.2 (39 + 2 * (Int32.toNatClampNeg a3) + 1)) (Int32.toNatClampNeg a2) (Int32.toNatClampNeg a4) (Int32.toNatClampNeg a5))) (fun (V15 : jMem) => (some (a5, V15))))))))))) else ((mX4_refuse (-1000000003 : Int32) V).bind (fun (p16 : Int32 × jMem) => (some (p16.1, p16.2))))) else (mX4_copy_b53 V)) else (mX4_copy_b53 V))))))
set_option maxHeartbeats 4000000 in
set_option maxRecDepth 20000 in
theorem tX4_copy {l : Launch} {Z : jZ} {q : Nat → Nat} {a1 : Int32} {a2 : Int32} {a3 : Int32} {a4 : Int32} {a5 : Int32} {V : jMem} {r : Int32} {V' : jMem}  (hm : mX4_copy a1 a2 a3 a4 a5 V = some (r, V')) : CtD l Z yX4_copy cX4_copy 8 (some .int) 2 q dX [.ref (q 0), .int a1, .int a2, .int a3, .int a4, .int a5] V (some (.int r)) V' := by
  refine Ct_of (L := [(0, .ref (q 0)), (1, .int a1), (2, .int a2), (3, .int a3), (4, .int a4), (5, .int a5)]) (own := RX4) (nm := "copy") rfl rfl (by decide +kernel) rfl (Nat.le_of_ble_eq_true rfl) ?_
  unfold mX4_copy at hm
  refine j_iload_n dX4_copy_0 rfl rfl ?_
  refine o_callS_i kX4_251 dX4_copy_1 rfl (tX4_isSheet  rfl) rfl rfl (Nat.le_of_ble_eq_true rfl) (by decide) ?_
  refine j_if_eq (tgt := 14) dX4_copy_4 rfl (by decide) (fun c1 => ?_) (fun c1 => ?_)
  · have hm := jif_pos c1 hm
    refine j_sub (L' := [(0, _)]) [0] rfl ?_
    exact tX4_copy_b14    hm
  · have hm := jif_neg c1 hm
    refine j_iload_n dX4_copy_7 rfl rfl ?_
    refine o_callS_i kX4_251 dX4_copy_8 rfl (tX4_isSheet  rfl) rfl rfl (Nat.le_of_ble_eq_true rfl) (by decide) ?_
    refine j_if_ne (tgt := 21) dX4_copy_11 rfl (by decide) (fun c2 => ?_) (fun c2 => ?_)
    · have hm := jif_neg c2 hm
      refine j_aload_n dX4_copy_21 rfl rfl ?_
      refine m_getr (k := 5) (r := 38) fX4_38 dX4_copy_22 rfl rfl rfl ?_
      refine j_iload_n dX4_copy_25 rfl rfl ?_
      obtain ⟨g3, hm⟩ := jg_of hm
      refine o_aald (k := (Int32.toNatClampNeg a1)) rfl dX4_copy_26 rfl rfl (jin_vp g3) ?_
      refine j_astore (L' := [(6, _), (0, _), (1, _), (2, _), (3, _), (4, _), (5, _)]) dX4_copy_27 rfl (by decide) rfl ?_
      refine j_aload_n dX4_copy_29 rfl rfl ?_
      refine m_getr (k := 5) (r := 38) fX4_38 dX4_copy_30 rfl rfl rfl ?_
      refine j_iload_n dX4_copy_33 rfl rfl ?_
      obtain ⟨g4, hm⟩ := jg_of hm
      refine o_aald (k := (Int32.toNatClampNeg a3)) rfl dX4_copy_34 rfl rfl (jin_vp g4) ?_
      refine j_astore (L' := [(7, _), (6, _), (0, _), (1, _), (2, _), (3, _), (4, _), (5, _)]) dX4_copy_35 rfl (by decide) rfl ?_
      refine j_aload dX4_copy_37 rfl rfl ?_
      refine o_callV_i kX4_266 dX4_copy_39 rfl (tX2_isMissing (jin_lt g3) rfl) (jsheet_o (jin_lt g3)) rfl rfl rfl rfl (Nat.le_of_ble_eq_true rfl) (by decide) ?_
      refine j_if_ne (tgt := 53) dX4_copy_42 rfl (by decide) (fun c5 => ?_) (fun c5 => ?_)
      · have hm := jif_neg c5 hm
        refine j_sub (L' := [(0, _)]) [2] rfl ?_
        exact tX4_copy_b53    hm
      · have hm := jif_pos c5 hm
        refine j_aload dX4_copy_45 rfl rfl ?_
        refine o_callV_i kX4_266 dX4_copy_47 rfl (tX2_isMissing (jin_lt g4) rfl) (jsheet_o (jin_lt g4)) rfl rfl rfl rfl (Nat.le_of_ble_eq_true rfl) (by decide) ?_
        refine j_if_eq (tgt := 61) dX4_copy_50 rfl (by decide) (fun c6 => ?_) (fun c6 => ?_)
        · have hm := jif_pos c6 hm
          refine j_aload dX4_copy_61 rfl rfl ?_
          refine m_geti (k := 0) fX4_271 dX4_copy_63 rfl (jsheet_o (jin_lt g3)) rfl ?_
          refine j_aload dX4_copy_66 rfl rfl ?_
          refine m_geti (k := 0) fX4_271 dX4_copy_68 rfl (jsheet_o (jin_lt g4)) rfl ?_
          refine j_icmp_eq (tgt := 81) dX4_copy_71 rfl (by decide) (fun c7 => ?_) (fun c7 => ?_)
          · have hm := jif_pos c7 hm
            refine j_aload dX4_copy_81 rfl rfl ?_
            refine j_iload_n dX4_copy_83 rfl rfl ?_
            refine j_iload dX4_copy_84 rfl rfl ?_
            refine o_callV_i kX4_274 dX4_copy_86 rfl (tX2_holds (jin_lt g3) rfl) (jsheet_o (jin_lt g3)) rfl rfl rfl rfl (Nat.le_of_ble_eq_true rfl) (by decide) ?_
            refine j_if_eq (tgt := 104) dX4_copy_89 rfl (by decide) (fun c8 => ?_) (fun c8 => ?_)
            · have hm := jif_pos c8 hm
              refine j_sub (L' := [(0, _)]) [2] rfl ?_
              exact tX4_copy_b104    hm
            · have hm := jif_neg c8 hm
              refine j_aload dX4_copy_92 rfl rfl ?_
              refine j_iload dX4_copy_94 rfl rfl ?_
              refine j_iload dX4_copy_96 rfl rfl ?_
              refine o_callV_i kX4_274 dX4_copy_98 rfl (tX2_holds (jin_lt g4) rfl) (jsheet_o (jin_lt g4)) rfl rfl rfl rfl (Nat.le_of_ble_eq_true rfl) (by decide) ?_
              refine j_if_ne (tgt := 111) dX4_copy_101 rfl (by decide) (fun c9 => ?_) (fun c9 => ?_)
              · have hm := jif_neg c9 hm
                refine j_aload dX4_copy_111 rfl rfl ?_
                refine m_getr (k := 2) (r := (39 + 2 * (Int32.toNatClampNeg a1) + 1)) fX4_277 dX4_copy_113 rfl (jsheet_o (jin_lt g3)) rfl ?_
                refine j_iload_n dX4_copy_116 rfl rfl ?_
                refine j_aload dX4_copy_117 rfl rfl ?_
                refine m_getr (k := 2) (r := (39 + 2 * (Int32.toNatClampNeg a3) + 1)) fX4_277 dX4_copy_119 rfl (jsheet_o (jin_lt g4)) rfl ?_
                refine j_iload dX4_copy_122 rfl rfl ?_
                refine j_iload dX4_copy_124 rfl rfl ?_
                obtain ⟨g10, hm⟩ := jg_of hm
                obtain ⟨g11, hm⟩ := jg_of hm
                obtain ⟨g12, hm⟩ := jg_of hm
                obtain ⟨g13, hm⟩ := jg_of hm
                obtain ⟨g14, hm⟩ := jg_of hm
                refine m_copyl kX4_281 ac_facts.1 ac_facts.2.1 ac_facts.2.2 dX4_copy_126 rfl (jsheet_a (jin_lt g3)) (jsheet_a (jin_lt g4)) (jnn_of g10) (jnn_of g11) (jnn_of g12) (jle_of g13) (jle_of g14) (by decide) (Nat.le_of_ble_eq_true rfl) ?_
                obtain ⟨V15, eV15⟩ : ∃ y, y = (jsB V (39 + 2 * (Int32.toNatClampNeg a3) + 1) (va_cpy (V.2 (39 + 2 * (Int32.toNatClampNeg a1) + 1)) (V.2 (39 + 2 * (Int32.toNatClampNeg a3) + 1)) (Int32.toNatClampNeg a2) (Int32.toNatClampNeg a4) (Int32.toNatClampNeg a5))) := ⟨_, rfl⟩
                have hm := jl_of hm eV15
                rw [← eV15]
                refine j_iload dX4_copy_129 rfl rfl ?_
                exact j_ireturn dX4_copy_131 rfl rfl ⟨Nat.le_refl _, Nat.le_refl _⟩ (jf_m (fun z => .int z) hm)
              · have hm := jif_pos c9 hm
                refine j_sub (L' := [(0, _)]) [2] rfl ?_
                exact tX4_copy_b104    hm
          · have hm := jif_neg c7 hm
            refine j_aload_n dX4_copy_74 rfl rfl ?_
            refine j_ldc dX4_copy_75 rfl wX4_111 ?_
            obtain ⟨p16, ep16, hm⟩ := jb_of hm
            refine o_callV_i kX4_60 dX4_copy_77 rfl (tX4_refuse  ep16) rfl rfl rfl rfl rfl (Nat.le_of_ble_eq_true rfl) (by decide) ?_
            exact j_ireturn dX4_copy_80 rfl rfl ⟨Nat.le_refl _, Nat.le_refl _⟩ (jf_m (fun z => .int z) hm)
        · have hm := jif_neg c6 hm
          refine j_sub (L' := [(0, _)]) [2] rfl ?_
          exact tX4_copy_b53    hm
    · have hm := jif_pos c2 hm
      refine j_sub (L' := [(0, _)]) [0] rfl ?_
      exact tX4_copy_b14    hm
theorem dX4_cost_0 : decode cX4_cost 0 = .ok (.aload_n 0, 1) := by decide +kernel
theorem dX4_cost_1 : decode cX4_cost 1 = .ok (.iload_n 1, 1) := by decide +kernel
theorem dX4_cost_2 : decode cX4_cost 2 = .ok (.invokevirtual 259, 3) := by decide +kernel
theorem dX4_cost_5 : decode cX4_cost 5 = .ok (.istore_n 2, 1) := by decide +kernel
theorem dX4_cost_6 : decode cX4_cost 6 = .ok (.iload_n 2, 1) := by decide +kernel
theorem dX4_cost_7 : decode cX4_cost 7 = .ok (.ifCond .eq 10, 3) := by decide +kernel
theorem dX4_cost_10 : decode cX4_cost 10 = .ok (.aload_n 0, 1) := by decide +kernel
theorem dX4_cost_11 : decode cX4_cost 11 = .ok (.iload_n 2, 1) := by decide +kernel
theorem dX4_cost_12 : decode cX4_cost 12 = .ok (.invokevirtual 60, 3) := by decide +kernel
theorem dX4_cost_15 : decode cX4_cost 15 = .ok (.i2l, 1) := by decide +kernel
theorem dX4_cost_16 : decode cX4_cost 16 = .ok (.lreturn, 1) := by decide +kernel
theorem dX4_cost_17 : decode cX4_cost 17 = .ok (.aload_n 0, 1) := by decide +kernel
theorem dX4_cost_18 : decode cX4_cost 18 = .ok (.getfield 38, 3) := by decide +kernel
theorem dX4_cost_21 : decode cX4_cost 21 = .ok (.iload_n 1, 1) := by decide +kernel
theorem dX4_cost_22 : decode cX4_cost 22 = .ok (.aaload, 1) := by decide +kernel
theorem dX4_cost_23 : decode cX4_cost 23 = .ok (.astore_n 3, 1) := by decide +kernel
theorem dX4_cost_24 : decode cX4_cost 24 = .ok (.iconst 0, 1) := by decide +kernel
theorem dX4_cost_25 : decode cX4_cost 25 = .ok (.istore 4, 2) := by decide +kernel
theorem dX4_cost_27 : decode cX4_cost 27 = .ok (.lconst 0, 1) := by decide +kernel
theorem dX4_cost_28 : decode cX4_cost 28 = .ok (.lstore 5, 2) := by decide +kernel
theorem dX4_cost_30 : decode cX4_cost 30 = .ok (.iconst 0, 1) := by decide +kernel
theorem dX4_cost_31 : decode cX4_cost 31 = .ok (.istore 7, 2) := by decide +kernel
theorem dX4_cost_33 : decode cX4_cost 33 = .ok (.iload 7, 2) := by decide +kernel
theorem dX4_cost_35 : decode cX4_cost 35 = .ok (.aload_n 3, 1) := by decide +kernel
theorem dX4_cost_36 : decode cX4_cost 36 = .ok (.getfield 258, 3) := by decide +kernel
theorem dX4_cost_39 : decode cX4_cost 39 = .ok (.if_icmp .ge 82, 3) := by decide +kernel
theorem dX4_cost_42 : decode cX4_cost 42 = .ok (.aload_n 0, 1) := by decide +kernel
theorem dX4_cost_43 : decode cX4_cost 43 = .ok (.getfield 12, 3) := by decide +kernel
theorem dX4_cost_46 : decode cX4_cost 46 = .ok (.aload_n 3, 1) := by decide +kernel
theorem dX4_cost_47 : decode cX4_cost 47 = .ok (.getfield 277, 3) := by decide +kernel
theorem dX4_cost_50 : decode cX4_cost 50 = .ok (.iload 7, 2) := by decide +kernel
theorem dX4_cost_52 : decode cX4_cost 52 = .ok (.laload, 1) := by decide +kernel
theorem dX4_cost_53 : decode cX4_cost 53 = .ok (.invokevirtual 287, 3) := by decide +kernel
theorem dX4_cost_56 : decode cX4_cost 56 = .ok (.istore 8, 2) := by decide +kernel
theorem dX4_cost_58 : decode cX4_cost 58 = .ok (.iload 8, 2) := by decide +kernel
theorem dX4_cost_60 : decode cX4_cost 60 = .ok (.ifCond .lt 13, 3) := by decide +kernel
theorem dX4_cost_63 : decode cX4_cost 63 = .ok (.iload 8, 2) := by decide +kernel
theorem dX4_cost_65 : decode cX4_cost 65 = .ok (.iload 4, 2) := by decide +kernel
theorem dX4_cost_67 : decode cX4_cost 67 = .ok (.invokestatic 135, 3) := by decide +kernel
theorem dX4_cost_70 : decode cX4_cost 70 = .ok (.ifCond .eq 11, 3) := by decide +kernel
theorem dX4_cost_73 : decode cX4_cost 73 = .ok (.aload_n 0, 1) := by decide +kernel
theorem dX4_cost_74 : decode cX4_cost 74 = .ok (.ldc 111, 2) := by decide +kernel
theorem dX4_cost_76 : decode cX4_cost 76 = .ok (.invokevirtual 60, 3) := by decide +kernel
theorem dX4_cost_79 : decode cX4_cost 79 = .ok (.i2l, 1) := by decide +kernel
theorem dX4_cost_80 : decode cX4_cost 80 = .ok (.lreturn, 1) := by decide +kernel
theorem dX4_cost_81 : decode cX4_cost 81 = .ok (.lload 5, 2) := by decide +kernel
theorem dX4_cost_83 : decode cX4_cost 83 = .ok (.aload_n 0, 1) := by decide +kernel
theorem dX4_cost_84 : decode cX4_cost 84 = .ok (.getfield 12, 3) := by decide +kernel
theorem dX4_cost_87 : decode cX4_cost 87 = .ok (.iload 8, 2) := by decide +kernel
theorem dX4_cost_89 : decode cX4_cost 89 = .ok (.aload_n 0, 1) := by decide +kernel
theorem dX4_cost_90 : decode cX4_cost 90 = .ok (.getfield 12, 3) := by decide +kernel
theorem dX4_cost_93 : decode cX4_cost 93 = .ok (.getfield 94, 3) := by decide +kernel
theorem dX4_cost_96 : decode cX4_cost 96 = .ok (.iload 4, 2) := by decide +kernel
theorem dX4_cost_98 : decode cX4_cost 98 = .ok (.ior, 1) := by decide +kernel
theorem dX4_cost_99 : decode cX4_cost 99 = .ok (.invokevirtual 112, 3) := by decide +kernel
theorem dX4_cost_102 : decode cX4_cost 102 = .ok (.i2l, 1) := by decide +kernel
theorem dX4_cost_103 : decode cX4_cost 103 = .ok (.ladd, 1) := by decide +kernel
theorem dX4_cost_104 : decode cX4_cost 104 = .ok (.lstore 5, 2) := by decide +kernel
theorem dX4_cost_106 : decode cX4_cost 106 = .ok (.iload 4, 2) := by decide +kernel
theorem dX4_cost_108 : decode cX4_cost 108 = .ok (.iconst 1, 1) := by decide +kernel
theorem dX4_cost_109 : decode cX4_cost 109 = .ok (.iload 8, 2) := by decide +kernel
theorem dX4_cost_111 : decode cX4_cost 111 = .ok (.ishl, 1) := by decide +kernel
theorem dX4_cost_112 : decode cX4_cost 112 = .ok (.ior, 1) := by decide +kernel
theorem dX4_cost_113 : decode cX4_cost 113 = .ok (.istore 4, 2) := by decide +kernel
theorem dX4_cost_115 : decode cX4_cost 115 = .ok (.iinc 7 1, 3) := by decide +kernel
theorem dX4_cost_118 : decode cX4_cost 118 = .ok (.goto (-85), 3) := by decide +kernel
theorem dX4_cost_121 : decode cX4_cost 121 = .ok (.lload 5, 2) := by decide +kernel
theorem dX4_cost_123 : decode cX4_cost 123 = .ok (.lreturn, 1) := by decide +kernel
def mX4_cost_b73   (V : jMem) : Option (Int64 × jMem) := ((mX4_refuse (-1000000003 : Int32) V).bind (fun (p1 : Int32 × jMem) => (some ((Int32.toInt64 p1.1), p1.2))))
set_option maxHeartbeats 4000000 in
set_option maxRecDepth 20000 in
theorem tX4_cost_b73 {l : Launch} {Z : jZ} {q : Nat → Nat} {V : jMem} {r : Int64} {V' : jMem}    (hm : mX4_cost_b73 V = some (r, V')) : J l Z RX4 "cost" cX4_cost 9 (some .long) 5 0 0 (fun r' w => r' = some (.long r) ∧ w = jw Z q V' dX) 73 [(0, .ref (q 0))] [] (jw Z q V dX) 0 0 := by
  unfold mX4_cost_b73 at hm
  refine j_aload_n dX4_cost_73 rfl rfl ?_
  refine j_ldc dX4_cost_74 rfl wX4_111 ?_
  obtain ⟨p1, ep1, hm⟩ := jb_of hm
  refine o_callV_i kX4_60 dX4_cost_76 rfl (tX4_refuse  ep1) rfl rfl rfl rfl rfl (Nat.le_of_ble_eq_true rfl) (by decide) ?_
  refine j_i2l dX4_cost_79 rfl ?_
  exact j_lreturn dX4_cost_80 rfl ⟨Nat.le_refl _, Nat.le_refl _⟩ (jf_m (fun z => .long z) hm)
def mX4_cost_b33   : Nat → Nat → Int32 → Int64 → Int32 → jMem → Option (Int64 × jMem)
  | 0, _, _, _, _, _ => none
  | n + 1, i3, a4, a5, a7, V => (if (V.1 (39 + 2 * i3) 1) ≤ a7 then (some (a5, V)) else (jg (jin a7 40) (jl (mX0_fieldTold (V.2 (39 + 2 * i3 + 1) (Int32.toNatClampNeg a7)) V) (fun (v3 : Int32) => (if v3 < (0 : Int32) then (mX4_cost_b73 V) else (if (mX4_isIn v3 a4) = (0 : Int32) then ((mX0_priceBy v3 ((V.1 1 5) ||| a4) V).bind (fun (r6 : Int32) => (jl (a4 ||| ((1 : Int32) <<< (v3 &&& (31 : Int32)))) (fun (v7 : Int32) => (mX4_cost_b33 n i3 v7 (a5 + (Int32.toInt64 r6)) (a7 + (1 : Int32)) V))))) else (mX4_cost_b73 V)))))))
set_option maxHeartbeats 4000000 in
set_option maxRecDepth 20000 in
theorem tX4_cost_b33 {l : Launch} {Z : jZ} {q : Nat → Nat}  {r : Int64} {V' : jMem}   (n : Nat) : ∀ (i3 : Nat) (a4 : Int32) (a5 : Int64) (a7 : Int32) (V : jMem), (i3 < 4) → mX4_cost_b33 n i3 a4 a5 a7 V = some (r, V') → J l Z RX4 "cost" cX4_cost 9 (some .long) 5 0 0 (fun r' w => r' = some (.long r) ∧ w = jw Z q V' dX) 33 [(0, .ref (q 0)), (3, .ref (q (39 + 2 * i3))), (4, .int a4), (5, .long a5), (7, .int a7)] [] (jw Z q V dX) 0 0 := by
  induction n with
  | zero => intro i3 a4 a5 a7 V hi3 hm; cases hm
  | succ n ih =>
    intro i3 a4 a5 a7 V hi3 hm
    rw [mX4_cost_b33] at hm
    refine j_iload dX4_cost_33 rfl rfl ?_
    refine j_aload_n dX4_cost_35 rfl rfl ?_
    refine m_geti (k := 1) fX4_258 dX4_cost_36 rfl (jsheet_o hi3) rfl ?_
    refine j_icmp_ge (tgt := 121) dX4_cost_39 rfl (by decide) (fun c1 => ?_) (fun c1 => ?_)
    · have hm := jif_pos c1 hm
      refine j_lload dX4_cost_121 rfl rfl ?_
      exact j_lreturn dX4_cost_123 rfl ⟨Nat.le_refl _, Nat.le_refl _⟩ (jf_m (fun z => .long z) hm)
    · have hm := jif_neg c1 hm
      refine j_aload_n dX4_cost_42 rfl rfl ?_
      refine m_getr (k := 0) (r := 1) fX4_12 dX4_cost_43 rfl rfl rfl ?_
      refine j_aload_n dX4_cost_46 rfl rfl ?_
      refine m_getr (k := 2) (r := (39 + 2 * i3 + 1)) fX4_277 dX4_cost_47 rfl (jsheet_o hi3) rfl ?_
      refine j_iload dX4_cost_50 rfl rfl ?_
      obtain ⟨g2, hm⟩ := jg_of hm
      refine o_lald (k := (Int32.toNatClampNeg a7)) rfl dX4_cost_52 rfl (jsheet_a hi3) (jin_vp g2) ?_
      refine o_callV_i kX4_287 dX4_cost_53 rfl (tX0_fieldTold  rfl) rfl rfl rfl rfl rfl (Nat.le_of_ble_eq_true rfl) (by decide) ?_
      obtain ⟨v3, ev3⟩ : ∃ y, y = ((mX0_fieldTold (V.2 (39 + 2 * i3 + 1) (Int32.toNatClampNeg a7)) V) : Int32) := ⟨_, rfl⟩
      have hm := jl_of hm ev3
      rw [← ev3]
      refine j_istore (L' := [(8, _), (0, _), (3, _), (4, _), (5, _), (7, _)]) dX4_cost_56 rfl (by decide) rfl ?_
      refine j_iload dX4_cost_58 rfl rfl ?_
      refine j_if_lt (tgt := 73) dX4_cost_60 rfl (by decide) (fun c4 => ?_) (fun c4 => ?_)
      · have hm := jif_pos c4 hm
        refine j_sub (L' := [(0, _)]) [1] rfl ?_
        exact tX4_cost_b73    hm
      · have hm := jif_neg c4 hm
        refine j_iload dX4_cost_63 rfl rfl ?_
        refine j_iload dX4_cost_65 rfl rfl ?_
        refine o_callS_i kX4_135 dX4_cost_67 rfl (tX4_isIn  rfl) rfl rfl (Nat.le_of_ble_eq_true rfl) (by decide) ?_
        refine j_if_eq (tgt := 81) dX4_cost_70 rfl (by decide) (fun c5 => ?_) (fun c5 => ?_)
        · have hm := jif_pos c5 hm
          refine j_lload dX4_cost_81 rfl rfl ?_
          refine j_aload_n dX4_cost_83 rfl rfl ?_
          refine m_getr (k := 0) (r := 1) fX4_12 dX4_cost_84 rfl rfl rfl ?_
          refine j_iload dX4_cost_87 rfl rfl ?_
          refine j_aload_n dX4_cost_89 rfl rfl ?_
          refine m_getr (k := 0) (r := 1) fX4_12 dX4_cost_90 rfl rfl rfl ?_
          refine m_geti (k := 5) fX4_94 dX4_cost_93 rfl rfl rfl ?_
          refine j_iload dX4_cost_96 rfl rfl ?_
          refine j_ior dX4_cost_98 rfl ?_
          obtain ⟨r6, er6, hm⟩ := jb_of hm
          refine o_callV_i kX4_112 dX4_cost_99 rfl (tX0_priceBy  er6) rfl rfl rfl rfl rfl (Nat.le_of_ble_eq_true rfl) (by decide) ?_
          refine j_i2l dX4_cost_102 rfl ?_
          refine j_ladd dX4_cost_103 rfl ?_
          refine j_lstore (L' := [(5, _), (8, _), (0, _), (3, _), (4, _), (7, _)]) dX4_cost_104 rfl (by decide) rfl ?_
          refine j_iload dX4_cost_106 rfl rfl ?_
          refine j_iconst (v := 1) dX4_cost_108 rfl (by decide) ?_
          refine j_iload dX4_cost_109 rfl rfl ?_
          refine j_ishl dX4_cost_111 rfl ?_
          refine j_ior dX4_cost_112 rfl ?_
          obtain ⟨v7, ev7⟩ : ∃ y, y = ((a4 ||| ((1 : Int32) <<< (v3 &&& (31 : Int32)))) : Int32) := ⟨_, rfl⟩
          have hm := jl_of hm ev7
          rw [← ev7]
          refine j_istore (L' := [(4, _), (5, _), (8, _), (0, _), (3, _), (7, _)]) dX4_cost_113 rfl (by decide) rfl ?_
          refine j_iinc (v := (a7 + (1 : Int32))) (L' := [(7, _), (4, _), (5, _), (8, _), (0, _), (3, _)]) dX4_cost_115 rfl rfl rfl (by decide) rfl ?_
          refine j_goto (tgt := 33) dX4_cost_118 (by decide) ?_
          refine j_sub (L' := [(0, _), (3, _), (4, _), (5, _), (7, _)]) [4, 5, 1, 2, 0] rfl ?_
          exact ih _ _ _ _ _ hi3 hm
        · have hm := jif_neg c5 hm
          refine j_sub (L' := [(0, _)]) [1] rfl ?_
          exact tX4_cost_b73    hm
def mX4_cost (a1 : Int32) (V : jMem) : Option (Int64 × jMem) := ((mX4_sheetFault a1 V).bind (fun (r1 : Int32) => (if r1 = (0 : Int32) then (jg (jin a1 4) (mX4_cost_b33 2000 (Int32.toNatClampNeg a1) (0 : Int32) (0 : Int64) (0 : Int32) V)) else ((mX4_refuse r1 V).bind (fun (p4 : Int32 × jMem) => (some ((Int32.toInt64 p4.1), p4.2)))))))
set_option maxHeartbeats 4000000 in
set_option maxRecDepth 20000 in
theorem tX4_cost {l : Launch} {Z : jZ} {q : Nat → Nat} {a1 : Int32} {V : jMem} {r : Int64} {V' : jMem}  (hm : mX4_cost a1 V = some (r, V')) : CtD l Z yX4_cost cX4_cost 9 (some .long) 5 q dX [.ref (q 0), .int a1] V (some (.long r)) V' := by
  refine Ct_of (L := [(0, .ref (q 0)), (1, .int a1)]) (own := RX4) (nm := "cost") rfl rfl (by decide +kernel) rfl (Nat.le_of_ble_eq_true rfl) ?_
  unfold mX4_cost at hm
  refine j_aload_n dX4_cost_0 rfl rfl ?_
  refine j_iload_n dX4_cost_1 rfl rfl ?_
  obtain ⟨r1, er1, hm⟩ := jb_of hm
  refine o_callV_i kX4_259 dX4_cost_2 rfl (tX4_sheetFault  er1) rfl rfl rfl rfl rfl (Nat.le_of_ble_eq_true rfl) (by decide) ?_
  refine j_istore_n (i := 2) (L' := [(2, _), (0, _), (1, _)]) dX4_cost_5 rfl rfl (by decide) rfl ?_
  refine j_iload_n dX4_cost_6 rfl rfl ?_
  refine j_if_eq (tgt := 17) dX4_cost_7 rfl (by decide) (fun c2 => ?_) (fun c2 => ?_)
  · have hm := jif_pos c2 hm
    refine j_aload_n dX4_cost_17 rfl rfl ?_
    refine m_getr (k := 5) (r := 38) fX4_38 dX4_cost_18 rfl rfl rfl ?_
    refine j_iload_n dX4_cost_21 rfl rfl ?_
    obtain ⟨g3, hm⟩ := jg_of hm
    refine o_aald (k := (Int32.toNatClampNeg a1)) rfl dX4_cost_22 rfl rfl (jin_vp g3) ?_
    refine j_astore_n (i := 3) (L' := [(3, _), (2, _), (0, _), (1, _)]) dX4_cost_23 rfl rfl (by decide) rfl ?_
    refine j_iconst (v := 0) dX4_cost_24 rfl (by decide) ?_
    refine j_istore (L' := [(4, _), (3, _), (2, _), (0, _), (1, _)]) dX4_cost_25 rfl (by decide) rfl ?_
    refine j_lconst (v := 0) dX4_cost_27 rfl (by decide) ?_
    refine j_lstore (L' := [(5, _), (4, _), (3, _), (2, _), (0, _), (1, _)]) dX4_cost_28 rfl (by decide) rfl ?_
    refine j_iconst (v := 0) dX4_cost_30 rfl (by decide) ?_
    refine j_istore (L' := [(7, _), (5, _), (4, _), (3, _), (2, _), (0, _), (1, _)]) dX4_cost_31 rfl (by decide) rfl ?_
    refine j_sub (L' := [(0, _), (3, _), (4, _), (5, _), (7, _)]) [5, 3, 2, 1, 0] rfl ?_
    exact tX4_cost_b33   _ _ _ _ _ _ (jin_lt g3) hm
  · have hm := jif_neg c2 hm
    refine j_aload_n dX4_cost_10 rfl rfl ?_
    refine j_iload_n dX4_cost_11 rfl rfl ?_
    obtain ⟨p4, ep4, hm⟩ := jb_of hm
    refine o_callV_i kX4_60 dX4_cost_12 rfl (tX4_refuse  ep4) rfl rfl rfl rfl rfl (Nat.le_of_ble_eq_true rfl) (by decide) ?_
    refine j_i2l dX4_cost_15 rfl ?_
    exact j_lreturn dX4_cost_16 rfl ⟨Nat.le_refl _, Nat.le_refl _⟩ (jf_m (fun z => .long z) hm)
theorem dX4_offers_0 : decode cX4_offers 0 = .ok (.aload_n 0, 1) := by decide +kernel
theorem dX4_offers_1 : decode cX4_offers 1 = .ok (.iload_n 1, 1) := by decide +kernel
theorem dX4_offers_2 : decode cX4_offers 2 = .ok (.invokevirtual 259, 3) := by decide +kernel
theorem dX4_offers_5 : decode cX4_offers 5 = .ok (.istore_n 2, 1) := by decide +kernel
theorem dX4_offers_6 : decode cX4_offers 6 = .ok (.iload_n 2, 1) := by decide +kernel
theorem dX4_offers_7 : decode cX4_offers 7 = .ok (.ifCond .eq 9, 3) := by decide +kernel
theorem dX4_offers_10 : decode cX4_offers 10 = .ok (.aload_n 0, 1) := by decide +kernel
theorem dX4_offers_11 : decode cX4_offers 11 = .ok (.iload_n 2, 1) := by decide +kernel
theorem dX4_offers_12 : decode cX4_offers 12 = .ok (.invokevirtual 60, 3) := by decide +kernel
theorem dX4_offers_15 : decode cX4_offers 15 = .ok (.ireturn, 1) := by decide +kernel
theorem dX4_offers_16 : decode cX4_offers 16 = .ok (.aload_n 0, 1) := by decide +kernel
theorem dX4_offers_17 : decode cX4_offers 17 = .ok (.getfield 38, 3) := by decide +kernel
theorem dX4_offers_20 : decode cX4_offers 20 = .ok (.iload_n 1, 1) := by decide +kernel
theorem dX4_offers_21 : decode cX4_offers 21 = .ok (.aaload, 1) := by decide +kernel
theorem dX4_offers_22 : decode cX4_offers 22 = .ok (.astore_n 3, 1) := by decide +kernel
theorem dX4_offers_23 : decode cX4_offers 23 = .ok (.iconst 0, 1) := by decide +kernel
theorem dX4_offers_24 : decode cX4_offers 24 = .ok (.istore 4, 2) := by decide +kernel
theorem dX4_offers_26 : decode cX4_offers 26 = .ok (.iconst 0, 1) := by decide +kernel
theorem dX4_offers_27 : decode cX4_offers 27 = .ok (.istore 5, 2) := by decide +kernel
theorem dX4_offers_29 : decode cX4_offers 29 = .ok (.iload 5, 2) := by decide +kernel
theorem dX4_offers_31 : decode cX4_offers 31 = .ok (.iconst 1, 1) := by decide +kernel
theorem dX4_offers_32 : decode cX4_offers 32 = .ok (.iadd, 1) := by decide +kernel
theorem dX4_offers_33 : decode cX4_offers 33 = .ok (.aload_n 3, 1) := by decide +kernel
theorem dX4_offers_34 : decode cX4_offers 34 = .ok (.getfield 258, 3) := by decide +kernel
theorem dX4_offers_37 : decode cX4_offers 37 = .ok (.if_icmp .ge 99, 3) := by decide +kernel
theorem dX4_offers_40 : decode cX4_offers 40 = .ok (.aload_n 0, 1) := by decide +kernel
theorem dX4_offers_41 : decode cX4_offers 41 = .ok (.getfield 12, 3) := by decide +kernel
theorem dX4_offers_44 : decode cX4_offers 44 = .ok (.aload_n 3, 1) := by decide +kernel
theorem dX4_offers_45 : decode cX4_offers 45 = .ok (.getfield 277, 3) := by decide +kernel
theorem dX4_offers_48 : decode cX4_offers 48 = .ok (.iload 5, 2) := by decide +kernel
theorem dX4_offers_50 : decode cX4_offers 50 = .ok (.laload, 1) := by decide +kernel
theorem dX4_offers_51 : decode cX4_offers 51 = .ok (.invokevirtual 287, 3) := by decide +kernel
theorem dX4_offers_54 : decode cX4_offers 54 = .ok (.istore 6, 2) := by decide +kernel
theorem dX4_offers_56 : decode cX4_offers 56 = .ok (.aload_n 3, 1) := by decide +kernel
theorem dX4_offers_57 : decode cX4_offers 57 = .ok (.getfield 277, 3) := by decide +kernel
theorem dX4_offers_60 : decode cX4_offers 60 = .ok (.iload 5, 2) := by decide +kernel
theorem dX4_offers_62 : decode cX4_offers 62 = .ok (.iconst 1, 1) := by decide +kernel
theorem dX4_offers_63 : decode cX4_offers 63 = .ok (.iadd, 1) := by decide +kernel
theorem dX4_offers_64 : decode cX4_offers 64 = .ok (.laload, 1) := by decide +kernel
theorem dX4_offers_65 : decode cX4_offers 65 = .ok (.lstore 7, 2) := by decide +kernel
theorem dX4_offers_67 : decode cX4_offers 67 = .ok (.iload 6, 2) := by decide +kernel
theorem dX4_offers_69 : decode cX4_offers 69 = .ok (.ifCond .lt 35, 3) := by decide +kernel
theorem dX4_offers_72 : decode cX4_offers 72 = .ok (.lload 7, 2) := by decide +kernel
theorem dX4_offers_74 : decode cX4_offers 74 = .ok (.lconst 0, 1) := by decide +kernel
theorem dX4_offers_75 : decode cX4_offers 75 = .ok (.lcmp, 1) := by decide +kernel
theorem dX4_offers_76 : decode cX4_offers 76 = .ok (.ifCond .lt 28, 3) := by decide +kernel
theorem dX4_offers_79 : decode cX4_offers 79 = .ok (.lload 7, 2) := by decide +kernel
theorem dX4_offers_81 : decode cX4_offers 81 = .ok (.ldc2_w 291, 3) := by decide +kernel
theorem dX4_offers_84 : decode cX4_offers 84 = .ok (.lcmp, 1) := by decide +kernel
theorem dX4_offers_85 : decode cX4_offers 85 = .ok (.ifCond .gt 19, 3) := by decide +kernel
theorem dX4_offers_88 : decode cX4_offers 88 = .ok (.aload_n 0, 1) := by decide +kernel
theorem dX4_offers_89 : decode cX4_offers 89 = .ok (.getfield 12, 3) := by decide +kernel
theorem dX4_offers_92 : decode cX4_offers 92 = .ok (.iload 6, 2) := by decide +kernel
theorem dX4_offers_94 : decode cX4_offers 94 = .ok (.invokevirtual 122, 3) := by decide +kernel
theorem dX4_offers_97 : decode cX4_offers 97 = .ok (.ifCond .eq 7, 3) := by decide +kernel
theorem dX4_offers_100 : decode cX4_offers 100 = .ok (.iconst 1, 1) := by decide +kernel
theorem dX4_offers_101 : decode cX4_offers 101 = .ok (.goto 4, 3) := by decide +kernel
theorem dX4_offers_104 : decode cX4_offers 104 = .ok (.iconst 0, 1) := by decide +kernel
theorem dX4_offers_105 : decode cX4_offers 105 = .ok (.istore 9, 2) := by decide +kernel
theorem dX4_offers_107 : decode cX4_offers 107 = .ok (.iload 9, 2) := by decide +kernel
theorem dX4_offers_109 : decode cX4_offers 109 = .ok (.ifCond .eq 21, 3) := by decide +kernel
theorem dX4_offers_112 : decode cX4_offers 112 = .ok (.aload_n 0, 1) := by decide +kernel
theorem dX4_offers_113 : decode cX4_offers 113 = .ok (.getfield 12, 3) := by decide +kernel
theorem dX4_offers_116 : decode cX4_offers 116 = .ok (.iload 6, 2) := by decide +kernel
theorem dX4_offers_118 : decode cX4_offers 118 = .ok (.lload 7, 2) := by decide +kernel
theorem dX4_offers_120 : decode cX4_offers 120 = .ok (.l2i, 1) := by decide +kernel
theorem dX4_offers_121 : decode cX4_offers 121 = .ok (.invokevirtual 126, 3) := by decide +kernel
theorem dX4_offers_124 : decode cX4_offers 124 = .ok (.ifCond .eq 6, 3) := by decide +kernel
theorem dX4_offers_127 : decode cX4_offers 127 = .ok (.iinc 4 1, 3) := by decide +kernel
theorem dX4_offers_130 : decode cX4_offers 130 = .ok (.iinc 5 2, 3) := by decide +kernel
theorem dX4_offers_133 : decode cX4_offers 133 = .ok (.goto (-104), 3) := by decide +kernel
theorem dX4_offers_136 : decode cX4_offers 136 = .ok (.iload 4, 2) := by decide +kernel
theorem dX4_offers_138 : decode cX4_offers 138 = .ok (.ireturn, 1) := by decide +kernel
def mX4_offers_b130  (k29 : Nat → Int32 → Int32 → jMem → Option (Int32 × jMem)) (i3 : Nat) (a4 : Int32) (a5 : Int32) (V : jMem) : Option (Int32 × jMem) := (k29 i3 a4 (a5 + (2 : Int32)) V)
set_option maxHeartbeats 4000000 in
set_option maxRecDepth 20000 in
theorem tX4_offers_b130 {l : Launch} {Z : jZ} {q : Nat → Nat} {k29 : Nat → Int32 → Int32 → jMem → Option (Int32 × jMem)} {i3 : Nat} {a4 : Int32} {a5 : Int32} {V : jMem} {r : Int32} {V' : jMem}  (hi3 : i3 < 4) (hk29 : ∀ (i3 : Nat) (a4 : Int32) (a5 : Int32) (V : jMem), (i3 < 4) → k29 i3 a4 a5 V = some (r, V') → J l Z RX4 "offers" cX4_offers 10 (some .int) 7 0 0 (fun r' w => r' = some (.int r) ∧ w = jw Z q V' dX) 29 [(0, .ref (q 0)), (3, .ref (q (39 + 2 * i3))), (4, .int a4), (5, .int a5)] [] (jw Z q V dX) 0 0) (hm : mX4_offers_b130 k29 i3 a4 a5 V = some (r, V')) : J l Z RX4 "offers" cX4_offers 10 (some .int) 7 0 0 (fun r' w => r' = some (.int r) ∧ w = jw Z q V' dX) 130 [(0, .ref (q 0)), (3, .ref (q (39 + 2 * i3))), (4, .int a4), (5, .int a5)] [] (jw Z q V dX) 0 0 := by
  unfold mX4_offers_b130 at hm
  refine j_iinc (v := (a5 + (2 : Int32))) (L' := [(5, _), (0, _), (3, _), (4, _)]) dX4_offers_130 rfl rfl rfl (by decide) rfl ?_
  refine j_goto (tgt := 29) dX4_offers_133 (by decide) ?_
  refine j_sub (L' := [(0, _), (3, _), (4, _), (5, _)]) [1, 2, 3, 0] rfl ?_
  exact hk29 _ _ _ _ hi3 hm
def mX4_offers_b105  (k29 : Nat → Int32 → Int32 → jMem → Option (Int32 × jMem)) (i3 : Nat) (a4 : Int32) (a5 : Int32) (a6 : Int32) (a7 : Int64) (s0 : Int32) (V : jMem) : Option (Int32 × jMem) := (if s0 = (0 : Int32) then (mX4_offers_b130 k29 i3 a4 a5 V) else ((mX0_bid a6 (Int64.toInt32 a7) V).bind (fun (p2 : Int32 × jMem) => (if p2.1 = (0 : Int32) then (mX4_offers_b130 k29 i3 a4 a5 p2.2) else (mX4_offers_b130 k29 i3 (a4 + (1 : Int32)) a5 p2.2)))))
set_option maxHeartbeats 4000000 in
set_option maxRecDepth 20000 in
theorem tX4_offers_b105 {l : Launch} {Z : jZ} {q : Nat → Nat} {k29 : Nat → Int32 → Int32 → jMem → Option (Int32 × jMem)} {i3 : Nat} {a4 : Int32} {a5 : Int32} {a6 : Int32} {a7 : Int64} {s0 : Int32} {V : jMem} {r : Int32} {V' : jMem}  (hi3 : i3 < 4) (hk29 : ∀ (i3 : Nat) (a4 : Int32) (a5 : Int32) (V : jMem), (i3 < 4) → k29 i3 a4 a5 V = some (r, V') → J l Z RX4 "offers" cX4_offers 10 (some .int) 7 0 0 (fun r' w => r' = some (.int r) ∧ w = jw Z q V' dX) 29 [(0, .ref (q 0)), (3, .ref (q (39 + 2 * i3))), (4, .int a4), (5, .int a5)] [] (jw Z q V dX) 0 0) (hm : mX4_offers_b105 k29 i3 a4 a5 a6 a7 s0 V = some (r, V')) : J l Z RX4 "offers" cX4_offers 10 (some .int) 7 0 0 (fun r' w => r' = some (.int r) ∧ w = jw Z q V' dX) 105 [(0, .ref (q 0)), (3, .ref (q (39 + 2 * i3))), (4, .int a4), (5, .int a5), (6, .int a6), (7, .long a7)] [.int s0] (jw Z q V dX) 0 0 := by
  unfold mX4_offers_b105 at hm
  refine j_istore (L' := [(9, _), (0, _), (3, _), (4, _), (5, _), (6, _), (7, _)]) dX4_offers_105 rfl (by decide) rfl ?_
  refine j_iload dX4_offers_107 rfl rfl ?_
  refine j_if_eq (tgt := 130) dX4_offers_109 rfl (by decide) (fun c1 => ?_) (fun c1 => ?_)
  · have hm := jif_pos c1 hm
    refine j_sub (L' := [(0, _), (3, _), (4, _), (5, _)]) [1, 2, 3, 4] rfl ?_
    exact tX4_offers_b130  hi3 hk29 hm
  · have hm := jif_neg c1 hm
    refine j_aload_n dX4_offers_112 rfl rfl ?_
    refine m_getr (k := 0) (r := 1) fX4_12 dX4_offers_113 rfl rfl rfl ?_
    refine j_iload dX4_offers_116 rfl rfl ?_
    refine j_lload dX4_offers_118 rfl rfl ?_
    refine j_l2i dX4_offers_120 rfl ?_
    obtain ⟨p2, ep2, hm⟩ := jb_of hm
    refine o_callV_i kX4_126 dX4_offers_121 rfl (tX0_bid  ep2) rfl rfl rfl rfl rfl (Nat.le_of_ble_eq_true rfl) (by decide) ?_
    refine j_if_eq (tgt := 130) dX4_offers_124 rfl (by decide) (fun c3 => ?_) (fun c3 => ?_)
    · have hm := jif_pos c3 hm
      refine j_sub (L' := [(0, _), (3, _), (4, _), (5, _)]) [1, 2, 3, 4] rfl ?_
      exact tX4_offers_b130  hi3 hk29 hm
    · have hm := jif_neg c3 hm
      refine j_iinc (v := (a4 + (1 : Int32))) (L' := [(4, _), (9, _), (0, _), (3, _), (5, _), (6, _), (7, _)]) dX4_offers_127 rfl rfl rfl (by decide) rfl ?_
      refine j_sub (L' := [(0, _), (3, _), (4, _), (5, _)]) [2, 3, 0, 4] rfl ?_
      exact tX4_offers_b130  hi3 hk29 hm
def mX4_offers_b104  (k29 : Nat → Int32 → Int32 → jMem → Option (Int32 × jMem)) (i3 : Nat) (a4 : Int32) (a5 : Int32) (a6 : Int32) (a7 : Int64) (V : jMem) : Option (Int32 × jMem) := (mX4_offers_b105 k29 i3 a4 a5 a6 a7 (0 : Int32) V)
set_option maxHeartbeats 4000000 in
set_option maxRecDepth 20000 in
theorem tX4_offers_b104 {l : Launch} {Z : jZ} {q : Nat → Nat} {k29 : Nat → Int32 → Int32 → jMem → Option (Int32 × jMem)} {i3 : Nat} {a4 : Int32} {a5 : Int32} {a6 : Int32} {a7 : Int64} {V : jMem} {r : Int32} {V' : jMem}  (hi3 : i3 < 4) (hk29 : ∀ (i3 : Nat) (a4 : Int32) (a5 : Int32) (V : jMem), (i3 < 4) → k29 i3 a4 a5 V = some (r, V') → J l Z RX4 "offers" cX4_offers 10 (some .int) 7 0 0 (fun r' w => r' = some (.int r) ∧ w = jw Z q V' dX) 29 [(0, .ref (q 0)), (3, .ref (q (39 + 2 * i3))), (4, .int a4), (5, .int a5)] [] (jw Z q V dX) 0 0) (hm : mX4_offers_b104 k29 i3 a4 a5 a6 a7 V = some (r, V')) : J l Z RX4 "offers" cX4_offers 10 (some .int) 7 0 0 (fun r' w => r' = some (.int r) ∧ w = jw Z q V' dX) 104 [(0, .ref (q 0)), (3, .ref (q (39 + 2 * i3))), (4, .int a4), (5, .int a5), (6, .int a6), (7, .long a7)] [] (jw Z q V dX) 0 0 := by
  unfold mX4_offers_b104 at hm
  refine j_iconst (v := 0) dX4_offers_104 rfl (by decide) ?_
  exact tX4_offers_b105  hi3 hk29 hm
def mX4_offers_b29   : Nat → Nat → Int32 → Int32 → jMem → Option (Int32 × jMem)
  | 0, _, _, _, _ => none
  | n + 1, i3, a4, a5, V => (if (V.1 (39 + 2 * i3) 1) ≤ (a5 + (1 : Int32)) then (some (a4, V)) else (jg (jin a5 40) (jl (mX0_fieldTold (V.2 (39 + 2 * i3 + 1) (Int32.toNatClampNeg a5)) V) (fun (v3 : Int32) => (jg (jin (a5 + (1 : Int32)) 40) (jl (V.2 (39 + 2 * i3 + 1) (Int32.toNatClampNeg (a5 + (1 : Int32)))) (fun (v5 : Int64) => (if v3 < (0 : Int32) then (mX4_offers_b104 (mX4_offers_b29 n) i3 a4 a5 v3 v5 V) else (if (lg_cmp v5 (0 : Int64)) < (0 : Int32) then (mX4_offers_b104 (mX4_offers_b29 n) i3 a4 a5 v3 v5 V) else (if (0 : Int32) < (lg_cmp v5 (99999 : Int64)) then (mX4_offers_b104 (mX4_offers_b29 n) i3 a4 a5 v3 v5 V) else (if (mX0_isFree v3 V) = (0 : Int32) then (mX4_offers_b104 (mX4_offers_b29 n) i3 a4 a5 v3 v5 V) else (mX4_offers_b105 (mX4_offers_b29 n) i3 a4 a5 v3 v5 (1 : Int32) V))))))))))))
set_option maxHeartbeats 4000000 in
set_option maxRecDepth 20000 in
theorem tX4_offers_b29 {l : Launch} {Z : jZ} {q : Nat → Nat}  {r : Int32} {V' : jMem}   (n : Nat) : ∀ (i3 : Nat) (a4 : Int32) (a5 : Int32) (V : jMem), (i3 < 4) → mX4_offers_b29 n i3 a4 a5 V = some (r, V') → J l Z RX4 "offers" cX4_offers 10 (some .int) 7 0 0 (fun r' w => r' = some (.int r) ∧ w = jw Z q V' dX) 29 [(0, .ref (q 0)), (3, .ref (q (39 + 2 * i3))), (4, .int a4), (5, .int a5)] [] (jw Z q V dX) 0 0 := by
  induction n with
  | zero => intro i3 a4 a5 V hi3 hm; cases hm
  | succ n ih =>
    intro i3 a4 a5 V hi3 hm
    rw [mX4_offers_b29] at hm
    refine j_iload dX4_offers_29 rfl rfl ?_
    refine j_iconst (v := 1) dX4_offers_31 rfl (by decide) ?_
    refine j_iadd dX4_offers_32 rfl ?_
    refine j_aload_n dX4_offers_33 rfl rfl ?_
    refine m_geti (k := 1) fX4_258 dX4_offers_34 rfl (jsheet_o hi3) rfl ?_
    refine j_icmp_ge (tgt := 136) dX4_offers_37 rfl (by decide) (fun c1 => ?_) (fun c1 => ?_)
    · have hm := jif_pos c1 hm
      refine j_iload dX4_offers_136 rfl rfl ?_
      exact j_ireturn dX4_offers_138 rfl rfl ⟨Nat.le_refl _, Nat.le_refl _⟩ (jf_m (fun z => .int z) hm)
    · have hm := jif_neg c1 hm
      refine j_aload_n dX4_offers_40 rfl rfl ?_
      refine m_getr (k := 0) (r := 1) fX4_12 dX4_offers_41 rfl rfl rfl ?_
      refine j_aload_n dX4_offers_44 rfl rfl ?_
      refine m_getr (k := 2) (r := (39 + 2 * i3 + 1)) fX4_277 dX4_offers_45 rfl (jsheet_o hi3) rfl ?_
      refine j_iload dX4_offers_48 rfl rfl ?_
      obtain ⟨g2, hm⟩ := jg_of hm
      refine o_lald (k := (Int32.toNatClampNeg a5)) rfl dX4_offers_50 rfl (jsheet_a hi3) (jin_vp g2) ?_
      refine o_callV_i kX4_287 dX4_offers_51 rfl (tX0_fieldTold  rfl) rfl rfl rfl rfl rfl (Nat.le_of_ble_eq_true rfl) (by decide) ?_
      obtain ⟨v3, ev3⟩ : ∃ y, y = ((mX0_fieldTold (V.2 (39 + 2 * i3 + 1) (Int32.toNatClampNeg a5)) V) : Int32) := ⟨_, rfl⟩
      have hm := jl_of hm ev3
      rw [← ev3]
      refine j_istore (L' := [(6, _), (0, _), (3, _), (4, _), (5, _)]) dX4_offers_54 rfl (by decide) rfl ?_
      refine j_aload_n dX4_offers_56 rfl rfl ?_
      refine m_getr (k := 2) (r := (39 + 2 * i3 + 1)) fX4_277 dX4_offers_57 rfl (jsheet_o hi3) rfl ?_
      refine j_iload dX4_offers_60 rfl rfl ?_
      refine j_iconst (v := 1) dX4_offers_62 rfl (by decide) ?_
      refine j_iadd dX4_offers_63 rfl ?_
      obtain ⟨g4, hm⟩ := jg_of hm
      refine o_lald (k := (Int32.toNatClampNeg (a5 + (1 : Int32)))) rfl dX4_offers_64 rfl (jsheet_a hi3) (jin_vp g4) ?_
      obtain ⟨v5, ev5⟩ : ∃ y, y = ((V.2 (39 + 2 * i3 + 1) (Int32.toNatClampNeg (a5 + (1 : Int32)))) : Int64) := ⟨_, rfl⟩
      have hm := jl_of hm ev5
      rw [← ev5]
      refine j_lstore (L' := [(7, _), (6, _), (0, _), (3, _), (4, _), (5, _)]) dX4_offers_65 rfl (by decide) rfl ?_
      refine j_iload dX4_offers_67 rfl rfl ?_
      refine j_if_lt (tgt := 104) dX4_offers_69 rfl (by decide) (fun c6 => ?_) (fun c6 => ?_)
      · have hm := jif_pos c6 hm
        refine j_sub (L' := [(0, _), (3, _), (4, _), (5, _), (6, _), (7, _)]) [2, 3, 4, 5, 1, 0] rfl ?_
        exact tX4_offers_b104  hi3 ih hm
      · have hm := jif_neg c6 hm
        refine j_lload dX4_offers_72 rfl rfl ?_
        refine j_lconst (v := 0) dX4_offers_74 rfl (by decide) ?_
        refine j_lcmp dX4_offers_75 rfl ?_
        refine j_if_lt (tgt := 104) dX4_offers_76 rfl (by decide) (fun c7 => ?_) (fun c7 => ?_)
        · have hm := jif_pos c7 hm
          refine j_sub (L' := [(0, _), (3, _), (4, _), (5, _), (6, _), (7, _)]) [2, 3, 4, 5, 1, 0] rfl ?_
          exact tX4_offers_b104  hi3 ih hm
        · have hm := jif_neg c7 hm
          refine j_lload dX4_offers_79 rfl rfl ?_
          refine j_ldc2 dX4_offers_81 rfl wX4_291 ?_
          refine j_lcmp dX4_offers_84 rfl ?_
          refine j_if_gt (tgt := 104) dX4_offers_85 rfl (by decide) (fun c8 => ?_) (fun c8 => ?_)
          · have hm := jif_pos c8 hm
            refine j_sub (L' := [(0, _), (3, _), (4, _), (5, _), (6, _), (7, _)]) [2, 3, 4, 5, 1, 0] rfl ?_
            exact tX4_offers_b104  hi3 ih hm
          · have hm := jif_neg c8 hm
            refine j_aload_n dX4_offers_88 rfl rfl ?_
            refine m_getr (k := 0) (r := 1) fX4_12 dX4_offers_89 rfl rfl rfl ?_
            refine j_iload dX4_offers_92 rfl rfl ?_
            refine o_callV_i kX4_122 dX4_offers_94 rfl (tX0_isFree  rfl) rfl rfl rfl rfl rfl (Nat.le_of_ble_eq_true rfl) (by decide) ?_
            refine j_if_eq (tgt := 104) dX4_offers_97 rfl (by decide) (fun c9 => ?_) (fun c9 => ?_)
            · have hm := jif_pos c9 hm
              refine j_sub (L' := [(0, _), (3, _), (4, _), (5, _), (6, _), (7, _)]) [2, 3, 4, 5, 1, 0] rfl ?_
              exact tX4_offers_b104  hi3 ih hm
            · have hm := jif_neg c9 hm
              refine j_iconst (v := 1) dX4_offers_100 rfl (by decide) ?_
              refine j_goto (tgt := 105) dX4_offers_101 (by decide) ?_
              refine j_sub (L' := [(0, _), (3, _), (4, _), (5, _), (6, _), (7, _)]) [2, 3, 4, 5, 1, 0] rfl ?_
              exact tX4_offers_b105  hi3 ih hm
def mX4_offers (a1 : Int32) (V : jMem) : Option (Int32 × jMem) := ((mX4_sheetFault a1 V).bind (fun (r1 : Int32) => (if r1 = (0 : Int32) then (jg (jin a1 4) (mX4_offers_b29 2000 (Int32.toNatClampNeg a1) (0 : Int32) (0 : Int32) V)) else ((mX4_refuse r1 V).bind (fun (p4 : Int32 × jMem) => (some (p4.1, p4.2)))))))
set_option maxHeartbeats 4000000 in
set_option maxRecDepth 20000 in
theorem tX4_offers {l : Launch} {Z : jZ} {q : Nat → Nat} {a1 : Int32} {V : jMem} {r : Int32} {V' : jMem}  (hm : mX4_offers a1 V = some (r, V')) : CtD l Z yX4_offers cX4_offers 10 (some .int) 7 q dX [.ref (q 0), .int a1] V (some (.int r)) V' := by
  refine Ct_of (L := [(0, .ref (q 0)), (1, .int a1)]) (own := RX4) (nm := "offers") rfl rfl (by decide +kernel) rfl (Nat.le_of_ble_eq_true rfl) ?_
  unfold mX4_offers at hm
  refine j_aload_n dX4_offers_0 rfl rfl ?_
  refine j_iload_n dX4_offers_1 rfl rfl ?_
  obtain ⟨r1, er1, hm⟩ := jb_of hm
  refine o_callV_i kX4_259 dX4_offers_2 rfl (tX4_sheetFault  er1) rfl rfl rfl rfl rfl (Nat.le_of_ble_eq_true rfl) (by decide) ?_
  refine j_istore_n (i := 2) (L' := [(2, _), (0, _), (1, _)]) dX4_offers_5 rfl rfl (by decide) rfl ?_
  refine j_iload_n dX4_offers_6 rfl rfl ?_
  refine j_if_eq (tgt := 16) dX4_offers_7 rfl (by decide) (fun c2 => ?_) (fun c2 => ?_)
  · have hm := jif_pos c2 hm
    refine j_aload_n dX4_offers_16 rfl rfl ?_
    refine m_getr (k := 5) (r := 38) fX4_38 dX4_offers_17 rfl rfl rfl ?_
    refine j_iload_n dX4_offers_20 rfl rfl ?_
    obtain ⟨g3, hm⟩ := jg_of hm
    refine o_aald (k := (Int32.toNatClampNeg a1)) rfl dX4_offers_21 rfl rfl (jin_vp g3) ?_
    refine j_astore_n (i := 3) (L' := [(3, _), (2, _), (0, _), (1, _)]) dX4_offers_22 rfl rfl (by decide) rfl ?_
    refine j_iconst (v := 0) dX4_offers_23 rfl (by decide) ?_
    refine j_istore (L' := [(4, _), (3, _), (2, _), (0, _), (1, _)]) dX4_offers_24 rfl (by decide) rfl ?_
    refine j_iconst (v := 0) dX4_offers_26 rfl (by decide) ?_
    refine j_istore (L' := [(5, _), (4, _), (3, _), (2, _), (0, _), (1, _)]) dX4_offers_27 rfl (by decide) rfl ?_
    refine j_sub (L' := [(0, _), (3, _), (4, _), (5, _)]) [4, 2, 1, 0] rfl ?_
    exact tX4_offers_b29   _ _ _ _ _ (jin_lt g3) hm
  · have hm := jif_neg c2 hm
    refine j_aload_n dX4_offers_10 rfl rfl ?_
    refine j_iload_n dX4_offers_11 rfl rfl ?_
    obtain ⟨p4, ep4, hm⟩ := jb_of hm
    refine o_callV_i kX4_60 dX4_offers_12 rfl (tX4_refuse  ep4) rfl rfl rfl rfl rfl (Nat.le_of_ble_eq_true rfl) (by decide) ?_
    exact j_ireturn dX4_offers_15 rfl rfl ⟨Nat.le_refl _, Nat.le_refl _⟩ (jf_m (fun z => .int z) hm)
theorem dX4_read_0 : decode cX4_read 0 = .ok (.aload_n 0, 1) := by decide +kernel
theorem dX4_read_1 : decode cX4_read 1 = .ok (.iload_n 1, 1) := by decide +kernel
theorem dX4_read_2 : decode cX4_read 2 = .ok (.invokevirtual 259, 3) := by decide +kernel
theorem dX4_read_5 : decode cX4_read 5 = .ok (.istore_n 2, 1) := by decide +kernel
theorem dX4_read_6 : decode cX4_read 6 = .ok (.iload_n 2, 1) := by decide +kernel
theorem dX4_read_7 : decode cX4_read 7 = .ok (.ifCond .eq 9, 3) := by decide +kernel
theorem dX4_read_10 : decode cX4_read 10 = .ok (.aload_n 0, 1) := by decide +kernel
theorem dX4_read_11 : decode cX4_read 11 = .ok (.iload_n 2, 1) := by decide +kernel
theorem dX4_read_12 : decode cX4_read 12 = .ok (.invokevirtual 60, 3) := by decide +kernel
theorem dX4_read_15 : decode cX4_read 15 = .ok (.ireturn, 1) := by decide +kernel
theorem dX4_read_16 : decode cX4_read 16 = .ok (.aload_n 0, 1) := by decide +kernel
theorem dX4_read_17 : decode cX4_read 17 = .ok (.getfield 38, 3) := by decide +kernel
theorem dX4_read_20 : decode cX4_read 20 = .ok (.iload_n 1, 1) := by decide +kernel
theorem dX4_read_21 : decode cX4_read 21 = .ok (.aaload, 1) := by decide +kernel
theorem dX4_read_22 : decode cX4_read 22 = .ok (.astore_n 3, 1) := by decide +kernel
theorem dX4_read_23 : decode cX4_read 23 = .ok (.iconst 0, 1) := by decide +kernel
theorem dX4_read_24 : decode cX4_read 24 = .ok (.istore 4, 2) := by decide +kernel
theorem dX4_read_26 : decode cX4_read 26 = .ok (.iload 4, 2) := by decide +kernel
theorem dX4_read_28 : decode cX4_read 28 = .ok (.aload_n 3, 1) := by decide +kernel
theorem dX4_read_29 : decode cX4_read 29 = .ok (.getfield 258, 3) := by decide +kernel
theorem dX4_read_32 : decode cX4_read 32 = .ok (.if_icmp .ge 47, 3) := by decide +kernel
theorem dX4_read_35 : decode cX4_read 35 = .ok (.aload_n 0, 1) := by decide +kernel
theorem dX4_read_36 : decode cX4_read 36 = .ok (.getfield 12, 3) := by decide +kernel
theorem dX4_read_39 : decode cX4_read 39 = .ok (.iload 4, 2) := by decide +kernel
theorem dX4_read_41 : decode cX4_read 41 = .ok (.invokevirtual 73, 3) := by decide +kernel
theorem dX4_read_44 : decode cX4_read 44 = .ok (.ifCond .eq 24, 3) := by decide +kernel
theorem dX4_read_47 : decode cX4_read 47 = .ok (.aload_n 3, 1) := by decide +kernel
theorem dX4_read_48 : decode cX4_read 48 = .ok (.getfield 277, 3) := by decide +kernel
theorem dX4_read_51 : decode cX4_read 51 = .ok (.iload 4, 2) := by decide +kernel
theorem dX4_read_53 : decode cX4_read 53 = .ok (.laload, 1) := by decide +kernel
theorem dX4_read_54 : decode cX4_read 54 = .ok (.aload_n 0, 1) := by decide +kernel
theorem dX4_read_55 : decode cX4_read 55 = .ok (.getfield 12, 3) := by decide +kernel
theorem dX4_read_58 : decode cX4_read 58 = .ok (.iload 4, 2) := by decide +kernel
theorem dX4_read_60 : decode cX4_read 60 = .ok (.invokevirtual 91, 3) := by decide +kernel
theorem dX4_read_63 : decode cX4_read 63 = .ok (.i2l, 1) := by decide +kernel
theorem dX4_read_64 : decode cX4_read 64 = .ok (.lcmp, 1) := by decide +kernel
theorem dX4_read_65 : decode cX4_read 65 = .ok (.ifCond .eq 8, 3) := by decide +kernel
theorem dX4_read_68 : decode cX4_read 68 = .ok (.iconst 1, 1) := by decide +kernel
theorem dX4_read_69 : decode cX4_read 69 = .ok (.iload 4, 2) := by decide +kernel
theorem dX4_read_71 : decode cX4_read 71 = .ok (.iadd, 1) := by decide +kernel
theorem dX4_read_72 : decode cX4_read 72 = .ok (.ireturn, 1) := by decide +kernel
theorem dX4_read_73 : decode cX4_read 73 = .ok (.iinc 4 1, 3) := by decide +kernel
theorem dX4_read_76 : decode cX4_read 76 = .ok (.goto (-50), 3) := by decide +kernel
theorem dX4_read_79 : decode cX4_read 79 = .ok (.iconst 0, 1) := by decide +kernel
theorem dX4_read_80 : decode cX4_read 80 = .ok (.ireturn, 1) := by decide +kernel
def mX4_read_b68   (a4 : Int32) (V : jMem) : Option (Int32 × jMem) := (some (((1 : Int32) + a4), V))
set_option maxHeartbeats 4000000 in
set_option maxRecDepth 20000 in
theorem tX4_read_b68 {l : Launch} {Z : jZ} {q : Nat → Nat} {a4 : Int32} {V : jMem} {r : Int32} {V' : jMem}    (hm : mX4_read_b68 a4 V = some (r, V')) : J l Z RX4 "read" cX4_read 5 (some .int) 6 0 0 (fun r' w => r' = some (.int r) ∧ w = jw Z q V' dX) 68 [(4, .int a4)] [] (jw Z q V dX) 0 0 := by
  unfold mX4_read_b68 at hm
  refine j_iconst (v := 1) dX4_read_68 rfl (by decide) ?_
  refine j_iload dX4_read_69 rfl rfl ?_
  refine j_iadd dX4_read_71 rfl ?_
  exact j_ireturn dX4_read_72 rfl rfl ⟨Nat.le_refl _, Nat.le_refl _⟩ (jf_m (fun z => .int z) hm)
def mX4_read_b26   : Nat → Nat → Int32 → jMem → Option (Int32 × jMem)
  | 0, _, _, _ => none
  | n + 1, i3, a4, V => (if (V.1 (39 + 2 * i3) 1) ≤ a4 then (some ((0 : Int32), V)) else (if (mX0_hasField a4 V) = (0 : Int32) then (mX4_read_b68 a4 V) else (jg (jin a4 40) ((mX0_priceNow a4 V).bind (fun (r4 : Int32) => (if (lg_cmp (V.2 (39 + 2 * i3 + 1) (Int32.toNatClampNeg a4)) (Int32.toInt64 r4)) = (0 : Int32) then (mX4_read_b26 n i3 (a4 + (1 : Int32)) V) else (mX4_read_b68 a4 V)))))))
set_option maxHeartbeats 4000000 in
set_option maxRecDepth 20000 in
theorem tX4_read_b26 {l : Launch} {Z : jZ} {q : Nat → Nat}  {r : Int32} {V' : jMem}   (n : Nat) : ∀ (i3 : Nat) (a4 : Int32) (V : jMem), (i3 < 4) → mX4_read_b26 n i3 a4 V = some (r, V') → J l Z RX4 "read" cX4_read 5 (some .int) 6 0 0 (fun r' w => r' = some (.int r) ∧ w = jw Z q V' dX) 26 [(0, .ref (q 0)), (3, .ref (q (39 + 2 * i3))), (4, .int a4)] [] (jw Z q V dX) 0 0 := by
  induction n with
  | zero => intro i3 a4 V hi3 hm; cases hm
  | succ n ih =>
    intro i3 a4 V hi3 hm
    rw [mX4_read_b26] at hm
    refine j_iload dX4_read_26 rfl rfl ?_
    refine j_aload_n dX4_read_28 rfl rfl ?_
    refine m_geti (k := 1) fX4_258 dX4_read_29 rfl (jsheet_o hi3) rfl ?_
    refine j_icmp_ge (tgt := 79) dX4_read_32 rfl (by decide) (fun c1 => ?_) (fun c1 => ?_)
    · have hm := jif_pos c1 hm
      refine j_iconst (v := 0) dX4_read_79 rfl (by decide) ?_
      exact j_ireturn dX4_read_80 rfl rfl ⟨Nat.le_refl _, Nat.le_refl _⟩ (jf_m (fun z => .int z) hm)
    · have hm := jif_neg c1 hm
      refine j_aload_n dX4_read_35 rfl rfl ?_
      refine m_getr (k := 0) (r := 1) fX4_12 dX4_read_36 rfl rfl rfl ?_
      refine j_iload dX4_read_39 rfl rfl ?_
      refine o_callV_i kX4_73 dX4_read_41 rfl (tX0_hasField  rfl) rfl rfl rfl rfl rfl (Nat.le_of_ble_eq_true rfl) (by decide) ?_
      refine j_if_eq (tgt := 68) dX4_read_44 rfl (by decide) (fun c2 => ?_) (fun c2 => ?_)
      · have hm := jif_pos c2 hm
        refine j_sub (L' := [(4, _)]) [2] rfl ?_
        exact tX4_read_b68    hm
      · have hm := jif_neg c2 hm
        refine j_aload_n dX4_read_47 rfl rfl ?_
        refine m_getr (k := 2) (r := (39 + 2 * i3 + 1)) fX4_277 dX4_read_48 rfl (jsheet_o hi3) rfl ?_
        refine j_iload dX4_read_51 rfl rfl ?_
        obtain ⟨g3, hm⟩ := jg_of hm
        refine o_lald (k := (Int32.toNatClampNeg a4)) rfl dX4_read_53 rfl (jsheet_a hi3) (jin_vp g3) ?_
        refine j_aload_n dX4_read_54 rfl rfl ?_
        refine m_getr (k := 0) (r := 1) fX4_12 dX4_read_55 rfl rfl rfl ?_
        refine j_iload dX4_read_58 rfl rfl ?_
        obtain ⟨r4, er4, hm⟩ := jb_of hm
        refine o_callV_i kX4_91 dX4_read_60 rfl (tX0_priceNow  er4) rfl rfl rfl rfl rfl (Nat.le_of_ble_eq_true rfl) (by decide) ?_
        refine j_i2l dX4_read_63 rfl ?_
        refine j_lcmp dX4_read_64 rfl ?_
        refine j_if_eq (tgt := 73) dX4_read_65 rfl (by decide) (fun c5 => ?_) (fun c5 => ?_)
        · have hm := jif_pos c5 hm
          refine j_iinc (v := (a4 + (1 : Int32))) (L' := [(4, _), (0, _), (3, _)]) dX4_read_73 rfl rfl rfl (by decide) rfl ?_
          refine j_goto (tgt := 26) dX4_read_76 (by decide) ?_
          refine j_sub (L' := [(0, _), (3, _), (4, _)]) [1, 2, 0] rfl ?_
          exact ih _ _ _ hi3 hm
        · have hm := jif_neg c5 hm
          refine j_sub (L' := [(4, _)]) [2] rfl ?_
          exact tX4_read_b68    hm
def mX4_read (a1 : Int32) (V : jMem) : Option (Int32 × jMem) := ((mX4_sheetFault a1 V).bind (fun (r1 : Int32) => (if r1 = (0 : Int32) then (jg (jin a1 4) (mX4_read_b26 2000 (Int32.toNatClampNeg a1) (0 : Int32) V)) else ((mX4_refuse r1 V).bind (fun (p4 : Int32 × jMem) => (some (p4.1, p4.2)))))))
set_option maxHeartbeats 4000000 in
set_option maxRecDepth 20000 in
theorem tX4_read {l : Launch} {Z : jZ} {q : Nat → Nat} {a1 : Int32} {V : jMem} {r : Int32} {V' : jMem}  (hm : mX4_read a1 V = some (r, V')) : CtD l Z yX4_read cX4_read 5 (some .int) 6 q dX [.ref (q 0), .int a1] V (some (.int r)) V' := by
  refine Ct_of (L := [(0, .ref (q 0)), (1, .int a1)]) (own := RX4) (nm := "read") rfl rfl (by decide +kernel) rfl (Nat.le_of_ble_eq_true rfl) ?_
  unfold mX4_read at hm
  refine j_aload_n dX4_read_0 rfl rfl ?_
  refine j_iload_n dX4_read_1 rfl rfl ?_
  obtain ⟨r1, er1, hm⟩ := jb_of hm
  refine o_callV_i kX4_259 dX4_read_2 rfl (tX4_sheetFault  er1) rfl rfl rfl rfl rfl (Nat.le_of_ble_eq_true rfl) (by decide) ?_
  refine j_istore_n (i := 2) (L' := [(2, _), (0, _), (1, _)]) dX4_read_5 rfl rfl (by decide) rfl ?_
  refine j_iload_n dX4_read_6 rfl rfl ?_
  refine j_if_eq (tgt := 16) dX4_read_7 rfl (by decide) (fun c2 => ?_) (fun c2 => ?_)
  · have hm := jif_pos c2 hm
    refine j_aload_n dX4_read_16 rfl rfl ?_
    refine m_getr (k := 5) (r := 38) fX4_38 dX4_read_17 rfl rfl rfl ?_
    refine j_iload_n dX4_read_20 rfl rfl ?_
    obtain ⟨g3, hm⟩ := jg_of hm
    refine o_aald (k := (Int32.toNatClampNeg a1)) rfl dX4_read_21 rfl rfl (jin_vp g3) ?_
    refine j_astore_n (i := 3) (L' := [(3, _), (2, _), (0, _), (1, _)]) dX4_read_22 rfl rfl (by decide) rfl ?_
    refine j_iconst (v := 0) dX4_read_23 rfl (by decide) ?_
    refine j_istore (L' := [(4, _), (3, _), (2, _), (0, _), (1, _)]) dX4_read_24 rfl (by decide) rfl ?_
    refine j_sub (L' := [(0, _), (3, _), (4, _)]) [3, 1, 0] rfl ?_
    exact tX4_read_b26   _ _ _ _ (jin_lt g3) hm
  · have hm := jif_neg c2 hm
    refine j_aload_n dX4_read_10 rfl rfl ?_
    refine j_iload_n dX4_read_11 rfl rfl ?_
    obtain ⟨p4, ep4, hm⟩ := jb_of hm
    refine o_callV_i kX4_60 dX4_read_12 rfl (tX4_refuse  ep4) rfl rfl rfl rfl rfl (Nat.le_of_ble_eq_true rfl) (by decide) ?_
    exact j_ireturn dX4_read_15 rfl rfl ⟨Nat.le_refl _, Nat.le_refl _⟩ (jf_m (fun z => .int z) hm)
theorem dX4_image_0 : decode cX4_image 0 = .ok (.aload_n 0, 1) := by decide +kernel
theorem dX4_image_1 : decode cX4_image 1 = .ok (.getfield 16, 3) := by decide +kernel
theorem dX4_image_4 : decode cX4_image 4 = .ok (.aload_n 0, 1) := by decide +kernel
theorem dX4_image_5 : decode cX4_image 5 = .ok (.getfield 12, 3) := by decide +kernel
theorem dX4_image_8 : decode cX4_image 8 = .ok (.invokevirtual 243, 3) := by decide +kernel
theorem dX4_image_11 : decode cX4_image 11 = .ok (.aload_n 0, 1) := by decide +kernel
theorem dX4_image_12 : decode cX4_image 12 = .ok (.iconst 1, 1) := by decide +kernel
theorem dX4_image_13 : decode cX4_image 13 = .ok (.putfield 47, 3) := by decide +kernel
theorem dX4_image_16 : decode cX4_image 16 = .ok (.iconst 1, 1) := by decide +kernel
theorem dX4_image_17 : decode cX4_image 17 = .ok (.ireturn, 1) := by decide +kernel
def mX4_image (V : jMem) : Option (Int32 × jMem) := ((mX0_become 11 1 V).bind (fun (p1 : jMem) => (jl (jsI p1 0 7 (1 : Int32)) (fun (V2 : jMem) => (some ((1 : Int32), V2))))))
set_option maxHeartbeats 4000000 in
set_option maxRecDepth 20000 in
theorem tX4_image {l : Launch} {Z : jZ} {q : Nat → Nat} {V : jMem} {r : Int32} {V' : jMem}  (hm : mX4_image V = some (r, V')) : CtD l Z yX4_image cX4_image 1 (some .int) 2 q dX [.ref (q 0)] V (some (.int r)) V' := by
  refine Ct_of (L := [(0, .ref (q 0))]) (own := RX4) (nm := "image") rfl rfl (by decide +kernel) rfl (Nat.le_of_ble_eq_true rfl) ?_
  unfold mX4_image at hm
  refine j_aload_n dX4_image_0 rfl rfl ?_
  refine m_getr (k := 1) (r := 11) fX4_16 dX4_image_1 rfl rfl rfl ?_
  refine j_aload_n dX4_image_4 rfl rfl ?_
  refine m_getr (k := 0) (r := 1) fX4_12 dX4_image_5 rfl rfl rfl ?_
  obtain ⟨p1, ep1, hm⟩ := jb_of hm
  refine o_callV_v kX4_243 dX4_image_8 rfl (tX0_become jland_11 jland_1 ep1) rfl rfl rfl rfl rfl (Nat.le_of_ble_eq_true rfl) (by decide) ?_
  refine j_aload_n dX4_image_11 rfl rfl ?_
  refine j_iconst (v := 1) dX4_image_12 rfl (by decide) ?_
  refine m_putz (k := 7) fX4_47 dX4_image_13 rfl rfl rfl (by decide) ?_
  obtain ⟨V2, eV2⟩ : ∃ y, y = (jsI p1 0 7 (1 : Int32)) := ⟨_, rfl⟩
  have hm := jl_of hm eV2
  rw [← eV2]
  refine j_iconst (v := 1) dX4_image_16 rfl (by decide) ?_
  exact j_ireturn dX4_image_17 rfl rfl ⟨Nat.le_refl _, Nat.le_refl _⟩ (jf_m (fun z => .int z) hm)
theorem dX4_undo_0 : decode cX4_undo 0 = .ok (.aload_n 0, 1) := by decide +kernel
theorem dX4_undo_1 : decode cX4_undo 1 = .ok (.getfield 47, 3) := by decide +kernel
theorem dX4_undo_4 : decode cX4_undo 4 = .ok (.ifCond .ne 10, 3) := by decide +kernel
theorem dX4_undo_7 : decode cX4_undo 7 = .ok (.aload_n 0, 1) := by decide +kernel
theorem dX4_undo_8 : decode cX4_undo 8 = .ok (.ldc 146, 2) := by decide +kernel
theorem dX4_undo_10 : decode cX4_undo 10 = .ok (.invokevirtual 60, 3) := by decide +kernel
theorem dX4_undo_13 : decode cX4_undo 13 = .ok (.ireturn, 1) := by decide +kernel
theorem dX4_undo_14 : decode cX4_undo 14 = .ok (.aload_n 0, 1) := by decide +kernel
theorem dX4_undo_15 : decode cX4_undo 15 = .ok (.getfield 12, 3) := by decide +kernel
theorem dX4_undo_18 : decode cX4_undo 18 = .ok (.aload_n 0, 1) := by decide +kernel
theorem dX4_undo_19 : decode cX4_undo 19 = .ok (.getfield 16, 3) := by decide +kernel
theorem dX4_undo_22 : decode cX4_undo 22 = .ok (.invokevirtual 243, 3) := by decide +kernel
theorem dX4_undo_25 : decode cX4_undo 25 = .ok (.aload_n 0, 1) := by decide +kernel
theorem dX4_undo_26 : decode cX4_undo 26 = .ok (.getfield 12, 3) := by decide +kernel
theorem dX4_undo_29 : decode cX4_undo 29 = .ok (.getfield 64, 3) := by decide +kernel
theorem dX4_undo_32 : decode cX4_undo 32 = .ok (.ireturn, 1) := by decide +kernel
def mX4_undo (V : jMem) : Option (Int32 × jMem) := (if (V.1 0 7) = (0 : Int32) then ((mX4_refuse (-1000000004 : Int32) V).bind (fun (p3 : Int32 × jMem) => (some (p3.1, p3.2)))) else ((mX0_become 1 11 V).bind (fun (p2 : jMem) => (some ((p2.1 1 0), p2)))))
set_option maxHeartbeats 4000000 in
set_option maxRecDepth 20000 in
theorem tX4_undo {l : Launch} {Z : jZ} {q : Nat → Nat} {V : jMem} {r : Int32} {V' : jMem}  (hm : mX4_undo V = some (r, V')) : CtD l Z yX4_undo cX4_undo 1 (some .int) 2 q dX [.ref (q 0)] V (some (.int r)) V' := by
  refine Ct_of (L := [(0, .ref (q 0))]) (own := RX4) (nm := "undo") rfl rfl (by decide +kernel) rfl (Nat.le_of_ble_eq_true rfl) ?_
  unfold mX4_undo at hm
  refine j_aload_n dX4_undo_0 rfl rfl ?_
  refine m_geti (k := 7) fX4_47 dX4_undo_1 rfl rfl rfl ?_
  refine j_if_ne (tgt := 14) dX4_undo_4 rfl (by decide) (fun c1 => ?_) (fun c1 => ?_)
  · have hm := jif_neg c1 hm
    refine j_aload_n dX4_undo_14 rfl rfl ?_
    refine m_getr (k := 0) (r := 1) fX4_12 dX4_undo_15 rfl rfl rfl ?_
    refine j_aload_n dX4_undo_18 rfl rfl ?_
    refine m_getr (k := 1) (r := 11) fX4_16 dX4_undo_19 rfl rfl rfl ?_
    obtain ⟨p2, ep2, hm⟩ := jb_of hm
    refine o_callV_v kX4_243 dX4_undo_22 rfl (tX0_become jland_1 jland_11 ep2) rfl rfl rfl rfl rfl (Nat.le_of_ble_eq_true rfl) (by decide) ?_
    refine j_aload_n dX4_undo_25 rfl rfl ?_
    refine m_getr (k := 0) (r := 1) fX4_12 dX4_undo_26 rfl rfl rfl ?_
    refine m_geti (k := 0) fX4_64 dX4_undo_29 rfl rfl rfl ?_
    exact j_ireturn dX4_undo_32 rfl rfl ⟨Nat.le_refl _, Nat.le_refl _⟩ (jf_m (fun z => .int z) hm)
  · have hm := jif_pos c1 hm
    refine j_aload_n dX4_undo_7 rfl rfl ?_
    refine j_ldc dX4_undo_8 rfl wX4_146 ?_
    obtain ⟨p3, ep3, hm⟩ := jb_of hm
    refine o_callV_i kX4_60 dX4_undo_10 rfl (tX4_refuse  ep3) rfl rfl rfl rfl rfl (Nat.le_of_ble_eq_true rfl) (by decide) ?_
    exact j_ireturn dX4_undo_13 rfl rfl ⟨Nat.le_refl _, Nat.le_refl _⟩ (jf_m (fun z => .int z) hm)
theorem dX4_tear_0 : decode cX4_tear 0 = .ok (.aload_n 0, 1) := by decide +kernel
theorem dX4_tear_1 : decode cX4_tear 1 = .ok (.getfield 47, 3) := by decide +kernel
theorem dX4_tear_4 : decode cX4_tear 4 = .ok (.ifCond .eq 7, 3) := by decide +kernel
theorem dX4_tear_7 : decode cX4_tear 7 = .ok (.iconst 1, 1) := by decide +kernel
theorem dX4_tear_8 : decode cX4_tear 8 = .ok (.goto 4, 3) := by decide +kernel
theorem dX4_tear_11 : decode cX4_tear 11 = .ok (.iconst 0, 1) := by decide +kernel
theorem dX4_tear_12 : decode cX4_tear 12 = .ok (.istore_n 1, 1) := by decide +kernel
theorem dX4_tear_13 : decode cX4_tear 13 = .ok (.aload_n 0, 1) := by decide +kernel
theorem dX4_tear_14 : decode cX4_tear 14 = .ok (.iconst 0, 1) := by decide +kernel
theorem dX4_tear_15 : decode cX4_tear 15 = .ok (.putfield 47, 3) := by decide +kernel
theorem dX4_tear_18 : decode cX4_tear 18 = .ok (.iload_n 1, 1) := by decide +kernel
theorem dX4_tear_19 : decode cX4_tear 19 = .ok (.ireturn, 1) := by decide +kernel
def mX4_tear_b12   (s0 : Int32) (V : jMem) : Option (Int32 × jMem) := (jl (jsI V 0 7 (0 : Int32)) (fun (V1 : jMem) => (some (s0, V1))))
set_option maxHeartbeats 4000000 in
set_option maxRecDepth 20000 in
theorem tX4_tear_b12 {l : Launch} {Z : jZ} {q : Nat → Nat} {s0 : Int32} {V : jMem} {r : Int32} {V' : jMem}    (hm : mX4_tear_b12 s0 V = some (r, V')) : J l Z RX4 "tear" cX4_tear 2 (some .int) 0 0 0 (fun r' w => r' = some (.int r) ∧ w = jw Z q V' dX) 12 [(0, .ref (q 0))] [.int s0] (jw Z q V dX) 0 0 := by
  unfold mX4_tear_b12 at hm
  refine j_istore_n (i := 1) (L' := [(1, _), (0, _)]) dX4_tear_12 rfl rfl (by decide) rfl ?_
  refine j_aload_n dX4_tear_13 rfl rfl ?_
  refine j_iconst (v := 0) dX4_tear_14 rfl (by decide) ?_
  refine m_putz (k := 7) fX4_47 dX4_tear_15 rfl rfl rfl (by decide) ?_
  obtain ⟨V1, eV1⟩ : ∃ y, y = (jsI V 0 7 (0 : Int32)) := ⟨_, rfl⟩
  have hm := jl_of hm eV1
  rw [← eV1]
  refine j_iload_n dX4_tear_18 rfl rfl ?_
  exact j_ireturn dX4_tear_19 rfl rfl ⟨Nat.le_refl _, Nat.le_refl _⟩ (jf_m (fun z => .int z) hm)
def mX4_tear (V : jMem) : Option (Int32 × jMem) := (if (V.1 0 7) = (0 : Int32) then (mX4_tear_b12 (0 : Int32) V) else (mX4_tear_b12 (1 : Int32) V))
set_option maxHeartbeats 4000000 in
set_option maxRecDepth 20000 in
theorem tX4_tear {l : Launch} {Z : jZ} {q : Nat → Nat} {V : jMem} {r : Int32} {V' : jMem}  (hm : mX4_tear V = some (r, V')) : CtD l Z yX4_tear cX4_tear 2 (some .int) 0 q dX [.ref (q 0)] V (some (.int r)) V' := by
  refine Ct_of (L := [(0, .ref (q 0))]) (own := RX4) (nm := "tear") rfl rfl (by decide +kernel) rfl (Nat.le_of_ble_eq_true rfl) ?_
  unfold mX4_tear at hm
  refine j_aload_n dX4_tear_0 rfl rfl ?_
  refine m_geti (k := 7) fX4_47 dX4_tear_1 rfl rfl rfl ?_
  refine j_if_eq (tgt := 11) dX4_tear_4 rfl (by decide) (fun c1 => ?_) (fun c1 => ?_)
  · have hm := jif_pos c1 hm
    refine j_iconst (v := 0) dX4_tear_11 rfl (by decide) ?_
    exact tX4_tear_b12    hm
  · have hm := jif_neg c1 hm
    refine j_iconst (v := 1) dX4_tear_7 rfl (by decide) ?_
    refine j_goto (tgt := 12) dX4_tear_8 (by decide) ?_
    exact tX4_tear_b12    hm
theorem dX4_count_0 : decode cX4_count 0 = .ok (.iload_n 1, 1) := by decide +kernel
theorem dX4_count_1 : decode cX4_count 1 = .ok (.tableswitch 104 0 6 #[43, 51, 59, 70, 78, 86, 94], 43) := by decide +kernel
theorem dX4_count_44 : decode cX4_count 44 = .ok (.aload_n 0, 1) := by decide +kernel
theorem dX4_count_45 : decode cX4_count 45 = .ok (.getfield 12, 3) := by decide +kernel
theorem dX4_count_48 : decode cX4_count 48 = .ok (.getfield 64, 3) := by decide +kernel
theorem dX4_count_51 : decode cX4_count 51 = .ok (.ireturn, 1) := by decide +kernel
theorem dX4_count_52 : decode cX4_count 52 = .ok (.aload_n 0, 1) := by decide +kernel
theorem dX4_count_53 : decode cX4_count 53 = .ok (.getfield 12, 3) := by decide +kernel
theorem dX4_count_56 : decode cX4_count 56 = .ok (.getfield 183, 3) := by decide +kernel
theorem dX4_count_59 : decode cX4_count 59 = .ok (.ireturn, 1) := by decide +kernel
theorem dX4_count_60 : decode cX4_count 60 = .ok (.aload_n 0, 1) := by decide +kernel
theorem dX4_count_61 : decode cX4_count 61 = .ok (.getfield 12, 3) := by decide +kernel
theorem dX4_count_64 : decode cX4_count 64 = .ok (.getfield 132, 3) := by decide +kernel
theorem dX4_count_67 : decode cX4_count 67 = .ok (.invokestatic 138, 3) := by decide +kernel
theorem dX4_count_70 : decode cX4_count 70 = .ok (.ireturn, 1) := by decide +kernel
theorem dX4_count_71 : decode cX4_count 71 = .ok (.aload_n 0, 1) := by decide +kernel
theorem dX4_count_72 : decode cX4_count 72 = .ok (.getfield 32, 3) := by decide +kernel
theorem dX4_count_75 : decode cX4_count 75 = .ok (.getfield 236, 3) := by decide +kernel
theorem dX4_count_78 : decode cX4_count 78 = .ok (.ireturn, 1) := by decide +kernel
theorem dX4_count_79 : decode cX4_count 79 = .ok (.aload_n 0, 1) := by decide +kernel
theorem dX4_count_80 : decode cX4_count 80 = .ok (.getfield 12, 3) := by decide +kernel
theorem dX4_count_83 : decode cX4_count 83 = .ok (.getfield 167, 3) := by decide +kernel
theorem dX4_count_86 : decode cX4_count 86 = .ok (.ireturn, 1) := by decide +kernel
theorem dX4_count_87 : decode cX4_count 87 = .ok (.aload_n 0, 1) := by decide +kernel
theorem dX4_count_88 : decode cX4_count 88 = .ok (.getfield 12, 3) := by decide +kernel
theorem dX4_count_91 : decode cX4_count 91 = .ok (.invokevirtual 293, 3) := by decide +kernel
theorem dX4_count_94 : decode cX4_count 94 = .ok (.ireturn, 1) := by decide +kernel
theorem dX4_count_95 : decode cX4_count 95 = .ok (.aload_n 0, 1) := by decide +kernel
theorem dX4_count_96 : decode cX4_count 96 = .ok (.getfield 12, 3) := by decide +kernel
theorem dX4_count_99 : decode cX4_count 99 = .ok (.getfield 118, 3) := by decide +kernel
theorem dX4_count_102 : decode cX4_count 102 = .ok (.iconst 3, 1) := by decide +kernel
theorem dX4_count_103 : decode cX4_count 103 = .ok (.iaload, 1) := by decide +kernel
theorem dX4_count_104 : decode cX4_count 104 = .ok (.ireturn, 1) := by decide +kernel
theorem dX4_count_105 : decode cX4_count 105 = .ok (.aload_n 0, 1) := by decide +kernel
theorem dX4_count_106 : decode cX4_count 106 = .ok (.ldc 59, 2) := by decide +kernel
theorem dX4_count_108 : decode cX4_count 108 = .ok (.invokevirtual 60, 3) := by decide +kernel
theorem dX4_count_111 : decode cX4_count 111 = .ok (.ireturn, 1) := by decide +kernel
def mX4_count (a1 : Int32) (V : jMem) : Option (Int32 × jMem) := (if a1 = (0 : Int32) then (some ((V.1 1 0), V)) else (if a1 = (1 : Int32) then (some ((V.1 1 14), V)) else (if a1 = (2 : Int32) then (some ((mJ6_bitCount_0f7a4 (V.1 1 7)), V)) else (if a1 = (3 : Int32) then (some ((V.1 36 1), V)) else (if a1 = (4 : Int32) then (some ((V.1 1 12), V)) else (if a1 = (5 : Int32) then ((mX0_allWary V).bind (fun (r7 : Int32) => (some (r7, V)))) else (if a1 = (6 : Int32) then (some ((V.1 8 3), V)) else ((mX4_refuse (-1000000001 : Int32) V).bind (fun (p9 : Int32 × jMem) => (some (p9.1, p9.2)))))))))))
set_option maxHeartbeats 4000000 in
set_option maxRecDepth 20000 in
theorem tX4_count {l : Launch} {Z : jZ} {q : Nat → Nat} {a1 : Int32} {V : jMem} {r : Int32} {V' : jMem}  (hm : mX4_count a1 V = some (r, V')) : CtD l Z yX4_count cX4_count 2 (some .int) 2 q dX [.ref (q 0), .int a1] V (some (.int r)) V' := by
  refine Ct_of (L := [(0, .ref (q 0)), (1, .int a1)]) (own := RX4) (nm := "count") rfl rfl (by decide +kernel) rfl (Nat.le_of_ble_eq_true rfl) ?_
  unfold mX4_count at hm
  refine j_iload_n dX4_count_0 rfl rfl ?_
  by_cases c1 : a1 = (0 : Int32)
  · have hm := jif_pos c1 hm
    refine j_ts_in (z := 0) (off := 43) (tgt := 44) dX4_count_1 (j_ts_lit c1 (by decide)) (by decide) (by decide) rfl (by decide) ?_
    refine j_aload_n dX4_count_44 rfl rfl ?_
    refine m_getr (k := 0) (r := 1) fX4_12 dX4_count_45 rfl rfl rfl ?_
    refine m_geti (k := 0) fX4_64 dX4_count_48 rfl rfl rfl ?_
    exact j_ireturn dX4_count_51 rfl rfl ⟨Nat.le_refl _, Nat.le_refl _⟩ (jf_m (fun z => .int z) hm)
  have hm := jif_neg c1 hm
  by_cases c2 : a1 = (1 : Int32)
  · have hm := jif_pos c2 hm
    refine j_ts_in (z := 1) (off := 51) (tgt := 52) dX4_count_1 (j_ts_lit c2 (by decide)) (by decide) (by decide) rfl (by decide) ?_
    refine j_aload_n dX4_count_52 rfl rfl ?_
    refine m_getr (k := 0) (r := 1) fX4_12 dX4_count_53 rfl rfl rfl ?_
    refine m_geti (k := 14) fX4_183 dX4_count_56 rfl rfl rfl ?_
    exact j_ireturn dX4_count_59 rfl rfl ⟨Nat.le_refl _, Nat.le_refl _⟩ (jf_m (fun z => .int z) hm)
  have hm := jif_neg c2 hm
  by_cases c3 : a1 = (2 : Int32)
  · have hm := jif_pos c3 hm
    refine j_ts_in (z := 2) (off := 59) (tgt := 60) dX4_count_1 (j_ts_lit c3 (by decide)) (by decide) (by decide) rfl (by decide) ?_
    refine j_aload_n dX4_count_60 rfl rfl ?_
    refine m_getr (k := 0) (r := 1) fX4_12 dX4_count_61 rfl rfl rfl ?_
    refine m_geti (k := 7) fX4_132 dX4_count_64 rfl rfl rfl ?_
    refine o_callS_i kX4_138 dX4_count_67 rfl (tJ6_bitCount_0f7a4  rfl) rfl rfl (Nat.le_of_ble_eq_true rfl) (by decide) ?_
    exact j_ireturn dX4_count_70 rfl rfl ⟨Nat.le_refl _, Nat.le_refl _⟩ (jf_m (fun z => .int z) hm)
  have hm := jif_neg c3 hm
  by_cases c4 : a1 = (3 : Int32)
  · have hm := jif_pos c4 hm
    refine j_ts_in (z := 3) (off := 70) (tgt := 71) dX4_count_1 (j_ts_lit c4 (by decide)) (by decide) (by decide) rfl (by decide) ?_
    refine j_aload_n dX4_count_71 rfl rfl ?_
    refine m_getr (k := 4) (r := 36) fX4_32 dX4_count_72 rfl rfl rfl ?_
    refine m_geti (k := 1) fX4_236 dX4_count_75 rfl rfl rfl ?_
    exact j_ireturn dX4_count_78 rfl rfl ⟨Nat.le_refl _, Nat.le_refl _⟩ (jf_m (fun z => .int z) hm)
  have hm := jif_neg c4 hm
  by_cases c5 : a1 = (4 : Int32)
  · have hm := jif_pos c5 hm
    refine j_ts_in (z := 4) (off := 78) (tgt := 79) dX4_count_1 (j_ts_lit c5 (by decide)) (by decide) (by decide) rfl (by decide) ?_
    refine j_aload_n dX4_count_79 rfl rfl ?_
    refine m_getr (k := 0) (r := 1) fX4_12 dX4_count_80 rfl rfl rfl ?_
    refine m_geti (k := 12) fX4_167 dX4_count_83 rfl rfl rfl ?_
    exact j_ireturn dX4_count_86 rfl rfl ⟨Nat.le_refl _, Nat.le_refl _⟩ (jf_m (fun z => .int z) hm)
  have hm := jif_neg c5 hm
  by_cases c6 : a1 = (5 : Int32)
  · have hm := jif_pos c6 hm
    refine j_ts_in (z := 5) (off := 86) (tgt := 87) dX4_count_1 (j_ts_lit c6 (by decide)) (by decide) (by decide) rfl (by decide) ?_
    refine j_aload_n dX4_count_87 rfl rfl ?_
    refine m_getr (k := 0) (r := 1) fX4_12 dX4_count_88 rfl rfl rfl ?_
    obtain ⟨r7, er7, hm⟩ := jb_of hm
    refine o_callV_i kX4_293 dX4_count_91 rfl (tX0_allWary  er7) rfl rfl rfl rfl rfl (Nat.le_of_ble_eq_true rfl) (by decide) ?_
    exact j_ireturn dX4_count_94 rfl rfl ⟨Nat.le_refl _, Nat.le_refl _⟩ (jf_m (fun z => .int z) hm)
  have hm := jif_neg c6 hm
  by_cases c8 : a1 = (6 : Int32)
  · have hm := jif_pos c8 hm
    refine j_ts_in (z := 6) (off := 94) (tgt := 95) dX4_count_1 (j_ts_lit c8 (by decide)) (by decide) (by decide) rfl (by decide) ?_
    refine j_aload_n dX4_count_95 rfl rfl ?_
    refine m_getr (k := 0) (r := 1) fX4_12 dX4_count_96 rfl rfl rfl ?_
    refine m_getr (k := 13) (r := 8) fX4_118 dX4_count_99 rfl rfl rfl ?_
    refine j_iconst (v := 3) dX4_count_102 rfl (by decide) ?_
    refine o_iald (k := 3) (by decide) dX4_count_103 rfl rfl (jin_vp (by decide)) ?_
    exact j_ireturn dX4_count_104 rfl rfl ⟨Nat.le_refl _, Nat.le_refl _⟩ (jf_m (fun z => .int z) hm)
  have hm := jif_neg c8 hm
  refine j_ts_out (tgt := 105) dX4_count_1 (by have := j_ts_ne (k := 0) c1 (by decide); have := j_ts_ne (k := 1) c2 (by decide); have := j_ts_ne (k := 2) c3 (by decide); have := j_ts_ne (k := 3) c4 (by decide); have := j_ts_ne (k := 4) c5 (by decide); have := j_ts_ne (k := 5) c6 (by decide); have := j_ts_ne (k := 6) c8 (by decide); omega) (by decide) ?_
  refine j_aload_n dX4_count_105 rfl rfl ?_
  refine j_ldc dX4_count_106 rfl wX4_59 ?_
  obtain ⟨p9, ep9, hm⟩ := jb_of hm
  refine o_callV_i kX4_60 dX4_count_108 rfl (tX4_refuse  ep9) rfl rfl rfl rfl rfl (Nat.le_of_ble_eq_true rfl) (by decide) ?_
  exact j_ireturn dX4_count_111 rfl rfl ⟨Nat.le_refl _, Nat.le_refl _⟩ (jf_m (fun z => .int z) hm)
theorem dX4_status_0 : decode cX4_status 0 = .ok (.iload_n 1, 1) := by decide +kernel
theorem dX4_status_1 : decode cX4_status 1 = .ok (.iconst (-1), 1) := by decide +kernel
theorem dX4_status_2 : decode cX4_status 2 = .ok (.bipush 6, 2) := by decide +kernel
theorem dX4_status_4 : decode cX4_status 4 = .ok (.invokestatic 55, 3) := by decide +kernel
theorem dX4_status_7 : decode cX4_status 7 = .ok (.ifCond .ne 10, 3) := by decide +kernel
theorem dX4_status_10 : decode cX4_status 10 = .ok (.aload_n 0, 1) := by decide +kernel
theorem dX4_status_11 : decode cX4_status 11 = .ok (.ldc 59, 2) := by decide +kernel
theorem dX4_status_13 : decode cX4_status 13 = .ok (.invokevirtual 60, 3) := by decide +kernel
theorem dX4_status_16 : decode cX4_status 16 = .ok (.ireturn, 1) := by decide +kernel
theorem dX4_status_17 : decode cX4_status 17 = .ok (.iload_n 1, 1) := by decide +kernel
theorem dX4_status_18 : decode cX4_status 18 = .ok (.ifCond .lt 10, 3) := by decide +kernel
theorem dX4_status_21 : decode cX4_status 21 = .ok (.aload_n 0, 1) := by decide +kernel
theorem dX4_status_22 : decode cX4_status 22 = .ok (.getfield 43, 3) := by decide +kernel
theorem dX4_status_25 : decode cX4_status 25 = .ok (.iload_n 1, 1) := by decide +kernel
theorem dX4_status_26 : decode cX4_status 26 = .ok (.iaload, 1) := by decide +kernel
theorem dX4_status_27 : decode cX4_status 27 = .ok (.ireturn, 1) := by decide +kernel
theorem dX4_status_28 : decode cX4_status 28 = .ok (.iconst 0, 1) := by decide +kernel
theorem dX4_status_29 : decode cX4_status 29 = .ok (.istore_n 2, 1) := by decide +kernel
theorem dX4_status_30 : decode cX4_status 30 = .ok (.iconst 0, 1) := by decide +kernel
theorem dX4_status_31 : decode cX4_status 31 = .ok (.istore_n 3, 1) := by decide +kernel
theorem dX4_status_32 : decode cX4_status 32 = .ok (.iload_n 3, 1) := by decide +kernel
theorem dX4_status_33 : decode cX4_status 33 = .ok (.bipush 7, 2) := by decide +kernel
theorem dX4_status_35 : decode cX4_status 35 = .ok (.if_icmp .ge 18, 3) := by decide +kernel
theorem dX4_status_38 : decode cX4_status 38 = .ok (.iload_n 2, 1) := by decide +kernel
theorem dX4_status_39 : decode cX4_status 39 = .ok (.aload_n 0, 1) := by decide +kernel
theorem dX4_status_40 : decode cX4_status 40 = .ok (.getfield 43, 3) := by decide +kernel
theorem dX4_status_43 : decode cX4_status 43 = .ok (.iload_n 3, 1) := by decide +kernel
theorem dX4_status_44 : decode cX4_status 44 = .ok (.iaload, 1) := by decide +kernel
theorem dX4_status_45 : decode cX4_status 45 = .ok (.iadd, 1) := by decide +kernel
theorem dX4_status_46 : decode cX4_status 46 = .ok (.istore_n 2, 1) := by decide +kernel
theorem dX4_status_47 : decode cX4_status 47 = .ok (.iinc 3 1, 3) := by decide +kernel
theorem dX4_status_50 : decode cX4_status 50 = .ok (.goto (-18), 3) := by decide +kernel
theorem dX4_status_53 : decode cX4_status 53 = .ok (.iload_n 2, 1) := by decide +kernel
theorem dX4_status_54 : decode cX4_status 54 = .ok (.ireturn, 1) := by decide +kernel
def mX4_status_b32   : Nat → Int32 → Int32 → jMem → Option (Int32 × jMem)
  | 0, _, _, _ => none
  | n + 1, a2, a3, V => (if (7 : Int32) ≤ a3 then (some (a2, V)) else (jg (jin a3 7) (mX4_status_b32 n (a2 + (V.1 47 (Int32.toNatClampNeg a3))) (a3 + (1 : Int32)) V)))
set_option maxHeartbeats 4000000 in
set_option maxRecDepth 20000 in
theorem tX4_status_b32 {l : Launch} {Z : jZ} {q : Nat → Nat}  {r : Int32} {V' : jMem}   (n : Nat) : ∀ (a2 : Int32) (a3 : Int32) (V : jMem), mX4_status_b32 n a2 a3 V = some (r, V') → J l Z RX4 "status" cX4_status 4 (some .int) 2 0 0 (fun r' w => r' = some (.int r) ∧ w = jw Z q V' dX) 32 [(0, .ref (q 0)), (2, .int a2), (3, .int a3)] [] (jw Z q V dX) 0 0 := by
  induction n with
  | zero => intro a2 a3 V hm; cases hm
  | succ n ih =>
    intro a2 a3 V hm
    rw [mX4_status_b32] at hm
    refine j_iload_n dX4_status_32 rfl rfl ?_
    refine j_bipush (v := 7) dX4_status_33 rfl (by decide) ?_
    refine j_icmp_ge (tgt := 53) dX4_status_35 rfl (by decide) (fun c1 => ?_) (fun c1 => ?_)
    · have hm := jif_pos c1 hm
      refine j_iload_n dX4_status_53 rfl rfl ?_
      exact j_ireturn dX4_status_54 rfl rfl ⟨Nat.le_refl _, Nat.le_refl _⟩ (jf_m (fun z => .int z) hm)
    · have hm := jif_neg c1 hm
      refine j_iload_n dX4_status_38 rfl rfl ?_
      refine j_aload_n dX4_status_39 rfl rfl ?_
      refine m_getr (k := 6) (r := 47) fX4_43 dX4_status_40 rfl rfl rfl ?_
      refine j_iload_n dX4_status_43 rfl rfl ?_
      obtain ⟨g2, hm⟩ := jg_of hm
      refine o_iald (k := (Int32.toNatClampNeg a3)) rfl dX4_status_44 rfl rfl (jin_vp g2) ?_
      refine j_iadd dX4_status_45 rfl ?_
      refine j_istore_n (i := 2) (L' := [(2, _), (0, _), (3, _)]) dX4_status_46 rfl rfl (by decide) rfl ?_
      refine j_iinc (v := (a3 + (1 : Int32))) (L' := [(3, _), (2, _), (0, _)]) dX4_status_47 rfl rfl rfl (by decide) rfl ?_
      refine j_goto (tgt := 32) dX4_status_50 (by decide) ?_
      refine j_sub (L' := [(0, _), (2, _), (3, _)]) [2, 1, 0] rfl ?_
      exact ih _ _ _  hm
def mX4_status (a1 : Int32) (V : jMem) : Option (Int32 × jMem) := (if (mX4_isWithin a1 (-1 : Int32) (6 : Int32)) = (0 : Int32) then ((mX4_refuse (-1000000001 : Int32) V).bind (fun (p4 : Int32 × jMem) => (some (p4.1, p4.2)))) else (if a1 < (0 : Int32) then (mX4_status_b32 2000 (0 : Int32) (0 : Int32) V) else (jg (jin a1 7) (some ((V.1 47 (Int32.toNatClampNeg a1)), V)))))
set_option maxHeartbeats 4000000 in
set_option maxRecDepth 20000 in
theorem tX4_status {l : Launch} {Z : jZ} {q : Nat → Nat} {a1 : Int32} {V : jMem} {r : Int32} {V' : jMem}  (hm : mX4_status a1 V = some (r, V')) : CtD l Z yX4_status cX4_status 4 (some .int) 2 q dX [.ref (q 0), .int a1] V (some (.int r)) V' := by
  refine Ct_of (L := [(0, .ref (q 0)), (1, .int a1)]) (own := RX4) (nm := "status") rfl rfl (by decide +kernel) rfl (Nat.le_of_ble_eq_true rfl) ?_
  unfold mX4_status at hm
  refine j_iload_n dX4_status_0 rfl rfl ?_
  refine j_iconst (v := -1) dX4_status_1 rfl (by decide) ?_
  refine j_bipush (v := 6) dX4_status_2 rfl (by decide) ?_
  refine o_callS_i kX4_55 dX4_status_4 rfl (tX4_isWithin  rfl) rfl rfl (Nat.le_of_ble_eq_true rfl) (by decide) ?_
  refine j_if_ne (tgt := 17) dX4_status_7 rfl (by decide) (fun c1 => ?_) (fun c1 => ?_)
  · have hm := jif_neg c1 hm
    refine j_iload_n dX4_status_17 rfl rfl ?_
    refine j_if_lt (tgt := 28) dX4_status_18 rfl (by decide) (fun c2 => ?_) (fun c2 => ?_)
    · have hm := jif_pos c2 hm
      refine j_iconst (v := 0) dX4_status_28 rfl (by decide) ?_
      refine j_istore_n (i := 2) (L' := [(2, _), (0, _), (1, _)]) dX4_status_29 rfl rfl (by decide) rfl ?_
      refine j_iconst (v := 0) dX4_status_30 rfl (by decide) ?_
      refine j_istore_n (i := 3) (L' := [(3, _), (2, _), (0, _), (1, _)]) dX4_status_31 rfl rfl (by decide) rfl ?_
      refine j_sub (L' := [(0, _), (2, _), (3, _)]) [2, 1, 0] rfl ?_
      exact tX4_status_b32   _ _ _ _  hm
    · have hm := jif_neg c2 hm
      refine j_aload_n dX4_status_21 rfl rfl ?_
      refine m_getr (k := 6) (r := 47) fX4_43 dX4_status_22 rfl rfl rfl ?_
      refine j_iload_n dX4_status_25 rfl rfl ?_
      obtain ⟨g3, hm⟩ := jg_of hm
      refine o_iald (k := (Int32.toNatClampNeg a1)) rfl dX4_status_26 rfl rfl (jin_vp g3) ?_
      exact j_ireturn dX4_status_27 rfl rfl ⟨Nat.le_refl _, Nat.le_refl _⟩ (jf_m (fun z => .int z) hm)
  · have hm := jif_pos c1 hm
    refine j_aload_n dX4_status_10 rfl rfl ?_
    refine j_ldc dX4_status_11 rfl wX4_59 ?_
    obtain ⟨p4, ep4, hm⟩ := jb_of hm
    refine o_callV_i kX4_60 dX4_status_13 rfl (tX4_refuse  ep4) rfl rfl rfl rfl rfl (Nat.le_of_ble_eq_true rfl) (by decide) ?_
    exact j_ireturn dX4_status_16 rfl rfl ⟨Nat.le_refl _, Nat.le_refl _⟩ (jf_m (fun z => .int z) hm)
