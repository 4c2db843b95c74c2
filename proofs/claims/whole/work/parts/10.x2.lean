theorem dX4_refuse_0 : decode cX4_refuse 0 = .ok (.ldc 59, 2) := by decide +kernel
theorem dX4_refuse_2 : decode cX4_refuse 2 = .ok (.iload_n 1, 1) := by decide +kernel
theorem dX4_refuse_3 : decode cX4_refuse 3 = .ok (.isub, 1) := by decide +kernel
theorem dX4_refuse_4 : decode cX4_refuse 4 = .ok (.istore_n 2, 1) := by decide +kernel
theorem dX4_refuse_5 : decode cX4_refuse 5 = .ok (.iload_n 2, 1) := by decide +kernel
theorem dX4_refuse_6 : decode cX4_refuse 6 = .ok (.iconst 0, 1) := by decide +kernel
theorem dX4_refuse_7 : decode cX4_refuse 7 = .ok (.bipush 6, 2) := by decide +kernel
theorem dX4_refuse_9 : decode cX4_refuse 9 = .ok (.invokestatic 55, 3) := by decide +kernel
theorem dX4_refuse_12 : decode cX4_refuse 12 = .ok (.ifCond .eq 13, 3) := by decide +kernel
theorem dX4_refuse_15 : decode cX4_refuse 15 = .ok (.aload_n 0, 1) := by decide +kernel
theorem dX4_refuse_16 : decode cX4_refuse 16 = .ok (.getfield 43, 3) := by decide +kernel
theorem dX4_refuse_19 : decode cX4_refuse 19 = .ok (.iload_n 2, 1) := by decide +kernel
theorem dX4_refuse_20 : decode cX4_refuse 20 = .ok (.dup2, 1) := by decide +kernel
theorem dX4_refuse_21 : decode cX4_refuse 21 = .ok (.iaload, 1) := by decide +kernel
theorem dX4_refuse_22 : decode cX4_refuse 22 = .ok (.iconst 1, 1) := by decide +kernel
theorem dX4_refuse_23 : decode cX4_refuse 23 = .ok (.iadd, 1) := by decide +kernel
theorem dX4_refuse_24 : decode cX4_refuse 24 = .ok (.iastore, 1) := by decide +kernel
theorem dX4_refuse_25 : decode cX4_refuse 25 = .ok (.iload_n 1, 1) := by decide +kernel
theorem dX4_refuse_26 : decode cX4_refuse 26 = .ok (.ireturn, 1) := by decide +kernel
def mX4_refuse (a1 : Int32) (V : jMem) : Option (Int32 × jMem) := (if (mX4_isWithin ((-1000000001 : Int32) - a1) (0 : Int32) (6 : Int32)) = (0 : Int32) then (some (a1, V)) else (jg (jin ((-1000000001 : Int32) - a1) 7) (jl (jsI V 47 (Int32.toNatClampNeg ((-1000000001 : Int32) - a1)) ((V.1 47 (Int32.toNatClampNeg ((-1000000001 : Int32) - a1))) + (1 : Int32))) (fun (V3 : jMem) => (some (a1, V3))))))
set_option maxHeartbeats 4000000 in
set_option maxRecDepth 20000 in
theorem tX4_refuse {l : Launch} {Z : jZ} {q : Nat → Nat} {a1 : Int32} {V : jMem} {r : Int32} {V' : jMem}  (hm : mX4_refuse a1 V = some (r, V')) : CtD l Z yX4_refuse cX4_refuse 3 (some .int) 1 q dX [.ref (q 0), .int a1] V (some (.int r)) V' := by
  refine Ct_of (L := [(0, .ref (q 0)), (1, .int a1)]) (own := RX4) (nm := "refuse") rfl rfl (by decide +kernel) rfl (Nat.le_of_ble_eq_true rfl) ?_
  unfold mX4_refuse at hm
  refine j_ldc dX4_refuse_0 rfl wX4_59 ?_
  refine j_iload_n dX4_refuse_2 rfl rfl ?_
  refine j_isub dX4_refuse_3 rfl ?_
  refine j_istore_n (i := 2) (L' := [(2, _), (0, _), (1, _)]) dX4_refuse_4 rfl rfl (by decide) rfl ?_
  refine j_iload_n dX4_refuse_5 rfl rfl ?_
  refine j_iconst (v := 0) dX4_refuse_6 rfl (by decide) ?_
  refine j_bipush (v := 6) dX4_refuse_7 rfl (by decide) ?_
  refine o_callS_i kX4_55 dX4_refuse_9 rfl (tX4_isWithin  rfl) rfl rfl (Nat.le_of_ble_eq_true rfl) (by decide) ?_
  refine j_if_eq (tgt := 25) dX4_refuse_12 rfl (by decide) (fun c1 => ?_) (fun c1 => ?_)
  · have hm := jif_pos c1 hm
    refine j_iload_n dX4_refuse_25 rfl rfl ?_
    exact j_ireturn dX4_refuse_26 rfl rfl ⟨Nat.le_refl _, Nat.le_refl _⟩ (jf_m (fun z => .int z) hm)
  · have hm := jif_neg c1 hm
    refine j_aload_n dX4_refuse_15 rfl rfl ?_
    refine m_getr (k := 6) (r := 47) fX4_43 dX4_refuse_16 rfl rfl rfl ?_
    refine j_iload_n dX4_refuse_19 rfl rfl ?_
    refine j_dup2 dX4_refuse_20 rfl rfl rfl ?_
    obtain ⟨g2, hm⟩ := jg_of hm
    refine o_iald (k := (Int32.toNatClampNeg ((-1000000001 : Int32) - a1))) rfl dX4_refuse_21 rfl rfl (jin_vp g2) ?_
    refine j_iconst (v := 1) dX4_refuse_22 rfl (by decide) ?_
    refine j_iadd dX4_refuse_23 rfl ?_
    refine o_iast (k := (Int32.toNatClampNeg ((-1000000001 : Int32) - a1))) rfl dX4_refuse_24 rfl rfl (jin_vp g2) ?_
    obtain ⟨V3, eV3⟩ : ∃ y, y = (jsI V 47 (Int32.toNatClampNeg ((-1000000001 : Int32) - a1)) ((V.1 47 (Int32.toNatClampNeg ((-1000000001 : Int32) - a1))) + (1 : Int32))) := ⟨_, rfl⟩
    have hm := jl_of hm eV3
    rw [← eV3]
    refine j_iload_n dX4_refuse_25 rfl rfl ?_
    exact j_ireturn dX4_refuse_26 rfl rfl ⟨Nat.le_refl _, Nat.le_refl _⟩ (jf_m (fun z => .int z) hm)
theorem dX4_field_0 : decode cX4_field 0 = .ok (.iload_n 1, 1) := by decide +kernel
theorem dX4_field_1 : decode cX4_field 1 = .ok (.invokestatic 51, 3) := by decide +kernel
theorem dX4_field_4 : decode cX4_field 4 = .ok (.ifCond .eq 14, 3) := by decide +kernel
theorem dX4_field_7 : decode cX4_field 7 = .ok (.iload_n 2, 1) := by decide +kernel
theorem dX4_field_8 : decode cX4_field 8 = .ok (.iconst 1, 1) := by decide +kernel
theorem dX4_field_9 : decode cX4_field 9 = .ok (.sipush 9999, 3) := by decide +kernel
theorem dX4_field_12 : decode cX4_field 12 = .ok (.invokestatic 55, 3) := by decide +kernel
theorem dX4_field_15 : decode cX4_field 15 = .ok (.ifCond .ne 10, 3) := by decide +kernel
theorem dX4_field_18 : decode cX4_field 18 = .ok (.aload_n 0, 1) := by decide +kernel
theorem dX4_field_19 : decode cX4_field 19 = .ok (.ldc 59, 2) := by decide +kernel
theorem dX4_field_21 : decode cX4_field 21 = .ok (.invokevirtual 60, 3) := by decide +kernel
theorem dX4_field_24 : decode cX4_field 24 = .ok (.ireturn, 1) := by decide +kernel
theorem dX4_field_25 : decode cX4_field 25 = .ok (.aload_n 0, 1) := by decide +kernel
theorem dX4_field_26 : decode cX4_field 26 = .ok (.getfield 12, 3) := by decide +kernel
theorem dX4_field_29 : decode cX4_field 29 = .ok (.getfield 64, 3) := by decide +kernel
theorem dX4_field_32 : decode cX4_field 32 = .ok (.bipush 14, 2) := by decide +kernel
theorem dX4_field_34 : decode cX4_field 34 = .ok (.if_icmp .lt 10, 3) := by decide +kernel
theorem dX4_field_37 : decode cX4_field 37 = .ok (.aload_n 0, 1) := by decide +kernel
theorem dX4_field_38 : decode cX4_field 38 = .ok (.ldc 68, 2) := by decide +kernel
theorem dX4_field_40 : decode cX4_field 40 = .ok (.invokevirtual 60, 3) := by decide +kernel
theorem dX4_field_43 : decode cX4_field 43 = .ok (.ireturn, 1) := by decide +kernel
theorem dX4_field_44 : decode cX4_field 44 = .ok (.aload_n 0, 1) := by decide +kernel
theorem dX4_field_45 : decode cX4_field 45 = .ok (.getfield 12, 3) := by decide +kernel
theorem dX4_field_48 : decode cX4_field 48 = .ok (.iload_n 1, 1) := by decide +kernel
theorem dX4_field_49 : decode cX4_field 49 = .ok (.iload_n 2, 1) := by decide +kernel
theorem dX4_field_50 : decode cX4_field 50 = .ok (.invokevirtual 69, 3) := by decide +kernel
theorem dX4_field_53 : decode cX4_field 53 = .ok (.ireturn, 1) := by decide +kernel
def mX4_field_b18   (V : jMem) : Option (Int32 × jMem) := ((mX4_refuse (-1000000001 : Int32) V).bind (fun (p1 : Int32 × jMem) => (some (p1.1, p1.2))))
set_option maxHeartbeats 4000000 in
set_option maxRecDepth 20000 in
theorem tX4_field_b18 {l : Launch} {Z : jZ} {q : Nat → Nat} {V : jMem} {r : Int32} {V' : jMem}    (hm : mX4_field_b18 V = some (r, V')) : J l Z RX4 "field" cX4_field 3 (some .int) 2 0 0 (fun r' w => r' = some (.int r) ∧ w = jw Z q V' dX) 18 [(0, .ref (q 0))] [] (jw Z q V dX) 0 0 := by
  unfold mX4_field_b18 at hm
  refine j_aload_n dX4_field_18 rfl rfl ?_
  refine j_ldc dX4_field_19 rfl wX4_59 ?_
  obtain ⟨p1, ep1, hm⟩ := jb_of hm
  refine o_callV_i kX4_60 dX4_field_21 rfl (tX4_refuse  ep1) rfl rfl rfl rfl rfl (Nat.le_of_ble_eq_true rfl) (by decide) ?_
  exact j_ireturn dX4_field_24 rfl rfl ⟨Nat.le_refl _, Nat.le_refl _⟩ (jf_m (fun z => .int z) hm)
def mX4_field (a1 : Int32) (a2 : Int32) (V : jMem) : Option (Int32 × jMem) := (if (mX4_isKind a1) = (0 : Int32) then (mX4_field_b18 V) else (if (mX4_isWithin a2 (1 : Int32) (9999 : Int32)) = (0 : Int32) then (mX4_field_b18 V) else (if (V.1 1 0) < (14 : Int32) then ((mX0_addField a1 a2 V).bind (fun (p4 : Int32 × jMem) => (some (p4.1, p4.2)))) else ((mX4_refuse (-1000000002 : Int32) V).bind (fun (p5 : Int32 × jMem) => (some (p5.1, p5.2)))))))
set_option maxHeartbeats 4000000 in
set_option maxRecDepth 20000 in
theorem tX4_field {l : Launch} {Z : jZ} {q : Nat → Nat} {a1 : Int32} {a2 : Int32} {V : jMem} {r : Int32} {V' : jMem}  (hm : mX4_field a1 a2 V = some (r, V')) : CtD l Z yX4_field cX4_field 3 (some .int) 2 q dX [.ref (q 0), .int a1, .int a2] V (some (.int r)) V' := by
  refine Ct_of (L := [(0, .ref (q 0)), (1, .int a1), (2, .int a2)]) (own := RX4) (nm := "field") rfl rfl (by decide +kernel) rfl (Nat.le_of_ble_eq_true rfl) ?_
  unfold mX4_field at hm
  refine j_iload_n dX4_field_0 rfl rfl ?_
  refine o_callS_i kX4_51 dX4_field_1 rfl (tX4_isKind  rfl) rfl rfl (Nat.le_of_ble_eq_true rfl) (by decide) ?_
  refine j_if_eq (tgt := 18) dX4_field_4 rfl (by decide) (fun c1 => ?_) (fun c1 => ?_)
  · have hm := jif_pos c1 hm
    refine j_sub (L' := [(0, _)]) [0] rfl ?_
    exact tX4_field_b18    hm
  · have hm := jif_neg c1 hm
    refine j_iload_n dX4_field_7 rfl rfl ?_
    refine j_iconst (v := 1) dX4_field_8 rfl (by decide) ?_
    refine j_sipush (v := 9999) dX4_field_9 rfl (by decide) ?_
    refine o_callS_i kX4_55 dX4_field_12 rfl (tX4_isWithin  rfl) rfl rfl (Nat.le_of_ble_eq_true rfl) (by decide) ?_
    refine j_if_ne (tgt := 25) dX4_field_15 rfl (by decide) (fun c2 => ?_) (fun c2 => ?_)
    · have hm := jif_neg c2 hm
      refine j_aload_n dX4_field_25 rfl rfl ?_
      refine m_getr (k := 0) (r := 1) fX4_12 dX4_field_26 rfl rfl rfl ?_
      refine m_geti (k := 0) fX4_64 dX4_field_29 rfl rfl rfl ?_
      refine j_bipush (v := 14) dX4_field_32 rfl (by decide) ?_
      refine j_icmp_lt (tgt := 44) dX4_field_34 rfl (by decide) (fun c3 => ?_) (fun c3 => ?_)
      · have hm := jif_pos c3 hm
        refine j_aload_n dX4_field_44 rfl rfl ?_
        refine m_getr (k := 0) (r := 1) fX4_12 dX4_field_45 rfl rfl rfl ?_
        refine j_iload_n dX4_field_48 rfl rfl ?_
        refine j_iload_n dX4_field_49 rfl rfl ?_
        obtain ⟨p4, ep4, hm⟩ := jb_of hm
        refine o_callV_i kX4_69 dX4_field_50 rfl (tX0_addField  ep4) rfl rfl rfl rfl rfl (Nat.le_of_ble_eq_true rfl) (by decide) ?_
        exact j_ireturn dX4_field_53 rfl rfl ⟨Nat.le_refl _, Nat.le_refl _⟩ (jf_m (fun z => .int z) hm)
      · have hm := jif_neg c3 hm
        refine j_aload_n dX4_field_37 rfl rfl ?_
        refine j_ldc dX4_field_38 rfl wX4_68 ?_
        obtain ⟨p5, ep5, hm⟩ := jb_of hm
        refine o_callV_i kX4_60 dX4_field_40 rfl (tX4_refuse  ep5) rfl rfl rfl rfl rfl (Nat.le_of_ble_eq_true rfl) (by decide) ?_
        exact j_ireturn dX4_field_43 rfl rfl ⟨Nat.le_refl _, Nat.le_refl _⟩ (jf_m (fun z => .int z) hm)
    · have hm := jif_pos c2 hm
      refine j_sub (L' := [(0, _)]) [0] rfl ?_
      exact tX4_field_b18    hm
theorem dX4_of_0 : decode cX4_of 0 = .ok (.aload_n 0, 1) := by decide +kernel
theorem dX4_of_1 : decode cX4_of 1 = .ok (.getfield 12, 3) := by decide +kernel
theorem dX4_of_4 : decode cX4_of 4 = .ok (.iload_n 1, 1) := by decide +kernel
theorem dX4_of_5 : decode cX4_of 5 = .ok (.invokevirtual 73, 3) := by decide +kernel
theorem dX4_of_8 : decode cX4_of 8 = .ok (.ifCond .ne 10, 3) := by decide +kernel
theorem dX4_of_11 : decode cX4_of 11 = .ok (.aload_n 0, 1) := by decide +kernel
theorem dX4_of_12 : decode cX4_of 12 = .ok (.ldc 59, 2) := by decide +kernel
theorem dX4_of_14 : decode cX4_of 14 = .ok (.invokevirtual 60, 3) := by decide +kernel
theorem dX4_of_17 : decode cX4_of 17 = .ok (.ireturn, 1) := by decide +kernel
theorem dX4_of_18 : decode cX4_of 18 = .ok (.iload_n 2, 1) := by decide +kernel
theorem dX4_of_19 : decode cX4_of 19 = .ok (.tableswitch 147 0 7 #[45, 55, 65, 75, 85, 94, 103, 119], 45) := by decide +kernel
theorem dX4_of_64 : decode cX4_of 64 = .ok (.aload_n 0, 1) := by decide +kernel
theorem dX4_of_65 : decode cX4_of 65 = .ok (.getfield 12, 3) := by decide +kernel
theorem dX4_of_68 : decode cX4_of 68 = .ok (.getfield 76, 3) := by decide +kernel
theorem dX4_of_71 : decode cX4_of 71 = .ok (.iload_n 1, 1) := by decide +kernel
theorem dX4_of_72 : decode cX4_of 72 = .ok (.iaload, 1) := by decide +kernel
theorem dX4_of_73 : decode cX4_of 73 = .ok (.ireturn, 1) := by decide +kernel
theorem dX4_of_74 : decode cX4_of 74 = .ok (.aload_n 0, 1) := by decide +kernel
theorem dX4_of_75 : decode cX4_of 75 = .ok (.getfield 12, 3) := by decide +kernel
theorem dX4_of_78 : decode cX4_of 78 = .ok (.getfield 79, 3) := by decide +kernel
theorem dX4_of_81 : decode cX4_of 81 = .ok (.iload_n 1, 1) := by decide +kernel
theorem dX4_of_82 : decode cX4_of 82 = .ok (.iaload, 1) := by decide +kernel
theorem dX4_of_83 : decode cX4_of 83 = .ok (.ireturn, 1) := by decide +kernel
theorem dX4_of_84 : decode cX4_of 84 = .ok (.aload_n 0, 1) := by decide +kernel
theorem dX4_of_85 : decode cX4_of 85 = .ok (.getfield 12, 3) := by decide +kernel
theorem dX4_of_88 : decode cX4_of 88 = .ok (.getfield 82, 3) := by decide +kernel
theorem dX4_of_91 : decode cX4_of 91 = .ok (.iload_n 1, 1) := by decide +kernel
theorem dX4_of_92 : decode cX4_of 92 = .ok (.iaload, 1) := by decide +kernel
theorem dX4_of_93 : decode cX4_of 93 = .ok (.ireturn, 1) := by decide +kernel
theorem dX4_of_94 : decode cX4_of 94 = .ok (.aload_n 0, 1) := by decide +kernel
theorem dX4_of_95 : decode cX4_of 95 = .ok (.getfield 12, 3) := by decide +kernel
theorem dX4_of_98 : decode cX4_of 98 = .ok (.getfield 85, 3) := by decide +kernel
theorem dX4_of_101 : decode cX4_of 101 = .ok (.iload_n 1, 1) := by decide +kernel
theorem dX4_of_102 : decode cX4_of 102 = .ok (.iaload, 1) := by decide +kernel
theorem dX4_of_103 : decode cX4_of 103 = .ok (.ireturn, 1) := by decide +kernel
theorem dX4_of_104 : decode cX4_of 104 = .ok (.aload_n 0, 1) := by decide +kernel
theorem dX4_of_105 : decode cX4_of 105 = .ok (.getfield 12, 3) := by decide +kernel
theorem dX4_of_108 : decode cX4_of 108 = .ok (.iload_n 1, 1) := by decide +kernel
theorem dX4_of_109 : decode cX4_of 109 = .ok (.invokevirtual 88, 3) := by decide +kernel
theorem dX4_of_112 : decode cX4_of 112 = .ok (.ireturn, 1) := by decide +kernel
theorem dX4_of_113 : decode cX4_of 113 = .ok (.aload_n 0, 1) := by decide +kernel
theorem dX4_of_114 : decode cX4_of 114 = .ok (.getfield 12, 3) := by decide +kernel
theorem dX4_of_117 : decode cX4_of 117 = .ok (.iload_n 1, 1) := by decide +kernel
theorem dX4_of_118 : decode cX4_of 118 = .ok (.invokevirtual 91, 3) := by decide +kernel
theorem dX4_of_121 : decode cX4_of 121 = .ok (.ireturn, 1) := by decide +kernel
theorem dX4_of_122 : decode cX4_of 122 = .ok (.aload_n 0, 1) := by decide +kernel
theorem dX4_of_123 : decode cX4_of 123 = .ok (.getfield 12, 3) := by decide +kernel
theorem dX4_of_126 : decode cX4_of 126 = .ok (.iload_n 1, 1) := by decide +kernel
theorem dX4_of_127 : decode cX4_of 127 = .ok (.aload_n 0, 1) := by decide +kernel
theorem dX4_of_128 : decode cX4_of 128 = .ok (.getfield 12, 3) := by decide +kernel
theorem dX4_of_131 : decode cX4_of 131 = .ok (.getfield 94, 3) := by decide +kernel
theorem dX4_of_134 : decode cX4_of 134 = .ok (.invokevirtual 97, 3) := by decide +kernel
theorem dX4_of_137 : decode cX4_of 137 = .ok (.ireturn, 1) := by decide +kernel
theorem dX4_of_138 : decode cX4_of 138 = .ok (.aload_n 0, 1) := by decide +kernel
theorem dX4_of_139 : decode cX4_of 139 = .ok (.getfield 12, 3) := by decide +kernel
theorem dX4_of_142 : decode cX4_of 142 = .ok (.getfield 82, 3) := by decide +kernel
theorem dX4_of_145 : decode cX4_of 145 = .ok (.iload_n 1, 1) := by decide +kernel
theorem dX4_of_146 : decode cX4_of 146 = .ok (.iaload, 1) := by decide +kernel
theorem dX4_of_147 : decode cX4_of 147 = .ok (.aload_n 0, 1) := by decide +kernel
theorem dX4_of_148 : decode cX4_of 148 = .ok (.getfield 12, 3) := by decide +kernel
theorem dX4_of_151 : decode cX4_of 151 = .ok (.iload_n 1, 1) := by decide +kernel
theorem dX4_of_152 : decode cX4_of 152 = .ok (.aload_n 0, 1) := by decide +kernel
theorem dX4_of_153 : decode cX4_of 153 = .ok (.getfield 12, 3) := by decide +kernel
theorem dX4_of_156 : decode cX4_of 156 = .ok (.getfield 94, 3) := by decide +kernel
theorem dX4_of_159 : decode cX4_of 159 = .ok (.invokevirtual 97, 3) := by decide +kernel
theorem dX4_of_162 : decode cX4_of 162 = .ok (.invokestatic 100, 3) := by decide +kernel
theorem dX4_of_165 : decode cX4_of 165 = .ok (.ireturn, 1) := by decide +kernel
theorem dX4_of_166 : decode cX4_of 166 = .ok (.aload_n 0, 1) := by decide +kernel
theorem dX4_of_167 : decode cX4_of 167 = .ok (.ldc 59, 2) := by decide +kernel
theorem dX4_of_169 : decode cX4_of 169 = .ok (.invokevirtual 60, 3) := by decide +kernel
theorem dX4_of_172 : decode cX4_of 172 = .ok (.ireturn, 1) := by decide +kernel
def mX4_of (a1 : Int32) (a2 : Int32) (V : jMem) : Option (Int32 × jMem) := (if (mX0_hasField a1 V) = (0 : Int32) then ((mX4_refuse (-1000000001 : Int32) V).bind (fun (p19 : Int32 × jMem) => (some (p19.1, p19.2)))) else (if a2 = (0 : Int32) then (jg (jin a1 14) (some ((V.1 2 (Int32.toNatClampNeg a1)), V))) else (if a2 = (1 : Int32) then (jg (jin a1 14) (some ((V.1 3 (Int32.toNatClampNeg a1)), V))) else (if a2 = (2 : Int32) then (jg (jin a1 14) (some ((V.1 4 (Int32.toNatClampNeg a1)), V))) else (if a2 = (3 : Int32) then (jg (jin a1 14) (some ((V.1 5 (Int32.toNatClampNeg a1)), V))) else (if a2 = (4 : Int32) then (some ((mX0_holderOf a1 V), V)) else (if a2 = (5 : Int32) then ((mX0_priceNow a1 V).bind (fun (r12 : Int32) => (some (r12, V)))) else (if a2 = (6 : Int32) then ((mX0_heardBy a1 (V.1 1 5) V).bind (fun (r14 : Int32) => (some (r14, V)))) else (if a2 = (7 : Int32) then (jg (jin a1 14) ((mX0_heardBy a1 (V.1 1 5) V).bind (fun (r17 : Int32) => (some ((mX4_wareOf (V.1 4 (Int32.toNatClampNeg a1)) r17), V))))) else ((mX4_refuse (-1000000001 : Int32) V).bind (fun (p18 : Int32 × jMem) => (some (p18.1, p18.2)))))))))))))
set_option maxHeartbeats 4000000 in
set_option maxRecDepth 20000 in
theorem tX4_of {l : Launch} {Z : jZ} {q : Nat → Nat} {a1 : Int32} {a2 : Int32} {V : jMem} {r : Int32} {V' : jMem}  (hm : mX4_of a1 a2 V = some (r, V')) : CtD l Z yX4_of cX4_of 3 (some .int) 6 q dX [.ref (q 0), .int a1, .int a2] V (some (.int r)) V' := by
  refine Ct_of (L := [(0, .ref (q 0)), (1, .int a1), (2, .int a2)]) (own := RX4) (nm := "of") rfl rfl (by decide +kernel) rfl (Nat.le_of_ble_eq_true rfl) ?_
  unfold mX4_of at hm
  refine j_aload_n dX4_of_0 rfl rfl ?_
  refine m_getr (k := 0) (r := 1) fX4_12 dX4_of_1 rfl rfl rfl ?_
  refine j_iload_n dX4_of_4 rfl rfl ?_
  refine o_callV_i kX4_73 dX4_of_5 rfl (tX0_hasField  rfl) rfl rfl rfl rfl rfl (Nat.le_of_ble_eq_true rfl) (by decide) ?_
  refine j_if_ne (tgt := 18) dX4_of_8 rfl (by decide) (fun c1 => ?_) (fun c1 => ?_)
  · have hm := jif_neg c1 hm
    refine j_iload_n dX4_of_18 rfl rfl ?_
    by_cases c2 : a2 = (0 : Int32)
    · have hm := jif_pos c2 hm
      refine j_ts_in (z := 0) (off := 45) (tgt := 64) dX4_of_19 (j_ts_lit c2 (by decide)) (by decide) (by decide) rfl (by decide) ?_
      refine j_aload_n dX4_of_64 rfl rfl ?_
      refine m_getr (k := 0) (r := 1) fX4_12 dX4_of_65 rfl rfl rfl ?_
      refine m_getr (k := 1) (r := 2) fX4_76 dX4_of_68 rfl rfl rfl ?_
      refine j_iload_n dX4_of_71 rfl rfl ?_
      obtain ⟨g3, hm⟩ := jg_of hm
      refine o_iald (k := (Int32.toNatClampNeg a1)) rfl dX4_of_72 rfl rfl (jin_vp g3) ?_
      exact j_ireturn dX4_of_73 rfl rfl ⟨Nat.le_refl _, Nat.le_refl _⟩ (jf_m (fun z => .int z) hm)
    have hm := jif_neg c2 hm
    by_cases c4 : a2 = (1 : Int32)
    · have hm := jif_pos c4 hm
      refine j_ts_in (z := 1) (off := 55) (tgt := 74) dX4_of_19 (j_ts_lit c4 (by decide)) (by decide) (by decide) rfl (by decide) ?_
      refine j_aload_n dX4_of_74 rfl rfl ?_
      refine m_getr (k := 0) (r := 1) fX4_12 dX4_of_75 rfl rfl rfl ?_
      refine m_getr (k := 2) (r := 3) fX4_79 dX4_of_78 rfl rfl rfl ?_
      refine j_iload_n dX4_of_81 rfl rfl ?_
      obtain ⟨g5, hm⟩ := jg_of hm
      refine o_iald (k := (Int32.toNatClampNeg a1)) rfl dX4_of_82 rfl rfl (jin_vp g5) ?_
      exact j_ireturn dX4_of_83 rfl rfl ⟨Nat.le_refl _, Nat.le_refl _⟩ (jf_m (fun z => .int z) hm)
    have hm := jif_neg c4 hm
    by_cases c6 : a2 = (2 : Int32)
    · have hm := jif_pos c6 hm
      refine j_ts_in (z := 2) (off := 65) (tgt := 84) dX4_of_19 (j_ts_lit c6 (by decide)) (by decide) (by decide) rfl (by decide) ?_
      refine j_aload_n dX4_of_84 rfl rfl ?_
      refine m_getr (k := 0) (r := 1) fX4_12 dX4_of_85 rfl rfl rfl ?_
      refine m_getr (k := 3) (r := 4) fX4_82 dX4_of_88 rfl rfl rfl ?_
      refine j_iload_n dX4_of_91 rfl rfl ?_
      obtain ⟨g7, hm⟩ := jg_of hm
      refine o_iald (k := (Int32.toNatClampNeg a1)) rfl dX4_of_92 rfl rfl (jin_vp g7) ?_
      exact j_ireturn dX4_of_93 rfl rfl ⟨Nat.le_refl _, Nat.le_refl _⟩ (jf_m (fun z => .int z) hm)
    have hm := jif_neg c6 hm
    by_cases c8 : a2 = (3 : Int32)
    · have hm := jif_pos c8 hm
      refine j_ts_in (z := 3) (off := 75) (tgt := 94) dX4_of_19 (j_ts_lit c8 (by decide)) (by decide) (by decide) rfl (by decide) ?_
      refine j_aload_n dX4_of_94 rfl rfl ?_
      refine m_getr (k := 0) (r := 1) fX4_12 dX4_of_95 rfl rfl rfl ?_
      refine m_getr (k := 4) (r := 5) fX4_85 dX4_of_98 rfl rfl rfl ?_
      refine j_iload_n dX4_of_101 rfl rfl ?_
      obtain ⟨g9, hm⟩ := jg_of hm
      refine o_iald (k := (Int32.toNatClampNeg a1)) rfl dX4_of_102 rfl rfl (jin_vp g9) ?_
      exact j_ireturn dX4_of_103 rfl rfl ⟨Nat.le_refl _, Nat.le_refl _⟩ (jf_m (fun z => .int z) hm)
    have hm := jif_neg c8 hm
    by_cases c10 : a2 = (4 : Int32)
    · have hm := jif_pos c10 hm
      refine j_ts_in (z := 4) (off := 85) (tgt := 104) dX4_of_19 (j_ts_lit c10 (by decide)) (by decide) (by decide) rfl (by decide) ?_
      refine j_aload_n dX4_of_104 rfl rfl ?_
      refine m_getr (k := 0) (r := 1) fX4_12 dX4_of_105 rfl rfl rfl ?_
      refine j_iload_n dX4_of_108 rfl rfl ?_
      refine o_callV_i kX4_88 dX4_of_109 rfl (tX0_holderOf  rfl) rfl rfl rfl rfl rfl (Nat.le_of_ble_eq_true rfl) (by decide) ?_
      exact j_ireturn dX4_of_112 rfl rfl ⟨Nat.le_refl _, Nat.le_refl _⟩ (jf_m (fun z => .int z) hm)
    have hm := jif_neg c10 hm
    by_cases c11 : a2 = (5 : Int32)
    · have hm := jif_pos c11 hm
      refine j_ts_in (z := 5) (off := 94) (tgt := 113) dX4_of_19 (j_ts_lit c11 (by decide)) (by decide) (by decide) rfl (by decide) ?_
      refine j_aload_n dX4_of_113 rfl rfl ?_
      refine m_getr (k := 0) (r := 1) fX4_12 dX4_of_114 rfl rfl rfl ?_
      refine j_iload_n dX4_of_117 rfl rfl ?_
      obtain ⟨r12, er12, hm⟩ := jb_of hm
      refine o_callV_i kX4_91 dX4_of_118 rfl (tX0_priceNow  er12) rfl rfl rfl rfl rfl (Nat.le_of_ble_eq_true rfl) (by decide) ?_
      exact j_ireturn dX4_of_121 rfl rfl ⟨Nat.le_refl _, Nat.le_refl _⟩ (jf_m (fun z => .int z) hm)
    have hm := jif_neg c11 hm
    by_cases c13 : a2 = (6 : Int32)
    · have hm := jif_pos c13 hm
      refine j_ts_in (z := 6) (off := 103) (tgt := 122) dX4_of_19 (j_ts_lit c13 (by decide)) (by decide) (by decide) rfl (by decide) ?_
      refine j_aload_n dX4_of_122 rfl rfl ?_
      refine m_getr (k := 0) (r := 1) fX4_12 dX4_of_123 rfl rfl rfl ?_
      refine j_iload_n dX4_of_126 rfl rfl ?_
      refine j_aload_n dX4_of_127 rfl rfl ?_
      refine m_getr (k := 0) (r := 1) fX4_12 dX4_of_128 rfl rfl rfl ?_
      refine m_geti (k := 5) fX4_94 dX4_of_131 rfl rfl rfl ?_
      obtain ⟨r14, er14, hm⟩ := jb_of hm
      refine o_callV_i kX4_97 dX4_of_134 rfl (tX0_heardBy  er14) rfl rfl rfl rfl rfl (Nat.le_of_ble_eq_true rfl) (by decide) ?_
      exact j_ireturn dX4_of_137 rfl rfl ⟨Nat.le_refl _, Nat.le_refl _⟩ (jf_m (fun z => .int z) hm)
    have hm := jif_neg c13 hm
    by_cases c15 : a2 = (7 : Int32)
    · have hm := jif_pos c15 hm
      refine j_ts_in (z := 7) (off := 119) (tgt := 138) dX4_of_19 (j_ts_lit c15 (by decide)) (by decide) (by decide) rfl (by decide) ?_
      refine j_aload_n dX4_of_138 rfl rfl ?_
      refine m_getr (k := 0) (r := 1) fX4_12 dX4_of_139 rfl rfl rfl ?_
      refine m_getr (k := 3) (r := 4) fX4_82 dX4_of_142 rfl rfl rfl ?_
      refine j_iload_n dX4_of_145 rfl rfl ?_
      obtain ⟨g16, hm⟩ := jg_of hm
      refine o_iald (k := (Int32.toNatClampNeg a1)) rfl dX4_of_146 rfl rfl (jin_vp g16) ?_
      refine j_aload_n dX4_of_147 rfl rfl ?_
      refine m_getr (k := 0) (r := 1) fX4_12 dX4_of_148 rfl rfl rfl ?_
      refine j_iload_n dX4_of_151 rfl rfl ?_
      refine j_aload_n dX4_of_152 rfl rfl ?_
      refine m_getr (k := 0) (r := 1) fX4_12 dX4_of_153 rfl rfl rfl ?_
      refine m_geti (k := 5) fX4_94 dX4_of_156 rfl rfl rfl ?_
      obtain ⟨r17, er17, hm⟩ := jb_of hm
      refine o_callV_i kX4_97 dX4_of_159 rfl (tX0_heardBy  er17) rfl rfl rfl rfl rfl (Nat.le_of_ble_eq_true rfl) (by decide) ?_
      refine o_callS_i kX4_100 dX4_of_162 rfl (tX4_wareOf  rfl) rfl rfl (Nat.le_of_ble_eq_true rfl) (by decide) ?_
      exact j_ireturn dX4_of_165 rfl rfl ⟨Nat.le_refl _, Nat.le_refl _⟩ (jf_m (fun z => .int z) hm)
    have hm := jif_neg c15 hm
    refine j_ts_out (tgt := 166) dX4_of_19 (by have := j_ts_ne (k := 0) c2 (by decide); have := j_ts_ne (k := 1) c4 (by decide); have := j_ts_ne (k := 2) c6 (by decide); have := j_ts_ne (k := 3) c8 (by decide); have := j_ts_ne (k := 4) c10 (by decide); have := j_ts_ne (k := 5) c11 (by decide); have := j_ts_ne (k := 6) c13 (by decide); have := j_ts_ne (k := 7) c15 (by decide); omega) (by decide) ?_
    refine j_aload_n dX4_of_166 rfl rfl ?_
    refine j_ldc dX4_of_167 rfl wX4_59 ?_
    obtain ⟨p18, ep18, hm⟩ := jb_of hm
    refine o_callV_i kX4_60 dX4_of_169 rfl (tX4_refuse  ep18) rfl rfl rfl rfl rfl (Nat.le_of_ble_eq_true rfl) (by decide) ?_
    exact j_ireturn dX4_of_172 rfl rfl ⟨Nat.le_refl _, Nat.le_refl _⟩ (jf_m (fun z => .int z) hm)
  · have hm := jif_pos c1 hm
    refine j_aload_n dX4_of_11 rfl rfl ?_
    refine j_ldc dX4_of_12 rfl wX4_59 ?_
    obtain ⟨p19, ep19, hm⟩ := jb_of hm
    refine o_callV_i kX4_60 dX4_of_14 rfl (tX4_refuse  ep19) rfl rfl rfl rfl rfl (Nat.le_of_ble_eq_true rfl) (by decide) ?_
    exact j_ireturn dX4_of_17 rfl rfl ⟨Nat.le_refl _, Nat.le_refl _⟩ (jf_m (fun z => .int z) hm)
theorem dX4_swap_0 : decode cX4_swap 0 = .ok (.aload_n 0, 1) := by decide +kernel
theorem dX4_swap_1 : decode cX4_swap 1 = .ok (.iload_n 1, 1) := by decide +kernel
theorem dX4_swap_2 : decode cX4_swap 2 = .ok (.iaload, 1) := by decide +kernel
theorem dX4_swap_3 : decode cX4_swap 3 = .ok (.istore_n 3, 1) := by decide +kernel
theorem dX4_swap_4 : decode cX4_swap 4 = .ok (.aload_n 0, 1) := by decide +kernel
theorem dX4_swap_5 : decode cX4_swap 5 = .ok (.iload_n 1, 1) := by decide +kernel
theorem dX4_swap_6 : decode cX4_swap 6 = .ok (.iload_n 2, 1) := by decide +kernel
theorem dX4_swap_7 : decode cX4_swap 7 = .ok (.iastore, 1) := by decide +kernel
theorem dX4_swap_8 : decode cX4_swap 8 = .ok (.iload_n 3, 1) := by decide +kernel
theorem dX4_swap_9 : decode cX4_swap 9 = .ok (.ireturn, 1) := by decide +kernel
def mX4_swap (p : Nat) (pn : Nat) (a1 : Int32) (a2 : Int32) (V : jMem) : Option (Int32 × jMem) := (jg (jin a1 pn) (jl (jsI V p (Int32.toNatClampNeg a1) a2) (fun (V2 : jMem) => (some ((V.1 p (Int32.toNatClampNeg a1)), V2)))))
set_option maxHeartbeats 4000000 in
set_option maxRecDepth 20000 in
theorem tX4_swap {l : Launch} {Z : jZ} {q : Nat → Nat} {p : Nat} {pn : Nat} {a1 : Int32} {a2 : Int32} {V : jMem} {r : Int32} {V' : jMem} (hp : dX[p]? = some (.inr (0, pn))) (hm : mX4_swap p pn a1 a2 V = some (r, V')) : CtD l Z yX4_swap cX4_swap 4 (some .int) 0 q dX [.ref (q p), .int a1, .int a2] V (some (.int r)) V' := by
  refine Ct_of (L := [(0, .ref (q p)), (1, .int a1), (2, .int a2)]) (own := RX4) (nm := "swap") rfl rfl (by decide +kernel) rfl (Nat.le_of_ble_eq_true rfl) ?_
  unfold mX4_swap at hm
  refine j_aload_n dX4_swap_0 rfl rfl ?_
  refine j_iload_n dX4_swap_1 rfl rfl ?_
  obtain ⟨g1, hm⟩ := jg_of hm
  refine o_iald (k := (Int32.toNatClampNeg a1)) rfl dX4_swap_2 rfl hp (jin_vp g1) ?_
  refine j_istore_n (i := 3) (L' := [(3, _), (0, _), (1, _), (2, _)]) dX4_swap_3 rfl rfl (by decide) rfl ?_
  refine j_aload_n dX4_swap_4 rfl rfl ?_
  refine j_iload_n dX4_swap_5 rfl rfl ?_
  refine j_iload_n dX4_swap_6 rfl rfl ?_
  refine o_iast (k := (Int32.toNatClampNeg a1)) rfl dX4_swap_7 rfl hp (jin_vp g1) ?_
  obtain ⟨V2, eV2⟩ : ∃ y, y = (jsI V p (Int32.toNatClampNeg a1) a2) := ⟨_, rfl⟩
  have hm := jl_of hm eV2
  rw [← eV2]
  refine j_iload_n dX4_swap_8 rfl rfl ?_
  exact j_ireturn dX4_swap_9 rfl rfl ⟨Nat.le_refl _, Nat.le_refl _⟩ (jf_m (fun z => .int z) hm)
theorem dX4_set_0 : decode cX4_set 0 = .ok (.aload_n 0, 1) := by decide +kernel
theorem dX4_set_1 : decode cX4_set 1 = .ok (.getfield 12, 3) := by decide +kernel
theorem dX4_set_4 : decode cX4_set 4 = .ok (.iload_n 1, 1) := by decide +kernel
theorem dX4_set_5 : decode cX4_set 5 = .ok (.invokevirtual 73, 3) := by decide +kernel
theorem dX4_set_8 : decode cX4_set 8 = .ok (.ifCond .ne 10, 3) := by decide +kernel
theorem dX4_set_11 : decode cX4_set 11 = .ok (.aload_n 0, 1) := by decide +kernel
theorem dX4_set_12 : decode cX4_set 12 = .ok (.ldc 59, 2) := by decide +kernel
theorem dX4_set_14 : decode cX4_set 14 = .ok (.invokevirtual 60, 3) := by decide +kernel
theorem dX4_set_17 : decode cX4_set 17 = .ok (.ireturn, 1) := by decide +kernel
theorem dX4_set_18 : decode cX4_set 18 = .ok (.iload_n 2, 1) := by decide +kernel
theorem dX4_set_19 : decode cX4_set 19 = .ok (.tableswitch 123 1 3 #[25, 58, 90], 25) := by decide +kernel
theorem dX4_set_44 : decode cX4_set 44 = .ok (.iload_n 3, 1) := by decide +kernel
theorem dX4_set_45 : decode cX4_set 45 = .ok (.iconst 1, 1) := by decide +kernel
theorem dX4_set_46 : decode cX4_set 46 = .ok (.sipush 9999, 3) := by decide +kernel
theorem dX4_set_49 : decode cX4_set 49 = .ok (.invokestatic 55, 3) := by decide +kernel
theorem dX4_set_52 : decode cX4_set 52 = .ok (.ifCond .eq 18, 3) := by decide +kernel
theorem dX4_set_55 : decode cX4_set 55 = .ok (.aload_n 0, 1) := by decide +kernel
theorem dX4_set_56 : decode cX4_set 56 = .ok (.getfield 12, 3) := by decide +kernel
theorem dX4_set_59 : decode cX4_set 59 = .ok (.getfield 79, 3) := by decide +kernel
theorem dX4_set_62 : decode cX4_set 62 = .ok (.iload_n 1, 1) := by decide +kernel
theorem dX4_set_63 : decode cX4_set 63 = .ok (.iload_n 3, 1) := by decide +kernel
theorem dX4_set_64 : decode cX4_set 64 = .ok (.invokestatic 103, 3) := by decide +kernel
theorem dX4_set_67 : decode cX4_set 67 = .ok (.goto 9, 3) := by decide +kernel
theorem dX4_set_70 : decode cX4_set 70 = .ok (.aload_n 0, 1) := by decide +kernel
theorem dX4_set_71 : decode cX4_set 71 = .ok (.ldc 59, 2) := by decide +kernel
theorem dX4_set_73 : decode cX4_set 73 = .ok (.invokevirtual 60, 3) := by decide +kernel
theorem dX4_set_76 : decode cX4_set 76 = .ok (.ireturn, 1) := by decide +kernel
theorem dX4_set_77 : decode cX4_set 77 = .ok (.iload_n 3, 1) := by decide +kernel
theorem dX4_set_78 : decode cX4_set 78 = .ok (.iconst 0, 1) := by decide +kernel
theorem dX4_set_79 : decode cX4_set 79 = .ok (.bipush 9, 2) := by decide +kernel
theorem dX4_set_81 : decode cX4_set 81 = .ok (.invokestatic 55, 3) := by decide +kernel
theorem dX4_set_84 : decode cX4_set 84 = .ok (.ifCond .eq 18, 3) := by decide +kernel
theorem dX4_set_87 : decode cX4_set 87 = .ok (.aload_n 0, 1) := by decide +kernel
theorem dX4_set_88 : decode cX4_set 88 = .ok (.getfield 12, 3) := by decide +kernel
theorem dX4_set_91 : decode cX4_set 91 = .ok (.getfield 82, 3) := by decide +kernel
theorem dX4_set_94 : decode cX4_set 94 = .ok (.iload_n 1, 1) := by decide +kernel
theorem dX4_set_95 : decode cX4_set 95 = .ok (.iload_n 3, 1) := by decide +kernel
theorem dX4_set_96 : decode cX4_set 96 = .ok (.invokestatic 103, 3) := by decide +kernel
theorem dX4_set_99 : decode cX4_set 99 = .ok (.goto 9, 3) := by decide +kernel
theorem dX4_set_102 : decode cX4_set 102 = .ok (.aload_n 0, 1) := by decide +kernel
theorem dX4_set_103 : decode cX4_set 103 = .ok (.ldc 59, 2) := by decide +kernel
theorem dX4_set_105 : decode cX4_set 105 = .ok (.invokevirtual 60, 3) := by decide +kernel
theorem dX4_set_108 : decode cX4_set 108 = .ok (.ireturn, 1) := by decide +kernel
theorem dX4_set_109 : decode cX4_set 109 = .ok (.iload_n 3, 1) := by decide +kernel
theorem dX4_set_110 : decode cX4_set 110 = .ok (.iconst 0, 1) := by decide +kernel
theorem dX4_set_111 : decode cX4_set 111 = .ok (.sipush 16383, 3) := by decide +kernel
theorem dX4_set_114 : decode cX4_set 114 = .ok (.invokestatic 55, 3) := by decide +kernel
theorem dX4_set_117 : decode cX4_set 117 = .ok (.ifCond .eq 18, 3) := by decide +kernel
theorem dX4_set_120 : decode cX4_set 120 = .ok (.aload_n 0, 1) := by decide +kernel
theorem dX4_set_121 : decode cX4_set 121 = .ok (.getfield 12, 3) := by decide +kernel
theorem dX4_set_124 : decode cX4_set 124 = .ok (.getfield 85, 3) := by decide +kernel
theorem dX4_set_127 : decode cX4_set 127 = .ok (.iload_n 1, 1) := by decide +kernel
theorem dX4_set_128 : decode cX4_set 128 = .ok (.iload_n 3, 1) := by decide +kernel
theorem dX4_set_129 : decode cX4_set 129 = .ok (.invokestatic 103, 3) := by decide +kernel
theorem dX4_set_132 : decode cX4_set 132 = .ok (.goto 9, 3) := by decide +kernel
theorem dX4_set_135 : decode cX4_set 135 = .ok (.aload_n 0, 1) := by decide +kernel
theorem dX4_set_136 : decode cX4_set 136 = .ok (.ldc 59, 2) := by decide +kernel
theorem dX4_set_138 : decode cX4_set 138 = .ok (.invokevirtual 60, 3) := by decide +kernel
theorem dX4_set_141 : decode cX4_set 141 = .ok (.ireturn, 1) := by decide +kernel
theorem dX4_set_142 : decode cX4_set 142 = .ok (.aload_n 0, 1) := by decide +kernel
theorem dX4_set_143 : decode cX4_set 143 = .ok (.ldc 59, 2) := by decide +kernel
theorem dX4_set_145 : decode cX4_set 145 = .ok (.invokevirtual 60, 3) := by decide +kernel
theorem dX4_set_148 : decode cX4_set 148 = .ok (.ireturn, 1) := by decide +kernel
def mX4_set (a1 : Int32) (a2 : Int32) (a3 : Int32) (V : jMem) : Option (Int32 × jMem) := (if (mX0_hasField a1 V) = (0 : Int32) then ((mX4_refuse (-1000000001 : Int32) V).bind (fun (p15 : Int32 × jMem) => (some (p15.1, p15.2)))) else (if a2 = (1 : Int32) then (if (mX4_isWithin a3 (1 : Int32) (9999 : Int32)) = (0 : Int32) then ((mX4_refuse (-1000000001 : Int32) V).bind (fun (p4 : Int32 × jMem) => (some (p4.1, p4.2)))) else ((mX4_swap 3 14 a1 a3 V).bind (fun (p5 : Int32 × jMem) => (some (p5.1, p5.2))))) else (if a2 = (2 : Int32) then (if (mX4_isWithin a3 (0 : Int32) (9 : Int32)) = (0 : Int32) then ((mX4_refuse (-1000000001 : Int32) V).bind (fun (p8 : Int32 × jMem) => (some (p8.1, p8.2)))) else ((mX4_swap 4 14 a1 a3 V).bind (fun (p9 : Int32 × jMem) => (some (p9.1, p9.2))))) else (if a2 = (3 : Int32) then (if (mX4_isWithin a3 (0 : Int32) (16383 : Int32)) = (0 : Int32) then ((mX4_refuse (-1000000001 : Int32) V).bind (fun (p12 : Int32 × jMem) => (some (p12.1, p12.2)))) else ((mX4_swap 5 14 a1 a3 V).bind (fun (p13 : Int32 × jMem) => (some (p13.1, p13.2))))) else ((mX4_refuse (-1000000001 : Int32) V).bind (fun (p14 : Int32 × jMem) => (some (p14.1, p14.2))))))))
set_option maxHeartbeats 4000000 in
set_option maxRecDepth 20000 in
theorem tX4_set {l : Launch} {Z : jZ} {q : Nat → Nat} {a1 : Int32} {a2 : Int32} {a3 : Int32} {V : jMem} {r : Int32} {V' : jMem}  (hm : mX4_set a1 a2 a3 V = some (r, V')) : CtD l Z yX4_set cX4_set 4 (some .int) 2 q dX [.ref (q 0), .int a1, .int a2, .int a3] V (some (.int r)) V' := by
  refine Ct_of (L := [(0, .ref (q 0)), (1, .int a1), (2, .int a2), (3, .int a3)]) (own := RX4) (nm := "set") rfl rfl (by decide +kernel) rfl (Nat.le_of_ble_eq_true rfl) ?_
  unfold mX4_set at hm
  refine j_aload_n dX4_set_0 rfl rfl ?_
  refine m_getr (k := 0) (r := 1) fX4_12 dX4_set_1 rfl rfl rfl ?_
  refine j_iload_n dX4_set_4 rfl rfl ?_
  refine o_callV_i kX4_73 dX4_set_5 rfl (tX0_hasField  rfl) rfl rfl rfl rfl rfl (Nat.le_of_ble_eq_true rfl) (by decide) ?_
  refine j_if_ne (tgt := 18) dX4_set_8 rfl (by decide) (fun c1 => ?_) (fun c1 => ?_)
  · have hm := jif_neg c1 hm
    refine j_iload_n dX4_set_18 rfl rfl ?_
    by_cases c2 : a2 = (1 : Int32)
    · have hm := jif_pos c2 hm
      refine j_ts_in (z := 1) (off := 25) (tgt := 44) dX4_set_19 (j_ts_lit c2 (by decide)) (by decide) (by decide) rfl (by decide) ?_
      refine j_iload_n dX4_set_44 rfl rfl ?_
      refine j_iconst (v := 1) dX4_set_45 rfl (by decide) ?_
      refine j_sipush (v := 9999) dX4_set_46 rfl (by decide) ?_
      refine o_callS_i kX4_55 dX4_set_49 rfl (tX4_isWithin  rfl) rfl rfl (Nat.le_of_ble_eq_true rfl) (by decide) ?_
      refine j_if_eq (tgt := 70) dX4_set_52 rfl (by decide) (fun c3 => ?_) (fun c3 => ?_)
      · have hm := jif_pos c3 hm
        refine j_aload_n dX4_set_70 rfl rfl ?_
        refine j_ldc dX4_set_71 rfl wX4_59 ?_
        obtain ⟨p4, ep4, hm⟩ := jb_of hm
        refine o_callV_i kX4_60 dX4_set_73 rfl (tX4_refuse  ep4) rfl rfl rfl rfl rfl (Nat.le_of_ble_eq_true rfl) (by decide) ?_
        exact j_ireturn dX4_set_76 rfl rfl ⟨Nat.le_refl _, Nat.le_refl _⟩ (jf_m (fun z => .int z) hm)
      · have hm := jif_neg c3 hm
        refine j_aload_n dX4_set_55 rfl rfl ?_
        refine m_getr (k := 0) (r := 1) fX4_12 dX4_set_56 rfl rfl rfl ?_
        refine m_getr (k := 2) (r := 3) fX4_79 dX4_set_59 rfl rfl rfl ?_
        refine j_iload_n dX4_set_62 rfl rfl ?_
        refine j_iload_n dX4_set_63 rfl rfl ?_
        obtain ⟨p5, ep5, hm⟩ := jb_of hm
        refine o_callS_i kX4_103 dX4_set_64 rfl (tX4_swap rfl ep5) rfl rfl (Nat.le_of_ble_eq_true rfl) (by decide) ?_
        refine j_goto (tgt := 76) dX4_set_67 (by decide) ?_
        exact j_ireturn dX4_set_76 rfl rfl ⟨Nat.le_refl _, Nat.le_refl _⟩ (jf_m (fun z => .int z) hm)
    have hm := jif_neg c2 hm
    by_cases c6 : a2 = (2 : Int32)
    · have hm := jif_pos c6 hm
      refine j_ts_in (z := 2) (off := 58) (tgt := 77) dX4_set_19 (j_ts_lit c6 (by decide)) (by decide) (by decide) rfl (by decide) ?_
      refine j_iload_n dX4_set_77 rfl rfl ?_
      refine j_iconst (v := 0) dX4_set_78 rfl (by decide) ?_
      refine j_bipush (v := 9) dX4_set_79 rfl (by decide) ?_
      refine o_callS_i kX4_55 dX4_set_81 rfl (tX4_isWithin  rfl) rfl rfl (Nat.le_of_ble_eq_true rfl) (by decide) ?_
      refine j_if_eq (tgt := 102) dX4_set_84 rfl (by decide) (fun c7 => ?_) (fun c7 => ?_)
      · have hm := jif_pos c7 hm
        refine j_aload_n dX4_set_102 rfl rfl ?_
        refine j_ldc dX4_set_103 rfl wX4_59 ?_
        obtain ⟨p8, ep8, hm⟩ := jb_of hm
        refine o_callV_i kX4_60 dX4_set_105 rfl (tX4_refuse  ep8) rfl rfl rfl rfl rfl (Nat.le_of_ble_eq_true rfl) (by decide) ?_
        exact j_ireturn dX4_set_108 rfl rfl ⟨Nat.le_refl _, Nat.le_refl _⟩ (jf_m (fun z => .int z) hm)
      · have hm := jif_neg c7 hm
        refine j_aload_n dX4_set_87 rfl rfl ?_
        refine m_getr (k := 0) (r := 1) fX4_12 dX4_set_88 rfl rfl rfl ?_
        refine m_getr (k := 3) (r := 4) fX4_82 dX4_set_91 rfl rfl rfl ?_
        refine j_iload_n dX4_set_94 rfl rfl ?_
        refine j_iload_n dX4_set_95 rfl rfl ?_
        obtain ⟨p9, ep9, hm⟩ := jb_of hm
        refine o_callS_i kX4_103 dX4_set_96 rfl (tX4_swap rfl ep9) rfl rfl (Nat.le_of_ble_eq_true rfl) (by decide) ?_
        refine j_goto (tgt := 108) dX4_set_99 (by decide) ?_
        exact j_ireturn dX4_set_108 rfl rfl ⟨Nat.le_refl _, Nat.le_refl _⟩ (jf_m (fun z => .int z) hm)
    have hm := jif_neg c6 hm
    by_cases c10 : a2 = (3 : Int32)
    · have hm := jif_pos c10 hm
      refine j_ts_in (z := 3) (off := 90) (tgt := 109) dX4_set_19 (j_ts_lit c10 (by decide)) (by decide) (by decide) rfl (by decide) ?_
      refine j_iload_n dX4_set_109 rfl rfl ?_
      refine j_iconst (v := 0) dX4_set_110 rfl (by decide) ?_
      refine j_sipush (v := 16383) dX4_set_111 rfl (by decide) ?_
      refine o_callS_i kX4_55 dX4_set_114 rfl (tX4_isWithin  rfl) rfl rfl (Nat.le_of_ble_eq_true rfl) (by decide) ?_
      refine j_if_eq (tgt := 135) dX4_set_117 rfl (by decide) (fun c11 => ?_) (fun c11 => ?_)
      · have hm := jif_pos c11 hm
        refine j_aload_n dX4_set_135 rfl rfl ?_
        refine j_ldc dX4_set_136 rfl wX4_59 ?_
        obtain ⟨p12, ep12, hm⟩ := jb_of hm
        refine o_callV_i kX4_60 dX4_set_138 rfl (tX4_refuse  ep12) rfl rfl rfl rfl rfl (Nat.le_of_ble_eq_true rfl) (by decide) ?_
        exact j_ireturn dX4_set_141 rfl rfl ⟨Nat.le_refl _, Nat.le_refl _⟩ (jf_m (fun z => .int z) hm)
      · have hm := jif_neg c11 hm
        refine j_aload_n dX4_set_120 rfl rfl ?_
        refine m_getr (k := 0) (r := 1) fX4_12 dX4_set_121 rfl rfl rfl ?_
        refine m_getr (k := 4) (r := 5) fX4_85 dX4_set_124 rfl rfl rfl ?_
        refine j_iload_n dX4_set_127 rfl rfl ?_
        refine j_iload_n dX4_set_128 rfl rfl ?_
        obtain ⟨p13, ep13, hm⟩ := jb_of hm
        refine o_callS_i kX4_103 dX4_set_129 rfl (tX4_swap rfl ep13) rfl rfl (Nat.le_of_ble_eq_true rfl) (by decide) ?_
        refine j_goto (tgt := 141) dX4_set_132 (by decide) ?_
        exact j_ireturn dX4_set_141 rfl rfl ⟨Nat.le_refl _, Nat.le_refl _⟩ (jf_m (fun z => .int z) hm)
    have hm := jif_neg c10 hm
    refine j_ts_out (tgt := 142) dX4_set_19 (by have := j_ts_ne (k := 1) c2 (by decide); have := j_ts_ne (k := 2) c6 (by decide); have := j_ts_ne (k := 3) c10 (by decide); omega) (by decide) ?_
    refine j_aload_n dX4_set_142 rfl rfl ?_
    refine j_ldc dX4_set_143 rfl wX4_59 ?_
    obtain ⟨p14, ep14, hm⟩ := jb_of hm
    refine o_callV_i kX4_60 dX4_set_145 rfl (tX4_refuse  ep14) rfl rfl rfl rfl rfl (Nat.le_of_ble_eq_true rfl) (by decide) ?_
    exact j_ireturn dX4_set_148 rfl rfl ⟨Nat.le_refl _, Nat.le_refl _⟩ (jf_m (fun z => .int z) hm)
  · have hm := jif_pos c1 hm
    refine j_aload_n dX4_set_11 rfl rfl ?_
    refine j_ldc dX4_set_12 rfl wX4_59 ?_
    obtain ⟨p15, ep15, hm⟩ := jb_of hm
    refine o_callV_i kX4_60 dX4_set_14 rfl (tX4_refuse  ep15) rfl rfl rfl rfl rfl (Nat.le_of_ble_eq_true rfl) (by decide) ?_
    exact j_ireturn dX4_set_17 rfl rfl ⟨Nat.le_refl _, Nat.le_refl _⟩ (jf_m (fun z => .int z) hm)
theorem dX4_isOfKind_0 : decode cX4_isOfKind 0 = .ok (.iload_n 0, 1) := by decide +kernel
theorem dX4_isOfKind_1 : decode cX4_isOfKind 1 = .ok (.istore_n 2, 1) := by decide +kernel
theorem dX4_isOfKind_2 : decode cX4_isOfKind 2 = .ok (.iconst 0, 1) := by decide +kernel
theorem dX4_isOfKind_3 : decode cX4_isOfKind 3 = .ok (.istore_n 3, 1) := by decide +kernel
theorem dX4_isOfKind_4 : decode cX4_isOfKind 4 = .ok (.iload_n 3, 1) := by decide +kernel
theorem dX4_isOfKind_5 : decode cX4_isOfKind 5 = .ok (.bipush 6, 2) := by decide +kernel
theorem dX4_isOfKind_7 : decode cX4_isOfKind 7 = .ok (.if_icmp .ge 29, 3) := by decide +kernel
theorem dX4_isOfKind_10 : decode cX4_isOfKind 10 = .ok (.iload_n 2, 1) := by decide +kernel
theorem dX4_isOfKind_11 : decode cX4_isOfKind 11 = .ok (.invokestatic 51, 3) := by decide +kernel
theorem dX4_isOfKind_14 : decode cX4_isOfKind 14 = .ok (.ifCond .eq 22, 3) := by decide +kernel
theorem dX4_isOfKind_17 : decode cX4_isOfKind 17 = .ok (.iload_n 2, 1) := by decide +kernel
theorem dX4_isOfKind_18 : decode cX4_isOfKind 18 = .ok (.iload_n 1, 1) := by decide +kernel
theorem dX4_isOfKind_19 : decode cX4_isOfKind 19 = .ok (.if_icmp .ne 5, 3) := by decide +kernel
theorem dX4_isOfKind_22 : decode cX4_isOfKind 22 = .ok (.iconst 1, 1) := by decide +kernel
theorem dX4_isOfKind_23 : decode cX4_isOfKind 23 = .ok (.ireturn, 1) := by decide +kernel
theorem dX4_isOfKind_24 : decode cX4_isOfKind 24 = .ok (.getstatic 296, 3) := by decide +kernel
theorem dX4_isOfKind_27 : decode cX4_isOfKind 27 = .ok (.iload_n 2, 1) := by decide +kernel
theorem dX4_isOfKind_28 : decode cX4_isOfKind 28 = .ok (.iaload, 1) := by decide +kernel
theorem dX4_isOfKind_29 : decode cX4_isOfKind 29 = .ok (.istore_n 2, 1) := by decide +kernel
theorem dX4_isOfKind_30 : decode cX4_isOfKind 30 = .ok (.iinc 3 1, 3) := by decide +kernel
theorem dX4_isOfKind_33 : decode cX4_isOfKind 33 = .ok (.goto (-29), 3) := by decide +kernel
theorem dX4_isOfKind_36 : decode cX4_isOfKind 36 = .ok (.iconst 0, 1) := by decide +kernel
theorem dX4_isOfKind_37 : decode cX4_isOfKind 37 = .ok (.ireturn, 1) := by decide +kernel
def mX4_isOfKind_b4 (V : jMem)  : Nat → Int32 → Int32 → Int32 → Option Int32
  | 0, _, _, _ => none
  | n + 1, a1, a2, a3 => (if (6 : Int32) ≤ a3 then (some (0 : Int32)) else (if (mX4_isKind a2) = (0 : Int32) then (some (0 : Int32)) else (if a2 = a1 then (some (1 : Int32)) else (jg (jin a2 6) (mX4_isOfKind_b4 V n a1 (jUnder (Int32.toNatClampNeg a2)) (a3 + (1 : Int32)))))))
set_option maxHeartbeats 4000000 in
set_option maxRecDepth 20000 in
theorem tX4_isOfKind_b4 {l : Launch} {Z : jZ} {q : Nat → Nat} {V : jMem} {r : Int32}   (n : Nat) : ∀ (a1 : Int32) (a2 : Int32) (a3 : Int32), mX4_isOfKind_b4 V n a1 a2 a3 = some r → J l Z RX4 "isOfKind" cX4_isOfKind 4 (some .boolean) 2 0 0 (fun r' w => r' = some (.int r) ∧ w = jw Z q V dX) 4 [(1, .int a1), (2, .int a2), (3, .int a3)] [] (jw Z q V dX) 0 0 := by
  induction n with
  | zero => intro a1 a2 a3 hm; cases hm
  | succ n ih =>
    intro a1 a2 a3 hm
    rw [mX4_isOfKind_b4] at hm
    refine j_iload_n dX4_isOfKind_4 rfl rfl ?_
    refine j_bipush (v := 6) dX4_isOfKind_5 rfl (by decide) ?_
    refine j_icmp_ge (tgt := 36) dX4_isOfKind_7 rfl (by decide) (fun c1 => ?_) (fun c1 => ?_)
    · have hm := jif_pos c1 hm
      refine j_iconst (v := 0) dX4_isOfKind_36 rfl (by decide) ?_
      exact j_zreturn dX4_isOfKind_37 rfl (by decide) ⟨Nat.le_refl _, Nat.le_refl _⟩ (jf_p (fun z => .int z) hm)
    · have hm := jif_neg c1 hm
      refine j_iload_n dX4_isOfKind_10 rfl rfl ?_
      refine o_callS_i kX4_51 dX4_isOfKind_11 rfl (tX4_isKind  rfl) rfl rfl (Nat.le_of_ble_eq_true rfl) (by decide) ?_
      refine j_if_eq (tgt := 36) dX4_isOfKind_14 rfl (by decide) (fun c2 => ?_) (fun c2 => ?_)
      · have hm := jif_pos c2 hm
        refine j_iconst (v := 0) dX4_isOfKind_36 rfl (by decide) ?_
        exact j_zreturn dX4_isOfKind_37 rfl (by decide) ⟨Nat.le_refl _, Nat.le_refl _⟩ (jf_p (fun z => .int z) hm)
      · have hm := jif_neg c2 hm
        refine j_iload_n dX4_isOfKind_17 rfl rfl ?_
        refine j_iload_n dX4_isOfKind_18 rfl rfl ?_
        refine j_icmp_ne (tgt := 24) dX4_isOfKind_19 rfl (by decide) (fun c3 => ?_) (fun c3 => ?_)
        · have hm := jif_neg c3 hm
          refine j_getU sX4_296 dX4_isOfKind_24 rfl ?_
          refine j_iload_n dX4_isOfKind_27 rfl rfl ?_
          obtain ⟨g4, hm⟩ := jg_of hm
          refine j_ldU dX4_isOfKind_28 rfl (jin_vp g4) ?_
          refine j_istore_n (i := 2) (L' := [(2, _), (1, _), (3, _)]) dX4_isOfKind_29 rfl rfl (by decide) rfl ?_
          refine j_iinc (v := (a3 + (1 : Int32))) (L' := [(3, _), (2, _), (1, _)]) dX4_isOfKind_30 rfl rfl rfl (by decide) rfl ?_
          refine j_goto (tgt := 4) dX4_isOfKind_33 (by decide) ?_
          refine j_sub (L' := [(1, _), (2, _), (3, _)]) [2, 1, 0] rfl ?_
          exact ih _ _ _  hm
        · have hm := jif_pos c3 hm
          refine j_iconst (v := 1) dX4_isOfKind_22 rfl (by decide) ?_
          exact j_zreturn dX4_isOfKind_23 rfl (by decide) ⟨Nat.le_refl _, Nat.le_refl _⟩ (jf_p (fun z => .int z) hm)
def mX4_isOfKind (a0 : Int32) (a1 : Int32) (V : jMem) : Option Int32 := (mX4_isOfKind_b4 V 2000 a1 a0 (0 : Int32))
set_option maxHeartbeats 4000000 in
set_option maxRecDepth 20000 in
theorem tX4_isOfKind {l : Launch} {Z : jZ} {q : Nat → Nat} {a0 : Int32} {a1 : Int32} {V : jMem} {r : Int32}  (hm : mX4_isOfKind a0 a1 V = some r) : CtD l Z yX4_isOfKind cX4_isOfKind 4 (some .boolean) 2 q dX [.int a0, .int a1] V (some (.int r)) V := by
  refine Ct_of (L := [(0, .int a0), (1, .int a1)]) (own := RX4) (nm := "isOfKind") rfl rfl (by decide +kernel) rfl (Nat.le_of_ble_eq_true rfl) ?_
  unfold mX4_isOfKind at hm
  refine j_iload_n dX4_isOfKind_0 rfl rfl ?_
  refine j_istore_n (i := 2) (L' := [(2, _), (0, _), (1, _)]) dX4_isOfKind_1 rfl rfl (by decide) rfl ?_
  refine j_iconst (v := 0) dX4_isOfKind_2 rfl (by decide) ?_
  refine j_istore_n (i := 3) (L' := [(3, _), (2, _), (0, _), (1, _)]) dX4_isOfKind_3 rfl rfl (by decide) rfl ?_
  refine j_sub (L' := [(1, _), (2, _), (3, _)]) [3, 1, 0] rfl ?_
  exact tX4_isOfKind_b4   _ _ _ _  hm
theorem dX4_as_0 : decode cX4_as 0 = .ok (.aload_n 0, 1) := by decide +kernel
theorem dX4_as_1 : decode cX4_as 1 = .ok (.getfield 12, 3) := by decide +kernel
theorem dX4_as_4 : decode cX4_as 4 = .ok (.iload_n 1, 1) := by decide +kernel
theorem dX4_as_5 : decode cX4_as 5 = .ok (.invokevirtual 73, 3) := by decide +kernel
theorem dX4_as_8 : decode cX4_as 8 = .ok (.ifCond .eq 10, 3) := by decide +kernel
theorem dX4_as_11 : decode cX4_as 11 = .ok (.iload_n 2, 1) := by decide +kernel
theorem dX4_as_12 : decode cX4_as 12 = .ok (.invokestatic 51, 3) := by decide +kernel
theorem dX4_as_15 : decode cX4_as 15 = .ok (.ifCond .ne 10, 3) := by decide +kernel
theorem dX4_as_18 : decode cX4_as 18 = .ok (.aload_n 0, 1) := by decide +kernel
theorem dX4_as_19 : decode cX4_as 19 = .ok (.ldc 59, 2) := by decide +kernel
theorem dX4_as_21 : decode cX4_as 21 = .ok (.invokevirtual 60, 3) := by decide +kernel
theorem dX4_as_24 : decode cX4_as 24 = .ok (.ireturn, 1) := by decide +kernel
theorem dX4_as_25 : decode cX4_as 25 = .ok (.aload_n 0, 1) := by decide +kernel
theorem dX4_as_26 : decode cX4_as 26 = .ok (.getfield 12, 3) := by decide +kernel
theorem dX4_as_29 : decode cX4_as 29 = .ok (.getfield 76, 3) := by decide +kernel
theorem dX4_as_32 : decode cX4_as 32 = .ok (.iload_n 1, 1) := by decide +kernel
theorem dX4_as_33 : decode cX4_as 33 = .ok (.iaload, 1) := by decide +kernel
theorem dX4_as_34 : decode cX4_as 34 = .ok (.iload_n 2, 1) := by decide +kernel
theorem dX4_as_35 : decode cX4_as 35 = .ok (.invokestatic 107, 3) := by decide +kernel
theorem dX4_as_38 : decode cX4_as 38 = .ok (.ifCond .ne 10, 3) := by decide +kernel
theorem dX4_as_41 : decode cX4_as 41 = .ok (.aload_n 0, 1) := by decide +kernel
theorem dX4_as_42 : decode cX4_as 42 = .ok (.ldc 111, 2) := by decide +kernel
theorem dX4_as_44 : decode cX4_as 44 = .ok (.invokevirtual 60, 3) := by decide +kernel
theorem dX4_as_47 : decode cX4_as 47 = .ok (.ireturn, 1) := by decide +kernel
theorem dX4_as_48 : decode cX4_as 48 = .ok (.aload_n 0, 1) := by decide +kernel
theorem dX4_as_49 : decode cX4_as 49 = .ok (.getfield 12, 3) := by decide +kernel
theorem dX4_as_52 : decode cX4_as 52 = .ok (.iload_n 1, 1) := by decide +kernel
theorem dX4_as_53 : decode cX4_as 53 = .ok (.invokevirtual 91, 3) := by decide +kernel
theorem dX4_as_56 : decode cX4_as 56 = .ok (.ireturn, 1) := by decide +kernel
def mX4_as_b18   (V : jMem) : Option (Int32 × jMem) := ((mX4_refuse (-1000000001 : Int32) V).bind (fun (p1 : Int32 × jMem) => (some (p1.1, p1.2))))
set_option maxHeartbeats 4000000 in
set_option maxRecDepth 20000 in
theorem tX4_as_b18 {l : Launch} {Z : jZ} {q : Nat → Nat} {V : jMem} {r : Int32} {V' : jMem}    (hm : mX4_as_b18 V = some (r, V')) : J l Z RX4 "as" cX4_as 3 (some .int) 6 0 0 (fun r' w => r' = some (.int r) ∧ w = jw Z q V' dX) 18 [(0, .ref (q 0))] [] (jw Z q V dX) 0 0 := by
  unfold mX4_as_b18 at hm
  refine j_aload_n dX4_as_18 rfl rfl ?_
  refine j_ldc dX4_as_19 rfl wX4_59 ?_
  obtain ⟨p1, ep1, hm⟩ := jb_of hm
  refine o_callV_i kX4_60 dX4_as_21 rfl (tX4_refuse  ep1) rfl rfl rfl rfl rfl (Nat.le_of_ble_eq_true rfl) (by decide) ?_
  exact j_ireturn dX4_as_24 rfl rfl ⟨Nat.le_refl _, Nat.le_refl _⟩ (jf_m (fun z => .int z) hm)
def mX4_as (a1 : Int32) (a2 : Int32) (V : jMem) : Option (Int32 × jMem) := (if (mX0_hasField a1 V) = (0 : Int32) then (mX4_as_b18 V) else (if (mX4_isKind a2) = (0 : Int32) then (mX4_as_b18 V) else (jg (jin a1 14) ((mX4_isOfKind (V.1 2 (Int32.toNatClampNeg a1)) a2 V).bind (fun (r4 : Int32) => (if r4 = (0 : Int32) then ((mX4_refuse (-1000000003 : Int32) V).bind (fun (p7 : Int32 × jMem) => (some (p7.1, p7.2)))) else ((mX0_priceNow a1 V).bind (fun (r6 : Int32) => (some (r6, V))))))))))
set_option maxHeartbeats 4000000 in
set_option maxRecDepth 20000 in
theorem tX4_as {l : Launch} {Z : jZ} {q : Nat → Nat} {a1 : Int32} {a2 : Int32} {V : jMem} {r : Int32} {V' : jMem}  (hm : mX4_as a1 a2 V = some (r, V')) : CtD l Z yX4_as cX4_as 3 (some .int) 6 q dX [.ref (q 0), .int a1, .int a2] V (some (.int r)) V' := by
  refine Ct_of (L := [(0, .ref (q 0)), (1, .int a1), (2, .int a2)]) (own := RX4) (nm := "as") rfl rfl (by decide +kernel) rfl (Nat.le_of_ble_eq_true rfl) ?_
  unfold mX4_as at hm
  refine j_aload_n dX4_as_0 rfl rfl ?_
  refine m_getr (k := 0) (r := 1) fX4_12 dX4_as_1 rfl rfl rfl ?_
  refine j_iload_n dX4_as_4 rfl rfl ?_
  refine o_callV_i kX4_73 dX4_as_5 rfl (tX0_hasField  rfl) rfl rfl rfl rfl rfl (Nat.le_of_ble_eq_true rfl) (by decide) ?_
  refine j_if_eq (tgt := 18) dX4_as_8 rfl (by decide) (fun c1 => ?_) (fun c1 => ?_)
  · have hm := jif_pos c1 hm
    refine j_sub (L' := [(0, _)]) [0] rfl ?_
    exact tX4_as_b18    hm
  · have hm := jif_neg c1 hm
    refine j_iload_n dX4_as_11 rfl rfl ?_
    refine o_callS_i kX4_51 dX4_as_12 rfl (tX4_isKind  rfl) rfl rfl (Nat.le_of_ble_eq_true rfl) (by decide) ?_
    refine j_if_ne (tgt := 25) dX4_as_15 rfl (by decide) (fun c2 => ?_) (fun c2 => ?_)
    · have hm := jif_neg c2 hm
      refine j_aload_n dX4_as_25 rfl rfl ?_
      refine m_getr (k := 0) (r := 1) fX4_12 dX4_as_26 rfl rfl rfl ?_
      refine m_getr (k := 1) (r := 2) fX4_76 dX4_as_29 rfl rfl rfl ?_
      refine j_iload_n dX4_as_32 rfl rfl ?_
      obtain ⟨g3, hm⟩ := jg_of hm
      refine o_iald (k := (Int32.toNatClampNeg a1)) rfl dX4_as_33 rfl rfl (jin_vp g3) ?_
      refine j_iload_n dX4_as_34 rfl rfl ?_
      obtain ⟨r4, er4, hm⟩ := jb_of hm
      refine o_callS_i kX4_107 dX4_as_35 rfl (tX4_isOfKind  er4) rfl rfl (Nat.le_of_ble_eq_true rfl) (by decide) ?_
      refine j_if_ne (tgt := 48) dX4_as_38 rfl (by decide) (fun c5 => ?_) (fun c5 => ?_)
      · have hm := jif_neg c5 hm
        refine j_aload_n dX4_as_48 rfl rfl ?_
        refine m_getr (k := 0) (r := 1) fX4_12 dX4_as_49 rfl rfl rfl ?_
        refine j_iload_n dX4_as_52 rfl rfl ?_
        obtain ⟨r6, er6, hm⟩ := jb_of hm
        refine o_callV_i kX4_91 dX4_as_53 rfl (tX0_priceNow  er6) rfl rfl rfl rfl rfl (Nat.le_of_ble_eq_true rfl) (by decide) ?_
        exact j_ireturn dX4_as_56 rfl rfl ⟨Nat.le_refl _, Nat.le_refl _⟩ (jf_m (fun z => .int z) hm)
      · have hm := jif_pos c5 hm
        refine j_aload_n dX4_as_41 rfl rfl ?_
        refine j_ldc dX4_as_42 rfl wX4_111 ?_
        obtain ⟨p7, ep7, hm⟩ := jb_of hm
        refine o_callV_i kX4_60 dX4_as_44 rfl (tX4_refuse  ep7) rfl rfl rfl rfl rfl (Nat.le_of_ble_eq_true rfl) (by decide) ?_
        exact j_ireturn dX4_as_47 rfl rfl ⟨Nat.le_refl _, Nat.le_refl _⟩ (jf_m (fun z => .int z) hm)
    · have hm := jif_pos c2 hm
      refine j_sub (L' := [(0, _)]) [0] rfl ?_
      exact tX4_as_b18    hm
theorem dX4_asks_0 : decode cX4_asks 0 = .ok (.aload_n 0, 1) := by decide +kernel
theorem dX4_asks_1 : decode cX4_asks 1 = .ok (.getfield 12, 3) := by decide +kernel
theorem dX4_asks_4 : decode cX4_asks 4 = .ok (.iload_n 1, 1) := by decide +kernel
theorem dX4_asks_5 : decode cX4_asks 5 = .ok (.invokevirtual 73, 3) := by decide +kernel
theorem dX4_asks_8 : decode cX4_asks 8 = .ok (.ifCond .eq 14, 3) := by decide +kernel
theorem dX4_asks_11 : decode cX4_asks 11 = .ok (.iload_n 2, 1) := by decide +kernel
theorem dX4_asks_12 : decode cX4_asks 12 = .ok (.iconst 0, 1) := by decide +kernel
theorem dX4_asks_13 : decode cX4_asks 13 = .ok (.sipush 16383, 3) := by decide +kernel
theorem dX4_asks_16 : decode cX4_asks 16 = .ok (.invokestatic 55, 3) := by decide +kernel
theorem dX4_asks_19 : decode cX4_asks 19 = .ok (.ifCond .ne 10, 3) := by decide +kernel
theorem dX4_asks_22 : decode cX4_asks 22 = .ok (.aload_n 0, 1) := by decide +kernel
theorem dX4_asks_23 : decode cX4_asks 23 = .ok (.ldc 59, 2) := by decide +kernel
theorem dX4_asks_25 : decode cX4_asks 25 = .ok (.invokevirtual 60, 3) := by decide +kernel
theorem dX4_asks_28 : decode cX4_asks 28 = .ok (.ireturn, 1) := by decide +kernel
theorem dX4_asks_29 : decode cX4_asks 29 = .ok (.aload_n 0, 1) := by decide +kernel
theorem dX4_asks_30 : decode cX4_asks 30 = .ok (.getfield 12, 3) := by decide +kernel
theorem dX4_asks_33 : decode cX4_asks 33 = .ok (.iload_n 1, 1) := by decide +kernel
theorem dX4_asks_34 : decode cX4_asks 34 = .ok (.iload_n 2, 1) := by decide +kernel
theorem dX4_asks_35 : decode cX4_asks 35 = .ok (.invokevirtual 112, 3) := by decide +kernel
theorem dX4_asks_38 : decode cX4_asks 38 = .ok (.ireturn, 1) := by decide +kernel
def mX4_asks_b22   (V : jMem) : Option (Int32 × jMem) := ((mX4_refuse (-1000000001 : Int32) V).bind (fun (p1 : Int32 × jMem) => (some (p1.1, p1.2))))
set_option maxHeartbeats 4000000 in
set_option maxRecDepth 20000 in
theorem tX4_asks_b22 {l : Launch} {Z : jZ} {q : Nat → Nat} {V : jMem} {r : Int32} {V' : jMem}    (hm : mX4_asks_b22 V = some (r, V')) : J l Z RX4 "asks" cX4_asks 3 (some .int) 5 0 0 (fun r' w => r' = some (.int r) ∧ w = jw Z q V' dX) 22 [(0, .ref (q 0))] [] (jw Z q V dX) 0 0 := by
  unfold mX4_asks_b22 at hm
  refine j_aload_n dX4_asks_22 rfl rfl ?_
  refine j_ldc dX4_asks_23 rfl wX4_59 ?_
  obtain ⟨p1, ep1, hm⟩ := jb_of hm
  refine o_callV_i kX4_60 dX4_asks_25 rfl (tX4_refuse  ep1) rfl rfl rfl rfl rfl (Nat.le_of_ble_eq_true rfl) (by decide) ?_
  exact j_ireturn dX4_asks_28 rfl rfl ⟨Nat.le_refl _, Nat.le_refl _⟩ (jf_m (fun z => .int z) hm)
def mX4_asks (a1 : Int32) (a2 : Int32) (V : jMem) : Option (Int32 × jMem) := (if (mX0_hasField a1 V) = (0 : Int32) then (mX4_asks_b22 V) else (if (mX4_isWithin a2 (0 : Int32) (16383 : Int32)) = (0 : Int32) then (mX4_asks_b22 V) else ((mX0_priceBy a1 a2 V).bind (fun (r3 : Int32) => (some (r3, V))))))
set_option maxHeartbeats 4000000 in
set_option maxRecDepth 20000 in
theorem tX4_asks {l : Launch} {Z : jZ} {q : Nat → Nat} {a1 : Int32} {a2 : Int32} {V : jMem} {r : Int32} {V' : jMem}  (hm : mX4_asks a1 a2 V = some (r, V')) : CtD l Z yX4_asks cX4_asks 3 (some .int) 5 q dX [.ref (q 0), .int a1, .int a2] V (some (.int r)) V' := by
  refine Ct_of (L := [(0, .ref (q 0)), (1, .int a1), (2, .int a2)]) (own := RX4) (nm := "asks") rfl rfl (by decide +kernel) rfl (Nat.le_of_ble_eq_true rfl) ?_
  unfold mX4_asks at hm
  refine j_aload_n dX4_asks_0 rfl rfl ?_
  refine m_getr (k := 0) (r := 1) fX4_12 dX4_asks_1 rfl rfl rfl ?_
  refine j_iload_n dX4_asks_4 rfl rfl ?_
  refine o_callV_i kX4_73 dX4_asks_5 rfl (tX0_hasField  rfl) rfl rfl rfl rfl rfl (Nat.le_of_ble_eq_true rfl) (by decide) ?_
  refine j_if_eq (tgt := 22) dX4_asks_8 rfl (by decide) (fun c1 => ?_) (fun c1 => ?_)
  · have hm := jif_pos c1 hm
    refine j_sub (L' := [(0, _)]) [0] rfl ?_
    exact tX4_asks_b22    hm
  · have hm := jif_neg c1 hm
    refine j_iload_n dX4_asks_11 rfl rfl ?_
    refine j_iconst (v := 0) dX4_asks_12 rfl (by decide) ?_
    refine j_sipush (v := 16383) dX4_asks_13 rfl (by decide) ?_
    refine o_callS_i kX4_55 dX4_asks_16 rfl (tX4_isWithin  rfl) rfl rfl (Nat.le_of_ble_eq_true rfl) (by decide) ?_
    refine j_if_ne (tgt := 29) dX4_asks_19 rfl (by decide) (fun c2 => ?_) (fun c2 => ?_)
    · have hm := jif_neg c2 hm
      refine j_aload_n dX4_asks_29 rfl rfl ?_
      refine m_getr (k := 0) (r := 1) fX4_12 dX4_asks_30 rfl rfl rfl ?_
      refine j_iload_n dX4_asks_33 rfl rfl ?_
      refine j_iload_n dX4_asks_34 rfl rfl ?_
      obtain ⟨r3, er3, hm⟩ := jb_of hm
      refine o_callV_i kX4_112 dX4_asks_35 rfl (tX0_priceBy  er3) rfl rfl rfl rfl rfl (Nat.le_of_ble_eq_true rfl) (by decide) ?_
      exact j_ireturn dX4_asks_38 rfl rfl ⟨Nat.le_refl _, Nat.le_refl _⟩ (jf_m (fun z => .int z) hm)
    · have hm := jif_pos c2 hm
      refine j_sub (L' := [(0, _)]) [0] rfl ?_
      exact tX4_asks_b22    hm
theorem dX4_rule_0 : decode cX4_rule 0 = .ok (.iload_n 1, 1) := by decide +kernel
theorem dX4_rule_1 : decode cX4_rule 1 = .ok (.iconst 0, 1) := by decide +kernel
theorem dX4_rule_2 : decode cX4_rule 2 = .ok (.iconst 3, 1) := by decide +kernel
theorem dX4_rule_3 : decode cX4_rule 3 = .ok (.invokestatic 55, 3) := by decide +kernel
theorem dX4_rule_6 : decode cX4_rule 6 = .ok (.ifCond .eq 16, 3) := by decide +kernel
theorem dX4_rule_9 : decode cX4_rule 9 = .ok (.iload_n 2, 1) := by decide +kernel
theorem dX4_rule_10 : decode cX4_rule 10 = .ok (.iconst 0, 1) := by decide +kernel
theorem dX4_rule_11 : decode cX4_rule 11 = .ok (.getstatic 115, 3) := by decide +kernel
theorem dX4_rule_14 : decode cX4_rule 14 = .ok (.iload_n 1, 1) := by decide +kernel
theorem dX4_rule_15 : decode cX4_rule 15 = .ok (.iaload, 1) := by decide +kernel
theorem dX4_rule_16 : decode cX4_rule 16 = .ok (.invokestatic 55, 3) := by decide +kernel
theorem dX4_rule_19 : decode cX4_rule 19 = .ok (.ifCond .ne 10, 3) := by decide +kernel
theorem dX4_rule_22 : decode cX4_rule 22 = .ok (.aload_n 0, 1) := by decide +kernel
theorem dX4_rule_23 : decode cX4_rule 23 = .ok (.ldc 59, 2) := by decide +kernel
theorem dX4_rule_25 : decode cX4_rule 25 = .ok (.invokevirtual 60, 3) := by decide +kernel
theorem dX4_rule_28 : decode cX4_rule 28 = .ok (.ireturn, 1) := by decide +kernel
theorem dX4_rule_29 : decode cX4_rule 29 = .ok (.aload_n 0, 1) := by decide +kernel
theorem dX4_rule_30 : decode cX4_rule 30 = .ok (.getfield 12, 3) := by decide +kernel
theorem dX4_rule_33 : decode cX4_rule 33 = .ok (.getfield 118, 3) := by decide +kernel
theorem dX4_rule_36 : decode cX4_rule 36 = .ok (.iload_n 1, 1) := by decide +kernel
theorem dX4_rule_37 : decode cX4_rule 37 = .ok (.iload_n 2, 1) := by decide +kernel
theorem dX4_rule_38 : decode cX4_rule 38 = .ok (.invokestatic 103, 3) := by decide +kernel
theorem dX4_rule_41 : decode cX4_rule 41 = .ok (.ireturn, 1) := by decide +kernel
def mX4_rule_b22   (V : jMem) : Option (Int32 × jMem) := ((mX4_refuse (-1000000001 : Int32) V).bind (fun (p1 : Int32 × jMem) => (some (p1.1, p1.2))))
set_option maxHeartbeats 4000000 in
set_option maxRecDepth 20000 in
theorem tX4_rule_b22 {l : Launch} {Z : jZ} {q : Nat → Nat} {V : jMem} {r : Int32} {V' : jMem}    (hm : mX4_rule_b22 V = some (r, V')) : J l Z RX4 "rule" cX4_rule 3 (some .int) 2 0 0 (fun r' w => r' = some (.int r) ∧ w = jw Z q V' dX) 22 [(0, .ref (q 0))] [] (jw Z q V dX) 0 0 := by
  unfold mX4_rule_b22 at hm
  refine j_aload_n dX4_rule_22 rfl rfl ?_
  refine j_ldc dX4_rule_23 rfl wX4_59 ?_
  obtain ⟨p1, ep1, hm⟩ := jb_of hm
  refine o_callV_i kX4_60 dX4_rule_25 rfl (tX4_refuse  ep1) rfl rfl rfl rfl rfl (Nat.le_of_ble_eq_true rfl) (by decide) ?_
  exact j_ireturn dX4_rule_28 rfl rfl ⟨Nat.le_refl _, Nat.le_refl _⟩ (jf_m (fun z => .int z) hm)
def mX4_rule (a1 : Int32) (a2 : Int32) (V : jMem) : Option (Int32 × jMem) := (if (mX4_isWithin a1 (0 : Int32) (3 : Int32)) = (0 : Int32) then (mX4_rule_b22 V) else (jg (jin a1 4) (if (mX4_isWithin a2 (0 : Int32) (jLims (Int32.toNatClampNeg a1))) = (0 : Int32) then (mX4_rule_b22 V) else ((mX4_swap 8 4 a1 a2 V).bind (fun (p4 : Int32 × jMem) => (some (p4.1, p4.2)))))))
set_option maxHeartbeats 4000000 in
set_option maxRecDepth 20000 in
theorem tX4_rule {l : Launch} {Z : jZ} {q : Nat → Nat} {a1 : Int32} {a2 : Int32} {V : jMem} {r : Int32} {V' : jMem}  (hm : mX4_rule a1 a2 V = some (r, V')) : CtD l Z yX4_rule cX4_rule 3 (some .int) 2 q dX [.ref (q 0), .int a1, .int a2] V (some (.int r)) V' := by
  refine Ct_of (L := [(0, .ref (q 0)), (1, .int a1), (2, .int a2)]) (own := RX4) (nm := "rule") rfl rfl (by decide +kernel) rfl (Nat.le_of_ble_eq_true rfl) ?_
  unfold mX4_rule at hm
  refine j_iload_n dX4_rule_0 rfl rfl ?_
  refine j_iconst (v := 0) dX4_rule_1 rfl (by decide) ?_
  refine j_iconst (v := 3) dX4_rule_2 rfl (by decide) ?_
  refine o_callS_i kX4_55 dX4_rule_3 rfl (tX4_isWithin  rfl) rfl rfl (Nat.le_of_ble_eq_true rfl) (by decide) ?_
  refine j_if_eq (tgt := 22) dX4_rule_6 rfl (by decide) (fun c1 => ?_) (fun c1 => ?_)
  · have hm := jif_pos c1 hm
    refine j_sub (L' := [(0, _)]) [0] rfl ?_
    exact tX4_rule_b22    hm
  · have hm := jif_neg c1 hm
    refine j_iload_n dX4_rule_9 rfl rfl ?_
    refine j_iconst (v := 0) dX4_rule_10 rfl (by decide) ?_
    refine j_getR sX4_115 dX4_rule_11 rfl ?_
    refine j_iload_n dX4_rule_14 rfl rfl ?_
    obtain ⟨g2, hm⟩ := jg_of hm
    refine j_ldR dX4_rule_15 rfl (jin_vp g2) ?_
    refine o_callS_i kX4_55 dX4_rule_16 rfl (tX4_isWithin  rfl) rfl rfl (Nat.le_of_ble_eq_true rfl) (by decide) ?_
    refine j_if_ne (tgt := 29) dX4_rule_19 rfl (by decide) (fun c3 => ?_) (fun c3 => ?_)
    · have hm := jif_neg c3 hm
      refine j_aload_n dX4_rule_29 rfl rfl ?_
      refine m_getr (k := 0) (r := 1) fX4_12 dX4_rule_30 rfl rfl rfl ?_
      refine m_getr (k := 13) (r := 8) fX4_118 dX4_rule_33 rfl rfl rfl ?_
      refine j_iload_n dX4_rule_36 rfl rfl ?_
      refine j_iload_n dX4_rule_37 rfl rfl ?_
      obtain ⟨p4, ep4, hm⟩ := jb_of hm
      refine o_callS_i kX4_103 dX4_rule_38 rfl (tX4_swap rfl ep4) rfl rfl (Nat.le_of_ble_eq_true rfl) (by decide) ?_
      exact j_ireturn dX4_rule_41 rfl rfl ⟨Nat.le_refl _, Nat.le_refl _⟩ (jf_m (fun z => .int z) hm)
    · have hm := jif_pos c3 hm
      refine j_sub (L' := [(0, _)]) [0] rfl ?_
      exact tX4_rule_b22    hm
theorem dX4_offer_0 : decode cX4_offer 0 = .ok (.aload_n 0, 1) := by decide +kernel
theorem dX4_offer_1 : decode cX4_offer 1 = .ok (.getfield 12, 3) := by decide +kernel
theorem dX4_offer_4 : decode cX4_offer 4 = .ok (.iload_n 1, 1) := by decide +kernel
theorem dX4_offer_5 : decode cX4_offer 5 = .ok (.invokevirtual 73, 3) := by decide +kernel
theorem dX4_offer_8 : decode cX4_offer 8 = .ok (.ifCond .eq 13, 3) := by decide +kernel
theorem dX4_offer_11 : decode cX4_offer 11 = .ok (.iload_n 2, 1) := by decide +kernel
theorem dX4_offer_12 : decode cX4_offer 12 = .ok (.iconst 0, 1) := by decide +kernel
theorem dX4_offer_13 : decode cX4_offer 13 = .ok (.ldc 121, 2) := by decide +kernel
theorem dX4_offer_15 : decode cX4_offer 15 = .ok (.invokestatic 55, 3) := by decide +kernel
theorem dX4_offer_18 : decode cX4_offer 18 = .ok (.ifCond .ne 10, 3) := by decide +kernel
theorem dX4_offer_21 : decode cX4_offer 21 = .ok (.aload_n 0, 1) := by decide +kernel
theorem dX4_offer_22 : decode cX4_offer 22 = .ok (.ldc 59, 2) := by decide +kernel
theorem dX4_offer_24 : decode cX4_offer 24 = .ok (.invokevirtual 60, 3) := by decide +kernel
theorem dX4_offer_27 : decode cX4_offer 27 = .ok (.ireturn, 1) := by decide +kernel
theorem dX4_offer_28 : decode cX4_offer 28 = .ok (.aload_n 0, 1) := by decide +kernel
theorem dX4_offer_29 : decode cX4_offer 29 = .ok (.getfield 12, 3) := by decide +kernel
theorem dX4_offer_32 : decode cX4_offer 32 = .ok (.iload_n 1, 1) := by decide +kernel
theorem dX4_offer_33 : decode cX4_offer 33 = .ok (.invokevirtual 122, 3) := by decide +kernel
theorem dX4_offer_36 : decode cX4_offer 36 = .ok (.ifCond .ne 10, 3) := by decide +kernel
theorem dX4_offer_39 : decode cX4_offer 39 = .ok (.aload_n 0, 1) := by decide +kernel
theorem dX4_offer_40 : decode cX4_offer 40 = .ok (.ldc 125, 2) := by decide +kernel
theorem dX4_offer_42 : decode cX4_offer 42 = .ok (.invokevirtual 60, 3) := by decide +kernel
theorem dX4_offer_45 : decode cX4_offer 45 = .ok (.ireturn, 1) := by decide +kernel
theorem dX4_offer_46 : decode cX4_offer 46 = .ok (.aload_n 0, 1) := by decide +kernel
theorem dX4_offer_47 : decode cX4_offer 47 = .ok (.getfield 12, 3) := by decide +kernel
theorem dX4_offer_50 : decode cX4_offer 50 = .ok (.iload_n 1, 1) := by decide +kernel
theorem dX4_offer_51 : decode cX4_offer 51 = .ok (.iload_n 2, 1) := by decide +kernel
theorem dX4_offer_52 : decode cX4_offer 52 = .ok (.invokevirtual 126, 3) := by decide +kernel
theorem dX4_offer_55 : decode cX4_offer 55 = .ok (.ifCond .eq 7, 3) := by decide +kernel
theorem dX4_offer_58 : decode cX4_offer 58 = .ok (.iconst 1, 1) := by decide +kernel
theorem dX4_offer_59 : decode cX4_offer 59 = .ok (.goto 4, 3) := by decide +kernel
theorem dX4_offer_62 : decode cX4_offer 62 = .ok (.iconst 0, 1) := by decide +kernel
theorem dX4_offer_63 : decode cX4_offer 63 = .ok (.ireturn, 1) := by decide +kernel
def mX4_offer_b21   (V : jMem) : Option (Int32 × jMem) := ((mX4_refuse (-1000000001 : Int32) V).bind (fun (p1 : Int32 × jMem) => (some (p1.1, p1.2))))
set_option maxHeartbeats 4000000 in
set_option maxRecDepth 20000 in
theorem tX4_offer_b21 {l : Launch} {Z : jZ} {q : Nat → Nat} {V : jMem} {r : Int32} {V' : jMem}    (hm : mX4_offer_b21 V = some (r, V')) : J l Z RX4 "offer" cX4_offer 3 (some .int) 7 0 0 (fun r' w => r' = some (.int r) ∧ w = jw Z q V' dX) 21 [(0, .ref (q 0))] [] (jw Z q V dX) 0 0 := by
  unfold mX4_offer_b21 at hm
  refine j_aload_n dX4_offer_21 rfl rfl ?_
  refine j_ldc dX4_offer_22 rfl wX4_59 ?_
  obtain ⟨p1, ep1, hm⟩ := jb_of hm
  refine o_callV_i kX4_60 dX4_offer_24 rfl (tX4_refuse  ep1) rfl rfl rfl rfl rfl (Nat.le_of_ble_eq_true rfl) (by decide) ?_
  exact j_ireturn dX4_offer_27 rfl rfl ⟨Nat.le_refl _, Nat.le_refl _⟩ (jf_m (fun z => .int z) hm)
def mX4_offer (a1 : Int32) (a2 : Int32) (V : jMem) : Option (Int32 × jMem) := (if (mX0_hasField a1 V) = (0 : Int32) then (mX4_offer_b21 V) else (if (mX4_isWithin a2 (0 : Int32) (99999 : Int32)) = (0 : Int32) then (mX4_offer_b21 V) else (if (mX0_isFree a1 V) = (0 : Int32) then ((mX4_refuse (-1000000005 : Int32) V).bind (fun (p6 : Int32 × jMem) => (some (p6.1, p6.2)))) else ((mX0_bid a1 a2 V).bind (fun (p4 : Int32 × jMem) => (if p4.1 = (0 : Int32) then (some ((0 : Int32), p4.2)) else (some ((1 : Int32), p4.2))))))))
set_option maxHeartbeats 4000000 in
set_option maxRecDepth 20000 in
theorem tX4_offer {l : Launch} {Z : jZ} {q : Nat → Nat} {a1 : Int32} {a2 : Int32} {V : jMem} {r : Int32} {V' : jMem}  (hm : mX4_offer a1 a2 V = some (r, V')) : CtD l Z yX4_offer cX4_offer 3 (some .int) 7 q dX [.ref (q 0), .int a1, .int a2] V (some (.int r)) V' := by
  refine Ct_of (L := [(0, .ref (q 0)), (1, .int a1), (2, .int a2)]) (own := RX4) (nm := "offer") rfl rfl (by decide +kernel) rfl (Nat.le_of_ble_eq_true rfl) ?_
  unfold mX4_offer at hm
  refine j_aload_n dX4_offer_0 rfl rfl ?_
  refine m_getr (k := 0) (r := 1) fX4_12 dX4_offer_1 rfl rfl rfl ?_
  refine j_iload_n dX4_offer_4 rfl rfl ?_
  refine o_callV_i kX4_73 dX4_offer_5 rfl (tX0_hasField  rfl) rfl rfl rfl rfl rfl (Nat.le_of_ble_eq_true rfl) (by decide) ?_
  refine j_if_eq (tgt := 21) dX4_offer_8 rfl (by decide) (fun c1 => ?_) (fun c1 => ?_)
  · have hm := jif_pos c1 hm
    refine j_sub (L' := [(0, _)]) [0] rfl ?_
    exact tX4_offer_b21    hm
  · have hm := jif_neg c1 hm
    refine j_iload_n dX4_offer_11 rfl rfl ?_
    refine j_iconst (v := 0) dX4_offer_12 rfl (by decide) ?_
    refine j_ldc dX4_offer_13 rfl wX4_121 ?_
    refine o_callS_i kX4_55 dX4_offer_15 rfl (tX4_isWithin  rfl) rfl rfl (Nat.le_of_ble_eq_true rfl) (by decide) ?_
    refine j_if_ne (tgt := 28) dX4_offer_18 rfl (by decide) (fun c2 => ?_) (fun c2 => ?_)
    · have hm := jif_neg c2 hm
      refine j_aload_n dX4_offer_28 rfl rfl ?_
      refine m_getr (k := 0) (r := 1) fX4_12 dX4_offer_29 rfl rfl rfl ?_
      refine j_iload_n dX4_offer_32 rfl rfl ?_
      refine o_callV_i kX4_122 dX4_offer_33 rfl (tX0_isFree  rfl) rfl rfl rfl rfl rfl (Nat.le_of_ble_eq_true rfl) (by decide) ?_
      refine j_if_ne (tgt := 46) dX4_offer_36 rfl (by decide) (fun c3 => ?_) (fun c3 => ?_)
      · have hm := jif_neg c3 hm
        refine j_aload_n dX4_offer_46 rfl rfl ?_
        refine m_getr (k := 0) (r := 1) fX4_12 dX4_offer_47 rfl rfl rfl ?_
        refine j_iload_n dX4_offer_50 rfl rfl ?_
        refine j_iload_n dX4_offer_51 rfl rfl ?_
        obtain ⟨p4, ep4, hm⟩ := jb_of hm
        refine o_callV_i kX4_126 dX4_offer_52 rfl (tX0_bid  ep4) rfl rfl rfl rfl rfl (Nat.le_of_ble_eq_true rfl) (by decide) ?_
        refine j_if_eq (tgt := 62) dX4_offer_55 rfl (by decide) (fun c5 => ?_) (fun c5 => ?_)
        · have hm := jif_pos c5 hm
          refine j_iconst (v := 0) dX4_offer_62 rfl (by decide) ?_
          exact j_ireturn dX4_offer_63 rfl rfl ⟨Nat.le_refl _, Nat.le_refl _⟩ (jf_m (fun z => .int z) hm)
        · have hm := jif_neg c5 hm
          refine j_iconst (v := 1) dX4_offer_58 rfl (by decide) ?_
          refine j_goto (tgt := 63) dX4_offer_59 (by decide) ?_
          exact j_ireturn dX4_offer_63 rfl rfl ⟨Nat.le_refl _, Nat.le_refl _⟩ (jf_m (fun z => .int z) hm)
      · have hm := jif_pos c3 hm
        refine j_aload_n dX4_offer_39 rfl rfl ?_
        refine j_ldc dX4_offer_40 rfl wX4_125 ?_
        obtain ⟨p6, ep6, hm⟩ := jb_of hm
        refine o_callV_i kX4_60 dX4_offer_42 rfl (tX4_refuse  ep6) rfl rfl rfl rfl rfl (Nat.le_of_ble_eq_true rfl) (by decide) ?_
        exact j_ireturn dX4_offer_45 rfl rfl ⟨Nat.le_refl _, Nat.le_refl _⟩ (jf_m (fun z => .int z) hm)
    · have hm := jif_pos c2 hm
      refine j_sub (L' := [(0, _)]) [0] rfl ?_
      exact tX4_offer_b21    hm
theorem dX4_paper_0 : decode cX4_paper 0 = .ok (.aload_n 0, 1) := by decide +kernel
theorem dX4_paper_1 : decode cX4_paper 1 = .ok (.getfield 12, 3) := by decide +kernel
theorem dX4_paper_4 : decode cX4_paper 4 = .ok (.iload_n 1, 1) := by decide +kernel
theorem dX4_paper_5 : decode cX4_paper 5 = .ok (.invokevirtual 73, 3) := by decide +kernel
theorem dX4_paper_8 : decode cX4_paper 8 = .ok (.ifCond .eq 19, 3) := by decide +kernel
theorem dX4_paper_11 : decode cX4_paper 11 = .ok (.iload_n 2, 1) := by decide +kernel
theorem dX4_paper_12 : decode cX4_paper 12 = .ok (.aload_n 0, 1) := by decide +kernel
theorem dX4_paper_13 : decode cX4_paper 13 = .ok (.getfield 12, 3) := by decide +kernel
theorem dX4_paper_16 : decode cX4_paper 16 = .ok (.getfield 129, 3) := by decide +kernel
theorem dX4_paper_19 : decode cX4_paper 19 = .ok (.bipush 99, 2) := by decide +kernel
theorem dX4_paper_21 : decode cX4_paper 21 = .ok (.invokestatic 55, 3) := by decide +kernel
theorem dX4_paper_24 : decode cX4_paper 24 = .ok (.ifCond .ne 10, 3) := by decide +kernel
theorem dX4_paper_27 : decode cX4_paper 27 = .ok (.aload_n 0, 1) := by decide +kernel
theorem dX4_paper_28 : decode cX4_paper 28 = .ok (.ldc 59, 2) := by decide +kernel
theorem dX4_paper_30 : decode cX4_paper 30 = .ok (.invokevirtual 60, 3) := by decide +kernel
theorem dX4_paper_33 : decode cX4_paper 33 = .ok (.ireturn, 1) := by decide +kernel
theorem dX4_paper_34 : decode cX4_paper 34 = .ok (.aload_n 0, 1) := by decide +kernel
theorem dX4_paper_35 : decode cX4_paper 35 = .ok (.getfield 12, 3) := by decide +kernel
theorem dX4_paper_38 : decode cX4_paper 38 = .ok (.iload_n 1, 1) := by decide +kernel
theorem dX4_paper_39 : decode cX4_paper 39 = .ok (.invokevirtual 122, 3) := by decide +kernel
theorem dX4_paper_42 : decode cX4_paper 42 = .ok (.ifCond .eq 17, 3) := by decide +kernel
theorem dX4_paper_45 : decode cX4_paper 45 = .ok (.iload_n 1, 1) := by decide +kernel
theorem dX4_paper_46 : decode cX4_paper 46 = .ok (.aload_n 0, 1) := by decide +kernel
theorem dX4_paper_47 : decode cX4_paper 47 = .ok (.getfield 12, 3) := by decide +kernel
theorem dX4_paper_50 : decode cX4_paper 50 = .ok (.getfield 132, 3) := by decide +kernel
theorem dX4_paper_53 : decode cX4_paper 53 = .ok (.invokestatic 135, 3) := by decide +kernel
theorem dX4_paper_56 : decode cX4_paper 56 = .ok (.ifCond .eq 10, 3) := by decide +kernel
theorem dX4_paper_59 : decode cX4_paper 59 = .ok (.aload_n 0, 1) := by decide +kernel
theorem dX4_paper_60 : decode cX4_paper 60 = .ok (.ldc 125, 2) := by decide +kernel
theorem dX4_paper_62 : decode cX4_paper 62 = .ok (.invokevirtual 60, 3) := by decide +kernel
theorem dX4_paper_65 : decode cX4_paper 65 = .ok (.ireturn, 1) := by decide +kernel
theorem dX4_paper_66 : decode cX4_paper 66 = .ok (.aload_n 0, 1) := by decide +kernel
theorem dX4_paper_67 : decode cX4_paper 67 = .ok (.getfield 12, 3) := by decide +kernel
theorem dX4_paper_70 : decode cX4_paper 70 = .ok (.getfield 132, 3) := by decide +kernel
theorem dX4_paper_73 : decode cX4_paper 73 = .ok (.invokestatic 138, 3) := by decide +kernel
theorem dX4_paper_76 : decode cX4_paper 76 = .ok (.bipush 6, 2) := by decide +kernel
theorem dX4_paper_78 : decode cX4_paper 78 = .ok (.if_icmp .lt 10, 3) := by decide +kernel
theorem dX4_paper_81 : decode cX4_paper 81 = .ok (.aload_n 0, 1) := by decide +kernel
theorem dX4_paper_82 : decode cX4_paper 82 = .ok (.ldc 68, 2) := by decide +kernel
theorem dX4_paper_84 : decode cX4_paper 84 = .ok (.invokevirtual 60, 3) := by decide +kernel
theorem dX4_paper_87 : decode cX4_paper 87 = .ok (.ireturn, 1) := by decide +kernel
theorem dX4_paper_88 : decode cX4_paper 88 = .ok (.aload_n 0, 1) := by decide +kernel
theorem dX4_paper_89 : decode cX4_paper 89 = .ok (.getfield 12, 3) := by decide +kernel
theorem dX4_paper_92 : decode cX4_paper 92 = .ok (.iload_n 1, 1) := by decide +kernel
theorem dX4_paper_93 : decode cX4_paper 93 = .ok (.iload_n 2, 1) := by decide +kernel
theorem dX4_paper_94 : decode cX4_paper 94 = .ok (.invokevirtual 143, 3) := by decide +kernel
theorem dX4_paper_97 : decode cX4_paper 97 = .ok (.ireturn, 1) := by decide +kernel
def mX4_paper_b27   (V : jMem) : Option (Int32 × jMem) := ((mX4_refuse (-1000000001 : Int32) V).bind (fun (p1 : Int32 × jMem) => (some (p1.1, p1.2))))
set_option maxHeartbeats 4000000 in
set_option maxRecDepth 20000 in
theorem tX4_paper_b27 {l : Launch} {Z : jZ} {q : Nat → Nat} {V : jMem} {r : Int32} {V' : jMem}    (hm : mX4_paper_b27 V = some (r, V')) : J l Z RX4 "paper" cX4_paper 3 (some .int) 7 0 0 (fun r' w => r' = some (.int r) ∧ w = jw Z q V' dX) 27 [(0, .ref (q 0))] [] (jw Z q V dX) 0 0 := by
  unfold mX4_paper_b27 at hm
  refine j_aload_n dX4_paper_27 rfl rfl ?_
  refine j_ldc dX4_paper_28 rfl wX4_59 ?_
  obtain ⟨p1, ep1, hm⟩ := jb_of hm
  refine o_callV_i kX4_60 dX4_paper_30 rfl (tX4_refuse  ep1) rfl rfl rfl rfl rfl (Nat.le_of_ble_eq_true rfl) (by decide) ?_
  exact j_ireturn dX4_paper_33 rfl rfl ⟨Nat.le_refl _, Nat.le_refl _⟩ (jf_m (fun z => .int z) hm)
def mX4_paper_b59   (V : jMem) : Option (Int32 × jMem) := ((mX4_refuse (-1000000005 : Int32) V).bind (fun (p1 : Int32 × jMem) => (some (p1.1, p1.2))))
set_option maxHeartbeats 4000000 in
set_option maxRecDepth 20000 in
theorem tX4_paper_b59 {l : Launch} {Z : jZ} {q : Nat → Nat} {V : jMem} {r : Int32} {V' : jMem}    (hm : mX4_paper_b59 V = some (r, V')) : J l Z RX4 "paper" cX4_paper 3 (some .int) 7 0 0 (fun r' w => r' = some (.int r) ∧ w = jw Z q V' dX) 59 [(0, .ref (q 0))] [] (jw Z q V dX) 0 0 := by
  unfold mX4_paper_b59 at hm
  refine j_aload_n dX4_paper_59 rfl rfl ?_
  refine j_ldc dX4_paper_60 rfl wX4_125 ?_
  obtain ⟨p1, ep1, hm⟩ := jb_of hm
  refine o_callV_i kX4_60 dX4_paper_62 rfl (tX4_refuse  ep1) rfl rfl rfl rfl rfl (Nat.le_of_ble_eq_true rfl) (by decide) ?_
  exact j_ireturn dX4_paper_65 rfl rfl ⟨Nat.le_refl _, Nat.le_refl _⟩ (jf_m (fun z => .int z) hm)
def mX4_paper (a1 : Int32) (a2 : Int32) (V : jMem) : Option (Int32 × jMem) := (if (mX0_hasField a1 V) = (0 : Int32) then (mX4_paper_b27 V) else (if (mX4_isWithin a2 (V.1 1 10) (99 : Int32)) = (0 : Int32) then (mX4_paper_b27 V) else (if (mX0_isFree a1 V) = (0 : Int32) then (mX4_paper_b59 V) else (if (mX4_isIn a1 (V.1 1 7)) = (0 : Int32) then (if (mJ6_bitCount_0f7a4 (V.1 1 7)) < (6 : Int32) then ((mX0_takePaper a1 a2 V).bind (fun (p6 : Int32 × jMem) => (some (p6.1, p6.2)))) else ((mX4_refuse (-1000000002 : Int32) V).bind (fun (p7 : Int32 × jMem) => (some (p7.1, p7.2))))) else (mX4_paper_b59 V)))))
set_option maxHeartbeats 4000000 in
set_option maxRecDepth 20000 in
theorem tX4_paper {l : Launch} {Z : jZ} {q : Nat → Nat} {a1 : Int32} {a2 : Int32} {V : jMem} {r : Int32} {V' : jMem}  (hm : mX4_paper a1 a2 V = some (r, V')) : CtD l Z yX4_paper cX4_paper 3 (some .int) 7 q dX [.ref (q 0), .int a1, .int a2] V (some (.int r)) V' := by
  refine Ct_of (L := [(0, .ref (q 0)), (1, .int a1), (2, .int a2)]) (own := RX4) (nm := "paper") rfl rfl (by decide +kernel) rfl (Nat.le_of_ble_eq_true rfl) ?_
  unfold mX4_paper at hm
  refine j_aload_n dX4_paper_0 rfl rfl ?_
  refine m_getr (k := 0) (r := 1) fX4_12 dX4_paper_1 rfl rfl rfl ?_
  refine j_iload_n dX4_paper_4 rfl rfl ?_
  refine o_callV_i kX4_73 dX4_paper_5 rfl (tX0_hasField  rfl) rfl rfl rfl rfl rfl (Nat.le_of_ble_eq_true rfl) (by decide) ?_
  refine j_if_eq (tgt := 27) dX4_paper_8 rfl (by decide) (fun c1 => ?_) (fun c1 => ?_)
  · have hm := jif_pos c1 hm
    refine j_sub (L' := [(0, _)]) [0] rfl ?_
    exact tX4_paper_b27    hm
  · have hm := jif_neg c1 hm
    refine j_iload_n dX4_paper_11 rfl rfl ?_
    refine j_aload_n dX4_paper_12 rfl rfl ?_
    refine m_getr (k := 0) (r := 1) fX4_12 dX4_paper_13 rfl rfl rfl ?_
    refine m_geti (k := 10) fX4_129 dX4_paper_16 rfl rfl rfl ?_
    refine j_bipush (v := 99) dX4_paper_19 rfl (by decide) ?_
    refine o_callS_i kX4_55 dX4_paper_21 rfl (tX4_isWithin  rfl) rfl rfl (Nat.le_of_ble_eq_true rfl) (by decide) ?_
    refine j_if_ne (tgt := 34) dX4_paper_24 rfl (by decide) (fun c2 => ?_) (fun c2 => ?_)
    · have hm := jif_neg c2 hm
      refine j_aload_n dX4_paper_34 rfl rfl ?_
      refine m_getr (k := 0) (r := 1) fX4_12 dX4_paper_35 rfl rfl rfl ?_
      refine j_iload_n dX4_paper_38 rfl rfl ?_
      refine o_callV_i kX4_122 dX4_paper_39 rfl (tX0_isFree  rfl) rfl rfl rfl rfl rfl (Nat.le_of_ble_eq_true rfl) (by decide) ?_
      refine j_if_eq (tgt := 59) dX4_paper_42 rfl (by decide) (fun c3 => ?_) (fun c3 => ?_)
      · have hm := jif_pos c3 hm
        refine j_sub (L' := [(0, _)]) [0] rfl ?_
        exact tX4_paper_b59    hm
      · have hm := jif_neg c3 hm
        refine j_iload_n dX4_paper_45 rfl rfl ?_
        refine j_aload_n dX4_paper_46 rfl rfl ?_
        refine m_getr (k := 0) (r := 1) fX4_12 dX4_paper_47 rfl rfl rfl ?_
        refine m_geti (k := 7) fX4_132 dX4_paper_50 rfl rfl rfl ?_
        refine o_callS_i kX4_135 dX4_paper_53 rfl (tX4_isIn  rfl) rfl rfl (Nat.le_of_ble_eq_true rfl) (by decide) ?_
        refine j_if_eq (tgt := 66) dX4_paper_56 rfl (by decide) (fun c4 => ?_) (fun c4 => ?_)
        · have hm := jif_pos c4 hm
          refine j_aload_n dX4_paper_66 rfl rfl ?_
          refine m_getr (k := 0) (r := 1) fX4_12 dX4_paper_67 rfl rfl rfl ?_
          refine m_geti (k := 7) fX4_132 dX4_paper_70 rfl rfl rfl ?_
          refine o_callS_i kX4_138 dX4_paper_73 rfl (tJ6_bitCount_0f7a4  rfl) rfl rfl (Nat.le_of_ble_eq_true rfl) (by decide) ?_
          refine j_bipush (v := 6) dX4_paper_76 rfl (by decide) ?_
          refine j_icmp_lt (tgt := 88) dX4_paper_78 rfl (by decide) (fun c5 => ?_) (fun c5 => ?_)
          · have hm := jif_pos c5 hm
            refine j_aload_n dX4_paper_88 rfl rfl ?_
            refine m_getr (k := 0) (r := 1) fX4_12 dX4_paper_89 rfl rfl rfl ?_
            refine j_iload_n dX4_paper_92 rfl rfl ?_
            refine j_iload_n dX4_paper_93 rfl rfl ?_
            obtain ⟨p6, ep6, hm⟩ := jb_of hm
            refine o_callV_i kX4_143 dX4_paper_94 rfl (tX0_takePaper  ep6) rfl rfl rfl rfl rfl (Nat.le_of_ble_eq_true rfl) (by decide) ?_
            exact j_ireturn dX4_paper_97 rfl rfl ⟨Nat.le_refl _, Nat.le_refl _⟩ (jf_m (fun z => .int z) hm)
          · have hm := jif_neg c5 hm
            refine j_aload_n dX4_paper_81 rfl rfl ?_
            refine j_ldc dX4_paper_82 rfl wX4_68 ?_
            obtain ⟨p7, ep7, hm⟩ := jb_of hm
            refine o_callV_i kX4_60 dX4_paper_84 rfl (tX4_refuse  ep7) rfl rfl rfl rfl rfl (Nat.le_of_ble_eq_true rfl) (by decide) ?_
            exact j_ireturn dX4_paper_87 rfl rfl ⟨Nat.le_refl _, Nat.le_refl _⟩ (jf_m (fun z => .int z) hm)
        · have hm := jif_neg c4 hm
          refine j_sub (L' := [(0, _)]) [0] rfl ?_
          exact tX4_paper_b59    hm
    · have hm := jif_pos c2 hm
      refine j_sub (L' := [(0, _)]) [0] rfl ?_
      exact tX4_paper_b27    hm
theorem dX4_paperOf_0 : decode cX4_paperOf 0 = .ok (.aload_n 0, 1) := by decide +kernel
theorem dX4_paperOf_1 : decode cX4_paperOf 1 = .ok (.getfield 12, 3) := by decide +kernel
theorem dX4_paperOf_4 : decode cX4_paperOf 4 = .ok (.iload_n 1, 1) := by decide +kernel
theorem dX4_paperOf_5 : decode cX4_paperOf 5 = .ok (.invokevirtual 73, 3) := by decide +kernel
theorem dX4_paperOf_8 : decode cX4_paperOf 8 = .ok (.ifCond .eq 12, 3) := by decide +kernel
theorem dX4_paperOf_11 : decode cX4_paperOf 11 = .ok (.iload_n 2, 1) := by decide +kernel
theorem dX4_paperOf_12 : decode cX4_paperOf 12 = .ok (.iconst 0, 1) := by decide +kernel
theorem dX4_paperOf_13 : decode cX4_paperOf 13 = .ok (.iconst 1, 1) := by decide +kernel
theorem dX4_paperOf_14 : decode cX4_paperOf 14 = .ok (.invokestatic 55, 3) := by decide +kernel
theorem dX4_paperOf_17 : decode cX4_paperOf 17 = .ok (.ifCond .ne 10, 3) := by decide +kernel
theorem dX4_paperOf_20 : decode cX4_paperOf 20 = .ok (.aload_n 0, 1) := by decide +kernel
theorem dX4_paperOf_21 : decode cX4_paperOf 21 = .ok (.ldc 59, 2) := by decide +kernel
theorem dX4_paperOf_23 : decode cX4_paperOf 23 = .ok (.invokevirtual 60, 3) := by decide +kernel
theorem dX4_paperOf_26 : decode cX4_paperOf 26 = .ok (.ireturn, 1) := by decide +kernel
theorem dX4_paperOf_27 : decode cX4_paperOf 27 = .ok (.iload_n 1, 1) := by decide +kernel
theorem dX4_paperOf_28 : decode cX4_paperOf 28 = .ok (.aload_n 0, 1) := by decide +kernel
theorem dX4_paperOf_29 : decode cX4_paperOf 29 = .ok (.getfield 12, 3) := by decide +kernel
theorem dX4_paperOf_32 : decode cX4_paperOf 32 = .ok (.getfield 132, 3) := by decide +kernel
theorem dX4_paperOf_35 : decode cX4_paperOf 35 = .ok (.invokestatic 135, 3) := by decide +kernel
theorem dX4_paperOf_38 : decode cX4_paperOf 38 = .ok (.ifCond .ne 10, 3) := by decide +kernel
theorem dX4_paperOf_41 : decode cX4_paperOf 41 = .ok (.aload_n 0, 1) := by decide +kernel
theorem dX4_paperOf_42 : decode cX4_paperOf 42 = .ok (.ldc 146, 2) := by decide +kernel
theorem dX4_paperOf_44 : decode cX4_paperOf 44 = .ok (.invokevirtual 60, 3) := by decide +kernel
theorem dX4_paperOf_47 : decode cX4_paperOf 47 = .ok (.ireturn, 1) := by decide +kernel
theorem dX4_paperOf_48 : decode cX4_paperOf 48 = .ok (.iload_n 2, 1) := by decide +kernel
theorem dX4_paperOf_49 : decode cX4_paperOf 49 = .ok (.ifCond .ne 15, 3) := by decide +kernel
theorem dX4_paperOf_52 : decode cX4_paperOf 52 = .ok (.aload_n 0, 1) := by decide +kernel
theorem dX4_paperOf_53 : decode cX4_paperOf 53 = .ok (.getfield 12, 3) := by decide +kernel
theorem dX4_paperOf_56 : decode cX4_paperOf 56 = .ok (.getfield 147, 3) := by decide +kernel
theorem dX4_paperOf_59 : decode cX4_paperOf 59 = .ok (.iload_n 1, 1) := by decide +kernel
theorem dX4_paperOf_60 : decode cX4_paperOf 60 = .ok (.iaload, 1) := by decide +kernel
theorem dX4_paperOf_61 : decode cX4_paperOf 61 = .ok (.goto 12, 3) := by decide +kernel
theorem dX4_paperOf_64 : decode cX4_paperOf 64 = .ok (.aload_n 0, 1) := by decide +kernel
theorem dX4_paperOf_65 : decode cX4_paperOf 65 = .ok (.getfield 12, 3) := by decide +kernel
theorem dX4_paperOf_68 : decode cX4_paperOf 68 = .ok (.getfield 150, 3) := by decide +kernel
theorem dX4_paperOf_71 : decode cX4_paperOf 71 = .ok (.iload_n 1, 1) := by decide +kernel
theorem dX4_paperOf_72 : decode cX4_paperOf 72 = .ok (.iaload, 1) := by decide +kernel
theorem dX4_paperOf_73 : decode cX4_paperOf 73 = .ok (.ireturn, 1) := by decide +kernel
def mX4_paperOf_b20   (V : jMem) : Option (Int32 × jMem) := ((mX4_refuse (-1000000001 : Int32) V).bind (fun (p1 : Int32 × jMem) => (some (p1.1, p1.2))))
set_option maxHeartbeats 4000000 in
set_option maxRecDepth 20000 in
theorem tX4_paperOf_b20 {l : Launch} {Z : jZ} {q : Nat → Nat} {V : jMem} {r : Int32} {V' : jMem}    (hm : mX4_paperOf_b20 V = some (r, V')) : J l Z RX4 "paperOf" cX4_paperOf 3 (some .int) 2 0 0 (fun r' w => r' = some (.int r) ∧ w = jw Z q V' dX) 20 [(0, .ref (q 0))] [] (jw Z q V dX) 0 0 := by
  unfold mX4_paperOf_b20 at hm
  refine j_aload_n dX4_paperOf_20 rfl rfl ?_
  refine j_ldc dX4_paperOf_21 rfl wX4_59 ?_
  obtain ⟨p1, ep1, hm⟩ := jb_of hm
  refine o_callV_i kX4_60 dX4_paperOf_23 rfl (tX4_refuse  ep1) rfl rfl rfl rfl rfl (Nat.le_of_ble_eq_true rfl) (by decide) ?_
  exact j_ireturn dX4_paperOf_26 rfl rfl ⟨Nat.le_refl _, Nat.le_refl _⟩ (jf_m (fun z => .int z) hm)
def mX4_paperOf (a1 : Int32) (a2 : Int32) (V : jMem) : Option (Int32 × jMem) := (if (mX0_hasField a1 V) = (0 : Int32) then (mX4_paperOf_b20 V) else (if (mX4_isWithin a2 (0 : Int32) (1 : Int32)) = (0 : Int32) then (mX4_paperOf_b20 V) else (if (mX4_isIn a1 (V.1 1 7)) = (0 : Int32) then ((mX4_refuse (-1000000004 : Int32) V).bind (fun (p7 : Int32 × jMem) => (some (p7.1, p7.2)))) else (if a2 = (0 : Int32) then (jg (jin a1 14) (some ((V.1 6 (Int32.toNatClampNeg a1)), V))) else (jg (jin a1 14) (some ((V.1 7 (Int32.toNatClampNeg a1)), V)))))))
set_option maxHeartbeats 4000000 in
set_option maxRecDepth 20000 in
theorem tX4_paperOf {l : Launch} {Z : jZ} {q : Nat → Nat} {a1 : Int32} {a2 : Int32} {V : jMem} {r : Int32} {V' : jMem}  (hm : mX4_paperOf a1 a2 V = some (r, V')) : CtD l Z yX4_paperOf cX4_paperOf 3 (some .int) 2 q dX [.ref (q 0), .int a1, .int a2] V (some (.int r)) V' := by
  refine Ct_of (L := [(0, .ref (q 0)), (1, .int a1), (2, .int a2)]) (own := RX4) (nm := "paperOf") rfl rfl (by decide +kernel) rfl (Nat.le_of_ble_eq_true rfl) ?_
  unfold mX4_paperOf at hm
  refine j_aload_n dX4_paperOf_0 rfl rfl ?_
  refine m_getr (k := 0) (r := 1) fX4_12 dX4_paperOf_1 rfl rfl rfl ?_
  refine j_iload_n dX4_paperOf_4 rfl rfl ?_
  refine o_callV_i kX4_73 dX4_paperOf_5 rfl (tX0_hasField  rfl) rfl rfl rfl rfl rfl (Nat.le_of_ble_eq_true rfl) (by decide) ?_
  refine j_if_eq (tgt := 20) dX4_paperOf_8 rfl (by decide) (fun c1 => ?_) (fun c1 => ?_)
  · have hm := jif_pos c1 hm
    refine j_sub (L' := [(0, _)]) [0] rfl ?_
    exact tX4_paperOf_b20    hm
  · have hm := jif_neg c1 hm
    refine j_iload_n dX4_paperOf_11 rfl rfl ?_
    refine j_iconst (v := 0) dX4_paperOf_12 rfl (by decide) ?_
    refine j_iconst (v := 1) dX4_paperOf_13 rfl (by decide) ?_
    refine o_callS_i kX4_55 dX4_paperOf_14 rfl (tX4_isWithin  rfl) rfl rfl (Nat.le_of_ble_eq_true rfl) (by decide) ?_
    refine j_if_ne (tgt := 27) dX4_paperOf_17 rfl (by decide) (fun c2 => ?_) (fun c2 => ?_)
    · have hm := jif_neg c2 hm
      refine j_iload_n dX4_paperOf_27 rfl rfl ?_
      refine j_aload_n dX4_paperOf_28 rfl rfl ?_
      refine m_getr (k := 0) (r := 1) fX4_12 dX4_paperOf_29 rfl rfl rfl ?_
      refine m_geti (k := 7) fX4_132 dX4_paperOf_32 rfl rfl rfl ?_
      refine o_callS_i kX4_135 dX4_paperOf_35 rfl (tX4_isIn  rfl) rfl rfl (Nat.le_of_ble_eq_true rfl) (by decide) ?_
      refine j_if_ne (tgt := 48) dX4_paperOf_38 rfl (by decide) (fun c3 => ?_) (fun c3 => ?_)
      · have hm := jif_neg c3 hm
        refine j_iload_n dX4_paperOf_48 rfl rfl ?_
        refine j_if_ne (tgt := 64) dX4_paperOf_49 rfl (by decide) (fun c4 => ?_) (fun c4 => ?_)
        · have hm := jif_neg c4 hm
          refine j_aload_n dX4_paperOf_64 rfl rfl ?_
          refine m_getr (k := 0) (r := 1) fX4_12 dX4_paperOf_65 rfl rfl rfl ?_
          refine m_getr (k := 9) (r := 7) fX4_150 dX4_paperOf_68 rfl rfl rfl ?_
          refine j_iload_n dX4_paperOf_71 rfl rfl ?_
          obtain ⟨g5, hm⟩ := jg_of hm
          refine o_iald (k := (Int32.toNatClampNeg a1)) rfl dX4_paperOf_72 rfl rfl (jin_vp g5) ?_
          exact j_ireturn dX4_paperOf_73 rfl rfl ⟨Nat.le_refl _, Nat.le_refl _⟩ (jf_m (fun z => .int z) hm)
        · have hm := jif_pos c4 hm
          refine j_aload_n dX4_paperOf_52 rfl rfl ?_
          refine m_getr (k := 0) (r := 1) fX4_12 dX4_paperOf_53 rfl rfl rfl ?_
          refine m_getr (k := 8) (r := 6) fX4_147 dX4_paperOf_56 rfl rfl rfl ?_
          refine j_iload_n dX4_paperOf_59 rfl rfl ?_
          obtain ⟨g6, hm⟩ := jg_of hm
          refine o_iald (k := (Int32.toNatClampNeg a1)) rfl dX4_paperOf_60 rfl rfl (jin_vp g6) ?_
          refine j_goto (tgt := 73) dX4_paperOf_61 (by decide) ?_
          exact j_ireturn dX4_paperOf_73 rfl rfl ⟨Nat.le_refl _, Nat.le_refl _⟩ (jf_m (fun z => .int z) hm)
      · have hm := jif_pos c3 hm
        refine j_aload_n dX4_paperOf_41 rfl rfl ?_
        refine j_ldc dX4_paperOf_42 rfl wX4_146 ?_
        obtain ⟨p7, ep7, hm⟩ := jb_of hm
        refine o_callV_i kX4_60 dX4_paperOf_44 rfl (tX4_refuse  ep7) rfl rfl rfl rfl rfl (Nat.le_of_ble_eq_true rfl) (by decide) ?_
        exact j_ireturn dX4_paperOf_47 rfl rfl ⟨Nat.le_refl _, Nat.le_refl _⟩ (jf_m (fun z => .int z) hm)
    · have hm := jif_pos c2 hm
      refine j_sub (L' := [(0, _)]) [0] rfl ?_
      exact tX4_paperOf_b20    hm
theorem dX4_claim_0 : decode cX4_claim 0 = .ok (.aload_n 0, 1) := by decide +kernel
theorem dX4_claim_1 : decode cX4_claim 1 = .ok (.getfield 12, 3) := by decide +kernel
theorem dX4_claim_4 : decode cX4_claim 4 = .ok (.iload_n 1, 1) := by decide +kernel
theorem dX4_claim_5 : decode cX4_claim 5 = .ok (.invokevirtual 73, 3) := by decide +kernel
theorem dX4_claim_8 : decode cX4_claim 8 = .ok (.ifCond .ne 10, 3) := by decide +kernel
theorem dX4_claim_11 : decode cX4_claim 11 = .ok (.aload_n 0, 1) := by decide +kernel
theorem dX4_claim_12 : decode cX4_claim 12 = .ok (.ldc 59, 2) := by decide +kernel
theorem dX4_claim_14 : decode cX4_claim 14 = .ok (.invokevirtual 60, 3) := by decide +kernel
theorem dX4_claim_17 : decode cX4_claim 17 = .ok (.ireturn, 1) := by decide +kernel
theorem dX4_claim_18 : decode cX4_claim 18 = .ok (.iload_n 1, 1) := by decide +kernel
theorem dX4_claim_19 : decode cX4_claim 19 = .ok (.aload_n 0, 1) := by decide +kernel
theorem dX4_claim_20 : decode cX4_claim 20 = .ok (.getfield 12, 3) := by decide +kernel
theorem dX4_claim_23 : decode cX4_claim 23 = .ok (.getfield 132, 3) := by decide +kernel
theorem dX4_claim_26 : decode cX4_claim 26 = .ok (.invokestatic 135, 3) := by decide +kernel
theorem dX4_claim_29 : decode cX4_claim 29 = .ok (.ifCond .ne 10, 3) := by decide +kernel
theorem dX4_claim_32 : decode cX4_claim 32 = .ok (.aload_n 0, 1) := by decide +kernel
theorem dX4_claim_33 : decode cX4_claim 33 = .ok (.ldc 146, 2) := by decide +kernel
theorem dX4_claim_35 : decode cX4_claim 35 = .ok (.invokevirtual 60, 3) := by decide +kernel
theorem dX4_claim_38 : decode cX4_claim 38 = .ok (.ireturn, 1) := by decide +kernel
theorem dX4_claim_39 : decode cX4_claim 39 = .ok (.aload_n 0, 1) := by decide +kernel
theorem dX4_claim_40 : decode cX4_claim 40 = .ok (.getfield 12, 3) := by decide +kernel
theorem dX4_claim_43 : decode cX4_claim 43 = .ok (.iload_n 1, 1) := by decide +kernel
theorem dX4_claim_44 : decode cX4_claim 44 = .ok (.aload_n 0, 1) := by decide +kernel
theorem dX4_claim_45 : decode cX4_claim 45 = .ok (.getfield 12, 3) := by decide +kernel
theorem dX4_claim_48 : decode cX4_claim 48 = .ok (.getfield 147, 3) := by decide +kernel
theorem dX4_claim_51 : decode cX4_claim 51 = .ok (.iload_n 1, 1) := by decide +kernel
theorem dX4_claim_52 : decode cX4_claim 52 = .ok (.iaload, 1) := by decide +kernel
theorem dX4_claim_53 : decode cX4_claim 53 = .ok (.invokevirtual 153, 3) := by decide +kernel
theorem dX4_claim_56 : decode cX4_claim 56 = .ok (.aload_n 0, 1) := by decide +kernel
theorem dX4_claim_57 : decode cX4_claim 57 = .ok (.getfield 12, 3) := by decide +kernel
theorem dX4_claim_60 : decode cX4_claim 60 = .ok (.getfield 147, 3) := by decide +kernel
theorem dX4_claim_63 : decode cX4_claim 63 = .ok (.iload_n 1, 1) := by decide +kernel
theorem dX4_claim_64 : decode cX4_claim 64 = .ok (.iaload, 1) := by decide +kernel
theorem dX4_claim_65 : decode cX4_claim 65 = .ok (.ireturn, 1) := by decide +kernel
def mX4_claim (a1 : Int32) (V : jMem) : Option (Int32 × jMem) := (if (mX0_hasField a1 V) = (0 : Int32) then ((mX4_refuse (-1000000001 : Int32) V).bind (fun (p6 : Int32 × jMem) => (some (p6.1, p6.2)))) else (if (mX4_isIn a1 (V.1 1 7)) = (0 : Int32) then ((mX4_refuse (-1000000004 : Int32) V).bind (fun (p5 : Int32 × jMem) => (some (p5.1, p5.2)))) else (jg (jin a1 14) ((mX0_buy a1 (V.1 6 (Int32.toNatClampNeg a1)) V).bind (fun (p4 : jMem) => (some ((p4.1 6 (Int32.toNatClampNeg a1)), p4)))))))
set_option maxHeartbeats 4000000 in
set_option maxRecDepth 20000 in
theorem tX4_claim {l : Launch} {Z : jZ} {q : Nat → Nat} {a1 : Int32} {V : jMem} {r : Int32} {V' : jMem}  (hm : mX4_claim a1 V = some (r, V')) : CtD l Z yX4_claim cX4_claim 2 (some .int) 2 q dX [.ref (q 0), .int a1] V (some (.int r)) V' := by
  refine Ct_of (L := [(0, .ref (q 0)), (1, .int a1)]) (own := RX4) (nm := "claim") rfl rfl (by decide +kernel) rfl (Nat.le_of_ble_eq_true rfl) ?_
  unfold mX4_claim at hm
  refine j_aload_n dX4_claim_0 rfl rfl ?_
  refine m_getr (k := 0) (r := 1) fX4_12 dX4_claim_1 rfl rfl rfl ?_
  refine j_iload_n dX4_claim_4 rfl rfl ?_
  refine o_callV_i kX4_73 dX4_claim_5 rfl (tX0_hasField  rfl) rfl rfl rfl rfl rfl (Nat.le_of_ble_eq_true rfl) (by decide) ?_
  refine j_if_ne (tgt := 18) dX4_claim_8 rfl (by decide) (fun c1 => ?_) (fun c1 => ?_)
  · have hm := jif_neg c1 hm
    refine j_iload_n dX4_claim_18 rfl rfl ?_
    refine j_aload_n dX4_claim_19 rfl rfl ?_
    refine m_getr (k := 0) (r := 1) fX4_12 dX4_claim_20 rfl rfl rfl ?_
    refine m_geti (k := 7) fX4_132 dX4_claim_23 rfl rfl rfl ?_
    refine o_callS_i kX4_135 dX4_claim_26 rfl (tX4_isIn  rfl) rfl rfl (Nat.le_of_ble_eq_true rfl) (by decide) ?_
    refine j_if_ne (tgt := 39) dX4_claim_29 rfl (by decide) (fun c2 => ?_) (fun c2 => ?_)
    · have hm := jif_neg c2 hm
      refine j_aload_n dX4_claim_39 rfl rfl ?_
      refine m_getr (k := 0) (r := 1) fX4_12 dX4_claim_40 rfl rfl rfl ?_
      refine j_iload_n dX4_claim_43 rfl rfl ?_
      refine j_aload_n dX4_claim_44 rfl rfl ?_
      refine m_getr (k := 0) (r := 1) fX4_12 dX4_claim_45 rfl rfl rfl ?_
      refine m_getr (k := 8) (r := 6) fX4_147 dX4_claim_48 rfl rfl rfl ?_
      refine j_iload_n dX4_claim_51 rfl rfl ?_
      obtain ⟨g3, hm⟩ := jg_of hm
      refine o_iald (k := (Int32.toNatClampNeg a1)) rfl dX4_claim_52 rfl rfl (jin_vp g3) ?_
      obtain ⟨p4, ep4, hm⟩ := jb_of hm
      refine o_callV_v kX4_153 dX4_claim_53 rfl (tX0_buy  ep4) rfl rfl rfl rfl rfl (Nat.le_of_ble_eq_true rfl) (by decide) ?_
      refine j_aload_n dX4_claim_56 rfl rfl ?_
      refine m_getr (k := 0) (r := 1) fX4_12 dX4_claim_57 rfl rfl rfl ?_
      refine m_getr (k := 8) (r := 6) fX4_147 dX4_claim_60 rfl rfl rfl ?_
      refine j_iload_n dX4_claim_63 rfl rfl ?_
      refine o_iald (k := (Int32.toNatClampNeg a1)) rfl dX4_claim_64 rfl rfl (jin_vp g3) ?_
      exact j_ireturn dX4_claim_65 rfl rfl ⟨Nat.le_refl _, Nat.le_refl _⟩ (jf_m (fun z => .int z) hm)
    · have hm := jif_pos c2 hm
      refine j_aload_n dX4_claim_32 rfl rfl ?_
      refine j_ldc dX4_claim_33 rfl wX4_146 ?_
      obtain ⟨p5, ep5, hm⟩ := jb_of hm
      refine o_callV_i kX4_60 dX4_claim_35 rfl (tX4_refuse  ep5) rfl rfl rfl rfl rfl (Nat.le_of_ble_eq_true rfl) (by decide) ?_
      exact j_ireturn dX4_claim_38 rfl rfl ⟨Nat.le_refl _, Nat.le_refl _⟩ (jf_m (fun z => .int z) hm)
  · have hm := jif_pos c1 hm
    refine j_aload_n dX4_claim_11 rfl rfl ?_
    refine j_ldc dX4_claim_12 rfl wX4_59 ?_
    obtain ⟨p6, ep6, hm⟩ := jb_of hm
    refine o_callV_i kX4_60 dX4_claim_14 rfl (tX4_refuse  ep6) rfl rfl rfl rfl rfl (Nat.le_of_ble_eq_true rfl) (by decide) ?_
    exact j_ireturn dX4_claim_17 rfl rfl ⟨Nat.le_refl _, Nat.le_refl _⟩ (jf_m (fun z => .int z) hm)
theorem dX4_county_0 : decode cX4_county 0 = .ok (.aload_n 0, 1) := by decide +kernel
theorem dX4_county_1 : decode cX4_county 1 = .ok (.getfield 12, 3) := by decide +kernel
theorem dX4_county_4 : decode cX4_county 4 = .ok (.iload_n 1, 1) := by decide +kernel
theorem dX4_county_5 : decode cX4_county 5 = .ok (.invokevirtual 73, 3) := by decide +kernel
theorem dX4_county_8 : decode cX4_county 8 = .ok (.ifCond .ne 10, 3) := by decide +kernel
theorem dX4_county_11 : decode cX4_county 11 = .ok (.aload_n 0, 1) := by decide +kernel
theorem dX4_county_12 : decode cX4_county 12 = .ok (.ldc 59, 2) := by decide +kernel
theorem dX4_county_14 : decode cX4_county 14 = .ok (.invokevirtual 60, 3) := by decide +kernel
theorem dX4_county_17 : decode cX4_county 17 = .ok (.ireturn, 1) := by decide +kernel
theorem dX4_county_18 : decode cX4_county 18 = .ok (.aload_n 0, 1) := by decide +kernel
theorem dX4_county_19 : decode cX4_county 19 = .ok (.getfield 12, 3) := by decide +kernel
theorem dX4_county_22 : decode cX4_county 22 = .ok (.iload_n 1, 1) := by decide +kernel
theorem dX4_county_23 : decode cX4_county 23 = .ok (.invokevirtual 122, 3) := by decide +kernel
theorem dX4_county_26 : decode cX4_county 26 = .ok (.ifCond .ne 10, 3) := by decide +kernel
theorem dX4_county_29 : decode cX4_county 29 = .ok (.aload_n 0, 1) := by decide +kernel
theorem dX4_county_30 : decode cX4_county 30 = .ok (.ldc 125, 2) := by decide +kernel
theorem dX4_county_32 : decode cX4_county 32 = .ok (.invokevirtual 60, 3) := by decide +kernel
theorem dX4_county_35 : decode cX4_county 35 = .ok (.ireturn, 1) := by decide +kernel
theorem dX4_county_36 : decode cX4_county 36 = .ok (.aload_n 0, 1) := by decide +kernel
theorem dX4_county_37 : decode cX4_county 37 = .ok (.getfield 12, 3) := by decide +kernel
theorem dX4_county_40 : decode cX4_county 40 = .ok (.getfield 118, 3) := by decide +kernel
theorem dX4_county_43 : decode cX4_county 43 = .ok (.iconst 3, 1) := by decide +kernel
theorem dX4_county_44 : decode cX4_county 44 = .ok (.iaload, 1) := by decide +kernel
theorem dX4_county_45 : decode cX4_county 45 = .ok (.ifCond .ne 10, 3) := by decide +kernel
theorem dX4_county_48 : decode cX4_county 48 = .ok (.aload_n 0, 1) := by decide +kernel
theorem dX4_county_49 : decode cX4_county 49 = .ok (.ldc 146, 2) := by decide +kernel
theorem dX4_county_51 : decode cX4_county 51 = .ok (.invokevirtual 60, 3) := by decide +kernel
theorem dX4_county_54 : decode cX4_county 54 = .ok (.ireturn, 1) := by decide +kernel
theorem dX4_county_55 : decode cX4_county 55 = .ok (.aload_n 0, 1) := by decide +kernel
theorem dX4_county_56 : decode cX4_county 56 = .ok (.getfield 12, 3) := by decide +kernel
theorem dX4_county_59 : decode cX4_county 59 = .ok (.getfield 79, 3) := by decide +kernel
theorem dX4_county_62 : decode cX4_county 62 = .ok (.iload_n 1, 1) := by decide +kernel
theorem dX4_county_63 : decode cX4_county 63 = .ok (.iaload, 1) := by decide +kernel
theorem dX4_county_64 : decode cX4_county 64 = .ok (.aload_n 0, 1) := by decide +kernel
theorem dX4_county_65 : decode cX4_county 65 = .ok (.getfield 12, 3) := by decide +kernel
theorem dX4_county_68 : decode cX4_county 68 = .ok (.getfield 118, 3) := by decide +kernel
theorem dX4_county_71 : decode cX4_county 71 = .ok (.iconst 2, 1) := by decide +kernel
theorem dX4_county_72 : decode cX4_county 72 = .ok (.iaload, 1) := by decide +kernel
theorem dX4_county_73 : decode cX4_county 73 = .ok (.imul, 1) := by decide +kernel
theorem dX4_county_74 : decode cX4_county 74 = .ok (.bipush 100, 2) := by decide +kernel
theorem dX4_county_76 : decode cX4_county 76 = .ok (.idiv, 1) := by decide +kernel
theorem dX4_county_77 : decode cX4_county 77 = .ok (.istore_n 2, 1) := by decide +kernel
theorem dX4_county_78 : decode cX4_county 78 = .ok (.aload_n 0, 1) := by decide +kernel
theorem dX4_county_79 : decode cX4_county 79 = .ok (.getfield 12, 3) := by decide +kernel
theorem dX4_county_82 : decode cX4_county 82 = .ok (.getfield 118, 3) := by decide +kernel
theorem dX4_county_85 : decode cX4_county 85 = .ok (.iconst 3, 1) := by decide +kernel
theorem dX4_county_86 : decode cX4_county 86 = .ok (.dup2, 1) := by decide +kernel
theorem dX4_county_87 : decode cX4_county 87 = .ok (.iaload, 1) := by decide +kernel
theorem dX4_county_88 : decode cX4_county 88 = .ok (.iconst 1, 1) := by decide +kernel
theorem dX4_county_89 : decode cX4_county 89 = .ok (.isub, 1) := by decide +kernel
theorem dX4_county_90 : decode cX4_county 90 = .ok (.iastore, 1) := by decide +kernel
theorem dX4_county_91 : decode cX4_county 91 = .ok (.aload_n 0, 1) := by decide +kernel
theorem dX4_county_92 : decode cX4_county 92 = .ok (.getfield 12, 3) := by decide +kernel
theorem dX4_county_95 : decode cX4_county 95 = .ok (.iload_n 1, 1) := by decide +kernel
theorem dX4_county_96 : decode cX4_county 96 = .ok (.iload_n 2, 1) := by decide +kernel
theorem dX4_county_97 : decode cX4_county 97 = .ok (.invokevirtual 153, 3) := by decide +kernel
theorem dX4_county_100 : decode cX4_county 100 = .ok (.iload_n 2, 1) := by decide +kernel
theorem dX4_county_101 : decode cX4_county 101 = .ok (.ireturn, 1) := by decide +kernel
def mX4_county (a1 : Int32) (V : jMem) : Option (Int32 × jMem) := (if (mX0_hasField a1 V) = (0 : Int32) then ((mX4_refuse (-1000000001 : Int32) V).bind (fun (p10 : Int32 × jMem) => (some (p10.1, p10.2)))) else (if (mX0_isFree a1 V) = (0 : Int32) then ((mX4_refuse (-1000000005 : Int32) V).bind (fun (p9 : Int32 × jMem) => (some (p9.1, p9.2)))) else (if (V.1 8 3) = (0 : Int32) then ((mX4_refuse (-1000000004 : Int32) V).bind (fun (p8 : Int32 × jMem) => (some (p8.1, p8.2)))) else (jg (jin a1 14) (jl (((V.1 3 (Int32.toNatClampNeg a1)) * (V.1 8 2)) / (100 : Int32)) (fun (v5 : Int32) => (jl (jsI V 8 3 ((V.1 8 3) - (1 : Int32))) (fun (V6 : jMem) => ((mX0_buy a1 v5 V6).bind (fun (p7 : jMem) => (some (v5, p7))))))))))))
set_option maxHeartbeats 4000000 in
set_option maxRecDepth 20000 in
theorem tX4_county {l : Launch} {Z : jZ} {q : Nat → Nat} {a1 : Int32} {V : jMem} {r : Int32} {V' : jMem}  (hm : mX4_county a1 V = some (r, V')) : CtD l Z yX4_county cX4_county 3 (some .int) 3 q dX [.ref (q 0), .int a1] V (some (.int r)) V' := by
  refine Ct_of (L := [(0, .ref (q 0)), (1, .int a1)]) (own := RX4) (nm := "county") rfl rfl (by decide +kernel) rfl (Nat.le_of_ble_eq_true rfl) ?_
  unfold mX4_county at hm
  refine j_aload_n dX4_county_0 rfl rfl ?_
  refine m_getr (k := 0) (r := 1) fX4_12 dX4_county_1 rfl rfl rfl ?_
  refine j_iload_n dX4_county_4 rfl rfl ?_
  refine o_callV_i kX4_73 dX4_county_5 rfl (tX0_hasField  rfl) rfl rfl rfl rfl rfl (Nat.le_of_ble_eq_true rfl) (by decide) ?_
  refine j_if_ne (tgt := 18) dX4_county_8 rfl (by decide) (fun c1 => ?_) (fun c1 => ?_)
  · have hm := jif_neg c1 hm
    refine j_aload_n dX4_county_18 rfl rfl ?_
    refine m_getr (k := 0) (r := 1) fX4_12 dX4_county_19 rfl rfl rfl ?_
    refine j_iload_n dX4_county_22 rfl rfl ?_
    refine o_callV_i kX4_122 dX4_county_23 rfl (tX0_isFree  rfl) rfl rfl rfl rfl rfl (Nat.le_of_ble_eq_true rfl) (by decide) ?_
    refine j_if_ne (tgt := 36) dX4_county_26 rfl (by decide) (fun c2 => ?_) (fun c2 => ?_)
    · have hm := jif_neg c2 hm
      refine j_aload_n dX4_county_36 rfl rfl ?_
      refine m_getr (k := 0) (r := 1) fX4_12 dX4_county_37 rfl rfl rfl ?_
      refine m_getr (k := 13) (r := 8) fX4_118 dX4_county_40 rfl rfl rfl ?_
      refine j_iconst (v := 3) dX4_county_43 rfl (by decide) ?_
      refine o_iald (k := 3) (by decide) dX4_county_44 rfl rfl (jin_vp (by decide)) ?_
      refine j_if_ne (tgt := 55) dX4_county_45 rfl (by decide) (fun c3 => ?_) (fun c3 => ?_)
      · have hm := jif_neg c3 hm
        refine j_aload_n dX4_county_55 rfl rfl ?_
        refine m_getr (k := 0) (r := 1) fX4_12 dX4_county_56 rfl rfl rfl ?_
        refine m_getr (k := 2) (r := 3) fX4_79 dX4_county_59 rfl rfl rfl ?_
        refine j_iload_n dX4_county_62 rfl rfl ?_
        obtain ⟨g4, hm⟩ := jg_of hm
        refine o_iald (k := (Int32.toNatClampNeg a1)) rfl dX4_county_63 rfl rfl (jin_vp g4) ?_
        refine j_aload_n dX4_county_64 rfl rfl ?_
        refine m_getr (k := 0) (r := 1) fX4_12 dX4_county_65 rfl rfl rfl ?_
        refine m_getr (k := 13) (r := 8) fX4_118 dX4_county_68 rfl rfl rfl ?_
        refine j_iconst (v := 2) dX4_county_71 rfl (by decide) ?_
        refine o_iald (k := 2) (by decide) dX4_county_72 rfl rfl (jin_vp (by decide)) ?_
        refine j_imul dX4_county_73 rfl ?_
        refine j_bipush (v := 100) dX4_county_74 rfl (by decide) ?_
        refine j_idiv dX4_county_76 rfl (by decide) ?_
        obtain ⟨v5, ev5⟩ : ∃ y, y = ((((V.1 3 (Int32.toNatClampNeg a1)) * (V.1 8 2)) / (100 : Int32)) : Int32) := ⟨_, rfl⟩
        have hm := jl_of hm ev5
        rw [← ev5]
        refine j_istore_n (i := 2) (L' := [(2, _), (0, _), (1, _)]) dX4_county_77 rfl rfl (by decide) rfl ?_
        refine j_aload_n dX4_county_78 rfl rfl ?_
        refine m_getr (k := 0) (r := 1) fX4_12 dX4_county_79 rfl rfl rfl ?_
        refine m_getr (k := 13) (r := 8) fX4_118 dX4_county_82 rfl rfl rfl ?_
        refine j_iconst (v := 3) dX4_county_85 rfl (by decide) ?_
        refine j_dup2 dX4_county_86 rfl rfl rfl ?_
        refine o_iald (k := 3) (by decide) dX4_county_87 rfl rfl (jin_vp (by decide)) ?_
        refine j_iconst (v := 1) dX4_county_88 rfl (by decide) ?_
        refine j_isub dX4_county_89 rfl ?_
        refine o_iast (k := 3) (by decide) dX4_county_90 rfl rfl (jin_vp (by decide)) ?_
        obtain ⟨V6, eV6⟩ : ∃ y, y = (jsI V 8 3 ((V.1 8 3) - (1 : Int32))) := ⟨_, rfl⟩
        have hm := jl_of hm eV6
        rw [← eV6]
        refine j_aload_n dX4_county_91 rfl rfl ?_
        refine m_getr (k := 0) (r := 1) fX4_12 dX4_county_92 rfl rfl rfl ?_
        refine j_iload_n dX4_county_95 rfl rfl ?_
        refine j_iload_n dX4_county_96 rfl rfl ?_
        obtain ⟨p7, ep7, hm⟩ := jb_of hm
        refine o_callV_v kX4_153 dX4_county_97 rfl (tX0_buy  ep7) rfl rfl rfl rfl rfl (Nat.le_of_ble_eq_true rfl) (by decide) ?_
        refine j_iload_n dX4_county_100 rfl rfl ?_
        exact j_ireturn dX4_county_101 rfl rfl ⟨Nat.le_refl _, Nat.le_refl _⟩ (jf_m (fun z => .int z) hm)
      · have hm := jif_pos c3 hm
        refine j_aload_n dX4_county_48 rfl rfl ?_
        refine j_ldc dX4_county_49 rfl wX4_146 ?_
        obtain ⟨p8, ep8, hm⟩ := jb_of hm
        refine o_callV_i kX4_60 dX4_county_51 rfl (tX4_refuse  ep8) rfl rfl rfl rfl rfl (Nat.le_of_ble_eq_true rfl) (by decide) ?_
        exact j_ireturn dX4_county_54 rfl rfl ⟨Nat.le_refl _, Nat.le_refl _⟩ (jf_m (fun z => .int z) hm)
    · have hm := jif_pos c2 hm
      refine j_aload_n dX4_county_29 rfl rfl ?_
      refine j_ldc dX4_county_30 rfl wX4_125 ?_
      obtain ⟨p9, ep9, hm⟩ := jb_of hm
      refine o_callV_i kX4_60 dX4_county_32 rfl (tX4_refuse  ep9) rfl rfl rfl rfl rfl (Nat.le_of_ble_eq_true rfl) (by decide) ?_
      exact j_ireturn dX4_county_35 rfl rfl ⟨Nat.le_refl _, Nat.le_refl _⟩ (jf_m (fun z => .int z) hm)
  · have hm := jif_pos c1 hm
    refine j_aload_n dX4_county_11 rfl rfl ?_
    refine j_ldc dX4_county_12 rfl wX4_59 ?_
    obtain ⟨p10, ep10, hm⟩ := jb_of hm
    refine o_callV_i kX4_60 dX4_county_14 rfl (tX4_refuse  ep10) rfl rfl rfl rfl rfl (Nat.le_of_ble_eq_true rfl) (by decide) ?_
    exact j_ireturn dX4_county_17 rfl rfl ⟨Nat.le_refl _, Nat.le_refl _⟩ (jf_m (fun z => .int z) hm)
theorem dX4_month_0 : decode cX4_month 0 = .ok (.aload_n 0, 1) := by decide +kernel
theorem dX4_month_1 : decode cX4_month 1 = .ok (.getfield 12, 3) := by decide +kernel
theorem dX4_month_4 : decode cX4_month 4 = .ok (.getfield 129, 3) := by decide +kernel
theorem dX4_month_7 : decode cX4_month 7 = .ok (.bipush 99, 2) := by decide +kernel
theorem dX4_month_9 : decode cX4_month 9 = .ok (.if_icmp .lt 10, 3) := by decide +kernel
theorem dX4_month_12 : decode cX4_month 12 = .ok (.aload_n 0, 1) := by decide +kernel
theorem dX4_month_13 : decode cX4_month 13 = .ok (.ldc 125, 2) := by decide +kernel
theorem dX4_month_15 : decode cX4_month 15 = .ok (.invokevirtual 60, 3) := by decide +kernel
theorem dX4_month_18 : decode cX4_month 18 = .ok (.ireturn, 1) := by decide +kernel
theorem dX4_month_19 : decode cX4_month 19 = .ok (.aload_n 0, 1) := by decide +kernel
theorem dX4_month_20 : decode cX4_month 20 = .ok (.getfield 12, 3) := by decide +kernel
theorem dX4_month_23 : decode cX4_month 23 = .ok (.dup, 1) := by decide +kernel
theorem dX4_month_24 : decode cX4_month 24 = .ok (.getfield 129, 3) := by decide +kernel
theorem dX4_month_27 : decode cX4_month 27 = .ok (.iconst 1, 1) := by decide +kernel
theorem dX4_month_28 : decode cX4_month 28 = .ok (.iadd, 1) := by decide +kernel
theorem dX4_month_29 : decode cX4_month 29 = .ok (.putfield 129, 3) := by decide +kernel
theorem dX4_month_32 : decode cX4_month 32 = .ok (.aload_n 0, 1) := by decide +kernel
theorem dX4_month_33 : decode cX4_month 33 = .ok (.getfield 12, 3) := by decide +kernel
theorem dX4_month_36 : decode cX4_month 36 = .ok (.invokevirtual 157, 3) := by decide +kernel
theorem dX4_month_39 : decode cX4_month 39 = .ok (.aload_n 0, 1) := by decide +kernel
theorem dX4_month_40 : decode cX4_month 40 = .ok (.getfield 12, 3) := by decide +kernel
theorem dX4_month_43 : decode cX4_month 43 = .ok (.invokevirtual 160, 3) := by decide +kernel
theorem dX4_month_46 : decode cX4_month 46 = .ok (.istore_n 1, 1) := by decide +kernel
theorem dX4_month_47 : decode cX4_month 47 = .ok (.aload_n 0, 1) := by decide +kernel
theorem dX4_month_48 : decode cX4_month 48 = .ok (.getfield 12, 3) := by decide +kernel
theorem dX4_month_51 : decode cX4_month 51 = .ok (.invokevirtual 164, 3) := by decide +kernel
theorem dX4_month_54 : decode cX4_month 54 = .ok (.iload_n 1, 1) := by decide +kernel
theorem dX4_month_55 : decode cX4_month 55 = .ok (.ireturn, 1) := by decide +kernel
def mX4_month (V : jMem) : Option (Int32 × jMem) := (if (V.1 1 10) < (99 : Int32) then (jl (jsI V 1 10 ((V.1 1 10) + (1 : Int32))) (fun (V2 : jMem) => ((mX0_dropPastPapers V2).bind (fun (p3 : jMem) => ((mX0_rivalTakes p3).bind (fun (p4 : Int32 × jMem) => ((mX0_calmDown p4.2).bind (fun (p5 : jMem) => (some (p4.1, p5)))))))))) else ((mX4_refuse (-1000000005 : Int32) V).bind (fun (p6 : Int32 × jMem) => (some (p6.1, p6.2)))))
set_option maxHeartbeats 4000000 in
set_option maxRecDepth 20000 in
theorem tX4_month {l : Launch} {Z : jZ} {q : Nat → Nat} {V : jMem} {r : Int32} {V' : jMem}  (hm : mX4_month V = some (r, V')) : CtD l Z yX4_month cX4_month 2 (some .int) 7 q dX [.ref (q 0)] V (some (.int r)) V' := by
  refine Ct_of (L := [(0, .ref (q 0))]) (own := RX4) (nm := "month") rfl rfl (by decide +kernel) rfl (Nat.le_of_ble_eq_true rfl) ?_
  unfold mX4_month at hm
  refine j_aload_n dX4_month_0 rfl rfl ?_
  refine m_getr (k := 0) (r := 1) fX4_12 dX4_month_1 rfl rfl rfl ?_
  refine m_geti (k := 10) fX4_129 dX4_month_4 rfl rfl rfl ?_
  refine j_bipush (v := 99) dX4_month_7 rfl (by decide) ?_
  refine j_icmp_lt (tgt := 19) dX4_month_9 rfl (by decide) (fun c1 => ?_) (fun c1 => ?_)
  · have hm := jif_pos c1 hm
    refine j_aload_n dX4_month_19 rfl rfl ?_
    refine m_getr (k := 0) (r := 1) fX4_12 dX4_month_20 rfl rfl rfl ?_
    refine j_dup dX4_month_23 rfl rfl ?_
    refine m_geti (k := 10) fX4_129 dX4_month_24 rfl rfl rfl ?_
    refine j_iconst (v := 1) dX4_month_27 rfl (by decide) ?_
    refine j_iadd dX4_month_28 rfl ?_
    refine m_puti (k := 10) fX4_129 dX4_month_29 rfl rfl rfl ?_
    obtain ⟨V2, eV2⟩ : ∃ y, y = (jsI V 1 10 ((V.1 1 10) + (1 : Int32))) := ⟨_, rfl⟩
    have hm := jl_of hm eV2
    rw [← eV2]
    refine j_aload_n dX4_month_32 rfl rfl ?_
    refine m_getr (k := 0) (r := 1) fX4_12 dX4_month_33 rfl rfl rfl ?_
    obtain ⟨p3, ep3, hm⟩ := jb_of hm
    refine o_callV_v kX4_157 dX4_month_36 rfl (tX0_dropPastPapers  ep3) rfl rfl rfl rfl rfl (Nat.le_of_ble_eq_true rfl) (by decide) ?_
    refine j_aload_n dX4_month_39 rfl rfl ?_
    refine m_getr (k := 0) (r := 1) fX4_12 dX4_month_40 rfl rfl rfl ?_
    obtain ⟨p4, ep4, hm⟩ := jb_of hm
    refine o_callV_i kX4_160 dX4_month_43 rfl (tX0_rivalTakes  ep4) rfl rfl rfl rfl rfl (Nat.le_of_ble_eq_true rfl) (by decide) ?_
    refine j_istore_n (i := 1) (L' := [(1, _), (0, _)]) dX4_month_46 rfl rfl (by decide) rfl ?_
    refine j_aload_n dX4_month_47 rfl rfl ?_
    refine m_getr (k := 0) (r := 1) fX4_12 dX4_month_48 rfl rfl rfl ?_
    obtain ⟨p5, ep5, hm⟩ := jb_of hm
    refine o_callV_v kX4_164 dX4_month_51 rfl (tX0_calmDown  ep5) rfl rfl rfl rfl rfl (Nat.le_of_ble_eq_true rfl) (by decide) ?_
    refine j_iload_n dX4_month_54 rfl rfl ?_
    exact j_ireturn dX4_month_55 rfl rfl ⟨Nat.le_refl _, Nat.le_refl _⟩ (jf_m (fun z => .int z) hm)
  · have hm := jif_neg c1 hm
    refine j_aload_n dX4_month_12 rfl rfl ?_
    refine j_ldc dX4_month_13 rfl wX4_125 ?_
    obtain ⟨p6, ep6, hm⟩ := jb_of hm
    refine o_callV_i kX4_60 dX4_month_15 rfl (tX4_refuse  ep6) rfl rfl rfl rfl rfl (Nat.le_of_ble_eq_true rfl) (by decide) ?_
    exact j_ireturn dX4_month_18 rfl rfl ⟨Nat.le_refl _, Nat.le_refl _⟩ (jf_m (fun z => .int z) hm)
theorem dX4_seed_0 : decode cX4_seed 0 = .ok (.aload_n 0, 1) := by decide +kernel
theorem dX4_seed_1 : decode cX4_seed 1 = .ok (.getfield 12, 3) := by decide +kernel
theorem dX4_seed_4 : decode cX4_seed 4 = .ok (.getfield 167, 3) := by decide +kernel
theorem dX4_seed_7 : decode cX4_seed 7 = .ok (.istore_n 2, 1) := by decide +kernel
theorem dX4_seed_8 : decode cX4_seed 8 = .ok (.aload_n 0, 1) := by decide +kernel
theorem dX4_seed_9 : decode cX4_seed 9 = .ok (.getfield 12, 3) := by decide +kernel
theorem dX4_seed_12 : decode cX4_seed 12 = .ok (.iload_n 1, 1) := by decide +kernel
theorem dX4_seed_13 : decode cX4_seed 13 = .ok (.putfield 167, 3) := by decide +kernel
theorem dX4_seed_16 : decode cX4_seed 16 = .ok (.iload_n 2, 1) := by decide +kernel
theorem dX4_seed_17 : decode cX4_seed 17 = .ok (.ireturn, 1) := by decide +kernel
def mX4_seed (a1 : Int32) (V : jMem) : Option (Int32 × jMem) := (jl (jsI V 1 12 a1) (fun (V1 : jMem) => (some ((V.1 1 12), V1))))
set_option maxHeartbeats 4000000 in
set_option maxRecDepth 20000 in
theorem tX4_seed {l : Launch} {Z : jZ} {q : Nat → Nat} {a1 : Int32} {V : jMem} {r : Int32} {V' : jMem}  (hm : mX4_seed a1 V = some (r, V')) : CtD l Z yX4_seed cX4_seed 3 (some .int) 0 q dX [.ref (q 0), .int a1] V (some (.int r)) V' := by
  refine Ct_of (L := [(0, .ref (q 0)), (1, .int a1)]) (own := RX4) (nm := "seed") rfl rfl (by decide +kernel) rfl (Nat.le_of_ble_eq_true rfl) ?_
  unfold mX4_seed at hm
  refine j_aload_n dX4_seed_0 rfl rfl ?_
  refine m_getr (k := 0) (r := 1) fX4_12 dX4_seed_1 rfl rfl rfl ?_
  refine m_geti (k := 12) fX4_167 dX4_seed_4 rfl rfl rfl ?_
  refine j_istore_n (i := 2) (L' := [(2, _), (0, _), (1, _)]) dX4_seed_7 rfl rfl (by decide) rfl ?_
  refine j_aload_n dX4_seed_8 rfl rfl ?_
  refine m_getr (k := 0) (r := 1) fX4_12 dX4_seed_9 rfl rfl rfl ?_
  refine j_iload_n dX4_seed_12 rfl rfl ?_
  refine m_puti (k := 12) fX4_167 dX4_seed_13 rfl rfl rfl ?_
  obtain ⟨V1, eV1⟩ : ∃ y, y = (jsI V 1 12 a1) := ⟨_, rfl⟩
  have hm := jl_of hm eV1
  rw [← eV1]
  refine j_iload_n dX4_seed_16 rfl rfl ?_
  exact j_ireturn dX4_seed_17 rfl rfl ⟨Nat.le_refl _, Nat.le_refl _⟩ (jf_m (fun z => .int z) hm)
theorem dX4_stands_0 : decode cX4_stands 0 = .ok (.iload_n 1, 1) := by decide +kernel
theorem dX4_stands_1 : decode cX4_stands 1 = .ok (.tableswitch 91 0 4 #[35, 44, 52, 64, 76], 35) := by decide +kernel
theorem dX4_stands_36 : decode cX4_stands 36 = .ok (.aload_n 0, 1) := by decide +kernel
theorem dX4_stands_37 : decode cX4_stands 37 = .ok (.getfield 12, 3) := by decide +kernel
theorem dX4_stands_40 : decode cX4_stands 40 = .ok (.getfield 129, 3) := by decide +kernel
theorem dX4_stands_43 : decode cX4_stands 43 = .ok (.i2l, 1) := by decide +kernel
theorem dX4_stands_44 : decode cX4_stands 44 = .ok (.lreturn, 1) := by decide +kernel
theorem dX4_stands_45 : decode cX4_stands 45 = .ok (.aload_n 0, 1) := by decide +kernel
theorem dX4_stands_46 : decode cX4_stands 46 = .ok (.getfield 12, 3) := by decide +kernel
theorem dX4_stands_49 : decode cX4_stands 49 = .ok (.getfield 170, 3) := by decide +kernel
theorem dX4_stands_52 : decode cX4_stands 52 = .ok (.lreturn, 1) := by decide +kernel
theorem dX4_stands_53 : decode cX4_stands 53 = .ok (.aload_n 0, 1) := by decide +kernel
theorem dX4_stands_54 : decode cX4_stands 54 = .ok (.getfield 12, 3) := by decide +kernel
theorem dX4_stands_57 : decode cX4_stands 57 = .ok (.getfield 94, 3) := by decide +kernel
theorem dX4_stands_60 : decode cX4_stands 60 = .ok (.invokestatic 138, 3) := by decide +kernel
theorem dX4_stands_63 : decode cX4_stands 63 = .ok (.i2l, 1) := by decide +kernel
theorem dX4_stands_64 : decode cX4_stands 64 = .ok (.lreturn, 1) := by decide +kernel
theorem dX4_stands_65 : decode cX4_stands 65 = .ok (.aload_n 0, 1) := by decide +kernel
theorem dX4_stands_66 : decode cX4_stands 66 = .ok (.getfield 12, 3) := by decide +kernel
theorem dX4_stands_69 : decode cX4_stands 69 = .ok (.getfield 174, 3) := by decide +kernel
theorem dX4_stands_72 : decode cX4_stands 72 = .ok (.invokestatic 138, 3) := by decide +kernel
theorem dX4_stands_75 : decode cX4_stands 75 = .ok (.i2l, 1) := by decide +kernel
theorem dX4_stands_76 : decode cX4_stands 76 = .ok (.lreturn, 1) := by decide +kernel
theorem dX4_stands_77 : decode cX4_stands 77 = .ok (.aload_n 0, 1) := by decide +kernel
theorem dX4_stands_78 : decode cX4_stands 78 = .ok (.getfield 12, 3) := by decide +kernel
theorem dX4_stands_81 : decode cX4_stands 81 = .ok (.sipush 16383, 3) := by decide +kernel
theorem dX4_stands_84 : decode cX4_stands 84 = .ok (.invokevirtual 177, 3) := by decide +kernel
theorem dX4_stands_87 : decode cX4_stands 87 = .ok (.invokestatic 138, 3) := by decide +kernel
theorem dX4_stands_90 : decode cX4_stands 90 = .ok (.i2l, 1) := by decide +kernel
theorem dX4_stands_91 : decode cX4_stands 91 = .ok (.lreturn, 1) := by decide +kernel
theorem dX4_stands_92 : decode cX4_stands 92 = .ok (.aload_n 0, 1) := by decide +kernel
theorem dX4_stands_93 : decode cX4_stands 93 = .ok (.ldc 59, 2) := by decide +kernel
theorem dX4_stands_95 : decode cX4_stands 95 = .ok (.invokevirtual 60, 3) := by decide +kernel
theorem dX4_stands_98 : decode cX4_stands 98 = .ok (.i2l, 1) := by decide +kernel
theorem dX4_stands_99 : decode cX4_stands 99 = .ok (.lreturn, 1) := by decide +kernel
def mX4_stands (a1 : Int32) (V : jMem) : Option (Int64 × jMem) := (if a1 = (0 : Int32) then (some ((Int32.toInt64 (V.1 1 10)), V)) else (if a1 = (1 : Int32) then (some ((V.2 1 11), V)) else (if a1 = (2 : Int32) then (some ((Int32.toInt64 (mJ6_bitCount_0f7a4 (V.1 1 5))), V)) else (if a1 = (3 : Int32) then (some ((Int32.toInt64 (mJ6_bitCount_0f7a4 (V.1 1 6))), V)) else (if a1 = (4 : Int32) then (some ((Int32.toInt64 (mJ6_bitCount_0f7a4 (mX0_freeIn (16383 : Int32) V))), V)) else ((mX4_refuse (-1000000001 : Int32) V).bind (fun (p6 : Int32 × jMem) => (some ((Int32.toInt64 p6.1), p6.2)))))))))
set_option maxHeartbeats 4000000 in
set_option maxRecDepth 20000 in
theorem tX4_stands {l : Launch} {Z : jZ} {q : Nat → Nat} {a1 : Int32} {V : jMem} {r : Int64} {V' : jMem}  (hm : mX4_stands a1 V = some (r, V')) : CtD l Z yX4_stands cX4_stands 2 (some .long) 2 q dX [.ref (q 0), .int a1] V (some (.long r)) V' := by
  refine Ct_of (L := [(0, .ref (q 0)), (1, .int a1)]) (own := RX4) (nm := "stands") rfl rfl (by decide +kernel) rfl (Nat.le_of_ble_eq_true rfl) ?_
  unfold mX4_stands at hm
  refine j_iload_n dX4_stands_0 rfl rfl ?_
  by_cases c1 : a1 = (0 : Int32)
  · have hm := jif_pos c1 hm
    refine j_ts_in (z := 0) (off := 35) (tgt := 36) dX4_stands_1 (j_ts_lit c1 (by decide)) (by decide) (by decide) rfl (by decide) ?_
    refine j_aload_n dX4_stands_36 rfl rfl ?_
    refine m_getr (k := 0) (r := 1) fX4_12 dX4_stands_37 rfl rfl rfl ?_
    refine m_geti (k := 10) fX4_129 dX4_stands_40 rfl rfl rfl ?_
    refine j_i2l dX4_stands_43 rfl ?_
    exact j_lreturn dX4_stands_44 rfl ⟨Nat.le_refl _, Nat.le_refl _⟩ (jf_m (fun z => .long z) hm)
  have hm := jif_neg c1 hm
  by_cases c2 : a1 = (1 : Int32)
  · have hm := jif_pos c2 hm
    refine j_ts_in (z := 1) (off := 44) (tgt := 45) dX4_stands_1 (j_ts_lit c2 (by decide)) (by decide) (by decide) rfl (by decide) ?_
    refine j_aload_n dX4_stands_45 rfl rfl ?_
    refine m_getr (k := 0) (r := 1) fX4_12 dX4_stands_46 rfl rfl rfl ?_
    refine m_getl (k := 11) fX4_170 dX4_stands_49 rfl rfl rfl ?_
    exact j_lreturn dX4_stands_52 rfl ⟨Nat.le_refl _, Nat.le_refl _⟩ (jf_m (fun z => .long z) hm)
  have hm := jif_neg c2 hm
  by_cases c3 : a1 = (2 : Int32)
  · have hm := jif_pos c3 hm
    refine j_ts_in (z := 2) (off := 52) (tgt := 53) dX4_stands_1 (j_ts_lit c3 (by decide)) (by decide) (by decide) rfl (by decide) ?_
    refine j_aload_n dX4_stands_53 rfl rfl ?_
    refine m_getr (k := 0) (r := 1) fX4_12 dX4_stands_54 rfl rfl rfl ?_
    refine m_geti (k := 5) fX4_94 dX4_stands_57 rfl rfl rfl ?_
    refine o_callS_i kX4_138 dX4_stands_60 rfl (tJ6_bitCount_0f7a4  rfl) rfl rfl (Nat.le_of_ble_eq_true rfl) (by decide) ?_
    refine j_i2l dX4_stands_63 rfl ?_
    exact j_lreturn dX4_stands_64 rfl ⟨Nat.le_refl _, Nat.le_refl _⟩ (jf_m (fun z => .long z) hm)
  have hm := jif_neg c3 hm
  by_cases c4 : a1 = (3 : Int32)
  · have hm := jif_pos c4 hm
    refine j_ts_in (z := 3) (off := 64) (tgt := 65) dX4_stands_1 (j_ts_lit c4 (by decide)) (by decide) (by decide) rfl (by decide) ?_
    refine j_aload_n dX4_stands_65 rfl rfl ?_
    refine m_getr (k := 0) (r := 1) fX4_12 dX4_stands_66 rfl rfl rfl ?_
    refine m_geti (k := 6) fX4_174 dX4_stands_69 rfl rfl rfl ?_
    refine o_callS_i kX4_138 dX4_stands_72 rfl (tJ6_bitCount_0f7a4  rfl) rfl rfl (Nat.le_of_ble_eq_true rfl) (by decide) ?_
    refine j_i2l dX4_stands_75 rfl ?_
    exact j_lreturn dX4_stands_76 rfl ⟨Nat.le_refl _, Nat.le_refl _⟩ (jf_m (fun z => .long z) hm)
  have hm := jif_neg c4 hm
  by_cases c5 : a1 = (4 : Int32)
  · have hm := jif_pos c5 hm
    refine j_ts_in (z := 4) (off := 76) (tgt := 77) dX4_stands_1 (j_ts_lit c5 (by decide)) (by decide) (by decide) rfl (by decide) ?_
    refine j_aload_n dX4_stands_77 rfl rfl ?_
    refine m_getr (k := 0) (r := 1) fX4_12 dX4_stands_78 rfl rfl rfl ?_
    refine j_sipush (v := 16383) dX4_stands_81 rfl (by decide) ?_
    refine o_callV_i kX4_177 dX4_stands_84 rfl (tX0_freeIn  rfl) rfl rfl rfl rfl rfl (Nat.le_of_ble_eq_true rfl) (by decide) ?_
    refine o_callS_i kX4_138 dX4_stands_87 rfl (tJ6_bitCount_0f7a4  rfl) rfl rfl (Nat.le_of_ble_eq_true rfl) (by decide) ?_
    refine j_i2l dX4_stands_90 rfl ?_
    exact j_lreturn dX4_stands_91 rfl ⟨Nat.le_refl _, Nat.le_refl _⟩ (jf_m (fun z => .long z) hm)
  have hm := jif_neg c5 hm
  refine j_ts_out (tgt := 92) dX4_stands_1 (by have := j_ts_ne (k := 0) c1 (by decide); have := j_ts_ne (k := 1) c2 (by decide); have := j_ts_ne (k := 2) c3 (by decide); have := j_ts_ne (k := 3) c4 (by decide); have := j_ts_ne (k := 4) c5 (by decide); omega) (by decide) ?_
  refine j_aload_n dX4_stands_92 rfl rfl ?_
  refine j_ldc dX4_stands_93 rfl wX4_59 ?_
  obtain ⟨p6, ep6, hm⟩ := jb_of hm
  refine o_callV_i kX4_60 dX4_stands_95 rfl (tX4_refuse  ep6) rfl rfl rfl rfl rfl (Nat.le_of_ble_eq_true rfl) (by decide) ?_
  refine j_i2l dX4_stands_98 rfl ?_
  exact j_lreturn dX4_stands_99 rfl ⟨Nat.le_refl _, Nat.le_refl _⟩ (jf_m (fun z => .long z) hm)
theorem dX4_strip_0 : decode cX4_strip 0 = .ok (.iload_n 1, 1) := by decide +kernel
theorem dX4_strip_1 : decode cX4_strip 1 = .ok (.aload_n 0, 1) := by decide +kernel
theorem dX4_strip_2 : decode cX4_strip 2 = .ok (.getfield 12, 3) := by decide +kernel
theorem dX4_strip_5 : decode cX4_strip 5 = .ok (.invokevirtual 180, 3) := by decide +kernel
theorem dX4_strip_8 : decode cX4_strip 8 = .ok (.iconst (-1), 1) := by decide +kernel
theorem dX4_strip_9 : decode cX4_strip 9 = .ok (.ixor, 1) := by decide +kernel
theorem dX4_strip_10 : decode cX4_strip 10 = .ok (.iand, 1) := by decide +kernel
theorem dX4_strip_11 : decode cX4_strip 11 = .ok (.ifCond .ne 14, 3) := by decide +kernel
theorem dX4_strip_14 : decode cX4_strip 14 = .ok (.iload_n 2, 1) := by decide +kernel
theorem dX4_strip_15 : decode cX4_strip 15 = .ok (.iconst 0, 1) := by decide +kernel
theorem dX4_strip_16 : decode cX4_strip 16 = .ok (.sipush 9999, 3) := by decide +kernel
theorem dX4_strip_19 : decode cX4_strip 19 = .ok (.invokestatic 55, 3) := by decide +kernel
theorem dX4_strip_22 : decode cX4_strip 22 = .ok (.ifCond .ne 10, 3) := by decide +kernel
theorem dX4_strip_25 : decode cX4_strip 25 = .ok (.aload_n 0, 1) := by decide +kernel
theorem dX4_strip_26 : decode cX4_strip 26 = .ok (.ldc 59, 2) := by decide +kernel
theorem dX4_strip_28 : decode cX4_strip 28 = .ok (.invokevirtual 60, 3) := by decide +kernel
theorem dX4_strip_31 : decode cX4_strip 31 = .ok (.ireturn, 1) := by decide +kernel
theorem dX4_strip_32 : decode cX4_strip 32 = .ok (.aload_n 0, 1) := by decide +kernel
theorem dX4_strip_33 : decode cX4_strip 33 = .ok (.getfield 12, 3) := by decide +kernel
theorem dX4_strip_36 : decode cX4_strip 36 = .ok (.getfield 183, 3) := by decide +kernel
theorem dX4_strip_39 : decode cX4_strip 39 = .ok (.bipush 6, 2) := by decide +kernel
theorem dX4_strip_41 : decode cX4_strip 41 = .ok (.if_icmp .lt 10, 3) := by decide +kernel
theorem dX4_strip_44 : decode cX4_strip 44 = .ok (.aload_n 0, 1) := by decide +kernel
theorem dX4_strip_45 : decode cX4_strip 45 = .ok (.ldc 68, 2) := by decide +kernel
theorem dX4_strip_47 : decode cX4_strip 47 = .ok (.invokevirtual 60, 3) := by decide +kernel
theorem dX4_strip_50 : decode cX4_strip 50 = .ok (.ireturn, 1) := by decide +kernel
theorem dX4_strip_51 : decode cX4_strip 51 = .ok (.aload_n 0, 1) := by decide +kernel
theorem dX4_strip_52 : decode cX4_strip 52 = .ok (.getfield 12, 3) := by decide +kernel
theorem dX4_strip_55 : decode cX4_strip 55 = .ok (.iload_n 1, 1) := by decide +kernel
theorem dX4_strip_56 : decode cX4_strip 56 = .ok (.iload_n 2, 1) := by decide +kernel
theorem dX4_strip_57 : decode cX4_strip 57 = .ok (.invokevirtual 186, 3) := by decide +kernel
theorem dX4_strip_60 : decode cX4_strip 60 = .ok (.ireturn, 1) := by decide +kernel
def mX4_strip_b25   (V : jMem) : Option (Int32 × jMem) := ((mX4_refuse (-1000000001 : Int32) V).bind (fun (p1 : Int32 × jMem) => (some (p1.1, p1.2))))
set_option maxHeartbeats 4000000 in
set_option maxRecDepth 20000 in
theorem tX4_strip_b25 {l : Launch} {Z : jZ} {q : Nat → Nat} {V : jMem} {r : Int32} {V' : jMem}    (hm : mX4_strip_b25 V = some (r, V')) : J l Z RX4 "strip" cX4_strip 3 (some .int) 2 0 0 (fun r' w => r' = some (.int r) ∧ w = jw Z q V' dX) 25 [(0, .ref (q 0))] [] (jw Z q V dX) 0 0 := by
  unfold mX4_strip_b25 at hm
  refine j_aload_n dX4_strip_25 rfl rfl ?_
  refine j_ldc dX4_strip_26 rfl wX4_59 ?_
  obtain ⟨p1, ep1, hm⟩ := jb_of hm
  refine o_callV_i kX4_60 dX4_strip_28 rfl (tX4_refuse  ep1) rfl rfl rfl rfl rfl (Nat.le_of_ble_eq_true rfl) (by decide) ?_
  exact j_ireturn dX4_strip_31 rfl rfl ⟨Nat.le_refl _, Nat.le_refl _⟩ (jf_m (fun z => .int z) hm)
def mX4_strip (a1 : Int32) (a2 : Int32) (V : jMem) : Option (Int32 × jMem) := (if (a1 &&& ((mX0_allFields V) ^^^ (-1 : Int32))) = (0 : Int32) then (if (mX4_isWithin a2 (0 : Int32) (9999 : Int32)) = (0 : Int32) then (mX4_strip_b25 V) else (if (V.1 1 14) < (6 : Int32) then ((mX0_addStrip a1 a2 V).bind (fun (p4 : Int32 × jMem) => (some (p4.1, p4.2)))) else ((mX4_refuse (-1000000002 : Int32) V).bind (fun (p5 : Int32 × jMem) => (some (p5.1, p5.2)))))) else (mX4_strip_b25 V))
set_option maxHeartbeats 4000000 in
set_option maxRecDepth 20000 in
theorem tX4_strip {l : Launch} {Z : jZ} {q : Nat → Nat} {a1 : Int32} {a2 : Int32} {V : jMem} {r : Int32} {V' : jMem}  (hm : mX4_strip a1 a2 V = some (r, V')) : CtD l Z yX4_strip cX4_strip 3 (some .int) 2 q dX [.ref (q 0), .int a1, .int a2] V (some (.int r)) V' := by
  refine Ct_of (L := [(0, .ref (q 0)), (1, .int a1), (2, .int a2)]) (own := RX4) (nm := "strip") rfl rfl (by decide +kernel) rfl (Nat.le_of_ble_eq_true rfl) ?_
  unfold mX4_strip at hm
  refine j_iload_n dX4_strip_0 rfl rfl ?_
  refine j_aload_n dX4_strip_1 rfl rfl ?_
  refine m_getr (k := 0) (r := 1) fX4_12 dX4_strip_2 rfl rfl rfl ?_
  refine o_callV_i kX4_180 dX4_strip_5 rfl (tX0_allFields  rfl) rfl rfl rfl rfl rfl (Nat.le_of_ble_eq_true rfl) (by decide) ?_
  refine j_iconst (v := -1) dX4_strip_8 rfl (by decide) ?_
  refine j_ixor dX4_strip_9 rfl ?_
  refine j_iand dX4_strip_10 rfl ?_
  refine j_if_ne (tgt := 25) dX4_strip_11 rfl (by decide) (fun c1 => ?_) (fun c1 => ?_)
  · have hm := jif_neg c1 hm
    refine j_sub (L' := [(0, _)]) [0] rfl ?_
    exact tX4_strip_b25    hm
  · have hm := jif_pos c1 hm
    refine j_iload_n dX4_strip_14 rfl rfl ?_
    refine j_iconst (v := 0) dX4_strip_15 rfl (by decide) ?_
    refine j_sipush (v := 9999) dX4_strip_16 rfl (by decide) ?_
    refine o_callS_i kX4_55 dX4_strip_19 rfl (tX4_isWithin  rfl) rfl rfl (Nat.le_of_ble_eq_true rfl) (by decide) ?_
    refine j_if_ne (tgt := 32) dX4_strip_22 rfl (by decide) (fun c2 => ?_) (fun c2 => ?_)
    · have hm := jif_neg c2 hm
      refine j_aload_n dX4_strip_32 rfl rfl ?_
      refine m_getr (k := 0) (r := 1) fX4_12 dX4_strip_33 rfl rfl rfl ?_
      refine m_geti (k := 14) fX4_183 dX4_strip_36 rfl rfl rfl ?_
      refine j_bipush (v := 6) dX4_strip_39 rfl (by decide) ?_
      refine j_icmp_lt (tgt := 51) dX4_strip_41 rfl (by decide) (fun c3 => ?_) (fun c3 => ?_)
      · have hm := jif_pos c3 hm
        refine j_aload_n dX4_strip_51 rfl rfl ?_
        refine m_getr (k := 0) (r := 1) fX4_12 dX4_strip_52 rfl rfl rfl ?_
        refine j_iload_n dX4_strip_55 rfl rfl ?_
        refine j_iload_n dX4_strip_56 rfl rfl ?_
        obtain ⟨p4, ep4, hm⟩ := jb_of hm
        refine o_callV_i kX4_186 dX4_strip_57 rfl (tX0_addStrip  ep4) rfl rfl rfl rfl rfl (Nat.le_of_ble_eq_true rfl) (by decide) ?_
        exact j_ireturn dX4_strip_60 rfl rfl ⟨Nat.le_refl _, Nat.le_refl _⟩ (jf_m (fun z => .int z) hm)
      · have hm := jif_neg c3 hm
        refine j_aload_n dX4_strip_44 rfl rfl ?_
        refine j_ldc dX4_strip_45 rfl wX4_68 ?_
        obtain ⟨p5, ep5, hm⟩ := jb_of hm
        refine o_callV_i kX4_60 dX4_strip_47 rfl (tX4_refuse  ep5) rfl rfl rfl rfl rfl (Nat.le_of_ble_eq_true rfl) (by decide) ?_
        exact j_ireturn dX4_strip_50 rfl rfl ⟨Nat.le_refl _, Nat.le_refl _⟩ (jf_m (fun z => .int z) hm)
    · have hm := jif_pos c2 hm
      refine j_sub (L' := [(0, _)]) [0] rfl ?_
      exact tX4_strip_b25    hm
theorem dX4_stripOf_0 : decode cX4_stripOf 0 = .ok (.aload_n 0, 1) := by decide +kernel
theorem dX4_stripOf_1 : decode cX4_stripOf 1 = .ok (.getfield 12, 3) := by decide +kernel
theorem dX4_stripOf_4 : decode cX4_stripOf 4 = .ok (.iload_n 1, 1) := by decide +kernel
theorem dX4_stripOf_5 : decode cX4_stripOf 5 = .ok (.invokevirtual 189, 3) := by decide +kernel
theorem dX4_stripOf_8 : decode cX4_stripOf 8 = .ok (.ifCond .ne 10, 3) := by decide +kernel
theorem dX4_stripOf_11 : decode cX4_stripOf 11 = .ok (.aload_n 0, 1) := by decide +kernel
theorem dX4_stripOf_12 : decode cX4_stripOf 12 = .ok (.ldc 59, 2) := by decide +kernel
theorem dX4_stripOf_14 : decode cX4_stripOf 14 = .ok (.invokevirtual 60, 3) := by decide +kernel
theorem dX4_stripOf_17 : decode cX4_stripOf 17 = .ok (.ireturn, 1) := by decide +kernel
theorem dX4_stripOf_18 : decode cX4_stripOf 18 = .ok (.iload_n 2, 1) := by decide +kernel
theorem dX4_stripOf_19 : decode cX4_stripOf 19 = .ok (.tableswitch 104 0 4 #[33, 43, 53, 70, 87], 33) := by decide +kernel
theorem dX4_stripOf_52 : decode cX4_stripOf 52 = .ok (.aload_n 0, 1) := by decide +kernel
theorem dX4_stripOf_53 : decode cX4_stripOf 53 = .ok (.getfield 12, 3) := by decide +kernel
theorem dX4_stripOf_56 : decode cX4_stripOf 56 = .ok (.getfield 192, 3) := by decide +kernel
theorem dX4_stripOf_59 : decode cX4_stripOf 59 = .ok (.iload_n 1, 1) := by decide +kernel
theorem dX4_stripOf_60 : decode cX4_stripOf 60 = .ok (.iaload, 1) := by decide +kernel
theorem dX4_stripOf_61 : decode cX4_stripOf 61 = .ok (.ireturn, 1) := by decide +kernel
theorem dX4_stripOf_62 : decode cX4_stripOf 62 = .ok (.aload_n 0, 1) := by decide +kernel
theorem dX4_stripOf_63 : decode cX4_stripOf 63 = .ok (.getfield 12, 3) := by decide +kernel
theorem dX4_stripOf_66 : decode cX4_stripOf 66 = .ok (.getfield 195, 3) := by decide +kernel
theorem dX4_stripOf_69 : decode cX4_stripOf 69 = .ok (.iload_n 1, 1) := by decide +kernel
theorem dX4_stripOf_70 : decode cX4_stripOf 70 = .ok (.iaload, 1) := by decide +kernel
theorem dX4_stripOf_71 : decode cX4_stripOf 71 = .ok (.ireturn, 1) := by decide +kernel
theorem dX4_stripOf_72 : decode cX4_stripOf 72 = .ok (.aload_n 0, 1) := by decide +kernel
theorem dX4_stripOf_73 : decode cX4_stripOf 73 = .ok (.getfield 12, 3) := by decide +kernel
theorem dX4_stripOf_76 : decode cX4_stripOf 76 = .ok (.iload_n 1, 1) := by decide +kernel
theorem dX4_stripOf_77 : decode cX4_stripOf 77 = .ok (.invokevirtual 198, 3) := by decide +kernel
theorem dX4_stripOf_80 : decode cX4_stripOf 80 = .ok (.ifCond .eq 7, 3) := by decide +kernel
theorem dX4_stripOf_83 : decode cX4_stripOf 83 = .ok (.iconst 1, 1) := by decide +kernel
theorem dX4_stripOf_84 : decode cX4_stripOf 84 = .ok (.goto 4, 3) := by decide +kernel
theorem dX4_stripOf_87 : decode cX4_stripOf 87 = .ok (.iconst 0, 1) := by decide +kernel
theorem dX4_stripOf_88 : decode cX4_stripOf 88 = .ok (.ireturn, 1) := by decide +kernel
theorem dX4_stripOf_89 : decode cX4_stripOf 89 = .ok (.aload_n 0, 1) := by decide +kernel
theorem dX4_stripOf_90 : decode cX4_stripOf 90 = .ok (.getfield 12, 3) := by decide +kernel
theorem dX4_stripOf_93 : decode cX4_stripOf 93 = .ok (.iload_n 1, 1) := by decide +kernel
theorem dX4_stripOf_94 : decode cX4_stripOf 94 = .ok (.invokevirtual 201, 3) := by decide +kernel
theorem dX4_stripOf_97 : decode cX4_stripOf 97 = .ok (.ifCond .eq 7, 3) := by decide +kernel
theorem dX4_stripOf_100 : decode cX4_stripOf 100 = .ok (.iconst 1, 1) := by decide +kernel
theorem dX4_stripOf_101 : decode cX4_stripOf 101 = .ok (.goto 4, 3) := by decide +kernel
theorem dX4_stripOf_104 : decode cX4_stripOf 104 = .ok (.iconst 0, 1) := by decide +kernel
theorem dX4_stripOf_105 : decode cX4_stripOf 105 = .ok (.ireturn, 1) := by decide +kernel
theorem dX4_stripOf_106 : decode cX4_stripOf 106 = .ok (.aload_n 0, 1) := by decide +kernel
theorem dX4_stripOf_107 : decode cX4_stripOf 107 = .ok (.getfield 12, 3) := by decide +kernel
theorem dX4_stripOf_110 : decode cX4_stripOf 110 = .ok (.aload_n 0, 1) := by decide +kernel
theorem dX4_stripOf_111 : decode cX4_stripOf 111 = .ok (.getfield 12, 3) := by decide +kernel
theorem dX4_stripOf_114 : decode cX4_stripOf 114 = .ok (.getfield 192, 3) := by decide +kernel
theorem dX4_stripOf_117 : decode cX4_stripOf 117 = .ok (.iload_n 1, 1) := by decide +kernel
theorem dX4_stripOf_118 : decode cX4_stripOf 118 = .ok (.iaload, 1) := by decide +kernel
theorem dX4_stripOf_119 : decode cX4_stripOf 119 = .ok (.invokevirtual 177, 3) := by decide +kernel
theorem dX4_stripOf_122 : decode cX4_stripOf 122 = .ok (.ireturn, 1) := by decide +kernel
theorem dX4_stripOf_123 : decode cX4_stripOf 123 = .ok (.aload_n 0, 1) := by decide +kernel
theorem dX4_stripOf_124 : decode cX4_stripOf 124 = .ok (.ldc 59, 2) := by decide +kernel
theorem dX4_stripOf_126 : decode cX4_stripOf 126 = .ok (.invokevirtual 60, 3) := by decide +kernel
theorem dX4_stripOf_129 : decode cX4_stripOf 129 = .ok (.ireturn, 1) := by decide +kernel
def mX4_stripOf (a1 : Int32) (a2 : Int32) (V : jMem) : Option (Int32 × jMem) := (if (mX0_hasStrip a1 V) = (0 : Int32) then ((mX4_refuse (-1000000001 : Int32) V).bind (fun (p15 : Int32 × jMem) => (some (p15.1, p15.2)))) else (if a2 = (0 : Int32) then (jg (jin a1 6) (some ((V.1 9 (Int32.toNatClampNeg a1)), V))) else (if a2 = (1 : Int32) then (jg (jin a1 6) (some ((V.1 10 (Int32.toNatClampNeg a1)), V))) else (if a2 = (2 : Int32) then ((mX0_isHad a1 V).bind (fun (r7 : Int32) => (if r7 = (0 : Int32) then (some ((0 : Int32), V)) else (some ((1 : Int32), V))))) else (if a2 = (3 : Int32) then ((mX0_canBe a1 V).bind (fun (r10 : Int32) => (if r10 = (0 : Int32) then (some ((0 : Int32), V)) else (some ((1 : Int32), V))))) else (if a2 = (4 : Int32) then (jg (jin a1 6) (some ((mX0_freeIn (V.1 9 (Int32.toNatClampNeg a1)) V), V))) else ((mX4_refuse (-1000000001 : Int32) V).bind (fun (p14 : Int32 × jMem) => (some (p14.1, p14.2))))))))))
set_option maxHeartbeats 4000000 in
set_option maxRecDepth 20000 in
theorem tX4_stripOf {l : Launch} {Z : jZ} {q : Nat → Nat} {a1 : Int32} {a2 : Int32} {V : jMem} {r : Int32} {V' : jMem}  (hm : mX4_stripOf a1 a2 V = some (r, V')) : CtD l Z yX4_stripOf cX4_stripOf 3 (some .int) 2 q dX [.ref (q 0), .int a1, .int a2] V (some (.int r)) V' := by
  refine Ct_of (L := [(0, .ref (q 0)), (1, .int a1), (2, .int a2)]) (own := RX4) (nm := "stripOf") rfl rfl (by decide +kernel) rfl (Nat.le_of_ble_eq_true rfl) ?_
  unfold mX4_stripOf at hm
  refine j_aload_n dX4_stripOf_0 rfl rfl ?_
  refine m_getr (k := 0) (r := 1) fX4_12 dX4_stripOf_1 rfl rfl rfl ?_
  refine j_iload_n dX4_stripOf_4 rfl rfl ?_
  refine o_callV_i kX4_189 dX4_stripOf_5 rfl (tX0_hasStrip  rfl) rfl rfl rfl rfl rfl (Nat.le_of_ble_eq_true rfl) (by decide) ?_
  refine j_if_ne (tgt := 18) dX4_stripOf_8 rfl (by decide) (fun c1 => ?_) (fun c1 => ?_)
  · have hm := jif_neg c1 hm
    refine j_iload_n dX4_stripOf_18 rfl rfl ?_
    by_cases c2 : a2 = (0 : Int32)
    · have hm := jif_pos c2 hm
      refine j_ts_in (z := 0) (off := 33) (tgt := 52) dX4_stripOf_19 (j_ts_lit c2 (by decide)) (by decide) (by decide) rfl (by decide) ?_
      refine j_aload_n dX4_stripOf_52 rfl rfl ?_
      refine m_getr (k := 0) (r := 1) fX4_12 dX4_stripOf_53 rfl rfl rfl ?_
      refine m_getr (k := 15) (r := 9) fX4_192 dX4_stripOf_56 rfl rfl rfl ?_
      refine j_iload_n dX4_stripOf_59 rfl rfl ?_
      obtain ⟨g3, hm⟩ := jg_of hm
      refine o_iald (k := (Int32.toNatClampNeg a1)) rfl dX4_stripOf_60 rfl rfl (jin_vp g3) ?_
      exact j_ireturn dX4_stripOf_61 rfl rfl ⟨Nat.le_refl _, Nat.le_refl _⟩ (jf_m (fun z => .int z) hm)
    have hm := jif_neg c2 hm
    by_cases c4 : a2 = (1 : Int32)
    · have hm := jif_pos c4 hm
      refine j_ts_in (z := 1) (off := 43) (tgt := 62) dX4_stripOf_19 (j_ts_lit c4 (by decide)) (by decide) (by decide) rfl (by decide) ?_
      refine j_aload_n dX4_stripOf_62 rfl rfl ?_
      refine m_getr (k := 0) (r := 1) fX4_12 dX4_stripOf_63 rfl rfl rfl ?_
      refine m_getr (k := 16) (r := 10) fX4_195 dX4_stripOf_66 rfl rfl rfl ?_
      refine j_iload_n dX4_stripOf_69 rfl rfl ?_
      obtain ⟨g5, hm⟩ := jg_of hm
      refine o_iald (k := (Int32.toNatClampNeg a1)) rfl dX4_stripOf_70 rfl rfl (jin_vp g5) ?_
      exact j_ireturn dX4_stripOf_71 rfl rfl ⟨Nat.le_refl _, Nat.le_refl _⟩ (jf_m (fun z => .int z) hm)
    have hm := jif_neg c4 hm
    by_cases c6 : a2 = (2 : Int32)
    · have hm := jif_pos c6 hm
      refine j_ts_in (z := 2) (off := 53) (tgt := 72) dX4_stripOf_19 (j_ts_lit c6 (by decide)) (by decide) (by decide) rfl (by decide) ?_
      refine j_aload_n dX4_stripOf_72 rfl rfl ?_
      refine m_getr (k := 0) (r := 1) fX4_12 dX4_stripOf_73 rfl rfl rfl ?_
      refine j_iload_n dX4_stripOf_76 rfl rfl ?_
      obtain ⟨r7, er7, hm⟩ := jb_of hm
      refine o_callV_i kX4_198 dX4_stripOf_77 rfl (tX0_isHad  er7) rfl rfl rfl rfl rfl (Nat.le_of_ble_eq_true rfl) (by decide) ?_
      refine j_if_eq (tgt := 87) dX4_stripOf_80 rfl (by decide) (fun c8 => ?_) (fun c8 => ?_)
      · have hm := jif_pos c8 hm
        refine j_iconst (v := 0) dX4_stripOf_87 rfl (by decide) ?_
        exact j_ireturn dX4_stripOf_88 rfl rfl ⟨Nat.le_refl _, Nat.le_refl _⟩ (jf_m (fun z => .int z) hm)
      · have hm := jif_neg c8 hm
        refine j_iconst (v := 1) dX4_stripOf_83 rfl (by decide) ?_
        refine j_goto (tgt := 88) dX4_stripOf_84 (by decide) ?_
        exact j_ireturn dX4_stripOf_88 rfl rfl ⟨Nat.le_refl _, Nat.le_refl _⟩ (jf_m (fun z => .int z) hm)
    have hm := jif_neg c6 hm
    by_cases c9 : a2 = (3 : Int32)
    · have hm := jif_pos c9 hm
      refine j_ts_in (z := 3) (off := 70) (tgt := 89) dX4_stripOf_19 (j_ts_lit c9 (by decide)) (by decide) (by decide) rfl (by decide) ?_
      refine j_aload_n dX4_stripOf_89 rfl rfl ?_
      refine m_getr (k := 0) (r := 1) fX4_12 dX4_stripOf_90 rfl rfl rfl ?_
      refine j_iload_n dX4_stripOf_93 rfl rfl ?_
      obtain ⟨r10, er10, hm⟩ := jb_of hm
      refine o_callV_i kX4_201 dX4_stripOf_94 rfl (tX0_canBe  er10) rfl rfl rfl rfl rfl (Nat.le_of_ble_eq_true rfl) (by decide) ?_
      refine j_if_eq (tgt := 104) dX4_stripOf_97 rfl (by decide) (fun c11 => ?_) (fun c11 => ?_)
      · have hm := jif_pos c11 hm
        refine j_iconst (v := 0) dX4_stripOf_104 rfl (by decide) ?_
        exact j_ireturn dX4_stripOf_105 rfl rfl ⟨Nat.le_refl _, Nat.le_refl _⟩ (jf_m (fun z => .int z) hm)
      · have hm := jif_neg c11 hm
        refine j_iconst (v := 1) dX4_stripOf_100 rfl (by decide) ?_
        refine j_goto (tgt := 105) dX4_stripOf_101 (by decide) ?_
        exact j_ireturn dX4_stripOf_105 rfl rfl ⟨Nat.le_refl _, Nat.le_refl _⟩ (jf_m (fun z => .int z) hm)
    have hm := jif_neg c9 hm
    by_cases c12 : a2 = (4 : Int32)
    · have hm := jif_pos c12 hm
      refine j_ts_in (z := 4) (off := 87) (tgt := 106) dX4_stripOf_19 (j_ts_lit c12 (by decide)) (by decide) (by decide) rfl (by decide) ?_
      refine j_aload_n dX4_stripOf_106 rfl rfl ?_
      refine m_getr (k := 0) (r := 1) fX4_12 dX4_stripOf_107 rfl rfl rfl ?_
      refine j_aload_n dX4_stripOf_110 rfl rfl ?_
      refine m_getr (k := 0) (r := 1) fX4_12 dX4_stripOf_111 rfl rfl rfl ?_
      refine m_getr (k := 15) (r := 9) fX4_192 dX4_stripOf_114 rfl rfl rfl ?_
      refine j_iload_n dX4_stripOf_117 rfl rfl ?_
      obtain ⟨g13, hm⟩ := jg_of hm
      refine o_iald (k := (Int32.toNatClampNeg a1)) rfl dX4_stripOf_118 rfl rfl (jin_vp g13) ?_
      refine o_callV_i kX4_177 dX4_stripOf_119 rfl (tX0_freeIn  rfl) rfl rfl rfl rfl rfl (Nat.le_of_ble_eq_true rfl) (by decide) ?_
      exact j_ireturn dX4_stripOf_122 rfl rfl ⟨Nat.le_refl _, Nat.le_refl _⟩ (jf_m (fun z => .int z) hm)
    have hm := jif_neg c12 hm
    refine j_ts_out (tgt := 123) dX4_stripOf_19 (by have := j_ts_ne (k := 0) c2 (by decide); have := j_ts_ne (k := 1) c4 (by decide); have := j_ts_ne (k := 2) c6 (by decide); have := j_ts_ne (k := 3) c9 (by decide); have := j_ts_ne (k := 4) c12 (by decide); omega) (by decide) ?_
    refine j_aload_n dX4_stripOf_123 rfl rfl ?_
    refine j_ldc dX4_stripOf_124 rfl wX4_59 ?_
    obtain ⟨p14, ep14, hm⟩ := jb_of hm
    refine o_callV_i kX4_60 dX4_stripOf_126 rfl (tX4_refuse  ep14) rfl rfl rfl rfl rfl (Nat.le_of_ble_eq_true rfl) (by decide) ?_
    exact j_ireturn dX4_stripOf_129 rfl rfl ⟨Nat.le_refl _, Nat.le_refl _⟩ (jf_m (fun z => .int z) hm)
  · have hm := jif_pos c1 hm
    refine j_aload_n dX4_stripOf_11 rfl rfl ?_
    refine j_ldc dX4_stripOf_12 rfl wX4_59 ?_
    obtain ⟨p15, ep15, hm⟩ := jb_of hm
    refine o_callV_i kX4_60 dX4_stripOf_14 rfl (tX4_refuse  ep15) rfl rfl rfl rfl rfl (Nat.le_of_ble_eq_true rfl) (by decide) ?_
    exact j_ireturn dX4_stripOf_17 rfl rfl ⟨Nat.le_refl _, Nat.le_refl _⟩ (jf_m (fun z => .int z) hm)
theorem dX4_had_0 : decode cX4_had 0 = .ok (.iconst 0, 1) := by decide +kernel
theorem dX4_had_1 : decode cX4_had 1 = .ok (.istore_n 1, 1) := by decide +kernel
theorem dX4_had_2 : decode cX4_had 2 = .ok (.iconst 0, 1) := by decide +kernel
theorem dX4_had_3 : decode cX4_had 3 = .ok (.istore_n 2, 1) := by decide +kernel
theorem dX4_had_4 : decode cX4_had 4 = .ok (.iload_n 2, 1) := by decide +kernel
theorem dX4_had_5 : decode cX4_had 5 = .ok (.aload_n 0, 1) := by decide +kernel
theorem dX4_had_6 : decode cX4_had 6 = .ok (.getfield 12, 3) := by decide +kernel
theorem dX4_had_9 : decode cX4_had 9 = .ok (.getfield 183, 3) := by decide +kernel
theorem dX4_had_12 : decode cX4_had 12 = .ok (.if_icmp .ge 26, 3) := by decide +kernel
theorem dX4_had_15 : decode cX4_had 15 = .ok (.aload_n 0, 1) := by decide +kernel
theorem dX4_had_16 : decode cX4_had 16 = .ok (.getfield 12, 3) := by decide +kernel
theorem dX4_had_19 : decode cX4_had 19 = .ok (.iload_n 2, 1) := by decide +kernel
theorem dX4_had_20 : decode cX4_had 20 = .ok (.invokevirtual 198, 3) := by decide +kernel
theorem dX4_had_23 : decode cX4_had 23 = .ok (.ifCond .eq 9, 3) := by decide +kernel
theorem dX4_had_26 : decode cX4_had 26 = .ok (.iload_n 1, 1) := by decide +kernel
theorem dX4_had_27 : decode cX4_had 27 = .ok (.iconst 1, 1) := by decide +kernel
theorem dX4_had_28 : decode cX4_had 28 = .ok (.iload_n 2, 1) := by decide +kernel
theorem dX4_had_29 : decode cX4_had 29 = .ok (.ishl, 1) := by decide +kernel
theorem dX4_had_30 : decode cX4_had 30 = .ok (.ior, 1) := by decide +kernel
theorem dX4_had_31 : decode cX4_had 31 = .ok (.istore_n 1, 1) := by decide +kernel
theorem dX4_had_32 : decode cX4_had 32 = .ok (.iinc 2 1, 3) := by decide +kernel
theorem dX4_had_35 : decode cX4_had 35 = .ok (.goto (-31), 3) := by decide +kernel
theorem dX4_had_38 : decode cX4_had 38 = .ok (.iload_n 1, 1) := by decide +kernel
theorem dX4_had_39 : decode cX4_had 39 = .ok (.ireturn, 1) := by decide +kernel
def mX4_had_b32 (V : jMem) (k4 : Int32 → Int32 → Option Int32) (a1 : Int32) (a2 : Int32) : Option Int32 := (k4 a1 (a2 + (1 : Int32)))
set_option maxHeartbeats 4000000 in
set_option maxRecDepth 20000 in
theorem tX4_had_b32 {l : Launch} {Z : jZ} {q : Nat → Nat} {V : jMem} {k4 : Int32 → Int32 → Option Int32} {a1 : Int32} {a2 : Int32} {r : Int32}   (hk4 : ∀ (a1 : Int32) (a2 : Int32), k4 a1 a2 = some r → J l Z RX4 "had" cX4_had 3 (some .int) 2 0 0 (fun r' w => r' = some (.int r) ∧ w = jw Z q V dX) 4 [(0, .ref (q 0)), (1, .int a1), (2, .int a2)] [] (jw Z q V dX) 0 0) (hm : mX4_had_b32 V k4 a1 a2 = some r) : J l Z RX4 "had" cX4_had 3 (some .int) 2 0 0 (fun r' w => r' = some (.int r) ∧ w = jw Z q V dX) 32 [(0, .ref (q 0)), (1, .int a1), (2, .int a2)] [] (jw Z q V dX) 0 0 := by
  unfold mX4_had_b32 at hm
  refine j_iinc (v := (a2 + (1 : Int32))) (L' := [(2, _), (0, _), (1, _)]) dX4_had_32 rfl rfl rfl (by decide) rfl ?_
  refine j_goto (tgt := 4) dX4_had_35 (by decide) ?_
  refine j_sub (L' := [(0, _), (1, _), (2, _)]) [1, 2, 0] rfl ?_
  exact hk4 _ _  hm
def mX4_had_b4 (V : jMem)  : Nat → Int32 → Int32 → Option Int32
  | 0, _, _ => none
  | n + 1, a1, a2 => (if (V.1 1 14) ≤ a2 then (some a1) else ((mX0_isHad a2 V).bind (fun (r2 : Int32) => (if r2 = (0 : Int32) then (mX4_had_b32 V (mX4_had_b4 V n) a1 a2) else (jl (a1 ||| ((1 : Int32) <<< (a2 &&& (31 : Int32)))) (fun (v4 : Int32) => (mX4_had_b32 V (mX4_had_b4 V n) v4 a2)))))))
set_option maxHeartbeats 4000000 in
set_option maxRecDepth 20000 in
theorem tX4_had_b4 {l : Launch} {Z : jZ} {q : Nat → Nat} {V : jMem} {r : Int32}   (n : Nat) : ∀ (a1 : Int32) (a2 : Int32), mX4_had_b4 V n a1 a2 = some r → J l Z RX4 "had" cX4_had 3 (some .int) 2 0 0 (fun r' w => r' = some (.int r) ∧ w = jw Z q V dX) 4 [(0, .ref (q 0)), (1, .int a1), (2, .int a2)] [] (jw Z q V dX) 0 0 := by
  induction n with
  | zero => intro a1 a2 hm; cases hm
  | succ n ih =>
    intro a1 a2 hm
    rw [mX4_had_b4] at hm
    refine j_iload_n dX4_had_4 rfl rfl ?_
    refine j_aload_n dX4_had_5 rfl rfl ?_
    refine m_getr (k := 0) (r := 1) fX4_12 dX4_had_6 rfl rfl rfl ?_
    refine m_geti (k := 14) fX4_183 dX4_had_9 rfl rfl rfl ?_
    refine j_icmp_ge (tgt := 38) dX4_had_12 rfl (by decide) (fun c1 => ?_) (fun c1 => ?_)
    · have hm := jif_pos c1 hm
      refine j_iload_n dX4_had_38 rfl rfl ?_
      exact j_ireturn dX4_had_39 rfl rfl ⟨Nat.le_refl _, Nat.le_refl _⟩ (jf_p (fun z => .int z) hm)
    · have hm := jif_neg c1 hm
      refine j_aload_n dX4_had_15 rfl rfl ?_
      refine m_getr (k := 0) (r := 1) fX4_12 dX4_had_16 rfl rfl rfl ?_
      refine j_iload_n dX4_had_19 rfl rfl ?_
      obtain ⟨r2, er2, hm⟩ := jb_of hm
      refine o_callV_i kX4_198 dX4_had_20 rfl (tX0_isHad  er2) rfl rfl rfl rfl rfl (Nat.le_of_ble_eq_true rfl) (by decide) ?_
      refine j_if_eq (tgt := 32) dX4_had_23 rfl (by decide) (fun c3 => ?_) (fun c3 => ?_)
      · have hm := jif_pos c3 hm
        exact tX4_had_b32   ih hm
      · have hm := jif_neg c3 hm
        refine j_iload_n dX4_had_26 rfl rfl ?_
        refine j_iconst (v := 1) dX4_had_27 rfl (by decide) ?_
        refine j_iload_n dX4_had_28 rfl rfl ?_
        refine j_ishl dX4_had_29 rfl ?_
        refine j_ior dX4_had_30 rfl ?_
        obtain ⟨v4, ev4⟩ : ∃ y, y = ((a1 ||| ((1 : Int32) <<< (a2 &&& (31 : Int32)))) : Int32) := ⟨_, rfl⟩
        have hm := jl_of hm ev4
        rw [← ev4]
        refine j_istore_n (i := 1) (L' := [(1, _), (0, _), (2, _)]) dX4_had_31 rfl rfl (by decide) rfl ?_
        refine j_sub (L' := [(0, _), (1, _), (2, _)]) [1, 0, 2] rfl ?_
        exact tX4_had_b32   ih hm
def mX4_had (V : jMem) : Option Int32 := (mX4_had_b4 V 2000 (0 : Int32) (0 : Int32))
set_option maxHeartbeats 4000000 in
set_option maxRecDepth 20000 in
theorem tX4_had {l : Launch} {Z : jZ} {q : Nat → Nat} {V : jMem} {r : Int32}  (hm : mX4_had V = some r) : CtD l Z yX4_had cX4_had 3 (some .int) 2 q dX [.ref (q 0)] V (some (.int r)) V := by
  refine Ct_of (L := [(0, .ref (q 0))]) (own := RX4) (nm := "had") rfl rfl (by decide +kernel) rfl (Nat.le_of_ble_eq_true rfl) ?_
  unfold mX4_had at hm
  refine j_iconst (v := 0) dX4_had_0 rfl (by decide) ?_
  refine j_istore_n (i := 1) (L' := [(1, _), (0, _)]) dX4_had_1 rfl rfl (by decide) rfl ?_
  refine j_iconst (v := 0) dX4_had_2 rfl (by decide) ?_
  refine j_istore_n (i := 2) (L' := [(2, _), (1, _), (0, _)]) dX4_had_3 rfl rfl (by decide) rfl ?_
  refine j_sub (L' := [(0, _), (1, _), (2, _)]) [2, 1, 0] rfl ?_
  exact tX4_had_b4   _ _ _  hm
theorem dX4_hindranceOf_0 : decode cX4_hindranceOf 0 = .ok (.aload_n 0, 1) := by decide +kernel
theorem dX4_hindranceOf_1 : decode cX4_hindranceOf 1 = .ok (.getfield 12, 3) := by decide +kernel
theorem dX4_hindranceOf_4 : decode cX4_hindranceOf 4 = .ok (.iload_n 1, 1) := by decide +kernel
theorem dX4_hindranceOf_5 : decode cX4_hindranceOf 5 = .ok (.invokevirtual 201, 3) := by decide +kernel
theorem dX4_hindranceOf_8 : decode cX4_hindranceOf 8 = .ok (.ifCond .ne 6, 3) := by decide +kernel
theorem dX4_hindranceOf_11 : decode cX4_hindranceOf 11 = .ok (.ldc 125, 2) := by decide +kernel
theorem dX4_hindranceOf_13 : decode cX4_hindranceOf 13 = .ok (.ireturn, 1) := by decide +kernel
theorem dX4_hindranceOf_14 : decode cX4_hindranceOf 14 = .ok (.aload_n 0, 1) := by decide +kernel
theorem dX4_hindranceOf_15 : decode cX4_hindranceOf 15 = .ok (.getfield 12, 3) := by decide +kernel
theorem dX4_hindranceOf_18 : decode cX4_hindranceOf 18 = .ok (.iload_n 1, 1) := by decide +kernel
theorem dX4_hindranceOf_19 : decode cX4_hindranceOf 19 = .ok (.invokevirtual 210, 3) := by decide +kernel
theorem dX4_hindranceOf_22 : decode cX4_hindranceOf 22 = .ok (.invokestatic 138, 3) := by decide +kernel
theorem dX4_hindranceOf_25 : decode cX4_hindranceOf 25 = .ok (.bipush 10, 2) := by decide +kernel
theorem dX4_hindranceOf_27 : decode cX4_hindranceOf 27 = .ok (.if_icmp .le 8, 3) := by decide +kernel
theorem dX4_hindranceOf_30 : decode cX4_hindranceOf 30 = .ok (.ldc 254, 2) := by decide +kernel
theorem dX4_hindranceOf_32 : decode cX4_hindranceOf 32 = .ok (.goto 4, 3) := by decide +kernel
theorem dX4_hindranceOf_35 : decode cX4_hindranceOf 35 = .ok (.iconst 0, 1) := by decide +kernel
theorem dX4_hindranceOf_36 : decode cX4_hindranceOf 36 = .ok (.ireturn, 1) := by decide +kernel
def mX4_hindranceOf (a1 : Int32) (V : jMem) : Option Int32 := ((mX0_canBe a1 V).bind (fun (r1 : Int32) => (if r1 = (0 : Int32) then (some (-1000000005 : Int32)) else ((mX0_missingOf a1 V).bind (fun (r3 : Int32) => (if (mJ6_bitCount_0f7a4 r3) ≤ (10 : Int32) then (some (0 : Int32)) else (some (-1000000007 : Int32))))))))
set_option maxHeartbeats 4000000 in
set_option maxRecDepth 20000 in
theorem tX4_hindranceOf {l : Launch} {Z : jZ} {q : Nat → Nat} {a1 : Int32} {V : jMem} {r : Int32}  (hm : mX4_hindranceOf a1 V = some r) : CtD l Z yX4_hindranceOf cX4_hindranceOf 2 (some .int) 1 q dX [.ref (q 0), .int a1] V (some (.int r)) V := by
  refine Ct_of (L := [(0, .ref (q 0)), (1, .int a1)]) (own := RX4) (nm := "hindranceOf") rfl rfl (by decide +kernel) rfl (Nat.le_of_ble_eq_true rfl) ?_
  unfold mX4_hindranceOf at hm
  refine j_aload_n dX4_hindranceOf_0 rfl rfl ?_
  refine m_getr (k := 0) (r := 1) fX4_12 dX4_hindranceOf_1 rfl rfl rfl ?_
  refine j_iload_n dX4_hindranceOf_4 rfl rfl ?_
  obtain ⟨r1, er1, hm⟩ := jb_of hm
  refine o_callV_i kX4_201 dX4_hindranceOf_5 rfl (tX0_canBe  er1) rfl rfl rfl rfl rfl (Nat.le_of_ble_eq_true rfl) (by decide) ?_
  refine j_if_ne (tgt := 14) dX4_hindranceOf_8 rfl (by decide) (fun c2 => ?_) (fun c2 => ?_)
  · have hm := jif_neg c2 hm
    refine j_aload_n dX4_hindranceOf_14 rfl rfl ?_
    refine m_getr (k := 0) (r := 1) fX4_12 dX4_hindranceOf_15 rfl rfl rfl ?_
    refine j_iload_n dX4_hindranceOf_18 rfl rfl ?_
    obtain ⟨r3, er3, hm⟩ := jb_of hm
    refine o_callV_i kX4_210 dX4_hindranceOf_19 rfl (tX0_missingOf  er3) rfl rfl rfl rfl rfl (Nat.le_of_ble_eq_true rfl) (by decide) ?_
    refine o_callS_i kX4_138 dX4_hindranceOf_22 rfl (tJ6_bitCount_0f7a4  rfl) rfl rfl (Nat.le_of_ble_eq_true rfl) (by decide) ?_
    refine j_bipush (v := 10) dX4_hindranceOf_25 rfl (by decide) ?_
    refine j_icmp_le (tgt := 35) dX4_hindranceOf_27 rfl (by decide) (fun c4 => ?_) (fun c4 => ?_)
    · have hm := jif_pos c4 hm
      refine j_iconst (v := 0) dX4_hindranceOf_35 rfl (by decide) ?_
      exact j_ireturn dX4_hindranceOf_36 rfl rfl ⟨Nat.le_refl _, Nat.le_refl _⟩ (jf_p (fun z => .int z) hm)
    · have hm := jif_neg c4 hm
      refine j_ldc dX4_hindranceOf_30 rfl wX4_254 ?_
      refine j_goto (tgt := 36) dX4_hindranceOf_32 (by decide) ?_
      exact j_ireturn dX4_hindranceOf_36 rfl rfl ⟨Nat.le_refl _, Nat.le_refl _⟩ (jf_p (fun z => .int z) hm)
  · have hm := jif_pos c2 hm
    refine j_ldc dX4_hindranceOf_11 rfl wX4_125 ?_
    exact j_ireturn dX4_hindranceOf_13 rfl rfl ⟨Nat.le_refl _, Nat.le_refl _⟩ (jf_p (fun z => .int z) hm)
theorem dX4_leastCost_0 : decode cX4_leastCost 0 = .ok (.aload_n 0, 1) := by decide +kernel
theorem dX4_leastCost_1 : decode cX4_leastCost 1 = .ok (.getfield 25, 3) := by decide +kernel
theorem dX4_leastCost_4 : decode cX4_leastCost 4 = .ok (.aload_n 0, 1) := by decide +kernel
theorem dX4_leastCost_5 : decode cX4_leastCost 5 = .ok (.getfield 12, 3) := by decide +kernel
theorem dX4_leastCost_8 : decode cX4_leastCost 8 = .ok (.aload_n 0, 1) := by decide +kernel
theorem dX4_leastCost_9 : decode cX4_leastCost 9 = .ok (.getfield 12, 3) := by decide +kernel
theorem dX4_leastCost_12 : decode cX4_leastCost 12 = .ok (.iload_n 1, 1) := by decide +kernel
theorem dX4_leastCost_13 : decode cX4_leastCost 13 = .ok (.invokevirtual 210, 3) := by decide +kernel
theorem dX4_leastCost_16 : decode cX4_leastCost 16 = .ok (.invokevirtual 213, 3) := by decide +kernel
theorem dX4_leastCost_19 : decode cX4_leastCost 19 = .ok (.aload_n 0, 1) := by decide +kernel
theorem dX4_leastCost_20 : decode cX4_leastCost 20 = .ok (.getfield 12, 3) := by decide +kernel
theorem dX4_leastCost_23 : decode cX4_leastCost 23 = .ok (.getfield 195, 3) := by decide +kernel
theorem dX4_leastCost_26 : decode cX4_leastCost 26 = .ok (.iload_n 1, 1) := by decide +kernel
theorem dX4_leastCost_27 : decode cX4_leastCost 27 = .ok (.iaload, 1) := by decide +kernel
theorem dX4_leastCost_28 : decode cX4_leastCost 28 = .ok (.iadd, 1) := by decide +kernel
theorem dX4_leastCost_29 : decode cX4_leastCost 29 = .ok (.ireturn, 1) := by decide +kernel
def mX4_leastCost (a1 : Int32) (V : jMem) : Option (Int32 × jMem) := ((mX0_missingOf a1 V).bind (fun (r1 : Int32) => ((mX1_run r1 V).bind (fun (p2 : Int32 × jMem) => (jg (jin a1 6) (some ((p2.1 + (p2.2.1 10 (Int32.toNatClampNeg a1))), p2.2)))))))
set_option maxHeartbeats 4000000 in
set_option maxRecDepth 20000 in
theorem tX4_leastCost {l : Launch} {Z : jZ} {q : Nat → Nat} {a1 : Int32} {V : jMem} {r : Int32} {V' : jMem}  (hm : mX4_leastCost a1 V = some (r, V')) : CtD l Z yX4_leastCost cX4_leastCost 2 (some .int) 6 q dX [.ref (q 0), .int a1] V (some (.int r)) V' := by
  refine Ct_of (L := [(0, .ref (q 0)), (1, .int a1)]) (own := RX4) (nm := "leastCost") rfl rfl (by decide +kernel) rfl (Nat.le_of_ble_eq_true rfl) ?_
  unfold mX4_leastCost at hm
  refine j_aload_n dX4_leastCost_0 rfl rfl ?_
  refine m_getr (k := 3) (r := 31) fX4_25 dX4_leastCost_1 rfl rfl rfl ?_
  refine j_aload_n dX4_leastCost_4 rfl rfl ?_
  refine m_getr (k := 0) (r := 1) fX4_12 dX4_leastCost_5 rfl rfl rfl ?_
  refine j_aload_n dX4_leastCost_8 rfl rfl ?_
  refine m_getr (k := 0) (r := 1) fX4_12 dX4_leastCost_9 rfl rfl rfl ?_
  refine j_iload_n dX4_leastCost_12 rfl rfl ?_
  obtain ⟨r1, er1, hm⟩ := jb_of hm
  refine o_callV_i kX4_210 dX4_leastCost_13 rfl (tX0_missingOf  er1) rfl rfl rfl rfl rfl (Nat.le_of_ble_eq_true rfl) (by decide) ?_
  obtain ⟨p2, ep2, hm⟩ := jb_of hm
  refine o_callV_i kX4_213 dX4_leastCost_16 rfl (tX1_run  ep2) rfl rfl rfl rfl rfl (Nat.le_of_ble_eq_true rfl) (by decide) ?_
  refine j_aload_n dX4_leastCost_19 rfl rfl ?_
  refine m_getr (k := 0) (r := 1) fX4_12 dX4_leastCost_20 rfl rfl rfl ?_
  refine m_getr (k := 16) (r := 10) fX4_195 dX4_leastCost_23 rfl rfl rfl ?_
  refine j_iload_n dX4_leastCost_26 rfl rfl ?_
  obtain ⟨g3, hm⟩ := jg_of hm
  refine o_iald (k := (Int32.toNatClampNeg a1)) rfl dX4_leastCost_27 rfl rfl (jin_vp g3) ?_
  refine j_iadd dX4_leastCost_28 rfl ?_
  exact j_ireturn dX4_leastCost_29 rfl rfl ⟨Nat.le_refl _, Nat.le_refl _⟩ (jf_m (fun z => .int z) hm)
theorem dX4_least_0 : decode cX4_least 0 = .ok (.aload_n 0, 1) := by decide +kernel
theorem dX4_least_1 : decode cX4_least 1 = .ok (.getfield 12, 3) := by decide +kernel
theorem dX4_least_4 : decode cX4_least 4 = .ok (.iload_n 1, 1) := by decide +kernel
theorem dX4_least_5 : decode cX4_least 5 = .ok (.invokevirtual 189, 3) := by decide +kernel
theorem dX4_least_8 : decode cX4_least 8 = .ok (.ifCond .ne 10, 3) := by decide +kernel
theorem dX4_least_11 : decode cX4_least 11 = .ok (.aload_n 0, 1) := by decide +kernel
theorem dX4_least_12 : decode cX4_least 12 = .ok (.ldc 59, 2) := by decide +kernel
theorem dX4_least_14 : decode cX4_least 14 = .ok (.invokevirtual 60, 3) := by decide +kernel
theorem dX4_least_17 : decode cX4_least 17 = .ok (.ireturn, 1) := by decide +kernel
theorem dX4_least_18 : decode cX4_least 18 = .ok (.aload_n 0, 1) := by decide +kernel
theorem dX4_least_19 : decode cX4_least 19 = .ok (.iload_n 1, 1) := by decide +kernel
theorem dX4_least_20 : decode cX4_least 20 = .ok (.invokevirtual 204, 3) := by decide +kernel
theorem dX4_least_23 : decode cX4_least 23 = .ok (.istore_n 2, 1) := by decide +kernel
theorem dX4_least_24 : decode cX4_least 24 = .ok (.iload_n 2, 1) := by decide +kernel
theorem dX4_least_25 : decode cX4_least 25 = .ok (.ifCond .eq 11, 3) := by decide +kernel
theorem dX4_least_28 : decode cX4_least 28 = .ok (.aload_n 0, 1) := by decide +kernel
theorem dX4_least_29 : decode cX4_least 29 = .ok (.iload_n 2, 1) := by decide +kernel
theorem dX4_least_30 : decode cX4_least 30 = .ok (.invokevirtual 60, 3) := by decide +kernel
theorem dX4_least_33 : decode cX4_least 33 = .ok (.goto 8, 3) := by decide +kernel
theorem dX4_least_36 : decode cX4_least 36 = .ok (.aload_n 0, 1) := by decide +kernel
theorem dX4_least_37 : decode cX4_least 37 = .ok (.iload_n 1, 1) := by decide +kernel
theorem dX4_least_38 : decode cX4_least 38 = .ok (.invokevirtual 207, 3) := by decide +kernel
theorem dX4_least_41 : decode cX4_least 41 = .ok (.ireturn, 1) := by decide +kernel
def mX4_least (a1 : Int32) (V : jMem) : Option (Int32 × jMem) := (if (mX0_hasStrip a1 V) = (0 : Int32) then ((mX4_refuse (-1000000001 : Int32) V).bind (fun (p6 : Int32 × jMem) => (some (p6.1, p6.2)))) else ((mX4_hindranceOf a1 V).bind (fun (r2 : Int32) => (if r2 = (0 : Int32) then ((mX4_leastCost a1 V).bind (fun (p4 : Int32 × jMem) => (some (p4.1, p4.2)))) else ((mX4_refuse r2 V).bind (fun (p5 : Int32 × jMem) => (some (p5.1, p5.2))))))))
set_option maxHeartbeats 4000000 in
set_option maxRecDepth 20000 in
theorem tX4_least {l : Launch} {Z : jZ} {q : Nat → Nat} {a1 : Int32} {V : jMem} {r : Int32} {V' : jMem}  (hm : mX4_least a1 V = some (r, V')) : CtD l Z yX4_least cX4_least 3 (some .int) 7 q dX [.ref (q 0), .int a1] V (some (.int r)) V' := by
  refine Ct_of (L := [(0, .ref (q 0)), (1, .int a1)]) (own := RX4) (nm := "least") rfl rfl (by decide +kernel) rfl (Nat.le_of_ble_eq_true rfl) ?_
  unfold mX4_least at hm
  refine j_aload_n dX4_least_0 rfl rfl ?_
  refine m_getr (k := 0) (r := 1) fX4_12 dX4_least_1 rfl rfl rfl ?_
  refine j_iload_n dX4_least_4 rfl rfl ?_
  refine o_callV_i kX4_189 dX4_least_5 rfl (tX0_hasStrip  rfl) rfl rfl rfl rfl rfl (Nat.le_of_ble_eq_true rfl) (by decide) ?_
  refine j_if_ne (tgt := 18) dX4_least_8 rfl (by decide) (fun c1 => ?_) (fun c1 => ?_)
  · have hm := jif_neg c1 hm
    refine j_aload_n dX4_least_18 rfl rfl ?_
    refine j_iload_n dX4_least_19 rfl rfl ?_
    obtain ⟨r2, er2, hm⟩ := jb_of hm
    refine o_callV_i kX4_204 dX4_least_20 rfl (tX4_hindranceOf  er2) rfl rfl rfl rfl rfl (Nat.le_of_ble_eq_true rfl) (by decide) ?_
    refine j_istore_n (i := 2) (L' := [(2, _), (0, _), (1, _)]) dX4_least_23 rfl rfl (by decide) rfl ?_
    refine j_iload_n dX4_least_24 rfl rfl ?_
    refine j_if_eq (tgt := 36) dX4_least_25 rfl (by decide) (fun c3 => ?_) (fun c3 => ?_)
    · have hm := jif_pos c3 hm
      refine j_aload_n dX4_least_36 rfl rfl ?_
      refine j_iload_n dX4_least_37 rfl rfl ?_
      obtain ⟨p4, ep4, hm⟩ := jb_of hm
      refine o_callV_i kX4_207 dX4_least_38 rfl (tX4_leastCost  ep4) rfl rfl rfl rfl rfl (Nat.le_of_ble_eq_true rfl) (by decide) ?_
      exact j_ireturn dX4_least_41 rfl rfl ⟨Nat.le_refl _, Nat.le_refl _⟩ (jf_m (fun z => .int z) hm)
    · have hm := jif_neg c3 hm
      refine j_aload_n dX4_least_28 rfl rfl ?_
      refine j_iload_n dX4_least_29 rfl rfl ?_
      obtain ⟨p5, ep5, hm⟩ := jb_of hm
      refine o_callV_i kX4_60 dX4_least_30 rfl (tX4_refuse  ep5) rfl rfl rfl rfl rfl (Nat.le_of_ble_eq_true rfl) (by decide) ?_
      refine j_goto (tgt := 41) dX4_least_33 (by decide) ?_
      exact j_ireturn dX4_least_41 rfl rfl ⟨Nat.le_refl _, Nat.le_refl _⟩ (jf_m (fun z => .int z) hm)
  · have hm := jif_pos c1 hm
    refine j_aload_n dX4_least_11 rfl rfl ?_
    refine j_ldc dX4_least_12 rfl wX4_59 ?_
    obtain ⟨p6, ep6, hm⟩ := jb_of hm
    refine o_callV_i kX4_60 dX4_least_14 rfl (tX4_refuse  ep6) rfl rfl rfl rfl rfl (Nat.le_of_ble_eq_true rfl) (by decide) ?_
    exact j_ireturn dX4_least_17 rfl rfl ⟨Nat.le_refl _, Nat.le_refl _⟩ (jf_m (fun z => .int z) hm)
theorem dX4_order_0 : decode cX4_order 0 = .ok (.aload_n 0, 1) := by decide +kernel
theorem dX4_order_1 : decode cX4_order 1 = .ok (.getfield 12, 3) := by decide +kernel
theorem dX4_order_4 : decode cX4_order 4 = .ok (.iload_n 1, 1) := by decide +kernel
theorem dX4_order_5 : decode cX4_order 5 = .ok (.invokevirtual 189, 3) := by decide +kernel
theorem dX4_order_8 : decode cX4_order 8 = .ok (.ifCond .eq 13, 3) := by decide +kernel
theorem dX4_order_11 : decode cX4_order 11 = .ok (.iload_n 2, 1) := by decide +kernel
theorem dX4_order_12 : decode cX4_order 12 = .ok (.iconst 0, 1) := by decide +kernel
theorem dX4_order_13 : decode cX4_order 13 = .ok (.bipush 9, 2) := by decide +kernel
theorem dX4_order_15 : decode cX4_order 15 = .ok (.invokestatic 55, 3) := by decide +kernel
theorem dX4_order_18 : decode cX4_order 18 = .ok (.ifCond .ne 10, 3) := by decide +kernel
theorem dX4_order_21 : decode cX4_order 21 = .ok (.aload_n 0, 1) := by decide +kernel
theorem dX4_order_22 : decode cX4_order 22 = .ok (.ldc 59, 2) := by decide +kernel
theorem dX4_order_24 : decode cX4_order 24 = .ok (.invokevirtual 60, 3) := by decide +kernel
theorem dX4_order_27 : decode cX4_order 27 = .ok (.ireturn, 1) := by decide +kernel
theorem dX4_order_28 : decode cX4_order 28 = .ok (.aload_n 0, 1) := by decide +kernel
theorem dX4_order_29 : decode cX4_order 29 = .ok (.iload_n 1, 1) := by decide +kernel
theorem dX4_order_30 : decode cX4_order 30 = .ok (.invokevirtual 204, 3) := by decide +kernel
theorem dX4_order_33 : decode cX4_order 33 = .ok (.istore_n 3, 1) := by decide +kernel
theorem dX4_order_34 : decode cX4_order 34 = .ok (.iload_n 3, 1) := by decide +kernel
theorem dX4_order_35 : decode cX4_order 35 = .ok (.ifCond .eq 9, 3) := by decide +kernel
theorem dX4_order_38 : decode cX4_order 38 = .ok (.aload_n 0, 1) := by decide +kernel
theorem dX4_order_39 : decode cX4_order 39 = .ok (.iload_n 3, 1) := by decide +kernel
theorem dX4_order_40 : decode cX4_order 40 = .ok (.invokevirtual 60, 3) := by decide +kernel
theorem dX4_order_43 : decode cX4_order 43 = .ok (.ireturn, 1) := by decide +kernel
theorem dX4_order_44 : decode cX4_order 44 = .ok (.aload_n 0, 1) := by decide +kernel
theorem dX4_order_45 : decode cX4_order 45 = .ok (.getfield 25, 3) := by decide +kernel
theorem dX4_order_48 : decode cX4_order 48 = .ok (.aload_n 0, 1) := by decide +kernel
theorem dX4_order_49 : decode cX4_order 49 = .ok (.getfield 12, 3) := by decide +kernel
theorem dX4_order_52 : decode cX4_order 52 = .ok (.aload_n 0, 1) := by decide +kernel
theorem dX4_order_53 : decode cX4_order 53 = .ok (.getfield 12, 3) := by decide +kernel
theorem dX4_order_56 : decode cX4_order 56 = .ok (.iload_n 1, 1) := by decide +kernel
theorem dX4_order_57 : decode cX4_order 57 = .ok (.invokevirtual 210, 3) := by decide +kernel
theorem dX4_order_60 : decode cX4_order 60 = .ok (.invokevirtual 213, 3) := by decide +kernel
theorem dX4_order_63 : decode cX4_order 63 = .ok (.pop, 1) := by decide +kernel
theorem dX4_order_64 : decode cX4_order 64 = .ok (.aload_n 0, 1) := by decide +kernel
theorem dX4_order_65 : decode cX4_order 65 = .ok (.getfield 25, 3) := by decide +kernel
theorem dX4_order_68 : decode cX4_order 68 = .ok (.iload_n 2, 1) := by decide +kernel
theorem dX4_order_69 : decode cX4_order 69 = .ok (.invokevirtual 217, 3) := by decide +kernel
theorem dX4_order_72 : decode cX4_order 72 = .ok (.istore 4, 2) := by decide +kernel
theorem dX4_order_74 : decode cX4_order 74 = .ok (.iload 4, 2) := by decide +kernel
theorem dX4_order_76 : decode cX4_order 76 = .ok (.ifCond .ge 12, 3) := by decide +kernel
theorem dX4_order_79 : decode cX4_order 79 = .ok (.aload_n 0, 1) := by decide +kernel
theorem dX4_order_80 : decode cX4_order 80 = .ok (.ldc 146, 2) := by decide +kernel
theorem dX4_order_82 : decode cX4_order 82 = .ok (.invokevirtual 60, 3) := by decide +kernel
theorem dX4_order_85 : decode cX4_order 85 = .ok (.goto 5, 3) := by decide +kernel
theorem dX4_order_88 : decode cX4_order 88 = .ok (.iload 4, 2) := by decide +kernel
theorem dX4_order_90 : decode cX4_order 90 = .ok (.ireturn, 1) := by decide +kernel
def mX4_order_b21   (V : jMem) : Option (Int32 × jMem) := ((mX4_refuse (-1000000001 : Int32) V).bind (fun (p1 : Int32 × jMem) => (some (p1.1, p1.2))))
set_option maxHeartbeats 4000000 in
set_option maxRecDepth 20000 in
theorem tX4_order_b21 {l : Launch} {Z : jZ} {q : Nat → Nat} {V : jMem} {r : Int32} {V' : jMem}    (hm : mX4_order_b21 V = some (r, V')) : J l Z RX4 "order" cX4_order 5 (some .int) 6 0 0 (fun r' w => r' = some (.int r) ∧ w = jw Z q V' dX) 21 [(0, .ref (q 0))] [] (jw Z q V dX) 0 0 := by
  unfold mX4_order_b21 at hm
  refine j_aload_n dX4_order_21 rfl rfl ?_
  refine j_ldc dX4_order_22 rfl wX4_59 ?_
  obtain ⟨p1, ep1, hm⟩ := jb_of hm
  refine o_callV_i kX4_60 dX4_order_24 rfl (tX4_refuse  ep1) rfl rfl rfl rfl rfl (Nat.le_of_ble_eq_true rfl) (by decide) ?_
  exact j_ireturn dX4_order_27 rfl rfl ⟨Nat.le_refl _, Nat.le_refl _⟩ (jf_m (fun z => .int z) hm)
def mX4_order (a1 : Int32) (a2 : Int32) (V : jMem) : Option (Int32 × jMem) := (if (mX0_hasStrip a1 V) = (0 : Int32) then (mX4_order_b21 V) else (if (mX4_isWithin a2 (0 : Int32) (9 : Int32)) = (0 : Int32) then (mX4_order_b21 V) else ((mX4_hindranceOf a1 V).bind (fun (r3 : Int32) => (if r3 = (0 : Int32) then ((mX0_missingOf a1 V).bind (fun (r5 : Int32) => ((mX1_run r5 V).bind (fun (p6 : Int32 × jMem) => ((mX1_fieldAt a2 p6.2).bind (fun (r7 : Int32) => (if (0 : Int32) ≤ r7 then (some (r7, p6.2)) else ((mX4_refuse (-1000000004 : Int32) p6.2).bind (fun (p9 : Int32 × jMem) => (some (p9.1, p9.2))))))))))) else ((mX4_refuse r3 V).bind (fun (p10 : Int32 × jMem) => (some (p10.1, p10.2)))))))))
set_option maxHeartbeats 4000000 in
set_option maxRecDepth 20000 in
theorem tX4_order {l : Launch} {Z : jZ} {q : Nat → Nat} {a1 : Int32} {a2 : Int32} {V : jMem} {r : Int32} {V' : jMem}  (hm : mX4_order a1 a2 V = some (r, V')) : CtD l Z yX4_order cX4_order 5 (some .int) 6 q dX [.ref (q 0), .int a1, .int a2] V (some (.int r)) V' := by
  refine Ct_of (L := [(0, .ref (q 0)), (1, .int a1), (2, .int a2)]) (own := RX4) (nm := "order") rfl rfl (by decide +kernel) rfl (Nat.le_of_ble_eq_true rfl) ?_
  unfold mX4_order at hm
  refine j_aload_n dX4_order_0 rfl rfl ?_
  refine m_getr (k := 0) (r := 1) fX4_12 dX4_order_1 rfl rfl rfl ?_
  refine j_iload_n dX4_order_4 rfl rfl ?_
  refine o_callV_i kX4_189 dX4_order_5 rfl (tX0_hasStrip  rfl) rfl rfl rfl rfl rfl (Nat.le_of_ble_eq_true rfl) (by decide) ?_
  refine j_if_eq (tgt := 21) dX4_order_8 rfl (by decide) (fun c1 => ?_) (fun c1 => ?_)
  · have hm := jif_pos c1 hm
    refine j_sub (L' := [(0, _)]) [0] rfl ?_
    exact tX4_order_b21    hm
  · have hm := jif_neg c1 hm
    refine j_iload_n dX4_order_11 rfl rfl ?_
    refine j_iconst (v := 0) dX4_order_12 rfl (by decide) ?_
    refine j_bipush (v := 9) dX4_order_13 rfl (by decide) ?_
    refine o_callS_i kX4_55 dX4_order_15 rfl (tX4_isWithin  rfl) rfl rfl (Nat.le_of_ble_eq_true rfl) (by decide) ?_
    refine j_if_ne (tgt := 28) dX4_order_18 rfl (by decide) (fun c2 => ?_) (fun c2 => ?_)
    · have hm := jif_neg c2 hm
      refine j_aload_n dX4_order_28 rfl rfl ?_
      refine j_iload_n dX4_order_29 rfl rfl ?_
      obtain ⟨r3, er3, hm⟩ := jb_of hm
      refine o_callV_i kX4_204 dX4_order_30 rfl (tX4_hindranceOf  er3) rfl rfl rfl rfl rfl (Nat.le_of_ble_eq_true rfl) (by decide) ?_
      refine j_istore_n (i := 3) (L' := [(3, _), (0, _), (1, _), (2, _)]) dX4_order_33 rfl rfl (by decide) rfl ?_
      refine j_iload_n dX4_order_34 rfl rfl ?_
      refine j_if_eq (tgt := 44) dX4_order_35 rfl (by decide) (fun c4 => ?_) (fun c4 => ?_)
      · have hm := jif_pos c4 hm
        refine j_aload_n dX4_order_44 rfl rfl ?_
        refine m_getr (k := 3) (r := 31) fX4_25 dX4_order_45 rfl rfl rfl ?_
        refine j_aload_n dX4_order_48 rfl rfl ?_
        refine m_getr (k := 0) (r := 1) fX4_12 dX4_order_49 rfl rfl rfl ?_
        refine j_aload_n dX4_order_52 rfl rfl ?_
        refine m_getr (k := 0) (r := 1) fX4_12 dX4_order_53 rfl rfl rfl ?_
        refine j_iload_n dX4_order_56 rfl rfl ?_
        obtain ⟨r5, er5, hm⟩ := jb_of hm
        refine o_callV_i kX4_210 dX4_order_57 rfl (tX0_missingOf  er5) rfl rfl rfl rfl rfl (Nat.le_of_ble_eq_true rfl) (by decide) ?_
        obtain ⟨p6, ep6, hm⟩ := jb_of hm
        refine o_callV_i kX4_213 dX4_order_60 rfl (tX1_run  ep6) rfl rfl rfl rfl rfl (Nat.le_of_ble_eq_true rfl) (by decide) ?_
        refine j_pop dX4_order_63 rfl rfl ?_
        refine j_aload_n dX4_order_64 rfl rfl ?_
        refine m_getr (k := 3) (r := 31) fX4_25 dX4_order_65 rfl rfl rfl ?_
        refine j_iload_n dX4_order_68 rfl rfl ?_
        obtain ⟨r7, er7, hm⟩ := jb_of hm
        refine o_callV_i kX4_217 dX4_order_69 rfl (tX1_fieldAt  er7) rfl rfl rfl rfl rfl (Nat.le_of_ble_eq_true rfl) (by decide) ?_
        refine j_istore (L' := [(4, _), (3, _), (0, _), (1, _), (2, _)]) dX4_order_72 rfl (by decide) rfl ?_
        refine j_iload dX4_order_74 rfl rfl ?_
        refine j_if_ge (tgt := 88) dX4_order_76 rfl (by decide) (fun c8 => ?_) (fun c8 => ?_)
        · have hm := jif_pos c8 hm
          refine j_iload dX4_order_88 rfl rfl ?_
          exact j_ireturn dX4_order_90 rfl rfl ⟨Nat.le_refl _, Nat.le_refl _⟩ (jf_m (fun z => .int z) hm)
        · have hm := jif_neg c8 hm
          refine j_aload_n dX4_order_79 rfl rfl ?_
          refine j_ldc dX4_order_80 rfl wX4_146 ?_
          obtain ⟨p9, ep9, hm⟩ := jb_of hm
          refine o_callV_i kX4_60 dX4_order_82 rfl (tX4_refuse  ep9) rfl rfl rfl rfl rfl (Nat.le_of_ble_eq_true rfl) (by decide) ?_
          refine j_goto (tgt := 90) dX4_order_85 (by decide) ?_
          exact j_ireturn dX4_order_90 rfl rfl ⟨Nat.le_refl _, Nat.le_refl _⟩ (jf_m (fun z => .int z) hm)
      · have hm := jif_neg c4 hm
        refine j_aload_n dX4_order_38 rfl rfl ?_
        refine j_iload_n dX4_order_39 rfl rfl ?_
        obtain ⟨p10, ep10, hm⟩ := jb_of hm
        refine o_callV_i kX4_60 dX4_order_40 rfl (tX4_refuse  ep10) rfl rfl rfl rfl rfl (Nat.le_of_ble_eq_true rfl) (by decide) ?_
        exact j_ireturn dX4_order_43 rfl rfl ⟨Nat.le_refl _, Nat.le_refl _⟩ (jf_m (fun z => .int z) hm)
    · have hm := jif_pos c2 hm
      refine j_sub (L' := [(0, _)]) [0] rfl ?_
      exact tX4_order_b21    hm
theorem dX4_best_0 : decode cX4_best 0 = .ok (.iconst (-1), 1) := by decide +kernel
theorem dX4_best_1 : decode cX4_best 1 = .ok (.istore_n 1, 1) := by decide +kernel
theorem dX4_best_2 : decode cX4_best 2 = .ok (.iconst 0, 1) := by decide +kernel
theorem dX4_best_3 : decode cX4_best 3 = .ok (.istore_n 2, 1) := by decide +kernel
theorem dX4_best_4 : decode cX4_best 4 = .ok (.iconst 0, 1) := by decide +kernel
theorem dX4_best_5 : decode cX4_best 5 = .ok (.istore_n 3, 1) := by decide +kernel
theorem dX4_best_6 : decode cX4_best 6 = .ok (.iload_n 3, 1) := by decide +kernel
theorem dX4_best_7 : decode cX4_best 7 = .ok (.aload_n 0, 1) := by decide +kernel
theorem dX4_best_8 : decode cX4_best 8 = .ok (.getfield 12, 3) := by decide +kernel
theorem dX4_best_11 : decode cX4_best 11 = .ok (.getfield 183, 3) := by decide +kernel
theorem dX4_best_14 : decode cX4_best 14 = .ok (.if_icmp .ge 39, 3) := by decide +kernel
theorem dX4_best_17 : decode cX4_best 17 = .ok (.aload_n 0, 1) := by decide +kernel
theorem dX4_best_18 : decode cX4_best 18 = .ok (.iload_n 3, 1) := by decide +kernel
theorem dX4_best_19 : decode cX4_best 19 = .ok (.invokevirtual 204, 3) := by decide +kernel
theorem dX4_best_22 : decode cX4_best 22 = .ok (.ifCond .ne 25, 3) := by decide +kernel
theorem dX4_best_25 : decode cX4_best 25 = .ok (.aload_n 0, 1) := by decide +kernel
theorem dX4_best_26 : decode cX4_best 26 = .ok (.iload_n 3, 1) := by decide +kernel
theorem dX4_best_27 : decode cX4_best 27 = .ok (.invokevirtual 207, 3) := by decide +kernel
theorem dX4_best_30 : decode cX4_best 30 = .ok (.istore 4, 2) := by decide +kernel
theorem dX4_best_32 : decode cX4_best 32 = .ok (.iload_n 1, 1) := by decide +kernel
theorem dX4_best_33 : decode cX4_best 33 = .ok (.ifCond .lt 9, 3) := by decide +kernel
theorem dX4_best_36 : decode cX4_best 36 = .ok (.iload 4, 2) := by decide +kernel
theorem dX4_best_38 : decode cX4_best 38 = .ok (.iload_n 2, 1) := by decide +kernel
theorem dX4_best_39 : decode cX4_best 39 = .ok (.if_icmp .ge 8, 3) := by decide +kernel
theorem dX4_best_42 : decode cX4_best 42 = .ok (.iload_n 3, 1) := by decide +kernel
theorem dX4_best_43 : decode cX4_best 43 = .ok (.istore_n 1, 1) := by decide +kernel
theorem dX4_best_44 : decode cX4_best 44 = .ok (.iload 4, 2) := by decide +kernel
theorem dX4_best_46 : decode cX4_best 46 = .ok (.istore_n 2, 1) := by decide +kernel
theorem dX4_best_47 : decode cX4_best 47 = .ok (.iinc 3 1, 3) := by decide +kernel
theorem dX4_best_50 : decode cX4_best 50 = .ok (.goto (-44), 3) := by decide +kernel
theorem dX4_best_53 : decode cX4_best 53 = .ok (.iload_n 1, 1) := by decide +kernel
theorem dX4_best_54 : decode cX4_best 54 = .ok (.ifCond .ge 12, 3) := by decide +kernel
theorem dX4_best_57 : decode cX4_best 57 = .ok (.aload_n 0, 1) := by decide +kernel
theorem dX4_best_58 : decode cX4_best 58 = .ok (.ldc 146, 2) := by decide +kernel
theorem dX4_best_60 : decode cX4_best 60 = .ok (.invokevirtual 60, 3) := by decide +kernel
theorem dX4_best_63 : decode cX4_best 63 = .ok (.goto 4, 3) := by decide +kernel
theorem dX4_best_66 : decode cX4_best 66 = .ok (.iload_n 1, 1) := by decide +kernel
theorem dX4_best_67 : decode cX4_best 67 = .ok (.ireturn, 1) := by decide +kernel
def mX4_best_b47  (k6 : Int32 → Int32 → Int32 → jMem → Option (Int32 × jMem)) (a1 : Int32) (a2 : Int32) (a3 : Int32) (V : jMem) : Option (Int32 × jMem) := (k6 a1 a2 (a3 + (1 : Int32)) V)
set_option maxHeartbeats 4000000 in
set_option maxRecDepth 20000 in
theorem tX4_best_b47 {l : Launch} {Z : jZ} {q : Nat → Nat} {k6 : Int32 → Int32 → Int32 → jMem → Option (Int32 × jMem)} {a1 : Int32} {a2 : Int32} {a3 : Int32} {V : jMem} {r : Int32} {V' : jMem}   (hk6 : ∀ (a1 : Int32) (a2 : Int32) (a3 : Int32) (V : jMem), k6 a1 a2 a3 V = some (r, V') → J l Z RX4 "best" cX4_best 5 (some .int) 7 0 0 (fun r' w => r' = some (.int r) ∧ w = jw Z q V' dX) 6 [(0, .ref (q 0)), (1, .int a1), (2, .int a2), (3, .int a3)] [] (jw Z q V dX) 0 0) (hm : mX4_best_b47 k6 a1 a2 a3 V = some (r, V')) : J l Z RX4 "best" cX4_best 5 (some .int) 7 0 0 (fun r' w => r' = some (.int r) ∧ w = jw Z q V' dX) 47 [(0, .ref (q 0)), (1, .int a1), (2, .int a2), (3, .int a3)] [] (jw Z q V dX) 0 0 := by
  unfold mX4_best_b47 at hm
  refine j_iinc (v := (a3 + (1 : Int32))) (L' := [(3, _), (0, _), (1, _), (2, _)]) dX4_best_47 rfl rfl rfl (by decide) rfl ?_
  refine j_goto (tgt := 6) dX4_best_50 (by decide) ?_
  refine j_sub (L' := [(0, _), (1, _), (2, _), (3, _)]) [1, 2, 3, 0] rfl ?_
  exact hk6 _ _ _ _  hm
def mX4_best_b42  (k6 : Int32 → Int32 → Int32 → jMem → Option (Int32 × jMem)) (a3 : Int32) (a4 : Int32) (V : jMem) : Option (Int32 × jMem) := (mX4_best_b47 k6 a3 a4 a3 V)
set_option maxHeartbeats 4000000 in
set_option maxRecDepth 20000 in
theorem tX4_best_b42 {l : Launch} {Z : jZ} {q : Nat → Nat} {k6 : Int32 → Int32 → Int32 → jMem → Option (Int32 × jMem)} {a3 : Int32} {a4 : Int32} {V : jMem} {r : Int32} {V' : jMem}   (hk6 : ∀ (a1 : Int32) (a2 : Int32) (a3 : Int32) (V : jMem), k6 a1 a2 a3 V = some (r, V') → J l Z RX4 "best" cX4_best 5 (some .int) 7 0 0 (fun r' w => r' = some (.int r) ∧ w = jw Z q V' dX) 6 [(0, .ref (q 0)), (1, .int a1), (2, .int a2), (3, .int a3)] [] (jw Z q V dX) 0 0) (hm : mX4_best_b42 k6 a3 a4 V = some (r, V')) : J l Z RX4 "best" cX4_best 5 (some .int) 7 0 0 (fun r' w => r' = some (.int r) ∧ w = jw Z q V' dX) 42 [(0, .ref (q 0)), (3, .int a3), (4, .int a4)] [] (jw Z q V dX) 0 0 := by
  unfold mX4_best_b42 at hm
  refine j_iload_n dX4_best_42 rfl rfl ?_
  refine j_istore_n (i := 1) (L' := [(1, _), (0, _), (3, _), (4, _)]) dX4_best_43 rfl rfl (by decide) rfl ?_
  refine j_iload dX4_best_44 rfl rfl ?_
  refine j_istore_n (i := 2) (L' := [(2, _), (1, _), (0, _), (3, _), (4, _)]) dX4_best_46 rfl rfl (by decide) rfl ?_
  refine j_sub (L' := [(0, _), (1, _), (2, _), (3, _)]) [2, 1, 0, 3] rfl ?_
  exact tX4_best_b47   hk6 hm
def mX4_best_b6   : Nat → Int32 → Int32 → Int32 → jMem → Option (Int32 × jMem)
  | 0, _, _, _, _ => none
  | n + 1, a1, a2, a3, V => (if (V.1 1 14) ≤ a3 then (if (0 : Int32) ≤ a1 then (some (a1, V)) else ((mX4_refuse (-1000000004 : Int32) V).bind (fun (p3 : Int32 × jMem) => (some (p3.1, p3.2))))) else ((mX4_hindranceOf a3 V).bind (fun (r4 : Int32) => (if r4 = (0 : Int32) then ((mX4_leastCost a3 V).bind (fun (p6 : Int32 × jMem) => (if a1 < (0 : Int32) then (mX4_best_b42 (mX4_best_b6 n) a3 p6.1 p6.2) else (if a2 ≤ p6.1 then (mX4_best_b47 (mX4_best_b6 n) a1 a2 a3 p6.2) else (mX4_best_b42 (mX4_best_b6 n) a3 p6.1 p6.2))))) else (mX4_best_b47 (mX4_best_b6 n) a1 a2 a3 V)))))
set_option maxHeartbeats 4000000 in
set_option maxRecDepth 20000 in
theorem tX4_best_b6 {l : Launch} {Z : jZ} {q : Nat → Nat}  {r : Int32} {V' : jMem}   (n : Nat) : ∀ (a1 : Int32) (a2 : Int32) (a3 : Int32) (V : jMem), mX4_best_b6 n a1 a2 a3 V = some (r, V') → J l Z RX4 "best" cX4_best 5 (some .int) 7 0 0 (fun r' w => r' = some (.int r) ∧ w = jw Z q V' dX) 6 [(0, .ref (q 0)), (1, .int a1), (2, .int a2), (3, .int a3)] [] (jw Z q V dX) 0 0 := by
  induction n with
  | zero => intro a1 a2 a3 V hm; cases hm
  | succ n ih =>
    intro a1 a2 a3 V hm
    rw [mX4_best_b6] at hm
    refine j_iload_n dX4_best_6 rfl rfl ?_
    refine j_aload_n dX4_best_7 rfl rfl ?_
    refine m_getr (k := 0) (r := 1) fX4_12 dX4_best_8 rfl rfl rfl ?_
    refine m_geti (k := 14) fX4_183 dX4_best_11 rfl rfl rfl ?_
    refine j_icmp_ge (tgt := 53) dX4_best_14 rfl (by decide) (fun c1 => ?_) (fun c1 => ?_)
    · have hm := jif_pos c1 hm
      refine j_iload_n dX4_best_53 rfl rfl ?_
      refine j_if_ge (tgt := 66) dX4_best_54 rfl (by decide) (fun c2 => ?_) (fun c2 => ?_)
      · have hm := jif_pos c2 hm
        refine j_iload_n dX4_best_66 rfl rfl ?_
        exact j_ireturn dX4_best_67 rfl rfl ⟨Nat.le_refl _, Nat.le_refl _⟩ (jf_m (fun z => .int z) hm)
      · have hm := jif_neg c2 hm
        refine j_aload_n dX4_best_57 rfl rfl ?_
        refine j_ldc dX4_best_58 rfl wX4_146 ?_
        obtain ⟨p3, ep3, hm⟩ := jb_of hm
        refine o_callV_i kX4_60 dX4_best_60 rfl (tX4_refuse  ep3) rfl rfl rfl rfl rfl (Nat.le_of_ble_eq_true rfl) (by decide) ?_
        refine j_goto (tgt := 67) dX4_best_63 (by decide) ?_
        exact j_ireturn dX4_best_67 rfl rfl ⟨Nat.le_refl _, Nat.le_refl _⟩ (jf_m (fun z => .int z) hm)
    · have hm := jif_neg c1 hm
      refine j_aload_n dX4_best_17 rfl rfl ?_
      refine j_iload_n dX4_best_18 rfl rfl ?_
      obtain ⟨r4, er4, hm⟩ := jb_of hm
      refine o_callV_i kX4_204 dX4_best_19 rfl (tX4_hindranceOf  er4) rfl rfl rfl rfl rfl (Nat.le_of_ble_eq_true rfl) (by decide) ?_
      refine j_if_ne (tgt := 47) dX4_best_22 rfl (by decide) (fun c5 => ?_) (fun c5 => ?_)
      · have hm := jif_neg c5 hm
        exact tX4_best_b47   ih hm
      · have hm := jif_pos c5 hm
        refine j_aload_n dX4_best_25 rfl rfl ?_
        refine j_iload_n dX4_best_26 rfl rfl ?_
        obtain ⟨p6, ep6, hm⟩ := jb_of hm
        refine o_callV_i kX4_207 dX4_best_27 rfl (tX4_leastCost  ep6) rfl rfl rfl rfl rfl (Nat.le_of_ble_eq_true rfl) (by decide) ?_
        refine j_istore (L' := [(4, _), (0, _), (1, _), (2, _), (3, _)]) dX4_best_30 rfl (by decide) rfl ?_
        refine j_iload_n dX4_best_32 rfl rfl ?_
        refine j_if_lt (tgt := 42) dX4_best_33 rfl (by decide) (fun c7 => ?_) (fun c7 => ?_)
        · have hm := jif_pos c7 hm
          refine j_sub (L' := [(0, _), (3, _), (4, _)]) [1, 4, 0] rfl ?_
          exact tX4_best_b42   ih hm
        · have hm := jif_neg c7 hm
          refine j_iload dX4_best_36 rfl rfl ?_
          refine j_iload_n dX4_best_38 rfl rfl ?_
          refine j_icmp_ge (tgt := 47) dX4_best_39 rfl (by decide) (fun c8 => ?_) (fun c8 => ?_)
          · have hm := jif_pos c8 hm
            refine j_sub (L' := [(0, _), (1, _), (2, _), (3, _)]) [1, 2, 3, 4] rfl ?_
            exact tX4_best_b47   ih hm
          · have hm := jif_neg c8 hm
            refine j_sub (L' := [(0, _), (3, _), (4, _)]) [1, 4, 0] rfl ?_
            exact tX4_best_b42   ih hm
def mX4_best (V : jMem) : Option (Int32 × jMem) := (mX4_best_b6 2000 (-1 : Int32) (0 : Int32) (0 : Int32) V)
set_option maxHeartbeats 4000000 in
set_option maxRecDepth 20000 in
theorem tX4_best {l : Launch} {Z : jZ} {q : Nat → Nat} {V : jMem} {r : Int32} {V' : jMem}  (hm : mX4_best V = some (r, V')) : CtD l Z yX4_best cX4_best 5 (some .int) 7 q dX [.ref (q 0)] V (some (.int r)) V' := by
  refine Ct_of (L := [(0, .ref (q 0))]) (own := RX4) (nm := "best") rfl rfl (by decide +kernel) rfl (Nat.le_of_ble_eq_true rfl) ?_
  unfold mX4_best at hm
  refine j_iconst (v := -1) dX4_best_0 rfl (by decide) ?_
  refine j_istore_n (i := 1) (L' := [(1, _), (0, _)]) dX4_best_1 rfl rfl (by decide) rfl ?_
  refine j_iconst (v := 0) dX4_best_2 rfl (by decide) ?_
  refine j_istore_n (i := 2) (L' := [(2, _), (1, _), (0, _)]) dX4_best_3 rfl rfl (by decide) rfl ?_
  refine j_iconst (v := 0) dX4_best_4 rfl (by decide) ?_
  refine j_istore_n (i := 3) (L' := [(3, _), (2, _), (1, _), (0, _)]) dX4_best_5 rfl rfl (by decide) rfl ?_
  refine j_sub (L' := [(0, _), (1, _), (2, _), (3, _)]) [3, 2, 1, 0] rfl ?_
  exact tX4_best_b6   _ _ _ _ _  hm
theorem dX4_last_0 : decode cX4_last 0 = .ok (.aload_n 0, 1) := by decide +kernel
theorem dX4_last_1 : decode cX4_last 1 = .ok (.getfield 12, 3) := by decide +kernel
theorem dX4_last_4 : decode cX4_last 4 = .ok (.iload_n 1, 1) := by decide +kernel
theorem dX4_last_5 : decode cX4_last 5 = .ok (.invokevirtual 189, 3) := by decide +kernel
theorem dX4_last_8 : decode cX4_last 8 = .ok (.ifCond .eq 12, 3) := by decide +kernel
theorem dX4_last_11 : decode cX4_last 11 = .ok (.iload_n 2, 1) := by decide +kernel
theorem dX4_last_12 : decode cX4_last 12 = .ok (.iconst 0, 1) := by decide +kernel
theorem dX4_last_13 : decode cX4_last 13 = .ok (.iconst 1, 1) := by decide +kernel
theorem dX4_last_14 : decode cX4_last 14 = .ok (.invokestatic 55, 3) := by decide +kernel
theorem dX4_last_17 : decode cX4_last 17 = .ok (.ifCond .ne 10, 3) := by decide +kernel
theorem dX4_last_20 : decode cX4_last 20 = .ok (.aload_n 0, 1) := by decide +kernel
theorem dX4_last_21 : decode cX4_last 21 = .ok (.ldc 59, 2) := by decide +kernel
theorem dX4_last_23 : decode cX4_last 23 = .ok (.invokevirtual 60, 3) := by decide +kernel
theorem dX4_last_26 : decode cX4_last 26 = .ok (.ireturn, 1) := by decide +kernel
theorem dX4_last_27 : decode cX4_last 27 = .ok (.aload_n 0, 1) := by decide +kernel
theorem dX4_last_28 : decode cX4_last 28 = .ok (.getfield 12, 3) := by decide +kernel
theorem dX4_last_31 : decode cX4_last 31 = .ok (.iload_n 1, 1) := by decide +kernel
theorem dX4_last_32 : decode cX4_last 32 = .ok (.invokevirtual 201, 3) := by decide +kernel
theorem dX4_last_35 : decode cX4_last 35 = .ok (.ifCond .ne 10, 3) := by decide +kernel
theorem dX4_last_38 : decode cX4_last 38 = .ok (.aload_n 0, 1) := by decide +kernel
theorem dX4_last_39 : decode cX4_last 39 = .ok (.ldc 125, 2) := by decide +kernel
theorem dX4_last_41 : decode cX4_last 41 = .ok (.invokevirtual 60, 3) := by decide +kernel
theorem dX4_last_44 : decode cX4_last 44 = .ok (.ireturn, 1) := by decide +kernel
theorem dX4_last_45 : decode cX4_last 45 = .ok (.aload_n 0, 1) := by decide +kernel
theorem dX4_last_46 : decode cX4_last 46 = .ok (.getfield 12, 3) := by decide +kernel
theorem dX4_last_49 : decode cX4_last 49 = .ok (.iload_n 1, 1) := by decide +kernel
theorem dX4_last_50 : decode cX4_last 50 = .ok (.invokevirtual 220, 3) := by decide +kernel
theorem dX4_last_53 : decode cX4_last 53 = .ok (.istore_n 3, 1) := by decide +kernel
theorem dX4_last_54 : decode cX4_last 54 = .ok (.iload_n 3, 1) := by decide +kernel
theorem dX4_last_55 : decode cX4_last 55 = .ok (.ifCond .ge 10, 3) := by decide +kernel
theorem dX4_last_58 : decode cX4_last 58 = .ok (.aload_n 0, 1) := by decide +kernel
theorem dX4_last_59 : decode cX4_last 59 = .ok (.ldc 146, 2) := by decide +kernel
theorem dX4_last_61 : decode cX4_last 61 = .ok (.invokevirtual 60, 3) := by decide +kernel
theorem dX4_last_64 : decode cX4_last 64 = .ok (.ireturn, 1) := by decide +kernel
theorem dX4_last_65 : decode cX4_last 65 = .ok (.iload_n 2, 1) := by decide +kernel
theorem dX4_last_66 : decode cX4_last 66 = .ok (.ifCond .ne 15, 3) := by decide +kernel
theorem dX4_last_69 : decode cX4_last 69 = .ok (.aload_n 0, 1) := by decide +kernel
theorem dX4_last_70 : decode cX4_last 70 = .ok (.getfield 12, 3) := by decide +kernel
theorem dX4_last_73 : decode cX4_last 73 = .ok (.iload_n 1, 1) := by decide +kernel
theorem dX4_last_74 : decode cX4_last 74 = .ok (.iload_n 3, 1) := by decide +kernel
theorem dX4_last_75 : decode cX4_last 75 = .ok (.invokevirtual 223, 3) := by decide +kernel
theorem dX4_last_78 : decode cX4_last 78 = .ok (.goto 4, 3) := by decide +kernel
theorem dX4_last_81 : decode cX4_last 81 = .ok (.iload_n 3, 1) := by decide +kernel
theorem dX4_last_82 : decode cX4_last 82 = .ok (.ireturn, 1) := by decide +kernel
def mX4_last_b20   (V : jMem) : Option (Int32 × jMem) := ((mX4_refuse (-1000000001 : Int32) V).bind (fun (p1 : Int32 × jMem) => (some (p1.1, p1.2))))
set_option maxHeartbeats 4000000 in
set_option maxRecDepth 20000 in
theorem tX4_last_b20 {l : Launch} {Z : jZ} {q : Nat → Nat} {V : jMem} {r : Int32} {V' : jMem}    (hm : mX4_last_b20 V = some (r, V')) : J l Z RX4 "last" cX4_last 4 (some .int) 7 0 0 (fun r' w => r' = some (.int r) ∧ w = jw Z q V' dX) 20 [(0, .ref (q 0))] [] (jw Z q V dX) 0 0 := by
  unfold mX4_last_b20 at hm
  refine j_aload_n dX4_last_20 rfl rfl ?_
  refine j_ldc dX4_last_21 rfl wX4_59 ?_
  obtain ⟨p1, ep1, hm⟩ := jb_of hm
  refine o_callV_i kX4_60 dX4_last_23 rfl (tX4_refuse  ep1) rfl rfl rfl rfl rfl (Nat.le_of_ble_eq_true rfl) (by decide) ?_
  exact j_ireturn dX4_last_26 rfl rfl ⟨Nat.le_refl _, Nat.le_refl _⟩ (jf_m (fun z => .int z) hm)
def mX4_last (a1 : Int32) (a2 : Int32) (V : jMem) : Option (Int32 × jMem) := (if (mX0_hasStrip a1 V) = (0 : Int32) then (mX4_last_b20 V) else (if (mX4_isWithin a2 (0 : Int32) (1 : Int32)) = (0 : Int32) then (mX4_last_b20 V) else ((mX0_canBe a1 V).bind (fun (r3 : Int32) => (if r3 = (0 : Int32) then ((mX4_refuse (-1000000005 : Int32) V).bind (fun (p10 : Int32 × jMem) => (some (p10.1, p10.2)))) else ((mX0_dearestLast a1 V).bind (fun (r5 : Int32) => (if (0 : Int32) ≤ r5 then (if a2 = (0 : Int32) then ((mX0_priceAsLast a1 r5 V).bind (fun (r8 : Int32) => (some (r8, V)))) else (some (r5, V))) else ((mX4_refuse (-1000000004 : Int32) V).bind (fun (p9 : Int32 × jMem) => (some (p9.1, p9.2))))))))))))
set_option maxHeartbeats 4000000 in
set_option maxRecDepth 20000 in
theorem tX4_last {l : Launch} {Z : jZ} {q : Nat → Nat} {a1 : Int32} {a2 : Int32} {V : jMem} {r : Int32} {V' : jMem}  (hm : mX4_last a1 a2 V = some (r, V')) : CtD l Z yX4_last cX4_last 4 (some .int) 7 q dX [.ref (q 0), .int a1, .int a2] V (some (.int r)) V' := by
  refine Ct_of (L := [(0, .ref (q 0)), (1, .int a1), (2, .int a2)]) (own := RX4) (nm := "last") rfl rfl (by decide +kernel) rfl (Nat.le_of_ble_eq_true rfl) ?_
  unfold mX4_last at hm
  refine j_aload_n dX4_last_0 rfl rfl ?_
  refine m_getr (k := 0) (r := 1) fX4_12 dX4_last_1 rfl rfl rfl ?_
  refine j_iload_n dX4_last_4 rfl rfl ?_
  refine o_callV_i kX4_189 dX4_last_5 rfl (tX0_hasStrip  rfl) rfl rfl rfl rfl rfl (Nat.le_of_ble_eq_true rfl) (by decide) ?_
  refine j_if_eq (tgt := 20) dX4_last_8 rfl (by decide) (fun c1 => ?_) (fun c1 => ?_)
  · have hm := jif_pos c1 hm
    refine j_sub (L' := [(0, _)]) [0] rfl ?_
    exact tX4_last_b20    hm
  · have hm := jif_neg c1 hm
    refine j_iload_n dX4_last_11 rfl rfl ?_
    refine j_iconst (v := 0) dX4_last_12 rfl (by decide) ?_
    refine j_iconst (v := 1) dX4_last_13 rfl (by decide) ?_
    refine o_callS_i kX4_55 dX4_last_14 rfl (tX4_isWithin  rfl) rfl rfl (Nat.le_of_ble_eq_true rfl) (by decide) ?_
    refine j_if_ne (tgt := 27) dX4_last_17 rfl (by decide) (fun c2 => ?_) (fun c2 => ?_)
    · have hm := jif_neg c2 hm
      refine j_aload_n dX4_last_27 rfl rfl ?_
      refine m_getr (k := 0) (r := 1) fX4_12 dX4_last_28 rfl rfl rfl ?_
      refine j_iload_n dX4_last_31 rfl rfl ?_
      obtain ⟨r3, er3, hm⟩ := jb_of hm
      refine o_callV_i kX4_201 dX4_last_32 rfl (tX0_canBe  er3) rfl rfl rfl rfl rfl (Nat.le_of_ble_eq_true rfl) (by decide) ?_
      refine j_if_ne (tgt := 45) dX4_last_35 rfl (by decide) (fun c4 => ?_) (fun c4 => ?_)
      · have hm := jif_neg c4 hm
        refine j_aload_n dX4_last_45 rfl rfl ?_
        refine m_getr (k := 0) (r := 1) fX4_12 dX4_last_46 rfl rfl rfl ?_
        refine j_iload_n dX4_last_49 rfl rfl ?_
        obtain ⟨r5, er5, hm⟩ := jb_of hm
        refine o_callV_i kX4_220 dX4_last_50 rfl (tX0_dearestLast  er5) rfl rfl rfl rfl rfl (Nat.le_of_ble_eq_true rfl) (by decide) ?_
        refine j_istore_n (i := 3) (L' := [(3, _), (0, _), (1, _), (2, _)]) dX4_last_53 rfl rfl (by decide) rfl ?_
        refine j_iload_n dX4_last_54 rfl rfl ?_
        refine j_if_ge (tgt := 65) dX4_last_55 rfl (by decide) (fun c6 => ?_) (fun c6 => ?_)
        · have hm := jif_pos c6 hm
          refine j_iload_n dX4_last_65 rfl rfl ?_
          refine j_if_ne (tgt := 81) dX4_last_66 rfl (by decide) (fun c7 => ?_) (fun c7 => ?_)
          · have hm := jif_neg c7 hm
            refine j_iload_n dX4_last_81 rfl rfl ?_
            exact j_ireturn dX4_last_82 rfl rfl ⟨Nat.le_refl _, Nat.le_refl _⟩ (jf_m (fun z => .int z) hm)
          · have hm := jif_pos c7 hm
            refine j_aload_n dX4_last_69 rfl rfl ?_
            refine m_getr (k := 0) (r := 1) fX4_12 dX4_last_70 rfl rfl rfl ?_
            refine j_iload_n dX4_last_73 rfl rfl ?_
            refine j_iload_n dX4_last_74 rfl rfl ?_
            obtain ⟨r8, er8, hm⟩ := jb_of hm
            refine o_callV_i kX4_223 dX4_last_75 rfl (tX0_priceAsLast  er8) rfl rfl rfl rfl rfl (Nat.le_of_ble_eq_true rfl) (by decide) ?_
            refine j_goto (tgt := 82) dX4_last_78 (by decide) ?_
            exact j_ireturn dX4_last_82 rfl rfl ⟨Nat.le_refl _, Nat.le_refl _⟩ (jf_m (fun z => .int z) hm)
        · have hm := jif_neg c6 hm
          refine j_aload_n dX4_last_58 rfl rfl ?_
          refine j_ldc dX4_last_59 rfl wX4_146 ?_
          obtain ⟨p9, ep9, hm⟩ := jb_of hm
          refine o_callV_i kX4_60 dX4_last_61 rfl (tX4_refuse  ep9) rfl rfl rfl rfl rfl (Nat.le_of_ble_eq_true rfl) (by decide) ?_
          exact j_ireturn dX4_last_64 rfl rfl ⟨Nat.le_refl _, Nat.le_refl _⟩ (jf_m (fun z => .int z) hm)
      · have hm := jif_pos c4 hm
        refine j_aload_n dX4_last_38 rfl rfl ?_
        refine j_ldc dX4_last_39 rfl wX4_125 ?_
        obtain ⟨p10, ep10, hm⟩ := jb_of hm
        refine o_callV_i kX4_60 dX4_last_41 rfl (tX4_refuse  ep10) rfl rfl rfl rfl rfl (Nat.le_of_ble_eq_true rfl) (by decide) ?_
        exact j_ireturn dX4_last_44 rfl rfl ⟨Nat.le_refl _, Nat.le_refl _⟩ (jf_m (fun z => .int z) hm)
    · have hm := jif_pos c2 hm
      refine j_sub (L' := [(0, _)]) [0] rfl ?_
      exact tX4_last_b20    hm
theorem dX4_giveUp_0 : decode cX4_giveUp 0 = .ok (.iload_n 1, 1) := by decide +kernel
theorem dX4_giveUp_1 : decode cX4_giveUp 1 = .ok (.iconst 0, 1) := by decide +kernel
theorem dX4_giveUp_2 : decode cX4_giveUp 2 = .ok (.ldc 226, 2) := by decide +kernel
theorem dX4_giveUp_4 : decode cX4_giveUp 4 = .ok (.invokestatic 55, 3) := by decide +kernel
theorem dX4_giveUp_7 : decode cX4_giveUp 7 = .ok (.ifCond .ne 10, 3) := by decide +kernel
theorem dX4_giveUp_10 : decode cX4_giveUp 10 = .ok (.aload_n 0, 1) := by decide +kernel
theorem dX4_giveUp_11 : decode cX4_giveUp 11 = .ok (.ldc 59, 2) := by decide +kernel
theorem dX4_giveUp_13 : decode cX4_giveUp 13 = .ok (.invokevirtual 60, 3) := by decide +kernel
theorem dX4_giveUp_16 : decode cX4_giveUp 16 = .ok (.ireturn, 1) := by decide +kernel
theorem dX4_giveUp_17 : decode cX4_giveUp 17 = .ok (.iconst 0, 1) := by decide +kernel
theorem dX4_giveUp_18 : decode cX4_giveUp 18 = .ok (.istore_n 2, 1) := by decide +kernel
theorem dX4_giveUp_19 : decode cX4_giveUp 19 = .ok (.iload_n 2, 1) := by decide +kernel
theorem dX4_giveUp_20 : decode cX4_giveUp 20 = .ok (.aload_n 0, 1) := by decide +kernel
theorem dX4_giveUp_21 : decode cX4_giveUp 21 = .ok (.getfield 12, 3) := by decide +kernel
theorem dX4_giveUp_24 : decode cX4_giveUp 24 = .ok (.getfield 183, 3) := by decide +kernel
theorem dX4_giveUp_27 : decode cX4_giveUp 27 = .ok (.if_icmp .ge 28, 3) := by decide +kernel
theorem dX4_giveUp_30 : decode cX4_giveUp 30 = .ok (.aload_n 0, 1) := by decide +kernel
theorem dX4_giveUp_31 : decode cX4_giveUp 31 = .ok (.iload_n 2, 1) := by decide +kernel
theorem dX4_giveUp_32 : decode cX4_giveUp 32 = .ok (.invokevirtual 204, 3) := by decide +kernel
theorem dX4_giveUp_35 : decode cX4_giveUp 35 = .ok (.ifCond .ne 14, 3) := by decide +kernel
theorem dX4_giveUp_38 : decode cX4_giveUp 38 = .ok (.aload_n 0, 1) := by decide +kernel
theorem dX4_giveUp_39 : decode cX4_giveUp 39 = .ok (.iload_n 2, 1) := by decide +kernel
theorem dX4_giveUp_40 : decode cX4_giveUp 40 = .ok (.invokevirtual 207, 3) := by decide +kernel
theorem dX4_giveUp_43 : decode cX4_giveUp 43 = .ok (.iload_n 1, 1) := by decide +kernel
theorem dX4_giveUp_44 : decode cX4_giveUp 44 = .ok (.if_icmp .gt 5, 3) := by decide +kernel
theorem dX4_giveUp_47 : decode cX4_giveUp 47 = .ok (.iconst 0, 1) := by decide +kernel
theorem dX4_giveUp_48 : decode cX4_giveUp 48 = .ok (.ireturn, 1) := by decide +kernel
theorem dX4_giveUp_49 : decode cX4_giveUp 49 = .ok (.iinc 2 1, 3) := by decide +kernel
theorem dX4_giveUp_52 : decode cX4_giveUp 52 = .ok (.goto (-33), 3) := by decide +kernel
theorem dX4_giveUp_55 : decode cX4_giveUp 55 = .ok (.iconst 1, 1) := by decide +kernel
theorem dX4_giveUp_56 : decode cX4_giveUp 56 = .ok (.ireturn, 1) := by decide +kernel
def mX4_giveUp_b49  (k19 : Int32 → Int32 → jMem → Option (Int32 × jMem)) (a1 : Int32) (a2 : Int32) (V : jMem) : Option (Int32 × jMem) := (k19 a1 (a2 + (1 : Int32)) V)
set_option maxHeartbeats 4000000 in
set_option maxRecDepth 20000 in
theorem tX4_giveUp_b49 {l : Launch} {Z : jZ} {q : Nat → Nat} {k19 : Int32 → Int32 → jMem → Option (Int32 × jMem)} {a1 : Int32} {a2 : Int32} {V : jMem} {r : Int32} {V' : jMem}   (hk19 : ∀ (a1 : Int32) (a2 : Int32) (V : jMem), k19 a1 a2 V = some (r, V') → J l Z RX4 "giveUp" cX4_giveUp 3 (some .int) 7 0 0 (fun r' w => r' = some (.int r) ∧ w = jw Z q V' dX) 19 [(0, .ref (q 0)), (1, .int a1), (2, .int a2)] [] (jw Z q V dX) 0 0) (hm : mX4_giveUp_b49 k19 a1 a2 V = some (r, V')) : J l Z RX4 "giveUp" cX4_giveUp 3 (some .int) 7 0 0 (fun r' w => r' = some (.int r) ∧ w = jw Z q V' dX) 49 [(0, .ref (q 0)), (1, .int a1), (2, .int a2)] [] (jw Z q V dX) 0 0 := by
  unfold mX4_giveUp_b49 at hm
  refine j_iinc (v := (a2 + (1 : Int32))) (L' := [(2, _), (0, _), (1, _)]) dX4_giveUp_49 rfl rfl rfl (by decide) rfl ?_
  refine j_goto (tgt := 19) dX4_giveUp_52 (by decide) ?_
  refine j_sub (L' := [(0, _), (1, _), (2, _)]) [1, 2, 0] rfl ?_
  exact hk19 _ _ _  hm
def mX4_giveUp_b19   : Nat → Int32 → Int32 → jMem → Option (Int32 × jMem)
  | 0, _, _, _ => none
  | n + 1, a1, a2, V => (if (V.1 1 14) ≤ a2 then (some ((1 : Int32), V)) else ((mX4_hindranceOf a2 V).bind (fun (r2 : Int32) => (if r2 = (0 : Int32) then ((mX4_leastCost a2 V).bind (fun (p4 : Int32 × jMem) => (if a1 < p4.1 then (mX4_giveUp_b49 (mX4_giveUp_b19 n) a1 a2 p4.2) else (some ((0 : Int32), p4.2))))) else (mX4_giveUp_b49 (mX4_giveUp_b19 n) a1 a2 V)))))
set_option maxHeartbeats 4000000 in
set_option maxRecDepth 20000 in
theorem tX4_giveUp_b19 {l : Launch} {Z : jZ} {q : Nat → Nat}  {r : Int32} {V' : jMem}   (n : Nat) : ∀ (a1 : Int32) (a2 : Int32) (V : jMem), mX4_giveUp_b19 n a1 a2 V = some (r, V') → J l Z RX4 "giveUp" cX4_giveUp 3 (some .int) 7 0 0 (fun r' w => r' = some (.int r) ∧ w = jw Z q V' dX) 19 [(0, .ref (q 0)), (1, .int a1), (2, .int a2)] [] (jw Z q V dX) 0 0 := by
  induction n with
  | zero => intro a1 a2 V hm; cases hm
  | succ n ih =>
    intro a1 a2 V hm
    rw [mX4_giveUp_b19] at hm
    refine j_iload_n dX4_giveUp_19 rfl rfl ?_
    refine j_aload_n dX4_giveUp_20 rfl rfl ?_
    refine m_getr (k := 0) (r := 1) fX4_12 dX4_giveUp_21 rfl rfl rfl ?_
    refine m_geti (k := 14) fX4_183 dX4_giveUp_24 rfl rfl rfl ?_
    refine j_icmp_ge (tgt := 55) dX4_giveUp_27 rfl (by decide) (fun c1 => ?_) (fun c1 => ?_)
    · have hm := jif_pos c1 hm
      refine j_iconst (v := 1) dX4_giveUp_55 rfl (by decide) ?_
      exact j_ireturn dX4_giveUp_56 rfl rfl ⟨Nat.le_refl _, Nat.le_refl _⟩ (jf_m (fun z => .int z) hm)
    · have hm := jif_neg c1 hm
      refine j_aload_n dX4_giveUp_30 rfl rfl ?_
      refine j_iload_n dX4_giveUp_31 rfl rfl ?_
      obtain ⟨r2, er2, hm⟩ := jb_of hm
      refine o_callV_i kX4_204 dX4_giveUp_32 rfl (tX4_hindranceOf  er2) rfl rfl rfl rfl rfl (Nat.le_of_ble_eq_true rfl) (by decide) ?_
      refine j_if_ne (tgt := 49) dX4_giveUp_35 rfl (by decide) (fun c3 => ?_) (fun c3 => ?_)
      · have hm := jif_neg c3 hm
        exact tX4_giveUp_b49   ih hm
      · have hm := jif_pos c3 hm
        refine j_aload_n dX4_giveUp_38 rfl rfl ?_
        refine j_iload_n dX4_giveUp_39 rfl rfl ?_
        obtain ⟨p4, ep4, hm⟩ := jb_of hm
        refine o_callV_i kX4_207 dX4_giveUp_40 rfl (tX4_leastCost  ep4) rfl rfl rfl rfl rfl (Nat.le_of_ble_eq_true rfl) (by decide) ?_
        refine j_iload_n dX4_giveUp_43 rfl rfl ?_
        refine j_icmp_gt (tgt := 49) dX4_giveUp_44 rfl (by decide) (fun c5 => ?_) (fun c5 => ?_)
        · have hm := jif_pos c5 hm
          exact tX4_giveUp_b49   ih hm
        · have hm := jif_neg c5 hm
          refine j_iconst (v := 0) dX4_giveUp_47 rfl (by decide) ?_
          exact j_ireturn dX4_giveUp_48 rfl rfl ⟨Nat.le_refl _, Nat.le_refl _⟩ (jf_m (fun z => .int z) hm)
def mX4_giveUp (a1 : Int32) (V : jMem) : Option (Int32 × jMem) := (if (mX4_isWithin a1 (0 : Int32) (9999999 : Int32)) = (0 : Int32) then ((mX4_refuse (-1000000001 : Int32) V).bind (fun (p2 : Int32 × jMem) => (some (p2.1, p2.2)))) else (mX4_giveUp_b19 2000 a1 (0 : Int32) V))
set_option maxHeartbeats 4000000 in
set_option maxRecDepth 20000 in
theorem tX4_giveUp {l : Launch} {Z : jZ} {q : Nat → Nat} {a1 : Int32} {V : jMem} {r : Int32} {V' : jMem}  (hm : mX4_giveUp a1 V = some (r, V')) : CtD l Z yX4_giveUp cX4_giveUp 3 (some .int) 7 q dX [.ref (q 0), .int a1] V (some (.int r)) V' := by
  refine Ct_of (L := [(0, .ref (q 0)), (1, .int a1)]) (own := RX4) (nm := "giveUp") rfl rfl (by decide +kernel) rfl (Nat.le_of_ble_eq_true rfl) ?_
  unfold mX4_giveUp at hm
  refine j_iload_n dX4_giveUp_0 rfl rfl ?_
  refine j_iconst (v := 0) dX4_giveUp_1 rfl (by decide) ?_
  refine j_ldc dX4_giveUp_2 rfl wX4_226 ?_
  refine o_callS_i kX4_55 dX4_giveUp_4 rfl (tX4_isWithin  rfl) rfl rfl (Nat.le_of_ble_eq_true rfl) (by decide) ?_
  refine j_if_ne (tgt := 17) dX4_giveUp_7 rfl (by decide) (fun c1 => ?_) (fun c1 => ?_)
  · have hm := jif_neg c1 hm
    refine j_iconst (v := 0) dX4_giveUp_17 rfl (by decide) ?_
    refine j_istore_n (i := 2) (L' := [(2, _), (0, _), (1, _)]) dX4_giveUp_18 rfl rfl (by decide) rfl ?_
    refine j_sub (L' := [(0, _), (1, _), (2, _)]) [1, 2, 0] rfl ?_
    exact tX4_giveUp_b19   _ _ _ _  hm
  · have hm := jif_pos c1 hm
    refine j_aload_n dX4_giveUp_10 rfl rfl ?_
    refine j_ldc dX4_giveUp_11 rfl wX4_59 ?_
    obtain ⟨p2, ep2, hm⟩ := jb_of hm
    refine o_callV_i kX4_60 dX4_giveUp_13 rfl (tX4_refuse  ep2) rfl rfl rfl rfl rfl (Nat.le_of_ble_eq_true rfl) (by decide) ?_
    exact j_ireturn dX4_giveUp_16 rfl rfl ⟨Nat.le_refl _, Nat.le_refl _⟩ (jf_m (fun z => .int z) hm)
theorem dX4_rights_0 : decode cX4_rights 0 = .ok (.aload_n 0, 1) := by decide +kernel
theorem dX4_rights_1 : decode cX4_rights 1 = .ok (.getfield 12, 3) := by decide +kernel
theorem dX4_rights_4 : decode cX4_rights 4 = .ok (.iload_n 1, 1) := by decide +kernel
theorem dX4_rights_5 : decode cX4_rights 5 = .ok (.invokevirtual 189, 3) := by decide +kernel
theorem dX4_rights_8 : decode cX4_rights 8 = .ok (.ifCond .ne 10, 3) := by decide +kernel
theorem dX4_rights_11 : decode cX4_rights 11 = .ok (.aload_n 0, 1) := by decide +kernel
theorem dX4_rights_12 : decode cX4_rights 12 = .ok (.ldc 59, 2) := by decide +kernel
theorem dX4_rights_14 : decode cX4_rights 14 = .ok (.invokevirtual 60, 3) := by decide +kernel
theorem dX4_rights_17 : decode cX4_rights 17 = .ok (.ireturn, 1) := by decide +kernel
theorem dX4_rights_18 : decode cX4_rights 18 = .ok (.aload_n 0, 1) := by decide +kernel
theorem dX4_rights_19 : decode cX4_rights 19 = .ok (.getfield 12, 3) := by decide +kernel
theorem dX4_rights_22 : decode cX4_rights 22 = .ok (.iload_n 1, 1) := by decide +kernel
theorem dX4_rights_23 : decode cX4_rights 23 = .ok (.invokevirtual 201, 3) := by decide +kernel
theorem dX4_rights_26 : decode cX4_rights 26 = .ok (.ifCond .ne 10, 3) := by decide +kernel
theorem dX4_rights_29 : decode cX4_rights 29 = .ok (.aload_n 0, 1) := by decide +kernel
theorem dX4_rights_30 : decode cX4_rights 30 = .ok (.ldc 125, 2) := by decide +kernel
theorem dX4_rights_32 : decode cX4_rights 32 = .ok (.invokevirtual 60, 3) := by decide +kernel
theorem dX4_rights_35 : decode cX4_rights 35 = .ok (.ireturn, 1) := by decide +kernel
theorem dX4_rights_36 : decode cX4_rights 36 = .ok (.aload_n 0, 1) := by decide +kernel
theorem dX4_rights_37 : decode cX4_rights 37 = .ok (.getfield 12, 3) := by decide +kernel
theorem dX4_rights_40 : decode cX4_rights 40 = .ok (.aload_n 0, 1) := by decide +kernel
theorem dX4_rights_41 : decode cX4_rights 41 = .ok (.getfield 12, 3) := by decide +kernel
theorem dX4_rights_44 : decode cX4_rights 44 = .ok (.getfield 192, 3) := by decide +kernel
theorem dX4_rights_47 : decode cX4_rights 47 = .ok (.iload_n 1, 1) := by decide +kernel
theorem dX4_rights_48 : decode cX4_rights 48 = .ok (.iaload, 1) := by decide +kernel
theorem dX4_rights_49 : decode cX4_rights 49 = .ok (.invokevirtual 177, 3) := by decide +kernel
theorem dX4_rights_52 : decode cX4_rights 52 = .ok (.istore_n 2, 1) := by decide +kernel
theorem dX4_rights_53 : decode cX4_rights 53 = .ok (.aload_n 0, 1) := by decide +kernel
theorem dX4_rights_54 : decode cX4_rights 54 = .ok (.getfield 12, 3) := by decide +kernel
theorem dX4_rights_57 : decode cX4_rights 57 = .ok (.getfield 195, 3) := by decide +kernel
theorem dX4_rights_60 : decode cX4_rights 60 = .ok (.iload_n 1, 1) := by decide +kernel
theorem dX4_rights_61 : decode cX4_rights 61 = .ok (.iaload, 1) := by decide +kernel
theorem dX4_rights_62 : decode cX4_rights 62 = .ok (.istore_n 3, 1) := by decide +kernel
theorem dX4_rights_63 : decode cX4_rights 63 = .ok (.iconst 0, 1) := by decide +kernel
theorem dX4_rights_64 : decode cX4_rights 64 = .ok (.istore 4, 2) := by decide +kernel
theorem dX4_rights_66 : decode cX4_rights 66 = .ok (.iload 4, 2) := by decide +kernel
theorem dX4_rights_68 : decode cX4_rights 68 = .ok (.aload_n 0, 1) := by decide +kernel
theorem dX4_rights_69 : decode cX4_rights 69 = .ok (.getfield 12, 3) := by decide +kernel
theorem dX4_rights_72 : decode cX4_rights 72 = .ok (.getfield 64, 3) := by decide +kernel
theorem dX4_rights_75 : decode cX4_rights 75 = .ok (.if_icmp .ge 40, 3) := by decide +kernel
theorem dX4_rights_78 : decode cX4_rights 78 = .ok (.iload 4, 2) := by decide +kernel
theorem dX4_rights_80 : decode cX4_rights 80 = .ok (.iload_n 2, 1) := by decide +kernel
theorem dX4_rights_81 : decode cX4_rights 81 = .ok (.invokestatic 135, 3) := by decide +kernel
theorem dX4_rights_84 : decode cX4_rights 84 = .ok (.ifCond .eq 25, 3) := by decide +kernel
theorem dX4_rights_87 : decode cX4_rights 87 = .ok (.aload_n 0, 1) := by decide +kernel
theorem dX4_rights_88 : decode cX4_rights 88 = .ok (.getfield 12, 3) := by decide +kernel
theorem dX4_rights_91 : decode cX4_rights 91 = .ok (.iload 4, 2) := by decide +kernel
theorem dX4_rights_93 : decode cX4_rights 93 = .ok (.invokevirtual 91, 3) := by decide +kernel
theorem dX4_rights_96 : decode cX4_rights 96 = .ok (.istore 5, 2) := by decide +kernel
theorem dX4_rights_98 : decode cX4_rights 98 = .ok (.iload_n 3, 1) := by decide +kernel
theorem dX4_rights_99 : decode cX4_rights 99 = .ok (.iload 5, 2) := by decide +kernel
theorem dX4_rights_101 : decode cX4_rights 101 = .ok (.invokestatic 227, 3) := by decide +kernel
theorem dX4_rights_104 : decode cX4_rights 104 = .ok (.iload 5, 2) := by decide +kernel
theorem dX4_rights_106 : decode cX4_rights 106 = .ok (.iadd, 1) := by decide +kernel
theorem dX4_rights_107 : decode cX4_rights 107 = .ok (.iadd, 1) := by decide +kernel
theorem dX4_rights_108 : decode cX4_rights 108 = .ok (.istore_n 3, 1) := by decide +kernel
theorem dX4_rights_109 : decode cX4_rights 109 = .ok (.iinc 4 1, 3) := by decide +kernel
theorem dX4_rights_112 : decode cX4_rights 112 = .ok (.goto (-46), 3) := by decide +kernel
theorem dX4_rights_115 : decode cX4_rights 115 = .ok (.iload_n 3, 1) := by decide +kernel
theorem dX4_rights_116 : decode cX4_rights 116 = .ok (.ireturn, 1) := by decide +kernel
def mX4_rights_b109  (k66 : Int32 → Int32 → Int32 → jMem → Option (Int32 × jMem)) (a2 : Int32) (a3 : Int32) (a4 : Int32) (V : jMem) : Option (Int32 × jMem) := (k66 a2 a3 (a4 + (1 : Int32)) V)
set_option maxHeartbeats 4000000 in
set_option maxRecDepth 20000 in
theorem tX4_rights_b109 {l : Launch} {Z : jZ} {q : Nat → Nat} {k66 : Int32 → Int32 → Int32 → jMem → Option (Int32 × jMem)} {a2 : Int32} {a3 : Int32} {a4 : Int32} {V : jMem} {r : Int32} {V' : jMem}   (hk66 : ∀ (a2 : Int32) (a3 : Int32) (a4 : Int32) (V : jMem), k66 a2 a3 a4 V = some (r, V') → J l Z RX4 "rights" cX4_rights 6 (some .int) 6 0 0 (fun r' w => r' = some (.int r) ∧ w = jw Z q V' dX) 66 [(0, .ref (q 0)), (2, .int a2), (3, .int a3), (4, .int a4)] [] (jw Z q V dX) 0 0) (hm : mX4_rights_b109 k66 a2 a3 a4 V = some (r, V')) : J l Z RX4 "rights" cX4_rights 6 (some .int) 6 0 0 (fun r' w => r' = some (.int r) ∧ w = jw Z q V' dX) 109 [(0, .ref (q 0)), (2, .int a2), (3, .int a3), (4, .int a4)] [] (jw Z q V dX) 0 0 := by
  unfold mX4_rights_b109 at hm
  refine j_iinc (v := (a4 + (1 : Int32))) (L' := [(4, _), (0, _), (2, _), (3, _)]) dX4_rights_109 rfl rfl rfl (by decide) rfl ?_
  refine j_goto (tgt := 66) dX4_rights_112 (by decide) ?_
  refine j_sub (L' := [(0, _), (2, _), (3, _), (4, _)]) [1, 2, 3, 0] rfl ?_
  exact hk66 _ _ _ _  hm
def mX4_rights_b66   : Nat → Int32 → Int32 → Int32 → jMem → Option (Int32 × jMem)
  | 0, _, _, _, _ => none
  | n + 1, a2, a3, a4, V => (if (V.1 1 0) ≤ a4 then (some (a3, V)) else (if (mX4_isIn a4 a2) = (0 : Int32) then (mX4_rights_b109 (mX4_rights_b66 n) a2 a3 a4 V) else ((mX0_priceNow a4 V).bind (fun (r3 : Int32) => (mX4_rights_b109 (mX4_rights_b66 n) a2 (a3 + ((mX4_paperCost r3) + r3)) a4 V)))))
set_option maxHeartbeats 4000000 in
set_option maxRecDepth 20000 in
theorem tX4_rights_b66 {l : Launch} {Z : jZ} {q : Nat → Nat}  {r : Int32} {V' : jMem}   (n : Nat) : ∀ (a2 : Int32) (a3 : Int32) (a4 : Int32) (V : jMem), mX4_rights_b66 n a2 a3 a4 V = some (r, V') → J l Z RX4 "rights" cX4_rights 6 (some .int) 6 0 0 (fun r' w => r' = some (.int r) ∧ w = jw Z q V' dX) 66 [(0, .ref (q 0)), (2, .int a2), (3, .int a3), (4, .int a4)] [] (jw Z q V dX) 0 0 := by
  induction n with
  | zero => intro a2 a3 a4 V hm; cases hm
  | succ n ih =>
    intro a2 a3 a4 V hm
    rw [mX4_rights_b66] at hm
    refine j_iload dX4_rights_66 rfl rfl ?_
    refine j_aload_n dX4_rights_68 rfl rfl ?_
    refine m_getr (k := 0) (r := 1) fX4_12 dX4_rights_69 rfl rfl rfl ?_
    refine m_geti (k := 0) fX4_64 dX4_rights_72 rfl rfl rfl ?_
    refine j_icmp_ge (tgt := 115) dX4_rights_75 rfl (by decide) (fun c1 => ?_) (fun c1 => ?_)
    · have hm := jif_pos c1 hm
      refine j_iload_n dX4_rights_115 rfl rfl ?_
      exact j_ireturn dX4_rights_116 rfl rfl ⟨Nat.le_refl _, Nat.le_refl _⟩ (jf_m (fun z => .int z) hm)
    · have hm := jif_neg c1 hm
      refine j_iload dX4_rights_78 rfl rfl ?_
      refine j_iload_n dX4_rights_80 rfl rfl ?_
      refine o_callS_i kX4_135 dX4_rights_81 rfl (tX4_isIn  rfl) rfl rfl (Nat.le_of_ble_eq_true rfl) (by decide) ?_
      refine j_if_eq (tgt := 109) dX4_rights_84 rfl (by decide) (fun c2 => ?_) (fun c2 => ?_)
      · have hm := jif_pos c2 hm
        exact tX4_rights_b109   ih hm
      · have hm := jif_neg c2 hm
        refine j_aload_n dX4_rights_87 rfl rfl ?_
        refine m_getr (k := 0) (r := 1) fX4_12 dX4_rights_88 rfl rfl rfl ?_
        refine j_iload dX4_rights_91 rfl rfl ?_
        obtain ⟨r3, er3, hm⟩ := jb_of hm
        refine o_callV_i kX4_91 dX4_rights_93 rfl (tX0_priceNow  er3) rfl rfl rfl rfl rfl (Nat.le_of_ble_eq_true rfl) (by decide) ?_
        refine j_istore (L' := [(5, _), (0, _), (2, _), (3, _), (4, _)]) dX4_rights_96 rfl (by decide) rfl ?_
        refine j_iload_n dX4_rights_98 rfl rfl ?_
        refine j_iload dX4_rights_99 rfl rfl ?_
        refine o_callS_i kX4_227 dX4_rights_101 rfl (tX4_paperCost  rfl) rfl rfl (Nat.le_of_ble_eq_true rfl) (by decide) ?_
        refine j_iload dX4_rights_104 rfl rfl ?_
        refine j_iadd dX4_rights_106 rfl ?_
        refine j_iadd dX4_rights_107 rfl ?_
        refine j_istore_n (i := 3) (L' := [(3, _), (5, _), (0, _), (2, _), (4, _)]) dX4_rights_108 rfl rfl (by decide) rfl ?_
        refine j_sub (L' := [(0, _), (2, _), (3, _), (4, _)]) [2, 3, 0, 4] rfl ?_
        exact tX4_rights_b109   ih hm
def mX4_rights (a1 : Int32) (V : jMem) : Option (Int32 × jMem) := (if (mX0_hasStrip a1 V) = (0 : Int32) then ((mX4_refuse (-1000000001 : Int32) V).bind (fun (p7 : Int32 × jMem) => (some (p7.1, p7.2)))) else ((mX0_canBe a1 V).bind (fun (r2 : Int32) => (if r2 = (0 : Int32) then ((mX4_refuse (-1000000005 : Int32) V).bind (fun (p6 : Int32 × jMem) => (some (p6.1, p6.2)))) else (jg (jin a1 6) (jl (mX0_freeIn (V.1 9 (Int32.toNatClampNeg a1)) V) (fun (v5 : Int32) => (mX4_rights_b66 2000 v5 (V.1 10 (Int32.toNatClampNeg a1)) (0 : Int32) V))))))))
set_option maxHeartbeats 4000000 in
set_option maxRecDepth 20000 in
theorem tX4_rights {l : Launch} {Z : jZ} {q : Nat → Nat} {a1 : Int32} {V : jMem} {r : Int32} {V' : jMem}  (hm : mX4_rights a1 V = some (r, V')) : CtD l Z yX4_rights cX4_rights 6 (some .int) 6 q dX [.ref (q 0), .int a1] V (some (.int r)) V' := by
  refine Ct_of (L := [(0, .ref (q 0)), (1, .int a1)]) (own := RX4) (nm := "rights") rfl rfl (by decide +kernel) rfl (Nat.le_of_ble_eq_true rfl) ?_
  unfold mX4_rights at hm
  refine j_aload_n dX4_rights_0 rfl rfl ?_
  refine m_getr (k := 0) (r := 1) fX4_12 dX4_rights_1 rfl rfl rfl ?_
  refine j_iload_n dX4_rights_4 rfl rfl ?_
  refine o_callV_i kX4_189 dX4_rights_5 rfl (tX0_hasStrip  rfl) rfl rfl rfl rfl rfl (Nat.le_of_ble_eq_true rfl) (by decide) ?_
  refine j_if_ne (tgt := 18) dX4_rights_8 rfl (by decide) (fun c1 => ?_) (fun c1 => ?_)
  · have hm := jif_neg c1 hm
    refine j_aload_n dX4_rights_18 rfl rfl ?_
    refine m_getr (k := 0) (r := 1) fX4_12 dX4_rights_19 rfl rfl rfl ?_
    refine j_iload_n dX4_rights_22 rfl rfl ?_
    obtain ⟨r2, er2, hm⟩ := jb_of hm
    refine o_callV_i kX4_201 dX4_rights_23 rfl (tX0_canBe  er2) rfl rfl rfl rfl rfl (Nat.le_of_ble_eq_true rfl) (by decide) ?_
    refine j_if_ne (tgt := 36) dX4_rights_26 rfl (by decide) (fun c3 => ?_) (fun c3 => ?_)
    · have hm := jif_neg c3 hm
      refine j_aload_n dX4_rights_36 rfl rfl ?_
      refine m_getr (k := 0) (r := 1) fX4_12 dX4_rights_37 rfl rfl rfl ?_
      refine j_aload_n dX4_rights_40 rfl rfl ?_
      refine m_getr (k := 0) (r := 1) fX4_12 dX4_rights_41 rfl rfl rfl ?_
      refine m_getr (k := 15) (r := 9) fX4_192 dX4_rights_44 rfl rfl rfl ?_
      refine j_iload_n dX4_rights_47 rfl rfl ?_
      obtain ⟨g4, hm⟩ := jg_of hm
      refine o_iald (k := (Int32.toNatClampNeg a1)) rfl dX4_rights_48 rfl rfl (jin_vp g4) ?_
      refine o_callV_i kX4_177 dX4_rights_49 rfl (tX0_freeIn  rfl) rfl rfl rfl rfl rfl (Nat.le_of_ble_eq_true rfl) (by decide) ?_
      obtain ⟨v5, ev5⟩ : ∃ y, y = ((mX0_freeIn (V.1 9 (Int32.toNatClampNeg a1)) V) : Int32) := ⟨_, rfl⟩
      have hm := jl_of hm ev5
      rw [← ev5]
      refine j_istore_n (i := 2) (L' := [(2, _), (0, _), (1, _)]) dX4_rights_52 rfl rfl (by decide) rfl ?_
      refine j_aload_n dX4_rights_53 rfl rfl ?_
      refine m_getr (k := 0) (r := 1) fX4_12 dX4_rights_54 rfl rfl rfl ?_
      refine m_getr (k := 16) (r := 10) fX4_195 dX4_rights_57 rfl rfl rfl ?_
      refine j_iload_n dX4_rights_60 rfl rfl ?_
      refine o_iald (k := (Int32.toNatClampNeg a1)) rfl dX4_rights_61 rfl rfl (jin_vp g4) ?_
      refine j_istore_n (i := 3) (L' := [(3, _), (2, _), (0, _), (1, _)]) dX4_rights_62 rfl rfl (by decide) rfl ?_
      refine j_iconst (v := 0) dX4_rights_63 rfl (by decide) ?_
      refine j_istore (L' := [(4, _), (3, _), (2, _), (0, _), (1, _)]) dX4_rights_64 rfl (by decide) rfl ?_
      refine j_sub (L' := [(0, _), (2, _), (3, _), (4, _)]) [3, 2, 1, 0] rfl ?_
      exact tX4_rights_b66   _ _ _ _ _  hm
    · have hm := jif_pos c3 hm
      refine j_aload_n dX4_rights_29 rfl rfl ?_
      refine j_ldc dX4_rights_30 rfl wX4_125 ?_
      obtain ⟨p6, ep6, hm⟩ := jb_of hm
      refine o_callV_i kX4_60 dX4_rights_32 rfl (tX4_refuse  ep6) rfl rfl rfl rfl rfl (Nat.le_of_ble_eq_true rfl) (by decide) ?_
      exact j_ireturn dX4_rights_35 rfl rfl ⟨Nat.le_refl _, Nat.le_refl _⟩ (jf_m (fun z => .int z) hm)
  · have hm := jif_pos c1 hm
    refine j_aload_n dX4_rights_11 rfl rfl ?_
    refine j_ldc dX4_rights_12 rfl wX4_59 ?_
    obtain ⟨p7, ep7, hm⟩ := jb_of hm
    refine o_callV_i kX4_60 dX4_rights_14 rfl (tX4_refuse  ep7) rfl rfl rfl rfl rfl (Nat.le_of_ble_eq_true rfl) (by decide) ?_
    exact j_ireturn dX4_rights_17 rfl rfl ⟨Nat.le_refl _, Nat.le_refl _⟩ (jf_m (fun z => .int z) hm)
theorem dX4_share_0 : decode cX4_share 0 = .ok (.aload_n 0, 1) := by decide +kernel
theorem dX4_share_1 : decode cX4_share 1 = .ok (.getfield 12, 3) := by decide +kernel
theorem dX4_share_4 : decode cX4_share 4 = .ok (.iload_n 1, 1) := by decide +kernel
theorem dX4_share_5 : decode cX4_share 5 = .ok (.invokevirtual 189, 3) := by decide +kernel
theorem dX4_share_8 : decode cX4_share 8 = .ok (.ifCond .eq 24, 3) := by decide +kernel
theorem dX4_share_11 : decode cX4_share 11 = .ok (.iload_n 2, 1) := by decide +kernel
theorem dX4_share_12 : decode cX4_share 12 = .ok (.iconst 0, 1) := by decide +kernel
theorem dX4_share_13 : decode cX4_share 13 = .ok (.ldc 226, 2) := by decide +kernel
theorem dX4_share_15 : decode cX4_share 15 = .ok (.invokestatic 55, 3) := by decide +kernel
theorem dX4_share_18 : decode cX4_share 18 = .ok (.ifCond .eq 14, 3) := by decide +kernel
theorem dX4_share_21 : decode cX4_share 21 = .ok (.aload_n 0, 1) := by decide +kernel
theorem dX4_share_22 : decode cX4_share 22 = .ok (.getfield 12, 3) := by decide +kernel
theorem dX4_share_25 : decode cX4_share 25 = .ok (.iload_n 3, 1) := by decide +kernel
theorem dX4_share_26 : decode cX4_share 26 = .ok (.invokevirtual 73, 3) := by decide +kernel
theorem dX4_share_29 : decode cX4_share 29 = .ok (.ifCond .ne 10, 3) := by decide +kernel
theorem dX4_share_32 : decode cX4_share 32 = .ok (.aload_n 0, 1) := by decide +kernel
theorem dX4_share_33 : decode cX4_share 33 = .ok (.ldc 59, 2) := by decide +kernel
theorem dX4_share_35 : decode cX4_share 35 = .ok (.invokevirtual 60, 3) := by decide +kernel
theorem dX4_share_38 : decode cX4_share 38 = .ok (.ireturn, 1) := by decide +kernel
theorem dX4_share_39 : decode cX4_share 39 = .ok (.aload_n 0, 1) := by decide +kernel
theorem dX4_share_40 : decode cX4_share 40 = .ok (.getfield 12, 3) := by decide +kernel
theorem dX4_share_43 : decode cX4_share 43 = .ok (.aload_n 0, 1) := by decide +kernel
theorem dX4_share_44 : decode cX4_share 44 = .ok (.getfield 12, 3) := by decide +kernel
theorem dX4_share_47 : decode cX4_share 47 = .ok (.getfield 192, 3) := by decide +kernel
theorem dX4_share_50 : decode cX4_share 50 = .ok (.iload_n 1, 1) := by decide +kernel
theorem dX4_share_51 : decode cX4_share 51 = .ok (.iaload, 1) := by decide +kernel
theorem dX4_share_52 : decode cX4_share 52 = .ok (.invokevirtual 177, 3) := by decide +kernel
theorem dX4_share_55 : decode cX4_share 55 = .ok (.istore 4, 2) := by decide +kernel
theorem dX4_share_57 : decode cX4_share 57 = .ok (.iload_n 3, 1) := by decide +kernel
theorem dX4_share_58 : decode cX4_share 58 = .ok (.iload 4, 2) := by decide +kernel
theorem dX4_share_60 : decode cX4_share 60 = .ok (.invokestatic 135, 3) := by decide +kernel
theorem dX4_share_63 : decode cX4_share 63 = .ok (.ifCond .ne 10, 3) := by decide +kernel
theorem dX4_share_66 : decode cX4_share 66 = .ok (.aload_n 0, 1) := by decide +kernel
theorem dX4_share_67 : decode cX4_share 67 = .ok (.ldc 125, 2) := by decide +kernel
theorem dX4_share_69 : decode cX4_share 69 = .ok (.invokevirtual 60, 3) := by decide +kernel
theorem dX4_share_72 : decode cX4_share 72 = .ok (.ireturn, 1) := by decide +kernel
theorem dX4_share_73 : decode cX4_share 73 = .ok (.aload_n 0, 1) := by decide +kernel
theorem dX4_share_74 : decode cX4_share 74 = .ok (.getfield 12, 3) := by decide +kernel
theorem dX4_share_77 : decode cX4_share 77 = .ok (.iload 4, 2) := by decide +kernel
theorem dX4_share_79 : decode cX4_share 79 = .ok (.invokevirtual 230, 3) := by decide +kernel
theorem dX4_share_82 : decode cX4_share 82 = .ok (.istore 5, 2) := by decide +kernel
theorem dX4_share_84 : decode cX4_share 84 = .ok (.iload 5, 2) := by decide +kernel
theorem dX4_share_86 : decode cX4_share 86 = .ok (.iconst 1, 1) := by decide +kernel
theorem dX4_share_87 : decode cX4_share 87 = .ok (.if_icmp .lt 9, 3) := by decide +kernel
theorem dX4_share_90 : decode cX4_share 90 = .ok (.iload_n 2, 1) := by decide +kernel
theorem dX4_share_91 : decode cX4_share 91 = .ok (.iload 5, 2) := by decide +kernel
theorem dX4_share_93 : decode cX4_share 93 = .ok (.if_icmp .ge 10, 3) := by decide +kernel
theorem dX4_share_96 : decode cX4_share 96 = .ok (.aload_n 0, 1) := by decide +kernel
theorem dX4_share_97 : decode cX4_share 97 = .ok (.ldc 146, 2) := by decide +kernel
theorem dX4_share_99 : decode cX4_share 99 = .ok (.invokevirtual 60, 3) := by decide +kernel
theorem dX4_share_102 : decode cX4_share 102 = .ok (.ireturn, 1) := by decide +kernel
theorem dX4_share_103 : decode cX4_share 103 = .ok (.aload_n 0, 1) := by decide +kernel
theorem dX4_share_104 : decode cX4_share 104 = .ok (.getfield 12, 3) := by decide +kernel
theorem dX4_share_107 : decode cX4_share 107 = .ok (.getfield 79, 3) := by decide +kernel
theorem dX4_share_110 : decode cX4_share 110 = .ok (.iload_n 3, 1) := by decide +kernel
theorem dX4_share_111 : decode cX4_share 111 = .ok (.iaload, 1) := by decide +kernel
theorem dX4_share_112 : decode cX4_share 112 = .ok (.istore 6, 2) := by decide +kernel
theorem dX4_share_114 : decode cX4_share 114 = .ok (.iload 6, 2) := by decide +kernel
theorem dX4_share_116 : decode cX4_share 116 = .ok (.iload_n 2, 1) := by decide +kernel
theorem dX4_share_117 : decode cX4_share 117 = .ok (.iload 5, 2) := by decide +kernel
theorem dX4_share_119 : decode cX4_share 119 = .ok (.isub, 1) := by decide +kernel
theorem dX4_share_120 : decode cX4_share 120 = .ok (.i2l, 1) := by decide +kernel
theorem dX4_share_121 : decode cX4_share 121 = .ok (.iload 6, 2) := by decide +kernel
theorem dX4_share_123 : decode cX4_share 123 = .ok (.i2l, 1) := by decide +kernel
theorem dX4_share_124 : decode cX4_share 124 = .ok (.lmul, 1) := by decide +kernel
theorem dX4_share_125 : decode cX4_share 125 = .ok (.iload 5, 2) := by decide +kernel
theorem dX4_share_127 : decode cX4_share 127 = .ok (.i2l, 1) := by decide +kernel
theorem dX4_share_128 : decode cX4_share 128 = .ok (.ldiv, 1) := by decide +kernel
theorem dX4_share_129 : decode cX4_share 129 = .ok (.l2i, 1) := by decide +kernel
theorem dX4_share_130 : decode cX4_share 130 = .ok (.iadd, 1) := by decide +kernel
theorem dX4_share_131 : decode cX4_share 131 = .ok (.ireturn, 1) := by decide +kernel
def mX4_share_b32   (V : jMem) : Option (Int32 × jMem) := ((mX4_refuse (-1000000001 : Int32) V).bind (fun (p1 : Int32 × jMem) => (some (p1.1, p1.2))))
set_option maxHeartbeats 4000000 in
set_option maxRecDepth 20000 in
theorem tX4_share_b32 {l : Launch} {Z : jZ} {q : Nat → Nat} {V : jMem} {r : Int32} {V' : jMem}    (hm : mX4_share_b32 V = some (r, V')) : J l Z RX4 "share" cX4_share 7 (some .int) 2 0 0 (fun r' w => r' = some (.int r) ∧ w = jw Z q V' dX) 32 [(0, .ref (q 0))] [] (jw Z q V dX) 0 0 := by
  unfold mX4_share_b32 at hm
  refine j_aload_n dX4_share_32 rfl rfl ?_
  refine j_ldc dX4_share_33 rfl wX4_59 ?_
  obtain ⟨p1, ep1, hm⟩ := jb_of hm
  refine o_callV_i kX4_60 dX4_share_35 rfl (tX4_refuse  ep1) rfl rfl rfl rfl rfl (Nat.le_of_ble_eq_true rfl) (by decide) ?_
  exact j_ireturn dX4_share_38 rfl rfl ⟨Nat.le_refl _, Nat.le_refl _⟩ (jf_m (fun z => .int z) hm)
def mX4_share_b96   (V : jMem) : Option (Int32 × jMem) := ((mX4_refuse (-1000000004 : Int32) V).bind (fun (p1 : Int32 × jMem) => (some (p1.1, p1.2))))
set_option maxHeartbeats 4000000 in
set_option maxRecDepth 20000 in
theorem tX4_share_b96 {l : Launch} {Z : jZ} {q : Nat → Nat} {V : jMem} {r : Int32} {V' : jMem}    (hm : mX4_share_b96 V = some (r, V')) : J l Z RX4 "share" cX4_share 7 (some .int) 2 0 0 (fun r' w => r' = some (.int r) ∧ w = jw Z q V' dX) 96 [(0, .ref (q 0))] [] (jw Z q V dX) 0 0 := by
  unfold mX4_share_b96 at hm
  refine j_aload_n dX4_share_96 rfl rfl ?_
  refine j_ldc dX4_share_97 rfl wX4_146 ?_
  obtain ⟨p1, ep1, hm⟩ := jb_of hm
  refine o_callV_i kX4_60 dX4_share_99 rfl (tX4_refuse  ep1) rfl rfl rfl rfl rfl (Nat.le_of_ble_eq_true rfl) (by decide) ?_
  exact j_ireturn dX4_share_102 rfl rfl ⟨Nat.le_refl _, Nat.le_refl _⟩ (jf_m (fun z => .int z) hm)
def mX4_share (a1 : Int32) (a2 : Int32) (a3 : Int32) (V : jMem) : Option (Int32 × jMem) := (if (mX0_hasStrip a1 V) = (0 : Int32) then (mX4_share_b32 V) else (if (mX4_isWithin a2 (0 : Int32) (9999999 : Int32)) = (0 : Int32) then (mX4_share_b32 V) else (if (mX0_hasField a3 V) = (0 : Int32) then (mX4_share_b32 V) else (jg (jin a1 6) (jl (mX0_freeIn (V.1 9 (Int32.toNatClampNeg a1)) V) (fun (v5 : Int32) => (if (mX4_isIn a3 v5) = (0 : Int32) then ((mX4_refuse (-1000000005 : Int32) V).bind (fun (p12 : Int32 × jMem) => (some (p12.1, p12.2)))) else ((mX0_worthsIn v5 V).bind (fun (r7 : Int32) => (if r7 < (1 : Int32) then (mX4_share_b96 V) else (if r7 ≤ a2 then (jg (jin a3 14) (jg (jnzl (Int32.toInt64 r7)) (some (((V.1 3 (Int32.toNatClampNeg a3)) + (Int64.toInt32 (((Int32.toInt64 (a2 - r7)) * (Int32.toInt64 (V.1 3 (Int32.toNatClampNeg a3)))) / (Int32.toInt64 r7)))), V)))) else (mX4_share_b96 V))))))))))))
set_option maxHeartbeats 4000000 in
set_option maxRecDepth 20000 in
theorem tX4_share {l : Launch} {Z : jZ} {q : Nat → Nat} {a1 : Int32} {a2 : Int32} {a3 : Int32} {V : jMem} {r : Int32} {V' : jMem}  (hm : mX4_share a1 a2 a3 V = some (r, V')) : CtD l Z yX4_share cX4_share 7 (some .int) 2 q dX [.ref (q 0), .int a1, .int a2, .int a3] V (some (.int r)) V' := by
  refine Ct_of (L := [(0, .ref (q 0)), (1, .int a1), (2, .int a2), (3, .int a3)]) (own := RX4) (nm := "share") rfl rfl (by decide +kernel) rfl (Nat.le_of_ble_eq_true rfl) ?_
  unfold mX4_share at hm
  refine j_aload_n dX4_share_0 rfl rfl ?_
  refine m_getr (k := 0) (r := 1) fX4_12 dX4_share_1 rfl rfl rfl ?_
  refine j_iload_n dX4_share_4 rfl rfl ?_
  refine o_callV_i kX4_189 dX4_share_5 rfl (tX0_hasStrip  rfl) rfl rfl rfl rfl rfl (Nat.le_of_ble_eq_true rfl) (by decide) ?_
  refine j_if_eq (tgt := 32) dX4_share_8 rfl (by decide) (fun c1 => ?_) (fun c1 => ?_)
  · have hm := jif_pos c1 hm
    refine j_sub (L' := [(0, _)]) [0] rfl ?_
    exact tX4_share_b32    hm
  · have hm := jif_neg c1 hm
    refine j_iload_n dX4_share_11 rfl rfl ?_
    refine j_iconst (v := 0) dX4_share_12 rfl (by decide) ?_
    refine j_ldc dX4_share_13 rfl wX4_226 ?_
    refine o_callS_i kX4_55 dX4_share_15 rfl (tX4_isWithin  rfl) rfl rfl (Nat.le_of_ble_eq_true rfl) (by decide) ?_
    refine j_if_eq (tgt := 32) dX4_share_18 rfl (by decide) (fun c2 => ?_) (fun c2 => ?_)
    · have hm := jif_pos c2 hm
      refine j_sub (L' := [(0, _)]) [0] rfl ?_
      exact tX4_share_b32    hm
    · have hm := jif_neg c2 hm
      refine j_aload_n dX4_share_21 rfl rfl ?_
      refine m_getr (k := 0) (r := 1) fX4_12 dX4_share_22 rfl rfl rfl ?_
      refine j_iload_n dX4_share_25 rfl rfl ?_
      refine o_callV_i kX4_73 dX4_share_26 rfl (tX0_hasField  rfl) rfl rfl rfl rfl rfl (Nat.le_of_ble_eq_true rfl) (by decide) ?_
      refine j_if_ne (tgt := 39) dX4_share_29 rfl (by decide) (fun c3 => ?_) (fun c3 => ?_)
      · have hm := jif_neg c3 hm
        refine j_aload_n dX4_share_39 rfl rfl ?_
        refine m_getr (k := 0) (r := 1) fX4_12 dX4_share_40 rfl rfl rfl ?_
        refine j_aload_n dX4_share_43 rfl rfl ?_
        refine m_getr (k := 0) (r := 1) fX4_12 dX4_share_44 rfl rfl rfl ?_
        refine m_getr (k := 15) (r := 9) fX4_192 dX4_share_47 rfl rfl rfl ?_
        refine j_iload_n dX4_share_50 rfl rfl ?_
        obtain ⟨g4, hm⟩ := jg_of hm
        refine o_iald (k := (Int32.toNatClampNeg a1)) rfl dX4_share_51 rfl rfl (jin_vp g4) ?_
        refine o_callV_i kX4_177 dX4_share_52 rfl (tX0_freeIn  rfl) rfl rfl rfl rfl rfl (Nat.le_of_ble_eq_true rfl) (by decide) ?_
        obtain ⟨v5, ev5⟩ : ∃ y, y = ((mX0_freeIn (V.1 9 (Int32.toNatClampNeg a1)) V) : Int32) := ⟨_, rfl⟩
        have hm := jl_of hm ev5
        rw [← ev5]
        refine j_istore (L' := [(4, _), (0, _), (1, _), (2, _), (3, _)]) dX4_share_55 rfl (by decide) rfl ?_
        refine j_iload_n dX4_share_57 rfl rfl ?_
        refine j_iload dX4_share_58 rfl rfl ?_
        refine o_callS_i kX4_135 dX4_share_60 rfl (tX4_isIn  rfl) rfl rfl (Nat.le_of_ble_eq_true rfl) (by decide) ?_
        refine j_if_ne (tgt := 73) dX4_share_63 rfl (by decide) (fun c6 => ?_) (fun c6 => ?_)
        · have hm := jif_neg c6 hm
          refine j_aload_n dX4_share_73 rfl rfl ?_
          refine m_getr (k := 0) (r := 1) fX4_12 dX4_share_74 rfl rfl rfl ?_
          refine j_iload dX4_share_77 rfl rfl ?_
          obtain ⟨r7, er7, hm⟩ := jb_of hm
          refine o_callV_i kX4_230 dX4_share_79 rfl (tX0_worthsIn  er7) rfl rfl rfl rfl rfl (Nat.le_of_ble_eq_true rfl) (by decide) ?_
          refine j_istore (L' := [(5, _), (4, _), (0, _), (1, _), (2, _), (3, _)]) dX4_share_82 rfl (by decide) rfl ?_
          refine j_iload dX4_share_84 rfl rfl ?_
          refine j_iconst (v := 1) dX4_share_86 rfl (by decide) ?_
          refine j_icmp_lt (tgt := 96) dX4_share_87 rfl (by decide) (fun c8 => ?_) (fun c8 => ?_)
          · have hm := jif_pos c8 hm
            refine j_sub (L' := [(0, _)]) [2] rfl ?_
            exact tX4_share_b96    hm
          · have hm := jif_neg c8 hm
            refine j_iload_n dX4_share_90 rfl rfl ?_
            refine j_iload dX4_share_91 rfl rfl ?_
            refine j_icmp_ge (tgt := 103) dX4_share_93 rfl (by decide) (fun c9 => ?_) (fun c9 => ?_)
            · have hm := jif_pos c9 hm
              refine j_aload_n dX4_share_103 rfl rfl ?_
              refine m_getr (k := 0) (r := 1) fX4_12 dX4_share_104 rfl rfl rfl ?_
              refine m_getr (k := 2) (r := 3) fX4_79 dX4_share_107 rfl rfl rfl ?_
              refine j_iload_n dX4_share_110 rfl rfl ?_
              obtain ⟨g10, hm⟩ := jg_of hm
              refine o_iald (k := (Int32.toNatClampNeg a3)) rfl dX4_share_111 rfl rfl (jin_vp g10) ?_
              refine j_istore (L' := [(6, _), (5, _), (4, _), (0, _), (1, _), (2, _), (3, _)]) dX4_share_112 rfl (by decide) rfl ?_
              refine j_iload dX4_share_114 rfl rfl ?_
              refine j_iload_n dX4_share_116 rfl rfl ?_
              refine j_iload dX4_share_117 rfl rfl ?_
              refine j_isub dX4_share_119 rfl ?_
              refine j_i2l dX4_share_120 rfl ?_
              refine j_iload dX4_share_121 rfl rfl ?_
              refine j_i2l dX4_share_123 rfl ?_
              refine j_lmul dX4_share_124 rfl ?_
              refine j_iload dX4_share_125 rfl rfl ?_
              refine j_i2l dX4_share_127 rfl ?_
              obtain ⟨g11, hm⟩ := jg_of hm
              refine j_ldiv dX4_share_128 rfl (jnzl_of g11) ?_
              refine j_l2i dX4_share_129 rfl ?_
              refine j_iadd dX4_share_130 rfl ?_
              exact j_ireturn dX4_share_131 rfl rfl ⟨Nat.le_refl _, Nat.le_refl _⟩ (jf_m (fun z => .int z) hm)
            · have hm := jif_neg c9 hm
              refine j_sub (L' := [(0, _)]) [2] rfl ?_
              exact tX4_share_b96    hm
        · have hm := jif_pos c6 hm
          refine j_aload_n dX4_share_66 rfl rfl ?_
          refine j_ldc dX4_share_67 rfl wX4_125 ?_
          obtain ⟨p12, ep12, hm⟩ := jb_of hm
          refine o_callV_i kX4_60 dX4_share_69 rfl (tX4_refuse  ep12) rfl rfl rfl rfl rfl (Nat.le_of_ble_eq_true rfl) (by decide) ?_
          exact j_ireturn dX4_share_72 rfl rfl ⟨Nat.le_refl _, Nat.le_refl _⟩ (jf_m (fun z => .int z) hm)
      · have hm := jif_pos c3 hm
        refine j_sub (L' := [(0, _)]) [0] rfl ?_
        exact tX4_share_b32    hm
theorem dX4_common_0 : decode cX4_common 0 = .ok (.aload_n 0, 1) := by decide +kernel
theorem dX4_common_1 : decode cX4_common 1 = .ok (.getfield 12, 3) := by decide +kernel
theorem dX4_common_4 : decode cX4_common 4 = .ok (.invokevirtual 180, 3) := by decide +kernel
theorem dX4_common_7 : decode cX4_common 7 = .ok (.istore_n 1, 1) := by decide +kernel
theorem dX4_common_8 : decode cX4_common 8 = .ok (.iconst 0, 1) := by decide +kernel
theorem dX4_common_9 : decode cX4_common 9 = .ok (.istore_n 2, 1) := by decide +kernel
theorem dX4_common_10 : decode cX4_common 10 = .ok (.iconst 0, 1) := by decide +kernel
theorem dX4_common_11 : decode cX4_common 11 = .ok (.istore_n 3, 1) := by decide +kernel
theorem dX4_common_12 : decode cX4_common 12 = .ok (.iload_n 3, 1) := by decide +kernel
theorem dX4_common_13 : decode cX4_common 13 = .ok (.aload_n 0, 1) := by decide +kernel
theorem dX4_common_14 : decode cX4_common 14 = .ok (.getfield 12, 3) := by decide +kernel
theorem dX4_common_17 : decode cX4_common 17 = .ok (.getfield 183, 3) := by decide +kernel
theorem dX4_common_20 : decode cX4_common 20 = .ok (.if_icmp .ge 34, 3) := by decide +kernel
theorem dX4_common_23 : decode cX4_common 23 = .ok (.aload_n 0, 1) := by decide +kernel
theorem dX4_common_24 : decode cX4_common 24 = .ok (.getfield 12, 3) := by decide +kernel
theorem dX4_common_27 : decode cX4_common 27 = .ok (.iload_n 3, 1) := by decide +kernel
theorem dX4_common_28 : decode cX4_common 28 = .ok (.invokevirtual 201, 3) := by decide +kernel
theorem dX4_common_31 : decode cX4_common 31 = .ok (.ifCond .eq 17, 3) := by decide +kernel
theorem dX4_common_34 : decode cX4_common 34 = .ok (.iload_n 1, 1) := by decide +kernel
theorem dX4_common_35 : decode cX4_common 35 = .ok (.aload_n 0, 1) := by decide +kernel
theorem dX4_common_36 : decode cX4_common 36 = .ok (.getfield 12, 3) := by decide +kernel
theorem dX4_common_39 : decode cX4_common 39 = .ok (.getfield 192, 3) := by decide +kernel
theorem dX4_common_42 : decode cX4_common 42 = .ok (.iload_n 3, 1) := by decide +kernel
theorem dX4_common_43 : decode cX4_common 43 = .ok (.iaload, 1) := by decide +kernel
theorem dX4_common_44 : decode cX4_common 44 = .ok (.iand, 1) := by decide +kernel
theorem dX4_common_45 : decode cX4_common 45 = .ok (.istore_n 1, 1) := by decide +kernel
theorem dX4_common_46 : decode cX4_common 46 = .ok (.iconst 1, 1) := by decide +kernel
theorem dX4_common_47 : decode cX4_common 47 = .ok (.istore_n 2, 1) := by decide +kernel
theorem dX4_common_48 : decode cX4_common 48 = .ok (.iinc 3 1, 3) := by decide +kernel
theorem dX4_common_51 : decode cX4_common 51 = .ok (.goto (-39), 3) := by decide +kernel
theorem dX4_common_54 : decode cX4_common 54 = .ok (.iload_n 2, 1) := by decide +kernel
theorem dX4_common_55 : decode cX4_common 55 = .ok (.ifCond .eq 7, 3) := by decide +kernel
theorem dX4_common_58 : decode cX4_common 58 = .ok (.iload_n 1, 1) := by decide +kernel
theorem dX4_common_59 : decode cX4_common 59 = .ok (.goto 9, 3) := by decide +kernel
theorem dX4_common_62 : decode cX4_common 62 = .ok (.aload_n 0, 1) := by decide +kernel
theorem dX4_common_63 : decode cX4_common 63 = .ok (.ldc 146, 2) := by decide +kernel
theorem dX4_common_65 : decode cX4_common 65 = .ok (.invokevirtual 60, 3) := by decide +kernel
theorem dX4_common_68 : decode cX4_common 68 = .ok (.ireturn, 1) := by decide +kernel
def mX4_common_b48  (k12 : Int32 → Int32 → Int32 → jMem → Option (Int32 × jMem)) (a1 : Int32) (a2 : Int32) (a3 : Int32) (V : jMem) : Option (Int32 × jMem) := (k12 a1 a2 (a3 + (1 : Int32)) V)
set_option maxHeartbeats 4000000 in
set_option maxRecDepth 20000 in
theorem tX4_common_b48 {l : Launch} {Z : jZ} {q : Nat → Nat} {k12 : Int32 → Int32 → Int32 → jMem → Option (Int32 × jMem)} {a1 : Int32} {a2 : Int32} {a3 : Int32} {V : jMem} {r : Int32} {V' : jMem}   (hk12 : ∀ (a1 : Int32) (a2 : Int32) (a3 : Int32) (V : jMem), k12 a1 a2 a3 V = some (r, V') → J l Z RX4 "common" cX4_common 4 (some .int) 2 0 0 (fun r' w => r' = some (.int r) ∧ w = jw Z q V' dX) 12 [(0, .ref (q 0)), (1, .int a1), (2, .int a2), (3, .int a3)] [] (jw Z q V dX) 0 0) (hm : mX4_common_b48 k12 a1 a2 a3 V = some (r, V')) : J l Z RX4 "common" cX4_common 4 (some .int) 2 0 0 (fun r' w => r' = some (.int r) ∧ w = jw Z q V' dX) 48 [(0, .ref (q 0)), (1, .int a1), (2, .int a2), (3, .int a3)] [] (jw Z q V dX) 0 0 := by
  unfold mX4_common_b48 at hm
  refine j_iinc (v := (a3 + (1 : Int32))) (L' := [(3, _), (0, _), (1, _), (2, _)]) dX4_common_48 rfl rfl rfl (by decide) rfl ?_
  refine j_goto (tgt := 12) dX4_common_51 (by decide) ?_
  refine j_sub (L' := [(0, _), (1, _), (2, _), (3, _)]) [1, 2, 3, 0] rfl ?_
  exact hk12 _ _ _ _  hm
def mX4_common_b12   : Nat → Int32 → Int32 → Int32 → jMem → Option (Int32 × jMem)
  | 0, _, _, _, _ => none
  | n + 1, a1, a2, a3, V => (if (V.1 1 14) ≤ a3 then (if a2 = (0 : Int32) then ((mX4_refuse (-1000000004 : Int32) V).bind (fun (p3 : Int32 × jMem) => (some (p3.1, p3.2)))) else (some (a1, V))) else ((mX0_canBe a3 V).bind (fun (r4 : Int32) => (if r4 = (0 : Int32) then (mX4_common_b48 (mX4_common_b12 n) a1 a2 a3 V) else (jg (jin a3 6) (jl (a1 &&& (V.1 9 (Int32.toNatClampNeg a3))) (fun (v7 : Int32) => (mX4_common_b48 (mX4_common_b12 n) v7 (1 : Int32) a3 V))))))))
set_option maxHeartbeats 4000000 in
set_option maxRecDepth 20000 in
theorem tX4_common_b12 {l : Launch} {Z : jZ} {q : Nat → Nat}  {r : Int32} {V' : jMem}   (n : Nat) : ∀ (a1 : Int32) (a2 : Int32) (a3 : Int32) (V : jMem), mX4_common_b12 n a1 a2 a3 V = some (r, V') → J l Z RX4 "common" cX4_common 4 (some .int) 2 0 0 (fun r' w => r' = some (.int r) ∧ w = jw Z q V' dX) 12 [(0, .ref (q 0)), (1, .int a1), (2, .int a2), (3, .int a3)] [] (jw Z q V dX) 0 0 := by
  induction n with
  | zero => intro a1 a2 a3 V hm; cases hm
  | succ n ih =>
    intro a1 a2 a3 V hm
    rw [mX4_common_b12] at hm
    refine j_iload_n dX4_common_12 rfl rfl ?_
    refine j_aload_n dX4_common_13 rfl rfl ?_
    refine m_getr (k := 0) (r := 1) fX4_12 dX4_common_14 rfl rfl rfl ?_
    refine m_geti (k := 14) fX4_183 dX4_common_17 rfl rfl rfl ?_
    refine j_icmp_ge (tgt := 54) dX4_common_20 rfl (by decide) (fun c1 => ?_) (fun c1 => ?_)
    · have hm := jif_pos c1 hm
      refine j_iload_n dX4_common_54 rfl rfl ?_
      refine j_if_eq (tgt := 62) dX4_common_55 rfl (by decide) (fun c2 => ?_) (fun c2 => ?_)
      · have hm := jif_pos c2 hm
        refine j_aload_n dX4_common_62 rfl rfl ?_
        refine j_ldc dX4_common_63 rfl wX4_146 ?_
        obtain ⟨p3, ep3, hm⟩ := jb_of hm
        refine o_callV_i kX4_60 dX4_common_65 rfl (tX4_refuse  ep3) rfl rfl rfl rfl rfl (Nat.le_of_ble_eq_true rfl) (by decide) ?_
        exact j_ireturn dX4_common_68 rfl rfl ⟨Nat.le_refl _, Nat.le_refl _⟩ (jf_m (fun z => .int z) hm)
      · have hm := jif_neg c2 hm
        refine j_iload_n dX4_common_58 rfl rfl ?_
        refine j_goto (tgt := 68) dX4_common_59 (by decide) ?_
        exact j_ireturn dX4_common_68 rfl rfl ⟨Nat.le_refl _, Nat.le_refl _⟩ (jf_m (fun z => .int z) hm)
    · have hm := jif_neg c1 hm
      refine j_aload_n dX4_common_23 rfl rfl ?_
      refine m_getr (k := 0) (r := 1) fX4_12 dX4_common_24 rfl rfl rfl ?_
      refine j_iload_n dX4_common_27 rfl rfl ?_
      obtain ⟨r4, er4, hm⟩ := jb_of hm
      refine o_callV_i kX4_201 dX4_common_28 rfl (tX0_canBe  er4) rfl rfl rfl rfl rfl (Nat.le_of_ble_eq_true rfl) (by decide) ?_
      refine j_if_eq (tgt := 48) dX4_common_31 rfl (by decide) (fun c5 => ?_) (fun c5 => ?_)
      · have hm := jif_pos c5 hm
        exact tX4_common_b48   ih hm
      · have hm := jif_neg c5 hm
        refine j_iload_n dX4_common_34 rfl rfl ?_
        refine j_aload_n dX4_common_35 rfl rfl ?_
        refine m_getr (k := 0) (r := 1) fX4_12 dX4_common_36 rfl rfl rfl ?_
        refine m_getr (k := 15) (r := 9) fX4_192 dX4_common_39 rfl rfl rfl ?_
        refine j_iload_n dX4_common_42 rfl rfl ?_
        obtain ⟨g6, hm⟩ := jg_of hm
        refine o_iald (k := (Int32.toNatClampNeg a3)) rfl dX4_common_43 rfl rfl (jin_vp g6) ?_
        refine j_iand dX4_common_44 rfl ?_
        obtain ⟨v7, ev7⟩ : ∃ y, y = ((a1 &&& (V.1 9 (Int32.toNatClampNeg a3))) : Int32) := ⟨_, rfl⟩
        have hm := jl_of hm ev7
        rw [← ev7]
        refine j_istore_n (i := 1) (L' := [(1, _), (0, _), (2, _), (3, _)]) dX4_common_45 rfl rfl (by decide) rfl ?_
        refine j_iconst (v := 1) dX4_common_46 rfl (by decide) ?_
        refine j_istore_n (i := 2) (L' := [(2, _), (1, _), (0, _), (3, _)]) dX4_common_47 rfl rfl (by decide) rfl ?_
        refine j_sub (L' := [(0, _), (1, _), (2, _), (3, _)]) [2, 1, 0, 3] rfl ?_
        exact tX4_common_b48   ih hm
def mX4_common (V : jMem) : Option (Int32 × jMem) := (mX4_common_b12 2000 (mX0_allFields V) (0 : Int32) (0 : Int32) V)
set_option maxHeartbeats 4000000 in
set_option maxRecDepth 20000 in
theorem tX4_common {l : Launch} {Z : jZ} {q : Nat → Nat} {V : jMem} {r : Int32} {V' : jMem}  (hm : mX4_common V = some (r, V')) : CtD l Z yX4_common cX4_common 4 (some .int) 2 q dX [.ref (q 0)] V (some (.int r)) V' := by
  refine Ct_of (L := [(0, .ref (q 0))]) (own := RX4) (nm := "common") rfl rfl (by decide +kernel) rfl (Nat.le_of_ble_eq_true rfl) ?_
  unfold mX4_common at hm
  refine j_aload_n dX4_common_0 rfl rfl ?_
  refine m_getr (k := 0) (r := 1) fX4_12 dX4_common_1 rfl rfl rfl ?_
  refine o_callV_i kX4_180 dX4_common_4 rfl (tX0_allFields  rfl) rfl rfl rfl rfl rfl (Nat.le_of_ble_eq_true rfl) (by decide) ?_
  refine j_istore_n (i := 1) (L' := [(1, _), (0, _)]) dX4_common_7 rfl rfl (by decide) rfl ?_
  refine j_iconst (v := 0) dX4_common_8 rfl (by decide) ?_
  refine j_istore_n (i := 2) (L' := [(2, _), (1, _), (0, _)]) dX4_common_9 rfl rfl (by decide) rfl ?_
  refine j_iconst (v := 0) dX4_common_10 rfl (by decide) ?_
  refine j_istore_n (i := 3) (L' := [(3, _), (2, _), (1, _), (0, _)]) dX4_common_11 rfl rfl (by decide) rfl ?_
  refine j_sub (L' := [(0, _), (1, _), (2, _), (3, _)]) [3, 2, 1, 0] rfl ?_
  exact tX4_common_b12   _ _ _ _ _  hm
theorem dX4_first_0 : decode cX4_first 0 = .ok (.aload_n 0, 1) := by decide +kernel
theorem dX4_first_1 : decode cX4_first 1 = .ok (.getfield 12, 3) := by decide +kernel
theorem dX4_first_4 : decode cX4_first 4 = .ok (.iload_n 1, 1) := by decide +kernel
theorem dX4_first_5 : decode cX4_first 5 = .ok (.invokevirtual 189, 3) := by decide +kernel
theorem dX4_first_8 : decode cX4_first 8 = .ok (.ifCond .ne 10, 3) := by decide +kernel
theorem dX4_first_11 : decode cX4_first 11 = .ok (.aload_n 0, 1) := by decide +kernel
theorem dX4_first_12 : decode cX4_first 12 = .ok (.ldc 59, 2) := by decide +kernel
theorem dX4_first_14 : decode cX4_first 14 = .ok (.invokevirtual 60, 3) := by decide +kernel
theorem dX4_first_17 : decode cX4_first 17 = .ok (.ireturn, 1) := by decide +kernel
theorem dX4_first_18 : decode cX4_first 18 = .ok (.aload_n 0, 1) := by decide +kernel
theorem dX4_first_19 : decode cX4_first 19 = .ok (.getfield 12, 3) := by decide +kernel
theorem dX4_first_22 : decode cX4_first 22 = .ok (.aload_n 0, 1) := by decide +kernel
theorem dX4_first_23 : decode cX4_first 23 = .ok (.getfield 12, 3) := by decide +kernel
theorem dX4_first_26 : decode cX4_first 26 = .ok (.aload_n 0, 1) := by decide +kernel
theorem dX4_first_27 : decode cX4_first 27 = .ok (.getfield 12, 3) := by decide +kernel
theorem dX4_first_30 : decode cX4_first 30 = .ok (.getfield 192, 3) := by decide +kernel
theorem dX4_first_33 : decode cX4_first 33 = .ok (.iload_n 1, 1) := by decide +kernel
theorem dX4_first_34 : decode cX4_first 34 = .ok (.iaload, 1) := by decide +kernel
theorem dX4_first_35 : decode cX4_first 35 = .ok (.invokevirtual 177, 3) := by decide +kernel
theorem dX4_first_38 : decode cX4_first 38 = .ok (.invokevirtual 233, 3) := by decide +kernel
theorem dX4_first_41 : decode cX4_first 41 = .ok (.istore_n 2, 1) := by decide +kernel
theorem dX4_first_42 : decode cX4_first 42 = .ok (.iload_n 2, 1) := by decide +kernel
theorem dX4_first_43 : decode cX4_first 43 = .ok (.ifCond .ge 12, 3) := by decide +kernel
theorem dX4_first_46 : decode cX4_first 46 = .ok (.aload_n 0, 1) := by decide +kernel
theorem dX4_first_47 : decode cX4_first 47 = .ok (.ldc 146, 2) := by decide +kernel
theorem dX4_first_49 : decode cX4_first 49 = .ok (.invokevirtual 60, 3) := by decide +kernel
theorem dX4_first_52 : decode cX4_first 52 = .ok (.goto 4, 3) := by decide +kernel
theorem dX4_first_55 : decode cX4_first 55 = .ok (.iload_n 2, 1) := by decide +kernel
theorem dX4_first_56 : decode cX4_first 56 = .ok (.ireturn, 1) := by decide +kernel
def mX4_first (a1 : Int32) (V : jMem) : Option (Int32 × jMem) := (if (mX0_hasStrip a1 V) = (0 : Int32) then ((mX4_refuse (-1000000001 : Int32) V).bind (fun (p6 : Int32 × jMem) => (some (p6.1, p6.2)))) else (jg (jin a1 6) ((mX0_quietestFirst (mX0_freeIn (V.1 9 (Int32.toNatClampNeg a1)) V) V).bind (fun (r3 : Int32) => (if (0 : Int32) ≤ r3 then (some (r3, V)) else ((mX4_refuse (-1000000004 : Int32) V).bind (fun (p5 : Int32 × jMem) => (some (p5.1, p5.2)))))))))
set_option maxHeartbeats 4000000 in
set_option maxRecDepth 20000 in
theorem tX4_first {l : Launch} {Z : jZ} {q : Nat → Nat} {a1 : Int32} {V : jMem} {r : Int32} {V' : jMem}  (hm : mX4_first a1 V = some (r, V')) : CtD l Z yX4_first cX4_first 3 (some .int) 7 q dX [.ref (q 0), .int a1] V (some (.int r)) V' := by
  refine Ct_of (L := [(0, .ref (q 0)), (1, .int a1)]) (own := RX4) (nm := "first") rfl rfl (by decide +kernel) rfl (Nat.le_of_ble_eq_true rfl) ?_
  unfold mX4_first at hm
  refine j_aload_n dX4_first_0 rfl rfl ?_
  refine m_getr (k := 0) (r := 1) fX4_12 dX4_first_1 rfl rfl rfl ?_
  refine j_iload_n dX4_first_4 rfl rfl ?_
  refine o_callV_i kX4_189 dX4_first_5 rfl (tX0_hasStrip  rfl) rfl rfl rfl rfl rfl (Nat.le_of_ble_eq_true rfl) (by decide) ?_
  refine j_if_ne (tgt := 18) dX4_first_8 rfl (by decide) (fun c1 => ?_) (fun c1 => ?_)
  · have hm := jif_neg c1 hm
    refine j_aload_n dX4_first_18 rfl rfl ?_
    refine m_getr (k := 0) (r := 1) fX4_12 dX4_first_19 rfl rfl rfl ?_
    refine j_aload_n dX4_first_22 rfl rfl ?_
    refine m_getr (k := 0) (r := 1) fX4_12 dX4_first_23 rfl rfl rfl ?_
    refine j_aload_n dX4_first_26 rfl rfl ?_
    refine m_getr (k := 0) (r := 1) fX4_12 dX4_first_27 rfl rfl rfl ?_
    refine m_getr (k := 15) (r := 9) fX4_192 dX4_first_30 rfl rfl rfl ?_
    refine j_iload_n dX4_first_33 rfl rfl ?_
    obtain ⟨g2, hm⟩ := jg_of hm
    refine o_iald (k := (Int32.toNatClampNeg a1)) rfl dX4_first_34 rfl rfl (jin_vp g2) ?_
    refine o_callV_i kX4_177 dX4_first_35 rfl (tX0_freeIn  rfl) rfl rfl rfl rfl rfl (Nat.le_of_ble_eq_true rfl) (by decide) ?_
    obtain ⟨r3, er3, hm⟩ := jb_of hm
    refine o_callV_i kX4_233 dX4_first_38 rfl (tX0_quietestFirst  er3) rfl rfl rfl rfl rfl (Nat.le_of_ble_eq_true rfl) (by decide) ?_
    refine j_istore_n (i := 2) (L' := [(2, _), (0, _), (1, _)]) dX4_first_41 rfl rfl (by decide) rfl ?_
    refine j_iload_n dX4_first_42 rfl rfl ?_
    refine j_if_ge (tgt := 55) dX4_first_43 rfl (by decide) (fun c4 => ?_) (fun c4 => ?_)
    · have hm := jif_pos c4 hm
      refine j_iload_n dX4_first_55 rfl rfl ?_
      exact j_ireturn dX4_first_56 rfl rfl ⟨Nat.le_refl _, Nat.le_refl _⟩ (jf_m (fun z => .int z) hm)
    · have hm := jif_neg c4 hm
      refine j_aload_n dX4_first_46 rfl rfl ?_
      refine j_ldc dX4_first_47 rfl wX4_146 ?_
      obtain ⟨p5, ep5, hm⟩ := jb_of hm
      refine o_callV_i kX4_60 dX4_first_49 rfl (tX4_refuse  ep5) rfl rfl rfl rfl rfl (Nat.le_of_ble_eq_true rfl) (by decide) ?_
      refine j_goto (tgt := 56) dX4_first_52 (by decide) ?_
      exact j_ireturn dX4_first_56 rfl rfl ⟨Nat.le_refl _, Nat.le_refl _⟩ (jf_m (fun z => .int z) hm)
  · have hm := jif_pos c1 hm
    refine j_aload_n dX4_first_11 rfl rfl ?_
    refine j_ldc dX4_first_12 rfl wX4_59 ?_
    obtain ⟨p6, ep6, hm⟩ := jb_of hm
    refine o_callV_i kX4_60 dX4_first_14 rfl (tX4_refuse  ep6) rfl rfl rfl rfl rfl (Nat.le_of_ble_eq_true rfl) (by decide) ?_
    exact j_ireturn dX4_first_17 rfl rfl ⟨Nat.le_refl _, Nat.le_refl _⟩ (jf_m (fun z => .int z) hm)
theorem dX4_feed_0 : decode cX4_feed 0 = .ok (.iload_n 2, 1) := by decide +kernel
theorem dX4_feed_1 : decode cX4_feed 1 = .ok (.iconst 1, 1) := by decide +kernel
theorem dX4_feed_2 : decode cX4_feed 2 = .ok (.iconst 4, 1) := by decide +kernel
theorem dX4_feed_3 : decode cX4_feed 3 = .ok (.invokestatic 55, 3) := by decide +kernel
theorem dX4_feed_6 : decode cX4_feed 6 = .ok (.ifCond .ne 10, 3) := by decide +kernel
theorem dX4_feed_9 : decode cX4_feed 9 = .ok (.aload_n 0, 1) := by decide +kernel
theorem dX4_feed_10 : decode cX4_feed 10 = .ok (.ldc 59, 2) := by decide +kernel
theorem dX4_feed_12 : decode cX4_feed 12 = .ok (.invokevirtual 60, 3) := by decide +kernel
theorem dX4_feed_15 : decode cX4_feed 15 = .ok (.ireturn, 1) := by decide +kernel
theorem dX4_feed_16 : decode cX4_feed 16 = .ok (.aload_n 0, 1) := by decide +kernel
theorem dX4_feed_17 : decode cX4_feed 17 = .ok (.getfield 32, 3) := by decide +kernel
theorem dX4_feed_20 : decode cX4_feed 20 = .ok (.getfield 236, 3) := by decide +kernel
theorem dX4_feed_23 : decode cX4_feed 23 = .ok (.iload_n 2, 1) := by decide +kernel
theorem dX4_feed_24 : decode cX4_feed 24 = .ok (.iadd, 1) := by decide +kernel
theorem dX4_feed_25 : decode cX4_feed 25 = .ok (.bipush 120, 2) := by decide +kernel
theorem dX4_feed_27 : decode cX4_feed 27 = .ok (.if_icmp .le 10, 3) := by decide +kernel
theorem dX4_feed_30 : decode cX4_feed 30 = .ok (.aload_n 0, 1) := by decide +kernel
theorem dX4_feed_31 : decode cX4_feed 31 = .ok (.ldc 68, 2) := by decide +kernel
theorem dX4_feed_33 : decode cX4_feed 33 = .ok (.invokevirtual 60, 3) := by decide +kernel
theorem dX4_feed_36 : decode cX4_feed 36 = .ok (.ireturn, 1) := by decide +kernel
theorem dX4_feed_37 : decode cX4_feed 37 = .ok (.iload_n 2, 1) := by decide +kernel
theorem dX4_feed_38 : decode cX4_feed 38 = .ok (.iconst 1, 1) := by decide +kernel
theorem dX4_feed_39 : decode cX4_feed 39 = .ok (.isub, 1) := by decide +kernel
theorem dX4_feed_40 : decode cX4_feed 40 = .ok (.istore_n 3, 1) := by decide +kernel
theorem dX4_feed_41 : decode cX4_feed 41 = .ok (.iload_n 3, 1) := by decide +kernel
theorem dX4_feed_42 : decode cX4_feed 42 = .ok (.ifCond .lt 26, 3) := by decide +kernel
theorem dX4_feed_45 : decode cX4_feed 45 = .ok (.aload_n 0, 1) := by decide +kernel
theorem dX4_feed_46 : decode cX4_feed 46 = .ok (.getfield 32, 3) := by decide +kernel
theorem dX4_feed_49 : decode cX4_feed 49 = .ok (.iload_n 1, 1) := by decide +kernel
theorem dX4_feed_50 : decode cX4_feed 50 = .ok (.bipush 8, 2) := by decide +kernel
theorem dX4_feed_52 : decode cX4_feed 52 = .ok (.iload_n 3, 1) := by decide +kernel
theorem dX4_feed_53 : decode cX4_feed 53 = .ok (.imul, 1) := by decide +kernel
theorem dX4_feed_54 : decode cX4_feed 54 = .ok (.iushr, 1) := by decide +kernel
theorem dX4_feed_55 : decode cX4_feed 55 = .ok (.sipush 255, 3) := by decide +kernel
theorem dX4_feed_58 : decode cX4_feed 58 = .ok (.iand, 1) := by decide +kernel
theorem dX4_feed_59 : decode cX4_feed 59 = .ok (.invokevirtual 239, 3) := by decide +kernel
theorem dX4_feed_62 : decode cX4_feed 62 = .ok (.iinc 3 (-1), 3) := by decide +kernel
theorem dX4_feed_65 : decode cX4_feed 65 = .ok (.goto (-24), 3) := by decide +kernel
theorem dX4_feed_68 : decode cX4_feed 68 = .ok (.aload_n 0, 1) := by decide +kernel
theorem dX4_feed_69 : decode cX4_feed 69 = .ok (.getfield 32, 3) := by decide +kernel
theorem dX4_feed_72 : decode cX4_feed 72 = .ok (.getfield 236, 3) := by decide +kernel
theorem dX4_feed_75 : decode cX4_feed 75 = .ok (.ireturn, 1) := by decide +kernel
def mX4_feed_b41   : Nat → Int32 → Int32 → jMem → Option (Int32 × jMem)
  | 0, _, _, _ => none
  | n + 1, a1, a3, V => (if a3 < (0 : Int32) then (some ((V.1 36 1), V)) else ((mX3_add (((Int32.toUInt32 a1 >>> (Int32.toUInt32 ((8 : Int32) * a3) &&& Int32.toUInt32 31)).toInt32) &&& (255 : Int32)) V).bind (fun (p2 : jMem) => (mX4_feed_b41 n a1 (a3 + (-1 : Int32)) p2))))
set_option maxHeartbeats 4000000 in
set_option maxRecDepth 20000 in
theorem tX4_feed_b41 {l : Launch} {Z : jZ} {q : Nat → Nat}  {r : Int32} {V' : jMem}   (n : Nat) : ∀ (a1 : Int32) (a3 : Int32) (V : jMem), mX4_feed_b41 n a1 a3 V = some (r, V') → J l Z RX4 "feed" cX4_feed 4 (some .int) 2 0 0 (fun r' w => r' = some (.int r) ∧ w = jw Z q V' dX) 41 [(0, .ref (q 0)), (1, .int a1), (3, .int a3)] [] (jw Z q V dX) 0 0 := by
  induction n with
  | zero => intro a1 a3 V hm; cases hm
  | succ n ih =>
    intro a1 a3 V hm
    rw [mX4_feed_b41] at hm
    refine j_iload_n dX4_feed_41 rfl rfl ?_
    refine j_if_lt (tgt := 68) dX4_feed_42 rfl (by decide) (fun c1 => ?_) (fun c1 => ?_)
    · have hm := jif_pos c1 hm
      refine j_aload_n dX4_feed_68 rfl rfl ?_
      refine m_getr (k := 4) (r := 36) fX4_32 dX4_feed_69 rfl rfl rfl ?_
      refine m_geti (k := 1) fX4_236 dX4_feed_72 rfl rfl rfl ?_
      exact j_ireturn dX4_feed_75 rfl rfl ⟨Nat.le_refl _, Nat.le_refl _⟩ (jf_m (fun z => .int z) hm)
    · have hm := jif_neg c1 hm
      refine j_aload_n dX4_feed_45 rfl rfl ?_
      refine m_getr (k := 4) (r := 36) fX4_32 dX4_feed_46 rfl rfl rfl ?_
      refine j_iload_n dX4_feed_49 rfl rfl ?_
      refine j_bipush (v := 8) dX4_feed_50 rfl (by decide) ?_
      refine j_iload_n dX4_feed_52 rfl rfl ?_
      refine j_imul dX4_feed_53 rfl ?_
      refine j_iushr dX4_feed_54 rfl ?_
      refine j_sipush (v := 255) dX4_feed_55 rfl (by decide) ?_
      refine j_iand dX4_feed_58 rfl ?_
      obtain ⟨p2, ep2, hm⟩ := jb_of hm
      refine o_callV_v kX4_239 dX4_feed_59 rfl (tX3_add  ep2) rfl rfl rfl rfl rfl (Nat.le_of_ble_eq_true rfl) (by decide) ?_
      refine j_iinc (v := (a3 + (-1 : Int32))) (L' := [(3, _), (0, _), (1, _)]) dX4_feed_62 rfl rfl rfl (by decide) rfl ?_
      refine j_goto (tgt := 41) dX4_feed_65 (by decide) ?_
      refine j_sub (L' := [(0, _), (1, _), (3, _)]) [1, 2, 0] rfl ?_
      exact ih _ _ _  hm
def mX4_feed (a1 : Int32) (a2 : Int32) (V : jMem) : Option (Int32 × jMem) := (if (mX4_isWithin a2 (1 : Int32) (4 : Int32)) = (0 : Int32) then ((mX4_refuse (-1000000001 : Int32) V).bind (fun (p4 : Int32 × jMem) => (some (p4.1, p4.2)))) else (if ((V.1 36 1) + a2) ≤ (120 : Int32) then (mX4_feed_b41 2000 a1 (a2 - (1 : Int32)) V) else ((mX4_refuse (-1000000002 : Int32) V).bind (fun (p3 : Int32 × jMem) => (some (p3.1, p3.2))))))
set_option maxHeartbeats 4000000 in
set_option maxRecDepth 20000 in
theorem tX4_feed {l : Launch} {Z : jZ} {q : Nat → Nat} {a1 : Int32} {a2 : Int32} {V : jMem} {r : Int32} {V' : jMem}  (hm : mX4_feed a1 a2 V = some (r, V')) : CtD l Z yX4_feed cX4_feed 4 (some .int) 2 q dX [.ref (q 0), .int a1, .int a2] V (some (.int r)) V' := by
  refine Ct_of (L := [(0, .ref (q 0)), (1, .int a1), (2, .int a2)]) (own := RX4) (nm := "feed") rfl rfl (by decide +kernel) rfl (Nat.le_of_ble_eq_true rfl) ?_
  unfold mX4_feed at hm
  refine j_iload_n dX4_feed_0 rfl rfl ?_
  refine j_iconst (v := 1) dX4_feed_1 rfl (by decide) ?_
  refine j_iconst (v := 4) dX4_feed_2 rfl (by decide) ?_
  refine o_callS_i kX4_55 dX4_feed_3 rfl (tX4_isWithin  rfl) rfl rfl (Nat.le_of_ble_eq_true rfl) (by decide) ?_
  refine j_if_ne (tgt := 16) dX4_feed_6 rfl (by decide) (fun c1 => ?_) (fun c1 => ?_)
  · have hm := jif_neg c1 hm
    refine j_aload_n dX4_feed_16 rfl rfl ?_
    refine m_getr (k := 4) (r := 36) fX4_32 dX4_feed_17 rfl rfl rfl ?_
    refine m_geti (k := 1) fX4_236 dX4_feed_20 rfl rfl rfl ?_
    refine j_iload_n dX4_feed_23 rfl rfl ?_
    refine j_iadd dX4_feed_24 rfl ?_
    refine j_bipush (v := 120) dX4_feed_25 rfl (by decide) ?_
    refine j_icmp_le (tgt := 37) dX4_feed_27 rfl (by decide) (fun c2 => ?_) (fun c2 => ?_)
    · have hm := jif_pos c2 hm
      refine j_iload_n dX4_feed_37 rfl rfl ?_
      refine j_iconst (v := 1) dX4_feed_38 rfl (by decide) ?_
      refine j_isub dX4_feed_39 rfl ?_
      refine j_istore_n (i := 3) (L' := [(3, _), (0, _), (1, _), (2, _)]) dX4_feed_40 rfl rfl (by decide) rfl ?_
      refine j_sub (L' := [(0, _), (1, _), (3, _)]) [1, 2, 0] rfl ?_
      exact tX4_feed_b41   _ _ _ _  hm
    · have hm := jif_neg c2 hm
      refine j_aload_n dX4_feed_30 rfl rfl ?_
      refine j_ldc dX4_feed_31 rfl wX4_68 ?_
      obtain ⟨p3, ep3, hm⟩ := jb_of hm
      refine o_callV_i kX4_60 dX4_feed_33 rfl (tX4_refuse  ep3) rfl rfl rfl rfl rfl (Nat.le_of_ble_eq_true rfl) (by decide) ?_
      exact j_ireturn dX4_feed_36 rfl rfl ⟨Nat.le_refl _, Nat.le_refl _⟩ (jf_m (fun z => .int z) hm)
  · have hm := jif_pos c1 hm
    refine j_aload_n dX4_feed_9 rfl rfl ?_
    refine j_ldc dX4_feed_10 rfl wX4_59 ?_
    obtain ⟨p4, ep4, hm⟩ := jb_of hm
    refine o_callV_i kX4_60 dX4_feed_12 rfl (tX4_refuse  ep4) rfl rfl rfl rfl rfl (Nat.le_of_ble_eq_true rfl) (by decide) ?_
    exact j_ireturn dX4_feed_15 rfl rfl ⟨Nat.le_refl _, Nat.le_refl _⟩ (jf_m (fun z => .int z) hm)
theorem dX4_wipe_0 : decode cX4_wipe 0 = .ok (.aload_n 0, 1) := by decide +kernel
theorem dX4_wipe_1 : decode cX4_wipe 1 = .ok (.getfield 32, 3) := by decide +kernel
theorem dX4_wipe_4 : decode cX4_wipe 4 = .ok (.getfield 236, 3) := by decide +kernel
theorem dX4_wipe_7 : decode cX4_wipe 7 = .ok (.istore_n 1, 1) := by decide +kernel
theorem dX4_wipe_8 : decode cX4_wipe 8 = .ok (.aload_n 0, 1) := by decide +kernel
theorem dX4_wipe_9 : decode cX4_wipe 9 = .ok (.getfield 32, 3) := by decide +kernel
theorem dX4_wipe_12 : decode cX4_wipe 12 = .ok (.iconst 0, 1) := by decide +kernel
theorem dX4_wipe_13 : decode cX4_wipe 13 = .ok (.putfield 236, 3) := by decide +kernel
theorem dX4_wipe_16 : decode cX4_wipe 16 = .ok (.iload_n 1, 1) := by decide +kernel
theorem dX4_wipe_17 : decode cX4_wipe 17 = .ok (.ireturn, 1) := by decide +kernel
def mX4_wipe (V : jMem) : Option (Int32 × jMem) := (jl (jsI V 36 1 (0 : Int32)) (fun (V1 : jMem) => (some ((V.1 36 1), V1))))
set_option maxHeartbeats 4000000 in
set_option maxRecDepth 20000 in
theorem tX4_wipe {l : Launch} {Z : jZ} {q : Nat → Nat} {V : jMem} {r : Int32} {V' : jMem}  (hm : mX4_wipe V = some (r, V')) : CtD l Z yX4_wipe cX4_wipe 2 (some .int) 0 q dX [.ref (q 0)] V (some (.int r)) V' := by
  refine Ct_of (L := [(0, .ref (q 0))]) (own := RX4) (nm := "wipe") rfl rfl (by decide +kernel) rfl (Nat.le_of_ble_eq_true rfl) ?_
  unfold mX4_wipe at hm
  refine j_aload_n dX4_wipe_0 rfl rfl ?_
  refine m_getr (k := 4) (r := 36) fX4_32 dX4_wipe_1 rfl rfl rfl ?_
  refine m_geti (k := 1) fX4_236 dX4_wipe_4 rfl rfl rfl ?_
  refine j_istore_n (i := 1) (L' := [(1, _), (0, _)]) dX4_wipe_7 rfl rfl (by decide) rfl ?_
  refine j_aload_n dX4_wipe_8 rfl rfl ?_
  refine m_getr (k := 4) (r := 36) fX4_32 dX4_wipe_9 rfl rfl rfl ?_
  refine j_iconst (v := 0) dX4_wipe_12 rfl (by decide) ?_
  refine m_puti (k := 1) fX4_236 dX4_wipe_13 rfl rfl rfl ?_
  obtain ⟨V1, eV1⟩ : ∃ y, y = (jsI V 36 1 (0 : Int32)) := ⟨_, rfl⟩
  have hm := jl_of hm eV1
  rw [← eV1]
  refine j_iload_n dX4_wipe_16 rfl rfl ?_
  exact j_ireturn dX4_wipe_17 rfl rfl ⟨Nat.le_refl _, Nat.le_refl _⟩ (jf_m (fun z => .int z) hm)
theorem dX4_readSet_0 : decode cX4_readSet 0 = .ok (.iconst 0, 1) := by decide +kernel
theorem dX4_readSet_1 : decode cX4_readSet 1 = .ok (.istore_n 2, 1) := by decide +kernel
theorem dX4_readSet_2 : decode cX4_readSet 2 = .ok (.aload_n 0, 1) := by decide +kernel
theorem dX4_readSet_3 : decode cX4_readSet 3 = .ok (.invokevirtual 320, 3) := by decide +kernel
theorem dX4_readSet_6 : decode cX4_readSet 6 = .ok (.iconst 0, 1) := by decide +kernel
theorem dX4_readSet_7 : decode cX4_readSet 7 = .ok (.istore_n 3, 1) := by decide +kernel
theorem dX4_readSet_8 : decode cX4_readSet 8 = .ok (.iload_n 3, 1) := by decide +kernel
theorem dX4_readSet_9 : decode cX4_readSet 9 = .ok (.bipush 120, 2) := by decide +kernel
theorem dX4_readSet_11 : decode cX4_readSet 11 = .ok (.if_icmp .ge 40, 3) := by decide +kernel
theorem dX4_readSet_14 : decode cX4_readSet 14 = .ok (.aload_n 0, 1) := by decide +kernel
theorem dX4_readSet_15 : decode cX4_readSet 15 = .ok (.getfield 317, 3) := by decide +kernel
theorem dX4_readSet_18 : decode cX4_readSet 18 = .ok (.iconst 1, 1) := by decide +kernel
theorem dX4_readSet_19 : decode cX4_readSet 19 = .ok (.if_icmp .ne 32, 3) := by decide +kernel
theorem dX4_readSet_22 : decode cX4_readSet 22 = .ok (.aload_n 0, 1) := by decide +kernel
theorem dX4_readSet_23 : decode cX4_readSet 23 = .ok (.getfield 355, 3) := by decide +kernel
theorem dX4_readSet_26 : decode cX4_readSet 26 = .ok (.iload_n 1, 1) := by decide +kernel
theorem dX4_readSet_27 : decode cX4_readSet 27 = .ok (.if_icmp .lt 5, 3) := by decide +kernel
theorem dX4_readSet_30 : decode cX4_readSet 30 = .ok (.iconst (-1), 1) := by decide +kernel
theorem dX4_readSet_31 : decode cX4_readSet 31 = .ok (.ireturn, 1) := by decide +kernel
theorem dX4_readSet_32 : decode cX4_readSet 32 = .ok (.iload_n 2, 1) := by decide +kernel
theorem dX4_readSet_33 : decode cX4_readSet 33 = .ok (.iconst 1, 1) := by decide +kernel
theorem dX4_readSet_34 : decode cX4_readSet 34 = .ok (.aload_n 0, 1) := by decide +kernel
theorem dX4_readSet_35 : decode cX4_readSet 35 = .ok (.getfield 355, 3) := by decide +kernel
theorem dX4_readSet_38 : decode cX4_readSet 38 = .ok (.ishl, 1) := by decide +kernel
theorem dX4_readSet_39 : decode cX4_readSet 39 = .ok (.ior, 1) := by decide +kernel
theorem dX4_readSet_40 : decode cX4_readSet 40 = .ok (.istore_n 2, 1) := by decide +kernel
theorem dX4_readSet_41 : decode cX4_readSet 41 = .ok (.aload_n 0, 1) := by decide +kernel
theorem dX4_readSet_42 : decode cX4_readSet 42 = .ok (.invokevirtual 320, 3) := by decide +kernel
theorem dX4_readSet_45 : decode cX4_readSet 45 = .ok (.iinc 3 1, 3) := by decide +kernel
theorem dX4_readSet_48 : decode cX4_readSet 48 = .ok (.goto (-40), 3) := by decide +kernel
theorem dX4_readSet_51 : decode cX4_readSet 51 = .ok (.iload_n 2, 1) := by decide +kernel
theorem dX4_readSet_52 : decode cX4_readSet 52 = .ok (.ifCond .ne 7, 3) := by decide +kernel
theorem dX4_readSet_55 : decode cX4_readSet 55 = .ok (.iconst (-1), 1) := by decide +kernel
theorem dX4_readSet_56 : decode cX4_readSet 56 = .ok (.goto 4, 3) := by decide +kernel
theorem dX4_readSet_59 : decode cX4_readSet 59 = .ok (.iload_n 2, 1) := by decide +kernel
theorem dX4_readSet_60 : decode cX4_readSet 60 = .ok (.ireturn, 1) := by decide +kernel
def mX4_readSet_b51   (a2 : Int32) (V : jMem) : Option (Int32 × jMem) := (if a2 = (0 : Int32) then (some ((-1 : Int32), V)) else (some (a2, V)))
set_option maxHeartbeats 4000000 in
set_option maxRecDepth 20000 in
theorem tX4_readSet_b51 {l : Launch} {Z : jZ} {q : Nat → Nat} {a2 : Int32} {V : jMem} {r : Int32} {V' : jMem}    (hm : mX4_readSet_b51 a2 V = some (r, V')) : J l Z RX4 "readSet" cX4_readSet 4 (some .int) 3 0 0 (fun r' w => r' = some (.int r) ∧ w = jw Z q V' dX) 51 [(2, .int a2)] [] (jw Z q V dX) 0 0 := by
  unfold mX4_readSet_b51 at hm
  refine j_iload_n dX4_readSet_51 rfl rfl ?_
  refine j_if_ne (tgt := 59) dX4_readSet_52 rfl (by decide) (fun c1 => ?_) (fun c1 => ?_)
  · have hm := jif_neg c1 hm
    refine j_iload_n dX4_readSet_59 rfl rfl ?_
    exact j_ireturn dX4_readSet_60 rfl rfl ⟨Nat.le_refl _, Nat.le_refl _⟩ (jf_m (fun z => .int z) hm)
  · have hm := jif_pos c1 hm
    refine j_iconst (v := -1) dX4_readSet_55 rfl (by decide) ?_
    refine j_goto (tgt := 60) dX4_readSet_56 (by decide) ?_
    exact j_ireturn dX4_readSet_60 rfl rfl ⟨Nat.le_refl _, Nat.le_refl _⟩ (jf_m (fun z => .int z) hm)
def mX4_readSet_b8   : Nat → Int32 → Int32 → Int32 → jMem → Option (Int32 × jMem)
  | 0, _, _, _, _ => none
  | n + 1, a1, a2, a3, V => (if (120 : Int32) ≤ a3 then (mX4_readSet_b51 a2 V) else (if (V.1 36 4) = (1 : Int32) then (if (V.1 36 5) < a1 then (jl (a2 ||| ((1 : Int32) <<< ((V.1 36 5) &&& (31 : Int32)))) (fun (v4 : Int32) => ((mX3_next V).bind (fun (p5 : jMem) => (mX4_readSet_b8 n a1 v4 (a3 + (1 : Int32)) p5))))) else (some ((-1 : Int32), V))) else (mX4_readSet_b51 a2 V)))
set_option maxHeartbeats 4000000 in
set_option maxRecDepth 20000 in
theorem tX4_readSet_b8 {l : Launch} {Z : jZ} {q : Nat → Nat}  {r : Int32} {V' : jMem}   (n : Nat) : ∀ (a1 : Int32) (a2 : Int32) (a3 : Int32) (V : jMem), mX4_readSet_b8 n a1 a2 a3 V = some (r, V') → J l Z RX4 "readSet" cX4_readSet 4 (some .int) 3 0 0 (fun r' w => r' = some (.int r) ∧ w = jw Z q V' dX) 8 [(0, .ref (q 36)), (1, .int a1), (2, .int a2), (3, .int a3)] [] (jw Z q V dX) 0 0 := by
  induction n with
  | zero => intro a1 a2 a3 V hm; cases hm
  | succ n ih =>
    intro a1 a2 a3 V hm
    rw [mX4_readSet_b8] at hm
    refine j_iload_n dX4_readSet_8 rfl rfl ?_
    refine j_bipush (v := 120) dX4_readSet_9 rfl (by decide) ?_
    refine j_icmp_ge (tgt := 51) dX4_readSet_11 rfl (by decide) (fun c1 => ?_) (fun c1 => ?_)
    · have hm := jif_pos c1 hm
      refine j_sub (L' := [(2, _)]) [2] rfl ?_
      exact tX4_readSet_b51    hm
    · have hm := jif_neg c1 hm
      refine j_aload_n dX4_readSet_14 rfl rfl ?_
      refine m_geti (k := 4) fX4_317 dX4_readSet_15 rfl rfl rfl ?_
      refine j_iconst (v := 1) dX4_readSet_18 rfl (by decide) ?_
      refine j_icmp_ne (tgt := 51) dX4_readSet_19 rfl (by decide) (fun c2 => ?_) (fun c2 => ?_)
      · have hm := jif_neg c2 hm
        refine j_sub (L' := [(2, _)]) [2] rfl ?_
        exact tX4_readSet_b51    hm
      · have hm := jif_pos c2 hm
        refine j_aload_n dX4_readSet_22 rfl rfl ?_
        refine m_geti (k := 5) fX4_355 dX4_readSet_23 rfl rfl rfl ?_
        refine j_iload_n dX4_readSet_26 rfl rfl ?_
        refine j_icmp_lt (tgt := 32) dX4_readSet_27 rfl (by decide) (fun c3 => ?_) (fun c3 => ?_)
        · have hm := jif_pos c3 hm
          refine j_iload_n dX4_readSet_32 rfl rfl ?_
          refine j_iconst (v := 1) dX4_readSet_33 rfl (by decide) ?_
          refine j_aload_n dX4_readSet_34 rfl rfl ?_
          refine m_geti (k := 5) fX4_355 dX4_readSet_35 rfl rfl rfl ?_
          refine j_ishl dX4_readSet_38 rfl ?_
          refine j_ior dX4_readSet_39 rfl ?_
          obtain ⟨v4, ev4⟩ : ∃ y, y = ((a2 ||| ((1 : Int32) <<< ((V.1 36 5) &&& (31 : Int32)))) : Int32) := ⟨_, rfl⟩
          have hm := jl_of hm ev4
          rw [← ev4]
          refine j_istore_n (i := 2) (L' := [(2, _), (0, _), (1, _), (3, _)]) dX4_readSet_40 rfl rfl (by decide) rfl ?_
          refine j_aload_n dX4_readSet_41 rfl rfl ?_
          obtain ⟨p5, ep5, hm⟩ := jb_of hm
          refine o_callV_v kX4_320 dX4_readSet_42 rfl (tX3_next  ep5) rfl rfl rfl rfl rfl (Nat.le_of_ble_eq_true rfl) (by decide) ?_
          refine j_iinc (v := (a3 + (1 : Int32))) (L' := [(3, _), (2, _), (0, _), (1, _)]) dX4_readSet_45 rfl rfl rfl (by decide) rfl ?_
          refine j_goto (tgt := 8) dX4_readSet_48 (by decide) ?_
          refine j_sub (L' := [(0, _), (1, _), (2, _), (3, _)]) [2, 3, 1, 0] rfl ?_
          exact ih _ _ _ _  hm
        · have hm := jif_neg c3 hm
          refine j_iconst (v := -1) dX4_readSet_30 rfl (by decide) ?_
          exact j_ireturn dX4_readSet_31 rfl rfl ⟨Nat.le_refl _, Nat.le_refl _⟩ (jf_m (fun z => .int z) hm)
def mX4_readSet (a1 : Int32) (V : jMem) : Option (Int32 × jMem) := ((mX3_next V).bind (fun (p1 : jMem) => (mX4_readSet_b8 2000 a1 (0 : Int32) (0 : Int32) p1)))
set_option maxHeartbeats 4000000 in
set_option maxRecDepth 20000 in
theorem tX4_readSet {l : Launch} {Z : jZ} {q : Nat → Nat} {a1 : Int32} {V : jMem} {r : Int32} {V' : jMem}  (hm : mX4_readSet a1 V = some (r, V')) : CtD l Z yX4_readSet cX4_readSet 4 (some .int) 3 q dX [.ref (q 36), .int a1] V (some (.int r)) V' := by
  refine Ct_of (L := [(0, .ref (q 36)), (1, .int a1)]) (own := RX4) (nm := "readSet") rfl rfl (by decide +kernel) rfl (Nat.le_of_ble_eq_true rfl) ?_
  unfold mX4_readSet at hm
  refine j_iconst (v := 0) dX4_readSet_0 rfl (by decide) ?_
  refine j_istore_n (i := 2) (L' := [(2, _), (0, _), (1, _)]) dX4_readSet_1 rfl rfl (by decide) rfl ?_
  refine j_aload_n dX4_readSet_2 rfl rfl ?_
  obtain ⟨p1, ep1, hm⟩ := jb_of hm
  refine o_callV_v kX4_320 dX4_readSet_3 rfl (tX3_next  ep1) rfl rfl rfl rfl rfl (Nat.le_of_ble_eq_true rfl) (by decide) ?_
  refine j_iconst (v := 0) dX4_readSet_6 rfl (by decide) ?_
  refine j_istore_n (i := 3) (L' := [(3, _), (2, _), (0, _), (1, _)]) dX4_readSet_7 rfl rfl (by decide) rfl ?_
  refine j_sub (L' := [(0, _), (1, _), (2, _), (3, _)]) [2, 3, 1, 0] rfl ?_
  exact tX4_readSet_b8   _ _ _ _ _  hm
theorem dX4_readInto_0 : decode cX4_readInto 0 = .ok (.aload_n 0, 1) := by decide +kernel
theorem dX4_readInto_1 : decode cX4_readInto 1 = .ok (.invokevirtual 320, 3) := by decide +kernel
theorem dX4_readInto_4 : decode cX4_readInto 4 = .ok (.aload_n 0, 1) := by decide +kernel
theorem dX4_readInto_5 : decode cX4_readInto 5 = .ok (.getfield 317, 3) := by decide +kernel
theorem dX4_readInto_8 : decode cX4_readInto 8 = .ok (.iconst 1, 1) := by decide +kernel
theorem dX4_readInto_9 : decode cX4_readInto 9 = .ok (.if_icmp .ne 16, 3) := by decide +kernel
theorem dX4_readInto_12 : decode cX4_readInto 12 = .ok (.aload_n 0, 1) := by decide +kernel
theorem dX4_readInto_13 : decode cX4_readInto 13 = .ok (.getfield 355, 3) := by decide +kernel
theorem dX4_readInto_16 : decode cX4_readInto 16 = .ok (.iload_n 3, 1) := by decide +kernel
theorem dX4_readInto_17 : decode cX4_readInto 17 = .ok (.iload 4, 2) := by decide +kernel
theorem dX4_readInto_19 : decode cX4_readInto 19 = .ok (.invokestatic 55, 3) := by decide +kernel
theorem dX4_readInto_22 : decode cX4_readInto 22 = .ok (.ifCond .ne 5, 3) := by decide +kernel
theorem dX4_readInto_25 : decode cX4_readInto 25 = .ok (.iconst 0, 1) := by decide +kernel
theorem dX4_readInto_26 : decode cX4_readInto 26 = .ok (.ireturn, 1) := by decide +kernel
theorem dX4_readInto_27 : decode cX4_readInto 27 = .ok (.aload_n 1, 1) := by decide +kernel
theorem dX4_readInto_28 : decode cX4_readInto 28 = .ok (.iload_n 2, 1) := by decide +kernel
theorem dX4_readInto_29 : decode cX4_readInto 29 = .ok (.aload_n 0, 1) := by decide +kernel
theorem dX4_readInto_30 : decode cX4_readInto 30 = .ok (.getfield 355, 3) := by decide +kernel
theorem dX4_readInto_33 : decode cX4_readInto 33 = .ok (.iastore, 1) := by decide +kernel
theorem dX4_readInto_34 : decode cX4_readInto 34 = .ok (.aload_n 0, 1) := by decide +kernel
theorem dX4_readInto_35 : decode cX4_readInto 35 = .ok (.invokevirtual 320, 3) := by decide +kernel
theorem dX4_readInto_38 : decode cX4_readInto 38 = .ok (.iconst 1, 1) := by decide +kernel
theorem dX4_readInto_39 : decode cX4_readInto 39 = .ok (.ireturn, 1) := by decide +kernel
def mX4_readInto (p : Nat) (pn : Nat) (a2 : Int32) (a3 : Int32) (a4 : Int32) (V : jMem) : Option (Int32 × jMem) := ((mX3_next V).bind (fun (p1 : jMem) => (if (p1.1 36 4) = (1 : Int32) then (if (mX4_isWithin (p1.1 36 5) a3 a4) = (0 : Int32) then (some ((0 : Int32), p1)) else (jg (jin a2 pn) (jl (jsI p1 p (Int32.toNatClampNeg a2) (p1.1 36 5)) (fun (V5 : jMem) => ((mX3_next V5).bind (fun (p6 : jMem) => (some ((1 : Int32), p6)))))))) else (some ((0 : Int32), p1)))))
set_option maxHeartbeats 4000000 in
set_option maxRecDepth 20000 in
theorem tX4_readInto {l : Launch} {Z : jZ} {q : Nat → Nat} {p : Nat} {pn : Nat} {a2 : Int32} {a3 : Int32} {a4 : Int32} {V : jMem} {r : Int32} {V' : jMem} (hp : dX[p]? = some (.inr (0, pn))) (hm : mX4_readInto p pn a2 a3 a4 V = some (r, V')) : CtD l Z yX4_readInto cX4_readInto 5 (some .boolean) 3 q dX [.ref (q 36), .ref (q p), .int a2, .int a3, .int a4] V (some (.int r)) V' := by
  refine Ct_of (L := [(0, .ref (q 36)), (1, .ref (q p)), (2, .int a2), (3, .int a3), (4, .int a4)]) (own := RX4) (nm := "readInto") rfl rfl (by decide +kernel) rfl (Nat.le_of_ble_eq_true rfl) ?_
  unfold mX4_readInto at hm
  refine j_aload_n dX4_readInto_0 rfl rfl ?_
  obtain ⟨p1, ep1, hm⟩ := jb_of hm
  refine o_callV_v kX4_320 dX4_readInto_1 rfl (tX3_next  ep1) rfl rfl rfl rfl rfl (Nat.le_of_ble_eq_true rfl) (by decide) ?_
  refine j_aload_n dX4_readInto_4 rfl rfl ?_
  refine m_geti (k := 4) fX4_317 dX4_readInto_5 rfl rfl rfl ?_
  refine j_iconst (v := 1) dX4_readInto_8 rfl (by decide) ?_
  refine j_icmp_ne (tgt := 25) dX4_readInto_9 rfl (by decide) (fun c2 => ?_) (fun c2 => ?_)
  · have hm := jif_neg c2 hm
    refine j_iconst (v := 0) dX4_readInto_25 rfl (by decide) ?_
    exact j_zreturn dX4_readInto_26 rfl (by decide) ⟨Nat.le_refl _, Nat.le_refl _⟩ (jf_m (fun z => .int z) hm)
  · have hm := jif_pos c2 hm
    refine j_aload_n dX4_readInto_12 rfl rfl ?_
    refine m_geti (k := 5) fX4_355 dX4_readInto_13 rfl rfl rfl ?_
    refine j_iload_n dX4_readInto_16 rfl rfl ?_
    refine j_iload dX4_readInto_17 rfl rfl ?_
    refine o_callS_i kX4_55 dX4_readInto_19 rfl (tX4_isWithin  rfl) rfl rfl (Nat.le_of_ble_eq_true rfl) (by decide) ?_
    refine j_if_ne (tgt := 27) dX4_readInto_22 rfl (by decide) (fun c3 => ?_) (fun c3 => ?_)
    · have hm := jif_neg c3 hm
      refine j_aload_n dX4_readInto_27 rfl rfl ?_
      refine j_iload_n dX4_readInto_28 rfl rfl ?_
      refine j_aload_n dX4_readInto_29 rfl rfl ?_
      refine m_geti (k := 5) fX4_355 dX4_readInto_30 rfl rfl rfl ?_
      obtain ⟨g4, hm⟩ := jg_of hm
      refine o_iast (k := (Int32.toNatClampNeg a2)) rfl dX4_readInto_33 rfl hp (jin_vp g4) ?_
      obtain ⟨V5, eV5⟩ : ∃ y, y = (jsI p1 p (Int32.toNatClampNeg a2) (p1.1 36 5)) := ⟨_, rfl⟩
      have hm := jl_of hm eV5
      rw [← eV5]
      refine j_aload_n dX4_readInto_34 rfl rfl ?_
      obtain ⟨p6, ep6, hm⟩ := jb_of hm
      refine o_callV_v kX4_320 dX4_readInto_35 rfl (tX3_next  ep6) rfl rfl rfl rfl rfl (Nat.le_of_ble_eq_true rfl) (by decide) ?_
      refine j_iconst (v := 1) dX4_readInto_38 rfl (by decide) ?_
      exact j_zreturn dX4_readInto_39 rfl (by decide) ⟨Nat.le_refl _, Nat.le_refl _⟩ (jf_m (fun z => .int z) hm)
    · have hm := jif_pos c3 hm
      refine j_iconst (v := 0) dX4_readInto_25 rfl (by decide) ?_
      exact j_zreturn dX4_readInto_26 rfl (by decide) ⟨Nat.le_refl _, Nat.le_refl _⟩ (jf_m (fun z => .int z) hm)
theorem dX4_readStrip_0 : decode cX4_readStrip 0 = .ok (.aload_n 1, 1) := by decide +kernel
theorem dX4_readStrip_1 : decode cX4_readStrip 1 = .ok (.getfield 183, 3) := by decide +kernel
theorem dX4_readStrip_4 : decode cX4_readStrip 4 = .ok (.bipush 6, 2) := by decide +kernel
theorem dX4_readStrip_6 : decode cX4_readStrip 6 = .ok (.if_icmp .lt 5, 3) := by decide +kernel
theorem dX4_readStrip_9 : decode cX4_readStrip 9 = .ok (.iconst 0, 1) := by decide +kernel
theorem dX4_readStrip_10 : decode cX4_readStrip 10 = .ok (.ireturn, 1) := by decide +kernel
theorem dX4_readStrip_11 : decode cX4_readStrip 11 = .ok (.aload_n 0, 1) := by decide +kernel
theorem dX4_readStrip_12 : decode cX4_readStrip 12 = .ok (.aload_n 1, 1) := by decide +kernel
theorem dX4_readStrip_13 : decode cX4_readStrip 13 = .ok (.getfield 64, 3) := by decide +kernel
theorem dX4_readStrip_16 : decode cX4_readStrip 16 = .ok (.invokestatic 349, 3) := by decide +kernel
theorem dX4_readStrip_19 : decode cX4_readStrip 19 = .ok (.istore_n 2, 1) := by decide +kernel
theorem dX4_readStrip_20 : decode cX4_readStrip 20 = .ok (.iload_n 2, 1) := by decide +kernel
theorem dX4_readStrip_21 : decode cX4_readStrip 21 = .ok (.ifCond .ge 5, 3) := by decide +kernel
theorem dX4_readStrip_24 : decode cX4_readStrip 24 = .ok (.iconst 0, 1) := by decide +kernel
theorem dX4_readStrip_25 : decode cX4_readStrip 25 = .ok (.ireturn, 1) := by decide +kernel
theorem dX4_readStrip_26 : decode cX4_readStrip 26 = .ok (.aload_n 1, 1) := by decide +kernel
theorem dX4_readStrip_27 : decode cX4_readStrip 27 = .ok (.iload_n 2, 1) := by decide +kernel
theorem dX4_readStrip_28 : decode cX4_readStrip 28 = .ok (.iconst 0, 1) := by decide +kernel
theorem dX4_readStrip_29 : decode cX4_readStrip 29 = .ok (.invokevirtual 186, 3) := by decide +kernel
theorem dX4_readStrip_32 : decode cX4_readStrip 32 = .ok (.istore_n 3, 1) := by decide +kernel
theorem dX4_readStrip_33 : decode cX4_readStrip 33 = .ok (.aload_n 0, 1) := by decide +kernel
theorem dX4_readStrip_34 : decode cX4_readStrip 34 = .ok (.ldc_w 353, 3) := by decide +kernel
theorem dX4_readStrip_37 : decode cX4_readStrip 37 = .ok (.invokevirtual 325, 3) := by decide +kernel
theorem dX4_readStrip_40 : decode cX4_readStrip 40 = .ok (.ifCond .eq 19, 3) := by decide +kernel
theorem dX4_readStrip_43 : decode cX4_readStrip 43 = .ok (.aload_n 0, 1) := by decide +kernel
theorem dX4_readStrip_44 : decode cX4_readStrip 44 = .ok (.aload_n 1, 1) := by decide +kernel
theorem dX4_readStrip_45 : decode cX4_readStrip 45 = .ok (.getfield 195, 3) := by decide +kernel
theorem dX4_readStrip_48 : decode cX4_readStrip 48 = .ok (.iload_n 3, 1) := by decide +kernel
theorem dX4_readStrip_49 : decode cX4_readStrip 49 = .ok (.iconst 0, 1) := by decide +kernel
theorem dX4_readStrip_50 : decode cX4_readStrip 50 = .ok (.sipush 9999, 3) := by decide +kernel
theorem dX4_readStrip_53 : decode cX4_readStrip 53 = .ok (.invokestatic 343, 3) := by decide +kernel
theorem dX4_readStrip_56 : decode cX4_readStrip 56 = .ok (.ifCond .eq 7, 3) := by decide +kernel
theorem dX4_readStrip_59 : decode cX4_readStrip 59 = .ok (.iconst 1, 1) := by decide +kernel
theorem dX4_readStrip_60 : decode cX4_readStrip 60 = .ok (.goto 4, 3) := by decide +kernel
theorem dX4_readStrip_63 : decode cX4_readStrip 63 = .ok (.iconst 0, 1) := by decide +kernel
theorem dX4_readStrip_64 : decode cX4_readStrip 64 = .ok (.ireturn, 1) := by decide +kernel
def mX4_readStrip (V : jMem) : Option (Int32 × jMem) := (if (V.1 1 14) < (6 : Int32) then ((mX4_readSet (V.1 1 0) V).bind (fun (p2 : Int32 × jMem) => (if (0 : Int32) ≤ p2.1 then ((mX0_addStrip p2.1 (0 : Int32) p2.2).bind (fun (p4 : Int32 × jMem) => ((mX3_isWord 1 p4.2).bind (fun (r5 : Int32) => (if r5 = (0 : Int32) then (some ((1 : Int32), p4.2)) else ((mX4_readInto 10 6 p4.1 (0 : Int32) (9999 : Int32) p4.2).bind (fun (p7 : Int32 × jMem) => (if p7.1 = (0 : Int32) then (some ((0 : Int32), p7.2)) else (some ((1 : Int32), p7.2)))))))))) else (some ((0 : Int32), p2.2))))) else (some ((0 : Int32), V)))
set_option maxHeartbeats 4000000 in
set_option maxRecDepth 20000 in
theorem tX4_readStrip {l : Launch} {Z : jZ} {q : Nat → Nat} {V : jMem} {r : Int32} {V' : jMem}  (hm : mX4_readStrip V = some (r, V')) : CtD l Z yX4_readStrip cX4_readStrip 4 (some .boolean) 5 q dX [.ref (q 36), .ref (q 1)] V (some (.int r)) V' := by
  refine Ct_of (L := [(0, .ref (q 36)), (1, .ref (q 1))]) (own := RX4) (nm := "readStrip") rfl rfl (by decide +kernel) rfl (Nat.le_of_ble_eq_true rfl) ?_
  unfold mX4_readStrip at hm
  refine j_aload_n dX4_readStrip_0 rfl rfl ?_
  refine m_geti (k := 14) fX4_183 dX4_readStrip_1 rfl rfl rfl ?_
  refine j_bipush (v := 6) dX4_readStrip_4 rfl (by decide) ?_
  refine j_icmp_lt (tgt := 11) dX4_readStrip_6 rfl (by decide) (fun c1 => ?_) (fun c1 => ?_)
  · have hm := jif_pos c1 hm
    refine j_aload_n dX4_readStrip_11 rfl rfl ?_
    refine j_aload_n dX4_readStrip_12 rfl rfl ?_
    refine m_geti (k := 0) fX4_64 dX4_readStrip_13 rfl rfl rfl ?_
    obtain ⟨p2, ep2, hm⟩ := jb_of hm
    refine o_callS_i kX4_349 dX4_readStrip_16 rfl (tX4_readSet  ep2) rfl rfl (Nat.le_of_ble_eq_true rfl) (by decide) ?_
    refine j_istore_n (i := 2) (L' := [(2, _), (0, _), (1, _)]) dX4_readStrip_19 rfl rfl (by decide) rfl ?_
    refine j_iload_n dX4_readStrip_20 rfl rfl ?_
    refine j_if_ge (tgt := 26) dX4_readStrip_21 rfl (by decide) (fun c3 => ?_) (fun c3 => ?_)
    · have hm := jif_pos c3 hm
      refine j_aload_n dX4_readStrip_26 rfl rfl ?_
      refine j_iload_n dX4_readStrip_27 rfl rfl ?_
      refine j_iconst (v := 0) dX4_readStrip_28 rfl (by decide) ?_
      obtain ⟨p4, ep4, hm⟩ := jb_of hm
      refine o_callV_i kX4_186 dX4_readStrip_29 rfl (tX0_addStrip  ep4) rfl rfl rfl rfl rfl (Nat.le_of_ble_eq_true rfl) (by decide) ?_
      refine j_istore_n (i := 3) (L' := [(3, _), (2, _), (0, _), (1, _)]) dX4_readStrip_32 rfl rfl (by decide) rfl ?_
      refine j_aload_n dX4_readStrip_33 rfl rfl ?_
      refine j_ldcwS (i := 1) (by decide) rfl rfl dX4_readStrip_34 rfl ?_
      obtain ⟨r5, er5, hm⟩ := jb_of hm
      refine o_callV_i kX4_325 dX4_readStrip_37 rfl (tX3_isWord (by decide) er5) rfl rfl rfl rfl rfl (Nat.le_of_ble_eq_true rfl) (by decide) ?_
      refine j_if_eq (tgt := 59) dX4_readStrip_40 rfl (by decide) (fun c6 => ?_) (fun c6 => ?_)
      · have hm := jif_pos c6 hm
        refine j_iconst (v := 1) dX4_readStrip_59 rfl (by decide) ?_
        refine j_goto (tgt := 64) dX4_readStrip_60 (by decide) ?_
        exact j_zreturn dX4_readStrip_64 rfl (by decide) ⟨Nat.le_refl _, Nat.le_refl _⟩ (jf_m (fun z => .int z) hm)
      · have hm := jif_neg c6 hm
        refine j_aload_n dX4_readStrip_43 rfl rfl ?_
        refine j_aload_n dX4_readStrip_44 rfl rfl ?_
        refine m_getr (k := 16) (r := 10) fX4_195 dX4_readStrip_45 rfl rfl rfl ?_
        refine j_iload_n dX4_readStrip_48 rfl rfl ?_
        refine j_iconst (v := 0) dX4_readStrip_49 rfl (by decide) ?_
        refine j_sipush (v := 9999) dX4_readStrip_50 rfl (by decide) ?_
        obtain ⟨p7, ep7, hm⟩ := jb_of hm
        refine o_callS_i kX4_343 dX4_readStrip_53 rfl (tX4_readInto rfl ep7) rfl rfl (Nat.le_of_ble_eq_true rfl) (by decide) ?_
        refine j_if_eq (tgt := 63) dX4_readStrip_56 rfl (by decide) (fun c8 => ?_) (fun c8 => ?_)
        · have hm := jif_pos c8 hm
          refine j_iconst (v := 0) dX4_readStrip_63 rfl (by decide) ?_
          exact j_zreturn dX4_readStrip_64 rfl (by decide) ⟨Nat.le_refl _, Nat.le_refl _⟩ (jf_m (fun z => .int z) hm)
        · have hm := jif_neg c8 hm
          refine j_iconst (v := 1) dX4_readStrip_59 rfl (by decide) ?_
          refine j_goto (tgt := 64) dX4_readStrip_60 (by decide) ?_
          exact j_zreturn dX4_readStrip_64 rfl (by decide) ⟨Nat.le_refl _, Nat.le_refl _⟩ (jf_m (fun z => .int z) hm)
    · have hm := jif_neg c3 hm
      refine j_iconst (v := 0) dX4_readStrip_24 rfl (by decide) ?_
      exact j_zreturn dX4_readStrip_25 rfl (by decide) ⟨Nat.le_refl _, Nat.le_refl _⟩ (jf_m (fun z => .int z) hm)
  · have hm := jif_neg c1 hm
    refine j_iconst (v := 0) dX4_readStrip_9 rfl (by decide) ?_
    exact j_zreturn dX4_readStrip_10 rfl (by decide) ⟨Nat.le_refl _, Nat.le_refl _⟩ (jf_m (fun z => .int z) hm)
theorem dX4_kindName_0 : decode cX4_kindName 0 = .ok (.iload_n 0, 1) := by decide +kernel
theorem dX4_kindName_1 : decode cX4_kindName 1 = .ok (.tableswitch 63 0 5 #[39, 43, 47, 51, 55, 59], 39) := by decide +kernel
theorem dX4_kindName_40 : decode cX4_kindName 40 = .ok (.ldc_w 358, 3) := by decide +kernel
theorem dX4_kindName_43 : decode cX4_kindName 43 = .ok (.areturn, 1) := by decide +kernel
theorem dX4_kindName_44 : decode cX4_kindName 44 = .ok (.ldc_w 360, 3) := by decide +kernel
theorem dX4_kindName_47 : decode cX4_kindName 47 = .ok (.areturn, 1) := by decide +kernel
theorem dX4_kindName_48 : decode cX4_kindName 48 = .ok (.ldc_w 362, 3) := by decide +kernel
theorem dX4_kindName_51 : decode cX4_kindName 51 = .ok (.areturn, 1) := by decide +kernel
theorem dX4_kindName_52 : decode cX4_kindName 52 = .ok (.ldc_w 364, 3) := by decide +kernel
theorem dX4_kindName_55 : decode cX4_kindName 55 = .ok (.areturn, 1) := by decide +kernel
theorem dX4_kindName_56 : decode cX4_kindName 56 = .ok (.ldc_w 366, 3) := by decide +kernel
theorem dX4_kindName_59 : decode cX4_kindName 59 = .ok (.areturn, 1) := by decide +kernel
theorem dX4_kindName_60 : decode cX4_kindName 60 = .ok (.ldc_w 368, 3) := by decide +kernel
theorem dX4_kindName_63 : decode cX4_kindName 63 = .ok (.areturn, 1) := by decide +kernel
theorem dX4_kindName_64 : decode cX4_kindName 64 = .ok (.ldc_w 370, 3) := by decide +kernel
theorem dX4_kindName_67 : decode cX4_kindName 67 = .ok (.areturn, 1) := by decide +kernel
def mX4_kindName (a0 : Int32) : Nat := (if a0 = (0 : Int32) then 2 else (if a0 = (1 : Int32) then 3 else (if a0 = (2 : Int32) then 4 else (if a0 = (3 : Int32) then 5 else (if a0 = (4 : Int32) then 6 else (if a0 = (5 : Int32) then 7 else 8))))))
set_option maxHeartbeats 4000000 in
set_option maxRecDepth 20000 in
theorem tX4_kindName {l : Launch} {Z : jZ} {q : Nat → Nat} {V : jMem} {a0 : Int32} {r : Nat}  (hm : mX4_kindName a0 = r) : CtD l Z yX4_kindName cX4_kindName 1 (some (.object "java/lang/String")) 0 q dX [.int a0] V (some (.ref (Z.2.2.1 r))) V := by
  refine Ct_of (L := [(0, .int a0)]) (own := RX4) (nm := "kindName") rfl rfl (by decide +kernel) rfl (Nat.le_of_ble_eq_true rfl) ?_
  unfold mX4_kindName at hm
  refine j_iload_n dX4_kindName_0 rfl rfl ?_
  by_cases c1 : a0 = (0 : Int32)
  · have hm := jif_pos c1 hm
    refine j_ts_in (z := 0) (off := 39) (tgt := 40) dX4_kindName_1 (j_ts_lit c1 (by decide)) (by decide) (by decide) rfl (by decide) ?_
    refine j_ldcwS (i := 2) (by decide) rfl rfl dX4_kindName_40 rfl ?_
    exact j_areturn dX4_kindName_43 rfl ⟨Nat.le_refl _, Nat.le_refl _⟩ (jf_t (fun z => .ref (Z.2.2.1 z)) hm)
  have hm := jif_neg c1 hm
  by_cases c2 : a0 = (1 : Int32)
  · have hm := jif_pos c2 hm
    refine j_ts_in (z := 1) (off := 43) (tgt := 44) dX4_kindName_1 (j_ts_lit c2 (by decide)) (by decide) (by decide) rfl (by decide) ?_
    refine j_ldcwS (i := 3) (by decide) rfl rfl dX4_kindName_44 rfl ?_
    exact j_areturn dX4_kindName_47 rfl ⟨Nat.le_refl _, Nat.le_refl _⟩ (jf_t (fun z => .ref (Z.2.2.1 z)) hm)
  have hm := jif_neg c2 hm
  by_cases c3 : a0 = (2 : Int32)
  · have hm := jif_pos c3 hm
    refine j_ts_in (z := 2) (off := 47) (tgt := 48) dX4_kindName_1 (j_ts_lit c3 (by decide)) (by decide) (by decide) rfl (by decide) ?_
    refine j_ldcwS (i := 4) (by decide) rfl rfl dX4_kindName_48 rfl ?_
    exact j_areturn dX4_kindName_51 rfl ⟨Nat.le_refl _, Nat.le_refl _⟩ (jf_t (fun z => .ref (Z.2.2.1 z)) hm)
  have hm := jif_neg c3 hm
  by_cases c4 : a0 = (3 : Int32)
  · have hm := jif_pos c4 hm
    refine j_ts_in (z := 3) (off := 51) (tgt := 52) dX4_kindName_1 (j_ts_lit c4 (by decide)) (by decide) (by decide) rfl (by decide) ?_
    refine j_ldcwS (i := 5) (by decide) rfl rfl dX4_kindName_52 rfl ?_
    exact j_areturn dX4_kindName_55 rfl ⟨Nat.le_refl _, Nat.le_refl _⟩ (jf_t (fun z => .ref (Z.2.2.1 z)) hm)
  have hm := jif_neg c4 hm
  by_cases c5 : a0 = (4 : Int32)
  · have hm := jif_pos c5 hm
    refine j_ts_in (z := 4) (off := 55) (tgt := 56) dX4_kindName_1 (j_ts_lit c5 (by decide)) (by decide) (by decide) rfl (by decide) ?_
    refine j_ldcwS (i := 6) (by decide) rfl rfl dX4_kindName_56 rfl ?_
    exact j_areturn dX4_kindName_59 rfl ⟨Nat.le_refl _, Nat.le_refl _⟩ (jf_t (fun z => .ref (Z.2.2.1 z)) hm)
  have hm := jif_neg c5 hm
  by_cases c6 : a0 = (5 : Int32)
  · have hm := jif_pos c6 hm
    refine j_ts_in (z := 5) (off := 59) (tgt := 60) dX4_kindName_1 (j_ts_lit c6 (by decide)) (by decide) (by decide) rfl (by decide) ?_
    refine j_ldcwS (i := 7) (by decide) rfl rfl dX4_kindName_60 rfl ?_
    exact j_areturn dX4_kindName_63 rfl ⟨Nat.le_refl _, Nat.le_refl _⟩ (jf_t (fun z => .ref (Z.2.2.1 z)) hm)
  have hm := jif_neg c6 hm
  refine j_ts_out (tgt := 64) dX4_kindName_1 (by have := j_ts_ne (k := 0) c1 (by decide); have := j_ts_ne (k := 1) c2 (by decide); have := j_ts_ne (k := 2) c3 (by decide); have := j_ts_ne (k := 3) c4 (by decide); have := j_ts_ne (k := 4) c5 (by decide); have := j_ts_ne (k := 5) c6 (by decide); omega) (by decide) ?_
  refine j_ldcwS (i := 8) (by decide) rfl rfl dX4_kindName_64 rfl ?_
  exact j_areturn dX4_kindName_67 rfl ⟨Nat.le_refl _, Nat.le_refl _⟩ (jf_t (fun z => .ref (Z.2.2.1 z)) hm)
theorem ltX4_kindName {a0 : Int32} : mX4_kindName a0 < 15 := by
  unfold mX4_kindName
  (repeat' split) <;> decide
