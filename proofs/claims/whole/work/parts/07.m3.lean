theorem dX5_item_0 : decode cX5_item 0 = .ok (.aload_n 0, 1) := by decide +kernel
theorem dX5_item_1 : decode cX5_item 1 = .ok (.getfield 187, 3) := by decide +kernel
theorem dX5_item_4 : decode cX5_item 4 = .ok (.iconst 1, 1) := by decide +kernel
theorem dX5_item_5 : decode cX5_item 5 = .ok (.if_icmp .ne 10, 3) := by decide +kernel
theorem dX5_item_8 : decode cX5_item 8 = .ok (.aload_n 0, 1) := by decide +kernel
theorem dX5_item_9 : decode cX5_item 9 = .ok (.getfield 197, 3) := by decide +kernel
theorem dX5_item_12 : decode cX5_item 12 = .ok (.goto 4, 3) := by decide +kernel
theorem dX5_item_15 : decode cX5_item 15 = .ok (.iconst (-1), 1) := by decide +kernel
theorem dX5_item_16 : decode cX5_item 16 = .ok (.istore_n 1, 1) := by decide +kernel
theorem dX5_item_17 : decode cX5_item 17 = .ok (.iload_n 1, 1) := by decide +kernel
theorem dX5_item_18 : decode cX5_item 18 = .ok (.ifCond .lt 9, 3) := by decide +kernel
theorem dX5_item_21 : decode cX5_item 21 = .ok (.iload_n 1, 1) := by decide +kernel
theorem dX5_item_22 : decode cX5_item 22 = .ok (.bipush 10, 2) := by decide +kernel
theorem dX5_item_24 : decode cX5_item 24 = .ok (.if_icmp .le 11, 3) := by decide +kernel
theorem dX5_item_27 : decode cX5_item 27 = .ok (.aload_n 0, 1) := by decide +kernel
theorem dX5_item_28 : decode cX5_item 28 = .ok (.iconst 1, 1) := by decide +kernel
theorem dX5_item_29 : decode cX5_item 29 = .ok (.putfield 204, 3) := by decide +kernel
theorem dX5_item_32 : decode cX5_item 32 = .ok (.goto 59, 3) := by decide +kernel
theorem dX5_item_35 : decode cX5_item 35 = .ok (.iload_n 1, 1) := by decide +kernel
theorem dX5_item_36 : decode cX5_item 36 = .ok (.bipush 6, 2) := by decide +kernel
theorem dX5_item_38 : decode cX5_item 38 = .ok (.if_icmp .ge 11, 3) := by decide +kernel
theorem dX5_item_41 : decode cX5_item 41 = .ok (.aload_n 0, 1) := by decide +kernel
theorem dX5_item_42 : decode cX5_item 42 = .ok (.iload_n 1, 1) := by decide +kernel
theorem dX5_item_43 : decode cX5_item 43 = .ok (.invokevirtual 223, 3) := by decide +kernel
theorem dX5_item_46 : decode cX5_item 46 = .ok (.goto 45, 3) := by decide +kernel
theorem dX5_item_49 : decode cX5_item 49 = .ok (.iload_n 1, 1) := by decide +kernel
theorem dX5_item_50 : decode cX5_item 50 = .ok (.bipush 10, 2) := by decide +kernel
theorem dX5_item_52 : decode cX5_item 52 = .ok (.if_icmp .ne 10, 3) := by decide +kernel
theorem dX5_item_55 : decode cX5_item 55 = .ok (.aload_n 0, 1) := by decide +kernel
theorem dX5_item_56 : decode cX5_item 56 = .ok (.invokevirtual 226, 3) := by decide +kernel
theorem dX5_item_59 : decode cX5_item 59 = .ok (.goto 32, 3) := by decide +kernel
theorem dX5_item_62 : decode cX5_item 62 = .ok (.aload_n 0, 1) := by decide +kernel
theorem dX5_item_63 : decode cX5_item 63 = .ok (.invokevirtual 211, 3) := by decide +kernel
theorem dX5_item_66 : decode cX5_item 66 = .ok (.aload_n 0, 1) := by decide +kernel
theorem dX5_item_67 : decode cX5_item 67 = .ok (.iconst 0, 1) := by decide +kernel
theorem dX5_item_68 : decode cX5_item 68 = .ok (.iload_n 1, 1) := by decide +kernel
theorem dX5_item_69 : decode cX5_item 69 = .ok (.bipush 6, 2) := by decide +kernel
theorem dX5_item_71 : decode cX5_item 71 = .ok (.isub, 1) := by decide +kernel
theorem dX5_item_72 : decode cX5_item 72 = .ok (.invokestatic 101, 3) := by decide +kernel
theorem dX5_item_75 : decode cX5_item 75 = .ok (.invokevirtual 214, 3) := by decide +kernel
theorem dX5_item_78 : decode cX5_item 78 = .ok (.istore_n 2, 1) := by decide +kernel
theorem dX5_item_79 : decode cX5_item 79 = .ok (.aload_n 0, 1) := by decide +kernel
theorem dX5_item_80 : decode cX5_item 80 = .ok (.getfield 7, 3) := by decide +kernel
theorem dX5_item_83 : decode cX5_item 83 = .ok (.iconst 3, 1) := by decide +kernel
theorem dX5_item_84 : decode cX5_item 84 = .ok (.iload_n 1, 1) := by decide +kernel
theorem dX5_item_85 : decode cX5_item 85 = .ok (.iadd, 1) := by decide +kernel
theorem dX5_item_86 : decode cX5_item 86 = .ok (.bipush 6, 2) := by decide +kernel
theorem dX5_item_88 : decode cX5_item 88 = .ok (.isub, 1) := by decide +kernel
theorem dX5_item_89 : decode cX5_item 89 = .ok (.iload_n 2, 1) := by decide +kernel
theorem dX5_item_90 : decode cX5_item 90 = .ok (.iastore, 1) := by decide +kernel
theorem dX5_item_91 : decode cX5_item 91 = .ok (.return_, 1) := by decide +kernel
def mX5_item_b27   (V : jMem) : Option jMem := (jl (jsI V 0 20 (1 : Int32)) (fun (V1 : jMem) => (some V1)))
set_option maxHeartbeats 4000000 in
set_option maxRecDepth 20000 in
theorem tX5_item_b27 {l : Launch} {Z : jZ} {q : Nat → Nat} {V : jMem} {V' : jMem}    (hm : mX5_item_b27 V = some V') : J l Z RX5 "item" cX5_item 3 none 6 0 0 (fun r' w => r' = none ∧ w = jw Z q V' dM) 27 [(0, .ref (q 0))] [] (jw Z q V dM) 0 0 := by
  unfold mX5_item_b27 at hm
  refine j_aload_n dX5_item_27 rfl rfl ?_
  refine j_iconst (v := 1) dX5_item_28 rfl (by decide) ?_
  refine m_putz (k := 20) fX5_204 dX5_item_29 rfl rfl rfl (by decide) ?_
  obtain ⟨V1, eV1⟩ : ∃ y, y = (jsI V 0 20 (1 : Int32)) := ⟨_, rfl⟩
  have hm := jl_of hm eV1
  rw [← eV1]
  refine j_goto (tgt := 91) dX5_item_32 (by decide) ?_
  exact j_return dX5_item_91 rfl ⟨Nat.le_refl _, Nat.le_refl _⟩ (jf_v hm)
def mX5_item_b16   (s0 : Int32) (V : jMem) : Option jMem := (if s0 < (0 : Int32) then (mX5_item_b27 V) else (if s0 ≤ (10 : Int32) then (if (6 : Int32) ≤ s0 then (if s0 = (10 : Int32) then ((mX5_stripItem V).bind (fun (p9 : jMem) => (some p9))) else ((mX5_goesOn V).bind (fun (p5 : jMem) => ((mX5_number (0 : Int32) (mX5_mostOf (s0 - (6 : Int32))) p5).bind (fun (p6 : Int32 × jMem) => (jg (jin (((3 : Int32) + s0) - (6 : Int32)) 120) (jl (jsI p6.2 1 (Int32.toNatClampNeg (((3 : Int32) + s0) - (6 : Int32))) p6.1) (fun (V8 : jMem) => (some V8))))))))) else ((mX5_fieldItem s0 V).bind (fun (p10 : jMem) => (some p10)))) else (mX5_item_b27 V)))
set_option maxHeartbeats 4000000 in
set_option maxRecDepth 20000 in
theorem tX5_item_b16 {l : Launch} {Z : jZ} {q : Nat → Nat} {s0 : Int32} {V : jMem} {V' : jMem}    (hm : mX5_item_b16 s0 V = some V') : J l Z RX5 "item" cX5_item 3 none 6 0 0 (fun r' w => r' = none ∧ w = jw Z q V' dM) 16 [(0, .ref (q 0))] [.int s0] (jw Z q V dM) 0 0 := by
  unfold mX5_item_b16 at hm
  refine j_istore_n (i := 1) (L' := [(1, _), (0, _)]) dX5_item_16 rfl rfl (by decide) rfl ?_
  refine j_iload_n dX5_item_17 rfl rfl ?_
  refine j_if_lt (tgt := 27) dX5_item_18 rfl (by decide) (fun c1 => ?_) (fun c1 => ?_)
  · have hm := jif_pos c1 hm
    refine j_sub (L' := [(0, _)]) [1] rfl ?_
    exact tX5_item_b27    hm
  · have hm := jif_neg c1 hm
    refine j_iload_n dX5_item_21 rfl rfl ?_
    refine j_bipush (v := 10) dX5_item_22 rfl (by decide) ?_
    refine j_icmp_le (tgt := 35) dX5_item_24 rfl (by decide) (fun c2 => ?_) (fun c2 => ?_)
    · have hm := jif_pos c2 hm
      refine j_iload_n dX5_item_35 rfl rfl ?_
      refine j_bipush (v := 6) dX5_item_36 rfl (by decide) ?_
      refine j_icmp_ge (tgt := 49) dX5_item_38 rfl (by decide) (fun c3 => ?_) (fun c3 => ?_)
      · have hm := jif_pos c3 hm
        refine j_iload_n dX5_item_49 rfl rfl ?_
        refine j_bipush (v := 10) dX5_item_50 rfl (by decide) ?_
        refine j_icmp_ne (tgt := 62) dX5_item_52 rfl (by decide) (fun c4 => ?_) (fun c4 => ?_)
        · have hm := jif_neg c4 hm
          refine j_aload_n dX5_item_62 rfl rfl ?_
          obtain ⟨p5, ep5, hm⟩ := jb_of hm
          refine o_callV_v kX5_211 dX5_item_63 rfl (tX5_goesOn  ep5) rfl rfl rfl rfl rfl (Nat.le_of_ble_eq_true rfl) (by decide) ?_
          refine j_aload_n dX5_item_66 rfl rfl ?_
          refine j_iconst (v := 0) dX5_item_67 rfl (by decide) ?_
          refine j_iload_n dX5_item_68 rfl rfl ?_
          refine j_bipush (v := 6) dX5_item_69 rfl (by decide) ?_
          refine j_isub dX5_item_71 rfl ?_
          refine o_callS_i kX5_101 dX5_item_72 rfl (tX5_mostOf  rfl) rfl rfl (Nat.le_of_ble_eq_true rfl) (by decide) ?_
          obtain ⟨p6, ep6, hm⟩ := jb_of hm
          refine o_callV_i kX5_214 dX5_item_75 rfl (tX5_number  ep6) rfl rfl rfl rfl rfl (Nat.le_of_ble_eq_true rfl) (by decide) ?_
          refine j_istore_n (i := 2) (L' := [(2, _), (1, _), (0, _)]) dX5_item_78 rfl rfl (by decide) rfl ?_
          refine j_aload_n dX5_item_79 rfl rfl ?_
          refine m_getr (k := 0) (r := 1) fX5_7 dX5_item_80 rfl rfl rfl ?_
          refine j_iconst (v := 3) dX5_item_83 rfl (by decide) ?_
          refine j_iload_n dX5_item_84 rfl rfl ?_
          refine j_iadd dX5_item_85 rfl ?_
          refine j_bipush (v := 6) dX5_item_86 rfl (by decide) ?_
          refine j_isub dX5_item_88 rfl ?_
          refine j_iload_n dX5_item_89 rfl rfl ?_
          obtain ⟨g7, hm⟩ := jg_of hm
          refine o_iast (k := (Int32.toNatClampNeg (((3 : Int32) + s0) - (6 : Int32)))) rfl dX5_item_90 rfl rfl (jin_vp g7) ?_
          obtain ⟨V8, eV8⟩ : ∃ y, y = (jsI p6.2 1 (Int32.toNatClampNeg (((3 : Int32) + s0) - (6 : Int32))) p6.1) := ⟨_, rfl⟩
          have hm := jl_of hm eV8
          rw [← eV8]
          exact j_return dX5_item_91 rfl ⟨Nat.le_refl _, Nat.le_refl _⟩ (jf_v hm)
        · have hm := jif_pos c4 hm
          refine j_aload_n dX5_item_55 rfl rfl ?_
          obtain ⟨p9, ep9, hm⟩ := jb_of hm
          refine o_callV_v kX5_226 dX5_item_56 rfl (tX5_stripItem  ep9) rfl rfl rfl rfl rfl (Nat.le_of_ble_eq_true rfl) (by decide) ?_
          refine j_goto (tgt := 91) dX5_item_59 (by decide) ?_
          exact j_return dX5_item_91 rfl ⟨Nat.le_refl _, Nat.le_refl _⟩ (jf_v hm)
      · have hm := jif_neg c3 hm
        refine j_aload_n dX5_item_41 rfl rfl ?_
        refine j_iload_n dX5_item_42 rfl rfl ?_
        obtain ⟨p10, ep10, hm⟩ := jb_of hm
        refine o_callV_v kX5_223 dX5_item_43 rfl (tX5_fieldItem  ep10) rfl rfl rfl rfl rfl (Nat.le_of_ble_eq_true rfl) (by decide) ?_
        refine j_goto (tgt := 91) dX5_item_46 (by decide) ?_
        exact j_return dX5_item_91 rfl ⟨Nat.le_refl _, Nat.le_refl _⟩ (jf_v hm)
    · have hm := jif_neg c2 hm
      refine j_sub (L' := [(0, _)]) [1] rfl ?_
      exact tX5_item_b27    hm
def mX5_item (V : jMem) : Option jMem := (if (V.1 0 18) = (1 : Int32) then (mX5_item_b16 (V.1 0 19) V) else (mX5_item_b16 (-1 : Int32) V))
set_option maxHeartbeats 4000000 in
set_option maxRecDepth 20000 in
theorem tX5_item {l : Launch} {Z : jZ} {q : Nat → Nat} {V : jMem} {V' : jMem}  (hm : mX5_item V = some V') : CtD l Z yX5_item cX5_item 3 none 6 q dM [.ref (q 0)] V none V' := by
  refine Ct_of (L := [(0, .ref (q 0))]) (own := RX5) (nm := "item") rfl rfl (by decide +kernel) rfl (Nat.le_of_ble_eq_true rfl) ?_
  unfold mX5_item at hm
  refine j_aload_n dX5_item_0 rfl rfl ?_
  refine m_geti (k := 18) fX5_187 dX5_item_1 rfl rfl rfl ?_
  refine j_iconst (v := 1) dX5_item_4 rfl (by decide) ?_
  refine j_icmp_ne (tgt := 15) dX5_item_5 rfl (by decide) (fun c1 => ?_) (fun c1 => ?_)
  · have hm := jif_neg c1 hm
    refine j_iconst (v := -1) dX5_item_15 rfl (by decide) ?_
    exact tX5_item_b16    hm
  · have hm := jif_pos c1 hm
    refine j_aload_n dX5_item_8 rfl rfl ?_
    refine m_geti (k := 19) fX5_197 dX5_item_9 rfl rfl rfl ?_
    refine j_goto (tgt := 16) dX5_item_12 (by decide) ?_
    exact tX5_item_b16    hm
theorem dX5_plan_0 : decode cX5_plan 0 = .ok (.iconst 0, 1) := by decide +kernel
theorem dX5_plan_1 : decode cX5_plan 1 = .ok (.istore_n 1, 1) := by decide +kernel
theorem dX5_plan_2 : decode cX5_plan 2 = .ok (.iload_n 1, 1) := by decide +kernel
theorem dX5_plan_3 : decode cX5_plan 3 = .ok (.bipush 120, 2) := by decide +kernel
theorem dX5_plan_5 : decode cX5_plan 5 = .ok (.if_icmp .ge 21, 3) := by decide +kernel
theorem dX5_plan_8 : decode cX5_plan 8 = .ok (.aload_n 0, 1) := by decide +kernel
theorem dX5_plan_9 : decode cX5_plan 9 = .ok (.getfield 16, 3) := by decide +kernel
theorem dX5_plan_12 : decode cX5_plan 12 = .ok (.iload_n 1, 1) := by decide +kernel
theorem dX5_plan_13 : decode cX5_plan 13 = .ok (.aload_n 0, 1) := by decide +kernel
theorem dX5_plan_14 : decode cX5_plan 14 = .ok (.getfield 7, 3) := by decide +kernel
theorem dX5_plan_17 : decode cX5_plan 17 = .ok (.iload_n 1, 1) := by decide +kernel
theorem dX5_plan_18 : decode cX5_plan 18 = .ok (.iaload, 1) := by decide +kernel
theorem dX5_plan_19 : decode cX5_plan 19 = .ok (.iastore, 1) := by decide +kernel
theorem dX5_plan_20 : decode cX5_plan 20 = .ok (.iinc 1 1, 3) := by decide +kernel
theorem dX5_plan_23 : decode cX5_plan 23 = .ok (.goto (-21), 3) := by decide +kernel
theorem dX5_plan_26 : decode cX5_plan 26 = .ok (.aload_n 0, 1) := by decide +kernel
theorem dX5_plan_27 : decode cX5_plan 27 = .ok (.iconst 0, 1) := by decide +kernel
theorem dX5_plan_28 : decode cX5_plan 28 = .ok (.putfield 181, 3) := by decide +kernel
theorem dX5_plan_31 : decode cX5_plan 31 = .ok (.aload_n 0, 1) := by decide +kernel
theorem dX5_plan_32 : decode cX5_plan 32 = .ok (.iconst 0, 1) := by decide +kernel
theorem dX5_plan_33 : decode cX5_plan 33 = .ok (.putfield 204, 3) := by decide +kernel
theorem dX5_plan_36 : decode cX5_plan 36 = .ok (.aload_n 0, 1) := by decide +kernel
theorem dX5_plan_37 : decode cX5_plan 37 = .ok (.invokevirtual 211, 3) := by decide +kernel
theorem dX5_plan_40 : decode cX5_plan 40 = .ok (.aload_n 0, 1) := by decide +kernel
theorem dX5_plan_41 : decode cX5_plan 41 = .ok (.invokevirtual 229, 3) := by decide +kernel
theorem dX5_plan_44 : decode cX5_plan 44 = .ok (.iconst 1, 1) := by decide +kernel
theorem dX5_plan_45 : decode cX5_plan 45 = .ok (.istore_n 1, 1) := by decide +kernel
theorem dX5_plan_46 : decode cX5_plan 46 = .ok (.aload_n 0, 1) := by decide +kernel
theorem dX5_plan_47 : decode cX5_plan 47 = .ok (.getfield 204, 3) := by decide +kernel
theorem dX5_plan_50 : decode cX5_plan 50 = .ok (.ifCond .ne 25, 3) := by decide +kernel
theorem dX5_plan_53 : decode cX5_plan 53 = .ok (.aload_n 0, 1) := by decide +kernel
theorem dX5_plan_54 : decode cX5_plan 54 = .ok (.getfield 187, 3) := by decide +kernel
theorem dX5_plan_57 : decode cX5_plan 57 = .ok (.iconst 3, 1) := by decide +kernel
theorem dX5_plan_58 : decode cX5_plan 58 = .ok (.if_icmp .ne 17, 3) := by decide +kernel
theorem dX5_plan_61 : decode cX5_plan 61 = .ok (.aload_n 0, 1) := by decide +kernel
theorem dX5_plan_62 : decode cX5_plan 62 = .ok (.invokevirtual 211, 3) := by decide +kernel
theorem dX5_plan_65 : decode cX5_plan 65 = .ok (.aload_n 0, 1) := by decide +kernel
theorem dX5_plan_66 : decode cX5_plan 66 = .ok (.invokevirtual 229, 3) := by decide +kernel
theorem dX5_plan_69 : decode cX5_plan 69 = .ok (.iinc 1 1, 3) := by decide +kernel
theorem dX5_plan_72 : decode cX5_plan 72 = .ok (.goto (-26), 3) := by decide +kernel
theorem dX5_plan_75 : decode cX5_plan 75 = .ok (.aload_n 0, 1) := by decide +kernel
theorem dX5_plan_76 : decode cX5_plan 76 = .ok (.aload_n 0, 1) := by decide +kernel
theorem dX5_plan_77 : decode cX5_plan 77 = .ok (.getfield 204, 3) := by decide +kernel
theorem dX5_plan_80 : decode cX5_plan 80 = .ok (.ifCond .ne 10, 3) := by decide +kernel
theorem dX5_plan_83 : decode cX5_plan 83 = .ok (.aload_n 0, 1) := by decide +kernel
theorem dX5_plan_84 : decode cX5_plan 84 = .ok (.getfield 187, 3) := by decide +kernel
theorem dX5_plan_87 : decode cX5_plan 87 = .ok (.ifCond .eq 7, 3) := by decide +kernel
theorem dX5_plan_90 : decode cX5_plan 90 = .ok (.iconst 1, 1) := by decide +kernel
theorem dX5_plan_91 : decode cX5_plan 91 = .ok (.goto 4, 3) := by decide +kernel
theorem dX5_plan_94 : decode cX5_plan 94 = .ok (.iconst 0, 1) := by decide +kernel
theorem dX5_plan_95 : decode cX5_plan 95 = .ok (.putfield 204, 3) := by decide +kernel
theorem dX5_plan_98 : decode cX5_plan 98 = .ok (.aload_n 0, 1) := by decide +kernel
theorem dX5_plan_99 : decode cX5_plan 99 = .ok (.iconst 0, 1) := by decide +kernel
theorem dX5_plan_100 : decode cX5_plan 100 = .ok (.putfield 175, 3) := by decide +kernel
theorem dX5_plan_103 : decode cX5_plan 103 = .ok (.aload_n 0, 1) := by decide +kernel
theorem dX5_plan_104 : decode cX5_plan 104 = .ok (.getfield 204, 3) := by decide +kernel
theorem dX5_plan_107 : decode cX5_plan 107 = .ok (.ifCond .ne 5, 3) := by decide +kernel
theorem dX5_plan_110 : decode cX5_plan 110 = .ok (.iload_n 1, 1) := by decide +kernel
theorem dX5_plan_111 : decode cX5_plan 111 = .ok (.ireturn, 1) := by decide +kernel
theorem dX5_plan_112 : decode cX5_plan 112 = .ok (.iconst 0, 1) := by decide +kernel
theorem dX5_plan_113 : decode cX5_plan 113 = .ok (.istore_n 2, 1) := by decide +kernel
theorem dX5_plan_114 : decode cX5_plan 114 = .ok (.iload_n 2, 1) := by decide +kernel
theorem dX5_plan_115 : decode cX5_plan 115 = .ok (.bipush 120, 2) := by decide +kernel
theorem dX5_plan_117 : decode cX5_plan 117 = .ok (.if_icmp .ge 21, 3) := by decide +kernel
theorem dX5_plan_120 : decode cX5_plan 120 = .ok (.aload_n 0, 1) := by decide +kernel
theorem dX5_plan_121 : decode cX5_plan 121 = .ok (.getfield 7, 3) := by decide +kernel
theorem dX5_plan_124 : decode cX5_plan 124 = .ok (.iload_n 2, 1) := by decide +kernel
theorem dX5_plan_125 : decode cX5_plan 125 = .ok (.aload_n 0, 1) := by decide +kernel
theorem dX5_plan_126 : decode cX5_plan 126 = .ok (.getfield 16, 3) := by decide +kernel
theorem dX5_plan_129 : decode cX5_plan 129 = .ok (.iload_n 2, 1) := by decide +kernel
theorem dX5_plan_130 : decode cX5_plan 130 = .ok (.iaload, 1) := by decide +kernel
theorem dX5_plan_131 : decode cX5_plan 131 = .ok (.iastore, 1) := by decide +kernel
theorem dX5_plan_132 : decode cX5_plan 132 = .ok (.iinc 2 1, 3) := by decide +kernel
theorem dX5_plan_135 : decode cX5_plan 135 = .ok (.goto (-21), 3) := by decide +kernel
theorem dX5_plan_138 : decode cX5_plan 138 = .ok (.iconst (-1), 1) := by decide +kernel
theorem dX5_plan_139 : decode cX5_plan 139 = .ok (.aload_n 0, 1) := by decide +kernel
theorem dX5_plan_140 : decode cX5_plan 140 = .ok (.getfield 178, 3) := by decide +kernel
theorem dX5_plan_143 : decode cX5_plan 143 = .ok (.isub, 1) := by decide +kernel
theorem dX5_plan_144 : decode cX5_plan 144 = .ok (.ireturn, 1) := by decide +kernel
def mX5_plan_b114   : Nat → Int32 → jMem → Option (Int32 × jMem)
  | 0, _, _ => none
  | n + 1, a2, V => (if (120 : Int32) ≤ a2 then (some (((-1 : Int32) - (V.1 0 16)), V)) else (jg (jin a2 120) (jl (jsI V 1 (Int32.toNatClampNeg a2) (V.1 3 (Int32.toNatClampNeg a2))) (fun (V3 : jMem) => (mX5_plan_b114 n (a2 + (1 : Int32)) V3)))))
set_option maxHeartbeats 4000000 in
set_option maxRecDepth 20000 in
theorem tX5_plan_b114 {l : Launch} {Z : jZ} {q : Nat → Nat}  {r : Int32} {V' : jMem}   (n : Nat) : ∀ (a2 : Int32) (V : jMem), mX5_plan_b114 n a2 V = some (r, V') → J l Z RX5 "plan" cX5_plan 3 (some .int) 7 0 0 (fun r' w => r' = some (.int r) ∧ w = jw Z q V' dM) 114 [(0, .ref (q 0)), (2, .int a2)] [] (jw Z q V dM) 0 0 := by
  induction n with
  | zero => intro a2 V hm; cases hm
  | succ n ih =>
    intro a2 V hm
    rw [mX5_plan_b114] at hm
    refine j_iload_n dX5_plan_114 rfl rfl ?_
    refine j_bipush (v := 120) dX5_plan_115 rfl (by decide) ?_
    refine j_icmp_ge (tgt := 138) dX5_plan_117 rfl (by decide) (fun c1 => ?_) (fun c1 => ?_)
    · have hm := jif_pos c1 hm
      refine j_iconst (v := -1) dX5_plan_138 rfl (by decide) ?_
      refine j_aload_n dX5_plan_139 rfl rfl ?_
      refine m_geti (k := 16) fX5_178 dX5_plan_140 rfl rfl rfl ?_
      refine j_isub dX5_plan_143 rfl ?_
      exact j_ireturn dX5_plan_144 rfl rfl ⟨Nat.le_refl _, Nat.le_refl _⟩ (jf_m (fun z => .int z) hm)
    · have hm := jif_neg c1 hm
      refine j_aload_n dX5_plan_120 rfl rfl ?_
      refine m_getr (k := 0) (r := 1) fX5_7 dX5_plan_121 rfl rfl rfl ?_
      refine j_iload_n dX5_plan_124 rfl rfl ?_
      refine j_aload_n dX5_plan_125 rfl rfl ?_
      refine m_getr (k := 2) (r := 3) fX5_16 dX5_plan_126 rfl rfl rfl ?_
      refine j_iload_n dX5_plan_129 rfl rfl ?_
      obtain ⟨g2, hm⟩ := jg_of hm
      refine o_iald (k := (Int32.toNatClampNeg a2)) rfl dX5_plan_130 rfl rfl (jin_vp g2) ?_
      refine o_iast (k := (Int32.toNatClampNeg a2)) rfl dX5_plan_131 rfl rfl (jin_vp g2) ?_
      obtain ⟨V3, eV3⟩ : ∃ y, y = (jsI V 1 (Int32.toNatClampNeg a2) (V.1 3 (Int32.toNatClampNeg a2))) := ⟨_, rfl⟩
      have hm := jl_of hm eV3
      rw [← eV3]
      refine j_iinc (v := (a2 + (1 : Int32))) (L' := [(2, _), (0, _)]) dX5_plan_132 rfl rfl rfl (by decide) rfl ?_
      refine j_goto (tgt := 114) dX5_plan_135 (by decide) ?_
      refine j_sub (L' := [(0, _), (2, _)]) [1, 0] rfl ?_
      exact ih _ _  hm
def mX5_plan_b95   (a1 : Int32) (s0 : Int32) (V : jMem) : Option (Int32 × jMem) := (jg (jzb s0) (jl (jsI V 0 20 s0) (fun (V2 : jMem) => (jl (jsI V2 0 8 (0 : Int32)) (fun (V3 : jMem) => (if (V3.1 0 20) = (0 : Int32) then (some (a1, V3)) else (mX5_plan_b114 2000 (0 : Int32) V3)))))))
set_option maxHeartbeats 4000000 in
set_option maxRecDepth 20000 in
theorem tX5_plan_b95 {l : Launch} {Z : jZ} {q : Nat → Nat} {a1 : Int32} {s0 : Int32} {V : jMem} {r : Int32} {V' : jMem}    (hm : mX5_plan_b95 a1 s0 V = some (r, V')) : J l Z RX5 "plan" cX5_plan 3 (some .int) 7 0 0 (fun r' w => r' = some (.int r) ∧ w = jw Z q V' dM) 95 [(0, .ref (q 0)), (1, .int a1)] [.int s0, .ref (q 0)] (jw Z q V dM) 0 0 := by
  unfold mX5_plan_b95 at hm
  obtain ⟨g1, hm⟩ := jg_of hm
  refine m_putz (k := 20) fX5_204 dX5_plan_95 rfl rfl rfl (jzb_of g1) ?_
  obtain ⟨V2, eV2⟩ : ∃ y, y = (jsI V 0 20 s0) := ⟨_, rfl⟩
  have hm := jl_of hm eV2
  rw [← eV2]
  refine j_aload_n dX5_plan_98 rfl rfl ?_
  refine j_iconst (v := 0) dX5_plan_99 rfl (by decide) ?_
  refine m_puti (k := 8) fX5_175 dX5_plan_100 rfl rfl rfl ?_
  obtain ⟨V3, eV3⟩ : ∃ y, y = (jsI V2 0 8 (0 : Int32)) := ⟨_, rfl⟩
  have hm := jl_of hm eV3
  rw [← eV3]
  refine j_aload_n dX5_plan_103 rfl rfl ?_
  refine m_geti (k := 20) fX5_204 dX5_plan_104 rfl rfl rfl ?_
  refine j_if_ne (tgt := 112) dX5_plan_107 rfl (by decide) (fun c4 => ?_) (fun c4 => ?_)
  · have hm := jif_neg c4 hm
    refine j_iconst (v := 0) dX5_plan_112 rfl (by decide) ?_
    refine j_istore_n (i := 2) (L' := [(2, _), (0, _), (1, _)]) dX5_plan_113 rfl rfl (by decide) rfl ?_
    refine j_sub (L' := [(0, _), (2, _)]) [1, 0] rfl ?_
    exact tX5_plan_b114   _ _ _  hm
  · have hm := jif_pos c4 hm
    refine j_iload_n dX5_plan_110 rfl rfl ?_
    exact j_ireturn dX5_plan_111 rfl rfl ⟨Nat.le_refl _, Nat.le_refl _⟩ (jf_m (fun z => .int z) hm)
def mX5_plan_b90   (a1 : Int32) (V : jMem) : Option (Int32 × jMem) := (mX5_plan_b95 a1 (1 : Int32) V)
set_option maxHeartbeats 4000000 in
set_option maxRecDepth 20000 in
theorem tX5_plan_b90 {l : Launch} {Z : jZ} {q : Nat → Nat} {a1 : Int32} {V : jMem} {r : Int32} {V' : jMem}    (hm : mX5_plan_b90 a1 V = some (r, V')) : J l Z RX5 "plan" cX5_plan 3 (some .int) 7 0 0 (fun r' w => r' = some (.int r) ∧ w = jw Z q V' dM) 90 [(0, .ref (q 0)), (1, .int a1)] [.ref (q 0)] (jw Z q V dM) 0 0 := by
  unfold mX5_plan_b90 at hm
  refine j_iconst (v := 1) dX5_plan_90 rfl (by decide) ?_
  refine j_goto (tgt := 95) dX5_plan_91 (by decide) ?_
  exact tX5_plan_b95    hm
def mX5_plan_b75   (a1 : Int32) (V : jMem) : Option (Int32 × jMem) := (if (V.1 0 20) = (0 : Int32) then (if (V.1 0 18) = (0 : Int32) then (mX5_plan_b95 a1 (0 : Int32) V) else (mX5_plan_b90 a1 V)) else (mX5_plan_b90 a1 V))
set_option maxHeartbeats 4000000 in
set_option maxRecDepth 20000 in
theorem tX5_plan_b75 {l : Launch} {Z : jZ} {q : Nat → Nat} {a1 : Int32} {V : jMem} {r : Int32} {V' : jMem}    (hm : mX5_plan_b75 a1 V = some (r, V')) : J l Z RX5 "plan" cX5_plan 3 (some .int) 7 0 0 (fun r' w => r' = some (.int r) ∧ w = jw Z q V' dM) 75 [(0, .ref (q 0)), (1, .int a1)] [] (jw Z q V dM) 0 0 := by
  unfold mX5_plan_b75 at hm
  refine j_aload_n dX5_plan_75 rfl rfl ?_
  refine j_aload_n dX5_plan_76 rfl rfl ?_
  refine m_geti (k := 20) fX5_204 dX5_plan_77 rfl rfl rfl ?_
  refine j_if_ne (tgt := 90) dX5_plan_80 rfl (by decide) (fun c1 => ?_) (fun c1 => ?_)
  · have hm := jif_neg c1 hm
    exact tX5_plan_b90    hm
  · have hm := jif_pos c1 hm
    refine j_aload_n dX5_plan_83 rfl rfl ?_
    refine m_geti (k := 18) fX5_187 dX5_plan_84 rfl rfl rfl ?_
    refine j_if_eq (tgt := 94) dX5_plan_87 rfl (by decide) (fun c2 => ?_) (fun c2 => ?_)
    · have hm := jif_pos c2 hm
      refine j_iconst (v := 0) dX5_plan_94 rfl (by decide) ?_
      exact tX5_plan_b95    hm
    · have hm := jif_neg c2 hm
      exact tX5_plan_b90    hm
def mX5_plan_b46   : Nat → Int32 → jMem → Option (Int32 × jMem)
  | 0, _, _ => none
  | n + 1, a1, V => (if (V.1 0 20) = (0 : Int32) then (if (V.1 0 18) = (3 : Int32) then ((mX5_goesOn V).bind (fun (p3 : jMem) => ((mX5_item p3).bind (fun (p4 : jMem) => (mX5_plan_b46 n (a1 + (1 : Int32)) p4))))) else (mX5_plan_b75 a1 V)) else (mX5_plan_b75 a1 V))
set_option maxHeartbeats 4000000 in
set_option maxRecDepth 20000 in
theorem tX5_plan_b46 {l : Launch} {Z : jZ} {q : Nat → Nat}  {r : Int32} {V' : jMem}   (n : Nat) : ∀ (a1 : Int32) (V : jMem), mX5_plan_b46 n a1 V = some (r, V') → J l Z RX5 "plan" cX5_plan 3 (some .int) 7 0 0 (fun r' w => r' = some (.int r) ∧ w = jw Z q V' dM) 46 [(0, .ref (q 0)), (1, .int a1)] [] (jw Z q V dM) 0 0 := by
  induction n with
  | zero => intro a1 V hm; cases hm
  | succ n ih =>
    intro a1 V hm
    rw [mX5_plan_b46] at hm
    refine j_aload_n dX5_plan_46 rfl rfl ?_
    refine m_geti (k := 20) fX5_204 dX5_plan_47 rfl rfl rfl ?_
    refine j_if_ne (tgt := 75) dX5_plan_50 rfl (by decide) (fun c1 => ?_) (fun c1 => ?_)
    · have hm := jif_neg c1 hm
      exact tX5_plan_b75    hm
    · have hm := jif_pos c1 hm
      refine j_aload_n dX5_plan_53 rfl rfl ?_
      refine m_geti (k := 18) fX5_187 dX5_plan_54 rfl rfl rfl ?_
      refine j_iconst (v := 3) dX5_plan_57 rfl (by decide) ?_
      refine j_icmp_ne (tgt := 75) dX5_plan_58 rfl (by decide) (fun c2 => ?_) (fun c2 => ?_)
      · have hm := jif_neg c2 hm
        exact tX5_plan_b75    hm
      · have hm := jif_pos c2 hm
        refine j_aload_n dX5_plan_61 rfl rfl ?_
        obtain ⟨p3, ep3, hm⟩ := jb_of hm
        refine o_callV_v kX5_211 dX5_plan_62 rfl (tX5_goesOn  ep3) rfl rfl rfl rfl rfl (Nat.le_of_ble_eq_true rfl) (by decide) ?_
        refine j_aload_n dX5_plan_65 rfl rfl ?_
        obtain ⟨p4, ep4, hm⟩ := jb_of hm
        refine o_callV_v kX5_229 dX5_plan_66 rfl (tX5_item  ep4) rfl rfl rfl rfl rfl (Nat.le_of_ble_eq_true rfl) (by decide) ?_
        refine j_iinc (v := (a1 + (1 : Int32))) (L' := [(1, _), (0, _)]) dX5_plan_69 rfl rfl rfl (by decide) rfl ?_
        refine j_goto (tgt := 46) dX5_plan_72 (by decide) ?_
        refine j_sub (L' := [(0, _), (1, _)]) [1, 0] rfl ?_
        exact ih _ _  hm
def mX5_plan_b2   : Nat → Int32 → jMem → Option (Int32 × jMem)
  | 0, _, _ => none
  | n + 1, a1, V => (if (120 : Int32) ≤ a1 then (jl (jsI V 0 17 (0 : Int32)) (fun (V2 : jMem) => (jl (jsI V2 0 20 (0 : Int32)) (fun (V3 : jMem) => ((mX5_goesOn V3).bind (fun (p4 : jMem) => ((mX5_item p4).bind (fun (p5 : jMem) => (mX5_plan_b46 2000 (1 : Int32) p5))))))))) else (jg (jin a1 120) (jl (jsI V 3 (Int32.toNatClampNeg a1) (V.1 1 (Int32.toNatClampNeg a1))) (fun (V7 : jMem) => (mX5_plan_b2 n (a1 + (1 : Int32)) V7)))))
set_option maxHeartbeats 4000000 in
set_option maxRecDepth 20000 in
theorem tX5_plan_b2 {l : Launch} {Z : jZ} {q : Nat → Nat}  {r : Int32} {V' : jMem}   (n : Nat) : ∀ (a1 : Int32) (V : jMem), mX5_plan_b2 n a1 V = some (r, V') → J l Z RX5 "plan" cX5_plan 3 (some .int) 7 0 0 (fun r' w => r' = some (.int r) ∧ w = jw Z q V' dM) 2 [(0, .ref (q 0)), (1, .int a1)] [] (jw Z q V dM) 0 0 := by
  induction n with
  | zero => intro a1 V hm; cases hm
  | succ n ih =>
    intro a1 V hm
    rw [mX5_plan_b2] at hm
    refine j_iload_n dX5_plan_2 rfl rfl ?_
    refine j_bipush (v := 120) dX5_plan_3 rfl (by decide) ?_
    refine j_icmp_ge (tgt := 26) dX5_plan_5 rfl (by decide) (fun c1 => ?_) (fun c1 => ?_)
    · have hm := jif_pos c1 hm
      refine j_aload_n dX5_plan_26 rfl rfl ?_
      refine j_iconst (v := 0) dX5_plan_27 rfl (by decide) ?_
      refine m_puti (k := 17) fX5_181 dX5_plan_28 rfl rfl rfl ?_
      obtain ⟨V2, eV2⟩ : ∃ y, y = (jsI V 0 17 (0 : Int32)) := ⟨_, rfl⟩
      have hm := jl_of hm eV2
      rw [← eV2]
      refine j_aload_n dX5_plan_31 rfl rfl ?_
      refine j_iconst (v := 0) dX5_plan_32 rfl (by decide) ?_
      refine m_putz (k := 20) fX5_204 dX5_plan_33 rfl rfl rfl (by decide) ?_
      obtain ⟨V3, eV3⟩ : ∃ y, y = (jsI V2 0 20 (0 : Int32)) := ⟨_, rfl⟩
      have hm := jl_of hm eV3
      rw [← eV3]
      refine j_aload_n dX5_plan_36 rfl rfl ?_
      obtain ⟨p4, ep4, hm⟩ := jb_of hm
      refine o_callV_v kX5_211 dX5_plan_37 rfl (tX5_goesOn  ep4) rfl rfl rfl rfl rfl (Nat.le_of_ble_eq_true rfl) (by decide) ?_
      refine j_aload_n dX5_plan_40 rfl rfl ?_
      obtain ⟨p5, ep5, hm⟩ := jb_of hm
      refine o_callV_v kX5_229 dX5_plan_41 rfl (tX5_item  ep5) rfl rfl rfl rfl rfl (Nat.le_of_ble_eq_true rfl) (by decide) ?_
      refine j_iconst (v := 1) dX5_plan_44 rfl (by decide) ?_
      refine j_istore_n (i := 1) (L' := [(1, _), (0, _)]) dX5_plan_45 rfl rfl (by decide) rfl ?_
      refine j_sub (L' := [(0, _), (1, _)]) [1, 0] rfl ?_
      exact tX5_plan_b46   _ _ _  hm
    · have hm := jif_neg c1 hm
      refine j_aload_n dX5_plan_8 rfl rfl ?_
      refine m_getr (k := 2) (r := 3) fX5_16 dX5_plan_9 rfl rfl rfl ?_
      refine j_iload_n dX5_plan_12 rfl rfl ?_
      refine j_aload_n dX5_plan_13 rfl rfl ?_
      refine m_getr (k := 0) (r := 1) fX5_7 dX5_plan_14 rfl rfl rfl ?_
      refine j_iload_n dX5_plan_17 rfl rfl ?_
      obtain ⟨g6, hm⟩ := jg_of hm
      refine o_iald (k := (Int32.toNatClampNeg a1)) rfl dX5_plan_18 rfl rfl (jin_vp g6) ?_
      refine o_iast (k := (Int32.toNatClampNeg a1)) rfl dX5_plan_19 rfl rfl (jin_vp g6) ?_
      obtain ⟨V7, eV7⟩ : ∃ y, y = (jsI V 3 (Int32.toNatClampNeg a1) (V.1 1 (Int32.toNatClampNeg a1))) := ⟨_, rfl⟩
      have hm := jl_of hm eV7
      rw [← eV7]
      refine j_iinc (v := (a1 + (1 : Int32))) (L' := [(1, _), (0, _)]) dX5_plan_20 rfl rfl rfl (by decide) rfl ?_
      refine j_goto (tgt := 2) dX5_plan_23 (by decide) ?_
      refine j_sub (L' := [(0, _), (1, _)]) [1, 0] rfl ?_
      exact ih _ _  hm
def mX5_plan (V : jMem) : Option (Int32 × jMem) := (mX5_plan_b2 2000 (0 : Int32) V)
set_option maxHeartbeats 4000000 in
set_option maxRecDepth 20000 in
theorem tX5_plan {l : Launch} {Z : jZ} {q : Nat → Nat} {V : jMem} {r : Int32} {V' : jMem}  (hm : mX5_plan V = some (r, V')) : CtD l Z yX5_plan cX5_plan 3 (some .int) 7 q dM [.ref (q 0)] V (some (.int r)) V' := by
  refine Ct_of (L := [(0, .ref (q 0))]) (own := RX5) (nm := "plan") rfl rfl (by decide +kernel) rfl (Nat.le_of_ble_eq_true rfl) ?_
  unfold mX5_plan at hm
  refine j_iconst (v := 0) dX5_plan_0 rfl (by decide) ?_
  refine j_istore_n (i := 1) (L' := [(1, _), (0, _)]) dX5_plan_1 rfl rfl (by decide) rfl ?_
  refine j_sub (L' := [(0, _), (1, _)]) [1, 0] rfl ?_
  exact tX5_plan_b2   _ _ _  hm
theorem dX5_isSheet_0 : decode cX5_isSheet 0 = .ok (.iload_n 0, 1) := by decide +kernel
theorem dX5_isSheet_1 : decode cX5_isSheet 1 = .ok (.ifCond .lt 12, 3) := by decide +kernel
theorem dX5_isSheet_4 : decode cX5_isSheet 4 = .ok (.iload_n 0, 1) := by decide +kernel
theorem dX5_isSheet_5 : decode cX5_isSheet 5 = .ok (.iconst 4, 1) := by decide +kernel
theorem dX5_isSheet_6 : decode cX5_isSheet 6 = .ok (.if_icmp .ge 7, 3) := by decide +kernel
theorem dX5_isSheet_9 : decode cX5_isSheet 9 = .ok (.iconst 1, 1) := by decide +kernel
theorem dX5_isSheet_10 : decode cX5_isSheet 10 = .ok (.goto 4, 3) := by decide +kernel
theorem dX5_isSheet_13 : decode cX5_isSheet 13 = .ok (.iconst 0, 1) := by decide +kernel
theorem dX5_isSheet_14 : decode cX5_isSheet 14 = .ok (.ireturn, 1) := by decide +kernel
def mX5_isSheet (a0 : Int32) : Int32 := (if a0 < (0 : Int32) then (0 : Int32) else (if (4 : Int32) ≤ a0 then (0 : Int32) else (1 : Int32)))
set_option maxHeartbeats 4000000 in
set_option maxRecDepth 20000 in
theorem tX5_isSheet {l : Launch} {Z : jZ} {q : Nat → Nat} {V : jMem} {a0 : Int32} {r : Int32}  (hm : mX5_isSheet a0 = r) : CtD l Z yX5_isSheet cX5_isSheet 1 (some .boolean) 0 q dM [.int a0] V (some (.int r)) V := by
  refine Ct_of (L := [(0, .int a0)]) (own := RX5) (nm := "isSheet") rfl rfl (by decide +kernel) rfl (Nat.le_of_ble_eq_true rfl) ?_
  unfold mX5_isSheet at hm
  refine j_iload_n dX5_isSheet_0 rfl rfl ?_
  refine j_if_lt (tgt := 13) dX5_isSheet_1 rfl (by decide) (fun c1 => ?_) (fun c1 => ?_)
  · have hm := jif_pos c1 hm
    refine j_iconst (v := 0) dX5_isSheet_13 rfl (by decide) ?_
    exact j_zreturn dX5_isSheet_14 rfl (by decide) ⟨Nat.le_refl _, Nat.le_refl _⟩ (jf_t (fun z => .int z) hm)
  · have hm := jif_neg c1 hm
    refine j_iload_n dX5_isSheet_4 rfl rfl ?_
    refine j_iconst (v := 4) dX5_isSheet_5 rfl (by decide) ?_
    refine j_icmp_ge (tgt := 13) dX5_isSheet_6 rfl (by decide) (fun c2 => ?_) (fun c2 => ?_)
    · have hm := jif_pos c2 hm
      refine j_iconst (v := 0) dX5_isSheet_13 rfl (by decide) ?_
      exact j_zreturn dX5_isSheet_14 rfl (by decide) ⟨Nat.le_refl _, Nat.le_refl _⟩ (jf_t (fun z => .int z) hm)
    · have hm := jif_neg c2 hm
      refine j_iconst (v := 1) dX5_isSheet_9 rfl (by decide) ?_
      refine j_goto (tgt := 14) dX5_isSheet_10 (by decide) ?_
      exact j_zreturn dX5_isSheet_14 rfl (by decide) ⟨Nat.le_refl _, Nat.le_refl _⟩ (jf_t (fun z => .int z) hm)
theorem zzX5_isSheet {a0 : Int32} : mX5_isSheet a0 = 0 ∨ mX5_isSheet a0 = 1 := by
  unfold mX5_isSheet
  (repeat' split) <;> first | exact Or.inl rfl | exact Or.inr rfl
theorem dX5_narrow_0 : decode cX5_narrow 0 = .ok (.iload_n 0, 1) := by decide +kernel
theorem dX5_narrow_1 : decode cX5_narrow 1 = .ok (.bipush 8, 2) := by decide +kernel
theorem dX5_narrow_3 : decode cX5_narrow 3 = .ok (.if_icmp .ne 10, 3) := by decide +kernel
theorem dX5_narrow_6 : decode cX5_narrow 6 = .ok (.lload_n 1, 1) := by decide +kernel
theorem dX5_narrow_7 : decode cX5_narrow 7 = .ok (.l2i, 1) := by decide +kernel
theorem dX5_narrow_8 : decode cX5_narrow 8 = .ok (.i2b, 1) := by decide +kernel
theorem dX5_narrow_9 : decode cX5_narrow 9 = .ok (.i2l, 1) := by decide +kernel
theorem dX5_narrow_10 : decode cX5_narrow 10 = .ok (.goto 17, 3) := by decide +kernel
theorem dX5_narrow_13 : decode cX5_narrow 13 = .ok (.iload_n 0, 1) := by decide +kernel
theorem dX5_narrow_14 : decode cX5_narrow 14 = .ok (.bipush 16, 2) := by decide +kernel
theorem dX5_narrow_16 : decode cX5_narrow 16 = .ok (.if_icmp .ne 10, 3) := by decide +kernel
theorem dX5_narrow_19 : decode cX5_narrow 19 = .ok (.lload_n 1, 1) := by decide +kernel
theorem dX5_narrow_20 : decode cX5_narrow 20 = .ok (.l2i, 1) := by decide +kernel
theorem dX5_narrow_21 : decode cX5_narrow 21 = .ok (.i2s, 1) := by decide +kernel
theorem dX5_narrow_22 : decode cX5_narrow 22 = .ok (.i2l, 1) := by decide +kernel
theorem dX5_narrow_23 : decode cX5_narrow 23 = .ok (.goto 4, 3) := by decide +kernel
theorem dX5_narrow_26 : decode cX5_narrow 26 = .ok (.lload_n 1, 1) := by decide +kernel
theorem dX5_narrow_27 : decode cX5_narrow 27 = .ok (.lreturn, 1) := by decide +kernel
def mX5_narrow (a0 : Int32) (a1 : Int64) : Int64 := (if a0 = (8 : Int32) then (Int32.toInt64 ((Int32.toInt8 (Int64.toInt32 a1)).toInt32)) else (if a0 = (16 : Int32) then (Int32.toInt64 ((Int32.toInt16 (Int64.toInt32 a1)).toInt32)) else a1))
set_option maxHeartbeats 4000000 in
set_option maxRecDepth 20000 in
theorem tX5_narrow {l : Launch} {Z : jZ} {q : Nat → Nat} {V : jMem} {a0 : Int32} {a1 : Int64} {r : Int64}  (hm : mX5_narrow a0 a1 = r) : CtD l Z yX5_narrow cX5_narrow 3 (some .long) 0 q dM [.int a0, .long a1] V (some (.long r)) V := by
  refine Ct_of (L := [(0, .int a0), (1, .long a1)]) (own := RX5) (nm := "narrow") rfl rfl (by decide +kernel) rfl (Nat.le_of_ble_eq_true rfl) ?_
  unfold mX5_narrow at hm
  refine j_iload_n dX5_narrow_0 rfl rfl ?_
  refine j_bipush (v := 8) dX5_narrow_1 rfl (by decide) ?_
  refine j_icmp_ne (tgt := 13) dX5_narrow_3 rfl (by decide) (fun c1 => ?_) (fun c1 => ?_)
  · have hm := jif_neg c1 hm
    refine j_iload_n dX5_narrow_13 rfl rfl ?_
    refine j_bipush (v := 16) dX5_narrow_14 rfl (by decide) ?_
    refine j_icmp_ne (tgt := 26) dX5_narrow_16 rfl (by decide) (fun c2 => ?_) (fun c2 => ?_)
    · have hm := jif_neg c2 hm
      refine j_lload_n dX5_narrow_26 rfl rfl ?_
      exact j_lreturn dX5_narrow_27 rfl ⟨Nat.le_refl _, Nat.le_refl _⟩ (jf_t (fun z => .long z) hm)
    · have hm := jif_pos c2 hm
      refine j_lload_n dX5_narrow_19 rfl rfl ?_
      refine j_l2i dX5_narrow_20 rfl ?_
      refine j_i2s dX5_narrow_21 rfl ?_
      refine j_i2l dX5_narrow_22 rfl ?_
      refine j_goto (tgt := 27) dX5_narrow_23 (by decide) ?_
      exact j_lreturn dX5_narrow_27 rfl ⟨Nat.le_refl _, Nat.le_refl _⟩ (jf_t (fun z => .long z) hm)
  · have hm := jif_pos c1 hm
    refine j_lload_n dX5_narrow_6 rfl rfl ?_
    refine j_l2i dX5_narrow_7 rfl ?_
    refine j_i2b dX5_narrow_8 rfl ?_
    refine j_i2l dX5_narrow_9 rfl ?_
    refine j_goto (tgt := 27) dX5_narrow_10 (by decide) ?_
    exact j_lreturn dX5_narrow_27 rfl ⟨Nat.le_refl _, Nat.le_refl _⟩ (jf_t (fun z => .long z) hm)
theorem dX5_sheet_0 : decode cX5_sheet 0 = .ok (.iload_n 1, 1) := by decide +kernel
theorem dX5_sheet_1 : decode cX5_sheet 1 = .ok (.invokestatic 232, 3) := by decide +kernel
theorem dX5_sheet_4 : decode cX5_sheet 4 = .ok (.ifCond .eq 25, 3) := by decide +kernel
theorem dX5_sheet_7 : decode cX5_sheet 7 = .ok (.iload_n 2, 1) := by decide +kernel
theorem dX5_sheet_8 : decode cX5_sheet 8 = .ok (.ifCond .eq 28, 3) := by decide +kernel
theorem dX5_sheet_11 : decode cX5_sheet 11 = .ok (.iload_n 2, 1) := by decide +kernel
theorem dX5_sheet_12 : decode cX5_sheet 12 = .ok (.bipush 8, 2) := by decide +kernel
theorem dX5_sheet_14 : decode cX5_sheet 14 = .ok (.if_icmp .eq 22, 3) := by decide +kernel
theorem dX5_sheet_17 : decode cX5_sheet 17 = .ok (.iload_n 2, 1) := by decide +kernel
theorem dX5_sheet_18 : decode cX5_sheet 18 = .ok (.bipush 16, 2) := by decide +kernel
theorem dX5_sheet_20 : decode cX5_sheet 20 = .ok (.if_icmp .eq 16, 3) := by decide +kernel
theorem dX5_sheet_23 : decode cX5_sheet 23 = .ok (.iload_n 2, 1) := by decide +kernel
theorem dX5_sheet_24 : decode cX5_sheet 24 = .ok (.bipush 64, 2) := by decide +kernel
theorem dX5_sheet_26 : decode cX5_sheet 26 = .ok (.if_icmp .eq 10, 3) := by decide +kernel
theorem dX5_sheet_29 : decode cX5_sheet 29 = .ok (.aload_n 0, 1) := by decide +kernel
theorem dX5_sheet_30 : decode cX5_sheet 30 = .ok (.ldc 44, 2) := by decide +kernel
theorem dX5_sheet_32 : decode cX5_sheet 32 = .ok (.invokevirtual 60, 3) := by decide +kernel
theorem dX5_sheet_35 : decode cX5_sheet 35 = .ok (.ireturn, 1) := by decide +kernel
theorem dX5_sheet_36 : decode cX5_sheet 36 = .ok (.iload_n 3, 1) := by decide +kernel
theorem dX5_sheet_37 : decode cX5_sheet 37 = .ok (.ifCond .ge 10, 3) := by decide +kernel
theorem dX5_sheet_40 : decode cX5_sheet 40 = .ok (.aload_n 0, 1) := by decide +kernel
theorem dX5_sheet_41 : decode cX5_sheet 41 = .ok (.ldc 163, 2) := by decide +kernel
theorem dX5_sheet_43 : decode cX5_sheet 43 = .ok (.invokevirtual 60, 3) := by decide +kernel
theorem dX5_sheet_46 : decode cX5_sheet 46 = .ok (.ireturn, 1) := by decide +kernel
theorem dX5_sheet_47 : decode cX5_sheet 47 = .ok (.iload_n 3, 1) := by decide +kernel
theorem dX5_sheet_48 : decode cX5_sheet 48 = .ok (.bipush 40, 2) := by decide +kernel
theorem dX5_sheet_50 : decode cX5_sheet 50 = .ok (.if_icmp .le 10, 3) := by decide +kernel
theorem dX5_sheet_53 : decode cX5_sheet 53 = .ok (.aload_n 0, 1) := by decide +kernel
theorem dX5_sheet_54 : decode cX5_sheet 54 = .ok (.ldc 44, 2) := by decide +kernel
theorem dX5_sheet_56 : decode cX5_sheet 56 = .ok (.invokevirtual 60, 3) := by decide +kernel
theorem dX5_sheet_59 : decode cX5_sheet 59 = .ok (.ireturn, 1) := by decide +kernel
theorem dX5_sheet_60 : decode cX5_sheet 60 = .ok (.aload_n 0, 1) := by decide +kernel
theorem dX5_sheet_61 : decode cX5_sheet 61 = .ok (.getfield 25, 3) := by decide +kernel
theorem dX5_sheet_64 : decode cX5_sheet 64 = .ok (.iload_n 1, 1) := by decide +kernel
theorem dX5_sheet_65 : decode cX5_sheet 65 = .ok (.iload_n 2, 1) := by decide +kernel
theorem dX5_sheet_66 : decode cX5_sheet 66 = .ok (.ifCond .ne 7, 3) := by decide +kernel
theorem dX5_sheet_69 : decode cX5_sheet 69 = .ok (.iconst (-1), 1) := by decide +kernel
theorem dX5_sheet_70 : decode cX5_sheet 70 = .ok (.goto 4, 3) := by decide +kernel
theorem dX5_sheet_73 : decode cX5_sheet 73 = .ok (.iload_n 2, 1) := by decide +kernel
theorem dX5_sheet_74 : decode cX5_sheet 74 = .ok (.iastore, 1) := by decide +kernel
theorem dX5_sheet_75 : decode cX5_sheet 75 = .ok (.aload_n 0, 1) := by decide +kernel
theorem dX5_sheet_76 : decode cX5_sheet 76 = .ok (.getfield 28, 3) := by decide +kernel
theorem dX5_sheet_79 : decode cX5_sheet 79 = .ok (.iload_n 1, 1) := by decide +kernel
theorem dX5_sheet_80 : decode cX5_sheet 80 = .ok (.iload_n 2, 1) := by decide +kernel
theorem dX5_sheet_81 : decode cX5_sheet 81 = .ok (.ifCond .ne 7, 3) := by decide +kernel
theorem dX5_sheet_84 : decode cX5_sheet 84 = .ok (.iconst 0, 1) := by decide +kernel
theorem dX5_sheet_85 : decode cX5_sheet 85 = .ok (.goto 4, 3) := by decide +kernel
theorem dX5_sheet_88 : decode cX5_sheet 88 = .ok (.iload_n 3, 1) := by decide +kernel
theorem dX5_sheet_89 : decode cX5_sheet 89 = .ok (.iastore, 1) := by decide +kernel
theorem dX5_sheet_90 : decode cX5_sheet 90 = .ok (.iconst 0, 1) := by decide +kernel
theorem dX5_sheet_91 : decode cX5_sheet 91 = .ok (.istore 4, 2) := by decide +kernel
theorem dX5_sheet_93 : decode cX5_sheet 93 = .ok (.iload 4, 2) := by decide +kernel
theorem dX5_sheet_95 : decode cX5_sheet 95 = .ok (.bipush 40, 2) := by decide +kernel
theorem dX5_sheet_97 : decode cX5_sheet 97 = .ok (.if_icmp .ge 22, 3) := by decide +kernel
theorem dX5_sheet_100 : decode cX5_sheet 100 = .ok (.aload_n 0, 1) := by decide +kernel
theorem dX5_sheet_101 : decode cX5_sheet 101 = .ok (.getfield 31, 3) := by decide +kernel
theorem dX5_sheet_104 : decode cX5_sheet 104 = .ok (.bipush 40, 2) := by decide +kernel
theorem dX5_sheet_106 : decode cX5_sheet 106 = .ok (.iload_n 1, 1) := by decide +kernel
theorem dX5_sheet_107 : decode cX5_sheet 107 = .ok (.imul, 1) := by decide +kernel
theorem dX5_sheet_108 : decode cX5_sheet 108 = .ok (.iload 4, 2) := by decide +kernel
theorem dX5_sheet_110 : decode cX5_sheet 110 = .ok (.iadd, 1) := by decide +kernel
theorem dX5_sheet_111 : decode cX5_sheet 111 = .ok (.lconst 0, 1) := by decide +kernel
theorem dX5_sheet_112 : decode cX5_sheet 112 = .ok (.lastore, 1) := by decide +kernel
theorem dX5_sheet_113 : decode cX5_sheet 113 = .ok (.iinc 4 1, 3) := by decide +kernel
theorem dX5_sheet_116 : decode cX5_sheet 116 = .ok (.goto (-23), 3) := by decide +kernel
theorem dX5_sheet_119 : decode cX5_sheet 119 = .ok (.aload_n 0, 1) := by decide +kernel
theorem dX5_sheet_120 : decode cX5_sheet 120 = .ok (.getfield 28, 3) := by decide +kernel
theorem dX5_sheet_123 : decode cX5_sheet 123 = .ok (.iload_n 1, 1) := by decide +kernel
theorem dX5_sheet_124 : decode cX5_sheet 124 = .ok (.iaload, 1) := by decide +kernel
theorem dX5_sheet_125 : decode cX5_sheet 125 = .ok (.ireturn, 1) := by decide +kernel
def mX5_sheet_b29   (V : jMem) : Option (Int32 × jMem) := ((mX5_finds (-1000000001 : Int32) V).bind (fun (p1 : Int32 × jMem) => (some (p1.1, p1.2))))
set_option maxHeartbeats 4000000 in
set_option maxRecDepth 20000 in
theorem tX5_sheet_b29 {l : Launch} {Z : jZ} {q : Nat → Nat} {V : jMem} {r : Int32} {V' : jMem}    (hm : mX5_sheet_b29 V = some (r, V')) : J l Z RX5 "sheet" cX5_sheet 5 (some .int) 1 0 0 (fun r' w => r' = some (.int r) ∧ w = jw Z q V' dM) 29 [(0, .ref (q 0))] [] (jw Z q V dM) 0 0 := by
  unfold mX5_sheet_b29 at hm
  refine j_aload_n dX5_sheet_29 rfl rfl ?_
  refine j_ldc dX5_sheet_30 rfl wX5_44 ?_
  obtain ⟨p1, ep1, hm⟩ := jb_of hm
  refine o_callV_i kX5_60 dX5_sheet_32 rfl (tX5_finds  ep1) rfl rfl rfl rfl rfl (Nat.le_of_ble_eq_true rfl) (by decide) ?_
  exact j_ireturn dX5_sheet_35 rfl rfl ⟨Nat.le_refl _, Nat.le_refl _⟩ (jf_m (fun z => .int z) hm)
def mX5_sheet_b93   : Nat → Int32 → Int32 → jMem → Option (Int32 × jMem)
  | 0, _, _, _ => none
  | n + 1, a1, a4, V => (if (40 : Int32) ≤ a4 then (jg (jin a1 4) (some ((V.1 7 (Int32.toNatClampNeg a1)), V))) else (jg (jin (((40 : Int32) * a1) + a4) 160) (jl (jsL V 8 (Int32.toNatClampNeg (((40 : Int32) * a1) + a4)) (0 : Int64)) (fun (V4 : jMem) => (mX5_sheet_b93 n a1 (a4 + (1 : Int32)) V4)))))
set_option maxHeartbeats 4000000 in
set_option maxRecDepth 20000 in
theorem tX5_sheet_b93 {l : Launch} {Z : jZ} {q : Nat → Nat}  {r : Int32} {V' : jMem}   (n : Nat) : ∀ (a1 : Int32) (a4 : Int32) (V : jMem), mX5_sheet_b93 n a1 a4 V = some (r, V') → J l Z RX5 "sheet" cX5_sheet 5 (some .int) 1 0 0 (fun r' w => r' = some (.int r) ∧ w = jw Z q V' dM) 93 [(0, .ref (q 0)), (1, .int a1), (4, .int a4)] [] (jw Z q V dM) 0 0 := by
  induction n with
  | zero => intro a1 a4 V hm; cases hm
  | succ n ih =>
    intro a1 a4 V hm
    rw [mX5_sheet_b93] at hm
    refine j_iload dX5_sheet_93 rfl rfl ?_
    refine j_bipush (v := 40) dX5_sheet_95 rfl (by decide) ?_
    refine j_icmp_ge (tgt := 119) dX5_sheet_97 rfl (by decide) (fun c1 => ?_) (fun c1 => ?_)
    · have hm := jif_pos c1 hm
      refine j_aload_n dX5_sheet_119 rfl rfl ?_
      refine m_getr (k := 10) (r := 7) fX5_28 dX5_sheet_120 rfl rfl rfl ?_
      refine j_iload_n dX5_sheet_123 rfl rfl ?_
      obtain ⟨g2, hm⟩ := jg_of hm
      refine o_iald (k := (Int32.toNatClampNeg a1)) rfl dX5_sheet_124 rfl rfl (jin_vp g2) ?_
      exact j_ireturn dX5_sheet_125 rfl rfl ⟨Nat.le_refl _, Nat.le_refl _⟩ (jf_m (fun z => .int z) hm)
    · have hm := jif_neg c1 hm
      refine j_aload_n dX5_sheet_100 rfl rfl ?_
      refine m_getr (k := 11) (r := 8) fX5_31 dX5_sheet_101 rfl rfl rfl ?_
      refine j_bipush (v := 40) dX5_sheet_104 rfl (by decide) ?_
      refine j_iload_n dX5_sheet_106 rfl rfl ?_
      refine j_imul dX5_sheet_107 rfl ?_
      refine j_iload dX5_sheet_108 rfl rfl ?_
      refine j_iadd dX5_sheet_110 rfl ?_
      refine j_lconst (v := 0) dX5_sheet_111 rfl (by decide) ?_
      obtain ⟨g3, hm⟩ := jg_of hm
      refine o_last (k := (Int32.toNatClampNeg (((40 : Int32) * a1) + a4))) rfl dX5_sheet_112 rfl rfl (jin_vp g3) ?_
      obtain ⟨V4, eV4⟩ : ∃ y, y = (jsL V 8 (Int32.toNatClampNeg (((40 : Int32) * a1) + a4)) (0 : Int64)) := ⟨_, rfl⟩
      have hm := jl_of hm eV4
      rw [← eV4]
      refine j_iinc (v := (a4 + (1 : Int32))) (L' := [(4, _), (0, _), (1, _)]) dX5_sheet_113 rfl rfl rfl (by decide) rfl ?_
      refine j_goto (tgt := 93) dX5_sheet_116 (by decide) ?_
      refine j_sub (L' := [(0, _), (1, _), (4, _)]) [1, 2, 0] rfl ?_
      exact ih _ _ _  hm
def mX5_sheet_b89   (a1 : Int32) (s0 : Int32) (s1 : Int32) (V : jMem) : Option (Int32 × jMem) := (jg (jin s1 4) (jl (jsI V 7 (Int32.toNatClampNeg s1) s0) (fun (V2 : jMem) => (mX5_sheet_b93 2000 a1 (0 : Int32) V2))))
set_option maxHeartbeats 4000000 in
set_option maxRecDepth 20000 in
theorem tX5_sheet_b89 {l : Launch} {Z : jZ} {q : Nat → Nat} {a1 : Int32} {s0 : Int32} {s1 : Int32} {V : jMem} {r : Int32} {V' : jMem}    (hm : mX5_sheet_b89 a1 s0 s1 V = some (r, V')) : J l Z RX5 "sheet" cX5_sheet 5 (some .int) 1 0 0 (fun r' w => r' = some (.int r) ∧ w = jw Z q V' dM) 89 [(0, .ref (q 0)), (1, .int a1)] [.int s0, .int s1, .ref (q 7)] (jw Z q V dM) 0 0 := by
  unfold mX5_sheet_b89 at hm
  obtain ⟨g1, hm⟩ := jg_of hm
  refine o_iast (k := (Int32.toNatClampNeg s1)) rfl dX5_sheet_89 rfl rfl (jin_vp g1) ?_
  obtain ⟨V2, eV2⟩ : ∃ y, y = (jsI V 7 (Int32.toNatClampNeg s1) s0) := ⟨_, rfl⟩
  have hm := jl_of hm eV2
  rw [← eV2]
  refine j_iconst (v := 0) dX5_sheet_90 rfl (by decide) ?_
  refine j_istore (L' := [(4, _), (0, _), (1, _)]) dX5_sheet_91 rfl (by decide) rfl ?_
  refine j_sub (L' := [(0, _), (1, _), (4, _)]) [1, 2, 0] rfl ?_
  exact tX5_sheet_b93   _ _ _ _  hm
def mX5_sheet_b74   (a1 : Int32) (a2 : Int32) (a3 : Int32) (s0 : Int32) (s1 : Int32) (V : jMem) : Option (Int32 × jMem) := (jg (jin s1 4) (jl (jsI V 6 (Int32.toNatClampNeg s1) s0) (fun (V2 : jMem) => (if a2 = (0 : Int32) then (mX5_sheet_b89 a1 (0 : Int32) a1 V2) else (mX5_sheet_b89 a1 a3 a1 V2)))))
set_option maxHeartbeats 4000000 in
set_option maxRecDepth 20000 in
theorem tX5_sheet_b74 {l : Launch} {Z : jZ} {q : Nat → Nat} {a1 : Int32} {a2 : Int32} {a3 : Int32} {s0 : Int32} {s1 : Int32} {V : jMem} {r : Int32} {V' : jMem}    (hm : mX5_sheet_b74 a1 a2 a3 s0 s1 V = some (r, V')) : J l Z RX5 "sheet" cX5_sheet 5 (some .int) 1 0 0 (fun r' w => r' = some (.int r) ∧ w = jw Z q V' dM) 74 [(0, .ref (q 0)), (1, .int a1), (2, .int a2), (3, .int a3)] [.int s0, .int s1, .ref (q 6)] (jw Z q V dM) 0 0 := by
  unfold mX5_sheet_b74 at hm
  obtain ⟨g1, hm⟩ := jg_of hm
  refine o_iast (k := (Int32.toNatClampNeg s1)) rfl dX5_sheet_74 rfl rfl (jin_vp g1) ?_
  obtain ⟨V2, eV2⟩ : ∃ y, y = (jsI V 6 (Int32.toNatClampNeg s1) s0) := ⟨_, rfl⟩
  have hm := jl_of hm eV2
  rw [← eV2]
  refine j_aload_n dX5_sheet_75 rfl rfl ?_
  refine m_getr (k := 10) (r := 7) fX5_28 dX5_sheet_76 rfl rfl rfl ?_
  refine j_iload_n dX5_sheet_79 rfl rfl ?_
  refine j_iload_n dX5_sheet_80 rfl rfl ?_
  refine j_if_ne (tgt := 88) dX5_sheet_81 rfl (by decide) (fun c3 => ?_) (fun c3 => ?_)
  · have hm := jif_neg c3 hm
    refine j_iload_n dX5_sheet_88 rfl rfl ?_
    refine j_sub (L' := [(0, _), (1, _)]) [0, 1] rfl ?_
    exact tX5_sheet_b89    hm
  · have hm := jif_pos c3 hm
    refine j_iconst (v := 0) dX5_sheet_84 rfl (by decide) ?_
    refine j_goto (tgt := 89) dX5_sheet_85 (by decide) ?_
    refine j_sub (L' := [(0, _), (1, _)]) [0, 1] rfl ?_
    exact tX5_sheet_b89    hm
def mX5_sheet_b36   (a1 : Int32) (a2 : Int32) (a3 : Int32) (V : jMem) : Option (Int32 × jMem) := (if (0 : Int32) ≤ a3 then (if a3 ≤ (40 : Int32) then (if a2 = (0 : Int32) then (mX5_sheet_b74 a1 a2 a3 (-1 : Int32) a1 V) else (mX5_sheet_b74 a1 a2 a3 a2 a1 V)) else ((mX5_finds (-1000000001 : Int32) V).bind (fun (p4 : Int32 × jMem) => (some (p4.1, p4.2))))) else ((mX5_finds (-1000000007 : Int32) V).bind (fun (p5 : Int32 × jMem) => (some (p5.1, p5.2)))))
set_option maxHeartbeats 4000000 in
set_option maxRecDepth 20000 in
theorem tX5_sheet_b36 {l : Launch} {Z : jZ} {q : Nat → Nat} {a1 : Int32} {a2 : Int32} {a3 : Int32} {V : jMem} {r : Int32} {V' : jMem}    (hm : mX5_sheet_b36 a1 a2 a3 V = some (r, V')) : J l Z RX5 "sheet" cX5_sheet 5 (some .int) 1 0 0 (fun r' w => r' = some (.int r) ∧ w = jw Z q V' dM) 36 [(0, .ref (q 0)), (1, .int a1), (2, .int a2), (3, .int a3)] [] (jw Z q V dM) 0 0 := by
  unfold mX5_sheet_b36 at hm
  refine j_iload_n dX5_sheet_36 rfl rfl ?_
  refine j_if_ge (tgt := 47) dX5_sheet_37 rfl (by decide) (fun c1 => ?_) (fun c1 => ?_)
  · have hm := jif_pos c1 hm
    refine j_iload_n dX5_sheet_47 rfl rfl ?_
    refine j_bipush (v := 40) dX5_sheet_48 rfl (by decide) ?_
    refine j_icmp_le (tgt := 60) dX5_sheet_50 rfl (by decide) (fun c2 => ?_) (fun c2 => ?_)
    · have hm := jif_pos c2 hm
      refine j_aload_n dX5_sheet_60 rfl rfl ?_
      refine m_getr (k := 9) (r := 6) fX5_25 dX5_sheet_61 rfl rfl rfl ?_
      refine j_iload_n dX5_sheet_64 rfl rfl ?_
      refine j_iload_n dX5_sheet_65 rfl rfl ?_
      refine j_if_ne (tgt := 73) dX5_sheet_66 rfl (by decide) (fun c3 => ?_) (fun c3 => ?_)
      · have hm := jif_neg c3 hm
        refine j_iload_n dX5_sheet_73 rfl rfl ?_
        exact tX5_sheet_b74    hm
      · have hm := jif_pos c3 hm
        refine j_iconst (v := -1) dX5_sheet_69 rfl (by decide) ?_
        refine j_goto (tgt := 74) dX5_sheet_70 (by decide) ?_
        exact tX5_sheet_b74    hm
    · have hm := jif_neg c2 hm
      refine j_aload_n dX5_sheet_53 rfl rfl ?_
      refine j_ldc dX5_sheet_54 rfl wX5_44 ?_
      obtain ⟨p4, ep4, hm⟩ := jb_of hm
      refine o_callV_i kX5_60 dX5_sheet_56 rfl (tX5_finds  ep4) rfl rfl rfl rfl rfl (Nat.le_of_ble_eq_true rfl) (by decide) ?_
      exact j_ireturn dX5_sheet_59 rfl rfl ⟨Nat.le_refl _, Nat.le_refl _⟩ (jf_m (fun z => .int z) hm)
  · have hm := jif_neg c1 hm
    refine j_aload_n dX5_sheet_40 rfl rfl ?_
    refine j_ldc dX5_sheet_41 rfl wX5_163 ?_
    obtain ⟨p5, ep5, hm⟩ := jb_of hm
    refine o_callV_i kX5_60 dX5_sheet_43 rfl (tX5_finds  ep5) rfl rfl rfl rfl rfl (Nat.le_of_ble_eq_true rfl) (by decide) ?_
    exact j_ireturn dX5_sheet_46 rfl rfl ⟨Nat.le_refl _, Nat.le_refl _⟩ (jf_m (fun z => .int z) hm)
def mX5_sheet (a1 : Int32) (a2 : Int32) (a3 : Int32) (V : jMem) : Option (Int32 × jMem) := (if (mX5_isSheet a1) = (0 : Int32) then (mX5_sheet_b29 V) else (if a2 = (0 : Int32) then (mX5_sheet_b36 a1 a2 a3 V) else (if a2 = (8 : Int32) then (mX5_sheet_b36 a1 a2 a3 V) else (if a2 = (16 : Int32) then (mX5_sheet_b36 a1 a2 a3 V) else (if a2 = (64 : Int32) then (mX5_sheet_b36 a1 a2 a3 V) else (mX5_sheet_b29 V))))))
set_option maxHeartbeats 4000000 in
set_option maxRecDepth 20000 in
theorem tX5_sheet {l : Launch} {Z : jZ} {q : Nat → Nat} {a1 : Int32} {a2 : Int32} {a3 : Int32} {V : jMem} {r : Int32} {V' : jMem}  (hm : mX5_sheet a1 a2 a3 V = some (r, V')) : CtD l Z yX5_sheet cX5_sheet 5 (some .int) 1 q dM [.ref (q 0), .int a1, .int a2, .int a3] V (some (.int r)) V' := by
  refine Ct_of (L := [(0, .ref (q 0)), (1, .int a1), (2, .int a2), (3, .int a3)]) (own := RX5) (nm := "sheet") rfl rfl (by decide +kernel) rfl (Nat.le_of_ble_eq_true rfl) ?_
  unfold mX5_sheet at hm
  refine j_iload_n dX5_sheet_0 rfl rfl ?_
  refine o_callS_i kX5_232 dX5_sheet_1 rfl (tX5_isSheet  rfl) rfl rfl (Nat.le_of_ble_eq_true rfl) (by decide) ?_
  refine j_if_eq (tgt := 29) dX5_sheet_4 rfl (by decide) (fun c1 => ?_) (fun c1 => ?_)
  · have hm := jif_pos c1 hm
    refine j_sub (L' := [(0, _)]) [0] rfl ?_
    exact tX5_sheet_b29    hm
  · have hm := jif_neg c1 hm
    refine j_iload_n dX5_sheet_7 rfl rfl ?_
    refine j_if_eq (tgt := 36) dX5_sheet_8 rfl (by decide) (fun c2 => ?_) (fun c2 => ?_)
    · have hm := jif_pos c2 hm
      exact tX5_sheet_b36    hm
    · have hm := jif_neg c2 hm
      refine j_iload_n dX5_sheet_11 rfl rfl ?_
      refine j_bipush (v := 8) dX5_sheet_12 rfl (by decide) ?_
      refine j_icmp_eq (tgt := 36) dX5_sheet_14 rfl (by decide) (fun c3 => ?_) (fun c3 => ?_)
      · have hm := jif_pos c3 hm
        exact tX5_sheet_b36    hm
      · have hm := jif_neg c3 hm
        refine j_iload_n dX5_sheet_17 rfl rfl ?_
        refine j_bipush (v := 16) dX5_sheet_18 rfl (by decide) ?_
        refine j_icmp_eq (tgt := 36) dX5_sheet_20 rfl (by decide) (fun c4 => ?_) (fun c4 => ?_)
        · have hm := jif_pos c4 hm
          exact tX5_sheet_b36    hm
        · have hm := jif_neg c4 hm
          refine j_iload_n dX5_sheet_23 rfl rfl ?_
          refine j_bipush (v := 64) dX5_sheet_24 rfl (by decide) ?_
          refine j_icmp_eq (tgt := 36) dX5_sheet_26 rfl (by decide) (fun c5 => ?_) (fun c5 => ?_)
          · have hm := jif_pos c5 hm
            exact tX5_sheet_b36    hm
          · have hm := jif_neg c5 hm
            refine j_sub (L' := [(0, _)]) [0] rfl ?_
            exact tX5_sheet_b29    hm
theorem dX5_write_0 : decode cX5_write 0 = .ok (.iload_n 1, 1) := by decide +kernel
theorem dX5_write_1 : decode cX5_write 1 = .ok (.invokestatic 232, 3) := by decide +kernel
theorem dX5_write_4 : decode cX5_write 4 = .ok (.ifCond .ne 11, 3) := by decide +kernel
theorem dX5_write_7 : decode cX5_write 7 = .ok (.aload_n 0, 1) := by decide +kernel
theorem dX5_write_8 : decode cX5_write 8 = .ok (.ldc 44, 2) := by decide +kernel
theorem dX5_write_10 : decode cX5_write 10 = .ok (.invokevirtual 60, 3) := by decide +kernel
theorem dX5_write_13 : decode cX5_write 13 = .ok (.i2l, 1) := by decide +kernel
theorem dX5_write_14 : decode cX5_write 14 = .ok (.lreturn, 1) := by decide +kernel
theorem dX5_write_15 : decode cX5_write 15 = .ok (.aload_n 0, 1) := by decide +kernel
theorem dX5_write_16 : decode cX5_write 16 = .ok (.getfield 25, 3) := by decide +kernel
theorem dX5_write_19 : decode cX5_write 19 = .ok (.iload_n 1, 1) := by decide +kernel
theorem dX5_write_20 : decode cX5_write 20 = .ok (.iaload, 1) := by decide +kernel
theorem dX5_write_21 : decode cX5_write 21 = .ok (.ifCond .ge 11, 3) := by decide +kernel
theorem dX5_write_24 : decode cX5_write 24 = .ok (.aload_n 0, 1) := by decide +kernel
theorem dX5_write_25 : decode cX5_write 25 = .ok (.ldc 235, 2) := by decide +kernel
theorem dX5_write_27 : decode cX5_write 27 = .ok (.invokevirtual 60, 3) := by decide +kernel
theorem dX5_write_30 : decode cX5_write 30 = .ok (.i2l, 1) := by decide +kernel
theorem dX5_write_31 : decode cX5_write 31 = .ok (.lreturn, 1) := by decide +kernel
theorem dX5_write_32 : decode cX5_write 32 = .ok (.iload_n 2, 1) := by decide +kernel
theorem dX5_write_33 : decode cX5_write 33 = .ok (.i2l, 1) := by decide +kernel
theorem dX5_write_34 : decode cX5_write 34 = .ok (.lconst 0, 1) := by decide +kernel
theorem dX5_write_35 : decode cX5_write 35 = .ok (.aload_n 0, 1) := by decide +kernel
theorem dX5_write_36 : decode cX5_write 36 = .ok (.getfield 28, 3) := by decide +kernel
theorem dX5_write_39 : decode cX5_write 39 = .ok (.iload_n 1, 1) := by decide +kernel
theorem dX5_write_40 : decode cX5_write 40 = .ok (.iaload, 1) := by decide +kernel
theorem dX5_write_41 : decode cX5_write 41 = .ok (.iconst 1, 1) := by decide +kernel
theorem dX5_write_42 : decode cX5_write 42 = .ok (.isub, 1) := by decide +kernel
theorem dX5_write_43 : decode cX5_write 43 = .ok (.i2l, 1) := by decide +kernel
theorem dX5_write_44 : decode cX5_write 44 = .ok (.invokestatic 54, 3) := by decide +kernel
theorem dX5_write_47 : decode cX5_write 47 = .ok (.ifCond .ne 11, 3) := by decide +kernel
theorem dX5_write_50 : decode cX5_write 50 = .ok (.aload_n 0, 1) := by decide +kernel
theorem dX5_write_51 : decode cX5_write 51 = .ok (.ldc 44, 2) := by decide +kernel
theorem dX5_write_53 : decode cX5_write 53 = .ok (.invokevirtual 60, 3) := by decide +kernel
theorem dX5_write_56 : decode cX5_write 56 = .ok (.i2l, 1) := by decide +kernel
theorem dX5_write_57 : decode cX5_write 57 = .ok (.lreturn, 1) := by decide +kernel
theorem dX5_write_58 : decode cX5_write 58 = .ok (.aload_n 0, 1) := by decide +kernel
theorem dX5_write_59 : decode cX5_write 59 = .ok (.getfield 31, 3) := by decide +kernel
theorem dX5_write_62 : decode cX5_write 62 = .ok (.bipush 40, 2) := by decide +kernel
theorem dX5_write_64 : decode cX5_write 64 = .ok (.iload_n 1, 1) := by decide +kernel
theorem dX5_write_65 : decode cX5_write 65 = .ok (.imul, 1) := by decide +kernel
theorem dX5_write_66 : decode cX5_write 66 = .ok (.iload_n 2, 1) := by decide +kernel
theorem dX5_write_67 : decode cX5_write 67 = .ok (.iadd, 1) := by decide +kernel
theorem dX5_write_68 : decode cX5_write 68 = .ok (.laload, 1) := by decide +kernel
theorem dX5_write_69 : decode cX5_write 69 = .ok (.lstore 5, 2) := by decide +kernel
theorem dX5_write_71 : decode cX5_write 71 = .ok (.aload_n 0, 1) := by decide +kernel
theorem dX5_write_72 : decode cX5_write 72 = .ok (.getfield 31, 3) := by decide +kernel
theorem dX5_write_75 : decode cX5_write 75 = .ok (.bipush 40, 2) := by decide +kernel
theorem dX5_write_77 : decode cX5_write 77 = .ok (.iload_n 1, 1) := by decide +kernel
theorem dX5_write_78 : decode cX5_write 78 = .ok (.imul, 1) := by decide +kernel
theorem dX5_write_79 : decode cX5_write 79 = .ok (.iload_n 2, 1) := by decide +kernel
theorem dX5_write_80 : decode cX5_write 80 = .ok (.iadd, 1) := by decide +kernel
theorem dX5_write_81 : decode cX5_write 81 = .ok (.aload_n 0, 1) := by decide +kernel
theorem dX5_write_82 : decode cX5_write 82 = .ok (.getfield 25, 3) := by decide +kernel
theorem dX5_write_85 : decode cX5_write 85 = .ok (.iload_n 1, 1) := by decide +kernel
theorem dX5_write_86 : decode cX5_write 86 = .ok (.iaload, 1) := by decide +kernel
theorem dX5_write_87 : decode cX5_write 87 = .ok (.lload_n 3, 1) := by decide +kernel
theorem dX5_write_88 : decode cX5_write 88 = .ok (.invokestatic 236, 3) := by decide +kernel
theorem dX5_write_91 : decode cX5_write 91 = .ok (.lastore, 1) := by decide +kernel
theorem dX5_write_92 : decode cX5_write 92 = .ok (.lload 5, 2) := by decide +kernel
theorem dX5_write_94 : decode cX5_write 94 = .ok (.lreturn, 1) := by decide +kernel
def mX5_write (a1 : Int32) (a2 : Int32) (a3 : Int64) (V : jMem) : Option (Int64 × jMem) := (if (mX5_isSheet a1) = (0 : Int32) then ((mX5_finds (-1000000001 : Int32) V).bind (fun (p10 : Int32 × jMem) => (some ((Int32.toInt64 p10.1), p10.2)))) else (jg (jin a1 4) (if (0 : Int32) ≤ (V.1 6 (Int32.toNatClampNeg a1)) then (if (mX5_isIn (Int32.toInt64 a2) (0 : Int64) (Int32.toInt64 ((V.1 7 (Int32.toNatClampNeg a1)) - (1 : Int32)))) = (0 : Int32) then ((mX5_finds (-1000000001 : Int32) V).bind (fun (p8 : Int32 × jMem) => (some ((Int32.toInt64 p8.1), p8.2)))) else (jg (jin (((40 : Int32) * a1) + a2) 160) (jl (V.2 8 (Int32.toNatClampNeg (((40 : Int32) * a1) + a2))) (fun (v6 : Int64) => (jl (jsL V 8 (Int32.toNatClampNeg (((40 : Int32) * a1) + a2)) (mX5_narrow (V.1 6 (Int32.toNatClampNeg a1)) a3)) (fun (V7 : jMem) => (some (v6, V7)))))))) else ((mX5_finds (-1000000006 : Int32) V).bind (fun (p9 : Int32 × jMem) => (some ((Int32.toInt64 p9.1), p9.2)))))))
set_option maxHeartbeats 4000000 in
set_option maxRecDepth 20000 in
theorem tX5_write {l : Launch} {Z : jZ} {q : Nat → Nat} {a1 : Int32} {a2 : Int32} {a3 : Int64} {V : jMem} {r : Int64} {V' : jMem}  (hm : mX5_write a1 a2 a3 V = some (r, V')) : CtD l Z yX5_write cX5_write 7 (some .long) 1 q dM [.ref (q 0), .int a1, .int a2, .long a3] V (some (.long r)) V' := by
  refine Ct_of (L := [(0, .ref (q 0)), (1, .int a1), (2, .int a2), (3, .long a3)]) (own := RX5) (nm := "write") rfl rfl (by decide +kernel) rfl (Nat.le_of_ble_eq_true rfl) ?_
  unfold mX5_write at hm
  refine j_iload_n dX5_write_0 rfl rfl ?_
  refine o_callS_i kX5_232 dX5_write_1 rfl (tX5_isSheet  rfl) rfl rfl (Nat.le_of_ble_eq_true rfl) (by decide) ?_
  refine j_if_ne (tgt := 15) dX5_write_4 rfl (by decide) (fun c1 => ?_) (fun c1 => ?_)
  · have hm := jif_neg c1 hm
    refine j_aload_n dX5_write_15 rfl rfl ?_
    refine m_getr (k := 9) (r := 6) fX5_25 dX5_write_16 rfl rfl rfl ?_
    refine j_iload_n dX5_write_19 rfl rfl ?_
    obtain ⟨g2, hm⟩ := jg_of hm
    refine o_iald (k := (Int32.toNatClampNeg a1)) rfl dX5_write_20 rfl rfl (jin_vp g2) ?_
    refine j_if_ge (tgt := 32) dX5_write_21 rfl (by decide) (fun c3 => ?_) (fun c3 => ?_)
    · have hm := jif_pos c3 hm
      refine j_iload_n dX5_write_32 rfl rfl ?_
      refine j_i2l dX5_write_33 rfl ?_
      refine j_lconst (v := 0) dX5_write_34 rfl (by decide) ?_
      refine j_aload_n dX5_write_35 rfl rfl ?_
      refine m_getr (k := 10) (r := 7) fX5_28 dX5_write_36 rfl rfl rfl ?_
      refine j_iload_n dX5_write_39 rfl rfl ?_
      refine o_iald (k := (Int32.toNatClampNeg a1)) rfl dX5_write_40 rfl rfl (jin_vp g2) ?_
      refine j_iconst (v := 1) dX5_write_41 rfl (by decide) ?_
      refine j_isub dX5_write_42 rfl ?_
      refine j_i2l dX5_write_43 rfl ?_
      refine o_callS_i kX5_54 dX5_write_44 rfl (tX5_isIn  rfl) rfl rfl (Nat.le_of_ble_eq_true rfl) (by decide) ?_
      refine j_if_ne (tgt := 58) dX5_write_47 rfl (by decide) (fun c4 => ?_) (fun c4 => ?_)
      · have hm := jif_neg c4 hm
        refine j_aload_n dX5_write_58 rfl rfl ?_
        refine m_getr (k := 11) (r := 8) fX5_31 dX5_write_59 rfl rfl rfl ?_
        refine j_bipush (v := 40) dX5_write_62 rfl (by decide) ?_
        refine j_iload_n dX5_write_64 rfl rfl ?_
        refine j_imul dX5_write_65 rfl ?_
        refine j_iload_n dX5_write_66 rfl rfl ?_
        refine j_iadd dX5_write_67 rfl ?_
        obtain ⟨g5, hm⟩ := jg_of hm
        refine o_lald (k := (Int32.toNatClampNeg (((40 : Int32) * a1) + a2))) rfl dX5_write_68 rfl rfl (jin_vp g5) ?_
        obtain ⟨v6, ev6⟩ : ∃ y, y = ((V.2 8 (Int32.toNatClampNeg (((40 : Int32) * a1) + a2))) : Int64) := ⟨_, rfl⟩
        have hm := jl_of hm ev6
        rw [← ev6]
        refine j_lstore (L' := [(5, _), (0, _), (1, _), (2, _), (3, _)]) dX5_write_69 rfl (by decide) rfl ?_
        refine j_aload_n dX5_write_71 rfl rfl ?_
        refine m_getr (k := 11) (r := 8) fX5_31 dX5_write_72 rfl rfl rfl ?_
        refine j_bipush (v := 40) dX5_write_75 rfl (by decide) ?_
        refine j_iload_n dX5_write_77 rfl rfl ?_
        refine j_imul dX5_write_78 rfl ?_
        refine j_iload_n dX5_write_79 rfl rfl ?_
        refine j_iadd dX5_write_80 rfl ?_
        refine j_aload_n dX5_write_81 rfl rfl ?_
        refine m_getr (k := 9) (r := 6) fX5_25 dX5_write_82 rfl rfl rfl ?_
        refine j_iload_n dX5_write_85 rfl rfl ?_
        refine o_iald (k := (Int32.toNatClampNeg a1)) rfl dX5_write_86 rfl rfl (jin_vp g2) ?_
        refine j_lload_n dX5_write_87 rfl rfl ?_
        refine o_callS_l kX5_236 dX5_write_88 rfl (tX5_narrow  rfl) rfl rfl (Nat.le_of_ble_eq_true rfl) (by decide) ?_
        refine o_last (k := (Int32.toNatClampNeg (((40 : Int32) * a1) + a2))) rfl dX5_write_91 rfl rfl (jin_vp g5) ?_
        obtain ⟨V7, eV7⟩ : ∃ y, y = (jsL V 8 (Int32.toNatClampNeg (((40 : Int32) * a1) + a2)) (mX5_narrow (V.1 6 (Int32.toNatClampNeg a1)) a3)) := ⟨_, rfl⟩
        have hm := jl_of hm eV7
        rw [← eV7]
        refine j_lload dX5_write_92 rfl rfl ?_
        exact j_lreturn dX5_write_94 rfl ⟨Nat.le_refl _, Nat.le_refl _⟩ (jf_m (fun z => .long z) hm)
      · have hm := jif_pos c4 hm
        refine j_aload_n dX5_write_50 rfl rfl ?_
        refine j_ldc dX5_write_51 rfl wX5_44 ?_
        obtain ⟨p8, ep8, hm⟩ := jb_of hm
        refine o_callV_i kX5_60 dX5_write_53 rfl (tX5_finds  ep8) rfl rfl rfl rfl rfl (Nat.le_of_ble_eq_true rfl) (by decide) ?_
        refine j_i2l dX5_write_56 rfl ?_
        exact j_lreturn dX5_write_57 rfl ⟨Nat.le_refl _, Nat.le_refl _⟩ (jf_m (fun z => .long z) hm)
    · have hm := jif_neg c3 hm
      refine j_aload_n dX5_write_24 rfl rfl ?_
      refine j_ldc dX5_write_25 rfl wX5_235 ?_
      obtain ⟨p9, ep9, hm⟩ := jb_of hm
      refine o_callV_i kX5_60 dX5_write_27 rfl (tX5_finds  ep9) rfl rfl rfl rfl rfl (Nat.le_of_ble_eq_true rfl) (by decide) ?_
      refine j_i2l dX5_write_30 rfl ?_
      exact j_lreturn dX5_write_31 rfl ⟨Nat.le_refl _, Nat.le_refl _⟩ (jf_m (fun z => .long z) hm)
  · have hm := jif_pos c1 hm
    refine j_aload_n dX5_write_7 rfl rfl ?_
    refine j_ldc dX5_write_8 rfl wX5_44 ?_
    obtain ⟨p10, ep10, hm⟩ := jb_of hm
    refine o_callV_i kX5_60 dX5_write_10 rfl (tX5_finds  ep10) rfl rfl rfl rfl rfl (Nat.le_of_ble_eq_true rfl) (by decide) ?_
    refine j_i2l dX5_write_13 rfl ?_
    exact j_lreturn dX5_write_14 rfl ⟨Nat.le_refl _, Nat.le_refl _⟩ (jf_m (fun z => .long z) hm)
theorem dX5_copy_0 : decode cX5_copy 0 = .ok (.iload_n 1, 1) := by decide +kernel
theorem dX5_copy_1 : decode cX5_copy 1 = .ok (.invokestatic 232, 3) := by decide +kernel
theorem dX5_copy_4 : decode cX5_copy 4 = .ok (.ifCond .eq 10, 3) := by decide +kernel
theorem dX5_copy_7 : decode cX5_copy 7 = .ok (.iload_n 3, 1) := by decide +kernel
theorem dX5_copy_8 : decode cX5_copy 8 = .ok (.invokestatic 232, 3) := by decide +kernel
theorem dX5_copy_11 : decode cX5_copy 11 = .ok (.ifCond .ne 10, 3) := by decide +kernel
theorem dX5_copy_14 : decode cX5_copy 14 = .ok (.aload_n 0, 1) := by decide +kernel
theorem dX5_copy_15 : decode cX5_copy 15 = .ok (.ldc 44, 2) := by decide +kernel
theorem dX5_copy_17 : decode cX5_copy 17 = .ok (.invokevirtual 60, 3) := by decide +kernel
theorem dX5_copy_20 : decode cX5_copy 20 = .ok (.ireturn, 1) := by decide +kernel
theorem dX5_copy_21 : decode cX5_copy 21 = .ok (.aload_n 0, 1) := by decide +kernel
theorem dX5_copy_22 : decode cX5_copy 22 = .ok (.getfield 25, 3) := by decide +kernel
theorem dX5_copy_25 : decode cX5_copy 25 = .ok (.iload_n 1, 1) := by decide +kernel
theorem dX5_copy_26 : decode cX5_copy 26 = .ok (.iaload, 1) := by decide +kernel
theorem dX5_copy_27 : decode cX5_copy 27 = .ok (.ifCond .lt 12, 3) := by decide +kernel
theorem dX5_copy_30 : decode cX5_copy 30 = .ok (.aload_n 0, 1) := by decide +kernel
theorem dX5_copy_31 : decode cX5_copy 31 = .ok (.getfield 25, 3) := by decide +kernel
theorem dX5_copy_34 : decode cX5_copy 34 = .ok (.iload_n 3, 1) := by decide +kernel
theorem dX5_copy_35 : decode cX5_copy 35 = .ok (.iaload, 1) := by decide +kernel
theorem dX5_copy_36 : decode cX5_copy 36 = .ok (.ifCond .ge 10, 3) := by decide +kernel
theorem dX5_copy_39 : decode cX5_copy 39 = .ok (.aload_n 0, 1) := by decide +kernel
theorem dX5_copy_40 : decode cX5_copy 40 = .ok (.ldc 235, 2) := by decide +kernel
theorem dX5_copy_42 : decode cX5_copy 42 = .ok (.invokevirtual 60, 3) := by decide +kernel
theorem dX5_copy_45 : decode cX5_copy 45 = .ok (.ireturn, 1) := by decide +kernel
theorem dX5_copy_46 : decode cX5_copy 46 = .ok (.aload_n 0, 1) := by decide +kernel
theorem dX5_copy_47 : decode cX5_copy 47 = .ok (.getfield 25, 3) := by decide +kernel
theorem dX5_copy_50 : decode cX5_copy 50 = .ok (.iload_n 1, 1) := by decide +kernel
theorem dX5_copy_51 : decode cX5_copy 51 = .ok (.iaload, 1) := by decide +kernel
theorem dX5_copy_52 : decode cX5_copy 52 = .ok (.aload_n 0, 1) := by decide +kernel
theorem dX5_copy_53 : decode cX5_copy 53 = .ok (.getfield 25, 3) := by decide +kernel
theorem dX5_copy_56 : decode cX5_copy 56 = .ok (.iload_n 3, 1) := by decide +kernel
theorem dX5_copy_57 : decode cX5_copy 57 = .ok (.iaload, 1) := by decide +kernel
theorem dX5_copy_58 : decode cX5_copy 58 = .ok (.if_icmp .eq 10, 3) := by decide +kernel
theorem dX5_copy_61 : decode cX5_copy 61 = .ok (.aload_n 0, 1) := by decide +kernel
theorem dX5_copy_62 : decode cX5_copy 62 = .ok (.ldc 100, 2) := by decide +kernel
theorem dX5_copy_64 : decode cX5_copy 64 = .ok (.invokevirtual 60, 3) := by decide +kernel
theorem dX5_copy_67 : decode cX5_copy 67 = .ok (.ireturn, 1) := by decide +kernel
theorem dX5_copy_68 : decode cX5_copy 68 = .ok (.iload_n 2, 1) := by decide +kernel
theorem dX5_copy_69 : decode cX5_copy 69 = .ok (.ifCond .lt 40, 3) := by decide +kernel
theorem dX5_copy_72 : decode cX5_copy 72 = .ok (.iload 4, 2) := by decide +kernel
theorem dX5_copy_74 : decode cX5_copy 74 = .ok (.ifCond .lt 35, 3) := by decide +kernel
theorem dX5_copy_77 : decode cX5_copy 77 = .ok (.iload 5, 2) := by decide +kernel
theorem dX5_copy_79 : decode cX5_copy 79 = .ok (.ifCond .lt 30, 3) := by decide +kernel
theorem dX5_copy_82 : decode cX5_copy 82 = .ok (.iload 5, 2) := by decide +kernel
theorem dX5_copy_84 : decode cX5_copy 84 = .ok (.aload_n 0, 1) := by decide +kernel
theorem dX5_copy_85 : decode cX5_copy 85 = .ok (.getfield 28, 3) := by decide +kernel
theorem dX5_copy_88 : decode cX5_copy 88 = .ok (.iload_n 1, 1) := by decide +kernel
theorem dX5_copy_89 : decode cX5_copy 89 = .ok (.iaload, 1) := by decide +kernel
theorem dX5_copy_90 : decode cX5_copy 90 = .ok (.iload_n 2, 1) := by decide +kernel
theorem dX5_copy_91 : decode cX5_copy 91 = .ok (.isub, 1) := by decide +kernel
theorem dX5_copy_92 : decode cX5_copy 92 = .ok (.if_icmp .gt 17, 3) := by decide +kernel
theorem dX5_copy_95 : decode cX5_copy 95 = .ok (.iload 5, 2) := by decide +kernel
theorem dX5_copy_97 : decode cX5_copy 97 = .ok (.aload_n 0, 1) := by decide +kernel
theorem dX5_copy_98 : decode cX5_copy 98 = .ok (.getfield 28, 3) := by decide +kernel
theorem dX5_copy_101 : decode cX5_copy 101 = .ok (.iload_n 3, 1) := by decide +kernel
theorem dX5_copy_102 : decode cX5_copy 102 = .ok (.iaload, 1) := by decide +kernel
theorem dX5_copy_103 : decode cX5_copy 103 = .ok (.iload 4, 2) := by decide +kernel
theorem dX5_copy_105 : decode cX5_copy 105 = .ok (.isub, 1) := by decide +kernel
theorem dX5_copy_106 : decode cX5_copy 106 = .ok (.if_icmp .le 10, 3) := by decide +kernel
theorem dX5_copy_109 : decode cX5_copy 109 = .ok (.aload_n 0, 1) := by decide +kernel
theorem dX5_copy_110 : decode cX5_copy 110 = .ok (.ldc 44, 2) := by decide +kernel
theorem dX5_copy_112 : decode cX5_copy 112 = .ok (.invokevirtual 60, 3) := by decide +kernel
theorem dX5_copy_115 : decode cX5_copy 115 = .ok (.ireturn, 1) := by decide +kernel
theorem dX5_copy_116 : decode cX5_copy 116 = .ok (.bipush 40, 2) := by decide +kernel
theorem dX5_copy_118 : decode cX5_copy 118 = .ok (.iload_n 1, 1) := by decide +kernel
theorem dX5_copy_119 : decode cX5_copy 119 = .ok (.imul, 1) := by decide +kernel
theorem dX5_copy_120 : decode cX5_copy 120 = .ok (.iload_n 2, 1) := by decide +kernel
theorem dX5_copy_121 : decode cX5_copy 121 = .ok (.iadd, 1) := by decide +kernel
theorem dX5_copy_122 : decode cX5_copy 122 = .ok (.istore 6, 2) := by decide +kernel
theorem dX5_copy_124 : decode cX5_copy 124 = .ok (.bipush 40, 2) := by decide +kernel
theorem dX5_copy_126 : decode cX5_copy 126 = .ok (.iload_n 3, 1) := by decide +kernel
theorem dX5_copy_127 : decode cX5_copy 127 = .ok (.imul, 1) := by decide +kernel
theorem dX5_copy_128 : decode cX5_copy 128 = .ok (.iload 4, 2) := by decide +kernel
theorem dX5_copy_130 : decode cX5_copy 130 = .ok (.iadd, 1) := by decide +kernel
theorem dX5_copy_131 : decode cX5_copy 131 = .ok (.istore 7, 2) := by decide +kernel
theorem dX5_copy_133 : decode cX5_copy 133 = .ok (.iconst 0, 1) := by decide +kernel
theorem dX5_copy_134 : decode cX5_copy 134 = .ok (.istore 8, 2) := by decide +kernel
theorem dX5_copy_136 : decode cX5_copy 136 = .ok (.iload 8, 2) := by decide +kernel
theorem dX5_copy_138 : decode cX5_copy 138 = .ok (.iload 5, 2) := by decide +kernel
theorem dX5_copy_140 : decode cX5_copy 140 = .ok (.if_icmp .ge 50, 3) := by decide +kernel
theorem dX5_copy_143 : decode cX5_copy 143 = .ok (.iload 6, 2) := by decide +kernel
theorem dX5_copy_145 : decode cX5_copy 145 = .ok (.iload 7, 2) := by decide +kernel
theorem dX5_copy_147 : decode cX5_copy 147 = .ok (.if_icmp .ge 13, 3) := by decide +kernel
theorem dX5_copy_150 : decode cX5_copy 150 = .ok (.iload 5, 2) := by decide +kernel
theorem dX5_copy_152 : decode cX5_copy 152 = .ok (.iconst 1, 1) := by decide +kernel
theorem dX5_copy_153 : decode cX5_copy 153 = .ok (.isub, 1) := by decide +kernel
theorem dX5_copy_154 : decode cX5_copy 154 = .ok (.iload 8, 2) := by decide +kernel
theorem dX5_copy_156 : decode cX5_copy 156 = .ok (.isub, 1) := by decide +kernel
theorem dX5_copy_157 : decode cX5_copy 157 = .ok (.goto 5, 3) := by decide +kernel
theorem dX5_copy_160 : decode cX5_copy 160 = .ok (.iload 8, 2) := by decide +kernel
theorem dX5_copy_162 : decode cX5_copy 162 = .ok (.istore 9, 2) := by decide +kernel
theorem dX5_copy_164 : decode cX5_copy 164 = .ok (.aload_n 0, 1) := by decide +kernel
theorem dX5_copy_165 : decode cX5_copy 165 = .ok (.getfield 31, 3) := by decide +kernel
theorem dX5_copy_168 : decode cX5_copy 168 = .ok (.iload 7, 2) := by decide +kernel
theorem dX5_copy_170 : decode cX5_copy 170 = .ok (.iload 9, 2) := by decide +kernel
theorem dX5_copy_172 : decode cX5_copy 172 = .ok (.iadd, 1) := by decide +kernel
theorem dX5_copy_173 : decode cX5_copy 173 = .ok (.aload_n 0, 1) := by decide +kernel
theorem dX5_copy_174 : decode cX5_copy 174 = .ok (.getfield 31, 3) := by decide +kernel
theorem dX5_copy_177 : decode cX5_copy 177 = .ok (.iload 6, 2) := by decide +kernel
theorem dX5_copy_179 : decode cX5_copy 179 = .ok (.iload 9, 2) := by decide +kernel
theorem dX5_copy_181 : decode cX5_copy 181 = .ok (.iadd, 1) := by decide +kernel
theorem dX5_copy_182 : decode cX5_copy 182 = .ok (.laload, 1) := by decide +kernel
theorem dX5_copy_183 : decode cX5_copy 183 = .ok (.lastore, 1) := by decide +kernel
theorem dX5_copy_184 : decode cX5_copy 184 = .ok (.iinc 8 1, 3) := by decide +kernel
theorem dX5_copy_187 : decode cX5_copy 187 = .ok (.goto (-51), 3) := by decide +kernel
theorem dX5_copy_190 : decode cX5_copy 190 = .ok (.iload 5, 2) := by decide +kernel
theorem dX5_copy_192 : decode cX5_copy 192 = .ok (.ireturn, 1) := by decide +kernel
def mX5_copy_b14   (V : jMem) : Option (Int32 × jMem) := ((mX5_finds (-1000000001 : Int32) V).bind (fun (p1 : Int32 × jMem) => (some (p1.1, p1.2))))
set_option maxHeartbeats 4000000 in
set_option maxRecDepth 20000 in
theorem tX5_copy_b14 {l : Launch} {Z : jZ} {q : Nat → Nat} {V : jMem} {r : Int32} {V' : jMem}    (hm : mX5_copy_b14 V = some (r, V')) : J l Z RX5 "copy" cX5_copy 10 (some .int) 1 0 0 (fun r' w => r' = some (.int r) ∧ w = jw Z q V' dM) 14 [(0, .ref (q 0))] [] (jw Z q V dM) 0 0 := by
  unfold mX5_copy_b14 at hm
  refine j_aload_n dX5_copy_14 rfl rfl ?_
  refine j_ldc dX5_copy_15 rfl wX5_44 ?_
  obtain ⟨p1, ep1, hm⟩ := jb_of hm
  refine o_callV_i kX5_60 dX5_copy_17 rfl (tX5_finds  ep1) rfl rfl rfl rfl rfl (Nat.le_of_ble_eq_true rfl) (by decide) ?_
  exact j_ireturn dX5_copy_20 rfl rfl ⟨Nat.le_refl _, Nat.le_refl _⟩ (jf_m (fun z => .int z) hm)
def mX5_copy_b39   (V : jMem) : Option (Int32 × jMem) := ((mX5_finds (-1000000006 : Int32) V).bind (fun (p1 : Int32 × jMem) => (some (p1.1, p1.2))))
set_option maxHeartbeats 4000000 in
set_option maxRecDepth 20000 in
theorem tX5_copy_b39 {l : Launch} {Z : jZ} {q : Nat → Nat} {V : jMem} {r : Int32} {V' : jMem}    (hm : mX5_copy_b39 V = some (r, V')) : J l Z RX5 "copy" cX5_copy 10 (some .int) 1 0 0 (fun r' w => r' = some (.int r) ∧ w = jw Z q V' dM) 39 [(0, .ref (q 0))] [] (jw Z q V dM) 0 0 := by
  unfold mX5_copy_b39 at hm
  refine j_aload_n dX5_copy_39 rfl rfl ?_
  refine j_ldc dX5_copy_40 rfl wX5_235 ?_
  obtain ⟨p1, ep1, hm⟩ := jb_of hm
  refine o_callV_i kX5_60 dX5_copy_42 rfl (tX5_finds  ep1) rfl rfl rfl rfl rfl (Nat.le_of_ble_eq_true rfl) (by decide) ?_
  exact j_ireturn dX5_copy_45 rfl rfl ⟨Nat.le_refl _, Nat.le_refl _⟩ (jf_m (fun z => .int z) hm)
def mX5_copy_b109   (V : jMem) : Option (Int32 × jMem) := ((mX5_finds (-1000000001 : Int32) V).bind (fun (p1 : Int32 × jMem) => (some (p1.1, p1.2))))
set_option maxHeartbeats 4000000 in
set_option maxRecDepth 20000 in
theorem tX5_copy_b109 {l : Launch} {Z : jZ} {q : Nat → Nat} {V : jMem} {r : Int32} {V' : jMem}    (hm : mX5_copy_b109 V = some (r, V')) : J l Z RX5 "copy" cX5_copy 10 (some .int) 1 0 0 (fun r' w => r' = some (.int r) ∧ w = jw Z q V' dM) 109 [(0, .ref (q 0))] [] (jw Z q V dM) 0 0 := by
  unfold mX5_copy_b109 at hm
  refine j_aload_n dX5_copy_109 rfl rfl ?_
  refine j_ldc dX5_copy_110 rfl wX5_44 ?_
  obtain ⟨p1, ep1, hm⟩ := jb_of hm
  refine o_callV_i kX5_60 dX5_copy_112 rfl (tX5_finds  ep1) rfl rfl rfl rfl rfl (Nat.le_of_ble_eq_true rfl) (by decide) ?_
  exact j_ireturn dX5_copy_115 rfl rfl ⟨Nat.le_refl _, Nat.le_refl _⟩ (jf_m (fun z => .int z) hm)
def mX5_copy_b162  (k136 : Int32 → Int32 → Int32 → Int32 → jMem → Option (Int32 × jMem)) (a5 : Int32) (a6 : Int32) (a7 : Int32) (a8 : Int32) (s0 : Int32) (V : jMem) : Option (Int32 × jMem) := (jg (jin (a6 + s0) 160) (jg (jin (a7 + s0) 160) (jl (jsL V 8 (Int32.toNatClampNeg (a7 + s0)) (V.2 8 (Int32.toNatClampNeg (a6 + s0)))) (fun (V3 : jMem) => (k136 a5 a6 a7 (a8 + (1 : Int32)) V3)))))
set_option maxHeartbeats 4000000 in
set_option maxRecDepth 20000 in
theorem tX5_copy_b162 {l : Launch} {Z : jZ} {q : Nat → Nat} {k136 : Int32 → Int32 → Int32 → Int32 → jMem → Option (Int32 × jMem)} {a5 : Int32} {a6 : Int32} {a7 : Int32} {a8 : Int32} {s0 : Int32} {V : jMem} {r : Int32} {V' : jMem}   (hk136 : ∀ (a5 : Int32) (a6 : Int32) (a7 : Int32) (a8 : Int32) (V : jMem), k136 a5 a6 a7 a8 V = some (r, V') → J l Z RX5 "copy" cX5_copy 10 (some .int) 1 0 0 (fun r' w => r' = some (.int r) ∧ w = jw Z q V' dM) 136 [(0, .ref (q 0)), (5, .int a5), (6, .int a6), (7, .int a7), (8, .int a8)] [] (jw Z q V dM) 0 0) (hm : mX5_copy_b162 k136 a5 a6 a7 a8 s0 V = some (r, V')) : J l Z RX5 "copy" cX5_copy 10 (some .int) 1 0 0 (fun r' w => r' = some (.int r) ∧ w = jw Z q V' dM) 162 [(0, .ref (q 0)), (5, .int a5), (6, .int a6), (7, .int a7), (8, .int a8)] [.int s0] (jw Z q V dM) 0 0 := by
  unfold mX5_copy_b162 at hm
  refine j_istore (L' := [(9, _), (0, _), (5, _), (6, _), (7, _), (8, _)]) dX5_copy_162 rfl (by decide) rfl ?_
  refine j_aload_n dX5_copy_164 rfl rfl ?_
  refine m_getr (k := 11) (r := 8) fX5_31 dX5_copy_165 rfl rfl rfl ?_
  refine j_iload dX5_copy_168 rfl rfl ?_
  refine j_iload dX5_copy_170 rfl rfl ?_
  refine j_iadd dX5_copy_172 rfl ?_
  refine j_aload_n dX5_copy_173 rfl rfl ?_
  refine m_getr (k := 11) (r := 8) fX5_31 dX5_copy_174 rfl rfl rfl ?_
  refine j_iload dX5_copy_177 rfl rfl ?_
  refine j_iload dX5_copy_179 rfl rfl ?_
  refine j_iadd dX5_copy_181 rfl ?_
  obtain ⟨g1, hm⟩ := jg_of hm
  refine o_lald (k := (Int32.toNatClampNeg (a6 + s0))) rfl dX5_copy_182 rfl rfl (jin_vp g1) ?_
  obtain ⟨g2, hm⟩ := jg_of hm
  refine o_last (k := (Int32.toNatClampNeg (a7 + s0))) rfl dX5_copy_183 rfl rfl (jin_vp g2) ?_
  obtain ⟨V3, eV3⟩ : ∃ y, y = (jsL V 8 (Int32.toNatClampNeg (a7 + s0)) (V.2 8 (Int32.toNatClampNeg (a6 + s0)))) := ⟨_, rfl⟩
  have hm := jl_of hm eV3
  rw [← eV3]
  refine j_iinc (v := (a8 + (1 : Int32))) (L' := [(8, _), (9, _), (0, _), (5, _), (6, _), (7, _)]) dX5_copy_184 rfl rfl rfl (by decide) rfl ?_
  refine j_goto (tgt := 136) dX5_copy_187 (by decide) ?_
  refine j_sub (L' := [(0, _), (5, _), (6, _), (7, _), (8, _)]) [2, 3, 4, 5, 0] rfl ?_
  exact hk136 _ _ _ _ _  hm
def mX5_copy_b136   : Nat → Int32 → Int32 → Int32 → Int32 → jMem → Option (Int32 × jMem)
  | 0, _, _, _, _, _ => none
  | n + 1, a5, a6, a7, a8, V => (if a5 ≤ a8 then (some (a5, V)) else (if a7 ≤ a6 then (mX5_copy_b162 (mX5_copy_b136 n) a5 a6 a7 a8 a8 V) else (mX5_copy_b162 (mX5_copy_b136 n) a5 a6 a7 a8 ((a5 - (1 : Int32)) - a8) V)))
set_option maxHeartbeats 4000000 in
set_option maxRecDepth 20000 in
theorem tX5_copy_b136 {l : Launch} {Z : jZ} {q : Nat → Nat}  {r : Int32} {V' : jMem}   (n : Nat) : ∀ (a5 : Int32) (a6 : Int32) (a7 : Int32) (a8 : Int32) (V : jMem), mX5_copy_b136 n a5 a6 a7 a8 V = some (r, V') → J l Z RX5 "copy" cX5_copy 10 (some .int) 1 0 0 (fun r' w => r' = some (.int r) ∧ w = jw Z q V' dM) 136 [(0, .ref (q 0)), (5, .int a5), (6, .int a6), (7, .int a7), (8, .int a8)] [] (jw Z q V dM) 0 0 := by
  induction n with
  | zero => intro a5 a6 a7 a8 V hm; cases hm
  | succ n ih =>
    intro a5 a6 a7 a8 V hm
    rw [mX5_copy_b136] at hm
    refine j_iload dX5_copy_136 rfl rfl ?_
    refine j_iload dX5_copy_138 rfl rfl ?_
    refine j_icmp_ge (tgt := 190) dX5_copy_140 rfl (by decide) (fun c1 => ?_) (fun c1 => ?_)
    · have hm := jif_pos c1 hm
      refine j_iload dX5_copy_190 rfl rfl ?_
      exact j_ireturn dX5_copy_192 rfl rfl ⟨Nat.le_refl _, Nat.le_refl _⟩ (jf_m (fun z => .int z) hm)
    · have hm := jif_neg c1 hm
      refine j_iload dX5_copy_143 rfl rfl ?_
      refine j_iload dX5_copy_145 rfl rfl ?_
      refine j_icmp_ge (tgt := 160) dX5_copy_147 rfl (by decide) (fun c2 => ?_) (fun c2 => ?_)
      · have hm := jif_pos c2 hm
        refine j_iload dX5_copy_160 rfl rfl ?_
        exact tX5_copy_b162   ih hm
      · have hm := jif_neg c2 hm
        refine j_iload dX5_copy_150 rfl rfl ?_
        refine j_iconst (v := 1) dX5_copy_152 rfl (by decide) ?_
        refine j_isub dX5_copy_153 rfl ?_
        refine j_iload dX5_copy_154 rfl rfl ?_
        refine j_isub dX5_copy_156 rfl ?_
        refine j_goto (tgt := 162) dX5_copy_157 (by decide) ?_
        exact tX5_copy_b162   ih hm
def mX5_copy (a1 : Int32) (a2 : Int32) (a3 : Int32) (a4 : Int32) (a5 : Int32) (V : jMem) : Option (Int32 × jMem) := (if (mX5_isSheet a1) = (0 : Int32) then (mX5_copy_b14 V) else (if (mX5_isSheet a3) = (0 : Int32) then (mX5_copy_b14 V) else (jg (jin a1 4) (if (V.1 6 (Int32.toNatClampNeg a1)) < (0 : Int32) then (mX5_copy_b39 V) else (jg (jin a3 4) (if (0 : Int32) ≤ (V.1 6 (Int32.toNatClampNeg a3)) then (if (V.1 6 (Int32.toNatClampNeg a1)) = (V.1 6 (Int32.toNatClampNeg a3)) then (if a2 < (0 : Int32) then (mX5_copy_b109 V) else (if a4 < (0 : Int32) then (mX5_copy_b109 V) else (if a5 < (0 : Int32) then (mX5_copy_b109 V) else (if ((V.1 7 (Int32.toNatClampNeg a1)) - a2) < a5 then (mX5_copy_b109 V) else (if a5 ≤ ((V.1 7 (Int32.toNatClampNeg a3)) - a4) then (mX5_copy_b136 2000 a5 (((40 : Int32) * a1) + a2) (((40 : Int32) * a3) + a4) (0 : Int32) V) else (mX5_copy_b109 V)))))) else ((mX5_finds (-1000000003 : Int32) V).bind (fun (p13 : Int32 × jMem) => (some (p13.1, p13.2))))) else (mX5_copy_b39 V)))))))
set_option maxHeartbeats 4000000 in
set_option maxRecDepth 20000 in
theorem tX5_copy {l : Launch} {Z : jZ} {q : Nat → Nat} {a1 : Int32} {a2 : Int32} {a3 : Int32} {a4 : Int32} {a5 : Int32} {V : jMem} {r : Int32} {V' : jMem}  (hm : mX5_copy a1 a2 a3 a4 a5 V = some (r, V')) : CtD l Z yX5_copy cX5_copy 10 (some .int) 1 q dM [.ref (q 0), .int a1, .int a2, .int a3, .int a4, .int a5] V (some (.int r)) V' := by
  refine Ct_of (L := [(0, .ref (q 0)), (1, .int a1), (2, .int a2), (3, .int a3), (4, .int a4), (5, .int a5)]) (own := RX5) (nm := "copy") rfl rfl (by decide +kernel) rfl (Nat.le_of_ble_eq_true rfl) ?_
  unfold mX5_copy at hm
  refine j_iload_n dX5_copy_0 rfl rfl ?_
  refine o_callS_i kX5_232 dX5_copy_1 rfl (tX5_isSheet  rfl) rfl rfl (Nat.le_of_ble_eq_true rfl) (by decide) ?_
  refine j_if_eq (tgt := 14) dX5_copy_4 rfl (by decide) (fun c1 => ?_) (fun c1 => ?_)
  · have hm := jif_pos c1 hm
    refine j_sub (L' := [(0, _)]) [0] rfl ?_
    exact tX5_copy_b14    hm
  · have hm := jif_neg c1 hm
    refine j_iload_n dX5_copy_7 rfl rfl ?_
    refine o_callS_i kX5_232 dX5_copy_8 rfl (tX5_isSheet  rfl) rfl rfl (Nat.le_of_ble_eq_true rfl) (by decide) ?_
    refine j_if_ne (tgt := 21) dX5_copy_11 rfl (by decide) (fun c2 => ?_) (fun c2 => ?_)
    · have hm := jif_neg c2 hm
      refine j_aload_n dX5_copy_21 rfl rfl ?_
      refine m_getr (k := 9) (r := 6) fX5_25 dX5_copy_22 rfl rfl rfl ?_
      refine j_iload_n dX5_copy_25 rfl rfl ?_
      obtain ⟨g3, hm⟩ := jg_of hm
      refine o_iald (k := (Int32.toNatClampNeg a1)) rfl dX5_copy_26 rfl rfl (jin_vp g3) ?_
      refine j_if_lt (tgt := 39) dX5_copy_27 rfl (by decide) (fun c4 => ?_) (fun c4 => ?_)
      · have hm := jif_pos c4 hm
        refine j_sub (L' := [(0, _)]) [0] rfl ?_
        exact tX5_copy_b39    hm
      · have hm := jif_neg c4 hm
        refine j_aload_n dX5_copy_30 rfl rfl ?_
        refine m_getr (k := 9) (r := 6) fX5_25 dX5_copy_31 rfl rfl rfl ?_
        refine j_iload_n dX5_copy_34 rfl rfl ?_
        obtain ⟨g5, hm⟩ := jg_of hm
        refine o_iald (k := (Int32.toNatClampNeg a3)) rfl dX5_copy_35 rfl rfl (jin_vp g5) ?_
        refine j_if_ge (tgt := 46) dX5_copy_36 rfl (by decide) (fun c6 => ?_) (fun c6 => ?_)
        · have hm := jif_pos c6 hm
          refine j_aload_n dX5_copy_46 rfl rfl ?_
          refine m_getr (k := 9) (r := 6) fX5_25 dX5_copy_47 rfl rfl rfl ?_
          refine j_iload_n dX5_copy_50 rfl rfl ?_
          refine o_iald (k := (Int32.toNatClampNeg a1)) rfl dX5_copy_51 rfl rfl (jin_vp g3) ?_
          refine j_aload_n dX5_copy_52 rfl rfl ?_
          refine m_getr (k := 9) (r := 6) fX5_25 dX5_copy_53 rfl rfl rfl ?_
          refine j_iload_n dX5_copy_56 rfl rfl ?_
          refine o_iald (k := (Int32.toNatClampNeg a3)) rfl dX5_copy_57 rfl rfl (jin_vp g5) ?_
          refine j_icmp_eq (tgt := 68) dX5_copy_58 rfl (by decide) (fun c7 => ?_) (fun c7 => ?_)
          · have hm := jif_pos c7 hm
            refine j_iload_n dX5_copy_68 rfl rfl ?_
            refine j_if_lt (tgt := 109) dX5_copy_69 rfl (by decide) (fun c8 => ?_) (fun c8 => ?_)
            · have hm := jif_pos c8 hm
              refine j_sub (L' := [(0, _)]) [0] rfl ?_
              exact tX5_copy_b109    hm
            · have hm := jif_neg c8 hm
              refine j_iload dX5_copy_72 rfl rfl ?_
              refine j_if_lt (tgt := 109) dX5_copy_74 rfl (by decide) (fun c9 => ?_) (fun c9 => ?_)
              · have hm := jif_pos c9 hm
                refine j_sub (L' := [(0, _)]) [0] rfl ?_
                exact tX5_copy_b109    hm
              · have hm := jif_neg c9 hm
                refine j_iload dX5_copy_77 rfl rfl ?_
                refine j_if_lt (tgt := 109) dX5_copy_79 rfl (by decide) (fun c10 => ?_) (fun c10 => ?_)
                · have hm := jif_pos c10 hm
                  refine j_sub (L' := [(0, _)]) [0] rfl ?_
                  exact tX5_copy_b109    hm
                · have hm := jif_neg c10 hm
                  refine j_iload dX5_copy_82 rfl rfl ?_
                  refine j_aload_n dX5_copy_84 rfl rfl ?_
                  refine m_getr (k := 10) (r := 7) fX5_28 dX5_copy_85 rfl rfl rfl ?_
                  refine j_iload_n dX5_copy_88 rfl rfl ?_
                  refine o_iald (k := (Int32.toNatClampNeg a1)) rfl dX5_copy_89 rfl rfl (jin_vp g3) ?_
                  refine j_iload_n dX5_copy_90 rfl rfl ?_
                  refine j_isub dX5_copy_91 rfl ?_
                  refine j_icmp_gt (tgt := 109) dX5_copy_92 rfl (by decide) (fun c11 => ?_) (fun c11 => ?_)
                  · have hm := jif_pos c11 hm
                    refine j_sub (L' := [(0, _)]) [0] rfl ?_
                    exact tX5_copy_b109    hm
                  · have hm := jif_neg c11 hm
                    refine j_iload dX5_copy_95 rfl rfl ?_
                    refine j_aload_n dX5_copy_97 rfl rfl ?_
                    refine m_getr (k := 10) (r := 7) fX5_28 dX5_copy_98 rfl rfl rfl ?_
                    refine j_iload_n dX5_copy_101 rfl rfl ?_
                    refine o_iald (k := (Int32.toNatClampNeg a3)) rfl dX5_copy_102 rfl rfl (jin_vp g5) ?_
                    refine j_iload dX5_copy_103 rfl rfl ?_
                    refine j_isub dX5_copy_105 rfl ?_
                    refine j_icmp_le (tgt := 116) dX5_copy_106 rfl (by decide) (fun c12 => ?_) (fun c12 => ?_)
                    · have hm := jif_pos c12 hm
                      refine j_bipush (v := 40) dX5_copy_116 rfl (by decide) ?_
                      refine j_iload_n dX5_copy_118 rfl rfl ?_
                      refine j_imul dX5_copy_119 rfl ?_
                      refine j_iload_n dX5_copy_120 rfl rfl ?_
                      refine j_iadd dX5_copy_121 rfl ?_
                      refine j_istore (L' := [(6, _), (0, _), (1, _), (2, _), (3, _), (4, _), (5, _)]) dX5_copy_122 rfl (by decide) rfl ?_
                      refine j_bipush (v := 40) dX5_copy_124 rfl (by decide) ?_
                      refine j_iload_n dX5_copy_126 rfl rfl ?_
                      refine j_imul dX5_copy_127 rfl ?_
                      refine j_iload dX5_copy_128 rfl rfl ?_
                      refine j_iadd dX5_copy_130 rfl ?_
                      refine j_istore (L' := [(7, _), (6, _), (0, _), (1, _), (2, _), (3, _), (4, _), (5, _)]) dX5_copy_131 rfl (by decide) rfl ?_
                      refine j_iconst (v := 0) dX5_copy_133 rfl (by decide) ?_
                      refine j_istore (L' := [(8, _), (7, _), (6, _), (0, _), (1, _), (2, _), (3, _), (4, _), (5, _)]) dX5_copy_134 rfl (by decide) rfl ?_
                      refine j_sub (L' := [(0, _), (5, _), (6, _), (7, _), (8, _)]) [3, 8, 2, 1, 0] rfl ?_
                      exact tX5_copy_b136   _ _ _ _ _ _  hm
                    · have hm := jif_neg c12 hm
                      refine j_sub (L' := [(0, _)]) [0] rfl ?_
                      exact tX5_copy_b109    hm
          · have hm := jif_neg c7 hm
            refine j_aload_n dX5_copy_61 rfl rfl ?_
            refine j_ldc dX5_copy_62 rfl wX5_100 ?_
            obtain ⟨p13, ep13, hm⟩ := jb_of hm
            refine o_callV_i kX5_60 dX5_copy_64 rfl (tX5_finds  ep13) rfl rfl rfl rfl rfl (Nat.le_of_ble_eq_true rfl) (by decide) ?_
            exact j_ireturn dX5_copy_67 rfl rfl ⟨Nat.le_refl _, Nat.le_refl _⟩ (jf_m (fun z => .int z) hm)
        · have hm := jif_neg c6 hm
          refine j_sub (L' := [(0, _)]) [0] rfl ?_
          exact tX5_copy_b39    hm
    · have hm := jif_pos c2 hm
      refine j_sub (L' := [(0, _)]) [0] rfl ?_
      exact tX5_copy_b14    hm
theorem dX5_cost_0 : decode cX5_cost 0 = .ok (.iload_n 1, 1) := by decide +kernel
theorem dX5_cost_1 : decode cX5_cost 1 = .ok (.invokestatic 232, 3) := by decide +kernel
theorem dX5_cost_4 : decode cX5_cost 4 = .ok (.ifCond .ne 11, 3) := by decide +kernel
theorem dX5_cost_7 : decode cX5_cost 7 = .ok (.aload_n 0, 1) := by decide +kernel
theorem dX5_cost_8 : decode cX5_cost 8 = .ok (.ldc 44, 2) := by decide +kernel
theorem dX5_cost_10 : decode cX5_cost 10 = .ok (.invokevirtual 60, 3) := by decide +kernel
theorem dX5_cost_13 : decode cX5_cost 13 = .ok (.i2l, 1) := by decide +kernel
theorem dX5_cost_14 : decode cX5_cost 14 = .ok (.lreturn, 1) := by decide +kernel
theorem dX5_cost_15 : decode cX5_cost 15 = .ok (.aload_n 0, 1) := by decide +kernel
theorem dX5_cost_16 : decode cX5_cost 16 = .ok (.getfield 25, 3) := by decide +kernel
theorem dX5_cost_19 : decode cX5_cost 19 = .ok (.iload_n 1, 1) := by decide +kernel
theorem dX5_cost_20 : decode cX5_cost 20 = .ok (.iaload, 1) := by decide +kernel
theorem dX5_cost_21 : decode cX5_cost 21 = .ok (.ifCond .ge 11, 3) := by decide +kernel
theorem dX5_cost_24 : decode cX5_cost 24 = .ok (.aload_n 0, 1) := by decide +kernel
theorem dX5_cost_25 : decode cX5_cost 25 = .ok (.ldc 235, 2) := by decide +kernel
theorem dX5_cost_27 : decode cX5_cost 27 = .ok (.invokevirtual 60, 3) := by decide +kernel
theorem dX5_cost_30 : decode cX5_cost 30 = .ok (.i2l, 1) := by decide +kernel
theorem dX5_cost_31 : decode cX5_cost 31 = .ok (.lreturn, 1) := by decide +kernel
theorem dX5_cost_32 : decode cX5_cost 32 = .ok (.iconst 0, 1) := by decide +kernel
theorem dX5_cost_33 : decode cX5_cost 33 = .ok (.istore_n 2, 1) := by decide +kernel
theorem dX5_cost_34 : decode cX5_cost 34 = .ok (.iconst 0, 1) := by decide +kernel
theorem dX5_cost_35 : decode cX5_cost 35 = .ok (.istore_n 3, 1) := by decide +kernel
theorem dX5_cost_36 : decode cX5_cost 36 = .ok (.iload_n 3, 1) := by decide +kernel
theorem dX5_cost_37 : decode cX5_cost 37 = .ok (.aload_n 0, 1) := by decide +kernel
theorem dX5_cost_38 : decode cX5_cost 38 = .ok (.getfield 28, 3) := by decide +kernel
theorem dX5_cost_41 : decode cX5_cost 41 = .ok (.iload_n 1, 1) := by decide +kernel
theorem dX5_cost_42 : decode cX5_cost 42 = .ok (.iaload, 1) := by decide +kernel
theorem dX5_cost_43 : decode cX5_cost 43 = .ok (.if_icmp .ge 58, 3) := by decide +kernel
theorem dX5_cost_46 : decode cX5_cost 46 = .ok (.aload_n 0, 1) := by decide +kernel
theorem dX5_cost_47 : decode cX5_cost 47 = .ok (.getfield 31, 3) := by decide +kernel
theorem dX5_cost_50 : decode cX5_cost 50 = .ok (.bipush 40, 2) := by decide +kernel
theorem dX5_cost_52 : decode cX5_cost 52 = .ok (.iload_n 1, 1) := by decide +kernel
theorem dX5_cost_53 : decode cX5_cost 53 = .ok (.imul, 1) := by decide +kernel
theorem dX5_cost_54 : decode cX5_cost 54 = .ok (.iload_n 3, 1) := by decide +kernel
theorem dX5_cost_55 : decode cX5_cost 55 = .ok (.iadd, 1) := by decide +kernel
theorem dX5_cost_56 : decode cX5_cost 56 = .ok (.laload, 1) := by decide +kernel
theorem dX5_cost_57 : decode cX5_cost 57 = .ok (.lstore 4, 2) := by decide +kernel
theorem dX5_cost_59 : decode cX5_cost 59 = .ok (.aload_n 0, 1) := by decide +kernel
theorem dX5_cost_60 : decode cX5_cost 60 = .ok (.lload 4, 2) := by decide +kernel
theorem dX5_cost_62 : decode cX5_cost 62 = .ok (.invokevirtual 82, 3) := by decide +kernel
theorem dX5_cost_65 : decode cX5_cost 65 = .ok (.ifCond .eq 14, 3) := by decide +kernel
theorem dX5_cost_68 : decode cX5_cost 68 = .ok (.iload_n 2, 1) := by decide +kernel
theorem dX5_cost_69 : decode cX5_cost 69 = .ok (.lload 4, 2) := by decide +kernel
theorem dX5_cost_71 : decode cX5_cost 71 = .ok (.l2i, 1) := by decide +kernel
theorem dX5_cost_72 : decode cX5_cost 72 = .ok (.ishr, 1) := by decide +kernel
theorem dX5_cost_73 : decode cX5_cost 73 = .ok (.iconst 1, 1) := by decide +kernel
theorem dX5_cost_74 : decode cX5_cost 74 = .ok (.iand, 1) := by decide +kernel
theorem dX5_cost_75 : decode cX5_cost 75 = .ok (.iconst 1, 1) := by decide +kernel
theorem dX5_cost_76 : decode cX5_cost 76 = .ok (.if_icmp .ne 11, 3) := by decide +kernel
theorem dX5_cost_79 : decode cX5_cost 79 = .ok (.aload_n 0, 1) := by decide +kernel
theorem dX5_cost_80 : decode cX5_cost 80 = .ok (.ldc 100, 2) := by decide +kernel
theorem dX5_cost_82 : decode cX5_cost 82 = .ok (.invokevirtual 60, 3) := by decide +kernel
theorem dX5_cost_85 : decode cX5_cost 85 = .ok (.i2l, 1) := by decide +kernel
theorem dX5_cost_86 : decode cX5_cost 86 = .ok (.lreturn, 1) := by decide +kernel
theorem dX5_cost_87 : decode cX5_cost 87 = .ok (.iload_n 2, 1) := by decide +kernel
theorem dX5_cost_88 : decode cX5_cost 88 = .ok (.iconst 1, 1) := by decide +kernel
theorem dX5_cost_89 : decode cX5_cost 89 = .ok (.lload 4, 2) := by decide +kernel
theorem dX5_cost_91 : decode cX5_cost 91 = .ok (.l2i, 1) := by decide +kernel
theorem dX5_cost_92 : decode cX5_cost 92 = .ok (.ishl, 1) := by decide +kernel
theorem dX5_cost_93 : decode cX5_cost 93 = .ok (.ior, 1) := by decide +kernel
theorem dX5_cost_94 : decode cX5_cost 94 = .ok (.istore_n 2, 1) := by decide +kernel
theorem dX5_cost_95 : decode cX5_cost 95 = .ok (.iinc 3 1, 3) := by decide +kernel
theorem dX5_cost_98 : decode cX5_cost 98 = .ok (.goto (-62), 3) := by decide +kernel
theorem dX5_cost_101 : decode cX5_cost 101 = .ok (.lconst 0, 1) := by decide +kernel
theorem dX5_cost_102 : decode cX5_cost 102 = .ok (.lstore_n 3, 1) := by decide +kernel
theorem dX5_cost_103 : decode cX5_cost 103 = .ok (.aload_n 0, 1) := by decide +kernel
theorem dX5_cost_104 : decode cX5_cost 104 = .ok (.invokevirtual 75, 3) := by decide +kernel
theorem dX5_cost_107 : decode cX5_cost 107 = .ok (.istore 5, 2) := by decide +kernel
theorem dX5_cost_109 : decode cX5_cost 109 = .ok (.iconst 0, 1) := by decide +kernel
theorem dX5_cost_110 : decode cX5_cost 110 = .ok (.istore 6, 2) := by decide +kernel
theorem dX5_cost_112 : decode cX5_cost 112 = .ok (.iload 6, 2) := by decide +kernel
theorem dX5_cost_114 : decode cX5_cost 114 = .ok (.aload_n 0, 1) := by decide +kernel
theorem dX5_cost_115 : decode cX5_cost 115 = .ok (.getfield 28, 3) := by decide +kernel
theorem dX5_cost_118 : decode cX5_cost 118 = .ok (.iload_n 1, 1) := by decide +kernel
theorem dX5_cost_119 : decode cX5_cost 119 = .ok (.iaload, 1) := by decide +kernel
theorem dX5_cost_120 : decode cX5_cost 120 = .ok (.if_icmp .ge 45, 3) := by decide +kernel
theorem dX5_cost_123 : decode cX5_cost 123 = .ok (.aload_n 0, 1) := by decide +kernel
theorem dX5_cost_124 : decode cX5_cost 124 = .ok (.getfield 31, 3) := by decide +kernel
theorem dX5_cost_127 : decode cX5_cost 127 = .ok (.bipush 40, 2) := by decide +kernel
theorem dX5_cost_129 : decode cX5_cost 129 = .ok (.iload_n 1, 1) := by decide +kernel
theorem dX5_cost_130 : decode cX5_cost 130 = .ok (.imul, 1) := by decide +kernel
theorem dX5_cost_131 : decode cX5_cost 131 = .ok (.iload 6, 2) := by decide +kernel
theorem dX5_cost_133 : decode cX5_cost 133 = .ok (.iadd, 1) := by decide +kernel
theorem dX5_cost_134 : decode cX5_cost 134 = .ok (.laload, 1) := by decide +kernel
theorem dX5_cost_135 : decode cX5_cost 135 = .ok (.l2i, 1) := by decide +kernel
theorem dX5_cost_136 : decode cX5_cost 136 = .ok (.istore 7, 2) := by decide +kernel
theorem dX5_cost_138 : decode cX5_cost 138 = .ok (.lload_n 3, 1) := by decide +kernel
theorem dX5_cost_139 : decode cX5_cost 139 = .ok (.aload_n 0, 1) := by decide +kernel
theorem dX5_cost_140 : decode cX5_cost 140 = .ok (.iload 7, 2) := by decide +kernel
theorem dX5_cost_142 : decode cX5_cost 142 = .ok (.iload 5, 2) := by decide +kernel
theorem dX5_cost_144 : decode cX5_cost 144 = .ok (.invokevirtual 79, 3) := by decide +kernel
theorem dX5_cost_147 : decode cX5_cost 147 = .ok (.i2l, 1) := by decide +kernel
theorem dX5_cost_148 : decode cX5_cost 148 = .ok (.ladd, 1) := by decide +kernel
theorem dX5_cost_149 : decode cX5_cost 149 = .ok (.lstore_n 3, 1) := by decide +kernel
theorem dX5_cost_150 : decode cX5_cost 150 = .ok (.iload 5, 2) := by decide +kernel
theorem dX5_cost_152 : decode cX5_cost 152 = .ok (.iconst 1, 1) := by decide +kernel
theorem dX5_cost_153 : decode cX5_cost 153 = .ok (.iload 7, 2) := by decide +kernel
theorem dX5_cost_155 : decode cX5_cost 155 = .ok (.ishl, 1) := by decide +kernel
theorem dX5_cost_156 : decode cX5_cost 156 = .ok (.ior, 1) := by decide +kernel
theorem dX5_cost_157 : decode cX5_cost 157 = .ok (.istore 5, 2) := by decide +kernel
theorem dX5_cost_159 : decode cX5_cost 159 = .ok (.iinc 6 1, 3) := by decide +kernel
theorem dX5_cost_162 : decode cX5_cost 162 = .ok (.goto (-50), 3) := by decide +kernel
theorem dX5_cost_165 : decode cX5_cost 165 = .ok (.lload_n 3, 1) := by decide +kernel
theorem dX5_cost_166 : decode cX5_cost 166 = .ok (.lreturn, 1) := by decide +kernel
def mX5_cost_b79   (V : jMem) : Option (Int64 × jMem) := ((mX5_finds (-1000000003 : Int32) V).bind (fun (p1 : Int32 × jMem) => (some ((Int32.toInt64 p1.1), p1.2))))
set_option maxHeartbeats 4000000 in
set_option maxRecDepth 20000 in
theorem tX5_cost_b79 {l : Launch} {Z : jZ} {q : Nat → Nat} {V : jMem} {r : Int64} {V' : jMem}    (hm : mX5_cost_b79 V = some (r, V')) : J l Z RX5 "cost" cX5_cost 8 (some .long) 4 0 0 (fun r' w => r' = some (.long r) ∧ w = jw Z q V' dM) 79 [(0, .ref (q 0))] [] (jw Z q V dM) 0 0 := by
  unfold mX5_cost_b79 at hm
  refine j_aload_n dX5_cost_79 rfl rfl ?_
  refine j_ldc dX5_cost_80 rfl wX5_100 ?_
  obtain ⟨p1, ep1, hm⟩ := jb_of hm
  refine o_callV_i kX5_60 dX5_cost_82 rfl (tX5_finds  ep1) rfl rfl rfl rfl rfl (Nat.le_of_ble_eq_true rfl) (by decide) ?_
  refine j_i2l dX5_cost_85 rfl ?_
  exact j_lreturn dX5_cost_86 rfl ⟨Nat.le_refl _, Nat.le_refl _⟩ (jf_m (fun z => .long z) hm)
def mX5_cost_b112   : Nat → Int32 → Int64 → Int32 → Int32 → jMem → Option (Int64 × jMem)
  | 0, _, _, _, _, _ => none
  | n + 1, a1, a3, a5, a6, V => (jg (jin a1 4) (if (V.1 7 (Int32.toNatClampNeg a1)) ≤ a6 then (some (a3, V)) else (jg (jin (((40 : Int32) * a1) + a6) 160) (jl (Int64.toInt32 (V.2 8 (Int32.toNatClampNeg (((40 : Int32) * a1) + a6)))) (fun (v4 : Int32) => ((mX5_asksBy v4 a5 V).bind (fun (r5 : Int32) => (jl (a5 ||| ((1 : Int32) <<< (v4 &&& (31 : Int32)))) (fun (v6 : Int32) => (mX5_cost_b112 n a1 (a3 + (Int32.toInt64 r5)) v6 (a6 + (1 : Int32)) V))))))))))
set_option maxHeartbeats 4000000 in
set_option maxRecDepth 20000 in
theorem tX5_cost_b112 {l : Launch} {Z : jZ} {q : Nat → Nat}  {r : Int64} {V' : jMem}   (n : Nat) : ∀ (a1 : Int32) (a3 : Int64) (a5 : Int32) (a6 : Int32) (V : jMem), mX5_cost_b112 n a1 a3 a5 a6 V = some (r, V') → J l Z RX5 "cost" cX5_cost 8 (some .long) 4 0 0 (fun r' w => r' = some (.long r) ∧ w = jw Z q V' dM) 112 [(0, .ref (q 0)), (1, .int a1), (3, .long a3), (5, .int a5), (6, .int a6)] [] (jw Z q V dM) 0 0 := by
  induction n with
  | zero => intro a1 a3 a5 a6 V hm; cases hm
  | succ n ih =>
    intro a1 a3 a5 a6 V hm
    rw [mX5_cost_b112] at hm
    refine j_iload dX5_cost_112 rfl rfl ?_
    refine j_aload_n dX5_cost_114 rfl rfl ?_
    refine m_getr (k := 10) (r := 7) fX5_28 dX5_cost_115 rfl rfl rfl ?_
    refine j_iload_n dX5_cost_118 rfl rfl ?_
    obtain ⟨g1, hm⟩ := jg_of hm
    refine o_iald (k := (Int32.toNatClampNeg a1)) rfl dX5_cost_119 rfl rfl (jin_vp g1) ?_
    refine j_icmp_ge (tgt := 165) dX5_cost_120 rfl (by decide) (fun c2 => ?_) (fun c2 => ?_)
    · have hm := jif_pos c2 hm
      refine j_lload_n dX5_cost_165 rfl rfl ?_
      exact j_lreturn dX5_cost_166 rfl ⟨Nat.le_refl _, Nat.le_refl _⟩ (jf_m (fun z => .long z) hm)
    · have hm := jif_neg c2 hm
      refine j_aload_n dX5_cost_123 rfl rfl ?_
      refine m_getr (k := 11) (r := 8) fX5_31 dX5_cost_124 rfl rfl rfl ?_
      refine j_bipush (v := 40) dX5_cost_127 rfl (by decide) ?_
      refine j_iload_n dX5_cost_129 rfl rfl ?_
      refine j_imul dX5_cost_130 rfl ?_
      refine j_iload dX5_cost_131 rfl rfl ?_
      refine j_iadd dX5_cost_133 rfl ?_
      obtain ⟨g3, hm⟩ := jg_of hm
      refine o_lald (k := (Int32.toNatClampNeg (((40 : Int32) * a1) + a6))) rfl dX5_cost_134 rfl rfl (jin_vp g3) ?_
      refine j_l2i dX5_cost_135 rfl ?_
      obtain ⟨v4, ev4⟩ : ∃ y, y = ((Int64.toInt32 (V.2 8 (Int32.toNatClampNeg (((40 : Int32) * a1) + a6)))) : Int32) := ⟨_, rfl⟩
      have hm := jl_of hm ev4
      rw [← ev4]
      refine j_istore (L' := [(7, _), (0, _), (1, _), (3, _), (5, _), (6, _)]) dX5_cost_136 rfl (by decide) rfl ?_
      refine j_lload_n dX5_cost_138 rfl rfl ?_
      refine j_aload_n dX5_cost_139 rfl rfl ?_
      refine j_iload dX5_cost_140 rfl rfl ?_
      refine j_iload dX5_cost_142 rfl rfl ?_
      obtain ⟨r5, er5, hm⟩ := jb_of hm
      refine o_callV_i kX5_79 dX5_cost_144 rfl (tX5_asksBy  er5) rfl rfl rfl rfl rfl (Nat.le_of_ble_eq_true rfl) (by decide) ?_
      refine j_i2l dX5_cost_147 rfl ?_
      refine j_ladd dX5_cost_148 rfl ?_
      refine j_lstore_n (i := 3) (L' := [(3, _), (7, _), (0, _), (1, _), (5, _), (6, _)]) dX5_cost_149 rfl rfl (by decide) rfl ?_
      refine j_iload dX5_cost_150 rfl rfl ?_
      refine j_iconst (v := 1) dX5_cost_152 rfl (by decide) ?_
      refine j_iload dX5_cost_153 rfl rfl ?_
      refine j_ishl dX5_cost_155 rfl ?_
      refine j_ior dX5_cost_156 rfl ?_
      obtain ⟨v6, ev6⟩ : ∃ y, y = ((a5 ||| ((1 : Int32) <<< (v4 &&& (31 : Int32)))) : Int32) := ⟨_, rfl⟩
      have hm := jl_of hm ev6
      rw [← ev6]
      refine j_istore (L' := [(5, _), (3, _), (7, _), (0, _), (1, _), (6, _)]) dX5_cost_157 rfl (by decide) rfl ?_
      refine j_iinc (v := (a6 + (1 : Int32))) (L' := [(6, _), (5, _), (3, _), (7, _), (0, _), (1, _)]) dX5_cost_159 rfl rfl rfl (by decide) rfl ?_
      refine j_goto (tgt := 112) dX5_cost_162 (by decide) ?_
      refine j_sub (L' := [(0, _), (1, _), (3, _), (5, _), (6, _)]) [4, 5, 2, 1, 0] rfl ?_
      exact ih _ _ _ _ _  hm
def mX5_cost_b36   : Nat → Int32 → Int32 → Int32 → jMem → Option (Int64 × jMem)
  | 0, _, _, _, _ => none
  | n + 1, a1, a2, a3, V => (jg (jin a1 4) (if (V.1 7 (Int32.toNatClampNeg a1)) ≤ a3 then ((mX5_ours V).bind (fun (r3 : Int32) => (mX5_cost_b112 2000 a1 (0 : Int64) r3 (0 : Int32) V))) else (jg (jin (((40 : Int32) * a1) + a3) 160) (jl (V.2 8 (Int32.toNatClampNeg (((40 : Int32) * a1) + a3))) (fun (v5 : Int64) => (if (mX5_isField v5 V) = (0 : Int32) then (mX5_cost_b79 V) else (if ((a2 >>> ((Int64.toInt32 v5) &&& (31 : Int32))) &&& (1 : Int32)) = (1 : Int32) then (mX5_cost_b79 V) else (jl (a2 ||| ((1 : Int32) <<< ((Int64.toInt32 v5) &&& (31 : Int32)))) (fun (v8 : Int32) => (mX5_cost_b36 n a1 v8 (a3 + (1 : Int32)) V))))))))))
set_option maxHeartbeats 4000000 in
set_option maxRecDepth 20000 in
theorem tX5_cost_b36 {l : Launch} {Z : jZ} {q : Nat → Nat}  {r : Int64} {V' : jMem}   (n : Nat) : ∀ (a1 : Int32) (a2 : Int32) (a3 : Int32) (V : jMem), mX5_cost_b36 n a1 a2 a3 V = some (r, V') → J l Z RX5 "cost" cX5_cost 8 (some .long) 4 0 0 (fun r' w => r' = some (.long r) ∧ w = jw Z q V' dM) 36 [(0, .ref (q 0)), (1, .int a1), (2, .int a2), (3, .int a3)] [] (jw Z q V dM) 0 0 := by
  induction n with
  | zero => intro a1 a2 a3 V hm; cases hm
  | succ n ih =>
    intro a1 a2 a3 V hm
    rw [mX5_cost_b36] at hm
    refine j_iload_n dX5_cost_36 rfl rfl ?_
    refine j_aload_n dX5_cost_37 rfl rfl ?_
    refine m_getr (k := 10) (r := 7) fX5_28 dX5_cost_38 rfl rfl rfl ?_
    refine j_iload_n dX5_cost_41 rfl rfl ?_
    obtain ⟨g1, hm⟩ := jg_of hm
    refine o_iald (k := (Int32.toNatClampNeg a1)) rfl dX5_cost_42 rfl rfl (jin_vp g1) ?_
    refine j_icmp_ge (tgt := 101) dX5_cost_43 rfl (by decide) (fun c2 => ?_) (fun c2 => ?_)
    · have hm := jif_pos c2 hm
      refine j_lconst (v := 0) dX5_cost_101 rfl (by decide) ?_
      refine j_lstore_n (i := 3) (L' := [(3, _), (0, _), (1, _), (2, _)]) dX5_cost_102 rfl rfl (by decide) rfl ?_
      refine j_aload_n dX5_cost_103 rfl rfl ?_
      obtain ⟨r3, er3, hm⟩ := jb_of hm
      refine o_callV_i kX5_75 dX5_cost_104 rfl (tX5_ours  er3) rfl rfl rfl rfl rfl (Nat.le_of_ble_eq_true rfl) (by decide) ?_
      refine j_istore (L' := [(5, _), (3, _), (0, _), (1, _), (2, _)]) dX5_cost_107 rfl (by decide) rfl ?_
      refine j_iconst (v := 0) dX5_cost_109 rfl (by decide) ?_
      refine j_istore (L' := [(6, _), (5, _), (3, _), (0, _), (1, _), (2, _)]) dX5_cost_110 rfl (by decide) rfl ?_
      refine j_sub (L' := [(0, _), (1, _), (3, _), (5, _), (6, _)]) [3, 4, 2, 1, 0] rfl ?_
      exact tX5_cost_b112   _ _ _ _ _ _  hm
    · have hm := jif_neg c2 hm
      refine j_aload_n dX5_cost_46 rfl rfl ?_
      refine m_getr (k := 11) (r := 8) fX5_31 dX5_cost_47 rfl rfl rfl ?_
      refine j_bipush (v := 40) dX5_cost_50 rfl (by decide) ?_
      refine j_iload_n dX5_cost_52 rfl rfl ?_
      refine j_imul dX5_cost_53 rfl ?_
      refine j_iload_n dX5_cost_54 rfl rfl ?_
      refine j_iadd dX5_cost_55 rfl ?_
      obtain ⟨g4, hm⟩ := jg_of hm
      refine o_lald (k := (Int32.toNatClampNeg (((40 : Int32) * a1) + a3))) rfl dX5_cost_56 rfl rfl (jin_vp g4) ?_
      obtain ⟨v5, ev5⟩ : ∃ y, y = ((V.2 8 (Int32.toNatClampNeg (((40 : Int32) * a1) + a3))) : Int64) := ⟨_, rfl⟩
      have hm := jl_of hm ev5
      rw [← ev5]
      refine j_lstore (L' := [(4, _), (0, _), (1, _), (2, _), (3, _)]) dX5_cost_57 rfl (by decide) rfl ?_
      refine j_aload_n dX5_cost_59 rfl rfl ?_
      refine j_lload dX5_cost_60 rfl rfl ?_
      refine o_callV_i kX5_82 dX5_cost_62 rfl (tX5_isField  rfl) rfl rfl rfl rfl rfl (Nat.le_of_ble_eq_true rfl) (by decide) ?_
      refine j_if_eq (tgt := 79) dX5_cost_65 rfl (by decide) (fun c6 => ?_) (fun c6 => ?_)
      · have hm := jif_pos c6 hm
        refine j_sub (L' := [(0, _)]) [1] rfl ?_
        exact tX5_cost_b79    hm
      · have hm := jif_neg c6 hm
        refine j_iload_n dX5_cost_68 rfl rfl ?_
        refine j_lload dX5_cost_69 rfl rfl ?_
        refine j_l2i dX5_cost_71 rfl ?_
        refine j_ishr dX5_cost_72 rfl ?_
        refine j_iconst (v := 1) dX5_cost_73 rfl (by decide) ?_
        refine j_iand dX5_cost_74 rfl ?_
        refine j_iconst (v := 1) dX5_cost_75 rfl (by decide) ?_
        refine j_icmp_ne (tgt := 87) dX5_cost_76 rfl (by decide) (fun c7 => ?_) (fun c7 => ?_)
        · have hm := jif_neg c7 hm
          refine j_iload_n dX5_cost_87 rfl rfl ?_
          refine j_iconst (v := 1) dX5_cost_88 rfl (by decide) ?_
          refine j_lload dX5_cost_89 rfl rfl ?_
          refine j_l2i dX5_cost_91 rfl ?_
          refine j_ishl dX5_cost_92 rfl ?_
          refine j_ior dX5_cost_93 rfl ?_
          obtain ⟨v8, ev8⟩ : ∃ y, y = ((a2 ||| ((1 : Int32) <<< ((Int64.toInt32 v5) &&& (31 : Int32)))) : Int32) := ⟨_, rfl⟩
          have hm := jl_of hm ev8
          rw [← ev8]
          refine j_istore_n (i := 2) (L' := [(2, _), (4, _), (0, _), (1, _), (3, _)]) dX5_cost_94 rfl rfl (by decide) rfl ?_
          refine j_iinc (v := (a3 + (1 : Int32))) (L' := [(3, _), (2, _), (4, _), (0, _), (1, _)]) dX5_cost_95 rfl rfl rfl (by decide) rfl ?_
          refine j_goto (tgt := 36) dX5_cost_98 (by decide) ?_
          refine j_sub (L' := [(0, _), (1, _), (2, _), (3, _)]) [3, 4, 1, 0] rfl ?_
          exact ih _ _ _ _  hm
        · have hm := jif_pos c7 hm
          refine j_sub (L' := [(0, _)]) [1] rfl ?_
          exact tX5_cost_b79    hm
def mX5_cost (a1 : Int32) (V : jMem) : Option (Int64 × jMem) := (if (mX5_isSheet a1) = (0 : Int32) then ((mX5_finds (-1000000001 : Int32) V).bind (fun (p5 : Int32 × jMem) => (some ((Int32.toInt64 p5.1), p5.2)))) else (jg (jin a1 4) (if (0 : Int32) ≤ (V.1 6 (Int32.toNatClampNeg a1)) then (mX5_cost_b36 2000 a1 (0 : Int32) (0 : Int32) V) else ((mX5_finds (-1000000006 : Int32) V).bind (fun (p4 : Int32 × jMem) => (some ((Int32.toInt64 p4.1), p4.2)))))))
set_option maxHeartbeats 4000000 in
set_option maxRecDepth 20000 in
theorem tX5_cost {l : Launch} {Z : jZ} {q : Nat → Nat} {a1 : Int32} {V : jMem} {r : Int64} {V' : jMem}  (hm : mX5_cost a1 V = some (r, V')) : CtD l Z yX5_cost cX5_cost 8 (some .long) 4 q dM [.ref (q 0), .int a1] V (some (.long r)) V' := by
  refine Ct_of (L := [(0, .ref (q 0)), (1, .int a1)]) (own := RX5) (nm := "cost") rfl rfl (by decide +kernel) rfl (Nat.le_of_ble_eq_true rfl) ?_
  unfold mX5_cost at hm
  refine j_iload_n dX5_cost_0 rfl rfl ?_
  refine o_callS_i kX5_232 dX5_cost_1 rfl (tX5_isSheet  rfl) rfl rfl (Nat.le_of_ble_eq_true rfl) (by decide) ?_
  refine j_if_ne (tgt := 15) dX5_cost_4 rfl (by decide) (fun c1 => ?_) (fun c1 => ?_)
  · have hm := jif_neg c1 hm
    refine j_aload_n dX5_cost_15 rfl rfl ?_
    refine m_getr (k := 9) (r := 6) fX5_25 dX5_cost_16 rfl rfl rfl ?_
    refine j_iload_n dX5_cost_19 rfl rfl ?_
    obtain ⟨g2, hm⟩ := jg_of hm
    refine o_iald (k := (Int32.toNatClampNeg a1)) rfl dX5_cost_20 rfl rfl (jin_vp g2) ?_
    refine j_if_ge (tgt := 32) dX5_cost_21 rfl (by decide) (fun c3 => ?_) (fun c3 => ?_)
    · have hm := jif_pos c3 hm
      refine j_iconst (v := 0) dX5_cost_32 rfl (by decide) ?_
      refine j_istore_n (i := 2) (L' := [(2, _), (0, _), (1, _)]) dX5_cost_33 rfl rfl (by decide) rfl ?_
      refine j_iconst (v := 0) dX5_cost_34 rfl (by decide) ?_
      refine j_istore_n (i := 3) (L' := [(3, _), (2, _), (0, _), (1, _)]) dX5_cost_35 rfl rfl (by decide) rfl ?_
      refine j_sub (L' := [(0, _), (1, _), (2, _), (3, _)]) [2, 3, 1, 0] rfl ?_
      exact tX5_cost_b36   _ _ _ _ _  hm
    · have hm := jif_neg c3 hm
      refine j_aload_n dX5_cost_24 rfl rfl ?_
      refine j_ldc dX5_cost_25 rfl wX5_235 ?_
      obtain ⟨p4, ep4, hm⟩ := jb_of hm
      refine o_callV_i kX5_60 dX5_cost_27 rfl (tX5_finds  ep4) rfl rfl rfl rfl rfl (Nat.le_of_ble_eq_true rfl) (by decide) ?_
      refine j_i2l dX5_cost_30 rfl ?_
      exact j_lreturn dX5_cost_31 rfl ⟨Nat.le_refl _, Nat.le_refl _⟩ (jf_m (fun z => .long z) hm)
  · have hm := jif_pos c1 hm
    refine j_aload_n dX5_cost_7 rfl rfl ?_
    refine j_ldc dX5_cost_8 rfl wX5_44 ?_
    obtain ⟨p5, ep5, hm⟩ := jb_of hm
    refine o_callV_i kX5_60 dX5_cost_10 rfl (tX5_finds  ep5) rfl rfl rfl rfl rfl (Nat.le_of_ble_eq_true rfl) (by decide) ?_
    refine j_i2l dX5_cost_13 rfl ?_
    exact j_lreturn dX5_cost_14 rfl ⟨Nat.le_refl _, Nat.le_refl _⟩ (jf_m (fun z => .long z) hm)
theorem dX5_offers_0 : decode cX5_offers 0 = .ok (.iload_n 1, 1) := by decide +kernel
theorem dX5_offers_1 : decode cX5_offers 1 = .ok (.invokestatic 232, 3) := by decide +kernel
theorem dX5_offers_4 : decode cX5_offers 4 = .ok (.ifCond .ne 10, 3) := by decide +kernel
theorem dX5_offers_7 : decode cX5_offers 7 = .ok (.aload_n 0, 1) := by decide +kernel
theorem dX5_offers_8 : decode cX5_offers 8 = .ok (.ldc 44, 2) := by decide +kernel
theorem dX5_offers_10 : decode cX5_offers 10 = .ok (.invokevirtual 60, 3) := by decide +kernel
theorem dX5_offers_13 : decode cX5_offers 13 = .ok (.ireturn, 1) := by decide +kernel
theorem dX5_offers_14 : decode cX5_offers 14 = .ok (.aload_n 0, 1) := by decide +kernel
theorem dX5_offers_15 : decode cX5_offers 15 = .ok (.getfield 25, 3) := by decide +kernel
theorem dX5_offers_18 : decode cX5_offers 18 = .ok (.iload_n 1, 1) := by decide +kernel
theorem dX5_offers_19 : decode cX5_offers 19 = .ok (.iaload, 1) := by decide +kernel
theorem dX5_offers_20 : decode cX5_offers 20 = .ok (.ifCond .ge 10, 3) := by decide +kernel
theorem dX5_offers_23 : decode cX5_offers 23 = .ok (.aload_n 0, 1) := by decide +kernel
theorem dX5_offers_24 : decode cX5_offers 24 = .ok (.ldc 235, 2) := by decide +kernel
theorem dX5_offers_26 : decode cX5_offers 26 = .ok (.invokevirtual 60, 3) := by decide +kernel
theorem dX5_offers_29 : decode cX5_offers 29 = .ok (.ireturn, 1) := by decide +kernel
theorem dX5_offers_30 : decode cX5_offers 30 = .ok (.iconst 0, 1) := by decide +kernel
theorem dX5_offers_31 : decode cX5_offers 31 = .ok (.istore_n 2, 1) := by decide +kernel
theorem dX5_offers_32 : decode cX5_offers 32 = .ok (.iconst 0, 1) := by decide +kernel
theorem dX5_offers_33 : decode cX5_offers 33 = .ok (.istore_n 3, 1) := by decide +kernel
theorem dX5_offers_34 : decode cX5_offers 34 = .ok (.iload_n 3, 1) := by decide +kernel
theorem dX5_offers_35 : decode cX5_offers 35 = .ok (.iconst 1, 1) := by decide +kernel
theorem dX5_offers_36 : decode cX5_offers 36 = .ok (.iadd, 1) := by decide +kernel
theorem dX5_offers_37 : decode cX5_offers 37 = .ok (.aload_n 0, 1) := by decide +kernel
theorem dX5_offers_38 : decode cX5_offers 38 = .ok (.getfield 28, 3) := by decide +kernel
theorem dX5_offers_41 : decode cX5_offers 41 = .ok (.iload_n 1, 1) := by decide +kernel
theorem dX5_offers_42 : decode cX5_offers 42 = .ok (.iaload, 1) := by decide +kernel
theorem dX5_offers_43 : decode cX5_offers 43 = .ok (.if_icmp .ge 89, 3) := by decide +kernel
theorem dX5_offers_46 : decode cX5_offers 46 = .ok (.aload_n 0, 1) := by decide +kernel
theorem dX5_offers_47 : decode cX5_offers 47 = .ok (.getfield 31, 3) := by decide +kernel
theorem dX5_offers_50 : decode cX5_offers 50 = .ok (.bipush 40, 2) := by decide +kernel
theorem dX5_offers_52 : decode cX5_offers 52 = .ok (.iload_n 1, 1) := by decide +kernel
theorem dX5_offers_53 : decode cX5_offers 53 = .ok (.imul, 1) := by decide +kernel
theorem dX5_offers_54 : decode cX5_offers 54 = .ok (.iload_n 3, 1) := by decide +kernel
theorem dX5_offers_55 : decode cX5_offers 55 = .ok (.iadd, 1) := by decide +kernel
theorem dX5_offers_56 : decode cX5_offers 56 = .ok (.laload, 1) := by decide +kernel
theorem dX5_offers_57 : decode cX5_offers 57 = .ok (.lstore 4, 2) := by decide +kernel
theorem dX5_offers_59 : decode cX5_offers 59 = .ok (.aload_n 0, 1) := by decide +kernel
theorem dX5_offers_60 : decode cX5_offers 60 = .ok (.getfield 31, 3) := by decide +kernel
theorem dX5_offers_63 : decode cX5_offers 63 = .ok (.bipush 40, 2) := by decide +kernel
theorem dX5_offers_65 : decode cX5_offers 65 = .ok (.iload_n 1, 1) := by decide +kernel
theorem dX5_offers_66 : decode cX5_offers 66 = .ok (.imul, 1) := by decide +kernel
theorem dX5_offers_67 : decode cX5_offers 67 = .ok (.iload_n 3, 1) := by decide +kernel
theorem dX5_offers_68 : decode cX5_offers 68 = .ok (.iadd, 1) := by decide +kernel
theorem dX5_offers_69 : decode cX5_offers 69 = .ok (.iconst 1, 1) := by decide +kernel
theorem dX5_offers_70 : decode cX5_offers 70 = .ok (.iadd, 1) := by decide +kernel
theorem dX5_offers_71 : decode cX5_offers 71 = .ok (.laload, 1) := by decide +kernel
theorem dX5_offers_72 : decode cX5_offers 72 = .ok (.lstore 6, 2) := by decide +kernel
theorem dX5_offers_74 : decode cX5_offers 74 = .ok (.aload_n 0, 1) := by decide +kernel
theorem dX5_offers_75 : decode cX5_offers 75 = .ok (.lload 4, 2) := by decide +kernel
theorem dX5_offers_77 : decode cX5_offers 77 = .ok (.invokevirtual 82, 3) := by decide +kernel
theorem dX5_offers_80 : decode cX5_offers 80 = .ok (.ifCond .eq 46, 3) := by decide +kernel
theorem dX5_offers_83 : decode cX5_offers 83 = .ok (.aload_n 0, 1) := by decide +kernel
theorem dX5_offers_84 : decode cX5_offers 84 = .ok (.lload 4, 2) := by decide +kernel
theorem dX5_offers_86 : decode cX5_offers 86 = .ok (.l2i, 1) := by decide +kernel
theorem dX5_offers_87 : decode cX5_offers 87 = .ok (.invokevirtual 110, 3) := by decide +kernel
theorem dX5_offers_90 : decode cX5_offers 90 = .ok (.ifCond .eq 36, 3) := by decide +kernel
theorem dX5_offers_93 : decode cX5_offers 93 = .ok (.lload 6, 2) := by decide +kernel
theorem dX5_offers_95 : decode cX5_offers 95 = .ok (.lconst 0, 1) := by decide +kernel
theorem dX5_offers_96 : decode cX5_offers 96 = .ok (.ldc2_w 108, 3) := by decide +kernel
theorem dX5_offers_99 : decode cX5_offers 99 = .ok (.invokestatic 54, 3) := by decide +kernel
theorem dX5_offers_102 : decode cX5_offers 102 = .ok (.ifCond .eq 24, 3) := by decide +kernel
theorem dX5_offers_105 : decode cX5_offers 105 = .ok (.iload_n 2, 1) := by decide +kernel
theorem dX5_offers_106 : decode cX5_offers 106 = .ok (.aload_n 0, 1) := by decide +kernel
theorem dX5_offers_107 : decode cX5_offers 107 = .ok (.lload 4, 2) := by decide +kernel
theorem dX5_offers_109 : decode cX5_offers 109 = .ok (.l2i, 1) := by decide +kernel
theorem dX5_offers_110 : decode cX5_offers 110 = .ok (.lload 6, 2) := by decide +kernel
theorem dX5_offers_112 : decode cX5_offers 112 = .ok (.l2i, 1) := by decide +kernel
theorem dX5_offers_113 : decode cX5_offers 113 = .ok (.invokevirtual 115, 3) := by decide +kernel
theorem dX5_offers_116 : decode cX5_offers 116 = .ok (.ifCond .eq 7, 3) := by decide +kernel
theorem dX5_offers_119 : decode cX5_offers 119 = .ok (.iconst 1, 1) := by decide +kernel
theorem dX5_offers_120 : decode cX5_offers 120 = .ok (.goto 4, 3) := by decide +kernel
theorem dX5_offers_123 : decode cX5_offers 123 = .ok (.iconst 0, 1) := by decide +kernel
theorem dX5_offers_124 : decode cX5_offers 124 = .ok (.iadd, 1) := by decide +kernel
theorem dX5_offers_125 : decode cX5_offers 125 = .ok (.istore_n 2, 1) := by decide +kernel
theorem dX5_offers_126 : decode cX5_offers 126 = .ok (.iinc 3 2, 3) := by decide +kernel
theorem dX5_offers_129 : decode cX5_offers 129 = .ok (.goto (-95), 3) := by decide +kernel
theorem dX5_offers_132 : decode cX5_offers 132 = .ok (.iload_n 2, 1) := by decide +kernel
theorem dX5_offers_133 : decode cX5_offers 133 = .ok (.ireturn, 1) := by decide +kernel
def mX5_offers_b126  (k34 : Int32 → Int32 → Int32 → jMem → Option (Int32 × jMem)) (a1 : Int32) (a2 : Int32) (a3 : Int32) (V : jMem) : Option (Int32 × jMem) := (k34 a1 a2 (a3 + (2 : Int32)) V)
set_option maxHeartbeats 4000000 in
set_option maxRecDepth 20000 in
theorem tX5_offers_b126 {l : Launch} {Z : jZ} {q : Nat → Nat} {k34 : Int32 → Int32 → Int32 → jMem → Option (Int32 × jMem)} {a1 : Int32} {a2 : Int32} {a3 : Int32} {V : jMem} {r : Int32} {V' : jMem}   (hk34 : ∀ (a1 : Int32) (a2 : Int32) (a3 : Int32) (V : jMem), k34 a1 a2 a3 V = some (r, V') → J l Z RX5 "offers" cX5_offers 8 (some .int) 6 0 0 (fun r' w => r' = some (.int r) ∧ w = jw Z q V' dM) 34 [(0, .ref (q 0)), (1, .int a1), (2, .int a2), (3, .int a3)] [] (jw Z q V dM) 0 0) (hm : mX5_offers_b126 k34 a1 a2 a3 V = some (r, V')) : J l Z RX5 "offers" cX5_offers 8 (some .int) 6 0 0 (fun r' w => r' = some (.int r) ∧ w = jw Z q V' dM) 126 [(0, .ref (q 0)), (1, .int a1), (2, .int a2), (3, .int a3)] [] (jw Z q V dM) 0 0 := by
  unfold mX5_offers_b126 at hm
  refine j_iinc (v := (a3 + (2 : Int32))) (L' := [(3, _), (0, _), (1, _), (2, _)]) dX5_offers_126 rfl rfl rfl (by decide) rfl ?_
  refine j_goto (tgt := 34) dX5_offers_129 (by decide) ?_
  refine j_sub (L' := [(0, _), (1, _), (2, _), (3, _)]) [1, 2, 3, 0] rfl ?_
  exact hk34 _ _ _ _  hm
def mX5_offers_b124  (k34 : Int32 → Int32 → Int32 → jMem → Option (Int32 × jMem)) (a1 : Int32) (a3 : Int32) (s0 : Int32) (s1 : Int32) (V : jMem) : Option (Int32 × jMem) := (mX5_offers_b126 k34 a1 (s1 + s0) a3 V)
set_option maxHeartbeats 4000000 in
set_option maxRecDepth 20000 in
theorem tX5_offers_b124 {l : Launch} {Z : jZ} {q : Nat → Nat} {k34 : Int32 → Int32 → Int32 → jMem → Option (Int32 × jMem)} {a1 : Int32} {a3 : Int32} {s0 : Int32} {s1 : Int32} {V : jMem} {r : Int32} {V' : jMem}   (hk34 : ∀ (a1 : Int32) (a2 : Int32) (a3 : Int32) (V : jMem), k34 a1 a2 a3 V = some (r, V') → J l Z RX5 "offers" cX5_offers 8 (some .int) 6 0 0 (fun r' w => r' = some (.int r) ∧ w = jw Z q V' dM) 34 [(0, .ref (q 0)), (1, .int a1), (2, .int a2), (3, .int a3)] [] (jw Z q V dM) 0 0) (hm : mX5_offers_b124 k34 a1 a3 s0 s1 V = some (r, V')) : J l Z RX5 "offers" cX5_offers 8 (some .int) 6 0 0 (fun r' w => r' = some (.int r) ∧ w = jw Z q V' dM) 124 [(0, .ref (q 0)), (1, .int a1), (3, .int a3)] [.int s0, .int s1] (jw Z q V dM) 0 0 := by
  unfold mX5_offers_b124 at hm
  refine j_iadd dX5_offers_124 rfl ?_
  refine j_istore_n (i := 2) (L' := [(2, _), (0, _), (1, _), (3, _)]) dX5_offers_125 rfl rfl (by decide) rfl ?_
  refine j_sub (L' := [(0, _), (1, _), (2, _), (3, _)]) [1, 2, 0, 3] rfl ?_
  exact tX5_offers_b126   hk34 hm
def mX5_offers_b34   : Nat → Int32 → Int32 → Int32 → jMem → Option (Int32 × jMem)
  | 0, _, _, _, _ => none
  | n + 1, a1, a2, a3, V => (jg (jin a1 4) (if (V.1 7 (Int32.toNatClampNeg a1)) ≤ (a3 + (1 : Int32)) then (some (a2, V)) else (jg (jin (((40 : Int32) * a1) + a3) 160) (jl (V.2 8 (Int32.toNatClampNeg (((40 : Int32) * a1) + a3))) (fun (v4 : Int64) => (jg (jin ((((40 : Int32) * a1) + a3) + (1 : Int32)) 160) (jl (V.2 8 (Int32.toNatClampNeg ((((40 : Int32) * a1) + a3) + (1 : Int32)))) (fun (v6 : Int64) => (if (mX5_isField v4 V) = (0 : Int32) then (mX5_offers_b126 (mX5_offers_b34 n) a1 a2 a3 V) else ((mX5_isFree (Int64.toInt32 v4) V).bind (fun (r8 : Int32) => (if r8 = (0 : Int32) then (mX5_offers_b126 (mX5_offers_b34 n) a1 a2 a3 V) else (if (mX5_isIn v6 (0 : Int64) (99999 : Int64)) = (0 : Int32) then (mX5_offers_b126 (mX5_offers_b34 n) a1 a2 a3 V) else ((mX5_offered (Int64.toInt32 v4) (Int64.toInt32 v6) V).bind (fun (p11 : Int32 × jMem) => (if p11.1 = (0 : Int32) then (mX5_offers_b124 (mX5_offers_b34 n) a1 a3 (0 : Int32) a2 p11.2) else (mX5_offers_b124 (mX5_offers_b34 n) a1 a3 (1 : Int32) a2 p11.2)))))))))))))))))
set_option maxHeartbeats 4000000 in
set_option maxRecDepth 20000 in
theorem tX5_offers_b34 {l : Launch} {Z : jZ} {q : Nat → Nat}  {r : Int32} {V' : jMem}   (n : Nat) : ∀ (a1 : Int32) (a2 : Int32) (a3 : Int32) (V : jMem), mX5_offers_b34 n a1 a2 a3 V = some (r, V') → J l Z RX5 "offers" cX5_offers 8 (some .int) 6 0 0 (fun r' w => r' = some (.int r) ∧ w = jw Z q V' dM) 34 [(0, .ref (q 0)), (1, .int a1), (2, .int a2), (3, .int a3)] [] (jw Z q V dM) 0 0 := by
  induction n with
  | zero => intro a1 a2 a3 V hm; cases hm
  | succ n ih =>
    intro a1 a2 a3 V hm
    rw [mX5_offers_b34] at hm
    refine j_iload_n dX5_offers_34 rfl rfl ?_
    refine j_iconst (v := 1) dX5_offers_35 rfl (by decide) ?_
    refine j_iadd dX5_offers_36 rfl ?_
    refine j_aload_n dX5_offers_37 rfl rfl ?_
    refine m_getr (k := 10) (r := 7) fX5_28 dX5_offers_38 rfl rfl rfl ?_
    refine j_iload_n dX5_offers_41 rfl rfl ?_
    obtain ⟨g1, hm⟩ := jg_of hm
    refine o_iald (k := (Int32.toNatClampNeg a1)) rfl dX5_offers_42 rfl rfl (jin_vp g1) ?_
    refine j_icmp_ge (tgt := 132) dX5_offers_43 rfl (by decide) (fun c2 => ?_) (fun c2 => ?_)
    · have hm := jif_pos c2 hm
      refine j_iload_n dX5_offers_132 rfl rfl ?_
      exact j_ireturn dX5_offers_133 rfl rfl ⟨Nat.le_refl _, Nat.le_refl _⟩ (jf_m (fun z => .int z) hm)
    · have hm := jif_neg c2 hm
      refine j_aload_n dX5_offers_46 rfl rfl ?_
      refine m_getr (k := 11) (r := 8) fX5_31 dX5_offers_47 rfl rfl rfl ?_
      refine j_bipush (v := 40) dX5_offers_50 rfl (by decide) ?_
      refine j_iload_n dX5_offers_52 rfl rfl ?_
      refine j_imul dX5_offers_53 rfl ?_
      refine j_iload_n dX5_offers_54 rfl rfl ?_
      refine j_iadd dX5_offers_55 rfl ?_
      obtain ⟨g3, hm⟩ := jg_of hm
      refine o_lald (k := (Int32.toNatClampNeg (((40 : Int32) * a1) + a3))) rfl dX5_offers_56 rfl rfl (jin_vp g3) ?_
      obtain ⟨v4, ev4⟩ : ∃ y, y = ((V.2 8 (Int32.toNatClampNeg (((40 : Int32) * a1) + a3))) : Int64) := ⟨_, rfl⟩
      have hm := jl_of hm ev4
      rw [← ev4]
      refine j_lstore (L' := [(4, _), (0, _), (1, _), (2, _), (3, _)]) dX5_offers_57 rfl (by decide) rfl ?_
      refine j_aload_n dX5_offers_59 rfl rfl ?_
      refine m_getr (k := 11) (r := 8) fX5_31 dX5_offers_60 rfl rfl rfl ?_
      refine j_bipush (v := 40) dX5_offers_63 rfl (by decide) ?_
      refine j_iload_n dX5_offers_65 rfl rfl ?_
      refine j_imul dX5_offers_66 rfl ?_
      refine j_iload_n dX5_offers_67 rfl rfl ?_
      refine j_iadd dX5_offers_68 rfl ?_
      refine j_iconst (v := 1) dX5_offers_69 rfl (by decide) ?_
      refine j_iadd dX5_offers_70 rfl ?_
      obtain ⟨g5, hm⟩ := jg_of hm
      refine o_lald (k := (Int32.toNatClampNeg ((((40 : Int32) * a1) + a3) + (1 : Int32)))) rfl dX5_offers_71 rfl rfl (jin_vp g5) ?_
      obtain ⟨v6, ev6⟩ : ∃ y, y = ((V.2 8 (Int32.toNatClampNeg ((((40 : Int32) * a1) + a3) + (1 : Int32)))) : Int64) := ⟨_, rfl⟩
      have hm := jl_of hm ev6
      rw [← ev6]
      refine j_lstore (L' := [(6, _), (4, _), (0, _), (1, _), (2, _), (3, _)]) dX5_offers_72 rfl (by decide) rfl ?_
      refine j_aload_n dX5_offers_74 rfl rfl ?_
      refine j_lload dX5_offers_75 rfl rfl ?_
      refine o_callV_i kX5_82 dX5_offers_77 rfl (tX5_isField  rfl) rfl rfl rfl rfl rfl (Nat.le_of_ble_eq_true rfl) (by decide) ?_
      refine j_if_eq (tgt := 126) dX5_offers_80 rfl (by decide) (fun c7 => ?_) (fun c7 => ?_)
      · have hm := jif_pos c7 hm
        refine j_sub (L' := [(0, _), (1, _), (2, _), (3, _)]) [2, 3, 4, 5] rfl ?_
        exact tX5_offers_b126   ih hm
      · have hm := jif_neg c7 hm
        refine j_aload_n dX5_offers_83 rfl rfl ?_
        refine j_lload dX5_offers_84 rfl rfl ?_
        refine j_l2i dX5_offers_86 rfl ?_
        obtain ⟨r8, er8, hm⟩ := jb_of hm
        refine o_callV_i kX5_110 dX5_offers_87 rfl (tX5_isFree  er8) rfl rfl rfl rfl rfl (Nat.le_of_ble_eq_true rfl) (by decide) ?_
        refine j_if_eq (tgt := 126) dX5_offers_90 rfl (by decide) (fun c9 => ?_) (fun c9 => ?_)
        · have hm := jif_pos c9 hm
          refine j_sub (L' := [(0, _), (1, _), (2, _), (3, _)]) [2, 3, 4, 5] rfl ?_
          exact tX5_offers_b126   ih hm
        · have hm := jif_neg c9 hm
          refine j_lload dX5_offers_93 rfl rfl ?_
          refine j_lconst (v := 0) dX5_offers_95 rfl (by decide) ?_
          refine j_ldc2 dX5_offers_96 rfl wX5_108 ?_
          refine o_callS_i kX5_54 dX5_offers_99 rfl (tX5_isIn  rfl) rfl rfl (Nat.le_of_ble_eq_true rfl) (by decide) ?_
          refine j_if_eq (tgt := 126) dX5_offers_102 rfl (by decide) (fun c10 => ?_) (fun c10 => ?_)
          · have hm := jif_pos c10 hm
            refine j_sub (L' := [(0, _), (1, _), (2, _), (3, _)]) [2, 3, 4, 5] rfl ?_
            exact tX5_offers_b126   ih hm
          · have hm := jif_neg c10 hm
            refine j_iload_n dX5_offers_105 rfl rfl ?_
            refine j_aload_n dX5_offers_106 rfl rfl ?_
            refine j_lload dX5_offers_107 rfl rfl ?_
            refine j_l2i dX5_offers_109 rfl ?_
            refine j_lload dX5_offers_110 rfl rfl ?_
            refine j_l2i dX5_offers_112 rfl ?_
            obtain ⟨p11, ep11, hm⟩ := jb_of hm
            refine o_callV_i kX5_115 dX5_offers_113 rfl (tX5_offered  ep11) rfl rfl rfl rfl rfl (Nat.le_of_ble_eq_true rfl) (by decide) ?_
            refine j_if_eq (tgt := 123) dX5_offers_116 rfl (by decide) (fun c12 => ?_) (fun c12 => ?_)
            · have hm := jif_pos c12 hm
              refine j_iconst (v := 0) dX5_offers_123 rfl (by decide) ?_
              refine j_sub (L' := [(0, _), (1, _), (3, _)]) [2, 3, 5] rfl ?_
              exact tX5_offers_b124   ih hm
            · have hm := jif_neg c12 hm
              refine j_iconst (v := 1) dX5_offers_119 rfl (by decide) ?_
              refine j_goto (tgt := 124) dX5_offers_120 (by decide) ?_
              refine j_sub (L' := [(0, _), (1, _), (3, _)]) [2, 3, 5] rfl ?_
              exact tX5_offers_b124   ih hm
def mX5_offers (a1 : Int32) (V : jMem) : Option (Int32 × jMem) := (if (mX5_isSheet a1) = (0 : Int32) then ((mX5_finds (-1000000001 : Int32) V).bind (fun (p5 : Int32 × jMem) => (some (p5.1, p5.2)))) else (jg (jin a1 4) (if (0 : Int32) ≤ (V.1 6 (Int32.toNatClampNeg a1)) then (mX5_offers_b34 2000 a1 (0 : Int32) (0 : Int32) V) else ((mX5_finds (-1000000006 : Int32) V).bind (fun (p4 : Int32 × jMem) => (some (p4.1, p4.2)))))))
set_option maxHeartbeats 4000000 in
set_option maxRecDepth 20000 in
theorem tX5_offers {l : Launch} {Z : jZ} {q : Nat → Nat} {a1 : Int32} {V : jMem} {r : Int32} {V' : jMem}  (hm : mX5_offers a1 V = some (r, V')) : CtD l Z yX5_offers cX5_offers 8 (some .int) 6 q dM [.ref (q 0), .int a1] V (some (.int r)) V' := by
  refine Ct_of (L := [(0, .ref (q 0)), (1, .int a1)]) (own := RX5) (nm := "offers") rfl rfl (by decide +kernel) rfl (Nat.le_of_ble_eq_true rfl) ?_
  unfold mX5_offers at hm
  refine j_iload_n dX5_offers_0 rfl rfl ?_
  refine o_callS_i kX5_232 dX5_offers_1 rfl (tX5_isSheet  rfl) rfl rfl (Nat.le_of_ble_eq_true rfl) (by decide) ?_
  refine j_if_ne (tgt := 14) dX5_offers_4 rfl (by decide) (fun c1 => ?_) (fun c1 => ?_)
  · have hm := jif_neg c1 hm
    refine j_aload_n dX5_offers_14 rfl rfl ?_
    refine m_getr (k := 9) (r := 6) fX5_25 dX5_offers_15 rfl rfl rfl ?_
    refine j_iload_n dX5_offers_18 rfl rfl ?_
    obtain ⟨g2, hm⟩ := jg_of hm
    refine o_iald (k := (Int32.toNatClampNeg a1)) rfl dX5_offers_19 rfl rfl (jin_vp g2) ?_
    refine j_if_ge (tgt := 30) dX5_offers_20 rfl (by decide) (fun c3 => ?_) (fun c3 => ?_)
    · have hm := jif_pos c3 hm
      refine j_iconst (v := 0) dX5_offers_30 rfl (by decide) ?_
      refine j_istore_n (i := 2) (L' := [(2, _), (0, _), (1, _)]) dX5_offers_31 rfl rfl (by decide) rfl ?_
      refine j_iconst (v := 0) dX5_offers_32 rfl (by decide) ?_
      refine j_istore_n (i := 3) (L' := [(3, _), (2, _), (0, _), (1, _)]) dX5_offers_33 rfl rfl (by decide) rfl ?_
      refine j_sub (L' := [(0, _), (1, _), (2, _), (3, _)]) [2, 3, 1, 0] rfl ?_
      exact tX5_offers_b34   _ _ _ _ _  hm
    · have hm := jif_neg c3 hm
      refine j_aload_n dX5_offers_23 rfl rfl ?_
      refine j_ldc dX5_offers_24 rfl wX5_235 ?_
      obtain ⟨p4, ep4, hm⟩ := jb_of hm
      refine o_callV_i kX5_60 dX5_offers_26 rfl (tX5_finds  ep4) rfl rfl rfl rfl rfl (Nat.le_of_ble_eq_true rfl) (by decide) ?_
      exact j_ireturn dX5_offers_29 rfl rfl ⟨Nat.le_refl _, Nat.le_refl _⟩ (jf_m (fun z => .int z) hm)
  · have hm := jif_pos c1 hm
    refine j_aload_n dX5_offers_7 rfl rfl ?_
    refine j_ldc dX5_offers_8 rfl wX5_44 ?_
    obtain ⟨p5, ep5, hm⟩ := jb_of hm
    refine o_callV_i kX5_60 dX5_offers_10 rfl (tX5_finds  ep5) rfl rfl rfl rfl rfl (Nat.le_of_ble_eq_true rfl) (by decide) ?_
    exact j_ireturn dX5_offers_13 rfl rfl ⟨Nat.le_refl _, Nat.le_refl _⟩ (jf_m (fun z => .int z) hm)
theorem dX5_read_0 : decode cX5_read 0 = .ok (.iload_n 1, 1) := by decide +kernel
theorem dX5_read_1 : decode cX5_read 1 = .ok (.invokestatic 232, 3) := by decide +kernel
theorem dX5_read_4 : decode cX5_read 4 = .ok (.ifCond .ne 10, 3) := by decide +kernel
theorem dX5_read_7 : decode cX5_read 7 = .ok (.aload_n 0, 1) := by decide +kernel
theorem dX5_read_8 : decode cX5_read 8 = .ok (.ldc 44, 2) := by decide +kernel
theorem dX5_read_10 : decode cX5_read 10 = .ok (.invokevirtual 60, 3) := by decide +kernel
theorem dX5_read_13 : decode cX5_read 13 = .ok (.ireturn, 1) := by decide +kernel
theorem dX5_read_14 : decode cX5_read 14 = .ok (.aload_n 0, 1) := by decide +kernel
theorem dX5_read_15 : decode cX5_read 15 = .ok (.getfield 25, 3) := by decide +kernel
theorem dX5_read_18 : decode cX5_read 18 = .ok (.iload_n 1, 1) := by decide +kernel
theorem dX5_read_19 : decode cX5_read 19 = .ok (.iaload, 1) := by decide +kernel
theorem dX5_read_20 : decode cX5_read 20 = .ok (.ifCond .ge 10, 3) := by decide +kernel
theorem dX5_read_23 : decode cX5_read 23 = .ok (.aload_n 0, 1) := by decide +kernel
theorem dX5_read_24 : decode cX5_read 24 = .ok (.ldc 235, 2) := by decide +kernel
theorem dX5_read_26 : decode cX5_read 26 = .ok (.invokevirtual 60, 3) := by decide +kernel
theorem dX5_read_29 : decode cX5_read 29 = .ok (.ireturn, 1) := by decide +kernel
theorem dX5_read_30 : decode cX5_read 30 = .ok (.iconst 0, 1) := by decide +kernel
theorem dX5_read_31 : decode cX5_read 31 = .ok (.istore_n 2, 1) := by decide +kernel
theorem dX5_read_32 : decode cX5_read 32 = .ok (.iload_n 2, 1) := by decide +kernel
theorem dX5_read_33 : decode cX5_read 33 = .ok (.aload_n 0, 1) := by decide +kernel
theorem dX5_read_34 : decode cX5_read 34 = .ok (.getfield 28, 3) := by decide +kernel
theorem dX5_read_37 : decode cX5_read 37 = .ok (.iload_n 1, 1) := by decide +kernel
theorem dX5_read_38 : decode cX5_read 38 = .ok (.iaload, 1) := by decide +kernel
theorem dX5_read_39 : decode cX5_read 39 = .ok (.if_icmp .ge 43, 3) := by decide +kernel
theorem dX5_read_42 : decode cX5_read 42 = .ok (.aload_n 0, 1) := by decide +kernel
theorem dX5_read_43 : decode cX5_read 43 = .ok (.iload_n 2, 1) := by decide +kernel
theorem dX5_read_44 : decode cX5_read 44 = .ok (.i2l, 1) := by decide +kernel
theorem dX5_read_45 : decode cX5_read 45 = .ok (.invokevirtual 82, 3) := by decide +kernel
theorem dX5_read_48 : decode cX5_read 48 = .ok (.ifCond .eq 24, 3) := by decide +kernel
theorem dX5_read_51 : decode cX5_read 51 = .ok (.aload_n 0, 1) := by decide +kernel
theorem dX5_read_52 : decode cX5_read 52 = .ok (.getfield 31, 3) := by decide +kernel
theorem dX5_read_55 : decode cX5_read 55 = .ok (.bipush 40, 2) := by decide +kernel
theorem dX5_read_57 : decode cX5_read 57 = .ok (.iload_n 1, 1) := by decide +kernel
theorem dX5_read_58 : decode cX5_read 58 = .ok (.imul, 1) := by decide +kernel
theorem dX5_read_59 : decode cX5_read 59 = .ok (.iload_n 2, 1) := by decide +kernel
theorem dX5_read_60 : decode cX5_read 60 = .ok (.iadd, 1) := by decide +kernel
theorem dX5_read_61 : decode cX5_read 61 = .ok (.laload, 1) := by decide +kernel
theorem dX5_read_62 : decode cX5_read 62 = .ok (.aload_n 0, 1) := by decide +kernel
theorem dX5_read_63 : decode cX5_read 63 = .ok (.iload_n 2, 1) := by decide +kernel
theorem dX5_read_64 : decode cX5_read 64 = .ok (.invokevirtual 88, 3) := by decide +kernel
theorem dX5_read_67 : decode cX5_read 67 = .ok (.i2l, 1) := by decide +kernel
theorem dX5_read_68 : decode cX5_read 68 = .ok (.lcmp, 1) := by decide +kernel
theorem dX5_read_69 : decode cX5_read 69 = .ok (.ifCond .eq 7, 3) := by decide +kernel
theorem dX5_read_72 : decode cX5_read 72 = .ok (.iload_n 2, 1) := by decide +kernel
theorem dX5_read_73 : decode cX5_read 73 = .ok (.iconst 1, 1) := by decide +kernel
theorem dX5_read_74 : decode cX5_read 74 = .ok (.iadd, 1) := by decide +kernel
theorem dX5_read_75 : decode cX5_read 75 = .ok (.ireturn, 1) := by decide +kernel
theorem dX5_read_76 : decode cX5_read 76 = .ok (.iinc 2 1, 3) := by decide +kernel
theorem dX5_read_79 : decode cX5_read 79 = .ok (.goto (-47), 3) := by decide +kernel
theorem dX5_read_82 : decode cX5_read 82 = .ok (.iconst 0, 1) := by decide +kernel
theorem dX5_read_83 : decode cX5_read 83 = .ok (.ireturn, 1) := by decide +kernel
def mX5_read_b72   (a2 : Int32) (V : jMem) : Option (Int32 × jMem) := (some ((a2 + (1 : Int32)), V))
set_option maxHeartbeats 4000000 in
set_option maxRecDepth 20000 in
theorem tX5_read_b72 {l : Launch} {Z : jZ} {q : Nat → Nat} {a2 : Int32} {V : jMem} {r : Int32} {V' : jMem}    (hm : mX5_read_b72 a2 V = some (r, V')) : J l Z RX5 "read" cX5_read 3 (some .int) 5 0 0 (fun r' w => r' = some (.int r) ∧ w = jw Z q V' dM) 72 [(2, .int a2)] [] (jw Z q V dM) 0 0 := by
  unfold mX5_read_b72 at hm
  refine j_iload_n dX5_read_72 rfl rfl ?_
  refine j_iconst (v := 1) dX5_read_73 rfl (by decide) ?_
  refine j_iadd dX5_read_74 rfl ?_
  exact j_ireturn dX5_read_75 rfl rfl ⟨Nat.le_refl _, Nat.le_refl _⟩ (jf_m (fun z => .int z) hm)
def mX5_read_b32   : Nat → Int32 → Int32 → jMem → Option (Int32 × jMem)
  | 0, _, _, _ => none
  | n + 1, a1, a2, V => (jg (jin a1 4) (if (V.1 7 (Int32.toNatClampNeg a1)) ≤ a2 then (some ((0 : Int32), V)) else (if (mX5_isField (Int32.toInt64 a2) V) = (0 : Int32) then (mX5_read_b72 a2 V) else (jg (jin (((40 : Int32) * a1) + a2) 160) ((mX5_asksNow a2 V).bind (fun (r5 : Int32) => (if (lg_cmp (V.2 8 (Int32.toNatClampNeg (((40 : Int32) * a1) + a2))) (Int32.toInt64 r5)) = (0 : Int32) then (mX5_read_b32 n a1 (a2 + (1 : Int32)) V) else (mX5_read_b72 a2 V))))))))
set_option maxHeartbeats 4000000 in
set_option maxRecDepth 20000 in
theorem tX5_read_b32 {l : Launch} {Z : jZ} {q : Nat → Nat}  {r : Int32} {V' : jMem}   (n : Nat) : ∀ (a1 : Int32) (a2 : Int32) (V : jMem), mX5_read_b32 n a1 a2 V = some (r, V') → J l Z RX5 "read" cX5_read 3 (some .int) 5 0 0 (fun r' w => r' = some (.int r) ∧ w = jw Z q V' dM) 32 [(0, .ref (q 0)), (1, .int a1), (2, .int a2)] [] (jw Z q V dM) 0 0 := by
  induction n with
  | zero => intro a1 a2 V hm; cases hm
  | succ n ih =>
    intro a1 a2 V hm
    rw [mX5_read_b32] at hm
    refine j_iload_n dX5_read_32 rfl rfl ?_
    refine j_aload_n dX5_read_33 rfl rfl ?_
    refine m_getr (k := 10) (r := 7) fX5_28 dX5_read_34 rfl rfl rfl ?_
    refine j_iload_n dX5_read_37 rfl rfl ?_
    obtain ⟨g1, hm⟩ := jg_of hm
    refine o_iald (k := (Int32.toNatClampNeg a1)) rfl dX5_read_38 rfl rfl (jin_vp g1) ?_
    refine j_icmp_ge (tgt := 82) dX5_read_39 rfl (by decide) (fun c2 => ?_) (fun c2 => ?_)
    · have hm := jif_pos c2 hm
      refine j_iconst (v := 0) dX5_read_82 rfl (by decide) ?_
      exact j_ireturn dX5_read_83 rfl rfl ⟨Nat.le_refl _, Nat.le_refl _⟩ (jf_m (fun z => .int z) hm)
    · have hm := jif_neg c2 hm
      refine j_aload_n dX5_read_42 rfl rfl ?_
      refine j_iload_n dX5_read_43 rfl rfl ?_
      refine j_i2l dX5_read_44 rfl ?_
      refine o_callV_i kX5_82 dX5_read_45 rfl (tX5_isField  rfl) rfl rfl rfl rfl rfl (Nat.le_of_ble_eq_true rfl) (by decide) ?_
      refine j_if_eq (tgt := 72) dX5_read_48 rfl (by decide) (fun c3 => ?_) (fun c3 => ?_)
      · have hm := jif_pos c3 hm
        refine j_sub (L' := [(2, _)]) [2] rfl ?_
        exact tX5_read_b72    hm
      · have hm := jif_neg c3 hm
        refine j_aload_n dX5_read_51 rfl rfl ?_
        refine m_getr (k := 11) (r := 8) fX5_31 dX5_read_52 rfl rfl rfl ?_
        refine j_bipush (v := 40) dX5_read_55 rfl (by decide) ?_
        refine j_iload_n dX5_read_57 rfl rfl ?_
        refine j_imul dX5_read_58 rfl ?_
        refine j_iload_n dX5_read_59 rfl rfl ?_
        refine j_iadd dX5_read_60 rfl ?_
        obtain ⟨g4, hm⟩ := jg_of hm
        refine o_lald (k := (Int32.toNatClampNeg (((40 : Int32) * a1) + a2))) rfl dX5_read_61 rfl rfl (jin_vp g4) ?_
        refine j_aload_n dX5_read_62 rfl rfl ?_
        refine j_iload_n dX5_read_63 rfl rfl ?_
        obtain ⟨r5, er5, hm⟩ := jb_of hm
        refine o_callV_i kX5_88 dX5_read_64 rfl (tX5_asksNow  er5) rfl rfl rfl rfl rfl (Nat.le_of_ble_eq_true rfl) (by decide) ?_
        refine j_i2l dX5_read_67 rfl ?_
        refine j_lcmp dX5_read_68 rfl ?_
        refine j_if_eq (tgt := 76) dX5_read_69 rfl (by decide) (fun c6 => ?_) (fun c6 => ?_)
        · have hm := jif_pos c6 hm
          refine j_iinc (v := (a2 + (1 : Int32))) (L' := [(2, _), (0, _), (1, _)]) dX5_read_76 rfl rfl rfl (by decide) rfl ?_
          refine j_goto (tgt := 32) dX5_read_79 (by decide) ?_
          refine j_sub (L' := [(0, _), (1, _), (2, _)]) [1, 2, 0] rfl ?_
          exact ih _ _ _  hm
        · have hm := jif_neg c6 hm
          refine j_sub (L' := [(2, _)]) [2] rfl ?_
          exact tX5_read_b72    hm
def mX5_read (a1 : Int32) (V : jMem) : Option (Int32 × jMem) := (if (mX5_isSheet a1) = (0 : Int32) then ((mX5_finds (-1000000001 : Int32) V).bind (fun (p5 : Int32 × jMem) => (some (p5.1, p5.2)))) else (jg (jin a1 4) (if (0 : Int32) ≤ (V.1 6 (Int32.toNatClampNeg a1)) then (mX5_read_b32 2000 a1 (0 : Int32) V) else ((mX5_finds (-1000000006 : Int32) V).bind (fun (p4 : Int32 × jMem) => (some (p4.1, p4.2)))))))
set_option maxHeartbeats 4000000 in
set_option maxRecDepth 20000 in
theorem tX5_read {l : Launch} {Z : jZ} {q : Nat → Nat} {a1 : Int32} {V : jMem} {r : Int32} {V' : jMem}  (hm : mX5_read a1 V = some (r, V')) : CtD l Z yX5_read cX5_read 3 (some .int) 5 q dM [.ref (q 0), .int a1] V (some (.int r)) V' := by
  refine Ct_of (L := [(0, .ref (q 0)), (1, .int a1)]) (own := RX5) (nm := "read") rfl rfl (by decide +kernel) rfl (Nat.le_of_ble_eq_true rfl) ?_
  unfold mX5_read at hm
  refine j_iload_n dX5_read_0 rfl rfl ?_
  refine o_callS_i kX5_232 dX5_read_1 rfl (tX5_isSheet  rfl) rfl rfl (Nat.le_of_ble_eq_true rfl) (by decide) ?_
  refine j_if_ne (tgt := 14) dX5_read_4 rfl (by decide) (fun c1 => ?_) (fun c1 => ?_)
  · have hm := jif_neg c1 hm
    refine j_aload_n dX5_read_14 rfl rfl ?_
    refine m_getr (k := 9) (r := 6) fX5_25 dX5_read_15 rfl rfl rfl ?_
    refine j_iload_n dX5_read_18 rfl rfl ?_
    obtain ⟨g2, hm⟩ := jg_of hm
    refine o_iald (k := (Int32.toNatClampNeg a1)) rfl dX5_read_19 rfl rfl (jin_vp g2) ?_
    refine j_if_ge (tgt := 30) dX5_read_20 rfl (by decide) (fun c3 => ?_) (fun c3 => ?_)
    · have hm := jif_pos c3 hm
      refine j_iconst (v := 0) dX5_read_30 rfl (by decide) ?_
      refine j_istore_n (i := 2) (L' := [(2, _), (0, _), (1, _)]) dX5_read_31 rfl rfl (by decide) rfl ?_
      refine j_sub (L' := [(0, _), (1, _), (2, _)]) [1, 2, 0] rfl ?_
      exact tX5_read_b32   _ _ _ _  hm
    · have hm := jif_neg c3 hm
      refine j_aload_n dX5_read_23 rfl rfl ?_
      refine j_ldc dX5_read_24 rfl wX5_235 ?_
      obtain ⟨p4, ep4, hm⟩ := jb_of hm
      refine o_callV_i kX5_60 dX5_read_26 rfl (tX5_finds  ep4) rfl rfl rfl rfl rfl (Nat.le_of_ble_eq_true rfl) (by decide) ?_
      exact j_ireturn dX5_read_29 rfl rfl ⟨Nat.le_refl _, Nat.le_refl _⟩ (jf_m (fun z => .int z) hm)
  · have hm := jif_pos c1 hm
    refine j_aload_n dX5_read_7 rfl rfl ?_
    refine j_ldc dX5_read_8 rfl wX5_44 ?_
    obtain ⟨p5, ep5, hm⟩ := jb_of hm
    refine o_callV_i kX5_60 dX5_read_10 rfl (tX5_finds  ep5) rfl rfl rfl rfl rfl (Nat.le_of_ble_eq_true rfl) (by decide) ?_
    exact j_ireturn dX5_read_13 rfl rfl ⟨Nat.le_refl _, Nat.le_refl _⟩ (jf_m (fun z => .int z) hm)
theorem dX5_image_0 : decode cX5_image 0 = .ok (.iconst 0, 1) := by decide +kernel
theorem dX5_image_1 : decode cX5_image 1 = .ok (.istore_n 1, 1) := by decide +kernel
theorem dX5_image_2 : decode cX5_image 2 = .ok (.iload_n 1, 1) := by decide +kernel
theorem dX5_image_3 : decode cX5_image 3 = .ok (.bipush 120, 2) := by decide +kernel
theorem dX5_image_5 : decode cX5_image 5 = .ok (.if_icmp .ge 21, 3) := by decide +kernel
theorem dX5_image_8 : decode cX5_image 8 = .ok (.aload_n 0, 1) := by decide +kernel
theorem dX5_image_9 : decode cX5_image 9 = .ok (.getfield 13, 3) := by decide +kernel
theorem dX5_image_12 : decode cX5_image 12 = .ok (.iload_n 1, 1) := by decide +kernel
theorem dX5_image_13 : decode cX5_image 13 = .ok (.aload_n 0, 1) := by decide +kernel
theorem dX5_image_14 : decode cX5_image 14 = .ok (.getfield 7, 3) := by decide +kernel
theorem dX5_image_17 : decode cX5_image 17 = .ok (.iload_n 1, 1) := by decide +kernel
theorem dX5_image_18 : decode cX5_image 18 = .ok (.iaload, 1) := by decide +kernel
theorem dX5_image_19 : decode cX5_image 19 = .ok (.iastore, 1) := by decide +kernel
theorem dX5_image_20 : decode cX5_image 20 = .ok (.iinc 1 1, 3) := by decide +kernel
theorem dX5_image_23 : decode cX5_image 23 = .ok (.goto (-21), 3) := by decide +kernel
theorem dX5_image_26 : decode cX5_image 26 = .ok (.aload_n 0, 1) := by decide +kernel
theorem dX5_image_27 : decode cX5_image 27 = .ok (.aload_n 0, 1) := by decide +kernel
theorem dX5_image_28 : decode cX5_image 28 = .ok (.getfield 104, 3) := by decide +kernel
theorem dX5_image_31 : decode cX5_image 31 = .ok (.putfield 240, 3) := by decide +kernel
theorem dX5_image_34 : decode cX5_image 34 = .ok (.aload_n 0, 1) := by decide +kernel
theorem dX5_image_35 : decode cX5_image 35 = .ok (.iconst 1, 1) := by decide +kernel
theorem dX5_image_36 : decode cX5_image 36 = .ok (.putfield 243, 3) := by decide +kernel
theorem dX5_image_39 : decode cX5_image 39 = .ok (.iconst 1, 1) := by decide +kernel
theorem dX5_image_40 : decode cX5_image 40 = .ok (.ireturn, 1) := by decide +kernel
def mX5_image_b2   : Nat → Int32 → jMem → Option (Int32 × jMem)
  | 0, _, _ => none
  | n + 1, a1, V => (if (120 : Int32) ≤ a1 then (jl (jsL V 0 4 (V.2 0 3)) (fun (V2 : jMem) => (jl (jsI V2 0 5 (1 : Int32)) (fun (V3 : jMem) => (some ((1 : Int32), V3)))))) else (jg (jin a1 120) (jl (jsI V 2 (Int32.toNatClampNeg a1) (V.1 1 (Int32.toNatClampNeg a1))) (fun (V5 : jMem) => (mX5_image_b2 n (a1 + (1 : Int32)) V5)))))
set_option maxHeartbeats 4000000 in
set_option maxRecDepth 20000 in
theorem tX5_image_b2 {l : Launch} {Z : jZ} {q : Nat → Nat}  {r : Int32} {V' : jMem}   (n : Nat) : ∀ (a1 : Int32) (V : jMem), mX5_image_b2 n a1 V = some (r, V') → J l Z RX5 "image" cX5_image 2 (some .int) 0 0 0 (fun r' w => r' = some (.int r) ∧ w = jw Z q V' dM) 2 [(0, .ref (q 0)), (1, .int a1)] [] (jw Z q V dM) 0 0 := by
  induction n with
  | zero => intro a1 V hm; cases hm
  | succ n ih =>
    intro a1 V hm
    rw [mX5_image_b2] at hm
    refine j_iload_n dX5_image_2 rfl rfl ?_
    refine j_bipush (v := 120) dX5_image_3 rfl (by decide) ?_
    refine j_icmp_ge (tgt := 26) dX5_image_5 rfl (by decide) (fun c1 => ?_) (fun c1 => ?_)
    · have hm := jif_pos c1 hm
      refine j_aload_n dX5_image_26 rfl rfl ?_
      refine j_aload_n dX5_image_27 rfl rfl ?_
      refine m_getl (k := 3) fX5_104 dX5_image_28 rfl rfl rfl ?_
      refine m_putl (k := 4) fX5_240 dX5_image_31 rfl rfl rfl ?_
      obtain ⟨V2, eV2⟩ : ∃ y, y = (jsL V 0 4 (V.2 0 3)) := ⟨_, rfl⟩
      have hm := jl_of hm eV2
      rw [← eV2]
      refine j_aload_n dX5_image_34 rfl rfl ?_
      refine j_iconst (v := 1) dX5_image_35 rfl (by decide) ?_
      refine m_putz (k := 5) fX5_243 dX5_image_36 rfl rfl rfl (by decide) ?_
      obtain ⟨V3, eV3⟩ : ∃ y, y = (jsI V2 0 5 (1 : Int32)) := ⟨_, rfl⟩
      have hm := jl_of hm eV3
      rw [← eV3]
      refine j_iconst (v := 1) dX5_image_39 rfl (by decide) ?_
      exact j_ireturn dX5_image_40 rfl rfl ⟨Nat.le_refl _, Nat.le_refl _⟩ (jf_m (fun z => .int z) hm)
    · have hm := jif_neg c1 hm
      refine j_aload_n dX5_image_8 rfl rfl ?_
      refine m_getr (k := 1) (r := 2) fX5_13 dX5_image_9 rfl rfl rfl ?_
      refine j_iload_n dX5_image_12 rfl rfl ?_
      refine j_aload_n dX5_image_13 rfl rfl ?_
      refine m_getr (k := 0) (r := 1) fX5_7 dX5_image_14 rfl rfl rfl ?_
      refine j_iload_n dX5_image_17 rfl rfl ?_
      obtain ⟨g4, hm⟩ := jg_of hm
      refine o_iald (k := (Int32.toNatClampNeg a1)) rfl dX5_image_18 rfl rfl (jin_vp g4) ?_
      refine o_iast (k := (Int32.toNatClampNeg a1)) rfl dX5_image_19 rfl rfl (jin_vp g4) ?_
      obtain ⟨V5, eV5⟩ : ∃ y, y = (jsI V 2 (Int32.toNatClampNeg a1) (V.1 1 (Int32.toNatClampNeg a1))) := ⟨_, rfl⟩
      have hm := jl_of hm eV5
      rw [← eV5]
      refine j_iinc (v := (a1 + (1 : Int32))) (L' := [(1, _), (0, _)]) dX5_image_20 rfl rfl rfl (by decide) rfl ?_
      refine j_goto (tgt := 2) dX5_image_23 (by decide) ?_
      refine j_sub (L' := [(0, _), (1, _)]) [1, 0] rfl ?_
      exact ih _ _  hm
def mX5_image (V : jMem) : Option (Int32 × jMem) := (mX5_image_b2 2000 (0 : Int32) V)
set_option maxHeartbeats 4000000 in
set_option maxRecDepth 20000 in
theorem tX5_image {l : Launch} {Z : jZ} {q : Nat → Nat} {V : jMem} {r : Int32} {V' : jMem}  (hm : mX5_image V = some (r, V')) : CtD l Z yX5_image cX5_image 2 (some .int) 0 q dM [.ref (q 0)] V (some (.int r)) V' := by
  refine Ct_of (L := [(0, .ref (q 0))]) (own := RX5) (nm := "image") rfl rfl (by decide +kernel) rfl (Nat.le_of_ble_eq_true rfl) ?_
  unfold mX5_image at hm
  refine j_iconst (v := 0) dX5_image_0 rfl (by decide) ?_
  refine j_istore_n (i := 1) (L' := [(1, _), (0, _)]) dX5_image_1 rfl rfl (by decide) rfl ?_
  refine j_sub (L' := [(0, _), (1, _)]) [1, 0] rfl ?_
  exact tX5_image_b2   _ _ _  hm
theorem dX5_undo_0 : decode cX5_undo 0 = .ok (.aload_n 0, 1) := by decide +kernel
theorem dX5_undo_1 : decode cX5_undo 1 = .ok (.getfield 243, 3) := by decide +kernel
theorem dX5_undo_4 : decode cX5_undo 4 = .ok (.ifCond .ne 10, 3) := by decide +kernel
theorem dX5_undo_7 : decode cX5_undo 7 = .ok (.aload_n 0, 1) := by decide +kernel
theorem dX5_undo_8 : decode cX5_undo 8 = .ok (.ldc 127, 2) := by decide +kernel
theorem dX5_undo_10 : decode cX5_undo 10 = .ok (.invokevirtual 60, 3) := by decide +kernel
theorem dX5_undo_13 : decode cX5_undo 13 = .ok (.ireturn, 1) := by decide +kernel
theorem dX5_undo_14 : decode cX5_undo 14 = .ok (.iconst 0, 1) := by decide +kernel
theorem dX5_undo_15 : decode cX5_undo 15 = .ok (.istore_n 1, 1) := by decide +kernel
theorem dX5_undo_16 : decode cX5_undo 16 = .ok (.iload_n 1, 1) := by decide +kernel
theorem dX5_undo_17 : decode cX5_undo 17 = .ok (.bipush 120, 2) := by decide +kernel
theorem dX5_undo_19 : decode cX5_undo 19 = .ok (.if_icmp .ge 21, 3) := by decide +kernel
theorem dX5_undo_22 : decode cX5_undo 22 = .ok (.aload_n 0, 1) := by decide +kernel
theorem dX5_undo_23 : decode cX5_undo 23 = .ok (.getfield 7, 3) := by decide +kernel
theorem dX5_undo_26 : decode cX5_undo 26 = .ok (.iload_n 1, 1) := by decide +kernel
theorem dX5_undo_27 : decode cX5_undo 27 = .ok (.aload_n 0, 1) := by decide +kernel
theorem dX5_undo_28 : decode cX5_undo 28 = .ok (.getfield 13, 3) := by decide +kernel
theorem dX5_undo_31 : decode cX5_undo 31 = .ok (.iload_n 1, 1) := by decide +kernel
theorem dX5_undo_32 : decode cX5_undo 32 = .ok (.iaload, 1) := by decide +kernel
theorem dX5_undo_33 : decode cX5_undo 33 = .ok (.iastore, 1) := by decide +kernel
theorem dX5_undo_34 : decode cX5_undo 34 = .ok (.iinc 1 1, 3) := by decide +kernel
theorem dX5_undo_37 : decode cX5_undo 37 = .ok (.goto (-21), 3) := by decide +kernel
theorem dX5_undo_40 : decode cX5_undo 40 = .ok (.aload_n 0, 1) := by decide +kernel
theorem dX5_undo_41 : decode cX5_undo 41 = .ok (.aload_n 0, 1) := by decide +kernel
theorem dX5_undo_42 : decode cX5_undo 42 = .ok (.getfield 240, 3) := by decide +kernel
theorem dX5_undo_45 : decode cX5_undo 45 = .ok (.putfield 104, 3) := by decide +kernel
theorem dX5_undo_48 : decode cX5_undo 48 = .ok (.aload_n 0, 1) := by decide +kernel
theorem dX5_undo_49 : decode cX5_undo 49 = .ok (.getfield 7, 3) := by decide +kernel
theorem dX5_undo_52 : decode cX5_undo 52 = .ok (.iconst 0, 1) := by decide +kernel
theorem dX5_undo_53 : decode cX5_undo 53 = .ok (.iaload, 1) := by decide +kernel
theorem dX5_undo_54 : decode cX5_undo 54 = .ok (.ireturn, 1) := by decide +kernel
def mX5_undo_b16   : Nat → Int32 → jMem → Option (Int32 × jMem)
  | 0, _, _ => none
  | n + 1, a1, V => (if (120 : Int32) ≤ a1 then (jl (jsL V 0 3 (V.2 0 4)) (fun (V2 : jMem) => (some ((V2.1 1 0), V2)))) else (jg (jin a1 120) (jl (jsI V 1 (Int32.toNatClampNeg a1) (V.1 2 (Int32.toNatClampNeg a1))) (fun (V4 : jMem) => (mX5_undo_b16 n (a1 + (1 : Int32)) V4)))))
set_option maxHeartbeats 4000000 in
set_option maxRecDepth 20000 in
theorem tX5_undo_b16 {l : Launch} {Z : jZ} {q : Nat → Nat}  {r : Int32} {V' : jMem}   (n : Nat) : ∀ (a1 : Int32) (V : jMem), mX5_undo_b16 n a1 V = some (r, V') → J l Z RX5 "undo" cX5_undo 2 (some .int) 1 0 0 (fun r' w => r' = some (.int r) ∧ w = jw Z q V' dM) 16 [(0, .ref (q 0)), (1, .int a1)] [] (jw Z q V dM) 0 0 := by
  induction n with
  | zero => intro a1 V hm; cases hm
  | succ n ih =>
    intro a1 V hm
    rw [mX5_undo_b16] at hm
    refine j_iload_n dX5_undo_16 rfl rfl ?_
    refine j_bipush (v := 120) dX5_undo_17 rfl (by decide) ?_
    refine j_icmp_ge (tgt := 40) dX5_undo_19 rfl (by decide) (fun c1 => ?_) (fun c1 => ?_)
    · have hm := jif_pos c1 hm
      refine j_aload_n dX5_undo_40 rfl rfl ?_
      refine j_aload_n dX5_undo_41 rfl rfl ?_
      refine m_getl (k := 4) fX5_240 dX5_undo_42 rfl rfl rfl ?_
      refine m_putl (k := 3) fX5_104 dX5_undo_45 rfl rfl rfl ?_
      obtain ⟨V2, eV2⟩ : ∃ y, y = (jsL V 0 3 (V.2 0 4)) := ⟨_, rfl⟩
      have hm := jl_of hm eV2
      rw [← eV2]
      refine j_aload_n dX5_undo_48 rfl rfl ?_
      refine m_getr (k := 0) (r := 1) fX5_7 dX5_undo_49 rfl rfl rfl ?_
      refine j_iconst (v := 0) dX5_undo_52 rfl (by decide) ?_
      refine o_iald (k := 0) (by decide) dX5_undo_53 rfl rfl (jin_vp (by decide)) ?_
      exact j_ireturn dX5_undo_54 rfl rfl ⟨Nat.le_refl _, Nat.le_refl _⟩ (jf_m (fun z => .int z) hm)
    · have hm := jif_neg c1 hm
      refine j_aload_n dX5_undo_22 rfl rfl ?_
      refine m_getr (k := 0) (r := 1) fX5_7 dX5_undo_23 rfl rfl rfl ?_
      refine j_iload_n dX5_undo_26 rfl rfl ?_
      refine j_aload_n dX5_undo_27 rfl rfl ?_
      refine m_getr (k := 1) (r := 2) fX5_13 dX5_undo_28 rfl rfl rfl ?_
      refine j_iload_n dX5_undo_31 rfl rfl ?_
      obtain ⟨g3, hm⟩ := jg_of hm
      refine o_iald (k := (Int32.toNatClampNeg a1)) rfl dX5_undo_32 rfl rfl (jin_vp g3) ?_
      refine o_iast (k := (Int32.toNatClampNeg a1)) rfl dX5_undo_33 rfl rfl (jin_vp g3) ?_
      obtain ⟨V4, eV4⟩ : ∃ y, y = (jsI V 1 (Int32.toNatClampNeg a1) (V.1 2 (Int32.toNatClampNeg a1))) := ⟨_, rfl⟩
      have hm := jl_of hm eV4
      rw [← eV4]
      refine j_iinc (v := (a1 + (1 : Int32))) (L' := [(1, _), (0, _)]) dX5_undo_34 rfl rfl rfl (by decide) rfl ?_
      refine j_goto (tgt := 16) dX5_undo_37 (by decide) ?_
      refine j_sub (L' := [(0, _), (1, _)]) [1, 0] rfl ?_
      exact ih _ _  hm
def mX5_undo (V : jMem) : Option (Int32 × jMem) := (if (V.1 0 5) = (0 : Int32) then ((mX5_finds (-1000000004 : Int32) V).bind (fun (p2 : Int32 × jMem) => (some (p2.1, p2.2)))) else (mX5_undo_b16 2000 (0 : Int32) V))
set_option maxHeartbeats 4000000 in
set_option maxRecDepth 20000 in
theorem tX5_undo {l : Launch} {Z : jZ} {q : Nat → Nat} {V : jMem} {r : Int32} {V' : jMem}  (hm : mX5_undo V = some (r, V')) : CtD l Z yX5_undo cX5_undo 2 (some .int) 1 q dM [.ref (q 0)] V (some (.int r)) V' := by
  refine Ct_of (L := [(0, .ref (q 0))]) (own := RX5) (nm := "undo") rfl rfl (by decide +kernel) rfl (Nat.le_of_ble_eq_true rfl) ?_
  unfold mX5_undo at hm
  refine j_aload_n dX5_undo_0 rfl rfl ?_
  refine m_geti (k := 5) fX5_243 dX5_undo_1 rfl rfl rfl ?_
  refine j_if_ne (tgt := 14) dX5_undo_4 rfl (by decide) (fun c1 => ?_) (fun c1 => ?_)
  · have hm := jif_neg c1 hm
    refine j_iconst (v := 0) dX5_undo_14 rfl (by decide) ?_
    refine j_istore_n (i := 1) (L' := [(1, _), (0, _)]) dX5_undo_15 rfl rfl (by decide) rfl ?_
    refine j_sub (L' := [(0, _), (1, _)]) [1, 0] rfl ?_
    exact tX5_undo_b16   _ _ _  hm
  · have hm := jif_pos c1 hm
    refine j_aload_n dX5_undo_7 rfl rfl ?_
    refine j_ldc dX5_undo_8 rfl wX5_127 ?_
    obtain ⟨p2, ep2, hm⟩ := jb_of hm
    refine o_callV_i kX5_60 dX5_undo_10 rfl (tX5_finds  ep2) rfl rfl rfl rfl rfl (Nat.le_of_ble_eq_true rfl) (by decide) ?_
    exact j_ireturn dX5_undo_13 rfl rfl ⟨Nat.le_refl _, Nat.le_refl _⟩ (jf_m (fun z => .int z) hm)
theorem dX5_tear_0 : decode cX5_tear 0 = .ok (.aload_n 0, 1) := by decide +kernel
theorem dX5_tear_1 : decode cX5_tear 1 = .ok (.getfield 243, 3) := by decide +kernel
theorem dX5_tear_4 : decode cX5_tear 4 = .ok (.istore_n 1, 1) := by decide +kernel
theorem dX5_tear_5 : decode cX5_tear 5 = .ok (.aload_n 0, 1) := by decide +kernel
theorem dX5_tear_6 : decode cX5_tear 6 = .ok (.iconst 0, 1) := by decide +kernel
theorem dX5_tear_7 : decode cX5_tear 7 = .ok (.putfield 243, 3) := by decide +kernel
theorem dX5_tear_10 : decode cX5_tear 10 = .ok (.iload_n 1, 1) := by decide +kernel
theorem dX5_tear_11 : decode cX5_tear 11 = .ok (.ifCond .eq 7, 3) := by decide +kernel
theorem dX5_tear_14 : decode cX5_tear 14 = .ok (.iconst 1, 1) := by decide +kernel
theorem dX5_tear_15 : decode cX5_tear 15 = .ok (.goto 4, 3) := by decide +kernel
theorem dX5_tear_18 : decode cX5_tear 18 = .ok (.iconst 0, 1) := by decide +kernel
theorem dX5_tear_19 : decode cX5_tear 19 = .ok (.ireturn, 1) := by decide +kernel
def mX5_tear (V : jMem) : Option (Int32 × jMem) := (jl (jsI V 0 5 (0 : Int32)) (fun (V1 : jMem) => (if (V.1 0 5) = (0 : Int32) then (some ((0 : Int32), V1)) else (some ((1 : Int32), V1)))))
set_option maxHeartbeats 4000000 in
set_option maxRecDepth 20000 in
theorem tX5_tear {l : Launch} {Z : jZ} {q : Nat → Nat} {V : jMem} {r : Int32} {V' : jMem}  (hm : mX5_tear V = some (r, V')) : CtD l Z yX5_tear cX5_tear 2 (some .int) 0 q dM [.ref (q 0)] V (some (.int r)) V' := by
  refine Ct_of (L := [(0, .ref (q 0))]) (own := RX5) (nm := "tear") rfl rfl (by decide +kernel) rfl (Nat.le_of_ble_eq_true rfl) ?_
  unfold mX5_tear at hm
  refine j_aload_n dX5_tear_0 rfl rfl ?_
  refine m_geti (k := 5) fX5_243 dX5_tear_1 rfl rfl rfl ?_
  refine j_istore_n (i := 1) (L' := [(1, _), (0, _)]) dX5_tear_4 rfl rfl (by decide) rfl ?_
  refine j_aload_n dX5_tear_5 rfl rfl ?_
  refine j_iconst (v := 0) dX5_tear_6 rfl (by decide) ?_
  refine m_putz (k := 5) fX5_243 dX5_tear_7 rfl rfl rfl (by decide) ?_
  obtain ⟨V1, eV1⟩ : ∃ y, y = (jsI V 0 5 (0 : Int32)) := ⟨_, rfl⟩
  have hm := jl_of hm eV1
  rw [← eV1]
  refine j_iload_n dX5_tear_10 rfl rfl ?_
  refine j_if_eq (tgt := 18) dX5_tear_11 rfl (by decide) (fun c2 => ?_) (fun c2 => ?_)
  · have hm := jif_pos c2 hm
    refine j_iconst (v := 0) dX5_tear_18 rfl (by decide) ?_
    exact j_ireturn dX5_tear_19 rfl rfl ⟨Nat.le_refl _, Nat.le_refl _⟩ (jf_m (fun z => .int z) hm)
  · have hm := jif_neg c2 hm
    refine j_iconst (v := 1) dX5_tear_14 rfl (by decide) ?_
    refine j_goto (tgt := 19) dX5_tear_15 (by decide) ?_
    exact j_ireturn dX5_tear_19 rfl rfl ⟨Nat.le_refl _, Nat.le_refl _⟩ (jf_m (fun z => .int z) hm)
theorem dX5_allWary_0 : decode cX5_allWary 0 = .ok (.iconst 0, 1) := by decide +kernel
theorem dX5_allWary_1 : decode cX5_allWary 1 = .ok (.istore_n 1, 1) := by decide +kernel
theorem dX5_allWary_2 : decode cX5_allWary 2 = .ok (.iconst 0, 1) := by decide +kernel
theorem dX5_allWary_3 : decode cX5_allWary 3 = .ok (.istore_n 2, 1) := by decide +kernel
theorem dX5_allWary_4 : decode cX5_allWary 4 = .ok (.iload_n 2, 1) := by decide +kernel
theorem dX5_allWary_5 : decode cX5_allWary 5 = .ok (.aload_n 0, 1) := by decide +kernel
theorem dX5_allWary_6 : decode cX5_allWary 6 = .ok (.getfield 7, 3) := by decide +kernel
theorem dX5_allWary_9 : decode cX5_allWary 9 = .ok (.iconst 0, 1) := by decide +kernel
theorem dX5_allWary_10 : decode cX5_allWary 10 = .ok (.iaload, 1) := by decide +kernel
theorem dX5_allWary_11 : decode cX5_allWary 11 = .ok (.if_icmp .ge 18, 3) := by decide +kernel
theorem dX5_allWary_14 : decode cX5_allWary 14 = .ok (.iload_n 1, 1) := by decide +kernel
theorem dX5_allWary_15 : decode cX5_allWary 15 = .ok (.aload_n 0, 1) := by decide +kernel
theorem dX5_allWary_16 : decode cX5_allWary 16 = .ok (.iload_n 2, 1) := by decide +kernel
theorem dX5_allWary_17 : decode cX5_allWary 17 = .ok (.iconst 2, 1) := by decide +kernel
theorem dX5_allWary_18 : decode cX5_allWary 18 = .ok (.invokevirtual 45, 3) := by decide +kernel
theorem dX5_allWary_21 : decode cX5_allWary 21 = .ok (.iadd, 1) := by decide +kernel
theorem dX5_allWary_22 : decode cX5_allWary 22 = .ok (.istore_n 1, 1) := by decide +kernel
theorem dX5_allWary_23 : decode cX5_allWary 23 = .ok (.iinc 2 1, 3) := by decide +kernel
theorem dX5_allWary_26 : decode cX5_allWary 26 = .ok (.goto (-22), 3) := by decide +kernel
theorem dX5_allWary_29 : decode cX5_allWary 29 = .ok (.iload_n 1, 1) := by decide +kernel
theorem dX5_allWary_30 : decode cX5_allWary 30 = .ok (.ireturn, 1) := by decide +kernel
def mX5_allWary_b4 (V : jMem)  : Nat → Int32 → Int32 → Option Int32
  | 0, _, _ => none
  | n + 1, a1, a2 => (if (V.1 1 0) ≤ a2 then (some a1) else ((mX5_has a2 (2 : Int32) V).bind (fun (r2 : Int32) => (mX5_allWary_b4 V n (a1 + r2) (a2 + (1 : Int32))))))
set_option maxHeartbeats 4000000 in
set_option maxRecDepth 20000 in
theorem tX5_allWary_b4 {l : Launch} {Z : jZ} {q : Nat → Nat} {V : jMem} {r : Int32}   (n : Nat) : ∀ (a1 : Int32) (a2 : Int32), mX5_allWary_b4 V n a1 a2 = some r → J l Z RX5 "allWary" cX5_allWary 3 (some .int) 1 0 0 (fun r' w => r' = some (.int r) ∧ w = jw Z q V dM) 4 [(0, .ref (q 0)), (1, .int a1), (2, .int a2)] [] (jw Z q V dM) 0 0 := by
  induction n with
  | zero => intro a1 a2 hm; cases hm
  | succ n ih =>
    intro a1 a2 hm
    rw [mX5_allWary_b4] at hm
    refine j_iload_n dX5_allWary_4 rfl rfl ?_
    refine j_aload_n dX5_allWary_5 rfl rfl ?_
    refine m_getr (k := 0) (r := 1) fX5_7 dX5_allWary_6 rfl rfl rfl ?_
    refine j_iconst (v := 0) dX5_allWary_9 rfl (by decide) ?_
    refine o_iald (k := 0) (by decide) dX5_allWary_10 rfl rfl (jin_vp (by decide)) ?_
    refine j_icmp_ge (tgt := 29) dX5_allWary_11 rfl (by decide) (fun c1 => ?_) (fun c1 => ?_)
    · have hm := jif_pos c1 hm
      refine j_iload_n dX5_allWary_29 rfl rfl ?_
      exact j_ireturn dX5_allWary_30 rfl rfl ⟨Nat.le_refl _, Nat.le_refl _⟩ (jf_p (fun z => .int z) hm)
    · have hm := jif_neg c1 hm
      refine j_iload_n dX5_allWary_14 rfl rfl ?_
      refine j_aload_n dX5_allWary_15 rfl rfl ?_
      refine j_iload_n dX5_allWary_16 rfl rfl ?_
      refine j_iconst (v := 2) dX5_allWary_17 rfl (by decide) ?_
      obtain ⟨r2, er2, hm⟩ := jb_of hm
      refine o_callV_i kX5_45 dX5_allWary_18 rfl (tX5_has  er2) rfl rfl rfl rfl rfl (Nat.le_of_ble_eq_true rfl) (by decide) ?_
      refine j_iadd dX5_allWary_21 rfl ?_
      refine j_istore_n (i := 1) (L' := [(1, _), (0, _), (2, _)]) dX5_allWary_22 rfl rfl (by decide) rfl ?_
      refine j_iinc (v := (a2 + (1 : Int32))) (L' := [(2, _), (1, _), (0, _)]) dX5_allWary_23 rfl rfl rfl (by decide) rfl ?_
      refine j_goto (tgt := 4) dX5_allWary_26 (by decide) ?_
      refine j_sub (L' := [(0, _), (1, _), (2, _)]) [2, 1, 0] rfl ?_
      exact ih _ _  hm
def mX5_allWary (V : jMem) : Option Int32 := (mX5_allWary_b4 V 2000 (0 : Int32) (0 : Int32))
set_option maxHeartbeats 4000000 in
set_option maxRecDepth 20000 in
theorem tX5_allWary {l : Launch} {Z : jZ} {q : Nat → Nat} {V : jMem} {r : Int32}  (hm : mX5_allWary V = some r) : CtD l Z yX5_allWary cX5_allWary 3 (some .int) 1 q dM [.ref (q 0)] V (some (.int r)) V := by
  refine Ct_of (L := [(0, .ref (q 0))]) (own := RX5) (nm := "allWary") rfl rfl (by decide +kernel) rfl (Nat.le_of_ble_eq_true rfl) ?_
  unfold mX5_allWary at hm
  refine j_iconst (v := 0) dX5_allWary_0 rfl (by decide) ?_
  refine j_istore_n (i := 1) (L' := [(1, _), (0, _)]) dX5_allWary_1 rfl rfl (by decide) rfl ?_
  refine j_iconst (v := 0) dX5_allWary_2 rfl (by decide) ?_
  refine j_istore_n (i := 2) (L' := [(2, _), (1, _), (0, _)]) dX5_allWary_3 rfl rfl (by decide) rfl ?_
  refine j_sub (L' := [(0, _), (1, _), (2, _)]) [2, 1, 0] rfl ?_
  exact tX5_allWary_b4   _ _ _  hm
theorem dX5_count_0 : decode cX5_count 0 = .ok (.iload_n 1, 1) := by decide +kernel
theorem dX5_count_1 : decode cX5_count 1 = .ok (.tableswitch 88 0 6 #[43, 50, 57, 62, 67, 75, 80], 43) := by decide +kernel
theorem dX5_count_44 : decode cX5_count 44 = .ok (.aload_n 0, 1) := by decide +kernel
theorem dX5_count_45 : decode cX5_count 45 = .ok (.getfield 7, 3) := by decide +kernel
theorem dX5_count_48 : decode cX5_count 48 = .ok (.iconst 0, 1) := by decide +kernel
theorem dX5_count_49 : decode cX5_count 49 = .ok (.iaload, 1) := by decide +kernel
theorem dX5_count_50 : decode cX5_count 50 = .ok (.ireturn, 1) := by decide +kernel
theorem dX5_count_51 : decode cX5_count 51 = .ok (.aload_n 0, 1) := by decide +kernel
theorem dX5_count_52 : decode cX5_count 52 = .ok (.getfield 7, 3) := by decide +kernel
theorem dX5_count_55 : decode cX5_count 55 = .ok (.iconst 1, 1) := by decide +kernel
theorem dX5_count_56 : decode cX5_count 56 = .ok (.iaload, 1) := by decide +kernel
theorem dX5_count_57 : decode cX5_count 57 = .ok (.ireturn, 1) := by decide +kernel
theorem dX5_count_58 : decode cX5_count 58 = .ok (.aload_n 0, 1) := by decide +kernel
theorem dX5_count_59 : decode cX5_count 59 = .ok (.invokevirtual 121, 3) := by decide +kernel
theorem dX5_count_62 : decode cX5_count 62 = .ok (.ireturn, 1) := by decide +kernel
theorem dX5_count_63 : decode cX5_count 63 = .ok (.aload_n 0, 1) := by decide +kernel
theorem dX5_count_64 : decode cX5_count 64 = .ok (.getfield 175, 3) := by decide +kernel
theorem dX5_count_67 : decode cX5_count 67 = .ok (.ireturn, 1) := by decide +kernel
theorem dX5_count_68 : decode cX5_count 68 = .ok (.aload_n 0, 1) := by decide +kernel
theorem dX5_count_69 : decode cX5_count 69 = .ok (.getfield 7, 3) := by decide +kernel
theorem dX5_count_72 : decode cX5_count 72 = .ok (.bipush 7, 2) := by decide +kernel
theorem dX5_count_74 : decode cX5_count 74 = .ok (.iaload, 1) := by decide +kernel
theorem dX5_count_75 : decode cX5_count 75 = .ok (.ireturn, 1) := by decide +kernel
theorem dX5_count_76 : decode cX5_count 76 = .ok (.aload_n 0, 1) := by decide +kernel
theorem dX5_count_77 : decode cX5_count 77 = .ok (.invokevirtual 246, 3) := by decide +kernel
theorem dX5_count_80 : decode cX5_count 80 = .ok (.ireturn, 1) := by decide +kernel
theorem dX5_count_81 : decode cX5_count 81 = .ok (.aload_n 0, 1) := by decide +kernel
theorem dX5_count_82 : decode cX5_count 82 = .ok (.getfield 7, 3) := by decide +kernel
theorem dX5_count_85 : decode cX5_count 85 = .ok (.bipush 6, 2) := by decide +kernel
theorem dX5_count_87 : decode cX5_count 87 = .ok (.iaload, 1) := by decide +kernel
theorem dX5_count_88 : decode cX5_count 88 = .ok (.ireturn, 1) := by decide +kernel
theorem dX5_count_89 : decode cX5_count 89 = .ok (.aload_n 0, 1) := by decide +kernel
theorem dX5_count_90 : decode cX5_count 90 = .ok (.ldc 44, 2) := by decide +kernel
theorem dX5_count_92 : decode cX5_count 92 = .ok (.invokevirtual 60, 3) := by decide +kernel
theorem dX5_count_95 : decode cX5_count 95 = .ok (.ireturn, 1) := by decide +kernel
def mX5_count (a1 : Int32) (V : jMem) : Option (Int32 × jMem) := (if a1 = (0 : Int32) then (some ((V.1 1 0), V)) else (if a1 = (1 : Int32) then (some ((V.1 1 1), V)) else (if a1 = (2 : Int32) then ((mX5_papers V).bind (fun (r4 : Int32) => (some (r4, V)))) else (if a1 = (3 : Int32) then (some ((V.1 0 8), V)) else (if a1 = (4 : Int32) then (some ((V.1 1 7), V)) else (if a1 = (5 : Int32) then ((mX5_allWary V).bind (fun (r8 : Int32) => (some (r8, V)))) else (if a1 = (6 : Int32) then (some ((V.1 1 6), V)) else ((mX5_finds (-1000000001 : Int32) V).bind (fun (p10 : Int32 × jMem) => (some (p10.1, p10.2)))))))))))
set_option maxHeartbeats 4000000 in
set_option maxRecDepth 20000 in
theorem tX5_count {l : Launch} {Z : jZ} {q : Nat → Nat} {a1 : Int32} {V : jMem} {r : Int32} {V' : jMem}  (hm : mX5_count a1 V = some (r, V')) : CtD l Z yX5_count cX5_count 2 (some .int) 2 q dM [.ref (q 0), .int a1] V (some (.int r)) V' := by
  refine Ct_of (L := [(0, .ref (q 0)), (1, .int a1)]) (own := RX5) (nm := "count") rfl rfl (by decide +kernel) rfl (Nat.le_of_ble_eq_true rfl) ?_
  unfold mX5_count at hm
  refine j_iload_n dX5_count_0 rfl rfl ?_
  by_cases c1 : a1 = (0 : Int32)
  · have hm := jif_pos c1 hm
    refine j_ts_in (z := 0) (off := 43) (tgt := 44) dX5_count_1 (j_ts_lit c1 (by decide)) (by decide) (by decide) rfl (by decide) ?_
    refine j_aload_n dX5_count_44 rfl rfl ?_
    refine m_getr (k := 0) (r := 1) fX5_7 dX5_count_45 rfl rfl rfl ?_
    refine j_iconst (v := 0) dX5_count_48 rfl (by decide) ?_
    refine o_iald (k := 0) (by decide) dX5_count_49 rfl rfl (jin_vp (by decide)) ?_
    exact j_ireturn dX5_count_50 rfl rfl ⟨Nat.le_refl _, Nat.le_refl _⟩ (jf_m (fun z => .int z) hm)
  have hm := jif_neg c1 hm
  by_cases c2 : a1 = (1 : Int32)
  · have hm := jif_pos c2 hm
    refine j_ts_in (z := 1) (off := 50) (tgt := 51) dX5_count_1 (j_ts_lit c2 (by decide)) (by decide) (by decide) rfl (by decide) ?_
    refine j_aload_n dX5_count_51 rfl rfl ?_
    refine m_getr (k := 0) (r := 1) fX5_7 dX5_count_52 rfl rfl rfl ?_
    refine j_iconst (v := 1) dX5_count_55 rfl (by decide) ?_
    refine o_iald (k := 1) (by decide) dX5_count_56 rfl rfl (jin_vp (by decide)) ?_
    exact j_ireturn dX5_count_57 rfl rfl ⟨Nat.le_refl _, Nat.le_refl _⟩ (jf_m (fun z => .int z) hm)
  have hm := jif_neg c2 hm
  by_cases c3 : a1 = (2 : Int32)
  · have hm := jif_pos c3 hm
    refine j_ts_in (z := 2) (off := 57) (tgt := 58) dX5_count_1 (j_ts_lit c3 (by decide)) (by decide) (by decide) rfl (by decide) ?_
    refine j_aload_n dX5_count_58 rfl rfl ?_
    obtain ⟨r4, er4, hm⟩ := jb_of hm
    refine o_callV_i kX5_121 dX5_count_59 rfl (tX5_papers  er4) rfl rfl rfl rfl rfl (Nat.le_of_ble_eq_true rfl) (by decide) ?_
    exact j_ireturn dX5_count_62 rfl rfl ⟨Nat.le_refl _, Nat.le_refl _⟩ (jf_m (fun z => .int z) hm)
  have hm := jif_neg c3 hm
  by_cases c5 : a1 = (3 : Int32)
  · have hm := jif_pos c5 hm
    refine j_ts_in (z := 3) (off := 62) (tgt := 63) dX5_count_1 (j_ts_lit c5 (by decide)) (by decide) (by decide) rfl (by decide) ?_
    refine j_aload_n dX5_count_63 rfl rfl ?_
    refine m_geti (k := 8) fX5_175 dX5_count_64 rfl rfl rfl ?_
    exact j_ireturn dX5_count_67 rfl rfl ⟨Nat.le_refl _, Nat.le_refl _⟩ (jf_m (fun z => .int z) hm)
  have hm := jif_neg c5 hm
  by_cases c6 : a1 = (4 : Int32)
  · have hm := jif_pos c6 hm
    refine j_ts_in (z := 4) (off := 67) (tgt := 68) dX5_count_1 (j_ts_lit c6 (by decide)) (by decide) (by decide) rfl (by decide) ?_
    refine j_aload_n dX5_count_68 rfl rfl ?_
    refine m_getr (k := 0) (r := 1) fX5_7 dX5_count_69 rfl rfl rfl ?_
    refine j_bipush (v := 7) dX5_count_72 rfl (by decide) ?_
    refine o_iald (k := 7) (by decide) dX5_count_74 rfl rfl (jin_vp (by decide)) ?_
    exact j_ireturn dX5_count_75 rfl rfl ⟨Nat.le_refl _, Nat.le_refl _⟩ (jf_m (fun z => .int z) hm)
  have hm := jif_neg c6 hm
  by_cases c7 : a1 = (5 : Int32)
  · have hm := jif_pos c7 hm
    refine j_ts_in (z := 5) (off := 75) (tgt := 76) dX5_count_1 (j_ts_lit c7 (by decide)) (by decide) (by decide) rfl (by decide) ?_
    refine j_aload_n dX5_count_76 rfl rfl ?_
    obtain ⟨r8, er8, hm⟩ := jb_of hm
    refine o_callV_i kX5_246 dX5_count_77 rfl (tX5_allWary  er8) rfl rfl rfl rfl rfl (Nat.le_of_ble_eq_true rfl) (by decide) ?_
    exact j_ireturn dX5_count_80 rfl rfl ⟨Nat.le_refl _, Nat.le_refl _⟩ (jf_m (fun z => .int z) hm)
  have hm := jif_neg c7 hm
  by_cases c9 : a1 = (6 : Int32)
  · have hm := jif_pos c9 hm
    refine j_ts_in (z := 6) (off := 80) (tgt := 81) dX5_count_1 (j_ts_lit c9 (by decide)) (by decide) (by decide) rfl (by decide) ?_
    refine j_aload_n dX5_count_81 rfl rfl ?_
    refine m_getr (k := 0) (r := 1) fX5_7 dX5_count_82 rfl rfl rfl ?_
    refine j_bipush (v := 6) dX5_count_85 rfl (by decide) ?_
    refine o_iald (k := 6) (by decide) dX5_count_87 rfl rfl (jin_vp (by decide)) ?_
    exact j_ireturn dX5_count_88 rfl rfl ⟨Nat.le_refl _, Nat.le_refl _⟩ (jf_m (fun z => .int z) hm)
  have hm := jif_neg c9 hm
  refine j_ts_out (tgt := 89) dX5_count_1 (by have := j_ts_ne (k := 0) c1 (by decide); have := j_ts_ne (k := 1) c2 (by decide); have := j_ts_ne (k := 2) c3 (by decide); have := j_ts_ne (k := 3) c5 (by decide); have := j_ts_ne (k := 4) c6 (by decide); have := j_ts_ne (k := 5) c7 (by decide); have := j_ts_ne (k := 6) c9 (by decide); omega) (by decide) ?_
  refine j_aload_n dX5_count_89 rfl rfl ?_
  refine j_ldc dX5_count_90 rfl wX5_44 ?_
  obtain ⟨p10, ep10, hm⟩ := jb_of hm
  refine o_callV_i kX5_60 dX5_count_92 rfl (tX5_finds  ep10) rfl rfl rfl rfl rfl (Nat.le_of_ble_eq_true rfl) (by decide) ?_
  exact j_ireturn dX5_count_95 rfl rfl ⟨Nat.le_refl _, Nat.le_refl _⟩ (jf_m (fun z => .int z) hm)
theorem dX5_status_0 : decode cX5_status 0 = .ok (.iload_n 1, 1) := by decide +kernel
theorem dX5_status_1 : decode cX5_status 1 = .ok (.i2l, 1) := by decide +kernel
theorem dX5_status_2 : decode cX5_status 2 = .ok (.ldc2_w 249, 3) := by decide +kernel
theorem dX5_status_5 : decode cX5_status 5 = .ok (.ldc2_w 251, 3) := by decide +kernel
theorem dX5_status_8 : decode cX5_status 8 = .ok (.invokestatic 54, 3) := by decide +kernel
theorem dX5_status_11 : decode cX5_status 11 = .ok (.ifCond .eq 14, 3) := by decide +kernel
theorem dX5_status_14 : decode cX5_status 14 = .ok (.aload_n 0, 1) := by decide +kernel
theorem dX5_status_15 : decode cX5_status 15 = .ok (.getfield 19, 3) := by decide +kernel
theorem dX5_status_18 : decode cX5_status 18 = .ok (.iload_n 1, 1) := by decide +kernel
theorem dX5_status_19 : decode cX5_status 19 = .ok (.iconst 1, 1) := by decide +kernel
theorem dX5_status_20 : decode cX5_status 20 = .ok (.iadd, 1) := by decide +kernel
theorem dX5_status_21 : decode cX5_status 21 = .ok (.iaload, 1) := by decide +kernel
theorem dX5_status_22 : decode cX5_status 22 = .ok (.goto 9, 3) := by decide +kernel
theorem dX5_status_25 : decode cX5_status 25 = .ok (.aload_n 0, 1) := by decide +kernel
theorem dX5_status_26 : decode cX5_status 26 = .ok (.ldc 44, 2) := by decide +kernel
theorem dX5_status_28 : decode cX5_status 28 = .ok (.invokevirtual 60, 3) := by decide +kernel
theorem dX5_status_31 : decode cX5_status 31 = .ok (.ireturn, 1) := by decide +kernel
def mX5_status (a1 : Int32) (V : jMem) : Option (Int32 × jMem) := (if (mX5_isIn (Int32.toInt64 a1) (-1 : Int64) (6 : Int64)) = (0 : Int32) then ((mX5_finds (-1000000001 : Int32) V).bind (fun (p2 : Int32 × jMem) => (some (p2.1, p2.2)))) else (jg (jin (a1 + (1 : Int32)) 8) (some ((V.1 4 (Int32.toNatClampNeg (a1 + (1 : Int32)))), V))))
set_option maxHeartbeats 4000000 in
set_option maxRecDepth 20000 in
theorem tX5_status {l : Launch} {Z : jZ} {q : Nat → Nat} {a1 : Int32} {V : jMem} {r : Int32} {V' : jMem}  (hm : mX5_status a1 V = some (r, V')) : CtD l Z yX5_status cX5_status 2 (some .int) 1 q dM [.ref (q 0), .int a1] V (some (.int r)) V' := by
  refine Ct_of (L := [(0, .ref (q 0)), (1, .int a1)]) (own := RX5) (nm := "status") rfl rfl (by decide +kernel) rfl (Nat.le_of_ble_eq_true rfl) ?_
  unfold mX5_status at hm
  refine j_iload_n dX5_status_0 rfl rfl ?_
  refine j_i2l dX5_status_1 rfl ?_
  refine j_ldc2 dX5_status_2 rfl wX5_249 ?_
  refine j_ldc2 dX5_status_5 rfl wX5_251 ?_
  refine o_callS_i kX5_54 dX5_status_8 rfl (tX5_isIn  rfl) rfl rfl (Nat.le_of_ble_eq_true rfl) (by decide) ?_
  refine j_if_eq (tgt := 25) dX5_status_11 rfl (by decide) (fun c1 => ?_) (fun c1 => ?_)
  · have hm := jif_pos c1 hm
    refine j_aload_n dX5_status_25 rfl rfl ?_
    refine j_ldc dX5_status_26 rfl wX5_44 ?_
    obtain ⟨p2, ep2, hm⟩ := jb_of hm
    refine o_callV_i kX5_60 dX5_status_28 rfl (tX5_finds  ep2) rfl rfl rfl rfl rfl (Nat.le_of_ble_eq_true rfl) (by decide) ?_
    exact j_ireturn dX5_status_31 rfl rfl ⟨Nat.le_refl _, Nat.le_refl _⟩ (jf_m (fun z => .int z) hm)
  · have hm := jif_neg c1 hm
    refine j_aload_n dX5_status_14 rfl rfl ?_
    refine m_getr (k := 6) (r := 4) fX5_19 dX5_status_15 rfl rfl rfl ?_
    refine j_iload_n dX5_status_18 rfl rfl ?_
    refine j_iconst (v := 1) dX5_status_19 rfl (by decide) ?_
    refine j_iadd dX5_status_20 rfl ?_
    obtain ⟨g3, hm⟩ := jg_of hm
    refine o_iald (k := (Int32.toNatClampNeg (a1 + (1 : Int32)))) rfl dX5_status_21 rfl rfl (jin_vp g3) ?_
    refine j_goto (tgt := 31) dX5_status_22 (by decide) ?_
    exact j_ireturn dX5_status_31 rfl rfl ⟨Nat.le_refl _, Nat.le_refl _⟩ (jf_m (fun z => .int z) hm)
