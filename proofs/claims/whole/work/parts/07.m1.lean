theorem dX5_isIn_0 : decode cX5_isIn 0 = .ok (.lload_n 0, 1) := by decide +kernel
theorem dX5_isIn_1 : decode cX5_isIn 1 = .ok (.lload_n 2, 1) := by decide +kernel
theorem dX5_isIn_2 : decode cX5_isIn 2 = .ok (.lcmp, 1) := by decide +kernel
theorem dX5_isIn_3 : decode cX5_isIn 3 = .ok (.ifCond .lt 14, 3) := by decide +kernel
theorem dX5_isIn_6 : decode cX5_isIn 6 = .ok (.lload_n 0, 1) := by decide +kernel
theorem dX5_isIn_7 : decode cX5_isIn 7 = .ok (.lload 4, 2) := by decide +kernel
theorem dX5_isIn_9 : decode cX5_isIn 9 = .ok (.lcmp, 1) := by decide +kernel
theorem dX5_isIn_10 : decode cX5_isIn 10 = .ok (.ifCond .gt 7, 3) := by decide +kernel
theorem dX5_isIn_13 : decode cX5_isIn 13 = .ok (.iconst 1, 1) := by decide +kernel
theorem dX5_isIn_14 : decode cX5_isIn 14 = .ok (.goto 4, 3) := by decide +kernel
theorem dX5_isIn_17 : decode cX5_isIn 17 = .ok (.iconst 0, 1) := by decide +kernel
theorem dX5_isIn_18 : decode cX5_isIn 18 = .ok (.ireturn, 1) := by decide +kernel
def mX5_isIn (a0 : Int64) (a2 : Int64) (a4 : Int64) : Int32 := (if (lg_cmp a0 a2) < (0 : Int32) then (0 : Int32) else (if (0 : Int32) < (lg_cmp a0 a4) then (0 : Int32) else (1 : Int32)))
set_option maxHeartbeats 4000000 in
set_option maxRecDepth 20000 in
theorem tX5_isIn {l : Launch} {Z : jZ} {q : Nat → Nat} {V : jMem} {a0 : Int64} {a2 : Int64} {a4 : Int64} {r : Int32}  (hm : mX5_isIn a0 a2 a4 = r) : CtD l Z yX5_isIn cX5_isIn 6 (some .boolean) 0 q dM [.long a0, .long a2, .long a4] V (some (.int r)) V := by
  refine Ct_of (L := [(0, .long a0), (2, .long a2), (4, .long a4)]) (own := RX5) (nm := "isIn") rfl rfl (by decide +kernel) rfl (Nat.le_of_ble_eq_true rfl) ?_
  unfold mX5_isIn at hm
  refine j_lload_n dX5_isIn_0 rfl rfl ?_
  refine j_lload_n dX5_isIn_1 rfl rfl ?_
  refine j_lcmp dX5_isIn_2 rfl ?_
  refine j_if_lt (tgt := 17) dX5_isIn_3 rfl (by decide) (fun c1 => ?_) (fun c1 => ?_)
  · have hm := jif_pos c1 hm
    refine j_iconst (v := 0) dX5_isIn_17 rfl (by decide) ?_
    exact j_zreturn dX5_isIn_18 rfl (by decide) ⟨Nat.le_refl _, Nat.le_refl _⟩ (jf_t (fun z => .int z) hm)
  · have hm := jif_neg c1 hm
    refine j_lload_n dX5_isIn_6 rfl rfl ?_
    refine j_lload dX5_isIn_7 rfl rfl ?_
    refine j_lcmp dX5_isIn_9 rfl ?_
    refine j_if_gt (tgt := 17) dX5_isIn_10 rfl (by decide) (fun c2 => ?_) (fun c2 => ?_)
    · have hm := jif_pos c2 hm
      refine j_iconst (v := 0) dX5_isIn_17 rfl (by decide) ?_
      exact j_zreturn dX5_isIn_18 rfl (by decide) ⟨Nat.le_refl _, Nat.le_refl _⟩ (jf_t (fun z => .int z) hm)
    · have hm := jif_neg c2 hm
      refine j_iconst (v := 1) dX5_isIn_13 rfl (by decide) ?_
      refine j_goto (tgt := 18) dX5_isIn_14 (by decide) ?_
      exact j_zreturn dX5_isIn_18 rfl (by decide) ⟨Nat.le_refl _, Nat.le_refl _⟩ (jf_t (fun z => .int z) hm)
theorem zzX5_isIn {a0 : Int64} {a2 : Int64} {a4 : Int64} : mX5_isIn a0 a2 a4 = 0 ∨ mX5_isIn a0 a2 a4 = 1 := by
  unfold mX5_isIn
  (repeat' split) <;> first | exact Or.inl rfl | exact Or.inr rfl
theorem dX5_finds_0 : decode cX5_finds 0 = .ok (.aload_n 0, 1) := by decide +kernel
theorem dX5_finds_1 : decode cX5_finds 1 = .ok (.getfield 19, 3) := by decide +kernel
theorem dX5_finds_4 : decode cX5_finds 4 = .ok (.iconst 0, 1) := by decide +kernel
theorem dX5_finds_5 : decode cX5_finds 5 = .ok (.dup2, 1) := by decide +kernel
theorem dX5_finds_6 : decode cX5_finds 6 = .ok (.iaload, 1) := by decide +kernel
theorem dX5_finds_7 : decode cX5_finds 7 = .ok (.iconst 1, 1) := by decide +kernel
theorem dX5_finds_8 : decode cX5_finds 8 = .ok (.iadd, 1) := by decide +kernel
theorem dX5_finds_9 : decode cX5_finds 9 = .ok (.iastore, 1) := by decide +kernel
theorem dX5_finds_10 : decode cX5_finds 10 = .ok (.aload_n 0, 1) := by decide +kernel
theorem dX5_finds_11 : decode cX5_finds 11 = .ok (.getfield 19, 3) := by decide +kernel
theorem dX5_finds_14 : decode cX5_finds 14 = .ok (.ldc 44, 2) := by decide +kernel
theorem dX5_finds_16 : decode cX5_finds 16 = .ok (.iload_n 1, 1) := by decide +kernel
theorem dX5_finds_17 : decode cX5_finds 17 = .ok (.isub, 1) := by decide +kernel
theorem dX5_finds_18 : decode cX5_finds 18 = .ok (.iconst 1, 1) := by decide +kernel
theorem dX5_finds_19 : decode cX5_finds 19 = .ok (.iadd, 1) := by decide +kernel
theorem dX5_finds_20 : decode cX5_finds 20 = .ok (.dup2, 1) := by decide +kernel
theorem dX5_finds_21 : decode cX5_finds 21 = .ok (.iaload, 1) := by decide +kernel
theorem dX5_finds_22 : decode cX5_finds 22 = .ok (.iconst 1, 1) := by decide +kernel
theorem dX5_finds_23 : decode cX5_finds 23 = .ok (.iadd, 1) := by decide +kernel
theorem dX5_finds_24 : decode cX5_finds 24 = .ok (.iastore, 1) := by decide +kernel
theorem dX5_finds_25 : decode cX5_finds 25 = .ok (.iload_n 1, 1) := by decide +kernel
theorem dX5_finds_26 : decode cX5_finds 26 = .ok (.ireturn, 1) := by decide +kernel
def mX5_finds (a1 : Int32) (V : jMem) : Option (Int32 × jMem) := (jl (jsI V 4 0 ((V.1 4 0) + (1 : Int32))) (fun (V1 : jMem) => (jg (jin (((-1000000001 : Int32) - a1) + (1 : Int32)) 8) (jl (jsI V1 4 (Int32.toNatClampNeg (((-1000000001 : Int32) - a1) + (1 : Int32))) ((V1.1 4 (Int32.toNatClampNeg (((-1000000001 : Int32) - a1) + (1 : Int32)))) + (1 : Int32))) (fun (V3 : jMem) => (some (a1, V3)))))))
set_option maxHeartbeats 4000000 in
set_option maxRecDepth 20000 in
theorem tX5_finds {l : Launch} {Z : jZ} {q : Nat → Nat} {a1 : Int32} {V : jMem} {r : Int32} {V' : jMem}  (hm : mX5_finds a1 V = some (r, V')) : CtD l Z yX5_finds cX5_finds 2 (some .int) 0 q dM [.ref (q 0), .int a1] V (some (.int r)) V' := by
  refine Ct_of (L := [(0, .ref (q 0)), (1, .int a1)]) (own := RX5) (nm := "finds") rfl rfl (by decide +kernel) rfl (Nat.le_of_ble_eq_true rfl) ?_
  unfold mX5_finds at hm
  refine j_aload_n dX5_finds_0 rfl rfl ?_
  refine m_getr (k := 6) (r := 4) fX5_19 dX5_finds_1 rfl rfl rfl ?_
  refine j_iconst (v := 0) dX5_finds_4 rfl (by decide) ?_
  refine j_dup2 dX5_finds_5 rfl rfl rfl ?_
  refine o_iald (k := 0) (by decide) dX5_finds_6 rfl rfl (jin_vp (by decide)) ?_
  refine j_iconst (v := 1) dX5_finds_7 rfl (by decide) ?_
  refine j_iadd dX5_finds_8 rfl ?_
  refine o_iast (k := 0) (by decide) dX5_finds_9 rfl rfl (jin_vp (by decide)) ?_
  obtain ⟨V1, eV1⟩ : ∃ y, y = (jsI V 4 0 ((V.1 4 0) + (1 : Int32))) := ⟨_, rfl⟩
  have hm := jl_of hm eV1
  rw [← eV1]
  refine j_aload_n dX5_finds_10 rfl rfl ?_
  refine m_getr (k := 6) (r := 4) fX5_19 dX5_finds_11 rfl rfl rfl ?_
  refine j_ldc dX5_finds_14 rfl wX5_44 ?_
  refine j_iload_n dX5_finds_16 rfl rfl ?_
  refine j_isub dX5_finds_17 rfl ?_
  refine j_iconst (v := 1) dX5_finds_18 rfl (by decide) ?_
  refine j_iadd dX5_finds_19 rfl ?_
  refine j_dup2 dX5_finds_20 rfl rfl rfl ?_
  obtain ⟨g2, hm⟩ := jg_of hm
  refine o_iald (k := (Int32.toNatClampNeg (((-1000000001 : Int32) - a1) + (1 : Int32)))) rfl dX5_finds_21 rfl rfl (jin_vp g2) ?_
  refine j_iconst (v := 1) dX5_finds_22 rfl (by decide) ?_
  refine j_iadd dX5_finds_23 rfl ?_
  refine o_iast (k := (Int32.toNatClampNeg (((-1000000001 : Int32) - a1) + (1 : Int32)))) rfl dX5_finds_24 rfl rfl (jin_vp g2) ?_
  obtain ⟨V3, eV3⟩ : ∃ y, y = (jsI V1 4 (Int32.toNatClampNeg (((-1000000001 : Int32) - a1) + (1 : Int32))) ((V1.1 4 (Int32.toNatClampNeg (((-1000000001 : Int32) - a1) + (1 : Int32)))) + (1 : Int32))) := ⟨_, rfl⟩
  have hm := jl_of hm eV3
  rw [← eV3]
  refine j_iload_n dX5_finds_25 rfl rfl ?_
  exact j_ireturn dX5_finds_26 rfl rfl ⟨Nat.le_refl _, Nat.le_refl _⟩ (jf_m (fun z => .int z) hm)
theorem dX5_at_0 : decode cX5_at 0 = .ok (.bipush 10, 2) := by decide +kernel
theorem dX5_at_2 : decode cX5_at 2 = .ok (.bipush 7, 2) := by decide +kernel
theorem dX5_at_4 : decode cX5_at 4 = .ok (.iload_n 1, 1) := by decide +kernel
theorem dX5_at_5 : decode cX5_at 5 = .ok (.imul, 1) := by decide +kernel
theorem dX5_at_6 : decode cX5_at 6 = .ok (.iadd, 1) := by decide +kernel
theorem dX5_at_7 : decode cX5_at 7 = .ok (.iload_n 2, 1) := by decide +kernel
theorem dX5_at_8 : decode cX5_at 8 = .ok (.iadd, 1) := by decide +kernel
theorem dX5_at_9 : decode cX5_at 9 = .ok (.ireturn, 1) := by decide +kernel
def mX5_at (a1 : Int32) (a2 : Int32) : Int32 := (((10 : Int32) + ((7 : Int32) * a1)) + a2)
set_option maxHeartbeats 4000000 in
set_option maxRecDepth 20000 in
theorem tX5_at {l : Launch} {Z : jZ} {q : Nat → Nat} {V : jMem} {a1 : Int32} {a2 : Int32} {r : Int32}  (hm : mX5_at a1 a2 = r) : CtD l Z yX5_at cX5_at 3 (some .int) 0 q dM [.ref (q 0), .int a1, .int a2] V (some (.int r)) V := by
  refine Ct_of (L := [(0, .ref (q 0)), (1, .int a1), (2, .int a2)]) (own := RX5) (nm := "at") rfl rfl (by decide +kernel) rfl (Nat.le_of_ble_eq_true rfl) ?_
  unfold mX5_at at hm
  refine j_bipush (v := 10) dX5_at_0 rfl (by decide) ?_
  refine j_bipush (v := 7) dX5_at_2 rfl (by decide) ?_
  refine j_iload_n dX5_at_4 rfl rfl ?_
  refine j_imul dX5_at_5 rfl ?_
  refine j_iadd dX5_at_6 rfl ?_
  refine j_iload_n dX5_at_7 rfl rfl ?_
  refine j_iadd dX5_at_8 rfl ?_
  exact j_ireturn dX5_at_9 rfl rfl ⟨Nat.le_refl _, Nat.le_refl _⟩ (jf_t (fun z => .int z) hm)
theorem dX5_has_0 : decode cX5_has 0 = .ok (.aload_n 0, 1) := by decide +kernel
theorem dX5_has_1 : decode cX5_has 1 = .ok (.getfield 7, 3) := by decide +kernel
theorem dX5_has_4 : decode cX5_has 4 = .ok (.bipush 10, 2) := by decide +kernel
theorem dX5_has_6 : decode cX5_has 6 = .ok (.bipush 7, 2) := by decide +kernel
theorem dX5_has_8 : decode cX5_has 8 = .ok (.iload_n 1, 1) := by decide +kernel
theorem dX5_has_9 : decode cX5_has 9 = .ok (.imul, 1) := by decide +kernel
theorem dX5_has_10 : decode cX5_has 10 = .ok (.iadd, 1) := by decide +kernel
theorem dX5_has_11 : decode cX5_has 11 = .ok (.iload_n 2, 1) := by decide +kernel
theorem dX5_has_12 : decode cX5_has 12 = .ok (.iadd, 1) := by decide +kernel
theorem dX5_has_13 : decode cX5_has 13 = .ok (.iaload, 1) := by decide +kernel
theorem dX5_has_14 : decode cX5_has 14 = .ok (.ireturn, 1) := by decide +kernel
def mX5_has (a1 : Int32) (a2 : Int32) (V : jMem) : Option Int32 := (jg (jin (((10 : Int32) + ((7 : Int32) * a1)) + a2) 120) (some (V.1 1 (Int32.toNatClampNeg (((10 : Int32) + ((7 : Int32) * a1)) + a2)))))
set_option maxHeartbeats 4000000 in
set_option maxRecDepth 20000 in
theorem tX5_has {l : Launch} {Z : jZ} {q : Nat → Nat} {a1 : Int32} {a2 : Int32} {V : jMem} {r : Int32}  (hm : mX5_has a1 a2 V = some r) : CtD l Z yX5_has cX5_has 3 (some .int) 0 q dM [.ref (q 0), .int a1, .int a2] V (some (.int r)) V := by
  refine Ct_of (L := [(0, .ref (q 0)), (1, .int a1), (2, .int a2)]) (own := RX5) (nm := "has") rfl rfl (by decide +kernel) rfl (Nat.le_of_ble_eq_true rfl) ?_
  unfold mX5_has at hm
  refine j_aload_n dX5_has_0 rfl rfl ?_
  refine m_getr (k := 0) (r := 1) fX5_7 dX5_has_1 rfl rfl rfl ?_
  refine j_bipush (v := 10) dX5_has_4 rfl (by decide) ?_
  refine j_bipush (v := 7) dX5_has_6 rfl (by decide) ?_
  refine j_iload_n dX5_has_8 rfl rfl ?_
  refine j_imul dX5_has_9 rfl ?_
  refine j_iadd dX5_has_10 rfl ?_
  refine j_iload_n dX5_has_11 rfl rfl ?_
  refine j_iadd dX5_has_12 rfl ?_
  obtain ⟨g1, hm⟩ := jg_of hm
  refine o_iald (k := (Int32.toNatClampNeg (((10 : Int32) + ((7 : Int32) * a1)) + a2))) rfl dX5_has_13 rfl rfl (jin_vp g1) ?_
  exact j_ireturn dX5_has_14 rfl rfl ⟨Nat.le_refl _, Nat.le_refl _⟩ (jf_p (fun z => .int z) hm)
theorem dX5_isField_0 : decode cX5_isField 0 = .ok (.lload_n 1, 1) := by decide +kernel
theorem dX5_isField_1 : decode cX5_isField 1 = .ok (.lconst 0, 1) := by decide +kernel
theorem dX5_isField_2 : decode cX5_isField 2 = .ok (.lcmp, 1) := by decide +kernel
theorem dX5_isField_3 : decode cX5_isField 3 = .ok (.ifCond .lt 19, 3) := by decide +kernel
theorem dX5_isField_6 : decode cX5_isField 6 = .ok (.lload_n 1, 1) := by decide +kernel
theorem dX5_isField_7 : decode cX5_isField 7 = .ok (.aload_n 0, 1) := by decide +kernel
theorem dX5_isField_8 : decode cX5_isField 8 = .ok (.getfield 7, 3) := by decide +kernel
theorem dX5_isField_11 : decode cX5_isField 11 = .ok (.iconst 0, 1) := by decide +kernel
theorem dX5_isField_12 : decode cX5_isField 12 = .ok (.iaload, 1) := by decide +kernel
theorem dX5_isField_13 : decode cX5_isField 13 = .ok (.i2l, 1) := by decide +kernel
theorem dX5_isField_14 : decode cX5_isField 14 = .ok (.lcmp, 1) := by decide +kernel
theorem dX5_isField_15 : decode cX5_isField 15 = .ok (.ifCond .ge 7, 3) := by decide +kernel
theorem dX5_isField_18 : decode cX5_isField 18 = .ok (.iconst 1, 1) := by decide +kernel
theorem dX5_isField_19 : decode cX5_isField 19 = .ok (.goto 4, 3) := by decide +kernel
theorem dX5_isField_22 : decode cX5_isField 22 = .ok (.iconst 0, 1) := by decide +kernel
theorem dX5_isField_23 : decode cX5_isField 23 = .ok (.ireturn, 1) := by decide +kernel
def mX5_isField (a1 : Int64) (V : jMem) : Int32 := (if (lg_cmp a1 (0 : Int64)) < (0 : Int32) then (0 : Int32) else (if (0 : Int32) ≤ (lg_cmp a1 (Int32.toInt64 (V.1 1 0))) then (0 : Int32) else (1 : Int32)))
set_option maxHeartbeats 4000000 in
set_option maxRecDepth 20000 in
theorem tX5_isField {l : Launch} {Z : jZ} {q : Nat → Nat} {a1 : Int64} {V : jMem} {r : Int32}  (hm : mX5_isField a1 V = r) : CtD l Z yX5_isField cX5_isField 3 (some .boolean) 0 q dM [.ref (q 0), .long a1] V (some (.int r)) V := by
  refine Ct_of (L := [(0, .ref (q 0)), (1, .long a1)]) (own := RX5) (nm := "isField") rfl rfl (by decide +kernel) rfl (Nat.le_of_ble_eq_true rfl) ?_
  unfold mX5_isField at hm
  refine j_lload_n dX5_isField_0 rfl rfl ?_
  refine j_lconst (v := 0) dX5_isField_1 rfl (by decide) ?_
  refine j_lcmp dX5_isField_2 rfl ?_
  refine j_if_lt (tgt := 22) dX5_isField_3 rfl (by decide) (fun c1 => ?_) (fun c1 => ?_)
  · have hm := jif_pos c1 hm
    refine j_iconst (v := 0) dX5_isField_22 rfl (by decide) ?_
    exact j_zreturn dX5_isField_23 rfl (by decide) ⟨Nat.le_refl _, Nat.le_refl _⟩ (jf_t (fun z => .int z) hm)
  · have hm := jif_neg c1 hm
    refine j_lload_n dX5_isField_6 rfl rfl ?_
    refine j_aload_n dX5_isField_7 rfl rfl ?_
    refine m_getr (k := 0) (r := 1) fX5_7 dX5_isField_8 rfl rfl rfl ?_
    refine j_iconst (v := 0) dX5_isField_11 rfl (by decide) ?_
    refine o_iald (k := 0) (by decide) dX5_isField_12 rfl rfl (jin_vp (by decide)) ?_
    refine j_i2l dX5_isField_13 rfl ?_
    refine j_lcmp dX5_isField_14 rfl ?_
    refine j_if_ge (tgt := 22) dX5_isField_15 rfl (by decide) (fun c2 => ?_) (fun c2 => ?_)
    · have hm := jif_pos c2 hm
      refine j_iconst (v := 0) dX5_isField_22 rfl (by decide) ?_
      exact j_zreturn dX5_isField_23 rfl (by decide) ⟨Nat.le_refl _, Nat.le_refl _⟩ (jf_t (fun z => .int z) hm)
    · have hm := jif_neg c2 hm
      refine j_iconst (v := 1) dX5_isField_18 rfl (by decide) ?_
      refine j_goto (tgt := 23) dX5_isField_19 (by decide) ?_
      exact j_zreturn dX5_isField_23 rfl (by decide) ⟨Nat.le_refl _, Nat.le_refl _⟩ (jf_t (fun z => .int z) hm)
theorem zzX5_isField {a1 : Int64} {V : jMem} : mX5_isField a1 V = 0 ∨ mX5_isField a1 V = 1 := by
  unfold mX5_isField
  (repeat' split) <;> first | exact Or.inl rfl | exact Or.inr rfl
theorem dX5_isFree_0 : decode cX5_isFree 0 = .ok (.aload_n 0, 1) := by decide +kernel
theorem dX5_isFree_1 : decode cX5_isFree 1 = .ok (.iload_n 1, 1) := by decide +kernel
theorem dX5_isFree_2 : decode cX5_isFree 2 = .ok (.iconst 4, 1) := by decide +kernel
theorem dX5_isFree_3 : decode cX5_isFree 3 = .ok (.invokevirtual 45, 3) := by decide +kernel
theorem dX5_isFree_6 : decode cX5_isFree 6 = .ok (.ifCond .ne 7, 3) := by decide +kernel
theorem dX5_isFree_9 : decode cX5_isFree 9 = .ok (.iconst 1, 1) := by decide +kernel
theorem dX5_isFree_10 : decode cX5_isFree 10 = .ok (.goto 4, 3) := by decide +kernel
theorem dX5_isFree_13 : decode cX5_isFree 13 = .ok (.iconst 0, 1) := by decide +kernel
theorem dX5_isFree_14 : decode cX5_isFree 14 = .ok (.ireturn, 1) := by decide +kernel
def mX5_isFree (a1 : Int32) (V : jMem) : Option Int32 := ((mX5_has a1 (4 : Int32) V).bind (fun (r1 : Int32) => (if r1 = (0 : Int32) then (some (1 : Int32)) else (some (0 : Int32)))))
set_option maxHeartbeats 4000000 in
set_option maxRecDepth 20000 in
theorem tX5_isFree {l : Launch} {Z : jZ} {q : Nat → Nat} {a1 : Int32} {V : jMem} {r : Int32}  (hm : mX5_isFree a1 V = some r) : CtD l Z yX5_isFree cX5_isFree 2 (some .boolean) 1 q dM [.ref (q 0), .int a1] V (some (.int r)) V := by
  refine Ct_of (L := [(0, .ref (q 0)), (1, .int a1)]) (own := RX5) (nm := "isFree") rfl rfl (by decide +kernel) rfl (Nat.le_of_ble_eq_true rfl) ?_
  unfold mX5_isFree at hm
  refine j_aload_n dX5_isFree_0 rfl rfl ?_
  refine j_iload_n dX5_isFree_1 rfl rfl ?_
  refine j_iconst (v := 4) dX5_isFree_2 rfl (by decide) ?_
  obtain ⟨r1, er1, hm⟩ := jb_of hm
  refine o_callV_i kX5_45 dX5_isFree_3 rfl (tX5_has  er1) rfl rfl rfl rfl rfl (Nat.le_of_ble_eq_true rfl) (by decide) ?_
  refine j_if_ne (tgt := 13) dX5_isFree_6 rfl (by decide) (fun c2 => ?_) (fun c2 => ?_)
  · have hm := jif_neg c2 hm
    refine j_iconst (v := 0) dX5_isFree_13 rfl (by decide) ?_
    exact j_zreturn dX5_isFree_14 rfl (by decide) ⟨Nat.le_refl _, Nat.le_refl _⟩ (jf_p (fun z => .int z) hm)
  · have hm := jif_pos c2 hm
    refine j_iconst (v := 1) dX5_isFree_9 rfl (by decide) ?_
    refine j_goto (tgt := 14) dX5_isFree_10 (by decide) ?_
    exact j_zreturn dX5_isFree_14 rfl (by decide) ⟨Nat.le_refl _, Nat.le_refl _⟩ (jf_p (fun z => .int z) hm)
theorem dX5_becomes_0 : decode cX5_becomes 0 = .ok (.aload_n 0, 1) := by decide +kernel
theorem dX5_becomes_1 : decode cX5_becomes 1 = .ok (.getfield 7, 3) := by decide +kernel
theorem dX5_becomes_4 : decode cX5_becomes 4 = .ok (.iload_n 1, 1) := by decide +kernel
theorem dX5_becomes_5 : decode cX5_becomes 5 = .ok (.iaload, 1) := by decide +kernel
theorem dX5_becomes_6 : decode cX5_becomes 6 = .ok (.istore_n 3, 1) := by decide +kernel
theorem dX5_becomes_7 : decode cX5_becomes 7 = .ok (.aload_n 0, 1) := by decide +kernel
theorem dX5_becomes_8 : decode cX5_becomes 8 = .ok (.getfield 7, 3) := by decide +kernel
theorem dX5_becomes_11 : decode cX5_becomes 11 = .ok (.iload_n 1, 1) := by decide +kernel
theorem dX5_becomes_12 : decode cX5_becomes 12 = .ok (.iload_n 2, 1) := by decide +kernel
theorem dX5_becomes_13 : decode cX5_becomes 13 = .ok (.iastore, 1) := by decide +kernel
theorem dX5_becomes_14 : decode cX5_becomes 14 = .ok (.iload_n 3, 1) := by decide +kernel
theorem dX5_becomes_15 : decode cX5_becomes 15 = .ok (.ireturn, 1) := by decide +kernel
def mX5_becomes (a1 : Int32) (a2 : Int32) (V : jMem) : Option (Int32 × jMem) := (jg (jin a1 120) (jl (jsI V 1 (Int32.toNatClampNeg a1) a2) (fun (V2 : jMem) => (some ((V.1 1 (Int32.toNatClampNeg a1)), V2)))))
set_option maxHeartbeats 4000000 in
set_option maxRecDepth 20000 in
theorem tX5_becomes {l : Launch} {Z : jZ} {q : Nat → Nat} {a1 : Int32} {a2 : Int32} {V : jMem} {r : Int32} {V' : jMem}  (hm : mX5_becomes a1 a2 V = some (r, V')) : CtD l Z yX5_becomes cX5_becomes 4 (some .int) 0 q dM [.ref (q 0), .int a1, .int a2] V (some (.int r)) V' := by
  refine Ct_of (L := [(0, .ref (q 0)), (1, .int a1), (2, .int a2)]) (own := RX5) (nm := "becomes") rfl rfl (by decide +kernel) rfl (Nat.le_of_ble_eq_true rfl) ?_
  unfold mX5_becomes at hm
  refine j_aload_n dX5_becomes_0 rfl rfl ?_
  refine m_getr (k := 0) (r := 1) fX5_7 dX5_becomes_1 rfl rfl rfl ?_
  refine j_iload_n dX5_becomes_4 rfl rfl ?_
  obtain ⟨g1, hm⟩ := jg_of hm
  refine o_iald (k := (Int32.toNatClampNeg a1)) rfl dX5_becomes_5 rfl rfl (jin_vp g1) ?_
  refine j_istore_n (i := 3) (L' := [(3, _), (0, _), (1, _), (2, _)]) dX5_becomes_6 rfl rfl (by decide) rfl ?_
  refine j_aload_n dX5_becomes_7 rfl rfl ?_
  refine m_getr (k := 0) (r := 1) fX5_7 dX5_becomes_8 rfl rfl rfl ?_
  refine j_iload_n dX5_becomes_11 rfl rfl ?_
  refine j_iload_n dX5_becomes_12 rfl rfl ?_
  refine o_iast (k := (Int32.toNatClampNeg a1)) rfl dX5_becomes_13 rfl rfl (jin_vp g1) ?_
  obtain ⟨V2, eV2⟩ : ∃ y, y = (jsI V 1 (Int32.toNatClampNeg a1) a2) := ⟨_, rfl⟩
  have hm := jl_of hm eV2
  rw [← eV2]
  refine j_iload_n dX5_becomes_14 rfl rfl ?_
  exact j_ireturn dX5_becomes_15 rfl rfl ⟨Nat.le_refl _, Nat.le_refl _⟩ (jf_m (fun z => .int z) hm)
theorem dX5_comes_0 : decode cX5_comes 0 = .ok (.aload_n 0, 1) := by decide +kernel
theorem dX5_comes_1 : decode cX5_comes 1 = .ok (.getfield 7, 3) := by decide +kernel
theorem dX5_comes_4 : decode cX5_comes 4 = .ok (.iconst 0, 1) := by decide +kernel
theorem dX5_comes_5 : decode cX5_comes 5 = .ok (.iaload, 1) := by decide +kernel
theorem dX5_comes_6 : decode cX5_comes 6 = .ok (.istore_n 3, 1) := by decide +kernel
theorem dX5_comes_7 : decode cX5_comes 7 = .ok (.aload_n 0, 1) := by decide +kernel
theorem dX5_comes_8 : decode cX5_comes 8 = .ok (.getfield 7, 3) := by decide +kernel
theorem dX5_comes_11 : decode cX5_comes 11 = .ok (.aload_n 0, 1) := by decide +kernel
theorem dX5_comes_12 : decode cX5_comes 12 = .ok (.iload_n 3, 1) := by decide +kernel
theorem dX5_comes_13 : decode cX5_comes 13 = .ok (.iconst 0, 1) := by decide +kernel
theorem dX5_comes_14 : decode cX5_comes 14 = .ok (.invokevirtual 49, 3) := by decide +kernel
theorem dX5_comes_17 : decode cX5_comes 17 = .ok (.iload_n 1, 1) := by decide +kernel
theorem dX5_comes_18 : decode cX5_comes 18 = .ok (.iastore, 1) := by decide +kernel
theorem dX5_comes_19 : decode cX5_comes 19 = .ok (.aload_n 0, 1) := by decide +kernel
theorem dX5_comes_20 : decode cX5_comes 20 = .ok (.getfield 7, 3) := by decide +kernel
theorem dX5_comes_23 : decode cX5_comes 23 = .ok (.aload_n 0, 1) := by decide +kernel
theorem dX5_comes_24 : decode cX5_comes 24 = .ok (.iload_n 3, 1) := by decide +kernel
theorem dX5_comes_25 : decode cX5_comes 25 = .ok (.iconst 1, 1) := by decide +kernel
theorem dX5_comes_26 : decode cX5_comes 26 = .ok (.invokevirtual 49, 3) := by decide +kernel
theorem dX5_comes_29 : decode cX5_comes 29 = .ok (.iload_n 2, 1) := by decide +kernel
theorem dX5_comes_30 : decode cX5_comes 30 = .ok (.iastore, 1) := by decide +kernel
theorem dX5_comes_31 : decode cX5_comes 31 = .ok (.aload_n 0, 1) := by decide +kernel
theorem dX5_comes_32 : decode cX5_comes 32 = .ok (.getfield 7, 3) := by decide +kernel
theorem dX5_comes_35 : decode cX5_comes 35 = .ok (.aload_n 0, 1) := by decide +kernel
theorem dX5_comes_36 : decode cX5_comes 36 = .ok (.iload_n 3, 1) := by decide +kernel
theorem dX5_comes_37 : decode cX5_comes 37 = .ok (.iconst 2, 1) := by decide +kernel
theorem dX5_comes_38 : decode cX5_comes 38 = .ok (.invokevirtual 49, 3) := by decide +kernel
theorem dX5_comes_41 : decode cX5_comes 41 = .ok (.iconst 0, 1) := by decide +kernel
theorem dX5_comes_42 : decode cX5_comes 42 = .ok (.iastore, 1) := by decide +kernel
theorem dX5_comes_43 : decode cX5_comes 43 = .ok (.aload_n 0, 1) := by decide +kernel
theorem dX5_comes_44 : decode cX5_comes 44 = .ok (.getfield 7, 3) := by decide +kernel
theorem dX5_comes_47 : decode cX5_comes 47 = .ok (.aload_n 0, 1) := by decide +kernel
theorem dX5_comes_48 : decode cX5_comes 48 = .ok (.iload_n 3, 1) := by decide +kernel
theorem dX5_comes_49 : decode cX5_comes 49 = .ok (.iconst 3, 1) := by decide +kernel
theorem dX5_comes_50 : decode cX5_comes 50 = .ok (.invokevirtual 49, 3) := by decide +kernel
theorem dX5_comes_53 : decode cX5_comes 53 = .ok (.iconst 0, 1) := by decide +kernel
theorem dX5_comes_54 : decode cX5_comes 54 = .ok (.iastore, 1) := by decide +kernel
theorem dX5_comes_55 : decode cX5_comes 55 = .ok (.aload_n 0, 1) := by decide +kernel
theorem dX5_comes_56 : decode cX5_comes 56 = .ok (.getfield 7, 3) := by decide +kernel
theorem dX5_comes_59 : decode cX5_comes 59 = .ok (.aload_n 0, 1) := by decide +kernel
theorem dX5_comes_60 : decode cX5_comes 60 = .ok (.iload_n 3, 1) := by decide +kernel
theorem dX5_comes_61 : decode cX5_comes 61 = .ok (.iconst 4, 1) := by decide +kernel
theorem dX5_comes_62 : decode cX5_comes 62 = .ok (.invokevirtual 49, 3) := by decide +kernel
theorem dX5_comes_65 : decode cX5_comes 65 = .ok (.iconst 0, 1) := by decide +kernel
theorem dX5_comes_66 : decode cX5_comes 66 = .ok (.iastore, 1) := by decide +kernel
theorem dX5_comes_67 : decode cX5_comes 67 = .ok (.aload_n 0, 1) := by decide +kernel
theorem dX5_comes_68 : decode cX5_comes 68 = .ok (.getfield 7, 3) := by decide +kernel
theorem dX5_comes_71 : decode cX5_comes 71 = .ok (.aload_n 0, 1) := by decide +kernel
theorem dX5_comes_72 : decode cX5_comes 72 = .ok (.iload_n 3, 1) := by decide +kernel
theorem dX5_comes_73 : decode cX5_comes 73 = .ok (.iconst 5, 1) := by decide +kernel
theorem dX5_comes_74 : decode cX5_comes 74 = .ok (.invokevirtual 49, 3) := by decide +kernel
theorem dX5_comes_77 : decode cX5_comes 77 = .ok (.iconst (-1), 1) := by decide +kernel
theorem dX5_comes_78 : decode cX5_comes 78 = .ok (.iastore, 1) := by decide +kernel
theorem dX5_comes_79 : decode cX5_comes 79 = .ok (.aload_n 0, 1) := by decide +kernel
theorem dX5_comes_80 : decode cX5_comes 80 = .ok (.getfield 7, 3) := by decide +kernel
theorem dX5_comes_83 : decode cX5_comes 83 = .ok (.aload_n 0, 1) := by decide +kernel
theorem dX5_comes_84 : decode cX5_comes 84 = .ok (.iload_n 3, 1) := by decide +kernel
theorem dX5_comes_85 : decode cX5_comes 85 = .ok (.bipush 6, 2) := by decide +kernel
theorem dX5_comes_87 : decode cX5_comes 87 = .ok (.invokevirtual 49, 3) := by decide +kernel
theorem dX5_comes_90 : decode cX5_comes 90 = .ok (.iconst 0, 1) := by decide +kernel
theorem dX5_comes_91 : decode cX5_comes 91 = .ok (.iastore, 1) := by decide +kernel
theorem dX5_comes_92 : decode cX5_comes 92 = .ok (.aload_n 0, 1) := by decide +kernel
theorem dX5_comes_93 : decode cX5_comes 93 = .ok (.getfield 7, 3) := by decide +kernel
theorem dX5_comes_96 : decode cX5_comes 96 = .ok (.iconst 0, 1) := by decide +kernel
theorem dX5_comes_97 : decode cX5_comes 97 = .ok (.dup2, 1) := by decide +kernel
theorem dX5_comes_98 : decode cX5_comes 98 = .ok (.iaload, 1) := by decide +kernel
theorem dX5_comes_99 : decode cX5_comes 99 = .ok (.iconst 1, 1) := by decide +kernel
theorem dX5_comes_100 : decode cX5_comes 100 = .ok (.iadd, 1) := by decide +kernel
theorem dX5_comes_101 : decode cX5_comes 101 = .ok (.iastore, 1) := by decide +kernel
theorem dX5_comes_102 : decode cX5_comes 102 = .ok (.return_, 1) := by decide +kernel
def mX5_comes (a1 : Int32) (a2 : Int32) (V : jMem) : Option jMem := (jg (jin (mX5_at (V.1 1 0) (0 : Int32)) 120) (jl (jsI V 1 (Int32.toNatClampNeg (mX5_at (V.1 1 0) (0 : Int32))) a1) (fun (V2 : jMem) => (jg (jin (mX5_at (V.1 1 0) (1 : Int32)) 120) (jl (jsI V2 1 (Int32.toNatClampNeg (mX5_at (V.1 1 0) (1 : Int32))) a2) (fun (V4 : jMem) => (jg (jin (mX5_at (V.1 1 0) (2 : Int32)) 120) (jl (jsI V4 1 (Int32.toNatClampNeg (mX5_at (V.1 1 0) (2 : Int32))) (0 : Int32)) (fun (V6 : jMem) => (jg (jin (mX5_at (V.1 1 0) (3 : Int32)) 120) (jl (jsI V6 1 (Int32.toNatClampNeg (mX5_at (V.1 1 0) (3 : Int32))) (0 : Int32)) (fun (V8 : jMem) => (jg (jin (mX5_at (V.1 1 0) (4 : Int32)) 120) (jl (jsI V8 1 (Int32.toNatClampNeg (mX5_at (V.1 1 0) (4 : Int32))) (0 : Int32)) (fun (V10 : jMem) => (jg (jin (mX5_at (V.1 1 0) (5 : Int32)) 120) (jl (jsI V10 1 (Int32.toNatClampNeg (mX5_at (V.1 1 0) (5 : Int32))) (-1 : Int32)) (fun (V12 : jMem) => (jg (jin (mX5_at (V.1 1 0) (6 : Int32)) 120) (jl (jsI V12 1 (Int32.toNatClampNeg (mX5_at (V.1 1 0) (6 : Int32))) (0 : Int32)) (fun (V14 : jMem) => (jl (jsI V14 1 0 ((V14.1 1 0) + (1 : Int32))) (fun (V15 : jMem) => (some V15))))))))))))))))))))))))
set_option maxHeartbeats 4000000 in
set_option maxRecDepth 20000 in
theorem tX5_comes {l : Launch} {Z : jZ} {q : Nat → Nat} {a1 : Int32} {a2 : Int32} {V : jMem} {V' : jMem}  (hm : mX5_comes a1 a2 V = some V') : CtD l Z yX5_comes cX5_comes 4 none 1 q dM [.ref (q 0), .int a1, .int a2] V none V' := by
  refine Ct_of (L := [(0, .ref (q 0)), (1, .int a1), (2, .int a2)]) (own := RX5) (nm := "comes") rfl rfl (by decide +kernel) rfl (Nat.le_of_ble_eq_true rfl) ?_
  unfold mX5_comes at hm
  refine j_aload_n dX5_comes_0 rfl rfl ?_
  refine m_getr (k := 0) (r := 1) fX5_7 dX5_comes_1 rfl rfl rfl ?_
  refine j_iconst (v := 0) dX5_comes_4 rfl (by decide) ?_
  refine o_iald (k := 0) (by decide) dX5_comes_5 rfl rfl (jin_vp (by decide)) ?_
  refine j_istore_n (i := 3) (L' := [(3, _), (0, _), (1, _), (2, _)]) dX5_comes_6 rfl rfl (by decide) rfl ?_
  refine j_aload_n dX5_comes_7 rfl rfl ?_
  refine m_getr (k := 0) (r := 1) fX5_7 dX5_comes_8 rfl rfl rfl ?_
  refine j_aload_n dX5_comes_11 rfl rfl ?_
  refine j_iload_n dX5_comes_12 rfl rfl ?_
  refine j_iconst (v := 0) dX5_comes_13 rfl (by decide) ?_
  refine o_callV_i kX5_49 dX5_comes_14 rfl (tX5_at  rfl) rfl rfl rfl rfl rfl (Nat.le_of_ble_eq_true rfl) (by decide) ?_
  refine j_iload_n dX5_comes_17 rfl rfl ?_
  obtain ⟨g1, hm⟩ := jg_of hm
  refine o_iast (k := (Int32.toNatClampNeg (mX5_at (V.1 1 0) (0 : Int32)))) rfl dX5_comes_18 rfl rfl (jin_vp g1) ?_
  obtain ⟨V2, eV2⟩ : ∃ y, y = (jsI V 1 (Int32.toNatClampNeg (mX5_at (V.1 1 0) (0 : Int32))) a1) := ⟨_, rfl⟩
  have hm := jl_of hm eV2
  rw [← eV2]
  refine j_aload_n dX5_comes_19 rfl rfl ?_
  refine m_getr (k := 0) (r := 1) fX5_7 dX5_comes_20 rfl rfl rfl ?_
  refine j_aload_n dX5_comes_23 rfl rfl ?_
  refine j_iload_n dX5_comes_24 rfl rfl ?_
  refine j_iconst (v := 1) dX5_comes_25 rfl (by decide) ?_
  refine o_callV_i kX5_49 dX5_comes_26 rfl (tX5_at  rfl) rfl rfl rfl rfl rfl (Nat.le_of_ble_eq_true rfl) (by decide) ?_
  refine j_iload_n dX5_comes_29 rfl rfl ?_
  obtain ⟨g3, hm⟩ := jg_of hm
  refine o_iast (k := (Int32.toNatClampNeg (mX5_at (V.1 1 0) (1 : Int32)))) rfl dX5_comes_30 rfl rfl (jin_vp g3) ?_
  obtain ⟨V4, eV4⟩ : ∃ y, y = (jsI V2 1 (Int32.toNatClampNeg (mX5_at (V.1 1 0) (1 : Int32))) a2) := ⟨_, rfl⟩
  have hm := jl_of hm eV4
  rw [← eV4]
  refine j_aload_n dX5_comes_31 rfl rfl ?_
  refine m_getr (k := 0) (r := 1) fX5_7 dX5_comes_32 rfl rfl rfl ?_
  refine j_aload_n dX5_comes_35 rfl rfl ?_
  refine j_iload_n dX5_comes_36 rfl rfl ?_
  refine j_iconst (v := 2) dX5_comes_37 rfl (by decide) ?_
  refine o_callV_i kX5_49 dX5_comes_38 rfl (tX5_at  rfl) rfl rfl rfl rfl rfl (Nat.le_of_ble_eq_true rfl) (by decide) ?_
  refine j_iconst (v := 0) dX5_comes_41 rfl (by decide) ?_
  obtain ⟨g5, hm⟩ := jg_of hm
  refine o_iast (k := (Int32.toNatClampNeg (mX5_at (V.1 1 0) (2 : Int32)))) rfl dX5_comes_42 rfl rfl (jin_vp g5) ?_
  obtain ⟨V6, eV6⟩ : ∃ y, y = (jsI V4 1 (Int32.toNatClampNeg (mX5_at (V.1 1 0) (2 : Int32))) (0 : Int32)) := ⟨_, rfl⟩
  have hm := jl_of hm eV6
  rw [← eV6]
  refine j_aload_n dX5_comes_43 rfl rfl ?_
  refine m_getr (k := 0) (r := 1) fX5_7 dX5_comes_44 rfl rfl rfl ?_
  refine j_aload_n dX5_comes_47 rfl rfl ?_
  refine j_iload_n dX5_comes_48 rfl rfl ?_
  refine j_iconst (v := 3) dX5_comes_49 rfl (by decide) ?_
  refine o_callV_i kX5_49 dX5_comes_50 rfl (tX5_at  rfl) rfl rfl rfl rfl rfl (Nat.le_of_ble_eq_true rfl) (by decide) ?_
  refine j_iconst (v := 0) dX5_comes_53 rfl (by decide) ?_
  obtain ⟨g7, hm⟩ := jg_of hm
  refine o_iast (k := (Int32.toNatClampNeg (mX5_at (V.1 1 0) (3 : Int32)))) rfl dX5_comes_54 rfl rfl (jin_vp g7) ?_
  obtain ⟨V8, eV8⟩ : ∃ y, y = (jsI V6 1 (Int32.toNatClampNeg (mX5_at (V.1 1 0) (3 : Int32))) (0 : Int32)) := ⟨_, rfl⟩
  have hm := jl_of hm eV8
  rw [← eV8]
  refine j_aload_n dX5_comes_55 rfl rfl ?_
  refine m_getr (k := 0) (r := 1) fX5_7 dX5_comes_56 rfl rfl rfl ?_
  refine j_aload_n dX5_comes_59 rfl rfl ?_
  refine j_iload_n dX5_comes_60 rfl rfl ?_
  refine j_iconst (v := 4) dX5_comes_61 rfl (by decide) ?_
  refine o_callV_i kX5_49 dX5_comes_62 rfl (tX5_at  rfl) rfl rfl rfl rfl rfl (Nat.le_of_ble_eq_true rfl) (by decide) ?_
  refine j_iconst (v := 0) dX5_comes_65 rfl (by decide) ?_
  obtain ⟨g9, hm⟩ := jg_of hm
  refine o_iast (k := (Int32.toNatClampNeg (mX5_at (V.1 1 0) (4 : Int32)))) rfl dX5_comes_66 rfl rfl (jin_vp g9) ?_
  obtain ⟨V10, eV10⟩ : ∃ y, y = (jsI V8 1 (Int32.toNatClampNeg (mX5_at (V.1 1 0) (4 : Int32))) (0 : Int32)) := ⟨_, rfl⟩
  have hm := jl_of hm eV10
  rw [← eV10]
  refine j_aload_n dX5_comes_67 rfl rfl ?_
  refine m_getr (k := 0) (r := 1) fX5_7 dX5_comes_68 rfl rfl rfl ?_
  refine j_aload_n dX5_comes_71 rfl rfl ?_
  refine j_iload_n dX5_comes_72 rfl rfl ?_
  refine j_iconst (v := 5) dX5_comes_73 rfl (by decide) ?_
  refine o_callV_i kX5_49 dX5_comes_74 rfl (tX5_at  rfl) rfl rfl rfl rfl rfl (Nat.le_of_ble_eq_true rfl) (by decide) ?_
  refine j_iconst (v := -1) dX5_comes_77 rfl (by decide) ?_
  obtain ⟨g11, hm⟩ := jg_of hm
  refine o_iast (k := (Int32.toNatClampNeg (mX5_at (V.1 1 0) (5 : Int32)))) rfl dX5_comes_78 rfl rfl (jin_vp g11) ?_
  obtain ⟨V12, eV12⟩ : ∃ y, y = (jsI V10 1 (Int32.toNatClampNeg (mX5_at (V.1 1 0) (5 : Int32))) (-1 : Int32)) := ⟨_, rfl⟩
  have hm := jl_of hm eV12
  rw [← eV12]
  refine j_aload_n dX5_comes_79 rfl rfl ?_
  refine m_getr (k := 0) (r := 1) fX5_7 dX5_comes_80 rfl rfl rfl ?_
  refine j_aload_n dX5_comes_83 rfl rfl ?_
  refine j_iload_n dX5_comes_84 rfl rfl ?_
  refine j_bipush (v := 6) dX5_comes_85 rfl (by decide) ?_
  refine o_callV_i kX5_49 dX5_comes_87 rfl (tX5_at  rfl) rfl rfl rfl rfl rfl (Nat.le_of_ble_eq_true rfl) (by decide) ?_
  refine j_iconst (v := 0) dX5_comes_90 rfl (by decide) ?_
  obtain ⟨g13, hm⟩ := jg_of hm
  refine o_iast (k := (Int32.toNatClampNeg (mX5_at (V.1 1 0) (6 : Int32)))) rfl dX5_comes_91 rfl rfl (jin_vp g13) ?_
  obtain ⟨V14, eV14⟩ : ∃ y, y = (jsI V12 1 (Int32.toNatClampNeg (mX5_at (V.1 1 0) (6 : Int32))) (0 : Int32)) := ⟨_, rfl⟩
  have hm := jl_of hm eV14
  rw [← eV14]
  refine j_aload_n dX5_comes_92 rfl rfl ?_
  refine m_getr (k := 0) (r := 1) fX5_7 dX5_comes_93 rfl rfl rfl ?_
  refine j_iconst (v := 0) dX5_comes_96 rfl (by decide) ?_
  refine j_dup2 dX5_comes_97 rfl rfl rfl ?_
  refine o_iald (k := 0) (by decide) dX5_comes_98 rfl rfl (jin_vp (by decide)) ?_
  refine j_iconst (v := 1) dX5_comes_99 rfl (by decide) ?_
  refine j_iadd dX5_comes_100 rfl ?_
  refine o_iast (k := 0) (by decide) dX5_comes_101 rfl rfl (jin_vp (by decide)) ?_
  obtain ⟨V15, eV15⟩ : ∃ y, y = (jsI V14 1 0 ((V14.1 1 0) + (1 : Int32))) := ⟨_, rfl⟩
  have hm := jl_of hm eV15
  rw [← eV15]
  exact j_return dX5_comes_102 rfl ⟨Nat.le_refl _, Nat.le_refl _⟩ (jf_v hm)
theorem dX5_field_0 : decode cX5_field 0 = .ok (.iload_n 1, 1) := by decide +kernel
theorem dX5_field_1 : decode cX5_field 1 = .ok (.i2l, 1) := by decide +kernel
theorem dX5_field_2 : decode cX5_field 2 = .ok (.lconst 0, 1) := by decide +kernel
theorem dX5_field_3 : decode cX5_field 3 = .ok (.ldc2_w 52, 3) := by decide +kernel
theorem dX5_field_6 : decode cX5_field 6 = .ok (.invokestatic 54, 3) := by decide +kernel
theorem dX5_field_9 : decode cX5_field 9 = .ok (.ifCond .eq 15, 3) := by decide +kernel
theorem dX5_field_12 : decode cX5_field 12 = .ok (.iload_n 2, 1) := by decide +kernel
theorem dX5_field_13 : decode cX5_field 13 = .ok (.i2l, 1) := by decide +kernel
theorem dX5_field_14 : decode cX5_field 14 = .ok (.lconst 1, 1) := by decide +kernel
theorem dX5_field_15 : decode cX5_field 15 = .ok (.ldc2_w 58, 3) := by decide +kernel
theorem dX5_field_18 : decode cX5_field 18 = .ok (.invokestatic 54, 3) := by decide +kernel
theorem dX5_field_21 : decode cX5_field 21 = .ok (.ifCond .ne 10, 3) := by decide +kernel
theorem dX5_field_24 : decode cX5_field 24 = .ok (.aload_n 0, 1) := by decide +kernel
theorem dX5_field_25 : decode cX5_field 25 = .ok (.ldc 44, 2) := by decide +kernel
theorem dX5_field_27 : decode cX5_field 27 = .ok (.invokevirtual 60, 3) := by decide +kernel
theorem dX5_field_30 : decode cX5_field 30 = .ok (.ireturn, 1) := by decide +kernel
theorem dX5_field_31 : decode cX5_field 31 = .ok (.aload_n 0, 1) := by decide +kernel
theorem dX5_field_32 : decode cX5_field 32 = .ok (.getfield 7, 3) := by decide +kernel
theorem dX5_field_35 : decode cX5_field 35 = .ok (.iconst 0, 1) := by decide +kernel
theorem dX5_field_36 : decode cX5_field 36 = .ok (.iaload, 1) := by decide +kernel
theorem dX5_field_37 : decode cX5_field 37 = .ok (.bipush 14, 2) := by decide +kernel
theorem dX5_field_39 : decode cX5_field 39 = .ok (.if_icmp .ne 10, 3) := by decide +kernel
theorem dX5_field_42 : decode cX5_field 42 = .ok (.aload_n 0, 1) := by decide +kernel
theorem dX5_field_43 : decode cX5_field 43 = .ok (.ldc 64, 2) := by decide +kernel
theorem dX5_field_45 : decode cX5_field 45 = .ok (.invokevirtual 60, 3) := by decide +kernel
theorem dX5_field_48 : decode cX5_field 48 = .ok (.ireturn, 1) := by decide +kernel
theorem dX5_field_49 : decode cX5_field 49 = .ok (.aload_n 0, 1) := by decide +kernel
theorem dX5_field_50 : decode cX5_field 50 = .ok (.iload_n 1, 1) := by decide +kernel
theorem dX5_field_51 : decode cX5_field 51 = .ok (.iload_n 2, 1) := by decide +kernel
theorem dX5_field_52 : decode cX5_field 52 = .ok (.invokevirtual 65, 3) := by decide +kernel
theorem dX5_field_55 : decode cX5_field 55 = .ok (.aload_n 0, 1) := by decide +kernel
theorem dX5_field_56 : decode cX5_field 56 = .ok (.getfield 7, 3) := by decide +kernel
theorem dX5_field_59 : decode cX5_field 59 = .ok (.iconst 0, 1) := by decide +kernel
theorem dX5_field_60 : decode cX5_field 60 = .ok (.iaload, 1) := by decide +kernel
theorem dX5_field_61 : decode cX5_field 61 = .ok (.iconst 1, 1) := by decide +kernel
theorem dX5_field_62 : decode cX5_field 62 = .ok (.isub, 1) := by decide +kernel
theorem dX5_field_63 : decode cX5_field 63 = .ok (.ireturn, 1) := by decide +kernel
def mX5_field_b24   (V : jMem) : Option (Int32 × jMem) := ((mX5_finds (-1000000001 : Int32) V).bind (fun (p1 : Int32 × jMem) => (some (p1.1, p1.2))))
set_option maxHeartbeats 4000000 in
set_option maxRecDepth 20000 in
theorem tX5_field_b24 {l : Launch} {Z : jZ} {q : Nat → Nat} {V : jMem} {r : Int32} {V' : jMem}    (hm : mX5_field_b24 V = some (r, V')) : J l Z RX5 "field" cX5_field 3 (some .int) 2 0 0 (fun r' w => r' = some (.int r) ∧ w = jw Z q V' dM) 24 [(0, .ref (q 0))] [] (jw Z q V dM) 0 0 := by
  unfold mX5_field_b24 at hm
  refine j_aload_n dX5_field_24 rfl rfl ?_
  refine j_ldc dX5_field_25 rfl wX5_44 ?_
  obtain ⟨p1, ep1, hm⟩ := jb_of hm
  refine o_callV_i kX5_60 dX5_field_27 rfl (tX5_finds  ep1) rfl rfl rfl rfl rfl (Nat.le_of_ble_eq_true rfl) (by decide) ?_
  exact j_ireturn dX5_field_30 rfl rfl ⟨Nat.le_refl _, Nat.le_refl _⟩ (jf_m (fun z => .int z) hm)
def mX5_field (a1 : Int32) (a2 : Int32) (V : jMem) : Option (Int32 × jMem) := (if (mX5_isIn (Int32.toInt64 a1) (0 : Int64) (5 : Int64)) = (0 : Int32) then (mX5_field_b24 V) else (if (mX5_isIn (Int32.toInt64 a2) (1 : Int64) (9999 : Int64)) = (0 : Int32) then (mX5_field_b24 V) else (if (V.1 1 0) = (14 : Int32) then ((mX5_finds (-1000000002 : Int32) V).bind (fun (p5 : Int32 × jMem) => (some (p5.1, p5.2)))) else ((mX5_comes a1 a2 V).bind (fun (p4 : jMem) => (some (((p4.1 1 0) - (1 : Int32)), p4)))))))
set_option maxHeartbeats 4000000 in
set_option maxRecDepth 20000 in
theorem tX5_field {l : Launch} {Z : jZ} {q : Nat → Nat} {a1 : Int32} {a2 : Int32} {V : jMem} {r : Int32} {V' : jMem}  (hm : mX5_field a1 a2 V = some (r, V')) : CtD l Z yX5_field cX5_field 3 (some .int) 2 q dM [.ref (q 0), .int a1, .int a2] V (some (.int r)) V' := by
  refine Ct_of (L := [(0, .ref (q 0)), (1, .int a1), (2, .int a2)]) (own := RX5) (nm := "field") rfl rfl (by decide +kernel) rfl (Nat.le_of_ble_eq_true rfl) ?_
  unfold mX5_field at hm
  refine j_iload_n dX5_field_0 rfl rfl ?_
  refine j_i2l dX5_field_1 rfl ?_
  refine j_lconst (v := 0) dX5_field_2 rfl (by decide) ?_
  refine j_ldc2 dX5_field_3 rfl wX5_52 ?_
  refine o_callS_i kX5_54 dX5_field_6 rfl (tX5_isIn  rfl) rfl rfl (Nat.le_of_ble_eq_true rfl) (by decide) ?_
  refine j_if_eq (tgt := 24) dX5_field_9 rfl (by decide) (fun c1 => ?_) (fun c1 => ?_)
  · have hm := jif_pos c1 hm
    refine j_sub (L' := [(0, _)]) [0] rfl ?_
    exact tX5_field_b24    hm
  · have hm := jif_neg c1 hm
    refine j_iload_n dX5_field_12 rfl rfl ?_
    refine j_i2l dX5_field_13 rfl ?_
    refine j_lconst (v := 1) dX5_field_14 rfl (by decide) ?_
    refine j_ldc2 dX5_field_15 rfl wX5_58 ?_
    refine o_callS_i kX5_54 dX5_field_18 rfl (tX5_isIn  rfl) rfl rfl (Nat.le_of_ble_eq_true rfl) (by decide) ?_
    refine j_if_ne (tgt := 31) dX5_field_21 rfl (by decide) (fun c2 => ?_) (fun c2 => ?_)
    · have hm := jif_neg c2 hm
      refine j_aload_n dX5_field_31 rfl rfl ?_
      refine m_getr (k := 0) (r := 1) fX5_7 dX5_field_32 rfl rfl rfl ?_
      refine j_iconst (v := 0) dX5_field_35 rfl (by decide) ?_
      refine o_iald (k := 0) (by decide) dX5_field_36 rfl rfl (jin_vp (by decide)) ?_
      refine j_bipush (v := 14) dX5_field_37 rfl (by decide) ?_
      refine j_icmp_ne (tgt := 49) dX5_field_39 rfl (by decide) (fun c3 => ?_) (fun c3 => ?_)
      · have hm := jif_neg c3 hm
        refine j_aload_n dX5_field_49 rfl rfl ?_
        refine j_iload_n dX5_field_50 rfl rfl ?_
        refine j_iload_n dX5_field_51 rfl rfl ?_
        obtain ⟨p4, ep4, hm⟩ := jb_of hm
        refine o_callV_v kX5_65 dX5_field_52 rfl (tX5_comes  ep4) rfl rfl rfl rfl rfl (Nat.le_of_ble_eq_true rfl) (by decide) ?_
        refine j_aload_n dX5_field_55 rfl rfl ?_
        refine m_getr (k := 0) (r := 1) fX5_7 dX5_field_56 rfl rfl rfl ?_
        refine j_iconst (v := 0) dX5_field_59 rfl (by decide) ?_
        refine o_iald (k := 0) (by decide) dX5_field_60 rfl rfl (jin_vp (by decide)) ?_
        refine j_iconst (v := 1) dX5_field_61 rfl (by decide) ?_
        refine j_isub dX5_field_62 rfl ?_
        exact j_ireturn dX5_field_63 rfl rfl ⟨Nat.le_refl _, Nat.le_refl _⟩ (jf_m (fun z => .int z) hm)
      · have hm := jif_pos c3 hm
        refine j_aload_n dX5_field_42 rfl rfl ?_
        refine j_ldc dX5_field_43 rfl wX5_64 ?_
        obtain ⟨p5, ep5, hm⟩ := jb_of hm
        refine o_callV_i kX5_60 dX5_field_45 rfl (tX5_finds  ep5) rfl rfl rfl rfl rfl (Nat.le_of_ble_eq_true rfl) (by decide) ?_
        exact j_ireturn dX5_field_48 rfl rfl ⟨Nat.le_refl _, Nat.le_refl _⟩ (jf_m (fun z => .int z) hm)
    · have hm := jif_pos c2 hm
      refine j_sub (L' := [(0, _)]) [0] rfl ?_
      exact tX5_field_b24    hm
theorem dX5_ours_0 : decode cX5_ours 0 = .ok (.iconst 0, 1) := by decide +kernel
theorem dX5_ours_1 : decode cX5_ours 1 = .ok (.istore_n 1, 1) := by decide +kernel
theorem dX5_ours_2 : decode cX5_ours 2 = .ok (.iconst 0, 1) := by decide +kernel
theorem dX5_ours_3 : decode cX5_ours 3 = .ok (.istore_n 2, 1) := by decide +kernel
theorem dX5_ours_4 : decode cX5_ours 4 = .ok (.iload_n 2, 1) := by decide +kernel
theorem dX5_ours_5 : decode cX5_ours 5 = .ok (.aload_n 0, 1) := by decide +kernel
theorem dX5_ours_6 : decode cX5_ours 6 = .ok (.getfield 7, 3) := by decide +kernel
theorem dX5_ours_9 : decode cX5_ours 9 = .ok (.iconst 0, 1) := by decide +kernel
theorem dX5_ours_10 : decode cX5_ours 10 = .ok (.iaload, 1) := by decide +kernel
theorem dX5_ours_11 : decode cX5_ours 11 = .ok (.if_icmp .ge 29, 3) := by decide +kernel
theorem dX5_ours_14 : decode cX5_ours 14 = .ok (.iload_n 1, 1) := by decide +kernel
theorem dX5_ours_15 : decode cX5_ours 15 = .ok (.aload_n 0, 1) := by decide +kernel
theorem dX5_ours_16 : decode cX5_ours 16 = .ok (.iload_n 2, 1) := by decide +kernel
theorem dX5_ours_17 : decode cX5_ours 17 = .ok (.iconst 4, 1) := by decide +kernel
theorem dX5_ours_18 : decode cX5_ours 18 = .ok (.invokevirtual 45, 3) := by decide +kernel
theorem dX5_ours_21 : decode cX5_ours 21 = .ok (.iconst 1, 1) := by decide +kernel
theorem dX5_ours_22 : decode cX5_ours 22 = .ok (.if_icmp .ne 9, 3) := by decide +kernel
theorem dX5_ours_25 : decode cX5_ours 25 = .ok (.iconst 1, 1) := by decide +kernel
theorem dX5_ours_26 : decode cX5_ours 26 = .ok (.iload_n 2, 1) := by decide +kernel
theorem dX5_ours_27 : decode cX5_ours 27 = .ok (.ishl, 1) := by decide +kernel
theorem dX5_ours_28 : decode cX5_ours 28 = .ok (.goto 4, 3) := by decide +kernel
theorem dX5_ours_31 : decode cX5_ours 31 = .ok (.iconst 0, 1) := by decide +kernel
theorem dX5_ours_32 : decode cX5_ours 32 = .ok (.ior, 1) := by decide +kernel
theorem dX5_ours_33 : decode cX5_ours 33 = .ok (.istore_n 1, 1) := by decide +kernel
theorem dX5_ours_34 : decode cX5_ours 34 = .ok (.iinc 2 1, 3) := by decide +kernel
theorem dX5_ours_37 : decode cX5_ours 37 = .ok (.goto (-33), 3) := by decide +kernel
theorem dX5_ours_40 : decode cX5_ours 40 = .ok (.iload_n 1, 1) := by decide +kernel
theorem dX5_ours_41 : decode cX5_ours 41 = .ok (.ireturn, 1) := by decide +kernel
def mX5_ours_b32 (V : jMem) (k4 : Int32 → Int32 → Option Int32) (a2 : Int32) (s0 : Int32) (s1 : Int32) : Option Int32 := (k4 (s1 ||| s0) (a2 + (1 : Int32)))
set_option maxHeartbeats 4000000 in
set_option maxRecDepth 20000 in
theorem tX5_ours_b32 {l : Launch} {Z : jZ} {q : Nat → Nat} {V : jMem} {k4 : Int32 → Int32 → Option Int32} {a2 : Int32} {s0 : Int32} {s1 : Int32} {r : Int32}   (hk4 : ∀ (a1 : Int32) (a2 : Int32), k4 a1 a2 = some r → J l Z RX5 "ours" cX5_ours 3 (some .int) 1 0 0 (fun r' w => r' = some (.int r) ∧ w = jw Z q V dM) 4 [(0, .ref (q 0)), (1, .int a1), (2, .int a2)] [] (jw Z q V dM) 0 0) (hm : mX5_ours_b32 V k4 a2 s0 s1 = some r) : J l Z RX5 "ours" cX5_ours 3 (some .int) 1 0 0 (fun r' w => r' = some (.int r) ∧ w = jw Z q V dM) 32 [(0, .ref (q 0)), (2, .int a2)] [.int s0, .int s1] (jw Z q V dM) 0 0 := by
  unfold mX5_ours_b32 at hm
  refine j_ior dX5_ours_32 rfl ?_
  refine j_istore_n (i := 1) (L' := [(1, _), (0, _), (2, _)]) dX5_ours_33 rfl rfl (by decide) rfl ?_
  refine j_iinc (v := (a2 + (1 : Int32))) (L' := [(2, _), (1, _), (0, _)]) dX5_ours_34 rfl rfl rfl (by decide) rfl ?_
  refine j_goto (tgt := 4) dX5_ours_37 (by decide) ?_
  refine j_sub (L' := [(0, _), (1, _), (2, _)]) [2, 1, 0] rfl ?_
  exact hk4 _ _  hm
def mX5_ours_b4 (V : jMem)  : Nat → Int32 → Int32 → Option Int32
  | 0, _, _ => none
  | n + 1, a1, a2 => (if (V.1 1 0) ≤ a2 then (some a1) else ((mX5_has a2 (4 : Int32) V).bind (fun (r2 : Int32) => (if r2 = (1 : Int32) then (mX5_ours_b32 V (mX5_ours_b4 V n) a2 ((1 : Int32) <<< (a2 &&& (31 : Int32))) a1) else (mX5_ours_b32 V (mX5_ours_b4 V n) a2 (0 : Int32) a1)))))
set_option maxHeartbeats 4000000 in
set_option maxRecDepth 20000 in
theorem tX5_ours_b4 {l : Launch} {Z : jZ} {q : Nat → Nat} {V : jMem} {r : Int32}   (n : Nat) : ∀ (a1 : Int32) (a2 : Int32), mX5_ours_b4 V n a1 a2 = some r → J l Z RX5 "ours" cX5_ours 3 (some .int) 1 0 0 (fun r' w => r' = some (.int r) ∧ w = jw Z q V dM) 4 [(0, .ref (q 0)), (1, .int a1), (2, .int a2)] [] (jw Z q V dM) 0 0 := by
  induction n with
  | zero => intro a1 a2 hm; cases hm
  | succ n ih =>
    intro a1 a2 hm
    rw [mX5_ours_b4] at hm
    refine j_iload_n dX5_ours_4 rfl rfl ?_
    refine j_aload_n dX5_ours_5 rfl rfl ?_
    refine m_getr (k := 0) (r := 1) fX5_7 dX5_ours_6 rfl rfl rfl ?_
    refine j_iconst (v := 0) dX5_ours_9 rfl (by decide) ?_
    refine o_iald (k := 0) (by decide) dX5_ours_10 rfl rfl (jin_vp (by decide)) ?_
    refine j_icmp_ge (tgt := 40) dX5_ours_11 rfl (by decide) (fun c1 => ?_) (fun c1 => ?_)
    · have hm := jif_pos c1 hm
      refine j_iload_n dX5_ours_40 rfl rfl ?_
      exact j_ireturn dX5_ours_41 rfl rfl ⟨Nat.le_refl _, Nat.le_refl _⟩ (jf_p (fun z => .int z) hm)
    · have hm := jif_neg c1 hm
      refine j_iload_n dX5_ours_14 rfl rfl ?_
      refine j_aload_n dX5_ours_15 rfl rfl ?_
      refine j_iload_n dX5_ours_16 rfl rfl ?_
      refine j_iconst (v := 4) dX5_ours_17 rfl (by decide) ?_
      obtain ⟨r2, er2, hm⟩ := jb_of hm
      refine o_callV_i kX5_45 dX5_ours_18 rfl (tX5_has  er2) rfl rfl rfl rfl rfl (Nat.le_of_ble_eq_true rfl) (by decide) ?_
      refine j_iconst (v := 1) dX5_ours_21 rfl (by decide) ?_
      refine j_icmp_ne (tgt := 31) dX5_ours_22 rfl (by decide) (fun c3 => ?_) (fun c3 => ?_)
      · have hm := jif_neg c3 hm
        refine j_iconst (v := 0) dX5_ours_31 rfl (by decide) ?_
        refine j_sub (L' := [(0, _), (2, _)]) [0, 2] rfl ?_
        exact tX5_ours_b32   ih hm
      · have hm := jif_pos c3 hm
        refine j_iconst (v := 1) dX5_ours_25 rfl (by decide) ?_
        refine j_iload_n dX5_ours_26 rfl rfl ?_
        refine j_ishl dX5_ours_27 rfl ?_
        refine j_goto (tgt := 32) dX5_ours_28 (by decide) ?_
        refine j_sub (L' := [(0, _), (2, _)]) [0, 2] rfl ?_
        exact tX5_ours_b32   ih hm
def mX5_ours (V : jMem) : Option Int32 := (mX5_ours_b4 V 2000 (0 : Int32) (0 : Int32))
set_option maxHeartbeats 4000000 in
set_option maxRecDepth 20000 in
theorem tX5_ours {l : Launch} {Z : jZ} {q : Nat → Nat} {V : jMem} {r : Int32}  (hm : mX5_ours V = some r) : CtD l Z yX5_ours cX5_ours 3 (some .int) 1 q dM [.ref (q 0)] V (some (.int r)) V := by
  refine Ct_of (L := [(0, .ref (q 0))]) (own := RX5) (nm := "ours") rfl rfl (by decide +kernel) rfl (Nat.le_of_ble_eq_true rfl) ?_
  unfold mX5_ours at hm
  refine j_iconst (v := 0) dX5_ours_0 rfl (by decide) ?_
  refine j_istore_n (i := 1) (L' := [(1, _), (0, _)]) dX5_ours_1 rfl rfl (by decide) rfl ?_
  refine j_iconst (v := 0) dX5_ours_2 rfl (by decide) ?_
  refine j_istore_n (i := 2) (L' := [(2, _), (1, _), (0, _)]) dX5_ours_3 rfl rfl (by decide) rfl ?_
  refine j_sub (L' := [(0, _), (1, _), (2, _)]) [2, 1, 0] rfl ?_
  exact tX5_ours_b4   _ _ _  hm
theorem dX5_heardBy_0 : decode cX5_heardBy 0 = .ok (.iconst 0, 1) := by decide +kernel
theorem dX5_heardBy_1 : decode cX5_heardBy 1 = .ok (.istore_n 3, 1) := by decide +kernel
theorem dX5_heardBy_2 : decode cX5_heardBy 2 = .ok (.iconst 0, 1) := by decide +kernel
theorem dX5_heardBy_3 : decode cX5_heardBy 3 = .ok (.istore 4, 2) := by decide +kernel
theorem dX5_heardBy_5 : decode cX5_heardBy 5 = .ok (.iload 4, 2) := by decide +kernel
theorem dX5_heardBy_7 : decode cX5_heardBy 7 = .ok (.aload_n 0, 1) := by decide +kernel
theorem dX5_heardBy_8 : decode cX5_heardBy 8 = .ok (.getfield 7, 3) := by decide +kernel
theorem dX5_heardBy_11 : decode cX5_heardBy 11 = .ok (.iconst 0, 1) := by decide +kernel
theorem dX5_heardBy_12 : decode cX5_heardBy 12 = .ok (.iaload, 1) := by decide +kernel
theorem dX5_heardBy_13 : decode cX5_heardBy 13 = .ok (.if_icmp .ge 48, 3) := by decide +kernel
theorem dX5_heardBy_16 : decode cX5_heardBy 16 = .ok (.iload_n 3, 1) := by decide +kernel
theorem dX5_heardBy_17 : decode cX5_heardBy 17 = .ok (.iload 4, 2) := by decide +kernel
theorem dX5_heardBy_19 : decode cX5_heardBy 19 = .ok (.iload_n 1, 1) := by decide +kernel
theorem dX5_heardBy_20 : decode cX5_heardBy 20 = .ok (.if_icmp .eq 32, 3) := by decide +kernel
theorem dX5_heardBy_23 : decode cX5_heardBy 23 = .ok (.iload_n 2, 1) := by decide +kernel
theorem dX5_heardBy_24 : decode cX5_heardBy 24 = .ok (.iload 4, 2) := by decide +kernel
theorem dX5_heardBy_26 : decode cX5_heardBy 26 = .ok (.ishr, 1) := by decide +kernel
theorem dX5_heardBy_27 : decode cX5_heardBy 27 = .ok (.iconst 1, 1) := by decide +kernel
theorem dX5_heardBy_28 : decode cX5_heardBy 28 = .ok (.iand, 1) := by decide +kernel
theorem dX5_heardBy_29 : decode cX5_heardBy 29 = .ok (.iconst 1, 1) := by decide +kernel
theorem dX5_heardBy_30 : decode cX5_heardBy 30 = .ok (.if_icmp .ne 22, 3) := by decide +kernel
theorem dX5_heardBy_33 : decode cX5_heardBy 33 = .ok (.aload_n 0, 1) := by decide +kernel
theorem dX5_heardBy_34 : decode cX5_heardBy 34 = .ok (.iload 4, 2) := by decide +kernel
theorem dX5_heardBy_36 : decode cX5_heardBy 36 = .ok (.iconst 3, 1) := by decide +kernel
theorem dX5_heardBy_37 : decode cX5_heardBy 37 = .ok (.invokevirtual 45, 3) := by decide +kernel
theorem dX5_heardBy_40 : decode cX5_heardBy 40 = .ok (.iload_n 1, 1) := by decide +kernel
theorem dX5_heardBy_41 : decode cX5_heardBy 41 = .ok (.ishr, 1) := by decide +kernel
theorem dX5_heardBy_42 : decode cX5_heardBy 42 = .ok (.iconst 1, 1) := by decide +kernel
theorem dX5_heardBy_43 : decode cX5_heardBy 43 = .ok (.iand, 1) := by decide +kernel
theorem dX5_heardBy_44 : decode cX5_heardBy 44 = .ok (.iconst 1, 1) := by decide +kernel
theorem dX5_heardBy_45 : decode cX5_heardBy 45 = .ok (.if_icmp .ne 7, 3) := by decide +kernel
theorem dX5_heardBy_48 : decode cX5_heardBy 48 = .ok (.iconst 1, 1) := by decide +kernel
theorem dX5_heardBy_49 : decode cX5_heardBy 49 = .ok (.goto 4, 3) := by decide +kernel
theorem dX5_heardBy_52 : decode cX5_heardBy 52 = .ok (.iconst 0, 1) := by decide +kernel
theorem dX5_heardBy_53 : decode cX5_heardBy 53 = .ok (.iadd, 1) := by decide +kernel
theorem dX5_heardBy_54 : decode cX5_heardBy 54 = .ok (.istore_n 3, 1) := by decide +kernel
theorem dX5_heardBy_55 : decode cX5_heardBy 55 = .ok (.iinc 4 1, 3) := by decide +kernel
theorem dX5_heardBy_58 : decode cX5_heardBy 58 = .ok (.goto (-53), 3) := by decide +kernel
theorem dX5_heardBy_61 : decode cX5_heardBy 61 = .ok (.iload_n 3, 1) := by decide +kernel
theorem dX5_heardBy_62 : decode cX5_heardBy 62 = .ok (.ireturn, 1) := by decide +kernel
def mX5_heardBy_b53 (V : jMem) (k5 : Int32 → Int32 → Int32 → Int32 → Option Int32) (a1 : Int32) (a2 : Int32) (a4 : Int32) (s0 : Int32) (s1 : Int32) : Option Int32 := (k5 a1 a2 (s1 + s0) (a4 + (1 : Int32)))
set_option maxHeartbeats 4000000 in
set_option maxRecDepth 20000 in
theorem tX5_heardBy_b53 {l : Launch} {Z : jZ} {q : Nat → Nat} {V : jMem} {k5 : Int32 → Int32 → Int32 → Int32 → Option Int32} {a1 : Int32} {a2 : Int32} {a4 : Int32} {s0 : Int32} {s1 : Int32} {r : Int32}   (hk5 : ∀ (a1 : Int32) (a2 : Int32) (a3 : Int32) (a4 : Int32), k5 a1 a2 a3 a4 = some r → J l Z RX5 "heardBy" cX5_heardBy 5 (some .int) 1 0 0 (fun r' w => r' = some (.int r) ∧ w = jw Z q V dM) 5 [(0, .ref (q 0)), (1, .int a1), (2, .int a2), (3, .int a3), (4, .int a4)] [] (jw Z q V dM) 0 0) (hm : mX5_heardBy_b53 V k5 a1 a2 a4 s0 s1 = some r) : J l Z RX5 "heardBy" cX5_heardBy 5 (some .int) 1 0 0 (fun r' w => r' = some (.int r) ∧ w = jw Z q V dM) 53 [(0, .ref (q 0)), (1, .int a1), (2, .int a2), (4, .int a4)] [.int s0, .int s1] (jw Z q V dM) 0 0 := by
  unfold mX5_heardBy_b53 at hm
  refine j_iadd dX5_heardBy_53 rfl ?_
  refine j_istore_n (i := 3) (L' := [(3, _), (0, _), (1, _), (2, _), (4, _)]) dX5_heardBy_54 rfl rfl (by decide) rfl ?_
  refine j_iinc (v := (a4 + (1 : Int32))) (L' := [(4, _), (3, _), (0, _), (1, _), (2, _)]) dX5_heardBy_55 rfl rfl rfl (by decide) rfl ?_
  refine j_goto (tgt := 5) dX5_heardBy_58 (by decide) ?_
  refine j_sub (L' := [(0, _), (1, _), (2, _), (3, _), (4, _)]) [2, 3, 4, 1, 0] rfl ?_
  exact hk5 _ _ _ _  hm
def mX5_heardBy_b52 (V : jMem) (k5 : Int32 → Int32 → Int32 → Int32 → Option Int32) (a1 : Int32) (a2 : Int32) (a4 : Int32) (s0 : Int32) : Option Int32 := (mX5_heardBy_b53 V k5 a1 a2 a4 (0 : Int32) s0)
set_option maxHeartbeats 4000000 in
set_option maxRecDepth 20000 in
theorem tX5_heardBy_b52 {l : Launch} {Z : jZ} {q : Nat → Nat} {V : jMem} {k5 : Int32 → Int32 → Int32 → Int32 → Option Int32} {a1 : Int32} {a2 : Int32} {a4 : Int32} {s0 : Int32} {r : Int32}   (hk5 : ∀ (a1 : Int32) (a2 : Int32) (a3 : Int32) (a4 : Int32), k5 a1 a2 a3 a4 = some r → J l Z RX5 "heardBy" cX5_heardBy 5 (some .int) 1 0 0 (fun r' w => r' = some (.int r) ∧ w = jw Z q V dM) 5 [(0, .ref (q 0)), (1, .int a1), (2, .int a2), (3, .int a3), (4, .int a4)] [] (jw Z q V dM) 0 0) (hm : mX5_heardBy_b52 V k5 a1 a2 a4 s0 = some r) : J l Z RX5 "heardBy" cX5_heardBy 5 (some .int) 1 0 0 (fun r' w => r' = some (.int r) ∧ w = jw Z q V dM) 52 [(0, .ref (q 0)), (1, .int a1), (2, .int a2), (4, .int a4)] [.int s0] (jw Z q V dM) 0 0 := by
  unfold mX5_heardBy_b52 at hm
  refine j_iconst (v := 0) dX5_heardBy_52 rfl (by decide) ?_
  exact tX5_heardBy_b53   hk5 hm
def mX5_heardBy_b5 (V : jMem)  : Nat → Int32 → Int32 → Int32 → Int32 → Option Int32
  | 0, _, _, _, _ => none
  | n + 1, a1, a2, a3, a4 => (if (V.1 1 0) ≤ a4 then (some a3) else (if a4 = a1 then (mX5_heardBy_b52 V (mX5_heardBy_b5 V n) a1 a2 a4 a3) else (if ((a2 >>> (a4 &&& (31 : Int32))) &&& (1 : Int32)) = (1 : Int32) then ((mX5_has a4 (3 : Int32) V).bind (fun (r4 : Int32) => (if ((r4 >>> (a1 &&& (31 : Int32))) &&& (1 : Int32)) = (1 : Int32) then (mX5_heardBy_b53 V (mX5_heardBy_b5 V n) a1 a2 a4 (1 : Int32) a3) else (mX5_heardBy_b52 V (mX5_heardBy_b5 V n) a1 a2 a4 a3)))) else (mX5_heardBy_b52 V (mX5_heardBy_b5 V n) a1 a2 a4 a3))))
set_option maxHeartbeats 4000000 in
set_option maxRecDepth 20000 in
theorem tX5_heardBy_b5 {l : Launch} {Z : jZ} {q : Nat → Nat} {V : jMem} {r : Int32}   (n : Nat) : ∀ (a1 : Int32) (a2 : Int32) (a3 : Int32) (a4 : Int32), mX5_heardBy_b5 V n a1 a2 a3 a4 = some r → J l Z RX5 "heardBy" cX5_heardBy 5 (some .int) 1 0 0 (fun r' w => r' = some (.int r) ∧ w = jw Z q V dM) 5 [(0, .ref (q 0)), (1, .int a1), (2, .int a2), (3, .int a3), (4, .int a4)] [] (jw Z q V dM) 0 0 := by
  induction n with
  | zero => intro a1 a2 a3 a4 hm; cases hm
  | succ n ih =>
    intro a1 a2 a3 a4 hm
    rw [mX5_heardBy_b5] at hm
    refine j_iload dX5_heardBy_5 rfl rfl ?_
    refine j_aload_n dX5_heardBy_7 rfl rfl ?_
    refine m_getr (k := 0) (r := 1) fX5_7 dX5_heardBy_8 rfl rfl rfl ?_
    refine j_iconst (v := 0) dX5_heardBy_11 rfl (by decide) ?_
    refine o_iald (k := 0) (by decide) dX5_heardBy_12 rfl rfl (jin_vp (by decide)) ?_
    refine j_icmp_ge (tgt := 61) dX5_heardBy_13 rfl (by decide) (fun c1 => ?_) (fun c1 => ?_)
    · have hm := jif_pos c1 hm
      refine j_iload_n dX5_heardBy_61 rfl rfl ?_
      exact j_ireturn dX5_heardBy_62 rfl rfl ⟨Nat.le_refl _, Nat.le_refl _⟩ (jf_p (fun z => .int z) hm)
    · have hm := jif_neg c1 hm
      refine j_iload_n dX5_heardBy_16 rfl rfl ?_
      refine j_iload dX5_heardBy_17 rfl rfl ?_
      refine j_iload_n dX5_heardBy_19 rfl rfl ?_
      refine j_icmp_eq (tgt := 52) dX5_heardBy_20 rfl (by decide) (fun c2 => ?_) (fun c2 => ?_)
      · have hm := jif_pos c2 hm
        refine j_sub (L' := [(0, _), (1, _), (2, _), (4, _)]) [0, 1, 2, 4] rfl ?_
        exact tX5_heardBy_b52   ih hm
      · have hm := jif_neg c2 hm
        refine j_iload_n dX5_heardBy_23 rfl rfl ?_
        refine j_iload dX5_heardBy_24 rfl rfl ?_
        refine j_ishr dX5_heardBy_26 rfl ?_
        refine j_iconst (v := 1) dX5_heardBy_27 rfl (by decide) ?_
        refine j_iand dX5_heardBy_28 rfl ?_
        refine j_iconst (v := 1) dX5_heardBy_29 rfl (by decide) ?_
        refine j_icmp_ne (tgt := 52) dX5_heardBy_30 rfl (by decide) (fun c3 => ?_) (fun c3 => ?_)
        · have hm := jif_neg c3 hm
          refine j_sub (L' := [(0, _), (1, _), (2, _), (4, _)]) [0, 1, 2, 4] rfl ?_
          exact tX5_heardBy_b52   ih hm
        · have hm := jif_pos c3 hm
          refine j_aload_n dX5_heardBy_33 rfl rfl ?_
          refine j_iload dX5_heardBy_34 rfl rfl ?_
          refine j_iconst (v := 3) dX5_heardBy_36 rfl (by decide) ?_
          obtain ⟨r4, er4, hm⟩ := jb_of hm
          refine o_callV_i kX5_45 dX5_heardBy_37 rfl (tX5_has  er4) rfl rfl rfl rfl rfl (Nat.le_of_ble_eq_true rfl) (by decide) ?_
          refine j_iload_n dX5_heardBy_40 rfl rfl ?_
          refine j_ishr dX5_heardBy_41 rfl ?_
          refine j_iconst (v := 1) dX5_heardBy_42 rfl (by decide) ?_
          refine j_iand dX5_heardBy_43 rfl ?_
          refine j_iconst (v := 1) dX5_heardBy_44 rfl (by decide) ?_
          refine j_icmp_ne (tgt := 52) dX5_heardBy_45 rfl (by decide) (fun c5 => ?_) (fun c5 => ?_)
          · have hm := jif_neg c5 hm
            refine j_sub (L' := [(0, _), (1, _), (2, _), (4, _)]) [0, 1, 2, 4] rfl ?_
            exact tX5_heardBy_b52   ih hm
          · have hm := jif_pos c5 hm
            refine j_iconst (v := 1) dX5_heardBy_48 rfl (by decide) ?_
            refine j_goto (tgt := 53) dX5_heardBy_49 (by decide) ?_
            refine j_sub (L' := [(0, _), (1, _), (2, _), (4, _)]) [0, 1, 2, 4] rfl ?_
            exact tX5_heardBy_b53   ih hm
def mX5_heardBy (a1 : Int32) (a2 : Int32) (V : jMem) : Option Int32 := (mX5_heardBy_b5 V 2000 a1 a2 (0 : Int32) (0 : Int32))
set_option maxHeartbeats 4000000 in
set_option maxRecDepth 20000 in
theorem tX5_heardBy {l : Launch} {Z : jZ} {q : Nat → Nat} {a1 : Int32} {a2 : Int32} {V : jMem} {r : Int32}  (hm : mX5_heardBy a1 a2 V = some r) : CtD l Z yX5_heardBy cX5_heardBy 5 (some .int) 1 q dM [.ref (q 0), .int a1, .int a2] V (some (.int r)) V := by
  refine Ct_of (L := [(0, .ref (q 0)), (1, .int a1), (2, .int a2)]) (own := RX5) (nm := "heardBy") rfl rfl (by decide +kernel) rfl (Nat.le_of_ble_eq_true rfl) ?_
  unfold mX5_heardBy at hm
  refine j_iconst (v := 0) dX5_heardBy_0 rfl (by decide) ?_
  refine j_istore_n (i := 3) (L' := [(3, _), (0, _), (1, _), (2, _)]) dX5_heardBy_1 rfl rfl (by decide) rfl ?_
  refine j_iconst (v := 0) dX5_heardBy_2 rfl (by decide) ?_
  refine j_istore (L' := [(4, _), (3, _), (0, _), (1, _), (2, _)]) dX5_heardBy_3 rfl (by decide) rfl ?_
  refine j_sub (L' := [(0, _), (1, _), (2, _), (3, _), (4, _)]) [2, 3, 4, 1, 0] rfl ?_
  exact tX5_heardBy_b5   _ _ _ _ _  hm
theorem dX5_wareBy_0 : decode cX5_wareBy 0 = .ok (.aload_n 0, 1) := by decide +kernel
theorem dX5_wareBy_1 : decode cX5_wareBy 1 = .ok (.iload_n 1, 1) := by decide +kernel
theorem dX5_wareBy_2 : decode cX5_wareBy 2 = .ok (.iconst 2, 1) := by decide +kernel
theorem dX5_wareBy_3 : decode cX5_wareBy 3 = .ok (.invokevirtual 45, 3) := by decide +kernel
theorem dX5_wareBy_6 : decode cX5_wareBy 6 = .ok (.aload_n 0, 1) := by decide +kernel
theorem dX5_wareBy_7 : decode cX5_wareBy 7 = .ok (.iload_n 1, 1) := by decide +kernel
theorem dX5_wareBy_8 : decode cX5_wareBy 8 = .ok (.iload_n 2, 1) := by decide +kernel
theorem dX5_wareBy_9 : decode cX5_wareBy 9 = .ok (.invokevirtual 69, 3) := by decide +kernel
theorem dX5_wareBy_12 : decode cX5_wareBy 12 = .ok (.iadd, 1) := by decide +kernel
theorem dX5_wareBy_13 : decode cX5_wareBy 13 = .ok (.istore_n 3, 1) := by decide +kernel
theorem dX5_wareBy_14 : decode cX5_wareBy 14 = .ok (.iload_n 3, 1) := by decide +kernel
theorem dX5_wareBy_15 : decode cX5_wareBy 15 = .ok (.bipush 9, 2) := by decide +kernel
theorem dX5_wareBy_17 : decode cX5_wareBy 17 = .ok (.if_icmp .le 8, 3) := by decide +kernel
theorem dX5_wareBy_20 : decode cX5_wareBy 20 = .ok (.bipush 9, 2) := by decide +kernel
theorem dX5_wareBy_22 : decode cX5_wareBy 22 = .ok (.goto 4, 3) := by decide +kernel
theorem dX5_wareBy_25 : decode cX5_wareBy 25 = .ok (.iload_n 3, 1) := by decide +kernel
theorem dX5_wareBy_26 : decode cX5_wareBy 26 = .ok (.ireturn, 1) := by decide +kernel
def mX5_wareBy (a1 : Int32) (a2 : Int32) (V : jMem) : Option Int32 := ((mX5_has a1 (2 : Int32) V).bind (fun (r1 : Int32) => ((mX5_heardBy a1 a2 V).bind (fun (r2 : Int32) => (if (r1 + r2) ≤ (9 : Int32) then (some (r1 + r2)) else (some (9 : Int32)))))))
set_option maxHeartbeats 4000000 in
set_option maxRecDepth 20000 in
theorem tX5_wareBy {l : Launch} {Z : jZ} {q : Nat → Nat} {a1 : Int32} {a2 : Int32} {V : jMem} {r : Int32}  (hm : mX5_wareBy a1 a2 V = some r) : CtD l Z yX5_wareBy cX5_wareBy 4 (some .int) 2 q dM [.ref (q 0), .int a1, .int a2] V (some (.int r)) V := by
  refine Ct_of (L := [(0, .ref (q 0)), (1, .int a1), (2, .int a2)]) (own := RX5) (nm := "wareBy") rfl rfl (by decide +kernel) rfl (Nat.le_of_ble_eq_true rfl) ?_
  unfold mX5_wareBy at hm
  refine j_aload_n dX5_wareBy_0 rfl rfl ?_
  refine j_iload_n dX5_wareBy_1 rfl rfl ?_
  refine j_iconst (v := 2) dX5_wareBy_2 rfl (by decide) ?_
  obtain ⟨r1, er1, hm⟩ := jb_of hm
  refine o_callV_i kX5_45 dX5_wareBy_3 rfl (tX5_has  er1) rfl rfl rfl rfl rfl (Nat.le_of_ble_eq_true rfl) (by decide) ?_
  refine j_aload_n dX5_wareBy_6 rfl rfl ?_
  refine j_iload_n dX5_wareBy_7 rfl rfl ?_
  refine j_iload_n dX5_wareBy_8 rfl rfl ?_
  obtain ⟨r2, er2, hm⟩ := jb_of hm
  refine o_callV_i kX5_69 dX5_wareBy_9 rfl (tX5_heardBy  er2) rfl rfl rfl rfl rfl (Nat.le_of_ble_eq_true rfl) (by decide) ?_
  refine j_iadd dX5_wareBy_12 rfl ?_
  refine j_istore_n (i := 3) (L' := [(3, _), (0, _), (1, _), (2, _)]) dX5_wareBy_13 rfl rfl (by decide) rfl ?_
  refine j_iload_n dX5_wareBy_14 rfl rfl ?_
  refine j_bipush (v := 9) dX5_wareBy_15 rfl (by decide) ?_
  refine j_icmp_le (tgt := 25) dX5_wareBy_17 rfl (by decide) (fun c3 => ?_) (fun c3 => ?_)
  · have hm := jif_pos c3 hm
    refine j_iload_n dX5_wareBy_25 rfl rfl ?_
    exact j_ireturn dX5_wareBy_26 rfl rfl ⟨Nat.le_refl _, Nat.le_refl _⟩ (jf_p (fun z => .int z) hm)
  · have hm := jif_neg c3 hm
    refine j_bipush (v := 9) dX5_wareBy_20 rfl (by decide) ?_
    refine j_goto (tgt := 26) dX5_wareBy_22 (by decide) ?_
    exact j_ireturn dX5_wareBy_26 rfl rfl ⟨Nat.le_refl _, Nat.le_refl _⟩ (jf_p (fun z => .int z) hm)
theorem dX5_asksBy_0 : decode cX5_asksBy 0 = .ok (.aload_n 0, 1) := by decide +kernel
theorem dX5_asksBy_1 : decode cX5_asksBy 1 = .ok (.iload_n 1, 1) := by decide +kernel
theorem dX5_asksBy_2 : decode cX5_asksBy 2 = .ok (.iconst 1, 1) := by decide +kernel
theorem dX5_asksBy_3 : decode cX5_asksBy 3 = .ok (.invokevirtual 45, 3) := by decide +kernel
theorem dX5_asksBy_6 : decode cX5_asksBy 6 = .ok (.istore_n 3, 1) := by decide +kernel
theorem dX5_asksBy_7 : decode cX5_asksBy 7 = .ok (.aload_n 0, 1) := by decide +kernel
theorem dX5_asksBy_8 : decode cX5_asksBy 8 = .ok (.iload_n 1, 1) := by decide +kernel
theorem dX5_asksBy_9 : decode cX5_asksBy 9 = .ok (.iload_n 2, 1) := by decide +kernel
theorem dX5_asksBy_10 : decode cX5_asksBy 10 = .ok (.invokevirtual 69, 3) := by decide +kernel
theorem dX5_asksBy_13 : decode cX5_asksBy 13 = .ok (.istore 4, 2) := by decide +kernel
theorem dX5_asksBy_15 : decode cX5_asksBy 15 = .ok (.aload_n 0, 1) := by decide +kernel
theorem dX5_asksBy_16 : decode cX5_asksBy 16 = .ok (.iload_n 1, 1) := by decide +kernel
theorem dX5_asksBy_17 : decode cX5_asksBy 17 = .ok (.iload_n 2, 1) := by decide +kernel
theorem dX5_asksBy_18 : decode cX5_asksBy 18 = .ok (.invokevirtual 72, 3) := by decide +kernel
theorem dX5_asksBy_21 : decode cX5_asksBy 21 = .ok (.istore 5, 2) := by decide +kernel
theorem dX5_asksBy_23 : decode cX5_asksBy 23 = .ok (.iload_n 3, 1) := by decide +kernel
theorem dX5_asksBy_24 : decode cX5_asksBy 24 = .ok (.iload_n 3, 1) := by decide +kernel
theorem dX5_asksBy_25 : decode cX5_asksBy 25 = .ok (.iload 5, 2) := by decide +kernel
theorem dX5_asksBy_27 : decode cX5_asksBy 27 = .ok (.imul, 1) := by decide +kernel
theorem dX5_asksBy_28 : decode cX5_asksBy 28 = .ok (.bipush 10, 2) := by decide +kernel
theorem dX5_asksBy_30 : decode cX5_asksBy 30 = .ok (.idiv, 1) := by decide +kernel
theorem dX5_asksBy_31 : decode cX5_asksBy 31 = .ok (.iadd, 1) := by decide +kernel
theorem dX5_asksBy_32 : decode cX5_asksBy 32 = .ok (.istore 6, 2) := by decide +kernel
theorem dX5_asksBy_34 : decode cX5_asksBy 34 = .ok (.iload 6, 2) := by decide +kernel
theorem dX5_asksBy_36 : decode cX5_asksBy 36 = .ok (.iload 5, 2) := by decide +kernel
theorem dX5_asksBy_38 : decode cX5_asksBy 38 = .ok (.iconst 5, 1) := by decide +kernel
theorem dX5_asksBy_39 : decode cX5_asksBy 39 = .ok (.if_icmp .lt 7, 3) := by decide +kernel
theorem dX5_asksBy_42 : decode cX5_asksBy 42 = .ok (.iload_n 3, 1) := by decide +kernel
theorem dX5_asksBy_43 : decode cX5_asksBy 43 = .ok (.goto 4, 3) := by decide +kernel
theorem dX5_asksBy_46 : decode cX5_asksBy 46 = .ok (.iconst 0, 1) := by decide +kernel
theorem dX5_asksBy_47 : decode cX5_asksBy 47 = .ok (.iadd, 1) := by decide +kernel
theorem dX5_asksBy_48 : decode cX5_asksBy 48 = .ok (.istore 7, 2) := by decide +kernel
theorem dX5_asksBy_50 : decode cX5_asksBy 50 = .ok (.iconst 2, 1) := by decide +kernel
theorem dX5_asksBy_51 : decode cX5_asksBy 51 = .ok (.iload 5, 2) := by decide +kernel
theorem dX5_asksBy_53 : decode cX5_asksBy 53 = .ok (.imul, 1) := by decide +kernel
theorem dX5_asksBy_54 : decode cX5_asksBy 54 = .ok (.bipush 9, 2) := by decide +kernel
theorem dX5_asksBy_56 : decode cX5_asksBy 56 = .ok (.if_icmp .le 8, 3) := by decide +kernel
theorem dX5_asksBy_59 : decode cX5_asksBy 59 = .ok (.bipush 9, 2) := by decide +kernel
theorem dX5_asksBy_61 : decode cX5_asksBy 61 = .ok (.goto 7, 3) := by decide +kernel
theorem dX5_asksBy_64 : decode cX5_asksBy 64 = .ok (.iconst 2, 1) := by decide +kernel
theorem dX5_asksBy_65 : decode cX5_asksBy 65 = .ok (.iload 5, 2) := by decide +kernel
theorem dX5_asksBy_67 : decode cX5_asksBy 67 = .ok (.imul, 1) := by decide +kernel
theorem dX5_asksBy_68 : decode cX5_asksBy 68 = .ok (.istore 8, 2) := by decide +kernel
theorem dX5_asksBy_70 : decode cX5_asksBy 70 = .ok (.aload_n 0, 1) := by decide +kernel
theorem dX5_asksBy_71 : decode cX5_asksBy 71 = .ok (.iload_n 1, 1) := by decide +kernel
theorem dX5_asksBy_72 : decode cX5_asksBy 72 = .ok (.iconst 0, 1) := by decide +kernel
theorem dX5_asksBy_73 : decode cX5_asksBy 73 = .ok (.invokevirtual 45, 3) := by decide +kernel
theorem dX5_asksBy_76 : decode cX5_asksBy 76 = .ok (.tableswitch 80 1 5 #[36, 46, 49, 57, 65], 36) := by decide +kernel
theorem dX5_asksBy_112 : decode cX5_asksBy 112 = .ok (.iload 6, 2) := by decide +kernel
theorem dX5_asksBy_114 : decode cX5_asksBy 114 = .ok (.iload 6, 2) := by decide +kernel
theorem dX5_asksBy_116 : decode cX5_asksBy 116 = .ok (.iload_n 3, 1) := by decide +kernel
theorem dX5_asksBy_117 : decode cX5_asksBy 117 = .ok (.isub, 1) := by decide +kernel
theorem dX5_asksBy_118 : decode cX5_asksBy 118 = .ok (.iconst 2, 1) := by decide +kernel
theorem dX5_asksBy_119 : decode cX5_asksBy 119 = .ok (.idiv, 1) := by decide +kernel
theorem dX5_asksBy_120 : decode cX5_asksBy 120 = .ok (.isub, 1) := by decide +kernel
theorem dX5_asksBy_121 : decode cX5_asksBy 121 = .ok (.ireturn, 1) := by decide +kernel
theorem dX5_asksBy_122 : decode cX5_asksBy 122 = .ok (.iload 7, 2) := by decide +kernel
theorem dX5_asksBy_124 : decode cX5_asksBy 124 = .ok (.ireturn, 1) := by decide +kernel
theorem dX5_asksBy_125 : decode cX5_asksBy 125 = .ok (.iload 6, 2) := by decide +kernel
theorem dX5_asksBy_127 : decode cX5_asksBy 127 = .ok (.iconst 5, 1) := by decide +kernel
theorem dX5_asksBy_128 : decode cX5_asksBy 128 = .ok (.iload 4, 2) := by decide +kernel
theorem dX5_asksBy_130 : decode cX5_asksBy 130 = .ok (.imul, 1) := by decide +kernel
theorem dX5_asksBy_131 : decode cX5_asksBy 131 = .ok (.iadd, 1) := by decide +kernel
theorem dX5_asksBy_132 : decode cX5_asksBy 132 = .ok (.ireturn, 1) := by decide +kernel
theorem dX5_asksBy_133 : decode cX5_asksBy 133 = .ok (.iload 7, 2) := by decide +kernel
theorem dX5_asksBy_135 : decode cX5_asksBy 135 = .ok (.iload 7, 2) := by decide +kernel
theorem dX5_asksBy_137 : decode cX5_asksBy 137 = .ok (.iconst 2, 1) := by decide +kernel
theorem dX5_asksBy_138 : decode cX5_asksBy 138 = .ok (.idiv, 1) := by decide +kernel
theorem dX5_asksBy_139 : decode cX5_asksBy 139 = .ok (.iadd, 1) := by decide +kernel
theorem dX5_asksBy_140 : decode cX5_asksBy 140 = .ok (.ireturn, 1) := by decide +kernel
theorem dX5_asksBy_141 : decode cX5_asksBy 141 = .ok (.iload_n 3, 1) := by decide +kernel
theorem dX5_asksBy_142 : decode cX5_asksBy 142 = .ok (.iload_n 3, 1) := by decide +kernel
theorem dX5_asksBy_143 : decode cX5_asksBy 143 = .ok (.iload 8, 2) := by decide +kernel
theorem dX5_asksBy_145 : decode cX5_asksBy 145 = .ok (.imul, 1) := by decide +kernel
theorem dX5_asksBy_146 : decode cX5_asksBy 146 = .ok (.bipush 10, 2) := by decide +kernel
theorem dX5_asksBy_148 : decode cX5_asksBy 148 = .ok (.idiv, 1) := by decide +kernel
theorem dX5_asksBy_149 : decode cX5_asksBy 149 = .ok (.iadd, 1) := by decide +kernel
theorem dX5_asksBy_150 : decode cX5_asksBy 150 = .ok (.iconst 5, 1) := by decide +kernel
theorem dX5_asksBy_151 : decode cX5_asksBy 151 = .ok (.iload 4, 2) := by decide +kernel
theorem dX5_asksBy_153 : decode cX5_asksBy 153 = .ok (.imul, 1) := by decide +kernel
theorem dX5_asksBy_154 : decode cX5_asksBy 154 = .ok (.iadd, 1) := by decide +kernel
theorem dX5_asksBy_155 : decode cX5_asksBy 155 = .ok (.ireturn, 1) := by decide +kernel
theorem dX5_asksBy_156 : decode cX5_asksBy 156 = .ok (.iload 6, 2) := by decide +kernel
theorem dX5_asksBy_158 : decode cX5_asksBy 158 = .ok (.ireturn, 1) := by decide +kernel
def mX5_asksBy_b68 (V : jMem)  (a1 : Int32) (a3 : Int32) (a4 : Int32) (a6 : Int32) (a7 : Int32) (s0 : Int32) : Option Int32 := ((mX5_has a1 (0 : Int32) V).bind (fun (r1 : Int32) => (if r1 = (1 : Int32) then (some (a6 - ((a6 - a3) / (2 : Int32)))) else (if r1 = (2 : Int32) then (some a7) else (if r1 = (3 : Int32) then (some (a6 + ((5 : Int32) * a4))) else (if r1 = (4 : Int32) then (some (a7 + (a7 / (2 : Int32)))) else (if r1 = (5 : Int32) then (some ((a3 + ((a3 * s0) / (10 : Int32))) + ((5 : Int32) * a4))) else (some a6))))))))
set_option maxHeartbeats 4000000 in
set_option maxRecDepth 20000 in
theorem tX5_asksBy_b68 {l : Launch} {Z : jZ} {q : Nat → Nat} {V : jMem} {a1 : Int32} {a3 : Int32} {a4 : Int32} {a6 : Int32} {a7 : Int32} {s0 : Int32} {r : Int32}    (hm : mX5_asksBy_b68 V a1 a3 a4 a6 a7 s0 = some r) : J l Z RX5 "asksBy" cX5_asksBy 9 (some .int) 3 0 0 (fun r' w => r' = some (.int r) ∧ w = jw Z q V dM) 68 [(0, .ref (q 0)), (1, .int a1), (3, .int a3), (4, .int a4), (6, .int a6), (7, .int a7)] [.int s0] (jw Z q V dM) 0 0 := by
  unfold mX5_asksBy_b68 at hm
  refine j_istore (L' := [(8, _), (0, _), (1, _), (3, _), (4, _), (6, _), (7, _)]) dX5_asksBy_68 rfl (by decide) rfl ?_
  refine j_aload_n dX5_asksBy_70 rfl rfl ?_
  refine j_iload_n dX5_asksBy_71 rfl rfl ?_
  refine j_iconst (v := 0) dX5_asksBy_72 rfl (by decide) ?_
  obtain ⟨r1, er1, hm⟩ := jb_of hm
  refine o_callV_i kX5_45 dX5_asksBy_73 rfl (tX5_has  er1) rfl rfl rfl rfl rfl (Nat.le_of_ble_eq_true rfl) (by decide) ?_
  by_cases c2 : r1 = (1 : Int32)
  · have hm := jif_pos c2 hm
    refine j_ts_in (z := 1) (off := 36) (tgt := 112) dX5_asksBy_76 (j_ts_lit c2 (by decide)) (by decide) (by decide) rfl (by decide) ?_
    refine j_iload dX5_asksBy_112 rfl rfl ?_
    refine j_iload dX5_asksBy_114 rfl rfl ?_
    refine j_iload_n dX5_asksBy_116 rfl rfl ?_
    refine j_isub dX5_asksBy_117 rfl ?_
    refine j_iconst (v := 2) dX5_asksBy_118 rfl (by decide) ?_
    refine j_idiv dX5_asksBy_119 rfl (by decide) ?_
    refine j_isub dX5_asksBy_120 rfl ?_
    exact j_ireturn dX5_asksBy_121 rfl rfl ⟨Nat.le_refl _, Nat.le_refl _⟩ (jf_p (fun z => .int z) hm)
  have hm := jif_neg c2 hm
  by_cases c3 : r1 = (2 : Int32)
  · have hm := jif_pos c3 hm
    refine j_ts_in (z := 2) (off := 46) (tgt := 122) dX5_asksBy_76 (j_ts_lit c3 (by decide)) (by decide) (by decide) rfl (by decide) ?_
    refine j_iload dX5_asksBy_122 rfl rfl ?_
    exact j_ireturn dX5_asksBy_124 rfl rfl ⟨Nat.le_refl _, Nat.le_refl _⟩ (jf_p (fun z => .int z) hm)
  have hm := jif_neg c3 hm
  by_cases c4 : r1 = (3 : Int32)
  · have hm := jif_pos c4 hm
    refine j_ts_in (z := 3) (off := 49) (tgt := 125) dX5_asksBy_76 (j_ts_lit c4 (by decide)) (by decide) (by decide) rfl (by decide) ?_
    refine j_iload dX5_asksBy_125 rfl rfl ?_
    refine j_iconst (v := 5) dX5_asksBy_127 rfl (by decide) ?_
    refine j_iload dX5_asksBy_128 rfl rfl ?_
    refine j_imul dX5_asksBy_130 rfl ?_
    refine j_iadd dX5_asksBy_131 rfl ?_
    exact j_ireturn dX5_asksBy_132 rfl rfl ⟨Nat.le_refl _, Nat.le_refl _⟩ (jf_p (fun z => .int z) hm)
  have hm := jif_neg c4 hm
  by_cases c5 : r1 = (4 : Int32)
  · have hm := jif_pos c5 hm
    refine j_ts_in (z := 4) (off := 57) (tgt := 133) dX5_asksBy_76 (j_ts_lit c5 (by decide)) (by decide) (by decide) rfl (by decide) ?_
    refine j_iload dX5_asksBy_133 rfl rfl ?_
    refine j_iload dX5_asksBy_135 rfl rfl ?_
    refine j_iconst (v := 2) dX5_asksBy_137 rfl (by decide) ?_
    refine j_idiv dX5_asksBy_138 rfl (by decide) ?_
    refine j_iadd dX5_asksBy_139 rfl ?_
    exact j_ireturn dX5_asksBy_140 rfl rfl ⟨Nat.le_refl _, Nat.le_refl _⟩ (jf_p (fun z => .int z) hm)
  have hm := jif_neg c5 hm
  by_cases c6 : r1 = (5 : Int32)
  · have hm := jif_pos c6 hm
    refine j_ts_in (z := 5) (off := 65) (tgt := 141) dX5_asksBy_76 (j_ts_lit c6 (by decide)) (by decide) (by decide) rfl (by decide) ?_
    refine j_iload_n dX5_asksBy_141 rfl rfl ?_
    refine j_iload_n dX5_asksBy_142 rfl rfl ?_
    refine j_iload dX5_asksBy_143 rfl rfl ?_
    refine j_imul dX5_asksBy_145 rfl ?_
    refine j_bipush (v := 10) dX5_asksBy_146 rfl (by decide) ?_
    refine j_idiv dX5_asksBy_148 rfl (by decide) ?_
    refine j_iadd dX5_asksBy_149 rfl ?_
    refine j_iconst (v := 5) dX5_asksBy_150 rfl (by decide) ?_
    refine j_iload dX5_asksBy_151 rfl rfl ?_
    refine j_imul dX5_asksBy_153 rfl ?_
    refine j_iadd dX5_asksBy_154 rfl ?_
    exact j_ireturn dX5_asksBy_155 rfl rfl ⟨Nat.le_refl _, Nat.le_refl _⟩ (jf_p (fun z => .int z) hm)
  have hm := jif_neg c6 hm
  refine j_ts_out (tgt := 156) dX5_asksBy_76 (by have := j_ts_ne (k := 1) c2 (by decide); have := j_ts_ne (k := 2) c3 (by decide); have := j_ts_ne (k := 3) c4 (by decide); have := j_ts_ne (k := 4) c5 (by decide); have := j_ts_ne (k := 5) c6 (by decide); omega) (by decide) ?_
  refine j_iload dX5_asksBy_156 rfl rfl ?_
  exact j_ireturn dX5_asksBy_158 rfl rfl ⟨Nat.le_refl _, Nat.le_refl _⟩ (jf_p (fun z => .int z) hm)
def mX5_asksBy_b47 (V : jMem)  (a1 : Int32) (a3 : Int32) (a4 : Int32) (a5 : Int32) (a6 : Int32) (s0 : Int32) (s1 : Int32) : Option Int32 := (if ((2 : Int32) * a5) ≤ (9 : Int32) then (mX5_asksBy_b68 V a1 a3 a4 a6 (s1 + s0) ((2 : Int32) * a5)) else (mX5_asksBy_b68 V a1 a3 a4 a6 (s1 + s0) (9 : Int32)))
set_option maxHeartbeats 4000000 in
set_option maxRecDepth 20000 in
theorem tX5_asksBy_b47 {l : Launch} {Z : jZ} {q : Nat → Nat} {V : jMem} {a1 : Int32} {a3 : Int32} {a4 : Int32} {a5 : Int32} {a6 : Int32} {s0 : Int32} {s1 : Int32} {r : Int32}    (hm : mX5_asksBy_b47 V a1 a3 a4 a5 a6 s0 s1 = some r) : J l Z RX5 "asksBy" cX5_asksBy 9 (some .int) 3 0 0 (fun r' w => r' = some (.int r) ∧ w = jw Z q V dM) 47 [(0, .ref (q 0)), (1, .int a1), (3, .int a3), (4, .int a4), (5, .int a5), (6, .int a6)] [.int s0, .int s1] (jw Z q V dM) 0 0 := by
  unfold mX5_asksBy_b47 at hm
  refine j_iadd dX5_asksBy_47 rfl ?_
  refine j_istore (L' := [(7, _), (0, _), (1, _), (3, _), (4, _), (5, _), (6, _)]) dX5_asksBy_48 rfl (by decide) rfl ?_
  refine j_iconst (v := 2) dX5_asksBy_50 rfl (by decide) ?_
  refine j_iload dX5_asksBy_51 rfl rfl ?_
  refine j_imul dX5_asksBy_53 rfl ?_
  refine j_bipush (v := 9) dX5_asksBy_54 rfl (by decide) ?_
  refine j_icmp_le (tgt := 64) dX5_asksBy_56 rfl (by decide) (fun c1 => ?_) (fun c1 => ?_)
  · have hm := jif_pos c1 hm
    refine j_iconst (v := 2) dX5_asksBy_64 rfl (by decide) ?_
    refine j_iload dX5_asksBy_65 rfl rfl ?_
    refine j_imul dX5_asksBy_67 rfl ?_
    refine j_sub (L' := [(0, _), (1, _), (3, _), (4, _), (6, _), (7, _)]) [1, 2, 3, 4, 6, 0] rfl ?_
    exact tX5_asksBy_b68    hm
  · have hm := jif_neg c1 hm
    refine j_bipush (v := 9) dX5_asksBy_59 rfl (by decide) ?_
    refine j_goto (tgt := 68) dX5_asksBy_61 (by decide) ?_
    refine j_sub (L' := [(0, _), (1, _), (3, _), (4, _), (6, _), (7, _)]) [1, 2, 3, 4, 6, 0] rfl ?_
    exact tX5_asksBy_b68    hm
def mX5_asksBy (a1 : Int32) (a2 : Int32) (V : jMem) : Option Int32 := ((mX5_has a1 (1 : Int32) V).bind (fun (r1 : Int32) => ((mX5_heardBy a1 a2 V).bind (fun (r2 : Int32) => ((mX5_wareBy a1 a2 V).bind (fun (r3 : Int32) => (if r3 < (5 : Int32) then (mX5_asksBy_b47 V a1 r1 r2 r3 (r1 + ((r1 * r3) / (10 : Int32))) (0 : Int32) (r1 + ((r1 * r3) / (10 : Int32)))) else (mX5_asksBy_b47 V a1 r1 r2 r3 (r1 + ((r1 * r3) / (10 : Int32))) r1 (r1 + ((r1 * r3) / (10 : Int32)))))))))))
set_option maxHeartbeats 4000000 in
set_option maxRecDepth 20000 in
theorem tX5_asksBy {l : Launch} {Z : jZ} {q : Nat → Nat} {a1 : Int32} {a2 : Int32} {V : jMem} {r : Int32}  (hm : mX5_asksBy a1 a2 V = some r) : CtD l Z yX5_asksBy cX5_asksBy 9 (some .int) 3 q dM [.ref (q 0), .int a1, .int a2] V (some (.int r)) V := by
  refine Ct_of (L := [(0, .ref (q 0)), (1, .int a1), (2, .int a2)]) (own := RX5) (nm := "asksBy") rfl rfl (by decide +kernel) rfl (Nat.le_of_ble_eq_true rfl) ?_
  unfold mX5_asksBy at hm
  refine j_aload_n dX5_asksBy_0 rfl rfl ?_
  refine j_iload_n dX5_asksBy_1 rfl rfl ?_
  refine j_iconst (v := 1) dX5_asksBy_2 rfl (by decide) ?_
  obtain ⟨r1, er1, hm⟩ := jb_of hm
  refine o_callV_i kX5_45 dX5_asksBy_3 rfl (tX5_has  er1) rfl rfl rfl rfl rfl (Nat.le_of_ble_eq_true rfl) (by decide) ?_
  refine j_istore_n (i := 3) (L' := [(3, _), (0, _), (1, _), (2, _)]) dX5_asksBy_6 rfl rfl (by decide) rfl ?_
  refine j_aload_n dX5_asksBy_7 rfl rfl ?_
  refine j_iload_n dX5_asksBy_8 rfl rfl ?_
  refine j_iload_n dX5_asksBy_9 rfl rfl ?_
  obtain ⟨r2, er2, hm⟩ := jb_of hm
  refine o_callV_i kX5_69 dX5_asksBy_10 rfl (tX5_heardBy  er2) rfl rfl rfl rfl rfl (Nat.le_of_ble_eq_true rfl) (by decide) ?_
  refine j_istore (L' := [(4, _), (3, _), (0, _), (1, _), (2, _)]) dX5_asksBy_13 rfl (by decide) rfl ?_
  refine j_aload_n dX5_asksBy_15 rfl rfl ?_
  refine j_iload_n dX5_asksBy_16 rfl rfl ?_
  refine j_iload_n dX5_asksBy_17 rfl rfl ?_
  obtain ⟨r3, er3, hm⟩ := jb_of hm
  refine o_callV_i kX5_72 dX5_asksBy_18 rfl (tX5_wareBy  er3) rfl rfl rfl rfl rfl (Nat.le_of_ble_eq_true rfl) (by decide) ?_
  refine j_istore (L' := [(5, _), (4, _), (3, _), (0, _), (1, _), (2, _)]) dX5_asksBy_21 rfl (by decide) rfl ?_
  refine j_iload_n dX5_asksBy_23 rfl rfl ?_
  refine j_iload_n dX5_asksBy_24 rfl rfl ?_
  refine j_iload dX5_asksBy_25 rfl rfl ?_
  refine j_imul dX5_asksBy_27 rfl ?_
  refine j_bipush (v := 10) dX5_asksBy_28 rfl (by decide) ?_
  refine j_idiv dX5_asksBy_30 rfl (by decide) ?_
  refine j_iadd dX5_asksBy_31 rfl ?_
  refine j_istore (L' := [(6, _), (5, _), (4, _), (3, _), (0, _), (1, _), (2, _)]) dX5_asksBy_32 rfl (by decide) rfl ?_
  refine j_iload dX5_asksBy_34 rfl rfl ?_
  refine j_iload dX5_asksBy_36 rfl rfl ?_
  refine j_iconst (v := 5) dX5_asksBy_38 rfl (by decide) ?_
  refine j_icmp_lt (tgt := 46) dX5_asksBy_39 rfl (by decide) (fun c4 => ?_) (fun c4 => ?_)
  · have hm := jif_pos c4 hm
    refine j_iconst (v := 0) dX5_asksBy_46 rfl (by decide) ?_
    refine j_sub (L' := [(0, _), (1, _), (3, _), (4, _), (5, _), (6, _)]) [4, 5, 3, 2, 1, 0] rfl ?_
    exact tX5_asksBy_b47    hm
  · have hm := jif_neg c4 hm
    refine j_iload_n dX5_asksBy_42 rfl rfl ?_
    refine j_goto (tgt := 47) dX5_asksBy_43 (by decide) ?_
    refine j_sub (L' := [(0, _), (1, _), (3, _), (4, _), (5, _), (6, _)]) [4, 5, 3, 2, 1, 0] rfl ?_
    exact tX5_asksBy_b47    hm
theorem dX5_asksNow_0 : decode cX5_asksNow 0 = .ok (.aload_n 0, 1) := by decide +kernel
theorem dX5_asksNow_1 : decode cX5_asksNow 1 = .ok (.iload_n 1, 1) := by decide +kernel
theorem dX5_asksNow_2 : decode cX5_asksNow 2 = .ok (.aload_n 0, 1) := by decide +kernel
theorem dX5_asksNow_3 : decode cX5_asksNow 3 = .ok (.invokevirtual 75, 3) := by decide +kernel
theorem dX5_asksNow_6 : decode cX5_asksNow 6 = .ok (.invokevirtual 79, 3) := by decide +kernel
theorem dX5_asksNow_9 : decode cX5_asksNow 9 = .ok (.ireturn, 1) := by decide +kernel
def mX5_asksNow (a1 : Int32) (V : jMem) : Option Int32 := ((mX5_ours V).bind (fun (r1 : Int32) => ((mX5_asksBy a1 r1 V).bind (fun (r2 : Int32) => (some r2)))))
set_option maxHeartbeats 4000000 in
set_option maxRecDepth 20000 in
theorem tX5_asksNow {l : Launch} {Z : jZ} {q : Nat → Nat} {a1 : Int32} {V : jMem} {r : Int32}  (hm : mX5_asksNow a1 V = some r) : CtD l Z yX5_asksNow cX5_asksNow 2 (some .int) 4 q dM [.ref (q 0), .int a1] V (some (.int r)) V := by
  refine Ct_of (L := [(0, .ref (q 0)), (1, .int a1)]) (own := RX5) (nm := "asksNow") rfl rfl (by decide +kernel) rfl (Nat.le_of_ble_eq_true rfl) ?_
  unfold mX5_asksNow at hm
  refine j_aload_n dX5_asksNow_0 rfl rfl ?_
  refine j_iload_n dX5_asksNow_1 rfl rfl ?_
  refine j_aload_n dX5_asksNow_2 rfl rfl ?_
  obtain ⟨r1, er1, hm⟩ := jb_of hm
  refine o_callV_i kX5_75 dX5_asksNow_3 rfl (tX5_ours  er1) rfl rfl rfl rfl rfl (Nat.le_of_ble_eq_true rfl) (by decide) ?_
  obtain ⟨r2, er2, hm⟩ := jb_of hm
  refine o_callV_i kX5_79 dX5_asksNow_6 rfl (tX5_asksBy  er2) rfl rfl rfl rfl rfl (Nat.le_of_ble_eq_true rfl) (by decide) ?_
  exact j_ireturn dX5_asksNow_9 rfl rfl ⟨Nat.le_refl _, Nat.le_refl _⟩ (jf_p (fun z => .int z) hm)
theorem dX5_of_0 : decode cX5_of 0 = .ok (.aload_n 0, 1) := by decide +kernel
theorem dX5_of_1 : decode cX5_of 1 = .ok (.iload_n 1, 1) := by decide +kernel
theorem dX5_of_2 : decode cX5_of 2 = .ok (.i2l, 1) := by decide +kernel
theorem dX5_of_3 : decode cX5_of 3 = .ok (.invokevirtual 82, 3) := by decide +kernel
theorem dX5_of_6 : decode cX5_of 6 = .ok (.ifCond .eq 15, 3) := by decide +kernel
theorem dX5_of_9 : decode cX5_of 9 = .ok (.iload_n 2, 1) := by decide +kernel
theorem dX5_of_10 : decode cX5_of 10 = .ok (.i2l, 1) := by decide +kernel
theorem dX5_of_11 : decode cX5_of 11 = .ok (.lconst 0, 1) := by decide +kernel
theorem dX5_of_12 : decode cX5_of 12 = .ok (.ldc2_w 86, 3) := by decide +kernel
theorem dX5_of_15 : decode cX5_of 15 = .ok (.invokestatic 54, 3) := by decide +kernel
theorem dX5_of_18 : decode cX5_of 18 = .ok (.ifCond .ne 10, 3) := by decide +kernel
theorem dX5_of_21 : decode cX5_of 21 = .ok (.aload_n 0, 1) := by decide +kernel
theorem dX5_of_22 : decode cX5_of 22 = .ok (.ldc 44, 2) := by decide +kernel
theorem dX5_of_24 : decode cX5_of 24 = .ok (.invokevirtual 60, 3) := by decide +kernel
theorem dX5_of_27 : decode cX5_of 27 = .ok (.ireturn, 1) := by decide +kernel
theorem dX5_of_28 : decode cX5_of 28 = .ok (.iload_n 2, 1) := by decide +kernel
theorem dX5_of_29 : decode cX5_of 29 = .ok (.iconst 5, 1) := by decide +kernel
theorem dX5_of_30 : decode cX5_of 30 = .ok (.if_icmp .ge 12, 3) := by decide +kernel
theorem dX5_of_33 : decode cX5_of 33 = .ok (.aload_n 0, 1) := by decide +kernel
theorem dX5_of_34 : decode cX5_of 34 = .ok (.iload_n 1, 1) := by decide +kernel
theorem dX5_of_35 : decode cX5_of 35 = .ok (.iload_n 2, 1) := by decide +kernel
theorem dX5_of_36 : decode cX5_of 36 = .ok (.invokevirtual 45, 3) := by decide +kernel
theorem dX5_of_39 : decode cX5_of 39 = .ok (.goto 43, 3) := by decide +kernel
theorem dX5_of_42 : decode cX5_of 42 = .ok (.iload_n 2, 1) := by decide +kernel
theorem dX5_of_43 : decode cX5_of 43 = .ok (.iconst 5, 1) := by decide +kernel
theorem dX5_of_44 : decode cX5_of 44 = .ok (.if_icmp .ne 11, 3) := by decide +kernel
theorem dX5_of_47 : decode cX5_of 47 = .ok (.aload_n 0, 1) := by decide +kernel
theorem dX5_of_48 : decode cX5_of 48 = .ok (.iload_n 1, 1) := by decide +kernel
theorem dX5_of_49 : decode cX5_of 49 = .ok (.invokevirtual 88, 3) := by decide +kernel
theorem dX5_of_52 : decode cX5_of 52 = .ok (.goto 30, 3) := by decide +kernel
theorem dX5_of_55 : decode cX5_of 55 = .ok (.iload_n 2, 1) := by decide +kernel
theorem dX5_of_56 : decode cX5_of 56 = .ok (.bipush 6, 2) := by decide +kernel
theorem dX5_of_58 : decode cX5_of 58 = .ok (.if_icmp .ne 15, 3) := by decide +kernel
theorem dX5_of_61 : decode cX5_of 61 = .ok (.aload_n 0, 1) := by decide +kernel
theorem dX5_of_62 : decode cX5_of 62 = .ok (.iload_n 1, 1) := by decide +kernel
theorem dX5_of_63 : decode cX5_of 63 = .ok (.aload_n 0, 1) := by decide +kernel
theorem dX5_of_64 : decode cX5_of 64 = .ok (.invokevirtual 75, 3) := by decide +kernel
theorem dX5_of_67 : decode cX5_of 67 = .ok (.invokevirtual 69, 3) := by decide +kernel
theorem dX5_of_70 : decode cX5_of 70 = .ok (.goto 12, 3) := by decide +kernel
theorem dX5_of_73 : decode cX5_of 73 = .ok (.aload_n 0, 1) := by decide +kernel
theorem dX5_of_74 : decode cX5_of 74 = .ok (.iload_n 1, 1) := by decide +kernel
theorem dX5_of_75 : decode cX5_of 75 = .ok (.aload_n 0, 1) := by decide +kernel
theorem dX5_of_76 : decode cX5_of 76 = .ok (.invokevirtual 75, 3) := by decide +kernel
theorem dX5_of_79 : decode cX5_of 79 = .ok (.invokevirtual 72, 3) := by decide +kernel
theorem dX5_of_82 : decode cX5_of 82 = .ok (.ireturn, 1) := by decide +kernel
def mX5_of_b21   (V : jMem) : Option (Int32 × jMem) := ((mX5_finds (-1000000001 : Int32) V).bind (fun (p1 : Int32 × jMem) => (some (p1.1, p1.2))))
set_option maxHeartbeats 4000000 in
set_option maxRecDepth 20000 in
theorem tX5_of_b21 {l : Launch} {Z : jZ} {q : Nat → Nat} {V : jMem} {r : Int32} {V' : jMem}    (hm : mX5_of_b21 V = some (r, V')) : J l Z RX5 "of" cX5_of 3 (some .int) 5 0 0 (fun r' w => r' = some (.int r) ∧ w = jw Z q V' dM) 21 [(0, .ref (q 0))] [] (jw Z q V dM) 0 0 := by
  unfold mX5_of_b21 at hm
  refine j_aload_n dX5_of_21 rfl rfl ?_
  refine j_ldc dX5_of_22 rfl wX5_44 ?_
  obtain ⟨p1, ep1, hm⟩ := jb_of hm
  refine o_callV_i kX5_60 dX5_of_24 rfl (tX5_finds  ep1) rfl rfl rfl rfl rfl (Nat.le_of_ble_eq_true rfl) (by decide) ?_
  exact j_ireturn dX5_of_27 rfl rfl ⟨Nat.le_refl _, Nat.le_refl _⟩ (jf_m (fun z => .int z) hm)
def mX5_of (a1 : Int32) (a2 : Int32) (V : jMem) : Option (Int32 × jMem) := (if (mX5_isField (Int32.toInt64 a1) V) = (0 : Int32) then (mX5_of_b21 V) else (if (mX5_isIn (Int32.toInt64 a2) (0 : Int64) (7 : Int64)) = (0 : Int32) then (mX5_of_b21 V) else (if (5 : Int32) ≤ a2 then (if a2 = (5 : Int32) then ((mX5_asksNow a1 V).bind (fun (r10 : Int32) => (some (r10, V)))) else (if a2 = (6 : Int32) then ((mX5_ours V).bind (fun (r8 : Int32) => ((mX5_heardBy a1 r8 V).bind (fun (r9 : Int32) => (some (r9, V)))))) else ((mX5_ours V).bind (fun (r6 : Int32) => ((mX5_wareBy a1 r6 V).bind (fun (r7 : Int32) => (some (r7, V)))))))) else ((mX5_has a1 a2 V).bind (fun (r11 : Int32) => (some (r11, V)))))))
set_option maxHeartbeats 4000000 in
set_option maxRecDepth 20000 in
theorem tX5_of {l : Launch} {Z : jZ} {q : Nat → Nat} {a1 : Int32} {a2 : Int32} {V : jMem} {r : Int32} {V' : jMem}  (hm : mX5_of a1 a2 V = some (r, V')) : CtD l Z yX5_of cX5_of 3 (some .int) 5 q dM [.ref (q 0), .int a1, .int a2] V (some (.int r)) V' := by
  refine Ct_of (L := [(0, .ref (q 0)), (1, .int a1), (2, .int a2)]) (own := RX5) (nm := "of") rfl rfl (by decide +kernel) rfl (Nat.le_of_ble_eq_true rfl) ?_
  unfold mX5_of at hm
  refine j_aload_n dX5_of_0 rfl rfl ?_
  refine j_iload_n dX5_of_1 rfl rfl ?_
  refine j_i2l dX5_of_2 rfl ?_
  refine o_callV_i kX5_82 dX5_of_3 rfl (tX5_isField  rfl) rfl rfl rfl rfl rfl (Nat.le_of_ble_eq_true rfl) (by decide) ?_
  refine j_if_eq (tgt := 21) dX5_of_6 rfl (by decide) (fun c1 => ?_) (fun c1 => ?_)
  · have hm := jif_pos c1 hm
    refine j_sub (L' := [(0, _)]) [0] rfl ?_
    exact tX5_of_b21    hm
  · have hm := jif_neg c1 hm
    refine j_iload_n dX5_of_9 rfl rfl ?_
    refine j_i2l dX5_of_10 rfl ?_
    refine j_lconst (v := 0) dX5_of_11 rfl (by decide) ?_
    refine j_ldc2 dX5_of_12 rfl wX5_86 ?_
    refine o_callS_i kX5_54 dX5_of_15 rfl (tX5_isIn  rfl) rfl rfl (Nat.le_of_ble_eq_true rfl) (by decide) ?_
    refine j_if_ne (tgt := 28) dX5_of_18 rfl (by decide) (fun c2 => ?_) (fun c2 => ?_)
    · have hm := jif_neg c2 hm
      refine j_iload_n dX5_of_28 rfl rfl ?_
      refine j_iconst (v := 5) dX5_of_29 rfl (by decide) ?_
      refine j_icmp_ge (tgt := 42) dX5_of_30 rfl (by decide) (fun c3 => ?_) (fun c3 => ?_)
      · have hm := jif_pos c3 hm
        refine j_iload_n dX5_of_42 rfl rfl ?_
        refine j_iconst (v := 5) dX5_of_43 rfl (by decide) ?_
        refine j_icmp_ne (tgt := 55) dX5_of_44 rfl (by decide) (fun c4 => ?_) (fun c4 => ?_)
        · have hm := jif_neg c4 hm
          refine j_iload_n dX5_of_55 rfl rfl ?_
          refine j_bipush (v := 6) dX5_of_56 rfl (by decide) ?_
          refine j_icmp_ne (tgt := 73) dX5_of_58 rfl (by decide) (fun c5 => ?_) (fun c5 => ?_)
          · have hm := jif_neg c5 hm
            refine j_aload_n dX5_of_73 rfl rfl ?_
            refine j_iload_n dX5_of_74 rfl rfl ?_
            refine j_aload_n dX5_of_75 rfl rfl ?_
            obtain ⟨r6, er6, hm⟩ := jb_of hm
            refine o_callV_i kX5_75 dX5_of_76 rfl (tX5_ours  er6) rfl rfl rfl rfl rfl (Nat.le_of_ble_eq_true rfl) (by decide) ?_
            obtain ⟨r7, er7, hm⟩ := jb_of hm
            refine o_callV_i kX5_72 dX5_of_79 rfl (tX5_wareBy  er7) rfl rfl rfl rfl rfl (Nat.le_of_ble_eq_true rfl) (by decide) ?_
            exact j_ireturn dX5_of_82 rfl rfl ⟨Nat.le_refl _, Nat.le_refl _⟩ (jf_m (fun z => .int z) hm)
          · have hm := jif_pos c5 hm
            refine j_aload_n dX5_of_61 rfl rfl ?_
            refine j_iload_n dX5_of_62 rfl rfl ?_
            refine j_aload_n dX5_of_63 rfl rfl ?_
            obtain ⟨r8, er8, hm⟩ := jb_of hm
            refine o_callV_i kX5_75 dX5_of_64 rfl (tX5_ours  er8) rfl rfl rfl rfl rfl (Nat.le_of_ble_eq_true rfl) (by decide) ?_
            obtain ⟨r9, er9, hm⟩ := jb_of hm
            refine o_callV_i kX5_69 dX5_of_67 rfl (tX5_heardBy  er9) rfl rfl rfl rfl rfl (Nat.le_of_ble_eq_true rfl) (by decide) ?_
            refine j_goto (tgt := 82) dX5_of_70 (by decide) ?_
            exact j_ireturn dX5_of_82 rfl rfl ⟨Nat.le_refl _, Nat.le_refl _⟩ (jf_m (fun z => .int z) hm)
        · have hm := jif_pos c4 hm
          refine j_aload_n dX5_of_47 rfl rfl ?_
          refine j_iload_n dX5_of_48 rfl rfl ?_
          obtain ⟨r10, er10, hm⟩ := jb_of hm
          refine o_callV_i kX5_88 dX5_of_49 rfl (tX5_asksNow  er10) rfl rfl rfl rfl rfl (Nat.le_of_ble_eq_true rfl) (by decide) ?_
          refine j_goto (tgt := 82) dX5_of_52 (by decide) ?_
          exact j_ireturn dX5_of_82 rfl rfl ⟨Nat.le_refl _, Nat.le_refl _⟩ (jf_m (fun z => .int z) hm)
      · have hm := jif_neg c3 hm
        refine j_aload_n dX5_of_33 rfl rfl ?_
        refine j_iload_n dX5_of_34 rfl rfl ?_
        refine j_iload_n dX5_of_35 rfl rfl ?_
        obtain ⟨r11, er11, hm⟩ := jb_of hm
        refine o_callV_i kX5_45 dX5_of_36 rfl (tX5_has  er11) rfl rfl rfl rfl rfl (Nat.le_of_ble_eq_true rfl) (by decide) ?_
        refine j_goto (tgt := 82) dX5_of_39 (by decide) ?_
        exact j_ireturn dX5_of_82 rfl rfl ⟨Nat.le_refl _, Nat.le_refl _⟩ (jf_m (fun z => .int z) hm)
    · have hm := jif_pos c2 hm
      refine j_sub (L' := [(0, _)]) [0] rfl ?_
      exact tX5_of_b21    hm
theorem dX5_set_0 : decode cX5_set 0 = .ok (.aload_n 0, 1) := by decide +kernel
theorem dX5_set_1 : decode cX5_set 1 = .ok (.iload_n 1, 1) := by decide +kernel
theorem dX5_set_2 : decode cX5_set 2 = .ok (.i2l, 1) := by decide +kernel
theorem dX5_set_3 : decode cX5_set 3 = .ok (.invokevirtual 82, 3) := by decide +kernel
theorem dX5_set_6 : decode cX5_set 6 = .ok (.ifCond .eq 58, 3) := by decide +kernel
theorem dX5_set_9 : decode cX5_set 9 = .ok (.iload_n 2, 1) := by decide +kernel
theorem dX5_set_10 : decode cX5_set 10 = .ok (.i2l, 1) := by decide +kernel
theorem dX5_set_11 : decode cX5_set 11 = .ok (.lconst 1, 1) := by decide +kernel
theorem dX5_set_12 : decode cX5_set 12 = .ok (.ldc2_w 91, 3) := by decide +kernel
theorem dX5_set_15 : decode cX5_set 15 = .ok (.invokestatic 54, 3) := by decide +kernel
theorem dX5_set_18 : decode cX5_set 18 = .ok (.ifCond .eq 46, 3) := by decide +kernel
theorem dX5_set_21 : decode cX5_set 21 = .ok (.iload_n 3, 1) := by decide +kernel
theorem dX5_set_22 : decode cX5_set 22 = .ok (.i2l, 1) := by decide +kernel
theorem dX5_set_23 : decode cX5_set 23 = .ok (.iload_n 2, 1) := by decide +kernel
theorem dX5_set_24 : decode cX5_set 24 = .ok (.iconst 1, 1) := by decide +kernel
theorem dX5_set_25 : decode cX5_set 25 = .ok (.if_icmp .ne 7, 3) := by decide +kernel
theorem dX5_set_28 : decode cX5_set 28 = .ok (.lconst 1, 1) := by decide +kernel
theorem dX5_set_29 : decode cX5_set 29 = .ok (.goto 4, 3) := by decide +kernel
theorem dX5_set_32 : decode cX5_set 32 = .ok (.lconst 0, 1) := by decide +kernel
theorem dX5_set_33 : decode cX5_set 33 = .ok (.iload_n 2, 1) := by decide +kernel
theorem dX5_set_34 : decode cX5_set 34 = .ok (.iconst 1, 1) := by decide +kernel
theorem dX5_set_35 : decode cX5_set 35 = .ok (.if_icmp .ne 9, 3) := by decide +kernel
theorem dX5_set_38 : decode cX5_set 38 = .ok (.ldc2_w 58, 3) := by decide +kernel
theorem dX5_set_41 : decode cX5_set 41 = .ok (.goto 17, 3) := by decide +kernel
theorem dX5_set_44 : decode cX5_set 44 = .ok (.iload_n 2, 1) := by decide +kernel
theorem dX5_set_45 : decode cX5_set 45 = .ok (.iconst 2, 1) := by decide +kernel
theorem dX5_set_46 : decode cX5_set 46 = .ok (.if_icmp .ne 9, 3) := by decide +kernel
theorem dX5_set_49 : decode cX5_set 49 = .ok (.ldc2_w 93, 3) := by decide +kernel
theorem dX5_set_52 : decode cX5_set 52 = .ok (.goto 6, 3) := by decide +kernel
theorem dX5_set_55 : decode cX5_set 55 = .ok (.ldc2_w 95, 3) := by decide +kernel
theorem dX5_set_58 : decode cX5_set 58 = .ok (.invokestatic 54, 3) := by decide +kernel
theorem dX5_set_61 : decode cX5_set 61 = .ok (.ifCond .ne 10, 3) := by decide +kernel
theorem dX5_set_64 : decode cX5_set 64 = .ok (.aload_n 0, 1) := by decide +kernel
theorem dX5_set_65 : decode cX5_set 65 = .ok (.ldc 44, 2) := by decide +kernel
theorem dX5_set_67 : decode cX5_set 67 = .ok (.invokevirtual 60, 3) := by decide +kernel
theorem dX5_set_70 : decode cX5_set 70 = .ok (.ireturn, 1) := by decide +kernel
theorem dX5_set_71 : decode cX5_set 71 = .ok (.aload_n 0, 1) := by decide +kernel
theorem dX5_set_72 : decode cX5_set 72 = .ok (.aload_n 0, 1) := by decide +kernel
theorem dX5_set_73 : decode cX5_set 73 = .ok (.iload_n 1, 1) := by decide +kernel
theorem dX5_set_74 : decode cX5_set 74 = .ok (.iload_n 2, 1) := by decide +kernel
theorem dX5_set_75 : decode cX5_set 75 = .ok (.invokevirtual 49, 3) := by decide +kernel
theorem dX5_set_78 : decode cX5_set 78 = .ok (.iload_n 3, 1) := by decide +kernel
theorem dX5_set_79 : decode cX5_set 79 = .ok (.invokevirtual 97, 3) := by decide +kernel
theorem dX5_set_82 : decode cX5_set 82 = .ok (.ireturn, 1) := by decide +kernel
def mX5_set_b64   (V : jMem) : Option (Int32 × jMem) := ((mX5_finds (-1000000001 : Int32) V).bind (fun (p1 : Int32 × jMem) => (some (p1.1, p1.2))))
set_option maxHeartbeats 4000000 in
set_option maxRecDepth 20000 in
theorem tX5_set_b64 {l : Launch} {Z : jZ} {q : Nat → Nat} {V : jMem} {r : Int32} {V' : jMem}    (hm : mX5_set_b64 V = some (r, V')) : J l Z RX5 "set" cX5_set 4 (some .int) 1 0 0 (fun r' w => r' = some (.int r) ∧ w = jw Z q V' dM) 64 [(0, .ref (q 0))] [] (jw Z q V dM) 0 0 := by
  unfold mX5_set_b64 at hm
  refine j_aload_n dX5_set_64 rfl rfl ?_
  refine j_ldc dX5_set_65 rfl wX5_44 ?_
  obtain ⟨p1, ep1, hm⟩ := jb_of hm
  refine o_callV_i kX5_60 dX5_set_67 rfl (tX5_finds  ep1) rfl rfl rfl rfl rfl (Nat.le_of_ble_eq_true rfl) (by decide) ?_
  exact j_ireturn dX5_set_70 rfl rfl ⟨Nat.le_refl _, Nat.le_refl _⟩ (jf_m (fun z => .int z) hm)
def mX5_set_b58   (a1 : Int32) (a2 : Int32) (a3 : Int32) (s0 : Int64) (s1 : Int64) (s2 : Int64) (V : jMem) : Option (Int32 × jMem) := (if (mX5_isIn s2 s1 s0) = (0 : Int32) then (mX5_set_b64 V) else ((mX5_becomes (mX5_at a1 a2) a3 V).bind (fun (p2 : Int32 × jMem) => (some (p2.1, p2.2)))))
set_option maxHeartbeats 4000000 in
set_option maxRecDepth 20000 in
theorem tX5_set_b58 {l : Launch} {Z : jZ} {q : Nat → Nat} {a1 : Int32} {a2 : Int32} {a3 : Int32} {s0 : Int64} {s1 : Int64} {s2 : Int64} {V : jMem} {r : Int32} {V' : jMem}    (hm : mX5_set_b58 a1 a2 a3 s0 s1 s2 V = some (r, V')) : J l Z RX5 "set" cX5_set 4 (some .int) 1 0 0 (fun r' w => r' = some (.int r) ∧ w = jw Z q V' dM) 58 [(0, .ref (q 0)), (1, .int a1), (2, .int a2), (3, .int a3)] [.long s0, .long s1, .long s2] (jw Z q V dM) 0 0 := by
  unfold mX5_set_b58 at hm
  refine o_callS_i kX5_54 dX5_set_58 rfl (tX5_isIn  rfl) rfl rfl (Nat.le_of_ble_eq_true rfl) (by decide) ?_
  refine j_if_ne (tgt := 71) dX5_set_61 rfl (by decide) (fun c1 => ?_) (fun c1 => ?_)
  · have hm := jif_neg c1 hm
    refine j_aload_n dX5_set_71 rfl rfl ?_
    refine j_aload_n dX5_set_72 rfl rfl ?_
    refine j_iload_n dX5_set_73 rfl rfl ?_
    refine j_iload_n dX5_set_74 rfl rfl ?_
    refine o_callV_i kX5_49 dX5_set_75 rfl (tX5_at  rfl) rfl rfl rfl rfl rfl (Nat.le_of_ble_eq_true rfl) (by decide) ?_
    refine j_iload_n dX5_set_78 rfl rfl ?_
    obtain ⟨p2, ep2, hm⟩ := jb_of hm
    refine o_callV_i kX5_97 dX5_set_79 rfl (tX5_becomes  ep2) rfl rfl rfl rfl rfl (Nat.le_of_ble_eq_true rfl) (by decide) ?_
    exact j_ireturn dX5_set_82 rfl rfl ⟨Nat.le_refl _, Nat.le_refl _⟩ (jf_m (fun z => .int z) hm)
  · have hm := jif_pos c1 hm
    refine j_sub (L' := [(0, _)]) [0] rfl ?_
    exact tX5_set_b64    hm
def mX5_set_b33   (a1 : Int32) (a2 : Int32) (a3 : Int32) (s0 : Int64) (s1 : Int64) (V : jMem) : Option (Int32 × jMem) := (if a2 = (1 : Int32) then (mX5_set_b58 a1 a2 a3 (9999 : Int64) s0 s1 V) else (if a2 = (2 : Int32) then (mX5_set_b58 a1 a2 a3 (9 : Int64) s0 s1 V) else (mX5_set_b58 a1 a2 a3 (16383 : Int64) s0 s1 V)))
set_option maxHeartbeats 4000000 in
set_option maxRecDepth 20000 in
theorem tX5_set_b33 {l : Launch} {Z : jZ} {q : Nat → Nat} {a1 : Int32} {a2 : Int32} {a3 : Int32} {s0 : Int64} {s1 : Int64} {V : jMem} {r : Int32} {V' : jMem}    (hm : mX5_set_b33 a1 a2 a3 s0 s1 V = some (r, V')) : J l Z RX5 "set" cX5_set 4 (some .int) 1 0 0 (fun r' w => r' = some (.int r) ∧ w = jw Z q V' dM) 33 [(0, .ref (q 0)), (1, .int a1), (2, .int a2), (3, .int a3)] [.long s0, .long s1] (jw Z q V dM) 0 0 := by
  unfold mX5_set_b33 at hm
  refine j_iload_n dX5_set_33 rfl rfl ?_
  refine j_iconst (v := 1) dX5_set_34 rfl (by decide) ?_
  refine j_icmp_ne (tgt := 44) dX5_set_35 rfl (by decide) (fun c1 => ?_) (fun c1 => ?_)
  · have hm := jif_neg c1 hm
    refine j_iload_n dX5_set_44 rfl rfl ?_
    refine j_iconst (v := 2) dX5_set_45 rfl (by decide) ?_
    refine j_icmp_ne (tgt := 55) dX5_set_46 rfl (by decide) (fun c2 => ?_) (fun c2 => ?_)
    · have hm := jif_neg c2 hm
      refine j_ldc2 dX5_set_55 rfl wX5_95 ?_
      exact tX5_set_b58    hm
    · have hm := jif_pos c2 hm
      refine j_ldc2 dX5_set_49 rfl wX5_93 ?_
      refine j_goto (tgt := 58) dX5_set_52 (by decide) ?_
      exact tX5_set_b58    hm
  · have hm := jif_pos c1 hm
    refine j_ldc2 dX5_set_38 rfl wX5_58 ?_
    refine j_goto (tgt := 58) dX5_set_41 (by decide) ?_
    exact tX5_set_b58    hm
def mX5_set (a1 : Int32) (a2 : Int32) (a3 : Int32) (V : jMem) : Option (Int32 × jMem) := (if (mX5_isField (Int32.toInt64 a1) V) = (0 : Int32) then (mX5_set_b64 V) else (if (mX5_isIn (Int32.toInt64 a2) (1 : Int64) (3 : Int64)) = (0 : Int32) then (mX5_set_b64 V) else (if a2 = (1 : Int32) then (mX5_set_b33 a1 a2 a3 (1 : Int64) (Int32.toInt64 a3) V) else (mX5_set_b33 a1 a2 a3 (0 : Int64) (Int32.toInt64 a3) V))))
set_option maxHeartbeats 4000000 in
set_option maxRecDepth 20000 in
theorem tX5_set {l : Launch} {Z : jZ} {q : Nat → Nat} {a1 : Int32} {a2 : Int32} {a3 : Int32} {V : jMem} {r : Int32} {V' : jMem}  (hm : mX5_set a1 a2 a3 V = some (r, V')) : CtD l Z yX5_set cX5_set 4 (some .int) 1 q dM [.ref (q 0), .int a1, .int a2, .int a3] V (some (.int r)) V' := by
  refine Ct_of (L := [(0, .ref (q 0)), (1, .int a1), (2, .int a2), (3, .int a3)]) (own := RX5) (nm := "set") rfl rfl (by decide +kernel) rfl (Nat.le_of_ble_eq_true rfl) ?_
  unfold mX5_set at hm
  refine j_aload_n dX5_set_0 rfl rfl ?_
  refine j_iload_n dX5_set_1 rfl rfl ?_
  refine j_i2l dX5_set_2 rfl ?_
  refine o_callV_i kX5_82 dX5_set_3 rfl (tX5_isField  rfl) rfl rfl rfl rfl rfl (Nat.le_of_ble_eq_true rfl) (by decide) ?_
  refine j_if_eq (tgt := 64) dX5_set_6 rfl (by decide) (fun c1 => ?_) (fun c1 => ?_)
  · have hm := jif_pos c1 hm
    refine j_sub (L' := [(0, _)]) [0] rfl ?_
    exact tX5_set_b64    hm
  · have hm := jif_neg c1 hm
    refine j_iload_n dX5_set_9 rfl rfl ?_
    refine j_i2l dX5_set_10 rfl ?_
    refine j_lconst (v := 1) dX5_set_11 rfl (by decide) ?_
    refine j_ldc2 dX5_set_12 rfl wX5_91 ?_
    refine o_callS_i kX5_54 dX5_set_15 rfl (tX5_isIn  rfl) rfl rfl (Nat.le_of_ble_eq_true rfl) (by decide) ?_
    refine j_if_eq (tgt := 64) dX5_set_18 rfl (by decide) (fun c2 => ?_) (fun c2 => ?_)
    · have hm := jif_pos c2 hm
      refine j_sub (L' := [(0, _)]) [0] rfl ?_
      exact tX5_set_b64    hm
    · have hm := jif_neg c2 hm
      refine j_iload_n dX5_set_21 rfl rfl ?_
      refine j_i2l dX5_set_22 rfl ?_
      refine j_iload_n dX5_set_23 rfl rfl ?_
      refine j_iconst (v := 1) dX5_set_24 rfl (by decide) ?_
      refine j_icmp_ne (tgt := 32) dX5_set_25 rfl (by decide) (fun c3 => ?_) (fun c3 => ?_)
      · have hm := jif_neg c3 hm
        refine j_lconst (v := 0) dX5_set_32 rfl (by decide) ?_
        exact tX5_set_b33    hm
      · have hm := jif_pos c3 hm
        refine j_lconst (v := 1) dX5_set_28 rfl (by decide) ?_
        refine j_goto (tgt := 33) dX5_set_29 (by decide) ?_
        exact tX5_set_b33    hm
theorem dX5_as_0 : decode cX5_as 0 = .ok (.aload_n 0, 1) := by decide +kernel
theorem dX5_as_1 : decode cX5_as 1 = .ok (.iload_n 1, 1) := by decide +kernel
theorem dX5_as_2 : decode cX5_as 2 = .ok (.i2l, 1) := by decide +kernel
theorem dX5_as_3 : decode cX5_as 3 = .ok (.invokevirtual 82, 3) := by decide +kernel
theorem dX5_as_6 : decode cX5_as 6 = .ok (.ifCond .eq 15, 3) := by decide +kernel
theorem dX5_as_9 : decode cX5_as 9 = .ok (.iload_n 2, 1) := by decide +kernel
theorem dX5_as_10 : decode cX5_as 10 = .ok (.i2l, 1) := by decide +kernel
theorem dX5_as_11 : decode cX5_as 11 = .ok (.lconst 0, 1) := by decide +kernel
theorem dX5_as_12 : decode cX5_as 12 = .ok (.ldc2_w 52, 3) := by decide +kernel
theorem dX5_as_15 : decode cX5_as 15 = .ok (.invokestatic 54, 3) := by decide +kernel
theorem dX5_as_18 : decode cX5_as 18 = .ok (.ifCond .ne 10, 3) := by decide +kernel
theorem dX5_as_21 : decode cX5_as 21 = .ok (.aload_n 0, 1) := by decide +kernel
theorem dX5_as_22 : decode cX5_as 22 = .ok (.ldc 44, 2) := by decide +kernel
theorem dX5_as_24 : decode cX5_as 24 = .ok (.invokevirtual 60, 3) := by decide +kernel
theorem dX5_as_27 : decode cX5_as 27 = .ok (.ireturn, 1) := by decide +kernel
theorem dX5_as_28 : decode cX5_as 28 = .ok (.aload_n 0, 1) := by decide +kernel
theorem dX5_as_29 : decode cX5_as 29 = .ok (.iload_n 1, 1) := by decide +kernel
theorem dX5_as_30 : decode cX5_as 30 = .ok (.iconst 0, 1) := by decide +kernel
theorem dX5_as_31 : decode cX5_as 31 = .ok (.invokevirtual 45, 3) := by decide +kernel
theorem dX5_as_34 : decode cX5_as 34 = .ok (.istore_n 3, 1) := by decide +kernel
theorem dX5_as_35 : decode cX5_as 35 = .ok (.iload_n 3, 1) := by decide +kernel
theorem dX5_as_36 : decode cX5_as 36 = .ok (.iload_n 2, 1) := by decide +kernel
theorem dX5_as_37 : decode cX5_as 37 = .ok (.if_icmp .eq 27, 3) := by decide +kernel
theorem dX5_as_40 : decode cX5_as 40 = .ok (.iload_n 2, 1) := by decide +kernel
theorem dX5_as_41 : decode cX5_as 41 = .ok (.ifCond .eq 23, 3) := by decide +kernel
theorem dX5_as_44 : decode cX5_as 44 = .ok (.iload_n 2, 1) := by decide +kernel
theorem dX5_as_45 : decode cX5_as 45 = .ok (.iconst 2, 1) := by decide +kernel
theorem dX5_as_46 : decode cX5_as 46 = .ok (.if_icmp .ne 8, 3) := by decide +kernel
theorem dX5_as_49 : decode cX5_as 49 = .ok (.iload_n 3, 1) := by decide +kernel
theorem dX5_as_50 : decode cX5_as 50 = .ok (.iconst 4, 1) := by decide +kernel
theorem dX5_as_51 : decode cX5_as 51 = .ok (.if_icmp .eq 13, 3) := by decide +kernel
theorem dX5_as_54 : decode cX5_as 54 = .ok (.iload_n 2, 1) := by decide +kernel
theorem dX5_as_55 : decode cX5_as 55 = .ok (.iconst 3, 1) := by decide +kernel
theorem dX5_as_56 : decode cX5_as 56 = .ok (.if_icmp .ne 12, 3) := by decide +kernel
theorem dX5_as_59 : decode cX5_as 59 = .ok (.iload_n 3, 1) := by decide +kernel
theorem dX5_as_60 : decode cX5_as 60 = .ok (.iconst 5, 1) := by decide +kernel
theorem dX5_as_61 : decode cX5_as 61 = .ok (.if_icmp .ne 7, 3) := by decide +kernel
theorem dX5_as_64 : decode cX5_as 64 = .ok (.iconst 1, 1) := by decide +kernel
theorem dX5_as_65 : decode cX5_as 65 = .ok (.goto 4, 3) := by decide +kernel
theorem dX5_as_68 : decode cX5_as 68 = .ok (.iconst 0, 1) := by decide +kernel
theorem dX5_as_69 : decode cX5_as 69 = .ok (.istore 4, 2) := by decide +kernel
theorem dX5_as_71 : decode cX5_as 71 = .ok (.iload 4, 2) := by decide +kernel
theorem dX5_as_73 : decode cX5_as 73 = .ok (.ifCond .eq 11, 3) := by decide +kernel
theorem dX5_as_76 : decode cX5_as 76 = .ok (.aload_n 0, 1) := by decide +kernel
theorem dX5_as_77 : decode cX5_as 77 = .ok (.iload_n 1, 1) := by decide +kernel
theorem dX5_as_78 : decode cX5_as 78 = .ok (.invokevirtual 88, 3) := by decide +kernel
theorem dX5_as_81 : decode cX5_as 81 = .ok (.goto 9, 3) := by decide +kernel
theorem dX5_as_84 : decode cX5_as 84 = .ok (.aload_n 0, 1) := by decide +kernel
theorem dX5_as_85 : decode cX5_as 85 = .ok (.ldc 100, 2) := by decide +kernel
theorem dX5_as_87 : decode cX5_as 87 = .ok (.invokevirtual 60, 3) := by decide +kernel
theorem dX5_as_90 : decode cX5_as 90 = .ok (.ireturn, 1) := by decide +kernel
def mX5_as_b21   (V : jMem) : Option (Int32 × jMem) := ((mX5_finds (-1000000001 : Int32) V).bind (fun (p1 : Int32 × jMem) => (some (p1.1, p1.2))))
set_option maxHeartbeats 4000000 in
set_option maxRecDepth 20000 in
theorem tX5_as_b21 {l : Launch} {Z : jZ} {q : Nat → Nat} {V : jMem} {r : Int32} {V' : jMem}    (hm : mX5_as_b21 V = some (r, V')) : J l Z RX5 "as" cX5_as 5 (some .int) 5 0 0 (fun r' w => r' = some (.int r) ∧ w = jw Z q V' dM) 21 [(0, .ref (q 0))] [] (jw Z q V dM) 0 0 := by
  unfold mX5_as_b21 at hm
  refine j_aload_n dX5_as_21 rfl rfl ?_
  refine j_ldc dX5_as_22 rfl wX5_44 ?_
  obtain ⟨p1, ep1, hm⟩ := jb_of hm
  refine o_callV_i kX5_60 dX5_as_24 rfl (tX5_finds  ep1) rfl rfl rfl rfl rfl (Nat.le_of_ble_eq_true rfl) (by decide) ?_
  exact j_ireturn dX5_as_27 rfl rfl ⟨Nat.le_refl _, Nat.le_refl _⟩ (jf_m (fun z => .int z) hm)
def mX5_as_b69   (a1 : Int32) (s0 : Int32) (V : jMem) : Option (Int32 × jMem) := (if s0 = (0 : Int32) then ((mX5_finds (-1000000003 : Int32) V).bind (fun (p2 : Int32 × jMem) => (some (p2.1, p2.2)))) else ((mX5_asksNow a1 V).bind (fun (r3 : Int32) => (some (r3, V)))))
set_option maxHeartbeats 4000000 in
set_option maxRecDepth 20000 in
theorem tX5_as_b69 {l : Launch} {Z : jZ} {q : Nat → Nat} {a1 : Int32} {s0 : Int32} {V : jMem} {r : Int32} {V' : jMem}    (hm : mX5_as_b69 a1 s0 V = some (r, V')) : J l Z RX5 "as" cX5_as 5 (some .int) 5 0 0 (fun r' w => r' = some (.int r) ∧ w = jw Z q V' dM) 69 [(0, .ref (q 0)), (1, .int a1)] [.int s0] (jw Z q V dM) 0 0 := by
  unfold mX5_as_b69 at hm
  refine j_istore (L' := [(4, _), (0, _), (1, _)]) dX5_as_69 rfl (by decide) rfl ?_
  refine j_iload dX5_as_71 rfl rfl ?_
  refine j_if_eq (tgt := 84) dX5_as_73 rfl (by decide) (fun c1 => ?_) (fun c1 => ?_)
  · have hm := jif_pos c1 hm
    refine j_aload_n dX5_as_84 rfl rfl ?_
    refine j_ldc dX5_as_85 rfl wX5_100 ?_
    obtain ⟨p2, ep2, hm⟩ := jb_of hm
    refine o_callV_i kX5_60 dX5_as_87 rfl (tX5_finds  ep2) rfl rfl rfl rfl rfl (Nat.le_of_ble_eq_true rfl) (by decide) ?_
    exact j_ireturn dX5_as_90 rfl rfl ⟨Nat.le_refl _, Nat.le_refl _⟩ (jf_m (fun z => .int z) hm)
  · have hm := jif_neg c1 hm
    refine j_aload_n dX5_as_76 rfl rfl ?_
    refine j_iload_n dX5_as_77 rfl rfl ?_
    obtain ⟨r3, er3, hm⟩ := jb_of hm
    refine o_callV_i kX5_88 dX5_as_78 rfl (tX5_asksNow  er3) rfl rfl rfl rfl rfl (Nat.le_of_ble_eq_true rfl) (by decide) ?_
    refine j_goto (tgt := 90) dX5_as_81 (by decide) ?_
    exact j_ireturn dX5_as_90 rfl rfl ⟨Nat.le_refl _, Nat.le_refl _⟩ (jf_m (fun z => .int z) hm)
def mX5_as_b64   (a1 : Int32) (V : jMem) : Option (Int32 × jMem) := (mX5_as_b69 a1 (1 : Int32) V)
set_option maxHeartbeats 4000000 in
set_option maxRecDepth 20000 in
theorem tX5_as_b64 {l : Launch} {Z : jZ} {q : Nat → Nat} {a1 : Int32} {V : jMem} {r : Int32} {V' : jMem}    (hm : mX5_as_b64 a1 V = some (r, V')) : J l Z RX5 "as" cX5_as 5 (some .int) 5 0 0 (fun r' w => r' = some (.int r) ∧ w = jw Z q V' dM) 64 [(0, .ref (q 0)), (1, .int a1)] [] (jw Z q V dM) 0 0 := by
  unfold mX5_as_b64 at hm
  refine j_iconst (v := 1) dX5_as_64 rfl (by decide) ?_
  refine j_goto (tgt := 69) dX5_as_65 (by decide) ?_
  exact tX5_as_b69    hm
def mX5_as_b68   (a1 : Int32) (V : jMem) : Option (Int32 × jMem) := (mX5_as_b69 a1 (0 : Int32) V)
set_option maxHeartbeats 4000000 in
set_option maxRecDepth 20000 in
theorem tX5_as_b68 {l : Launch} {Z : jZ} {q : Nat → Nat} {a1 : Int32} {V : jMem} {r : Int32} {V' : jMem}    (hm : mX5_as_b68 a1 V = some (r, V')) : J l Z RX5 "as" cX5_as 5 (some .int) 5 0 0 (fun r' w => r' = some (.int r) ∧ w = jw Z q V' dM) 68 [(0, .ref (q 0)), (1, .int a1)] [] (jw Z q V dM) 0 0 := by
  unfold mX5_as_b68 at hm
  refine j_iconst (v := 0) dX5_as_68 rfl (by decide) ?_
  exact tX5_as_b69    hm
def mX5_as_b54   (a1 : Int32) (a2 : Int32) (a3 : Int32) (V : jMem) : Option (Int32 × jMem) := (if a2 = (3 : Int32) then (if a3 = (5 : Int32) then (mX5_as_b64 a1 V) else (mX5_as_b68 a1 V)) else (mX5_as_b68 a1 V))
set_option maxHeartbeats 4000000 in
set_option maxRecDepth 20000 in
theorem tX5_as_b54 {l : Launch} {Z : jZ} {q : Nat → Nat} {a1 : Int32} {a2 : Int32} {a3 : Int32} {V : jMem} {r : Int32} {V' : jMem}    (hm : mX5_as_b54 a1 a2 a3 V = some (r, V')) : J l Z RX5 "as" cX5_as 5 (some .int) 5 0 0 (fun r' w => r' = some (.int r) ∧ w = jw Z q V' dM) 54 [(0, .ref (q 0)), (1, .int a1), (2, .int a2), (3, .int a3)] [] (jw Z q V dM) 0 0 := by
  unfold mX5_as_b54 at hm
  refine j_iload_n dX5_as_54 rfl rfl ?_
  refine j_iconst (v := 3) dX5_as_55 rfl (by decide) ?_
  refine j_icmp_ne (tgt := 68) dX5_as_56 rfl (by decide) (fun c1 => ?_) (fun c1 => ?_)
  · have hm := jif_neg c1 hm
    refine j_sub (L' := [(0, _), (1, _)]) [0, 1] rfl ?_
    exact tX5_as_b68    hm
  · have hm := jif_pos c1 hm
    refine j_iload_n dX5_as_59 rfl rfl ?_
    refine j_iconst (v := 5) dX5_as_60 rfl (by decide) ?_
    refine j_icmp_ne (tgt := 68) dX5_as_61 rfl (by decide) (fun c2 => ?_) (fun c2 => ?_)
    · have hm := jif_neg c2 hm
      refine j_sub (L' := [(0, _), (1, _)]) [0, 1] rfl ?_
      exact tX5_as_b68    hm
    · have hm := jif_pos c2 hm
      refine j_sub (L' := [(0, _), (1, _)]) [0, 1] rfl ?_
      exact tX5_as_b64    hm
def mX5_as (a1 : Int32) (a2 : Int32) (V : jMem) : Option (Int32 × jMem) := (if (mX5_isField (Int32.toInt64 a1) V) = (0 : Int32) then (mX5_as_b21 V) else (if (mX5_isIn (Int32.toInt64 a2) (0 : Int64) (5 : Int64)) = (0 : Int32) then (mX5_as_b21 V) else ((mX5_has a1 (0 : Int32) V).bind (fun (r3 : Int32) => (if r3 = a2 then (mX5_as_b64 a1 V) else (if a2 = (0 : Int32) then (mX5_as_b64 a1 V) else (if a2 = (2 : Int32) then (if r3 = (4 : Int32) then (mX5_as_b64 a1 V) else (mX5_as_b54 a1 a2 r3 V)) else (mX5_as_b54 a1 a2 r3 V))))))))
set_option maxHeartbeats 4000000 in
set_option maxRecDepth 20000 in
theorem tX5_as {l : Launch} {Z : jZ} {q : Nat → Nat} {a1 : Int32} {a2 : Int32} {V : jMem} {r : Int32} {V' : jMem}  (hm : mX5_as a1 a2 V = some (r, V')) : CtD l Z yX5_as cX5_as 5 (some .int) 5 q dM [.ref (q 0), .int a1, .int a2] V (some (.int r)) V' := by
  refine Ct_of (L := [(0, .ref (q 0)), (1, .int a1), (2, .int a2)]) (own := RX5) (nm := "as") rfl rfl (by decide +kernel) rfl (Nat.le_of_ble_eq_true rfl) ?_
  unfold mX5_as at hm
  refine j_aload_n dX5_as_0 rfl rfl ?_
  refine j_iload_n dX5_as_1 rfl rfl ?_
  refine j_i2l dX5_as_2 rfl ?_
  refine o_callV_i kX5_82 dX5_as_3 rfl (tX5_isField  rfl) rfl rfl rfl rfl rfl (Nat.le_of_ble_eq_true rfl) (by decide) ?_
  refine j_if_eq (tgt := 21) dX5_as_6 rfl (by decide) (fun c1 => ?_) (fun c1 => ?_)
  · have hm := jif_pos c1 hm
    refine j_sub (L' := [(0, _)]) [0] rfl ?_
    exact tX5_as_b21    hm
  · have hm := jif_neg c1 hm
    refine j_iload_n dX5_as_9 rfl rfl ?_
    refine j_i2l dX5_as_10 rfl ?_
    refine j_lconst (v := 0) dX5_as_11 rfl (by decide) ?_
    refine j_ldc2 dX5_as_12 rfl wX5_52 ?_
    refine o_callS_i kX5_54 dX5_as_15 rfl (tX5_isIn  rfl) rfl rfl (Nat.le_of_ble_eq_true rfl) (by decide) ?_
    refine j_if_ne (tgt := 28) dX5_as_18 rfl (by decide) (fun c2 => ?_) (fun c2 => ?_)
    · have hm := jif_neg c2 hm
      refine j_aload_n dX5_as_28 rfl rfl ?_
      refine j_iload_n dX5_as_29 rfl rfl ?_
      refine j_iconst (v := 0) dX5_as_30 rfl (by decide) ?_
      obtain ⟨r3, er3, hm⟩ := jb_of hm
      refine o_callV_i kX5_45 dX5_as_31 rfl (tX5_has  er3) rfl rfl rfl rfl rfl (Nat.le_of_ble_eq_true rfl) (by decide) ?_
      refine j_istore_n (i := 3) (L' := [(3, _), (0, _), (1, _), (2, _)]) dX5_as_34 rfl rfl (by decide) rfl ?_
      refine j_iload_n dX5_as_35 rfl rfl ?_
      refine j_iload_n dX5_as_36 rfl rfl ?_
      refine j_icmp_eq (tgt := 64) dX5_as_37 rfl (by decide) (fun c4 => ?_) (fun c4 => ?_)
      · have hm := jif_pos c4 hm
        refine j_sub (L' := [(0, _), (1, _)]) [1, 2] rfl ?_
        exact tX5_as_b64    hm
      · have hm := jif_neg c4 hm
        refine j_iload_n dX5_as_40 rfl rfl ?_
        refine j_if_eq (tgt := 64) dX5_as_41 rfl (by decide) (fun c5 => ?_) (fun c5 => ?_)
        · have hm := jif_pos c5 hm
          refine j_sub (L' := [(0, _), (1, _)]) [1, 2] rfl ?_
          exact tX5_as_b64    hm
        · have hm := jif_neg c5 hm
          refine j_iload_n dX5_as_44 rfl rfl ?_
          refine j_iconst (v := 2) dX5_as_45 rfl (by decide) ?_
          refine j_icmp_ne (tgt := 54) dX5_as_46 rfl (by decide) (fun c6 => ?_) (fun c6 => ?_)
          · have hm := jif_neg c6 hm
            refine j_sub (L' := [(0, _), (1, _), (2, _), (3, _)]) [1, 2, 3, 0] rfl ?_
            exact tX5_as_b54    hm
          · have hm := jif_pos c6 hm
            refine j_iload_n dX5_as_49 rfl rfl ?_
            refine j_iconst (v := 4) dX5_as_50 rfl (by decide) ?_
            refine j_icmp_eq (tgt := 64) dX5_as_51 rfl (by decide) (fun c7 => ?_) (fun c7 => ?_)
            · have hm := jif_pos c7 hm
              refine j_sub (L' := [(0, _), (1, _)]) [1, 2] rfl ?_
              exact tX5_as_b64    hm
            · have hm := jif_neg c7 hm
              refine j_sub (L' := [(0, _), (1, _), (2, _), (3, _)]) [1, 2, 3, 0] rfl ?_
              exact tX5_as_b54    hm
    · have hm := jif_pos c2 hm
      refine j_sub (L' := [(0, _)]) [0] rfl ?_
      exact tX5_as_b21    hm
theorem dX5_asks_0 : decode cX5_asks 0 = .ok (.aload_n 0, 1) := by decide +kernel
theorem dX5_asks_1 : decode cX5_asks 1 = .ok (.iload_n 1, 1) := by decide +kernel
theorem dX5_asks_2 : decode cX5_asks 2 = .ok (.i2l, 1) := by decide +kernel
theorem dX5_asks_3 : decode cX5_asks 3 = .ok (.invokevirtual 82, 3) := by decide +kernel
theorem dX5_asks_6 : decode cX5_asks 6 = .ok (.ifCond .eq 24, 3) := by decide +kernel
theorem dX5_asks_9 : decode cX5_asks 9 = .ok (.iload_n 2, 1) := by decide +kernel
theorem dX5_asks_10 : decode cX5_asks 10 = .ok (.i2l, 1) := by decide +kernel
theorem dX5_asks_11 : decode cX5_asks 11 = .ok (.lconst 0, 1) := by decide +kernel
theorem dX5_asks_12 : decode cX5_asks 12 = .ok (.ldc2_w 95, 3) := by decide +kernel
theorem dX5_asks_15 : decode cX5_asks 15 = .ok (.invokestatic 54, 3) := by decide +kernel
theorem dX5_asks_18 : decode cX5_asks 18 = .ok (.ifCond .eq 12, 3) := by decide +kernel
theorem dX5_asks_21 : decode cX5_asks 21 = .ok (.aload_n 0, 1) := by decide +kernel
theorem dX5_asks_22 : decode cX5_asks 22 = .ok (.iload_n 1, 1) := by decide +kernel
theorem dX5_asks_23 : decode cX5_asks 23 = .ok (.iload_n 2, 1) := by decide +kernel
theorem dX5_asks_24 : decode cX5_asks 24 = .ok (.invokevirtual 79, 3) := by decide +kernel
theorem dX5_asks_27 : decode cX5_asks 27 = .ok (.goto 9, 3) := by decide +kernel
theorem dX5_asks_30 : decode cX5_asks 30 = .ok (.aload_n 0, 1) := by decide +kernel
theorem dX5_asks_31 : decode cX5_asks 31 = .ok (.ldc 44, 2) := by decide +kernel
theorem dX5_asks_33 : decode cX5_asks 33 = .ok (.invokevirtual 60, 3) := by decide +kernel
theorem dX5_asks_36 : decode cX5_asks 36 = .ok (.ireturn, 1) := by decide +kernel
def mX5_asks_b30   (V : jMem) : Option (Int32 × jMem) := ((mX5_finds (-1000000001 : Int32) V).bind (fun (p1 : Int32 × jMem) => (some (p1.1, p1.2))))
set_option maxHeartbeats 4000000 in
set_option maxRecDepth 20000 in
theorem tX5_asks_b30 {l : Launch} {Z : jZ} {q : Nat → Nat} {V : jMem} {r : Int32} {V' : jMem}    (hm : mX5_asks_b30 V = some (r, V')) : J l Z RX5 "asks" cX5_asks 3 (some .int) 4 0 0 (fun r' w => r' = some (.int r) ∧ w = jw Z q V' dM) 30 [(0, .ref (q 0))] [] (jw Z q V dM) 0 0 := by
  unfold mX5_asks_b30 at hm
  refine j_aload_n dX5_asks_30 rfl rfl ?_
  refine j_ldc dX5_asks_31 rfl wX5_44 ?_
  obtain ⟨p1, ep1, hm⟩ := jb_of hm
  refine o_callV_i kX5_60 dX5_asks_33 rfl (tX5_finds  ep1) rfl rfl rfl rfl rfl (Nat.le_of_ble_eq_true rfl) (by decide) ?_
  exact j_ireturn dX5_asks_36 rfl rfl ⟨Nat.le_refl _, Nat.le_refl _⟩ (jf_m (fun z => .int z) hm)
def mX5_asks (a1 : Int32) (a2 : Int32) (V : jMem) : Option (Int32 × jMem) := (if (mX5_isField (Int32.toInt64 a1) V) = (0 : Int32) then (mX5_asks_b30 V) else (if (mX5_isIn (Int32.toInt64 a2) (0 : Int64) (16383 : Int64)) = (0 : Int32) then (mX5_asks_b30 V) else ((mX5_asksBy a1 a2 V).bind (fun (r3 : Int32) => (some (r3, V))))))
set_option maxHeartbeats 4000000 in
set_option maxRecDepth 20000 in
theorem tX5_asks {l : Launch} {Z : jZ} {q : Nat → Nat} {a1 : Int32} {a2 : Int32} {V : jMem} {r : Int32} {V' : jMem}  (hm : mX5_asks a1 a2 V = some (r, V')) : CtD l Z yX5_asks cX5_asks 3 (some .int) 4 q dM [.ref (q 0), .int a1, .int a2] V (some (.int r)) V' := by
  refine Ct_of (L := [(0, .ref (q 0)), (1, .int a1), (2, .int a2)]) (own := RX5) (nm := "asks") rfl rfl (by decide +kernel) rfl (Nat.le_of_ble_eq_true rfl) ?_
  unfold mX5_asks at hm
  refine j_aload_n dX5_asks_0 rfl rfl ?_
  refine j_iload_n dX5_asks_1 rfl rfl ?_
  refine j_i2l dX5_asks_2 rfl ?_
  refine o_callV_i kX5_82 dX5_asks_3 rfl (tX5_isField  rfl) rfl rfl rfl rfl rfl (Nat.le_of_ble_eq_true rfl) (by decide) ?_
  refine j_if_eq (tgt := 30) dX5_asks_6 rfl (by decide) (fun c1 => ?_) (fun c1 => ?_)
  · have hm := jif_pos c1 hm
    refine j_sub (L' := [(0, _)]) [0] rfl ?_
    exact tX5_asks_b30    hm
  · have hm := jif_neg c1 hm
    refine j_iload_n dX5_asks_9 rfl rfl ?_
    refine j_i2l dX5_asks_10 rfl ?_
    refine j_lconst (v := 0) dX5_asks_11 rfl (by decide) ?_
    refine j_ldc2 dX5_asks_12 rfl wX5_95 ?_
    refine o_callS_i kX5_54 dX5_asks_15 rfl (tX5_isIn  rfl) rfl rfl (Nat.le_of_ble_eq_true rfl) (by decide) ?_
    refine j_if_eq (tgt := 30) dX5_asks_18 rfl (by decide) (fun c2 => ?_) (fun c2 => ?_)
    · have hm := jif_pos c2 hm
      refine j_sub (L' := [(0, _)]) [0] rfl ?_
      exact tX5_asks_b30    hm
    · have hm := jif_neg c2 hm
      refine j_aload_n dX5_asks_21 rfl rfl ?_
      refine j_iload_n dX5_asks_22 rfl rfl ?_
      refine j_iload_n dX5_asks_23 rfl rfl ?_
      obtain ⟨r3, er3, hm⟩ := jb_of hm
      refine o_callV_i kX5_79 dX5_asks_24 rfl (tX5_asksBy  er3) rfl rfl rfl rfl rfl (Nat.le_of_ble_eq_true rfl) (by decide) ?_
      refine j_goto (tgt := 36) dX5_asks_27 (by decide) ?_
      exact j_ireturn dX5_asks_36 rfl rfl ⟨Nat.le_refl _, Nat.le_refl _⟩ (jf_m (fun z => .int z) hm)
theorem dX5_mostOf_0 : decode cX5_mostOf 0 = .ok (.iload_n 0, 1) := by decide +kernel
theorem dX5_mostOf_1 : decode cX5_mostOf 1 = .ok (.ifCond .ne 8, 3) := by decide +kernel
theorem dX5_mostOf_4 : decode cX5_mostOf 4 = .ok (.bipush 100, 2) := by decide +kernel
theorem dX5_mostOf_6 : decode cX5_mostOf 6 = .ok (.goto 16, 3) := by decide +kernel
theorem dX5_mostOf_9 : decode cX5_mostOf 9 = .ok (.iload_n 0, 1) := by decide +kernel
theorem dX5_mostOf_10 : decode cX5_mostOf 10 = .ok (.iconst 2, 1) := by decide +kernel
theorem dX5_mostOf_11 : decode cX5_mostOf 11 = .ok (.if_icmp .ne 9, 3) := by decide +kernel
theorem dX5_mostOf_14 : decode cX5_mostOf 14 = .ok (.sipush 999, 3) := by decide +kernel
theorem dX5_mostOf_17 : decode cX5_mostOf 17 = .ok (.goto 5, 3) := by decide +kernel
theorem dX5_mostOf_20 : decode cX5_mostOf 20 = .ok (.bipush 9, 2) := by decide +kernel
theorem dX5_mostOf_22 : decode cX5_mostOf 22 = .ok (.ireturn, 1) := by decide +kernel
def mX5_mostOf (a0 : Int32) : Int32 := (if a0 = (0 : Int32) then (100 : Int32) else (if a0 = (2 : Int32) then (999 : Int32) else (9 : Int32)))
set_option maxHeartbeats 4000000 in
set_option maxRecDepth 20000 in
theorem tX5_mostOf {l : Launch} {Z : jZ} {q : Nat → Nat} {V : jMem} {a0 : Int32} {r : Int32}  (hm : mX5_mostOf a0 = r) : CtD l Z yX5_mostOf cX5_mostOf 1 (some .int) 0 q dM [.int a0] V (some (.int r)) V := by
  refine Ct_of (L := [(0, .int a0)]) (own := RX5) (nm := "mostOf") rfl rfl (by decide +kernel) rfl (Nat.le_of_ble_eq_true rfl) ?_
  unfold mX5_mostOf at hm
  refine j_iload_n dX5_mostOf_0 rfl rfl ?_
  refine j_if_ne (tgt := 9) dX5_mostOf_1 rfl (by decide) (fun c1 => ?_) (fun c1 => ?_)
  · have hm := jif_neg c1 hm
    refine j_iload_n dX5_mostOf_9 rfl rfl ?_
    refine j_iconst (v := 2) dX5_mostOf_10 rfl (by decide) ?_
    refine j_icmp_ne (tgt := 20) dX5_mostOf_11 rfl (by decide) (fun c2 => ?_) (fun c2 => ?_)
    · have hm := jif_neg c2 hm
      refine j_bipush (v := 9) dX5_mostOf_20 rfl (by decide) ?_
      exact j_ireturn dX5_mostOf_22 rfl rfl ⟨Nat.le_refl _, Nat.le_refl _⟩ (jf_t (fun z => .int z) hm)
    · have hm := jif_pos c2 hm
      refine j_sipush (v := 999) dX5_mostOf_14 rfl (by decide) ?_
      refine j_goto (tgt := 22) dX5_mostOf_17 (by decide) ?_
      exact j_ireturn dX5_mostOf_22 rfl rfl ⟨Nat.le_refl _, Nat.le_refl _⟩ (jf_t (fun z => .int z) hm)
  · have hm := jif_pos c1 hm
    refine j_bipush (v := 100) dX5_mostOf_4 rfl (by decide) ?_
    refine j_goto (tgt := 22) dX5_mostOf_6 (by decide) ?_
    exact j_ireturn dX5_mostOf_22 rfl rfl ⟨Nat.le_refl _, Nat.le_refl _⟩ (jf_t (fun z => .int z) hm)
theorem dX5_rule_0 : decode cX5_rule 0 = .ok (.iload_n 1, 1) := by decide +kernel
theorem dX5_rule_1 : decode cX5_rule 1 = .ok (.i2l, 1) := by decide +kernel
theorem dX5_rule_2 : decode cX5_rule 2 = .ok (.lconst 0, 1) := by decide +kernel
theorem dX5_rule_3 : decode cX5_rule 3 = .ok (.ldc2_w 91, 3) := by decide +kernel
theorem dX5_rule_6 : decode cX5_rule 6 = .ok (.invokestatic 54, 3) := by decide +kernel
theorem dX5_rule_9 : decode cX5_rule 9 = .ok (.ifCond .eq 28, 3) := by decide +kernel
theorem dX5_rule_12 : decode cX5_rule 12 = .ok (.iload_n 2, 1) := by decide +kernel
theorem dX5_rule_13 : decode cX5_rule 13 = .ok (.i2l, 1) := by decide +kernel
theorem dX5_rule_14 : decode cX5_rule 14 = .ok (.lconst 0, 1) := by decide +kernel
theorem dX5_rule_15 : decode cX5_rule 15 = .ok (.iload_n 1, 1) := by decide +kernel
theorem dX5_rule_16 : decode cX5_rule 16 = .ok (.invokestatic 101, 3) := by decide +kernel
theorem dX5_rule_19 : decode cX5_rule 19 = .ok (.i2l, 1) := by decide +kernel
theorem dX5_rule_20 : decode cX5_rule 20 = .ok (.invokestatic 54, 3) := by decide +kernel
theorem dX5_rule_23 : decode cX5_rule 23 = .ok (.ifCond .eq 14, 3) := by decide +kernel
theorem dX5_rule_26 : decode cX5_rule 26 = .ok (.aload_n 0, 1) := by decide +kernel
theorem dX5_rule_27 : decode cX5_rule 27 = .ok (.iconst 3, 1) := by decide +kernel
theorem dX5_rule_28 : decode cX5_rule 28 = .ok (.iload_n 1, 1) := by decide +kernel
theorem dX5_rule_29 : decode cX5_rule 29 = .ok (.iadd, 1) := by decide +kernel
theorem dX5_rule_30 : decode cX5_rule 30 = .ok (.iload_n 2, 1) := by decide +kernel
theorem dX5_rule_31 : decode cX5_rule 31 = .ok (.invokevirtual 97, 3) := by decide +kernel
theorem dX5_rule_34 : decode cX5_rule 34 = .ok (.goto 9, 3) := by decide +kernel
theorem dX5_rule_37 : decode cX5_rule 37 = .ok (.aload_n 0, 1) := by decide +kernel
theorem dX5_rule_38 : decode cX5_rule 38 = .ok (.ldc 44, 2) := by decide +kernel
theorem dX5_rule_40 : decode cX5_rule 40 = .ok (.invokevirtual 60, 3) := by decide +kernel
theorem dX5_rule_43 : decode cX5_rule 43 = .ok (.ireturn, 1) := by decide +kernel
def mX5_rule_b37   (V : jMem) : Option (Int32 × jMem) := ((mX5_finds (-1000000001 : Int32) V).bind (fun (p1 : Int32 × jMem) => (some (p1.1, p1.2))))
set_option maxHeartbeats 4000000 in
set_option maxRecDepth 20000 in
theorem tX5_rule_b37 {l : Launch} {Z : jZ} {q : Nat → Nat} {V : jMem} {r : Int32} {V' : jMem}    (hm : mX5_rule_b37 V = some (r, V')) : J l Z RX5 "rule" cX5_rule 3 (some .int) 1 0 0 (fun r' w => r' = some (.int r) ∧ w = jw Z q V' dM) 37 [(0, .ref (q 0))] [] (jw Z q V dM) 0 0 := by
  unfold mX5_rule_b37 at hm
  refine j_aload_n dX5_rule_37 rfl rfl ?_
  refine j_ldc dX5_rule_38 rfl wX5_44 ?_
  obtain ⟨p1, ep1, hm⟩ := jb_of hm
  refine o_callV_i kX5_60 dX5_rule_40 rfl (tX5_finds  ep1) rfl rfl rfl rfl rfl (Nat.le_of_ble_eq_true rfl) (by decide) ?_
  exact j_ireturn dX5_rule_43 rfl rfl ⟨Nat.le_refl _, Nat.le_refl _⟩ (jf_m (fun z => .int z) hm)
def mX5_rule (a1 : Int32) (a2 : Int32) (V : jMem) : Option (Int32 × jMem) := (if (mX5_isIn (Int32.toInt64 a1) (0 : Int64) (3 : Int64)) = (0 : Int32) then (mX5_rule_b37 V) else (if (mX5_isIn (Int32.toInt64 a2) (0 : Int64) (Int32.toInt64 (mX5_mostOf a1))) = (0 : Int32) then (mX5_rule_b37 V) else ((mX5_becomes ((3 : Int32) + a1) a2 V).bind (fun (p3 : Int32 × jMem) => (some (p3.1, p3.2))))))
set_option maxHeartbeats 4000000 in
set_option maxRecDepth 20000 in
theorem tX5_rule {l : Launch} {Z : jZ} {q : Nat → Nat} {a1 : Int32} {a2 : Int32} {V : jMem} {r : Int32} {V' : jMem}  (hm : mX5_rule a1 a2 V = some (r, V')) : CtD l Z yX5_rule cX5_rule 3 (some .int) 1 q dM [.ref (q 0), .int a1, .int a2] V (some (.int r)) V' := by
  refine Ct_of (L := [(0, .ref (q 0)), (1, .int a1), (2, .int a2)]) (own := RX5) (nm := "rule") rfl rfl (by decide +kernel) rfl (Nat.le_of_ble_eq_true rfl) ?_
  unfold mX5_rule at hm
  refine j_iload_n dX5_rule_0 rfl rfl ?_
  refine j_i2l dX5_rule_1 rfl ?_
  refine j_lconst (v := 0) dX5_rule_2 rfl (by decide) ?_
  refine j_ldc2 dX5_rule_3 rfl wX5_91 ?_
  refine o_callS_i kX5_54 dX5_rule_6 rfl (tX5_isIn  rfl) rfl rfl (Nat.le_of_ble_eq_true rfl) (by decide) ?_
  refine j_if_eq (tgt := 37) dX5_rule_9 rfl (by decide) (fun c1 => ?_) (fun c1 => ?_)
  · have hm := jif_pos c1 hm
    refine j_sub (L' := [(0, _)]) [0] rfl ?_
    exact tX5_rule_b37    hm
  · have hm := jif_neg c1 hm
    refine j_iload_n dX5_rule_12 rfl rfl ?_
    refine j_i2l dX5_rule_13 rfl ?_
    refine j_lconst (v := 0) dX5_rule_14 rfl (by decide) ?_
    refine j_iload_n dX5_rule_15 rfl rfl ?_
    refine o_callS_i kX5_101 dX5_rule_16 rfl (tX5_mostOf  rfl) rfl rfl (Nat.le_of_ble_eq_true rfl) (by decide) ?_
    refine j_i2l dX5_rule_19 rfl ?_
    refine o_callS_i kX5_54 dX5_rule_20 rfl (tX5_isIn  rfl) rfl rfl (Nat.le_of_ble_eq_true rfl) (by decide) ?_
    refine j_if_eq (tgt := 37) dX5_rule_23 rfl (by decide) (fun c2 => ?_) (fun c2 => ?_)
    · have hm := jif_pos c2 hm
      refine j_sub (L' := [(0, _)]) [0] rfl ?_
      exact tX5_rule_b37    hm
    · have hm := jif_neg c2 hm
      refine j_aload_n dX5_rule_26 rfl rfl ?_
      refine j_iconst (v := 3) dX5_rule_27 rfl (by decide) ?_
      refine j_iload_n dX5_rule_28 rfl rfl ?_
      refine j_iadd dX5_rule_29 rfl ?_
      refine j_iload_n dX5_rule_30 rfl rfl ?_
      obtain ⟨p3, ep3, hm⟩ := jb_of hm
      refine o_callV_i kX5_97 dX5_rule_31 rfl (tX5_becomes  ep3) rfl rfl rfl rfl rfl (Nat.le_of_ble_eq_true rfl) (by decide) ?_
      refine j_goto (tgt := 43) dX5_rule_34 (by decide) ?_
      exact j_ireturn dX5_rule_43 rfl rfl ⟨Nat.le_refl _, Nat.le_refl _⟩ (jf_m (fun z => .int z) hm)
theorem dX5_offered_0 : decode cX5_offered 0 = .ok (.iload_n 2, 1) := by decide +kernel
theorem dX5_offered_1 : decode cX5_offered 1 = .ok (.aload_n 0, 1) := by decide +kernel
theorem dX5_offered_2 : decode cX5_offered 2 = .ok (.iload_n 1, 1) := by decide +kernel
theorem dX5_offered_3 : decode cX5_offered 3 = .ok (.invokevirtual 88, 3) := by decide +kernel
theorem dX5_offered_6 : decode cX5_offered 6 = .ok (.if_icmp .lt 40, 3) := by decide +kernel
theorem dX5_offered_9 : decode cX5_offered 9 = .ok (.aload_n 0, 1) := by decide +kernel
theorem dX5_offered_10 : decode cX5_offered 10 = .ok (.getfield 7, 3) := by decide +kernel
theorem dX5_offered_13 : decode cX5_offered 13 = .ok (.aload_n 0, 1) := by decide +kernel
theorem dX5_offered_14 : decode cX5_offered 14 = .ok (.iload_n 1, 1) := by decide +kernel
theorem dX5_offered_15 : decode cX5_offered 15 = .ok (.iconst 4, 1) := by decide +kernel
theorem dX5_offered_16 : decode cX5_offered 16 = .ok (.invokevirtual 49, 3) := by decide +kernel
theorem dX5_offered_19 : decode cX5_offered 19 = .ok (.iconst 1, 1) := by decide +kernel
theorem dX5_offered_20 : decode cX5_offered 20 = .ok (.iastore, 1) := by decide +kernel
theorem dX5_offered_21 : decode cX5_offered 21 = .ok (.aload_n 0, 1) := by decide +kernel
theorem dX5_offered_22 : decode cX5_offered 22 = .ok (.getfield 7, 3) := by decide +kernel
theorem dX5_offered_25 : decode cX5_offered 25 = .ok (.aload_n 0, 1) := by decide +kernel
theorem dX5_offered_26 : decode cX5_offered 26 = .ok (.iload_n 1, 1) := by decide +kernel
theorem dX5_offered_27 : decode cX5_offered 27 = .ok (.iconst 5, 1) := by decide +kernel
theorem dX5_offered_28 : decode cX5_offered 28 = .ok (.invokevirtual 49, 3) := by decide +kernel
theorem dX5_offered_31 : decode cX5_offered 31 = .ok (.iconst (-1), 1) := by decide +kernel
theorem dX5_offered_32 : decode cX5_offered 32 = .ok (.iastore, 1) := by decide +kernel
theorem dX5_offered_33 : decode cX5_offered 33 = .ok (.aload_n 0, 1) := by decide +kernel
theorem dX5_offered_34 : decode cX5_offered 34 = .ok (.dup, 1) := by decide +kernel
theorem dX5_offered_35 : decode cX5_offered 35 = .ok (.getfield 104, 3) := by decide +kernel
theorem dX5_offered_38 : decode cX5_offered 38 = .ok (.iload_n 2, 1) := by decide +kernel
theorem dX5_offered_39 : decode cX5_offered 39 = .ok (.i2l, 1) := by decide +kernel
theorem dX5_offered_40 : decode cX5_offered 40 = .ok (.ladd, 1) := by decide +kernel
theorem dX5_offered_41 : decode cX5_offered 41 = .ok (.putfield 104, 3) := by decide +kernel
theorem dX5_offered_44 : decode cX5_offered 44 = .ok (.iconst 1, 1) := by decide +kernel
theorem dX5_offered_45 : decode cX5_offered 45 = .ok (.ireturn, 1) := by decide +kernel
theorem dX5_offered_46 : decode cX5_offered 46 = .ok (.aload_n 0, 1) := by decide +kernel
theorem dX5_offered_47 : decode cX5_offered 47 = .ok (.iload_n 1, 1) := by decide +kernel
theorem dX5_offered_48 : decode cX5_offered 48 = .ok (.iconst 2, 1) := by decide +kernel
theorem dX5_offered_49 : decode cX5_offered 49 = .ok (.invokevirtual 45, 3) := by decide +kernel
theorem dX5_offered_52 : decode cX5_offered 52 = .ok (.istore_n 3, 1) := by decide +kernel
theorem dX5_offered_53 : decode cX5_offered 53 = .ok (.aload_n 0, 1) := by decide +kernel
theorem dX5_offered_54 : decode cX5_offered 54 = .ok (.getfield 7, 3) := by decide +kernel
theorem dX5_offered_57 : decode cX5_offered 57 = .ok (.aload_n 0, 1) := by decide +kernel
theorem dX5_offered_58 : decode cX5_offered 58 = .ok (.iload_n 1, 1) := by decide +kernel
theorem dX5_offered_59 : decode cX5_offered 59 = .ok (.iconst 2, 1) := by decide +kernel
theorem dX5_offered_60 : decode cX5_offered 60 = .ok (.invokevirtual 49, 3) := by decide +kernel
theorem dX5_offered_63 : decode cX5_offered 63 = .ok (.iload_n 3, 1) := by decide +kernel
theorem dX5_offered_64 : decode cX5_offered 64 = .ok (.bipush 9, 2) := by decide +kernel
theorem dX5_offered_66 : decode cX5_offered 66 = .ok (.if_icmp .ge 9, 3) := by decide +kernel
theorem dX5_offered_69 : decode cX5_offered 69 = .ok (.iload_n 3, 1) := by decide +kernel
theorem dX5_offered_70 : decode cX5_offered 70 = .ok (.iconst 1, 1) := by decide +kernel
theorem dX5_offered_71 : decode cX5_offered 71 = .ok (.iadd, 1) := by decide +kernel
theorem dX5_offered_72 : decode cX5_offered 72 = .ok (.goto 5, 3) := by decide +kernel
theorem dX5_offered_75 : decode cX5_offered 75 = .ok (.bipush 9, 2) := by decide +kernel
theorem dX5_offered_77 : decode cX5_offered 77 = .ok (.iastore, 1) := by decide +kernel
theorem dX5_offered_78 : decode cX5_offered 78 = .ok (.iconst 0, 1) := by decide +kernel
theorem dX5_offered_79 : decode cX5_offered 79 = .ok (.ireturn, 1) := by decide +kernel
def mX5_offered_b77   (s0 : Int32) (s1 : Int32) (V : jMem) : Option (Int32 × jMem) := (jg (jin s1 120) (jl (jsI V 1 (Int32.toNatClampNeg s1) s0) (fun (V2 : jMem) => (some ((0 : Int32), V2)))))
set_option maxHeartbeats 4000000 in
set_option maxRecDepth 20000 in
theorem tX5_offered_b77 {l : Launch} {Z : jZ} {q : Nat → Nat} {s0 : Int32} {s1 : Int32} {V : jMem} {r : Int32} {V' : jMem}    (hm : mX5_offered_b77 s0 s1 V = some (r, V')) : J l Z RX5 "offered" cX5_offered 4 (some .boolean) 5 0 0 (fun r' w => r' = some (.int r) ∧ w = jw Z q V' dM) 77 [] [.int s0, .int s1, .ref (q 1)] (jw Z q V dM) 0 0 := by
  unfold mX5_offered_b77 at hm
  obtain ⟨g1, hm⟩ := jg_of hm
  refine o_iast (k := (Int32.toNatClampNeg s1)) rfl dX5_offered_77 rfl rfl (jin_vp g1) ?_
  obtain ⟨V2, eV2⟩ : ∃ y, y = (jsI V 1 (Int32.toNatClampNeg s1) s0) := ⟨_, rfl⟩
  have hm := jl_of hm eV2
  rw [← eV2]
  refine j_iconst (v := 0) dX5_offered_78 rfl (by decide) ?_
  exact j_zreturn dX5_offered_79 rfl (by decide) ⟨Nat.le_refl _, Nat.le_refl _⟩ (jf_m (fun z => .int z) hm)
def mX5_offered (a1 : Int32) (a2 : Int32) (V : jMem) : Option (Int32 × jMem) := ((mX5_asksNow a1 V).bind (fun (r1 : Int32) => (if a2 < r1 then ((mX5_has a1 (2 : Int32) V).bind (fun (r3 : Int32) => (if (9 : Int32) ≤ r3 then (mX5_offered_b77 (9 : Int32) (mX5_at a1 (2 : Int32)) V) else (mX5_offered_b77 (r3 + (1 : Int32)) (mX5_at a1 (2 : Int32)) V)))) else (jg (jin (mX5_at a1 (4 : Int32)) 120) (jl (jsI V 1 (Int32.toNatClampNeg (mX5_at a1 (4 : Int32))) (1 : Int32)) (fun (V6 : jMem) => (jg (jin (mX5_at a1 (5 : Int32)) 120) (jl (jsI V6 1 (Int32.toNatClampNeg (mX5_at a1 (5 : Int32))) (-1 : Int32)) (fun (V8 : jMem) => (jl (jsL V8 0 3 ((V8.2 0 3) + (Int32.toInt64 a2))) (fun (V9 : jMem) => (some ((1 : Int32), V9)))))))))))))
set_option maxHeartbeats 4000000 in
set_option maxRecDepth 20000 in
theorem tX5_offered {l : Launch} {Z : jZ} {q : Nat → Nat} {a1 : Int32} {a2 : Int32} {V : jMem} {r : Int32} {V' : jMem}  (hm : mX5_offered a1 a2 V = some (r, V')) : CtD l Z yX5_offered cX5_offered 4 (some .boolean) 5 q dM [.ref (q 0), .int a1, .int a2] V (some (.int r)) V' := by
  refine Ct_of (L := [(0, .ref (q 0)), (1, .int a1), (2, .int a2)]) (own := RX5) (nm := "offered") rfl rfl (by decide +kernel) rfl (Nat.le_of_ble_eq_true rfl) ?_
  unfold mX5_offered at hm
  refine j_iload_n dX5_offered_0 rfl rfl ?_
  refine j_aload_n dX5_offered_1 rfl rfl ?_
  refine j_iload_n dX5_offered_2 rfl rfl ?_
  obtain ⟨r1, er1, hm⟩ := jb_of hm
  refine o_callV_i kX5_88 dX5_offered_3 rfl (tX5_asksNow  er1) rfl rfl rfl rfl rfl (Nat.le_of_ble_eq_true rfl) (by decide) ?_
  refine j_icmp_lt (tgt := 46) dX5_offered_6 rfl (by decide) (fun c2 => ?_) (fun c2 => ?_)
  · have hm := jif_pos c2 hm
    refine j_aload_n dX5_offered_46 rfl rfl ?_
    refine j_iload_n dX5_offered_47 rfl rfl ?_
    refine j_iconst (v := 2) dX5_offered_48 rfl (by decide) ?_
    obtain ⟨r3, er3, hm⟩ := jb_of hm
    refine o_callV_i kX5_45 dX5_offered_49 rfl (tX5_has  er3) rfl rfl rfl rfl rfl (Nat.le_of_ble_eq_true rfl) (by decide) ?_
    refine j_istore_n (i := 3) (L' := [(3, _), (0, _), (1, _), (2, _)]) dX5_offered_52 rfl rfl (by decide) rfl ?_
    refine j_aload_n dX5_offered_53 rfl rfl ?_
    refine m_getr (k := 0) (r := 1) fX5_7 dX5_offered_54 rfl rfl rfl ?_
    refine j_aload_n dX5_offered_57 rfl rfl ?_
    refine j_iload_n dX5_offered_58 rfl rfl ?_
    refine j_iconst (v := 2) dX5_offered_59 rfl (by decide) ?_
    refine o_callV_i kX5_49 dX5_offered_60 rfl (tX5_at  rfl) rfl rfl rfl rfl rfl (Nat.le_of_ble_eq_true rfl) (by decide) ?_
    refine j_iload_n dX5_offered_63 rfl rfl ?_
    refine j_bipush (v := 9) dX5_offered_64 rfl (by decide) ?_
    refine j_icmp_ge (tgt := 75) dX5_offered_66 rfl (by decide) (fun c4 => ?_) (fun c4 => ?_)
    · have hm := jif_pos c4 hm
      refine j_bipush (v := 9) dX5_offered_75 rfl (by decide) ?_
      refine j_sub (L' := []) [] rfl ?_
      exact tX5_offered_b77    hm
    · have hm := jif_neg c4 hm
      refine j_iload_n dX5_offered_69 rfl rfl ?_
      refine j_iconst (v := 1) dX5_offered_70 rfl (by decide) ?_
      refine j_iadd dX5_offered_71 rfl ?_
      refine j_goto (tgt := 77) dX5_offered_72 (by decide) ?_
      refine j_sub (L' := []) [] rfl ?_
      exact tX5_offered_b77    hm
  · have hm := jif_neg c2 hm
    refine j_aload_n dX5_offered_9 rfl rfl ?_
    refine m_getr (k := 0) (r := 1) fX5_7 dX5_offered_10 rfl rfl rfl ?_
    refine j_aload_n dX5_offered_13 rfl rfl ?_
    refine j_iload_n dX5_offered_14 rfl rfl ?_
    refine j_iconst (v := 4) dX5_offered_15 rfl (by decide) ?_
    refine o_callV_i kX5_49 dX5_offered_16 rfl (tX5_at  rfl) rfl rfl rfl rfl rfl (Nat.le_of_ble_eq_true rfl) (by decide) ?_
    refine j_iconst (v := 1) dX5_offered_19 rfl (by decide) ?_
    obtain ⟨g5, hm⟩ := jg_of hm
    refine o_iast (k := (Int32.toNatClampNeg (mX5_at a1 (4 : Int32)))) rfl dX5_offered_20 rfl rfl (jin_vp g5) ?_
    obtain ⟨V6, eV6⟩ : ∃ y, y = (jsI V 1 (Int32.toNatClampNeg (mX5_at a1 (4 : Int32))) (1 : Int32)) := ⟨_, rfl⟩
    have hm := jl_of hm eV6
    rw [← eV6]
    refine j_aload_n dX5_offered_21 rfl rfl ?_
    refine m_getr (k := 0) (r := 1) fX5_7 dX5_offered_22 rfl rfl rfl ?_
    refine j_aload_n dX5_offered_25 rfl rfl ?_
    refine j_iload_n dX5_offered_26 rfl rfl ?_
    refine j_iconst (v := 5) dX5_offered_27 rfl (by decide) ?_
    refine o_callV_i kX5_49 dX5_offered_28 rfl (tX5_at  rfl) rfl rfl rfl rfl rfl (Nat.le_of_ble_eq_true rfl) (by decide) ?_
    refine j_iconst (v := -1) dX5_offered_31 rfl (by decide) ?_
    obtain ⟨g7, hm⟩ := jg_of hm
    refine o_iast (k := (Int32.toNatClampNeg (mX5_at a1 (5 : Int32)))) rfl dX5_offered_32 rfl rfl (jin_vp g7) ?_
    obtain ⟨V8, eV8⟩ : ∃ y, y = (jsI V6 1 (Int32.toNatClampNeg (mX5_at a1 (5 : Int32))) (-1 : Int32)) := ⟨_, rfl⟩
    have hm := jl_of hm eV8
    rw [← eV8]
    refine j_aload_n dX5_offered_33 rfl rfl ?_
    refine j_dup dX5_offered_34 rfl rfl ?_
    refine m_getl (k := 3) fX5_104 dX5_offered_35 rfl rfl rfl ?_
    refine j_iload_n dX5_offered_38 rfl rfl ?_
    refine j_i2l dX5_offered_39 rfl ?_
    refine j_ladd dX5_offered_40 rfl ?_
    refine m_putl (k := 3) fX5_104 dX5_offered_41 rfl rfl rfl ?_
    obtain ⟨V9, eV9⟩ : ∃ y, y = (jsL V8 0 3 ((V8.2 0 3) + (Int32.toInt64 a2))) := ⟨_, rfl⟩
    have hm := jl_of hm eV9
    rw [← eV9]
    refine j_iconst (v := 1) dX5_offered_44 rfl (by decide) ?_
    exact j_zreturn dX5_offered_45 rfl (by decide) ⟨Nat.le_refl _, Nat.le_refl _⟩ (jf_m (fun z => .int z) hm)
theorem dX5_offer_0 : decode cX5_offer 0 = .ok (.aload_n 0, 1) := by decide +kernel
theorem dX5_offer_1 : decode cX5_offer 1 = .ok (.iload_n 1, 1) := by decide +kernel
theorem dX5_offer_2 : decode cX5_offer 2 = .ok (.i2l, 1) := by decide +kernel
theorem dX5_offer_3 : decode cX5_offer 3 = .ok (.invokevirtual 82, 3) := by decide +kernel
theorem dX5_offer_6 : decode cX5_offer 6 = .ok (.ifCond .eq 15, 3) := by decide +kernel
theorem dX5_offer_9 : decode cX5_offer 9 = .ok (.iload_n 2, 1) := by decide +kernel
theorem dX5_offer_10 : decode cX5_offer 10 = .ok (.i2l, 1) := by decide +kernel
theorem dX5_offer_11 : decode cX5_offer 11 = .ok (.lconst 0, 1) := by decide +kernel
theorem dX5_offer_12 : decode cX5_offer 12 = .ok (.ldc2_w 108, 3) := by decide +kernel
theorem dX5_offer_15 : decode cX5_offer 15 = .ok (.invokestatic 54, 3) := by decide +kernel
theorem dX5_offer_18 : decode cX5_offer 18 = .ok (.ifCond .ne 10, 3) := by decide +kernel
theorem dX5_offer_21 : decode cX5_offer 21 = .ok (.aload_n 0, 1) := by decide +kernel
theorem dX5_offer_22 : decode cX5_offer 22 = .ok (.ldc 44, 2) := by decide +kernel
theorem dX5_offer_24 : decode cX5_offer 24 = .ok (.invokevirtual 60, 3) := by decide +kernel
theorem dX5_offer_27 : decode cX5_offer 27 = .ok (.ireturn, 1) := by decide +kernel
theorem dX5_offer_28 : decode cX5_offer 28 = .ok (.aload_n 0, 1) := by decide +kernel
theorem dX5_offer_29 : decode cX5_offer 29 = .ok (.iload_n 1, 1) := by decide +kernel
theorem dX5_offer_30 : decode cX5_offer 30 = .ok (.invokevirtual 110, 3) := by decide +kernel
theorem dX5_offer_33 : decode cX5_offer 33 = .ok (.ifCond .ne 10, 3) := by decide +kernel
theorem dX5_offer_36 : decode cX5_offer 36 = .ok (.aload_n 0, 1) := by decide +kernel
theorem dX5_offer_37 : decode cX5_offer 37 = .ok (.ldc 114, 2) := by decide +kernel
theorem dX5_offer_39 : decode cX5_offer 39 = .ok (.invokevirtual 60, 3) := by decide +kernel
theorem dX5_offer_42 : decode cX5_offer 42 = .ok (.ireturn, 1) := by decide +kernel
theorem dX5_offer_43 : decode cX5_offer 43 = .ok (.aload_n 0, 1) := by decide +kernel
theorem dX5_offer_44 : decode cX5_offer 44 = .ok (.iload_n 1, 1) := by decide +kernel
theorem dX5_offer_45 : decode cX5_offer 45 = .ok (.iload_n 2, 1) := by decide +kernel
theorem dX5_offer_46 : decode cX5_offer 46 = .ok (.invokevirtual 115, 3) := by decide +kernel
theorem dX5_offer_49 : decode cX5_offer 49 = .ok (.ifCond .eq 7, 3) := by decide +kernel
theorem dX5_offer_52 : decode cX5_offer 52 = .ok (.iconst 1, 1) := by decide +kernel
theorem dX5_offer_53 : decode cX5_offer 53 = .ok (.goto 4, 3) := by decide +kernel
theorem dX5_offer_56 : decode cX5_offer 56 = .ok (.iconst 0, 1) := by decide +kernel
theorem dX5_offer_57 : decode cX5_offer 57 = .ok (.ireturn, 1) := by decide +kernel
def mX5_offer_b21   (V : jMem) : Option (Int32 × jMem) := ((mX5_finds (-1000000001 : Int32) V).bind (fun (p1 : Int32 × jMem) => (some (p1.1, p1.2))))
set_option maxHeartbeats 4000000 in
set_option maxRecDepth 20000 in
theorem tX5_offer_b21 {l : Launch} {Z : jZ} {q : Nat → Nat} {V : jMem} {r : Int32} {V' : jMem}    (hm : mX5_offer_b21 V = some (r, V')) : J l Z RX5 "offer" cX5_offer 3 (some .int) 6 0 0 (fun r' w => r' = some (.int r) ∧ w = jw Z q V' dM) 21 [(0, .ref (q 0))] [] (jw Z q V dM) 0 0 := by
  unfold mX5_offer_b21 at hm
  refine j_aload_n dX5_offer_21 rfl rfl ?_
  refine j_ldc dX5_offer_22 rfl wX5_44 ?_
  obtain ⟨p1, ep1, hm⟩ := jb_of hm
  refine o_callV_i kX5_60 dX5_offer_24 rfl (tX5_finds  ep1) rfl rfl rfl rfl rfl (Nat.le_of_ble_eq_true rfl) (by decide) ?_
  exact j_ireturn dX5_offer_27 rfl rfl ⟨Nat.le_refl _, Nat.le_refl _⟩ (jf_m (fun z => .int z) hm)
def mX5_offer (a1 : Int32) (a2 : Int32) (V : jMem) : Option (Int32 × jMem) := (if (mX5_isField (Int32.toInt64 a1) V) = (0 : Int32) then (mX5_offer_b21 V) else (if (mX5_isIn (Int32.toInt64 a2) (0 : Int64) (99999 : Int64)) = (0 : Int32) then (mX5_offer_b21 V) else ((mX5_isFree a1 V).bind (fun (r3 : Int32) => (if r3 = (0 : Int32) then ((mX5_finds (-1000000005 : Int32) V).bind (fun (p7 : Int32 × jMem) => (some (p7.1, p7.2)))) else ((mX5_offered a1 a2 V).bind (fun (p5 : Int32 × jMem) => (if p5.1 = (0 : Int32) then (some ((0 : Int32), p5.2)) else (some ((1 : Int32), p5.2))))))))))
set_option maxHeartbeats 4000000 in
set_option maxRecDepth 20000 in
theorem tX5_offer {l : Launch} {Z : jZ} {q : Nat → Nat} {a1 : Int32} {a2 : Int32} {V : jMem} {r : Int32} {V' : jMem}  (hm : mX5_offer a1 a2 V = some (r, V')) : CtD l Z yX5_offer cX5_offer 3 (some .int) 6 q dM [.ref (q 0), .int a1, .int a2] V (some (.int r)) V' := by
  refine Ct_of (L := [(0, .ref (q 0)), (1, .int a1), (2, .int a2)]) (own := RX5) (nm := "offer") rfl rfl (by decide +kernel) rfl (Nat.le_of_ble_eq_true rfl) ?_
  unfold mX5_offer at hm
  refine j_aload_n dX5_offer_0 rfl rfl ?_
  refine j_iload_n dX5_offer_1 rfl rfl ?_
  refine j_i2l dX5_offer_2 rfl ?_
  refine o_callV_i kX5_82 dX5_offer_3 rfl (tX5_isField  rfl) rfl rfl rfl rfl rfl (Nat.le_of_ble_eq_true rfl) (by decide) ?_
  refine j_if_eq (tgt := 21) dX5_offer_6 rfl (by decide) (fun c1 => ?_) (fun c1 => ?_)
  · have hm := jif_pos c1 hm
    refine j_sub (L' := [(0, _)]) [0] rfl ?_
    exact tX5_offer_b21    hm
  · have hm := jif_neg c1 hm
    refine j_iload_n dX5_offer_9 rfl rfl ?_
    refine j_i2l dX5_offer_10 rfl ?_
    refine j_lconst (v := 0) dX5_offer_11 rfl (by decide) ?_
    refine j_ldc2 dX5_offer_12 rfl wX5_108 ?_
    refine o_callS_i kX5_54 dX5_offer_15 rfl (tX5_isIn  rfl) rfl rfl (Nat.le_of_ble_eq_true rfl) (by decide) ?_
    refine j_if_ne (tgt := 28) dX5_offer_18 rfl (by decide) (fun c2 => ?_) (fun c2 => ?_)
    · have hm := jif_neg c2 hm
      refine j_aload_n dX5_offer_28 rfl rfl ?_
      refine j_iload_n dX5_offer_29 rfl rfl ?_
      obtain ⟨r3, er3, hm⟩ := jb_of hm
      refine o_callV_i kX5_110 dX5_offer_30 rfl (tX5_isFree  er3) rfl rfl rfl rfl rfl (Nat.le_of_ble_eq_true rfl) (by decide) ?_
      refine j_if_ne (tgt := 43) dX5_offer_33 rfl (by decide) (fun c4 => ?_) (fun c4 => ?_)
      · have hm := jif_neg c4 hm
        refine j_aload_n dX5_offer_43 rfl rfl ?_
        refine j_iload_n dX5_offer_44 rfl rfl ?_
        refine j_iload_n dX5_offer_45 rfl rfl ?_
        obtain ⟨p5, ep5, hm⟩ := jb_of hm
        refine o_callV_i kX5_115 dX5_offer_46 rfl (tX5_offered  ep5) rfl rfl rfl rfl rfl (Nat.le_of_ble_eq_true rfl) (by decide) ?_
        refine j_if_eq (tgt := 56) dX5_offer_49 rfl (by decide) (fun c6 => ?_) (fun c6 => ?_)
        · have hm := jif_pos c6 hm
          refine j_iconst (v := 0) dX5_offer_56 rfl (by decide) ?_
          exact j_ireturn dX5_offer_57 rfl rfl ⟨Nat.le_refl _, Nat.le_refl _⟩ (jf_m (fun z => .int z) hm)
        · have hm := jif_neg c6 hm
          refine j_iconst (v := 1) dX5_offer_52 rfl (by decide) ?_
          refine j_goto (tgt := 57) dX5_offer_53 (by decide) ?_
          exact j_ireturn dX5_offer_57 rfl rfl ⟨Nat.le_refl _, Nat.le_refl _⟩ (jf_m (fun z => .int z) hm)
      · have hm := jif_pos c4 hm
        refine j_aload_n dX5_offer_36 rfl rfl ?_
        refine j_ldc dX5_offer_37 rfl wX5_114 ?_
        obtain ⟨p7, ep7, hm⟩ := jb_of hm
        refine o_callV_i kX5_60 dX5_offer_39 rfl (tX5_finds  ep7) rfl rfl rfl rfl rfl (Nat.le_of_ble_eq_true rfl) (by decide) ?_
        exact j_ireturn dX5_offer_42 rfl rfl ⟨Nat.le_refl _, Nat.le_refl _⟩ (jf_m (fun z => .int z) hm)
    · have hm := jif_pos c2 hm
      refine j_sub (L' := [(0, _)]) [0] rfl ?_
      exact tX5_offer_b21    hm
theorem dX5_papers_0 : decode cX5_papers 0 = .ok (.iconst 0, 1) := by decide +kernel
theorem dX5_papers_1 : decode cX5_papers 1 = .ok (.istore_n 1, 1) := by decide +kernel
theorem dX5_papers_2 : decode cX5_papers 2 = .ok (.iconst 0, 1) := by decide +kernel
theorem dX5_papers_3 : decode cX5_papers 3 = .ok (.istore_n 2, 1) := by decide +kernel
theorem dX5_papers_4 : decode cX5_papers 4 = .ok (.iload_n 2, 1) := by decide +kernel
theorem dX5_papers_5 : decode cX5_papers 5 = .ok (.aload_n 0, 1) := by decide +kernel
theorem dX5_papers_6 : decode cX5_papers 6 = .ok (.getfield 7, 3) := by decide +kernel
theorem dX5_papers_9 : decode cX5_papers 9 = .ok (.iconst 0, 1) := by decide +kernel
theorem dX5_papers_10 : decode cX5_papers 10 = .ok (.iaload, 1) := by decide +kernel
theorem dX5_papers_11 : decode cX5_papers 11 = .ok (.if_icmp .ge 26, 3) := by decide +kernel
theorem dX5_papers_14 : decode cX5_papers 14 = .ok (.iload_n 1, 1) := by decide +kernel
theorem dX5_papers_15 : decode cX5_papers 15 = .ok (.aload_n 0, 1) := by decide +kernel
theorem dX5_papers_16 : decode cX5_papers 16 = .ok (.iload_n 2, 1) := by decide +kernel
theorem dX5_papers_17 : decode cX5_papers 17 = .ok (.iconst 5, 1) := by decide +kernel
theorem dX5_papers_18 : decode cX5_papers 18 = .ok (.invokevirtual 45, 3) := by decide +kernel
theorem dX5_papers_21 : decode cX5_papers 21 = .ok (.ifCond .lt 7, 3) := by decide +kernel
theorem dX5_papers_24 : decode cX5_papers 24 = .ok (.iconst 1, 1) := by decide +kernel
theorem dX5_papers_25 : decode cX5_papers 25 = .ok (.goto 4, 3) := by decide +kernel
theorem dX5_papers_28 : decode cX5_papers 28 = .ok (.iconst 0, 1) := by decide +kernel
theorem dX5_papers_29 : decode cX5_papers 29 = .ok (.iadd, 1) := by decide +kernel
theorem dX5_papers_30 : decode cX5_papers 30 = .ok (.istore_n 1, 1) := by decide +kernel
theorem dX5_papers_31 : decode cX5_papers 31 = .ok (.iinc 2 1, 3) := by decide +kernel
theorem dX5_papers_34 : decode cX5_papers 34 = .ok (.goto (-30), 3) := by decide +kernel
theorem dX5_papers_37 : decode cX5_papers 37 = .ok (.iload_n 1, 1) := by decide +kernel
theorem dX5_papers_38 : decode cX5_papers 38 = .ok (.ireturn, 1) := by decide +kernel
def mX5_papers_b29 (V : jMem) (k4 : Int32 → Int32 → Option Int32) (a2 : Int32) (s0 : Int32) (s1 : Int32) : Option Int32 := (k4 (s1 + s0) (a2 + (1 : Int32)))
set_option maxHeartbeats 4000000 in
set_option maxRecDepth 20000 in
theorem tX5_papers_b29 {l : Launch} {Z : jZ} {q : Nat → Nat} {V : jMem} {k4 : Int32 → Int32 → Option Int32} {a2 : Int32} {s0 : Int32} {s1 : Int32} {r : Int32}   (hk4 : ∀ (a1 : Int32) (a2 : Int32), k4 a1 a2 = some r → J l Z RX5 "papers" cX5_papers 3 (some .int) 1 0 0 (fun r' w => r' = some (.int r) ∧ w = jw Z q V dM) 4 [(0, .ref (q 0)), (1, .int a1), (2, .int a2)] [] (jw Z q V dM) 0 0) (hm : mX5_papers_b29 V k4 a2 s0 s1 = some r) : J l Z RX5 "papers" cX5_papers 3 (some .int) 1 0 0 (fun r' w => r' = some (.int r) ∧ w = jw Z q V dM) 29 [(0, .ref (q 0)), (2, .int a2)] [.int s0, .int s1] (jw Z q V dM) 0 0 := by
  unfold mX5_papers_b29 at hm
  refine j_iadd dX5_papers_29 rfl ?_
  refine j_istore_n (i := 1) (L' := [(1, _), (0, _), (2, _)]) dX5_papers_30 rfl rfl (by decide) rfl ?_
  refine j_iinc (v := (a2 + (1 : Int32))) (L' := [(2, _), (1, _), (0, _)]) dX5_papers_31 rfl rfl rfl (by decide) rfl ?_
  refine j_goto (tgt := 4) dX5_papers_34 (by decide) ?_
  refine j_sub (L' := [(0, _), (1, _), (2, _)]) [2, 1, 0] rfl ?_
  exact hk4 _ _  hm
def mX5_papers_b4 (V : jMem)  : Nat → Int32 → Int32 → Option Int32
  | 0, _, _ => none
  | n + 1, a1, a2 => (if (V.1 1 0) ≤ a2 then (some a1) else ((mX5_has a2 (5 : Int32) V).bind (fun (r2 : Int32) => (if r2 < (0 : Int32) then (mX5_papers_b29 V (mX5_papers_b4 V n) a2 (0 : Int32) a1) else (mX5_papers_b29 V (mX5_papers_b4 V n) a2 (1 : Int32) a1)))))
set_option maxHeartbeats 4000000 in
set_option maxRecDepth 20000 in
theorem tX5_papers_b4 {l : Launch} {Z : jZ} {q : Nat → Nat} {V : jMem} {r : Int32}   (n : Nat) : ∀ (a1 : Int32) (a2 : Int32), mX5_papers_b4 V n a1 a2 = some r → J l Z RX5 "papers" cX5_papers 3 (some .int) 1 0 0 (fun r' w => r' = some (.int r) ∧ w = jw Z q V dM) 4 [(0, .ref (q 0)), (1, .int a1), (2, .int a2)] [] (jw Z q V dM) 0 0 := by
  induction n with
  | zero => intro a1 a2 hm; cases hm
  | succ n ih =>
    intro a1 a2 hm
    rw [mX5_papers_b4] at hm
    refine j_iload_n dX5_papers_4 rfl rfl ?_
    refine j_aload_n dX5_papers_5 rfl rfl ?_
    refine m_getr (k := 0) (r := 1) fX5_7 dX5_papers_6 rfl rfl rfl ?_
    refine j_iconst (v := 0) dX5_papers_9 rfl (by decide) ?_
    refine o_iald (k := 0) (by decide) dX5_papers_10 rfl rfl (jin_vp (by decide)) ?_
    refine j_icmp_ge (tgt := 37) dX5_papers_11 rfl (by decide) (fun c1 => ?_) (fun c1 => ?_)
    · have hm := jif_pos c1 hm
      refine j_iload_n dX5_papers_37 rfl rfl ?_
      exact j_ireturn dX5_papers_38 rfl rfl ⟨Nat.le_refl _, Nat.le_refl _⟩ (jf_p (fun z => .int z) hm)
    · have hm := jif_neg c1 hm
      refine j_iload_n dX5_papers_14 rfl rfl ?_
      refine j_aload_n dX5_papers_15 rfl rfl ?_
      refine j_iload_n dX5_papers_16 rfl rfl ?_
      refine j_iconst (v := 5) dX5_papers_17 rfl (by decide) ?_
      obtain ⟨r2, er2, hm⟩ := jb_of hm
      refine o_callV_i kX5_45 dX5_papers_18 rfl (tX5_has  er2) rfl rfl rfl rfl rfl (Nat.le_of_ble_eq_true rfl) (by decide) ?_
      refine j_if_lt (tgt := 28) dX5_papers_21 rfl (by decide) (fun c3 => ?_) (fun c3 => ?_)
      · have hm := jif_pos c3 hm
        refine j_iconst (v := 0) dX5_papers_28 rfl (by decide) ?_
        refine j_sub (L' := [(0, _), (2, _)]) [0, 2] rfl ?_
        exact tX5_papers_b29   ih hm
      · have hm := jif_neg c3 hm
        refine j_iconst (v := 1) dX5_papers_24 rfl (by decide) ?_
        refine j_goto (tgt := 29) dX5_papers_25 (by decide) ?_
        refine j_sub (L' := [(0, _), (2, _)]) [0, 2] rfl ?_
        exact tX5_papers_b29   ih hm
def mX5_papers (V : jMem) : Option Int32 := (mX5_papers_b4 V 2000 (0 : Int32) (0 : Int32))
set_option maxHeartbeats 4000000 in
set_option maxRecDepth 20000 in
theorem tX5_papers {l : Launch} {Z : jZ} {q : Nat → Nat} {V : jMem} {r : Int32}  (hm : mX5_papers V = some r) : CtD l Z yX5_papers cX5_papers 3 (some .int) 1 q dM [.ref (q 0)] V (some (.int r)) V := by
  refine Ct_of (L := [(0, .ref (q 0))]) (own := RX5) (nm := "papers") rfl rfl (by decide +kernel) rfl (Nat.le_of_ble_eq_true rfl) ?_
  unfold mX5_papers at hm
  refine j_iconst (v := 0) dX5_papers_0 rfl (by decide) ?_
  refine j_istore_n (i := 1) (L' := [(1, _), (0, _)]) dX5_papers_1 rfl rfl (by decide) rfl ?_
  refine j_iconst (v := 0) dX5_papers_2 rfl (by decide) ?_
  refine j_istore_n (i := 2) (L' := [(2, _), (1, _), (0, _)]) dX5_papers_3 rfl rfl (by decide) rfl ?_
  refine j_sub (L' := [(0, _), (1, _), (2, _)]) [2, 1, 0] rfl ?_
  exact tX5_papers_b4   _ _ _  hm
theorem dX5_paperFor_0 : decode cX5_paperFor 0 = .ok (.iload_n 0, 1) := by decide +kernel
theorem dX5_paperFor_1 : decode cX5_paperFor 1 = .ok (.bipush 10, 2) := by decide +kernel
theorem dX5_paperFor_3 : decode cX5_paperFor 3 = .ok (.if_icmp .ge 7, 3) := by decide +kernel
theorem dX5_paperFor_6 : decode cX5_paperFor 6 = .ok (.iconst 1, 1) := by decide +kernel
theorem dX5_paperFor_7 : decode cX5_paperFor 7 = .ok (.goto 7, 3) := by decide +kernel
theorem dX5_paperFor_10 : decode cX5_paperFor 10 = .ok (.iload_n 0, 1) := by decide +kernel
theorem dX5_paperFor_11 : decode cX5_paperFor 11 = .ok (.bipush 10, 2) := by decide +kernel
theorem dX5_paperFor_13 : decode cX5_paperFor 13 = .ok (.idiv, 1) := by decide +kernel
theorem dX5_paperFor_14 : decode cX5_paperFor 14 = .ok (.ireturn, 1) := by decide +kernel
def mX5_paperFor (a0 : Int32) : Int32 := (if (10 : Int32) ≤ a0 then (a0 / (10 : Int32)) else (1 : Int32))
set_option maxHeartbeats 4000000 in
set_option maxRecDepth 20000 in
theorem tX5_paperFor {l : Launch} {Z : jZ} {q : Nat → Nat} {V : jMem} {a0 : Int32} {r : Int32}  (hm : mX5_paperFor a0 = r) : CtD l Z yX5_paperFor cX5_paperFor 1 (some .int) 0 q dM [.int a0] V (some (.int r)) V := by
  refine Ct_of (L := [(0, .int a0)]) (own := RX5) (nm := "paperFor") rfl rfl (by decide +kernel) rfl (Nat.le_of_ble_eq_true rfl) ?_
  unfold mX5_paperFor at hm
  refine j_iload_n dX5_paperFor_0 rfl rfl ?_
  refine j_bipush (v := 10) dX5_paperFor_1 rfl (by decide) ?_
  refine j_icmp_ge (tgt := 10) dX5_paperFor_3 rfl (by decide) (fun c1 => ?_) (fun c1 => ?_)
  · have hm := jif_pos c1 hm
    refine j_iload_n dX5_paperFor_10 rfl rfl ?_
    refine j_bipush (v := 10) dX5_paperFor_11 rfl (by decide) ?_
    refine j_idiv dX5_paperFor_13 rfl (by decide) ?_
    exact j_ireturn dX5_paperFor_14 rfl rfl ⟨Nat.le_refl _, Nat.le_refl _⟩ (jf_t (fun z => .int z) hm)
  · have hm := jif_neg c1 hm
    refine j_iconst (v := 1) dX5_paperFor_6 rfl (by decide) ?_
    refine j_goto (tgt := 14) dX5_paperFor_7 (by decide) ?_
    exact j_ireturn dX5_paperFor_14 rfl rfl ⟨Nat.le_refl _, Nat.le_refl _⟩ (jf_t (fun z => .int z) hm)
theorem dX5_paper_0 : decode cX5_paper 0 = .ok (.aload_n 0, 1) := by decide +kernel
theorem dX5_paper_1 : decode cX5_paper 1 = .ok (.iload_n 1, 1) := by decide +kernel
theorem dX5_paper_2 : decode cX5_paper 2 = .ok (.i2l, 1) := by decide +kernel
theorem dX5_paper_3 : decode cX5_paper 3 = .ok (.invokevirtual 82, 3) := by decide +kernel
theorem dX5_paper_6 : decode cX5_paper 6 = .ok (.ifCond .eq 21, 3) := by decide +kernel
theorem dX5_paper_9 : decode cX5_paper 9 = .ok (.iload_n 2, 1) := by decide +kernel
theorem dX5_paper_10 : decode cX5_paper 10 = .ok (.i2l, 1) := by decide +kernel
theorem dX5_paper_11 : decode cX5_paper 11 = .ok (.aload_n 0, 1) := by decide +kernel
theorem dX5_paper_12 : decode cX5_paper 12 = .ok (.getfield 7, 3) := by decide +kernel
theorem dX5_paper_15 : decode cX5_paper 15 = .ok (.iconst 2, 1) := by decide +kernel
theorem dX5_paper_16 : decode cX5_paper 16 = .ok (.iaload, 1) := by decide +kernel
theorem dX5_paper_17 : decode cX5_paper 17 = .ok (.i2l, 1) := by decide +kernel
theorem dX5_paper_18 : decode cX5_paper 18 = .ok (.ldc2_w 119, 3) := by decide +kernel
theorem dX5_paper_21 : decode cX5_paper 21 = .ok (.invokestatic 54, 3) := by decide +kernel
theorem dX5_paper_24 : decode cX5_paper 24 = .ok (.ifCond .ne 10, 3) := by decide +kernel
theorem dX5_paper_27 : decode cX5_paper 27 = .ok (.aload_n 0, 1) := by decide +kernel
theorem dX5_paper_28 : decode cX5_paper 28 = .ok (.ldc 44, 2) := by decide +kernel
theorem dX5_paper_30 : decode cX5_paper 30 = .ok (.invokevirtual 60, 3) := by decide +kernel
theorem dX5_paper_33 : decode cX5_paper 33 = .ok (.ireturn, 1) := by decide +kernel
theorem dX5_paper_34 : decode cX5_paper 34 = .ok (.aload_n 0, 1) := by decide +kernel
theorem dX5_paper_35 : decode cX5_paper 35 = .ok (.iload_n 1, 1) := by decide +kernel
theorem dX5_paper_36 : decode cX5_paper 36 = .ok (.invokevirtual 110, 3) := by decide +kernel
theorem dX5_paper_39 : decode cX5_paper 39 = .ok (.ifCond .eq 12, 3) := by decide +kernel
theorem dX5_paper_42 : decode cX5_paper 42 = .ok (.aload_n 0, 1) := by decide +kernel
theorem dX5_paper_43 : decode cX5_paper 43 = .ok (.iload_n 1, 1) := by decide +kernel
theorem dX5_paper_44 : decode cX5_paper 44 = .ok (.iconst 5, 1) := by decide +kernel
theorem dX5_paper_45 : decode cX5_paper 45 = .ok (.invokevirtual 45, 3) := by decide +kernel
theorem dX5_paper_48 : decode cX5_paper 48 = .ok (.ifCond .lt 10, 3) := by decide +kernel
theorem dX5_paper_51 : decode cX5_paper 51 = .ok (.aload_n 0, 1) := by decide +kernel
theorem dX5_paper_52 : decode cX5_paper 52 = .ok (.ldc 114, 2) := by decide +kernel
theorem dX5_paper_54 : decode cX5_paper 54 = .ok (.invokevirtual 60, 3) := by decide +kernel
theorem dX5_paper_57 : decode cX5_paper 57 = .ok (.ireturn, 1) := by decide +kernel
theorem dX5_paper_58 : decode cX5_paper 58 = .ok (.aload_n 0, 1) := by decide +kernel
theorem dX5_paper_59 : decode cX5_paper 59 = .ok (.invokevirtual 121, 3) := by decide +kernel
theorem dX5_paper_62 : decode cX5_paper 62 = .ok (.bipush 6, 2) := by decide +kernel
theorem dX5_paper_64 : decode cX5_paper 64 = .ok (.if_icmp .ne 10, 3) := by decide +kernel
theorem dX5_paper_67 : decode cX5_paper 67 = .ok (.aload_n 0, 1) := by decide +kernel
theorem dX5_paper_68 : decode cX5_paper 68 = .ok (.ldc 64, 2) := by decide +kernel
theorem dX5_paper_70 : decode cX5_paper 70 = .ok (.invokevirtual 60, 3) := by decide +kernel
theorem dX5_paper_73 : decode cX5_paper 73 = .ok (.ireturn, 1) := by decide +kernel
theorem dX5_paper_74 : decode cX5_paper 74 = .ok (.aload_n 0, 1) := by decide +kernel
theorem dX5_paper_75 : decode cX5_paper 75 = .ok (.iload_n 1, 1) := by decide +kernel
theorem dX5_paper_76 : decode cX5_paper 76 = .ok (.invokevirtual 88, 3) := by decide +kernel
theorem dX5_paper_79 : decode cX5_paper 79 = .ok (.istore_n 3, 1) := by decide +kernel
theorem dX5_paper_80 : decode cX5_paper 80 = .ok (.aload_n 0, 1) := by decide +kernel
theorem dX5_paper_81 : decode cX5_paper 81 = .ok (.getfield 7, 3) := by decide +kernel
theorem dX5_paper_84 : decode cX5_paper 84 = .ok (.aload_n 0, 1) := by decide +kernel
theorem dX5_paper_85 : decode cX5_paper 85 = .ok (.iload_n 1, 1) := by decide +kernel
theorem dX5_paper_86 : decode cX5_paper 86 = .ok (.iconst 5, 1) := by decide +kernel
theorem dX5_paper_87 : decode cX5_paper 87 = .ok (.invokevirtual 49, 3) := by decide +kernel
theorem dX5_paper_90 : decode cX5_paper 90 = .ok (.iload_n 3, 1) := by decide +kernel
theorem dX5_paper_91 : decode cX5_paper 91 = .ok (.iastore, 1) := by decide +kernel
theorem dX5_paper_92 : decode cX5_paper 92 = .ok (.aload_n 0, 1) := by decide +kernel
theorem dX5_paper_93 : decode cX5_paper 93 = .ok (.getfield 7, 3) := by decide +kernel
theorem dX5_paper_96 : decode cX5_paper 96 = .ok (.aload_n 0, 1) := by decide +kernel
theorem dX5_paper_97 : decode cX5_paper 97 = .ok (.iload_n 1, 1) := by decide +kernel
theorem dX5_paper_98 : decode cX5_paper 98 = .ok (.bipush 6, 2) := by decide +kernel
theorem dX5_paper_100 : decode cX5_paper 100 = .ok (.invokevirtual 49, 3) := by decide +kernel
theorem dX5_paper_103 : decode cX5_paper 103 = .ok (.iload_n 2, 1) := by decide +kernel
theorem dX5_paper_104 : decode cX5_paper 104 = .ok (.iastore, 1) := by decide +kernel
theorem dX5_paper_105 : decode cX5_paper 105 = .ok (.aload_n 0, 1) := by decide +kernel
theorem dX5_paper_106 : decode cX5_paper 106 = .ok (.dup, 1) := by decide +kernel
theorem dX5_paper_107 : decode cX5_paper 107 = .ok (.getfield 104, 3) := by decide +kernel
theorem dX5_paper_110 : decode cX5_paper 110 = .ok (.iload_n 3, 1) := by decide +kernel
theorem dX5_paper_111 : decode cX5_paper 111 = .ok (.invokestatic 124, 3) := by decide +kernel
theorem dX5_paper_114 : decode cX5_paper 114 = .ok (.i2l, 1) := by decide +kernel
theorem dX5_paper_115 : decode cX5_paper 115 = .ok (.ladd, 1) := by decide +kernel
theorem dX5_paper_116 : decode cX5_paper 116 = .ok (.putfield 104, 3) := by decide +kernel
theorem dX5_paper_119 : decode cX5_paper 119 = .ok (.iload_n 3, 1) := by decide +kernel
theorem dX5_paper_120 : decode cX5_paper 120 = .ok (.invokestatic 124, 3) := by decide +kernel
theorem dX5_paper_123 : decode cX5_paper 123 = .ok (.ireturn, 1) := by decide +kernel
def mX5_paper_b27   (V : jMem) : Option (Int32 × jMem) := ((mX5_finds (-1000000001 : Int32) V).bind (fun (p1 : Int32 × jMem) => (some (p1.1, p1.2))))
set_option maxHeartbeats 4000000 in
set_option maxRecDepth 20000 in
theorem tX5_paper_b27 {l : Launch} {Z : jZ} {q : Nat → Nat} {V : jMem} {r : Int32} {V' : jMem}    (hm : mX5_paper_b27 V = some (r, V')) : J l Z RX5 "paper" cX5_paper 4 (some .int) 5 0 0 (fun r' w => r' = some (.int r) ∧ w = jw Z q V' dM) 27 [(0, .ref (q 0))] [] (jw Z q V dM) 0 0 := by
  unfold mX5_paper_b27 at hm
  refine j_aload_n dX5_paper_27 rfl rfl ?_
  refine j_ldc dX5_paper_28 rfl wX5_44 ?_
  obtain ⟨p1, ep1, hm⟩ := jb_of hm
  refine o_callV_i kX5_60 dX5_paper_30 rfl (tX5_finds  ep1) rfl rfl rfl rfl rfl (Nat.le_of_ble_eq_true rfl) (by decide) ?_
  exact j_ireturn dX5_paper_33 rfl rfl ⟨Nat.le_refl _, Nat.le_refl _⟩ (jf_m (fun z => .int z) hm)
def mX5_paper_b51   (V : jMem) : Option (Int32 × jMem) := ((mX5_finds (-1000000005 : Int32) V).bind (fun (p1 : Int32 × jMem) => (some (p1.1, p1.2))))
set_option maxHeartbeats 4000000 in
set_option maxRecDepth 20000 in
theorem tX5_paper_b51 {l : Launch} {Z : jZ} {q : Nat → Nat} {V : jMem} {r : Int32} {V' : jMem}    (hm : mX5_paper_b51 V = some (r, V')) : J l Z RX5 "paper" cX5_paper 4 (some .int) 5 0 0 (fun r' w => r' = some (.int r) ∧ w = jw Z q V' dM) 51 [(0, .ref (q 0))] [] (jw Z q V dM) 0 0 := by
  unfold mX5_paper_b51 at hm
  refine j_aload_n dX5_paper_51 rfl rfl ?_
  refine j_ldc dX5_paper_52 rfl wX5_114 ?_
  obtain ⟨p1, ep1, hm⟩ := jb_of hm
  refine o_callV_i kX5_60 dX5_paper_54 rfl (tX5_finds  ep1) rfl rfl rfl rfl rfl (Nat.le_of_ble_eq_true rfl) (by decide) ?_
  exact j_ireturn dX5_paper_57 rfl rfl ⟨Nat.le_refl _, Nat.le_refl _⟩ (jf_m (fun z => .int z) hm)
def mX5_paper (a1 : Int32) (a2 : Int32) (V : jMem) : Option (Int32 × jMem) := (if (mX5_isField (Int32.toInt64 a1) V) = (0 : Int32) then (mX5_paper_b27 V) else (if (mX5_isIn (Int32.toInt64 a2) (Int32.toInt64 (V.1 1 2)) (99 : Int64)) = (0 : Int32) then (mX5_paper_b27 V) else ((mX5_isFree a1 V).bind (fun (r3 : Int32) => (if r3 = (0 : Int32) then (mX5_paper_b51 V) else ((mX5_has a1 (5 : Int32) V).bind (fun (r5 : Int32) => (if r5 < (0 : Int32) then ((mX5_papers V).bind (fun (r7 : Int32) => (if r7 = (6 : Int32) then ((mX5_finds (-1000000002 : Int32) V).bind (fun (p15 : Int32 × jMem) => (some (p15.1, p15.2)))) else ((mX5_asksNow a1 V).bind (fun (r9 : Int32) => (jg (jin (mX5_at a1 (5 : Int32)) 120) (jl (jsI V 1 (Int32.toNatClampNeg (mX5_at a1 (5 : Int32))) r9) (fun (V11 : jMem) => (jg (jin (mX5_at a1 (6 : Int32)) 120) (jl (jsI V11 1 (Int32.toNatClampNeg (mX5_at a1 (6 : Int32))) a2) (fun (V13 : jMem) => (jl (jsL V13 0 3 ((V13.2 0 3) + (Int32.toInt64 (mX5_paperFor r9)))) (fun (V14 : jMem) => (some ((mX5_paperFor r9), V14))))))))))))))) else (mX5_paper_b51 V)))))))))
set_option maxHeartbeats 4000000 in
set_option maxRecDepth 20000 in
theorem tX5_paper {l : Launch} {Z : jZ} {q : Nat → Nat} {a1 : Int32} {a2 : Int32} {V : jMem} {r : Int32} {V' : jMem}  (hm : mX5_paper a1 a2 V = some (r, V')) : CtD l Z yX5_paper cX5_paper 4 (some .int) 5 q dM [.ref (q 0), .int a1, .int a2] V (some (.int r)) V' := by
  refine Ct_of (L := [(0, .ref (q 0)), (1, .int a1), (2, .int a2)]) (own := RX5) (nm := "paper") rfl rfl (by decide +kernel) rfl (Nat.le_of_ble_eq_true rfl) ?_
  unfold mX5_paper at hm
  refine j_aload_n dX5_paper_0 rfl rfl ?_
  refine j_iload_n dX5_paper_1 rfl rfl ?_
  refine j_i2l dX5_paper_2 rfl ?_
  refine o_callV_i kX5_82 dX5_paper_3 rfl (tX5_isField  rfl) rfl rfl rfl rfl rfl (Nat.le_of_ble_eq_true rfl) (by decide) ?_
  refine j_if_eq (tgt := 27) dX5_paper_6 rfl (by decide) (fun c1 => ?_) (fun c1 => ?_)
  · have hm := jif_pos c1 hm
    refine j_sub (L' := [(0, _)]) [0] rfl ?_
    exact tX5_paper_b27    hm
  · have hm := jif_neg c1 hm
    refine j_iload_n dX5_paper_9 rfl rfl ?_
    refine j_i2l dX5_paper_10 rfl ?_
    refine j_aload_n dX5_paper_11 rfl rfl ?_
    refine m_getr (k := 0) (r := 1) fX5_7 dX5_paper_12 rfl rfl rfl ?_
    refine j_iconst (v := 2) dX5_paper_15 rfl (by decide) ?_
    refine o_iald (k := 2) (by decide) dX5_paper_16 rfl rfl (jin_vp (by decide)) ?_
    refine j_i2l dX5_paper_17 rfl ?_
    refine j_ldc2 dX5_paper_18 rfl wX5_119 ?_
    refine o_callS_i kX5_54 dX5_paper_21 rfl (tX5_isIn  rfl) rfl rfl (Nat.le_of_ble_eq_true rfl) (by decide) ?_
    refine j_if_ne (tgt := 34) dX5_paper_24 rfl (by decide) (fun c2 => ?_) (fun c2 => ?_)
    · have hm := jif_neg c2 hm
      refine j_aload_n dX5_paper_34 rfl rfl ?_
      refine j_iload_n dX5_paper_35 rfl rfl ?_
      obtain ⟨r3, er3, hm⟩ := jb_of hm
      refine o_callV_i kX5_110 dX5_paper_36 rfl (tX5_isFree  er3) rfl rfl rfl rfl rfl (Nat.le_of_ble_eq_true rfl) (by decide) ?_
      refine j_if_eq (tgt := 51) dX5_paper_39 rfl (by decide) (fun c4 => ?_) (fun c4 => ?_)
      · have hm := jif_pos c4 hm
        refine j_sub (L' := [(0, _)]) [0] rfl ?_
        exact tX5_paper_b51    hm
      · have hm := jif_neg c4 hm
        refine j_aload_n dX5_paper_42 rfl rfl ?_
        refine j_iload_n dX5_paper_43 rfl rfl ?_
        refine j_iconst (v := 5) dX5_paper_44 rfl (by decide) ?_
        obtain ⟨r5, er5, hm⟩ := jb_of hm
        refine o_callV_i kX5_45 dX5_paper_45 rfl (tX5_has  er5) rfl rfl rfl rfl rfl (Nat.le_of_ble_eq_true rfl) (by decide) ?_
        refine j_if_lt (tgt := 58) dX5_paper_48 rfl (by decide) (fun c6 => ?_) (fun c6 => ?_)
        · have hm := jif_pos c6 hm
          refine j_aload_n dX5_paper_58 rfl rfl ?_
          obtain ⟨r7, er7, hm⟩ := jb_of hm
          refine o_callV_i kX5_121 dX5_paper_59 rfl (tX5_papers  er7) rfl rfl rfl rfl rfl (Nat.le_of_ble_eq_true rfl) (by decide) ?_
          refine j_bipush (v := 6) dX5_paper_62 rfl (by decide) ?_
          refine j_icmp_ne (tgt := 74) dX5_paper_64 rfl (by decide) (fun c8 => ?_) (fun c8 => ?_)
          · have hm := jif_neg c8 hm
            refine j_aload_n dX5_paper_74 rfl rfl ?_
            refine j_iload_n dX5_paper_75 rfl rfl ?_
            obtain ⟨r9, er9, hm⟩ := jb_of hm
            refine o_callV_i kX5_88 dX5_paper_76 rfl (tX5_asksNow  er9) rfl rfl rfl rfl rfl (Nat.le_of_ble_eq_true rfl) (by decide) ?_
            refine j_istore_n (i := 3) (L' := [(3, _), (0, _), (1, _), (2, _)]) dX5_paper_79 rfl rfl (by decide) rfl ?_
            refine j_aload_n dX5_paper_80 rfl rfl ?_
            refine m_getr (k := 0) (r := 1) fX5_7 dX5_paper_81 rfl rfl rfl ?_
            refine j_aload_n dX5_paper_84 rfl rfl ?_
            refine j_iload_n dX5_paper_85 rfl rfl ?_
            refine j_iconst (v := 5) dX5_paper_86 rfl (by decide) ?_
            refine o_callV_i kX5_49 dX5_paper_87 rfl (tX5_at  rfl) rfl rfl rfl rfl rfl (Nat.le_of_ble_eq_true rfl) (by decide) ?_
            refine j_iload_n dX5_paper_90 rfl rfl ?_
            obtain ⟨g10, hm⟩ := jg_of hm
            refine o_iast (k := (Int32.toNatClampNeg (mX5_at a1 (5 : Int32)))) rfl dX5_paper_91 rfl rfl (jin_vp g10) ?_
            obtain ⟨V11, eV11⟩ : ∃ y, y = (jsI V 1 (Int32.toNatClampNeg (mX5_at a1 (5 : Int32))) r9) := ⟨_, rfl⟩
            have hm := jl_of hm eV11
            rw [← eV11]
            refine j_aload_n dX5_paper_92 rfl rfl ?_
            refine m_getr (k := 0) (r := 1) fX5_7 dX5_paper_93 rfl rfl rfl ?_
            refine j_aload_n dX5_paper_96 rfl rfl ?_
            refine j_iload_n dX5_paper_97 rfl rfl ?_
            refine j_bipush (v := 6) dX5_paper_98 rfl (by decide) ?_
            refine o_callV_i kX5_49 dX5_paper_100 rfl (tX5_at  rfl) rfl rfl rfl rfl rfl (Nat.le_of_ble_eq_true rfl) (by decide) ?_
            refine j_iload_n dX5_paper_103 rfl rfl ?_
            obtain ⟨g12, hm⟩ := jg_of hm
            refine o_iast (k := (Int32.toNatClampNeg (mX5_at a1 (6 : Int32)))) rfl dX5_paper_104 rfl rfl (jin_vp g12) ?_
            obtain ⟨V13, eV13⟩ : ∃ y, y = (jsI V11 1 (Int32.toNatClampNeg (mX5_at a1 (6 : Int32))) a2) := ⟨_, rfl⟩
            have hm := jl_of hm eV13
            rw [← eV13]
            refine j_aload_n dX5_paper_105 rfl rfl ?_
            refine j_dup dX5_paper_106 rfl rfl ?_
            refine m_getl (k := 3) fX5_104 dX5_paper_107 rfl rfl rfl ?_
            refine j_iload_n dX5_paper_110 rfl rfl ?_
            refine o_callS_i kX5_124 dX5_paper_111 rfl (tX5_paperFor  rfl) rfl rfl (Nat.le_of_ble_eq_true rfl) (by decide) ?_
            refine j_i2l dX5_paper_114 rfl ?_
            refine j_ladd dX5_paper_115 rfl ?_
            refine m_putl (k := 3) fX5_104 dX5_paper_116 rfl rfl rfl ?_
            obtain ⟨V14, eV14⟩ : ∃ y, y = (jsL V13 0 3 ((V13.2 0 3) + (Int32.toInt64 (mX5_paperFor r9)))) := ⟨_, rfl⟩
            have hm := jl_of hm eV14
            rw [← eV14]
            refine j_iload_n dX5_paper_119 rfl rfl ?_
            refine o_callS_i kX5_124 dX5_paper_120 rfl (tX5_paperFor  rfl) rfl rfl (Nat.le_of_ble_eq_true rfl) (by decide) ?_
            exact j_ireturn dX5_paper_123 rfl rfl ⟨Nat.le_refl _, Nat.le_refl _⟩ (jf_m (fun z => .int z) hm)
          · have hm := jif_pos c8 hm
            refine j_aload_n dX5_paper_67 rfl rfl ?_
            refine j_ldc dX5_paper_68 rfl wX5_64 ?_
            obtain ⟨p15, ep15, hm⟩ := jb_of hm
            refine o_callV_i kX5_60 dX5_paper_70 rfl (tX5_finds  ep15) rfl rfl rfl rfl rfl (Nat.le_of_ble_eq_true rfl) (by decide) ?_
            exact j_ireturn dX5_paper_73 rfl rfl ⟨Nat.le_refl _, Nat.le_refl _⟩ (jf_m (fun z => .int z) hm)
        · have hm := jif_neg c6 hm
          refine j_sub (L' := [(0, _)]) [0] rfl ?_
          exact tX5_paper_b51    hm
    · have hm := jif_pos c2 hm
      refine j_sub (L' := [(0, _)]) [0] rfl ?_
      exact tX5_paper_b27    hm
theorem dX5_paperOf_0 : decode cX5_paperOf 0 = .ok (.aload_n 0, 1) := by decide +kernel
theorem dX5_paperOf_1 : decode cX5_paperOf 1 = .ok (.iload_n 1, 1) := by decide +kernel
theorem dX5_paperOf_2 : decode cX5_paperOf 2 = .ok (.i2l, 1) := by decide +kernel
theorem dX5_paperOf_3 : decode cX5_paperOf 3 = .ok (.invokevirtual 82, 3) := by decide +kernel
theorem dX5_paperOf_6 : decode cX5_paperOf 6 = .ok (.ifCond .eq 13, 3) := by decide +kernel
theorem dX5_paperOf_9 : decode cX5_paperOf 9 = .ok (.iload_n 2, 1) := by decide +kernel
theorem dX5_paperOf_10 : decode cX5_paperOf 10 = .ok (.i2l, 1) := by decide +kernel
theorem dX5_paperOf_11 : decode cX5_paperOf 11 = .ok (.lconst 0, 1) := by decide +kernel
theorem dX5_paperOf_12 : decode cX5_paperOf 12 = .ok (.lconst 1, 1) := by decide +kernel
theorem dX5_paperOf_13 : decode cX5_paperOf 13 = .ok (.invokestatic 54, 3) := by decide +kernel
theorem dX5_paperOf_16 : decode cX5_paperOf 16 = .ok (.ifCond .ne 10, 3) := by decide +kernel
theorem dX5_paperOf_19 : decode cX5_paperOf 19 = .ok (.aload_n 0, 1) := by decide +kernel
theorem dX5_paperOf_20 : decode cX5_paperOf 20 = .ok (.ldc 44, 2) := by decide +kernel
theorem dX5_paperOf_22 : decode cX5_paperOf 22 = .ok (.invokevirtual 60, 3) := by decide +kernel
theorem dX5_paperOf_25 : decode cX5_paperOf 25 = .ok (.ireturn, 1) := by decide +kernel
theorem dX5_paperOf_26 : decode cX5_paperOf 26 = .ok (.aload_n 0, 1) := by decide +kernel
theorem dX5_paperOf_27 : decode cX5_paperOf 27 = .ok (.iload_n 1, 1) := by decide +kernel
theorem dX5_paperOf_28 : decode cX5_paperOf 28 = .ok (.iconst 5, 1) := by decide +kernel
theorem dX5_paperOf_29 : decode cX5_paperOf 29 = .ok (.invokevirtual 45, 3) := by decide +kernel
theorem dX5_paperOf_32 : decode cX5_paperOf 32 = .ok (.ifCond .ge 12, 3) := by decide +kernel
theorem dX5_paperOf_35 : decode cX5_paperOf 35 = .ok (.aload_n 0, 1) := by decide +kernel
theorem dX5_paperOf_36 : decode cX5_paperOf 36 = .ok (.ldc 127, 2) := by decide +kernel
theorem dX5_paperOf_38 : decode cX5_paperOf 38 = .ok (.invokevirtual 60, 3) := by decide +kernel
theorem dX5_paperOf_41 : decode cX5_paperOf 41 = .ok (.goto 11, 3) := by decide +kernel
theorem dX5_paperOf_44 : decode cX5_paperOf 44 = .ok (.aload_n 0, 1) := by decide +kernel
theorem dX5_paperOf_45 : decode cX5_paperOf 45 = .ok (.iload_n 1, 1) := by decide +kernel
theorem dX5_paperOf_46 : decode cX5_paperOf 46 = .ok (.iconst 5, 1) := by decide +kernel
theorem dX5_paperOf_47 : decode cX5_paperOf 47 = .ok (.iload_n 2, 1) := by decide +kernel
theorem dX5_paperOf_48 : decode cX5_paperOf 48 = .ok (.iadd, 1) := by decide +kernel
theorem dX5_paperOf_49 : decode cX5_paperOf 49 = .ok (.invokevirtual 45, 3) := by decide +kernel
theorem dX5_paperOf_52 : decode cX5_paperOf 52 = .ok (.ireturn, 1) := by decide +kernel
def mX5_paperOf_b19   (V : jMem) : Option (Int32 × jMem) := ((mX5_finds (-1000000001 : Int32) V).bind (fun (p1 : Int32 × jMem) => (some (p1.1, p1.2))))
set_option maxHeartbeats 4000000 in
set_option maxRecDepth 20000 in
theorem tX5_paperOf_b19 {l : Launch} {Z : jZ} {q : Nat → Nat} {V : jMem} {r : Int32} {V' : jMem}    (hm : mX5_paperOf_b19 V = some (r, V')) : J l Z RX5 "paperOf" cX5_paperOf 3 (some .int) 1 0 0 (fun r' w => r' = some (.int r) ∧ w = jw Z q V' dM) 19 [(0, .ref (q 0))] [] (jw Z q V dM) 0 0 := by
  unfold mX5_paperOf_b19 at hm
  refine j_aload_n dX5_paperOf_19 rfl rfl ?_
  refine j_ldc dX5_paperOf_20 rfl wX5_44 ?_
  obtain ⟨p1, ep1, hm⟩ := jb_of hm
  refine o_callV_i kX5_60 dX5_paperOf_22 rfl (tX5_finds  ep1) rfl rfl rfl rfl rfl (Nat.le_of_ble_eq_true rfl) (by decide) ?_
  exact j_ireturn dX5_paperOf_25 rfl rfl ⟨Nat.le_refl _, Nat.le_refl _⟩ (jf_m (fun z => .int z) hm)
def mX5_paperOf (a1 : Int32) (a2 : Int32) (V : jMem) : Option (Int32 × jMem) := (if (mX5_isField (Int32.toInt64 a1) V) = (0 : Int32) then (mX5_paperOf_b19 V) else (if (mX5_isIn (Int32.toInt64 a2) (0 : Int64) (1 : Int64)) = (0 : Int32) then (mX5_paperOf_b19 V) else ((mX5_has a1 (5 : Int32) V).bind (fun (r3 : Int32) => (if (0 : Int32) ≤ r3 then ((mX5_has a1 ((5 : Int32) + a2) V).bind (fun (r5 : Int32) => (some (r5, V)))) else ((mX5_finds (-1000000004 : Int32) V).bind (fun (p6 : Int32 × jMem) => (some (p6.1, p6.2)))))))))
set_option maxHeartbeats 4000000 in
set_option maxRecDepth 20000 in
theorem tX5_paperOf {l : Launch} {Z : jZ} {q : Nat → Nat} {a1 : Int32} {a2 : Int32} {V : jMem} {r : Int32} {V' : jMem}  (hm : mX5_paperOf a1 a2 V = some (r, V')) : CtD l Z yX5_paperOf cX5_paperOf 3 (some .int) 1 q dM [.ref (q 0), .int a1, .int a2] V (some (.int r)) V' := by
  refine Ct_of (L := [(0, .ref (q 0)), (1, .int a1), (2, .int a2)]) (own := RX5) (nm := "paperOf") rfl rfl (by decide +kernel) rfl (Nat.le_of_ble_eq_true rfl) ?_
  unfold mX5_paperOf at hm
  refine j_aload_n dX5_paperOf_0 rfl rfl ?_
  refine j_iload_n dX5_paperOf_1 rfl rfl ?_
  refine j_i2l dX5_paperOf_2 rfl ?_
  refine o_callV_i kX5_82 dX5_paperOf_3 rfl (tX5_isField  rfl) rfl rfl rfl rfl rfl (Nat.le_of_ble_eq_true rfl) (by decide) ?_
  refine j_if_eq (tgt := 19) dX5_paperOf_6 rfl (by decide) (fun c1 => ?_) (fun c1 => ?_)
  · have hm := jif_pos c1 hm
    refine j_sub (L' := [(0, _)]) [0] rfl ?_
    exact tX5_paperOf_b19    hm
  · have hm := jif_neg c1 hm
    refine j_iload_n dX5_paperOf_9 rfl rfl ?_
    refine j_i2l dX5_paperOf_10 rfl ?_
    refine j_lconst (v := 0) dX5_paperOf_11 rfl (by decide) ?_
    refine j_lconst (v := 1) dX5_paperOf_12 rfl (by decide) ?_
    refine o_callS_i kX5_54 dX5_paperOf_13 rfl (tX5_isIn  rfl) rfl rfl (Nat.le_of_ble_eq_true rfl) (by decide) ?_
    refine j_if_ne (tgt := 26) dX5_paperOf_16 rfl (by decide) (fun c2 => ?_) (fun c2 => ?_)
    · have hm := jif_neg c2 hm
      refine j_aload_n dX5_paperOf_26 rfl rfl ?_
      refine j_iload_n dX5_paperOf_27 rfl rfl ?_
      refine j_iconst (v := 5) dX5_paperOf_28 rfl (by decide) ?_
      obtain ⟨r3, er3, hm⟩ := jb_of hm
      refine o_callV_i kX5_45 dX5_paperOf_29 rfl (tX5_has  er3) rfl rfl rfl rfl rfl (Nat.le_of_ble_eq_true rfl) (by decide) ?_
      refine j_if_ge (tgt := 44) dX5_paperOf_32 rfl (by decide) (fun c4 => ?_) (fun c4 => ?_)
      · have hm := jif_pos c4 hm
        refine j_aload_n dX5_paperOf_44 rfl rfl ?_
        refine j_iload_n dX5_paperOf_45 rfl rfl ?_
        refine j_iconst (v := 5) dX5_paperOf_46 rfl (by decide) ?_
        refine j_iload_n dX5_paperOf_47 rfl rfl ?_
        refine j_iadd dX5_paperOf_48 rfl ?_
        obtain ⟨r5, er5, hm⟩ := jb_of hm
        refine o_callV_i kX5_45 dX5_paperOf_49 rfl (tX5_has  er5) rfl rfl rfl rfl rfl (Nat.le_of_ble_eq_true rfl) (by decide) ?_
        exact j_ireturn dX5_paperOf_52 rfl rfl ⟨Nat.le_refl _, Nat.le_refl _⟩ (jf_m (fun z => .int z) hm)
      · have hm := jif_neg c4 hm
        refine j_aload_n dX5_paperOf_35 rfl rfl ?_
        refine j_ldc dX5_paperOf_36 rfl wX5_127 ?_
        obtain ⟨p6, ep6, hm⟩ := jb_of hm
        refine o_callV_i kX5_60 dX5_paperOf_38 rfl (tX5_finds  ep6) rfl rfl rfl rfl rfl (Nat.le_of_ble_eq_true rfl) (by decide) ?_
        refine j_goto (tgt := 52) dX5_paperOf_41 (by decide) ?_
        exact j_ireturn dX5_paperOf_52 rfl rfl ⟨Nat.le_refl _, Nat.le_refl _⟩ (jf_m (fun z => .int z) hm)
    · have hm := jif_pos c2 hm
      refine j_sub (L' := [(0, _)]) [0] rfl ?_
      exact tX5_paperOf_b19    hm
theorem dX5_claim_0 : decode cX5_claim 0 = .ok (.aload_n 0, 1) := by decide +kernel
theorem dX5_claim_1 : decode cX5_claim 1 = .ok (.iload_n 1, 1) := by decide +kernel
theorem dX5_claim_2 : decode cX5_claim 2 = .ok (.i2l, 1) := by decide +kernel
theorem dX5_claim_3 : decode cX5_claim 3 = .ok (.invokevirtual 82, 3) := by decide +kernel
theorem dX5_claim_6 : decode cX5_claim 6 = .ok (.ifCond .ne 10, 3) := by decide +kernel
theorem dX5_claim_9 : decode cX5_claim 9 = .ok (.aload_n 0, 1) := by decide +kernel
theorem dX5_claim_10 : decode cX5_claim 10 = .ok (.ldc 44, 2) := by decide +kernel
theorem dX5_claim_12 : decode cX5_claim 12 = .ok (.invokevirtual 60, 3) := by decide +kernel
theorem dX5_claim_15 : decode cX5_claim 15 = .ok (.ireturn, 1) := by decide +kernel
theorem dX5_claim_16 : decode cX5_claim 16 = .ok (.aload_n 0, 1) := by decide +kernel
theorem dX5_claim_17 : decode cX5_claim 17 = .ok (.iload_n 1, 1) := by decide +kernel
theorem dX5_claim_18 : decode cX5_claim 18 = .ok (.iconst 5, 1) := by decide +kernel
theorem dX5_claim_19 : decode cX5_claim 19 = .ok (.invokevirtual 45, 3) := by decide +kernel
theorem dX5_claim_22 : decode cX5_claim 22 = .ok (.istore_n 2, 1) := by decide +kernel
theorem dX5_claim_23 : decode cX5_claim 23 = .ok (.iload_n 2, 1) := by decide +kernel
theorem dX5_claim_24 : decode cX5_claim 24 = .ok (.ifCond .ge 10, 3) := by decide +kernel
theorem dX5_claim_27 : decode cX5_claim 27 = .ok (.aload_n 0, 1) := by decide +kernel
theorem dX5_claim_28 : decode cX5_claim 28 = .ok (.ldc 127, 2) := by decide +kernel
theorem dX5_claim_30 : decode cX5_claim 30 = .ok (.invokevirtual 60, 3) := by decide +kernel
theorem dX5_claim_33 : decode cX5_claim 33 = .ok (.ireturn, 1) := by decide +kernel
theorem dX5_claim_34 : decode cX5_claim 34 = .ok (.aload_n 0, 1) := by decide +kernel
theorem dX5_claim_35 : decode cX5_claim 35 = .ok (.getfield 7, 3) := by decide +kernel
theorem dX5_claim_38 : decode cX5_claim 38 = .ok (.aload_n 0, 1) := by decide +kernel
theorem dX5_claim_39 : decode cX5_claim 39 = .ok (.iload_n 1, 1) := by decide +kernel
theorem dX5_claim_40 : decode cX5_claim 40 = .ok (.iconst 5, 1) := by decide +kernel
theorem dX5_claim_41 : decode cX5_claim 41 = .ok (.invokevirtual 49, 3) := by decide +kernel
theorem dX5_claim_44 : decode cX5_claim 44 = .ok (.iconst (-1), 1) := by decide +kernel
theorem dX5_claim_45 : decode cX5_claim 45 = .ok (.iastore, 1) := by decide +kernel
theorem dX5_claim_46 : decode cX5_claim 46 = .ok (.aload_n 0, 1) := by decide +kernel
theorem dX5_claim_47 : decode cX5_claim 47 = .ok (.getfield 7, 3) := by decide +kernel
theorem dX5_claim_50 : decode cX5_claim 50 = .ok (.aload_n 0, 1) := by decide +kernel
theorem dX5_claim_51 : decode cX5_claim 51 = .ok (.iload_n 1, 1) := by decide +kernel
theorem dX5_claim_52 : decode cX5_claim 52 = .ok (.iconst 4, 1) := by decide +kernel
theorem dX5_claim_53 : decode cX5_claim 53 = .ok (.invokevirtual 49, 3) := by decide +kernel
theorem dX5_claim_56 : decode cX5_claim 56 = .ok (.iconst 1, 1) := by decide +kernel
theorem dX5_claim_57 : decode cX5_claim 57 = .ok (.iastore, 1) := by decide +kernel
theorem dX5_claim_58 : decode cX5_claim 58 = .ok (.aload_n 0, 1) := by decide +kernel
theorem dX5_claim_59 : decode cX5_claim 59 = .ok (.dup, 1) := by decide +kernel
theorem dX5_claim_60 : decode cX5_claim 60 = .ok (.getfield 104, 3) := by decide +kernel
theorem dX5_claim_63 : decode cX5_claim 63 = .ok (.iload_n 2, 1) := by decide +kernel
theorem dX5_claim_64 : decode cX5_claim 64 = .ok (.i2l, 1) := by decide +kernel
theorem dX5_claim_65 : decode cX5_claim 65 = .ok (.ladd, 1) := by decide +kernel
theorem dX5_claim_66 : decode cX5_claim 66 = .ok (.putfield 104, 3) := by decide +kernel
theorem dX5_claim_69 : decode cX5_claim 69 = .ok (.iload_n 2, 1) := by decide +kernel
theorem dX5_claim_70 : decode cX5_claim 70 = .ok (.ireturn, 1) := by decide +kernel
def mX5_claim (a1 : Int32) (V : jMem) : Option (Int32 × jMem) := (if (mX5_isField (Int32.toInt64 a1) V) = (0 : Int32) then ((mX5_finds (-1000000001 : Int32) V).bind (fun (p10 : Int32 × jMem) => (some (p10.1, p10.2)))) else ((mX5_has a1 (5 : Int32) V).bind (fun (r2 : Int32) => (if (0 : Int32) ≤ r2 then (jg (jin (mX5_at a1 (5 : Int32)) 120) (jl (jsI V 1 (Int32.toNatClampNeg (mX5_at a1 (5 : Int32))) (-1 : Int32)) (fun (V5 : jMem) => (jg (jin (mX5_at a1 (4 : Int32)) 120) (jl (jsI V5 1 (Int32.toNatClampNeg (mX5_at a1 (4 : Int32))) (1 : Int32)) (fun (V7 : jMem) => (jl (jsL V7 0 3 ((V7.2 0 3) + (Int32.toInt64 r2))) (fun (V8 : jMem) => (some (r2, V8)))))))))) else ((mX5_finds (-1000000004 : Int32) V).bind (fun (p9 : Int32 × jMem) => (some (p9.1, p9.2))))))))
set_option maxHeartbeats 4000000 in
set_option maxRecDepth 20000 in
theorem tX5_claim {l : Launch} {Z : jZ} {q : Nat → Nat} {a1 : Int32} {V : jMem} {r : Int32} {V' : jMem}  (hm : mX5_claim a1 V = some (r, V')) : CtD l Z yX5_claim cX5_claim 3 (some .int) 1 q dM [.ref (q 0), .int a1] V (some (.int r)) V' := by
  refine Ct_of (L := [(0, .ref (q 0)), (1, .int a1)]) (own := RX5) (nm := "claim") rfl rfl (by decide +kernel) rfl (Nat.le_of_ble_eq_true rfl) ?_
  unfold mX5_claim at hm
  refine j_aload_n dX5_claim_0 rfl rfl ?_
  refine j_iload_n dX5_claim_1 rfl rfl ?_
  refine j_i2l dX5_claim_2 rfl ?_
  refine o_callV_i kX5_82 dX5_claim_3 rfl (tX5_isField  rfl) rfl rfl rfl rfl rfl (Nat.le_of_ble_eq_true rfl) (by decide) ?_
  refine j_if_ne (tgt := 16) dX5_claim_6 rfl (by decide) (fun c1 => ?_) (fun c1 => ?_)
  · have hm := jif_neg c1 hm
    refine j_aload_n dX5_claim_16 rfl rfl ?_
    refine j_iload_n dX5_claim_17 rfl rfl ?_
    refine j_iconst (v := 5) dX5_claim_18 rfl (by decide) ?_
    obtain ⟨r2, er2, hm⟩ := jb_of hm
    refine o_callV_i kX5_45 dX5_claim_19 rfl (tX5_has  er2) rfl rfl rfl rfl rfl (Nat.le_of_ble_eq_true rfl) (by decide) ?_
    refine j_istore_n (i := 2) (L' := [(2, _), (0, _), (1, _)]) dX5_claim_22 rfl rfl (by decide) rfl ?_
    refine j_iload_n dX5_claim_23 rfl rfl ?_
    refine j_if_ge (tgt := 34) dX5_claim_24 rfl (by decide) (fun c3 => ?_) (fun c3 => ?_)
    · have hm := jif_pos c3 hm
      refine j_aload_n dX5_claim_34 rfl rfl ?_
      refine m_getr (k := 0) (r := 1) fX5_7 dX5_claim_35 rfl rfl rfl ?_
      refine j_aload_n dX5_claim_38 rfl rfl ?_
      refine j_iload_n dX5_claim_39 rfl rfl ?_
      refine j_iconst (v := 5) dX5_claim_40 rfl (by decide) ?_
      refine o_callV_i kX5_49 dX5_claim_41 rfl (tX5_at  rfl) rfl rfl rfl rfl rfl (Nat.le_of_ble_eq_true rfl) (by decide) ?_
      refine j_iconst (v := -1) dX5_claim_44 rfl (by decide) ?_
      obtain ⟨g4, hm⟩ := jg_of hm
      refine o_iast (k := (Int32.toNatClampNeg (mX5_at a1 (5 : Int32)))) rfl dX5_claim_45 rfl rfl (jin_vp g4) ?_
      obtain ⟨V5, eV5⟩ : ∃ y, y = (jsI V 1 (Int32.toNatClampNeg (mX5_at a1 (5 : Int32))) (-1 : Int32)) := ⟨_, rfl⟩
      have hm := jl_of hm eV5
      rw [← eV5]
      refine j_aload_n dX5_claim_46 rfl rfl ?_
      refine m_getr (k := 0) (r := 1) fX5_7 dX5_claim_47 rfl rfl rfl ?_
      refine j_aload_n dX5_claim_50 rfl rfl ?_
      refine j_iload_n dX5_claim_51 rfl rfl ?_
      refine j_iconst (v := 4) dX5_claim_52 rfl (by decide) ?_
      refine o_callV_i kX5_49 dX5_claim_53 rfl (tX5_at  rfl) rfl rfl rfl rfl rfl (Nat.le_of_ble_eq_true rfl) (by decide) ?_
      refine j_iconst (v := 1) dX5_claim_56 rfl (by decide) ?_
      obtain ⟨g6, hm⟩ := jg_of hm
      refine o_iast (k := (Int32.toNatClampNeg (mX5_at a1 (4 : Int32)))) rfl dX5_claim_57 rfl rfl (jin_vp g6) ?_
      obtain ⟨V7, eV7⟩ : ∃ y, y = (jsI V5 1 (Int32.toNatClampNeg (mX5_at a1 (4 : Int32))) (1 : Int32)) := ⟨_, rfl⟩
      have hm := jl_of hm eV7
      rw [← eV7]
      refine j_aload_n dX5_claim_58 rfl rfl ?_
      refine j_dup dX5_claim_59 rfl rfl ?_
      refine m_getl (k := 3) fX5_104 dX5_claim_60 rfl rfl rfl ?_
      refine j_iload_n dX5_claim_63 rfl rfl ?_
      refine j_i2l dX5_claim_64 rfl ?_
      refine j_ladd dX5_claim_65 rfl ?_
      refine m_putl (k := 3) fX5_104 dX5_claim_66 rfl rfl rfl ?_
      obtain ⟨V8, eV8⟩ : ∃ y, y = (jsL V7 0 3 ((V7.2 0 3) + (Int32.toInt64 r2))) := ⟨_, rfl⟩
      have hm := jl_of hm eV8
      rw [← eV8]
      refine j_iload_n dX5_claim_69 rfl rfl ?_
      exact j_ireturn dX5_claim_70 rfl rfl ⟨Nat.le_refl _, Nat.le_refl _⟩ (jf_m (fun z => .int z) hm)
    · have hm := jif_neg c3 hm
      refine j_aload_n dX5_claim_27 rfl rfl ?_
      refine j_ldc dX5_claim_28 rfl wX5_127 ?_
      obtain ⟨p9, ep9, hm⟩ := jb_of hm
      refine o_callV_i kX5_60 dX5_claim_30 rfl (tX5_finds  ep9) rfl rfl rfl rfl rfl (Nat.le_of_ble_eq_true rfl) (by decide) ?_
      exact j_ireturn dX5_claim_33 rfl rfl ⟨Nat.le_refl _, Nat.le_refl _⟩ (jf_m (fun z => .int z) hm)
  · have hm := jif_pos c1 hm
    refine j_aload_n dX5_claim_9 rfl rfl ?_
    refine j_ldc dX5_claim_10 rfl wX5_44 ?_
    obtain ⟨p10, ep10, hm⟩ := jb_of hm
    refine o_callV_i kX5_60 dX5_claim_12 rfl (tX5_finds  ep10) rfl rfl rfl rfl rfl (Nat.le_of_ble_eq_true rfl) (by decide) ?_
    exact j_ireturn dX5_claim_15 rfl rfl ⟨Nat.le_refl _, Nat.le_refl _⟩ (jf_m (fun z => .int z) hm)
theorem dX5_county_0 : decode cX5_county 0 = .ok (.aload_n 0, 1) := by decide +kernel
theorem dX5_county_1 : decode cX5_county 1 = .ok (.iload_n 1, 1) := by decide +kernel
theorem dX5_county_2 : decode cX5_county 2 = .ok (.i2l, 1) := by decide +kernel
theorem dX5_county_3 : decode cX5_county 3 = .ok (.invokevirtual 82, 3) := by decide +kernel
theorem dX5_county_6 : decode cX5_county 6 = .ok (.ifCond .ne 10, 3) := by decide +kernel
theorem dX5_county_9 : decode cX5_county 9 = .ok (.aload_n 0, 1) := by decide +kernel
theorem dX5_county_10 : decode cX5_county 10 = .ok (.ldc 44, 2) := by decide +kernel
theorem dX5_county_12 : decode cX5_county 12 = .ok (.invokevirtual 60, 3) := by decide +kernel
theorem dX5_county_15 : decode cX5_county 15 = .ok (.ireturn, 1) := by decide +kernel
theorem dX5_county_16 : decode cX5_county 16 = .ok (.aload_n 0, 1) := by decide +kernel
theorem dX5_county_17 : decode cX5_county 17 = .ok (.iload_n 1, 1) := by decide +kernel
theorem dX5_county_18 : decode cX5_county 18 = .ok (.invokevirtual 110, 3) := by decide +kernel
theorem dX5_county_21 : decode cX5_county 21 = .ok (.ifCond .ne 10, 3) := by decide +kernel
theorem dX5_county_24 : decode cX5_county 24 = .ok (.aload_n 0, 1) := by decide +kernel
theorem dX5_county_25 : decode cX5_county 25 = .ok (.ldc 114, 2) := by decide +kernel
theorem dX5_county_27 : decode cX5_county 27 = .ok (.invokevirtual 60, 3) := by decide +kernel
theorem dX5_county_30 : decode cX5_county 30 = .ok (.ireturn, 1) := by decide +kernel
theorem dX5_county_31 : decode cX5_county 31 = .ok (.aload_n 0, 1) := by decide +kernel
theorem dX5_county_32 : decode cX5_county 32 = .ok (.getfield 7, 3) := by decide +kernel
theorem dX5_county_35 : decode cX5_county 35 = .ok (.bipush 6, 2) := by decide +kernel
theorem dX5_county_37 : decode cX5_county 37 = .ok (.iaload, 1) := by decide +kernel
theorem dX5_county_38 : decode cX5_county 38 = .ok (.ifCond .ne 10, 3) := by decide +kernel
theorem dX5_county_41 : decode cX5_county 41 = .ok (.aload_n 0, 1) := by decide +kernel
theorem dX5_county_42 : decode cX5_county 42 = .ok (.ldc 127, 2) := by decide +kernel
theorem dX5_county_44 : decode cX5_county 44 = .ok (.invokevirtual 60, 3) := by decide +kernel
theorem dX5_county_47 : decode cX5_county 47 = .ok (.ireturn, 1) := by decide +kernel
theorem dX5_county_48 : decode cX5_county 48 = .ok (.aload_n 0, 1) := by decide +kernel
theorem dX5_county_49 : decode cX5_county 49 = .ok (.iload_n 1, 1) := by decide +kernel
theorem dX5_county_50 : decode cX5_county 50 = .ok (.iconst 1, 1) := by decide +kernel
theorem dX5_county_51 : decode cX5_county 51 = .ok (.invokevirtual 45, 3) := by decide +kernel
theorem dX5_county_54 : decode cX5_county 54 = .ok (.aload_n 0, 1) := by decide +kernel
theorem dX5_county_55 : decode cX5_county 55 = .ok (.getfield 7, 3) := by decide +kernel
theorem dX5_county_58 : decode cX5_county 58 = .ok (.iconst 5, 1) := by decide +kernel
theorem dX5_county_59 : decode cX5_county 59 = .ok (.iaload, 1) := by decide +kernel
theorem dX5_county_60 : decode cX5_county 60 = .ok (.imul, 1) := by decide +kernel
theorem dX5_county_61 : decode cX5_county 61 = .ok (.bipush 100, 2) := by decide +kernel
theorem dX5_county_63 : decode cX5_county 63 = .ok (.idiv, 1) := by decide +kernel
theorem dX5_county_64 : decode cX5_county 64 = .ok (.istore_n 2, 1) := by decide +kernel
theorem dX5_county_65 : decode cX5_county 65 = .ok (.aload_n 0, 1) := by decide +kernel
theorem dX5_county_66 : decode cX5_county 66 = .ok (.getfield 7, 3) := by decide +kernel
theorem dX5_county_69 : decode cX5_county 69 = .ok (.bipush 6, 2) := by decide +kernel
theorem dX5_county_71 : decode cX5_county 71 = .ok (.dup2, 1) := by decide +kernel
theorem dX5_county_72 : decode cX5_county 72 = .ok (.iaload, 1) := by decide +kernel
theorem dX5_county_73 : decode cX5_county 73 = .ok (.iconst 1, 1) := by decide +kernel
theorem dX5_county_74 : decode cX5_county 74 = .ok (.isub, 1) := by decide +kernel
theorem dX5_county_75 : decode cX5_county 75 = .ok (.iastore, 1) := by decide +kernel
theorem dX5_county_76 : decode cX5_county 76 = .ok (.aload_n 0, 1) := by decide +kernel
theorem dX5_county_77 : decode cX5_county 77 = .ok (.getfield 7, 3) := by decide +kernel
theorem dX5_county_80 : decode cX5_county 80 = .ok (.aload_n 0, 1) := by decide +kernel
theorem dX5_county_81 : decode cX5_county 81 = .ok (.iload_n 1, 1) := by decide +kernel
theorem dX5_county_82 : decode cX5_county 82 = .ok (.iconst 4, 1) := by decide +kernel
theorem dX5_county_83 : decode cX5_county 83 = .ok (.invokevirtual 49, 3) := by decide +kernel
theorem dX5_county_86 : decode cX5_county 86 = .ok (.iconst 1, 1) := by decide +kernel
theorem dX5_county_87 : decode cX5_county 87 = .ok (.iastore, 1) := by decide +kernel
theorem dX5_county_88 : decode cX5_county 88 = .ok (.aload_n 0, 1) := by decide +kernel
theorem dX5_county_89 : decode cX5_county 89 = .ok (.getfield 7, 3) := by decide +kernel
theorem dX5_county_92 : decode cX5_county 92 = .ok (.aload_n 0, 1) := by decide +kernel
theorem dX5_county_93 : decode cX5_county 93 = .ok (.iload_n 1, 1) := by decide +kernel
theorem dX5_county_94 : decode cX5_county 94 = .ok (.iconst 5, 1) := by decide +kernel
theorem dX5_county_95 : decode cX5_county 95 = .ok (.invokevirtual 49, 3) := by decide +kernel
theorem dX5_county_98 : decode cX5_county 98 = .ok (.iconst (-1), 1) := by decide +kernel
theorem dX5_county_99 : decode cX5_county 99 = .ok (.iastore, 1) := by decide +kernel
theorem dX5_county_100 : decode cX5_county 100 = .ok (.aload_n 0, 1) := by decide +kernel
theorem dX5_county_101 : decode cX5_county 101 = .ok (.dup, 1) := by decide +kernel
theorem dX5_county_102 : decode cX5_county 102 = .ok (.getfield 104, 3) := by decide +kernel
theorem dX5_county_105 : decode cX5_county 105 = .ok (.iload_n 2, 1) := by decide +kernel
theorem dX5_county_106 : decode cX5_county 106 = .ok (.i2l, 1) := by decide +kernel
theorem dX5_county_107 : decode cX5_county 107 = .ok (.ladd, 1) := by decide +kernel
theorem dX5_county_108 : decode cX5_county 108 = .ok (.putfield 104, 3) := by decide +kernel
theorem dX5_county_111 : decode cX5_county 111 = .ok (.iload_n 2, 1) := by decide +kernel
theorem dX5_county_112 : decode cX5_county 112 = .ok (.ireturn, 1) := by decide +kernel
def mX5_county (a1 : Int32) (V : jMem) : Option (Int32 × jMem) := (if (mX5_isField (Int32.toInt64 a1) V) = (0 : Int32) then ((mX5_finds (-1000000001 : Int32) V).bind (fun (p14 : Int32 × jMem) => (some (p14.1, p14.2)))) else ((mX5_isFree a1 V).bind (fun (r2 : Int32) => (if r2 = (0 : Int32) then ((mX5_finds (-1000000005 : Int32) V).bind (fun (p13 : Int32 × jMem) => (some (p13.1, p13.2)))) else (if (V.1 1 6) = (0 : Int32) then ((mX5_finds (-1000000004 : Int32) V).bind (fun (p12 : Int32 × jMem) => (some (p12.1, p12.2)))) else ((mX5_has a1 (1 : Int32) V).bind (fun (r5 : Int32) => (jl (jsI V 1 6 ((V.1 1 6) - (1 : Int32))) (fun (V6 : jMem) => (jg (jin (mX5_at a1 (4 : Int32)) 120) (jl (jsI V6 1 (Int32.toNatClampNeg (mX5_at a1 (4 : Int32))) (1 : Int32)) (fun (V8 : jMem) => (jg (jin (mX5_at a1 (5 : Int32)) 120) (jl (jsI V8 1 (Int32.toNatClampNeg (mX5_at a1 (5 : Int32))) (-1 : Int32)) (fun (V10 : jMem) => (jl (jsL V10 0 3 ((V10.2 0 3) + (Int32.toInt64 ((r5 * (V.1 1 5)) / (100 : Int32))))) (fun (V11 : jMem) => (some (((r5 * (V.1 1 5)) / (100 : Int32)), V11)))))))))))))))))))
set_option maxHeartbeats 4000000 in
set_option maxRecDepth 20000 in
theorem tX5_county {l : Launch} {Z : jZ} {q : Nat → Nat} {a1 : Int32} {V : jMem} {r : Int32} {V' : jMem}  (hm : mX5_county a1 V = some (r, V')) : CtD l Z yX5_county cX5_county 3 (some .int) 2 q dM [.ref (q 0), .int a1] V (some (.int r)) V' := by
  refine Ct_of (L := [(0, .ref (q 0)), (1, .int a1)]) (own := RX5) (nm := "county") rfl rfl (by decide +kernel) rfl (Nat.le_of_ble_eq_true rfl) ?_
  unfold mX5_county at hm
  refine j_aload_n dX5_county_0 rfl rfl ?_
  refine j_iload_n dX5_county_1 rfl rfl ?_
  refine j_i2l dX5_county_2 rfl ?_
  refine o_callV_i kX5_82 dX5_county_3 rfl (tX5_isField  rfl) rfl rfl rfl rfl rfl (Nat.le_of_ble_eq_true rfl) (by decide) ?_
  refine j_if_ne (tgt := 16) dX5_county_6 rfl (by decide) (fun c1 => ?_) (fun c1 => ?_)
  · have hm := jif_neg c1 hm
    refine j_aload_n dX5_county_16 rfl rfl ?_
    refine j_iload_n dX5_county_17 rfl rfl ?_
    obtain ⟨r2, er2, hm⟩ := jb_of hm
    refine o_callV_i kX5_110 dX5_county_18 rfl (tX5_isFree  er2) rfl rfl rfl rfl rfl (Nat.le_of_ble_eq_true rfl) (by decide) ?_
    refine j_if_ne (tgt := 31) dX5_county_21 rfl (by decide) (fun c3 => ?_) (fun c3 => ?_)
    · have hm := jif_neg c3 hm
      refine j_aload_n dX5_county_31 rfl rfl ?_
      refine m_getr (k := 0) (r := 1) fX5_7 dX5_county_32 rfl rfl rfl ?_
      refine j_bipush (v := 6) dX5_county_35 rfl (by decide) ?_
      refine o_iald (k := 6) (by decide) dX5_county_37 rfl rfl (jin_vp (by decide)) ?_
      refine j_if_ne (tgt := 48) dX5_county_38 rfl (by decide) (fun c4 => ?_) (fun c4 => ?_)
      · have hm := jif_neg c4 hm
        refine j_aload_n dX5_county_48 rfl rfl ?_
        refine j_iload_n dX5_county_49 rfl rfl ?_
        refine j_iconst (v := 1) dX5_county_50 rfl (by decide) ?_
        obtain ⟨r5, er5, hm⟩ := jb_of hm
        refine o_callV_i kX5_45 dX5_county_51 rfl (tX5_has  er5) rfl rfl rfl rfl rfl (Nat.le_of_ble_eq_true rfl) (by decide) ?_
        refine j_aload_n dX5_county_54 rfl rfl ?_
        refine m_getr (k := 0) (r := 1) fX5_7 dX5_county_55 rfl rfl rfl ?_
        refine j_iconst (v := 5) dX5_county_58 rfl (by decide) ?_
        refine o_iald (k := 5) (by decide) dX5_county_59 rfl rfl (jin_vp (by decide)) ?_
        refine j_imul dX5_county_60 rfl ?_
        refine j_bipush (v := 100) dX5_county_61 rfl (by decide) ?_
        refine j_idiv dX5_county_63 rfl (by decide) ?_
        refine j_istore_n (i := 2) (L' := [(2, _), (0, _), (1, _)]) dX5_county_64 rfl rfl (by decide) rfl ?_
        refine j_aload_n dX5_county_65 rfl rfl ?_
        refine m_getr (k := 0) (r := 1) fX5_7 dX5_county_66 rfl rfl rfl ?_
        refine j_bipush (v := 6) dX5_county_69 rfl (by decide) ?_
        refine j_dup2 dX5_county_71 rfl rfl rfl ?_
        refine o_iald (k := 6) (by decide) dX5_county_72 rfl rfl (jin_vp (by decide)) ?_
        refine j_iconst (v := 1) dX5_county_73 rfl (by decide) ?_
        refine j_isub dX5_county_74 rfl ?_
        refine o_iast (k := 6) (by decide) dX5_county_75 rfl rfl (jin_vp (by decide)) ?_
        obtain ⟨V6, eV6⟩ : ∃ y, y = (jsI V 1 6 ((V.1 1 6) - (1 : Int32))) := ⟨_, rfl⟩
        have hm := jl_of hm eV6
        rw [← eV6]
        refine j_aload_n dX5_county_76 rfl rfl ?_
        refine m_getr (k := 0) (r := 1) fX5_7 dX5_county_77 rfl rfl rfl ?_
        refine j_aload_n dX5_county_80 rfl rfl ?_
        refine j_iload_n dX5_county_81 rfl rfl ?_
        refine j_iconst (v := 4) dX5_county_82 rfl (by decide) ?_
        refine o_callV_i kX5_49 dX5_county_83 rfl (tX5_at  rfl) rfl rfl rfl rfl rfl (Nat.le_of_ble_eq_true rfl) (by decide) ?_
        refine j_iconst (v := 1) dX5_county_86 rfl (by decide) ?_
        obtain ⟨g7, hm⟩ := jg_of hm
        refine o_iast (k := (Int32.toNatClampNeg (mX5_at a1 (4 : Int32)))) rfl dX5_county_87 rfl rfl (jin_vp g7) ?_
        obtain ⟨V8, eV8⟩ : ∃ y, y = (jsI V6 1 (Int32.toNatClampNeg (mX5_at a1 (4 : Int32))) (1 : Int32)) := ⟨_, rfl⟩
        have hm := jl_of hm eV8
        rw [← eV8]
        refine j_aload_n dX5_county_88 rfl rfl ?_
        refine m_getr (k := 0) (r := 1) fX5_7 dX5_county_89 rfl rfl rfl ?_
        refine j_aload_n dX5_county_92 rfl rfl ?_
        refine j_iload_n dX5_county_93 rfl rfl ?_
        refine j_iconst (v := 5) dX5_county_94 rfl (by decide) ?_
        refine o_callV_i kX5_49 dX5_county_95 rfl (tX5_at  rfl) rfl rfl rfl rfl rfl (Nat.le_of_ble_eq_true rfl) (by decide) ?_
        refine j_iconst (v := -1) dX5_county_98 rfl (by decide) ?_
        obtain ⟨g9, hm⟩ := jg_of hm
        refine o_iast (k := (Int32.toNatClampNeg (mX5_at a1 (5 : Int32)))) rfl dX5_county_99 rfl rfl (jin_vp g9) ?_
        obtain ⟨V10, eV10⟩ : ∃ y, y = (jsI V8 1 (Int32.toNatClampNeg (mX5_at a1 (5 : Int32))) (-1 : Int32)) := ⟨_, rfl⟩
        have hm := jl_of hm eV10
        rw [← eV10]
        refine j_aload_n dX5_county_100 rfl rfl ?_
        refine j_dup dX5_county_101 rfl rfl ?_
        refine m_getl (k := 3) fX5_104 dX5_county_102 rfl rfl rfl ?_
        refine j_iload_n dX5_county_105 rfl rfl ?_
        refine j_i2l dX5_county_106 rfl ?_
        refine j_ladd dX5_county_107 rfl ?_
        refine m_putl (k := 3) fX5_104 dX5_county_108 rfl rfl rfl ?_
        obtain ⟨V11, eV11⟩ : ∃ y, y = (jsL V10 0 3 ((V10.2 0 3) + (Int32.toInt64 ((r5 * (V.1 1 5)) / (100 : Int32))))) := ⟨_, rfl⟩
        have hm := jl_of hm eV11
        rw [← eV11]
        refine j_iload_n dX5_county_111 rfl rfl ?_
        exact j_ireturn dX5_county_112 rfl rfl ⟨Nat.le_refl _, Nat.le_refl _⟩ (jf_m (fun z => .int z) hm)
      · have hm := jif_pos c4 hm
        refine j_aload_n dX5_county_41 rfl rfl ?_
        refine j_ldc dX5_county_42 rfl wX5_127 ?_
        obtain ⟨p12, ep12, hm⟩ := jb_of hm
        refine o_callV_i kX5_60 dX5_county_44 rfl (tX5_finds  ep12) rfl rfl rfl rfl rfl (Nat.le_of_ble_eq_true rfl) (by decide) ?_
        exact j_ireturn dX5_county_47 rfl rfl ⟨Nat.le_refl _, Nat.le_refl _⟩ (jf_m (fun z => .int z) hm)
    · have hm := jif_pos c3 hm
      refine j_aload_n dX5_county_24 rfl rfl ?_
      refine j_ldc dX5_county_25 rfl wX5_114 ?_
      obtain ⟨p13, ep13, hm⟩ := jb_of hm
      refine o_callV_i kX5_60 dX5_county_27 rfl (tX5_finds  ep13) rfl rfl rfl rfl rfl (Nat.le_of_ble_eq_true rfl) (by decide) ?_
      exact j_ireturn dX5_county_30 rfl rfl ⟨Nat.le_refl _, Nat.le_refl _⟩ (jf_m (fun z => .int z) hm)
  · have hm := jif_pos c1 hm
    refine j_aload_n dX5_county_9 rfl rfl ?_
    refine j_ldc dX5_county_10 rfl wX5_44 ?_
    obtain ⟨p14, ep14, hm⟩ := jb_of hm
    refine o_callV_i kX5_60 dX5_county_12 rfl (tX5_finds  ep14) rfl rfl rfl rfl rfl (Nat.le_of_ble_eq_true rfl) (by decide) ?_
    exact j_ireturn dX5_county_15 rfl rfl ⟨Nat.le_refl _, Nat.le_refl _⟩ (jf_m (fun z => .int z) hm)
theorem dX5_month_0 : decode cX5_month 0 = .ok (.aload_n 0, 1) := by decide +kernel
theorem dX5_month_1 : decode cX5_month 1 = .ok (.getfield 7, 3) := by decide +kernel
theorem dX5_month_4 : decode cX5_month 4 = .ok (.iconst 2, 1) := by decide +kernel
theorem dX5_month_5 : decode cX5_month 5 = .ok (.iaload, 1) := by decide +kernel
theorem dX5_month_6 : decode cX5_month 6 = .ok (.bipush 99, 2) := by decide +kernel
theorem dX5_month_8 : decode cX5_month 8 = .ok (.if_icmp .ne 10, 3) := by decide +kernel
theorem dX5_month_11 : decode cX5_month 11 = .ok (.aload_n 0, 1) := by decide +kernel
theorem dX5_month_12 : decode cX5_month 12 = .ok (.ldc 114, 2) := by decide +kernel
theorem dX5_month_14 : decode cX5_month 14 = .ok (.invokevirtual 60, 3) := by decide +kernel
theorem dX5_month_17 : decode cX5_month 17 = .ok (.ireturn, 1) := by decide +kernel
theorem dX5_month_18 : decode cX5_month 18 = .ok (.aload_n 0, 1) := by decide +kernel
theorem dX5_month_19 : decode cX5_month 19 = .ok (.getfield 7, 3) := by decide +kernel
theorem dX5_month_22 : decode cX5_month 22 = .ok (.iconst 2, 1) := by decide +kernel
theorem dX5_month_23 : decode cX5_month 23 = .ok (.dup2, 1) := by decide +kernel
theorem dX5_month_24 : decode cX5_month 24 = .ok (.iaload, 1) := by decide +kernel
theorem dX5_month_25 : decode cX5_month 25 = .ok (.iconst 1, 1) := by decide +kernel
theorem dX5_month_26 : decode cX5_month 26 = .ok (.iadd, 1) := by decide +kernel
theorem dX5_month_27 : decode cX5_month 27 = .ok (.iastore, 1) := by decide +kernel
theorem dX5_month_28 : decode cX5_month 28 = .ok (.iconst 0, 1) := by decide +kernel
theorem dX5_month_29 : decode cX5_month 29 = .ok (.istore_n 1, 1) := by decide +kernel
theorem dX5_month_30 : decode cX5_month 30 = .ok (.iload_n 1, 1) := by decide +kernel
theorem dX5_month_31 : decode cX5_month 31 = .ok (.aload_n 0, 1) := by decide +kernel
theorem dX5_month_32 : decode cX5_month 32 = .ok (.getfield 7, 3) := by decide +kernel
theorem dX5_month_35 : decode cX5_month 35 = .ok (.iconst 0, 1) := by decide +kernel
theorem dX5_month_36 : decode cX5_month 36 = .ok (.iaload, 1) := by decide +kernel
theorem dX5_month_37 : decode cX5_month 37 = .ok (.if_icmp .ge 65, 3) := by decide +kernel
theorem dX5_month_40 : decode cX5_month 40 = .ok (.aload_n 0, 1) := by decide +kernel
theorem dX5_month_41 : decode cX5_month 41 = .ok (.iload_n 1, 1) := by decide +kernel
theorem dX5_month_42 : decode cX5_month 42 = .ok (.iconst 5, 1) := by decide +kernel
theorem dX5_month_43 : decode cX5_month 43 = .ok (.invokevirtual 45, 3) := by decide +kernel
theorem dX5_month_46 : decode cX5_month 46 = .ok (.ifCond .lt 23, 3) := by decide +kernel
theorem dX5_month_49 : decode cX5_month 49 = .ok (.aload_n 0, 1) := by decide +kernel
theorem dX5_month_50 : decode cX5_month 50 = .ok (.iload_n 1, 1) := by decide +kernel
theorem dX5_month_51 : decode cX5_month 51 = .ok (.bipush 6, 2) := by decide +kernel
theorem dX5_month_53 : decode cX5_month 53 = .ok (.invokevirtual 45, 3) := by decide +kernel
theorem dX5_month_56 : decode cX5_month 56 = .ok (.aload_n 0, 1) := by decide +kernel
theorem dX5_month_57 : decode cX5_month 57 = .ok (.getfield 7, 3) := by decide +kernel
theorem dX5_month_60 : decode cX5_month 60 = .ok (.iconst 2, 1) := by decide +kernel
theorem dX5_month_61 : decode cX5_month 61 = .ok (.iaload, 1) := by decide +kernel
theorem dX5_month_62 : decode cX5_month 62 = .ok (.if_icmp .ge 7, 3) := by decide +kernel
theorem dX5_month_65 : decode cX5_month 65 = .ok (.iconst 1, 1) := by decide +kernel
theorem dX5_month_66 : decode cX5_month 66 = .ok (.goto 4, 3) := by decide +kernel
theorem dX5_month_69 : decode cX5_month 69 = .ok (.iconst 0, 1) := by decide +kernel
theorem dX5_month_70 : decode cX5_month 70 = .ok (.istore_n 2, 1) := by decide +kernel
theorem dX5_month_71 : decode cX5_month 71 = .ok (.aload_n 0, 1) := by decide +kernel
theorem dX5_month_72 : decode cX5_month 72 = .ok (.getfield 7, 3) := by decide +kernel
theorem dX5_month_75 : decode cX5_month 75 = .ok (.aload_n 0, 1) := by decide +kernel
theorem dX5_month_76 : decode cX5_month 76 = .ok (.iload_n 1, 1) := by decide +kernel
theorem dX5_month_77 : decode cX5_month 77 = .ok (.iconst 5, 1) := by decide +kernel
theorem dX5_month_78 : decode cX5_month 78 = .ok (.invokevirtual 49, 3) := by decide +kernel
theorem dX5_month_81 : decode cX5_month 81 = .ok (.iload_n 2, 1) := by decide +kernel
theorem dX5_month_82 : decode cX5_month 82 = .ok (.ifCond .eq 7, 3) := by decide +kernel
theorem dX5_month_85 : decode cX5_month 85 = .ok (.iconst (-1), 1) := by decide +kernel
theorem dX5_month_86 : decode cX5_month 86 = .ok (.goto 9, 3) := by decide +kernel
theorem dX5_month_89 : decode cX5_month 89 = .ok (.aload_n 0, 1) := by decide +kernel
theorem dX5_month_90 : decode cX5_month 90 = .ok (.iload_n 1, 1) := by decide +kernel
theorem dX5_month_91 : decode cX5_month 91 = .ok (.iconst 5, 1) := by decide +kernel
theorem dX5_month_92 : decode cX5_month 92 = .ok (.invokevirtual 45, 3) := by decide +kernel
theorem dX5_month_95 : decode cX5_month 95 = .ok (.iastore, 1) := by decide +kernel
theorem dX5_month_96 : decode cX5_month 96 = .ok (.iinc 1 1, 3) := by decide +kernel
theorem dX5_month_99 : decode cX5_month 99 = .ok (.goto (-69), 3) := by decide +kernel
theorem dX5_month_102 : decode cX5_month 102 = .ok (.aload_n 0, 1) := by decide +kernel
theorem dX5_month_103 : decode cX5_month 103 = .ok (.getfield 7, 3) := by decide +kernel
theorem dX5_month_106 : decode cX5_month 106 = .ok (.bipush 7, 2) := by decide +kernel
theorem dX5_month_108 : decode cX5_month 108 = .ok (.aload_n 0, 1) := by decide +kernel
theorem dX5_month_109 : decode cX5_month 109 = .ok (.getfield 7, 3) := by decide +kernel
theorem dX5_month_112 : decode cX5_month 112 = .ok (.bipush 7, 2) := by decide +kernel
theorem dX5_month_114 : decode cX5_month 114 = .ok (.iaload, 1) := by decide +kernel
theorem dX5_month_115 : decode cX5_month 115 = .ok (.ldc 128, 2) := by decide +kernel
theorem dX5_month_117 : decode cX5_month 117 = .ok (.imul, 1) := by decide +kernel
theorem dX5_month_118 : decode cX5_month 118 = .ok (.sipush 12345, 3) := by decide +kernel
theorem dX5_month_121 : decode cX5_month 121 = .ok (.iadd, 1) := by decide +kernel
theorem dX5_month_122 : decode cX5_month 122 = .ok (.iastore, 1) := by decide +kernel
theorem dX5_month_123 : decode cX5_month 123 = .ok (.iconst (-1), 1) := by decide +kernel
theorem dX5_month_124 : decode cX5_month 124 = .ok (.istore_n 1, 1) := by decide +kernel
theorem dX5_month_125 : decode cX5_month 125 = .ok (.aload_n 0, 1) := by decide +kernel
theorem dX5_month_126 : decode cX5_month 126 = .ok (.getfield 7, 3) := by decide +kernel
theorem dX5_month_129 : decode cX5_month 129 = .ok (.bipush 7, 2) := by decide +kernel
theorem dX5_month_131 : decode cX5_month 131 = .ok (.iaload, 1) := by decide +kernel
theorem dX5_month_132 : decode cX5_month 132 = .ok (.bipush 8, 2) := by decide +kernel
theorem dX5_month_134 : decode cX5_month 134 = .ok (.iushr, 1) := by decide +kernel
theorem dX5_month_135 : decode cX5_month 135 = .ok (.bipush 100, 2) := by decide +kernel
theorem dX5_month_137 : decode cX5_month 137 = .ok (.irem, 1) := by decide +kernel
theorem dX5_month_138 : decode cX5_month 138 = .ok (.aload_n 0, 1) := by decide +kernel
theorem dX5_month_139 : decode cX5_month 139 = .ok (.getfield 7, 3) := by decide +kernel
theorem dX5_month_142 : decode cX5_month 142 = .ok (.iconst 3, 1) := by decide +kernel
theorem dX5_month_143 : decode cX5_month 143 = .ok (.iaload, 1) := by decide +kernel
theorem dX5_month_144 : decode cX5_month 144 = .ok (.if_icmp .ge 87, 3) := by decide +kernel
theorem dX5_month_147 : decode cX5_month 147 = .ok (.iconst 0, 1) := by decide +kernel
theorem dX5_month_148 : decode cX5_month 148 = .ok (.istore_n 2, 1) := by decide +kernel
theorem dX5_month_149 : decode cX5_month 149 = .ok (.iload_n 2, 1) := by decide +kernel
theorem dX5_month_150 : decode cX5_month 150 = .ok (.aload_n 0, 1) := by decide +kernel
theorem dX5_month_151 : decode cX5_month 151 = .ok (.getfield 7, 3) := by decide +kernel
theorem dX5_month_154 : decode cX5_month 154 = .ok (.iconst 0, 1) := by decide +kernel
theorem dX5_month_155 : decode cX5_month 155 = .ok (.iaload, 1) := by decide +kernel
theorem dX5_month_156 : decode cX5_month 156 = .ok (.if_icmp .ge 59, 3) := by decide +kernel
theorem dX5_month_159 : decode cX5_month 159 = .ok (.aload_n 0, 1) := by decide +kernel
theorem dX5_month_160 : decode cX5_month 160 = .ok (.iload_n 2, 1) := by decide +kernel
theorem dX5_month_161 : decode cX5_month 161 = .ok (.invokevirtual 110, 3) := by decide +kernel
theorem dX5_month_164 : decode cX5_month 164 = .ok (.ifCond .eq 16, 3) := by decide +kernel
theorem dX5_month_167 : decode cX5_month 167 = .ok (.aload_n 0, 1) := by decide +kernel
theorem dX5_month_168 : decode cX5_month 168 = .ok (.iload_n 2, 1) := by decide +kernel
theorem dX5_month_169 : decode cX5_month 169 = .ok (.iconst 5, 1) := by decide +kernel
theorem dX5_month_170 : decode cX5_month 170 = .ok (.invokevirtual 45, 3) := by decide +kernel
theorem dX5_month_173 : decode cX5_month 173 = .ok (.ifCond .ge 7, 3) := by decide +kernel
theorem dX5_month_176 : decode cX5_month 176 = .ok (.iconst 1, 1) := by decide +kernel
theorem dX5_month_177 : decode cX5_month 177 = .ok (.goto 4, 3) := by decide +kernel
theorem dX5_month_180 : decode cX5_month 180 = .ok (.iconst 0, 1) := by decide +kernel
theorem dX5_month_181 : decode cX5_month 181 = .ok (.istore_n 3, 1) := by decide +kernel
theorem dX5_month_182 : decode cX5_month 182 = .ok (.iload_n 3, 1) := by decide +kernel
theorem dX5_month_183 : decode cX5_month 183 = .ok (.ifCond .eq 24, 3) := by decide +kernel
theorem dX5_month_186 : decode cX5_month 186 = .ok (.iload_n 1, 1) := by decide +kernel
theorem dX5_month_187 : decode cX5_month 187 = .ok (.ifCond .lt 16, 3) := by decide +kernel
theorem dX5_month_190 : decode cX5_month 190 = .ok (.aload_n 0, 1) := by decide +kernel
theorem dX5_month_191 : decode cX5_month 191 = .ok (.iload_n 2, 1) := by decide +kernel
theorem dX5_month_192 : decode cX5_month 192 = .ok (.invokevirtual 88, 3) := by decide +kernel
theorem dX5_month_195 : decode cX5_month 195 = .ok (.aload_n 0, 1) := by decide +kernel
theorem dX5_month_196 : decode cX5_month 196 = .ok (.iload_n 1, 1) := by decide +kernel
theorem dX5_month_197 : decode cX5_month 197 = .ok (.invokevirtual 88, 3) := by decide +kernel
theorem dX5_month_200 : decode cX5_month 200 = .ok (.if_icmp .ge 7, 3) := by decide +kernel
theorem dX5_month_203 : decode cX5_month 203 = .ok (.iload_n 2, 1) := by decide +kernel
theorem dX5_month_204 : decode cX5_month 204 = .ok (.goto 4, 3) := by decide +kernel
theorem dX5_month_207 : decode cX5_month 207 = .ok (.iload_n 1, 1) := by decide +kernel
theorem dX5_month_208 : decode cX5_month 208 = .ok (.istore_n 1, 1) := by decide +kernel
theorem dX5_month_209 : decode cX5_month 209 = .ok (.iinc 2 1, 3) := by decide +kernel
theorem dX5_month_212 : decode cX5_month 212 = .ok (.goto (-63), 3) := by decide +kernel
theorem dX5_month_215 : decode cX5_month 215 = .ok (.iload_n 1, 1) := by decide +kernel
theorem dX5_month_216 : decode cX5_month 216 = .ok (.ifCond .lt 15, 3) := by decide +kernel
theorem dX5_month_219 : decode cX5_month 219 = .ok (.aload_n 0, 1) := by decide +kernel
theorem dX5_month_220 : decode cX5_month 220 = .ok (.getfield 7, 3) := by decide +kernel
theorem dX5_month_223 : decode cX5_month 223 = .ok (.aload_n 0, 1) := by decide +kernel
theorem dX5_month_224 : decode cX5_month 224 = .ok (.iload_n 1, 1) := by decide +kernel
theorem dX5_month_225 : decode cX5_month 225 = .ok (.iconst 4, 1) := by decide +kernel
theorem dX5_month_226 : decode cX5_month 226 = .ok (.invokevirtual 49, 3) := by decide +kernel
theorem dX5_month_229 : decode cX5_month 229 = .ok (.iconst 2, 1) := by decide +kernel
theorem dX5_month_230 : decode cX5_month 230 = .ok (.iastore, 1) := by decide +kernel
theorem dX5_month_231 : decode cX5_month 231 = .ok (.iconst 0, 1) := by decide +kernel
theorem dX5_month_232 : decode cX5_month 232 = .ok (.istore_n 2, 1) := by decide +kernel
theorem dX5_month_233 : decode cX5_month 233 = .ok (.iload_n 2, 1) := by decide +kernel
theorem dX5_month_234 : decode cX5_month 234 = .ok (.aload_n 0, 1) := by decide +kernel
theorem dX5_month_235 : decode cX5_month 235 = .ok (.getfield 7, 3) := by decide +kernel
theorem dX5_month_238 : decode cX5_month 238 = .ok (.iconst 0, 1) := by decide +kernel
theorem dX5_month_239 : decode cX5_month 239 = .ok (.iaload, 1) := by decide +kernel
theorem dX5_month_240 : decode cX5_month 240 = .ok (.if_icmp .ge 43, 3) := by decide +kernel
theorem dX5_month_243 : decode cX5_month 243 = .ok (.aload_n 0, 1) := by decide +kernel
theorem dX5_month_244 : decode cX5_month 244 = .ok (.getfield 7, 3) := by decide +kernel
theorem dX5_month_247 : decode cX5_month 247 = .ok (.aload_n 0, 1) := by decide +kernel
theorem dX5_month_248 : decode cX5_month 248 = .ok (.iload_n 2, 1) := by decide +kernel
theorem dX5_month_249 : decode cX5_month 249 = .ok (.iconst 2, 1) := by decide +kernel
theorem dX5_month_250 : decode cX5_month 250 = .ok (.invokevirtual 49, 3) := by decide +kernel
theorem dX5_month_253 : decode cX5_month 253 = .ok (.dup2, 1) := by decide +kernel
theorem dX5_month_254 : decode cX5_month 254 = .ok (.iaload, 1) := by decide +kernel
theorem dX5_month_255 : decode cX5_month 255 = .ok (.aload_n 0, 1) := by decide +kernel
theorem dX5_month_256 : decode cX5_month 256 = .ok (.iload_n 2, 1) := by decide +kernel
theorem dX5_month_257 : decode cX5_month 257 = .ok (.iconst 2, 1) := by decide +kernel
theorem dX5_month_258 : decode cX5_month 258 = .ok (.invokevirtual 45, 3) := by decide +kernel
theorem dX5_month_261 : decode cX5_month 261 = .ok (.aload_n 0, 1) := by decide +kernel
theorem dX5_month_262 : decode cX5_month 262 = .ok (.getfield 7, 3) := by decide +kernel
theorem dX5_month_265 : decode cX5_month 265 = .ok (.iconst 4, 1) := by decide +kernel
theorem dX5_month_266 : decode cX5_month 266 = .ok (.iaload, 1) := by decide +kernel
theorem dX5_month_267 : decode cX5_month 267 = .ok (.if_icmp .le 7, 3) := by decide +kernel
theorem dX5_month_270 : decode cX5_month 270 = .ok (.iconst 1, 1) := by decide +kernel
theorem dX5_month_271 : decode cX5_month 271 = .ok (.goto 4, 3) := by decide +kernel
theorem dX5_month_274 : decode cX5_month 274 = .ok (.iconst 0, 1) := by decide +kernel
theorem dX5_month_275 : decode cX5_month 275 = .ok (.isub, 1) := by decide +kernel
theorem dX5_month_276 : decode cX5_month 276 = .ok (.iastore, 1) := by decide +kernel
theorem dX5_month_277 : decode cX5_month 277 = .ok (.iinc 2 1, 3) := by decide +kernel
theorem dX5_month_280 : decode cX5_month 280 = .ok (.goto (-47), 3) := by decide +kernel
theorem dX5_month_283 : decode cX5_month 283 = .ok (.iload_n 1, 1) := by decide +kernel
theorem dX5_month_284 : decode cX5_month 284 = .ok (.ireturn, 1) := by decide +kernel
def mX5_month_b95  (k30 : Int32 → jMem → Option (Int32 × jMem)) (a1 : Int32) (s0 : Int32) (s1 : Int32) (V : jMem) : Option (Int32 × jMem) := (jg (jin s1 120) (jl (jsI V 1 (Int32.toNatClampNeg s1) s0) (fun (V2 : jMem) => (k30 (a1 + (1 : Int32)) V2))))
set_option maxHeartbeats 4000000 in
set_option maxRecDepth 20000 in
theorem tX5_month_b95 {l : Launch} {Z : jZ} {q : Nat → Nat} {k30 : Int32 → jMem → Option (Int32 × jMem)} {a1 : Int32} {s0 : Int32} {s1 : Int32} {V : jMem} {r : Int32} {V' : jMem}   (hk30 : ∀ (a1 : Int32) (V : jMem), k30 a1 V = some (r, V') → J l Z RX5 "month" cX5_month 4 (some .int) 5 0 0 (fun r' w => r' = some (.int r) ∧ w = jw Z q V' dM) 30 [(0, .ref (q 0)), (1, .int a1)] [] (jw Z q V dM) 0 0) (hm : mX5_month_b95 k30 a1 s0 s1 V = some (r, V')) : J l Z RX5 "month" cX5_month 4 (some .int) 5 0 0 (fun r' w => r' = some (.int r) ∧ w = jw Z q V' dM) 95 [(0, .ref (q 0)), (1, .int a1)] [.int s0, .int s1, .ref (q 1)] (jw Z q V dM) 0 0 := by
  unfold mX5_month_b95 at hm
  obtain ⟨g1, hm⟩ := jg_of hm
  refine o_iast (k := (Int32.toNatClampNeg s1)) rfl dX5_month_95 rfl rfl (jin_vp g1) ?_
  obtain ⟨V2, eV2⟩ : ∃ y, y = (jsI V 1 (Int32.toNatClampNeg s1) s0) := ⟨_, rfl⟩
  have hm := jl_of hm eV2
  rw [← eV2]
  refine j_iinc (v := (a1 + (1 : Int32))) (L' := [(1, _), (0, _)]) dX5_month_96 rfl rfl rfl (by decide) rfl ?_
  refine j_goto (tgt := 30) dX5_month_99 (by decide) ?_
  refine j_sub (L' := [(0, _), (1, _)]) [1, 0] rfl ?_
  exact hk30 _ _  hm
def mX5_month_b70  (k30 : Int32 → jMem → Option (Int32 × jMem)) (a1 : Int32) (s0 : Int32) (V : jMem) : Option (Int32 × jMem) := (if s0 = (0 : Int32) then ((mX5_has a1 (5 : Int32) V).bind (fun (r2 : Int32) => (mX5_month_b95 k30 a1 r2 (mX5_at a1 (5 : Int32)) V))) else (mX5_month_b95 k30 a1 (-1 : Int32) (mX5_at a1 (5 : Int32)) V))
set_option maxHeartbeats 4000000 in
set_option maxRecDepth 20000 in
theorem tX5_month_b70 {l : Launch} {Z : jZ} {q : Nat → Nat} {k30 : Int32 → jMem → Option (Int32 × jMem)} {a1 : Int32} {s0 : Int32} {V : jMem} {r : Int32} {V' : jMem}   (hk30 : ∀ (a1 : Int32) (V : jMem), k30 a1 V = some (r, V') → J l Z RX5 "month" cX5_month 4 (some .int) 5 0 0 (fun r' w => r' = some (.int r) ∧ w = jw Z q V' dM) 30 [(0, .ref (q 0)), (1, .int a1)] [] (jw Z q V dM) 0 0) (hm : mX5_month_b70 k30 a1 s0 V = some (r, V')) : J l Z RX5 "month" cX5_month 4 (some .int) 5 0 0 (fun r' w => r' = some (.int r) ∧ w = jw Z q V' dM) 70 [(0, .ref (q 0)), (1, .int a1)] [.int s0] (jw Z q V dM) 0 0 := by
  unfold mX5_month_b70 at hm
  refine j_istore_n (i := 2) (L' := [(2, _), (0, _), (1, _)]) dX5_month_70 rfl rfl (by decide) rfl ?_
  refine j_aload_n dX5_month_71 rfl rfl ?_
  refine m_getr (k := 0) (r := 1) fX5_7 dX5_month_72 rfl rfl rfl ?_
  refine j_aload_n dX5_month_75 rfl rfl ?_
  refine j_iload_n dX5_month_76 rfl rfl ?_
  refine j_iconst (v := 5) dX5_month_77 rfl (by decide) ?_
  refine o_callV_i kX5_49 dX5_month_78 rfl (tX5_at  rfl) rfl rfl rfl rfl rfl (Nat.le_of_ble_eq_true rfl) (by decide) ?_
  refine j_iload_n dX5_month_81 rfl rfl ?_
  refine j_if_eq (tgt := 89) dX5_month_82 rfl (by decide) (fun c1 => ?_) (fun c1 => ?_)
  · have hm := jif_pos c1 hm
    refine j_aload_n dX5_month_89 rfl rfl ?_
    refine j_iload_n dX5_month_90 rfl rfl ?_
    refine j_iconst (v := 5) dX5_month_91 rfl (by decide) ?_
    obtain ⟨r2, er2, hm⟩ := jb_of hm
    refine o_callV_i kX5_45 dX5_month_92 rfl (tX5_has  er2) rfl rfl rfl rfl rfl (Nat.le_of_ble_eq_true rfl) (by decide) ?_
    refine j_sub (L' := [(0, _), (1, _)]) [1, 2] rfl ?_
    exact tX5_month_b95   hk30 hm
  · have hm := jif_neg c1 hm
    refine j_iconst (v := -1) dX5_month_85 rfl (by decide) ?_
    refine j_goto (tgt := 95) dX5_month_86 (by decide) ?_
    refine j_sub (L' := [(0, _), (1, _)]) [1, 2] rfl ?_
    exact tX5_month_b95   hk30 hm
def mX5_month_b69  (k30 : Int32 → jMem → Option (Int32 × jMem)) (a1 : Int32) (V : jMem) : Option (Int32 × jMem) := (mX5_month_b70 k30 a1 (0 : Int32) V)
set_option maxHeartbeats 4000000 in
set_option maxRecDepth 20000 in
theorem tX5_month_b69 {l : Launch} {Z : jZ} {q : Nat → Nat} {k30 : Int32 → jMem → Option (Int32 × jMem)} {a1 : Int32} {V : jMem} {r : Int32} {V' : jMem}   (hk30 : ∀ (a1 : Int32) (V : jMem), k30 a1 V = some (r, V') → J l Z RX5 "month" cX5_month 4 (some .int) 5 0 0 (fun r' w => r' = some (.int r) ∧ w = jw Z q V' dM) 30 [(0, .ref (q 0)), (1, .int a1)] [] (jw Z q V dM) 0 0) (hm : mX5_month_b69 k30 a1 V = some (r, V')) : J l Z RX5 "month" cX5_month 4 (some .int) 5 0 0 (fun r' w => r' = some (.int r) ∧ w = jw Z q V' dM) 69 [(0, .ref (q 0)), (1, .int a1)] [] (jw Z q V dM) 0 0 := by
  unfold mX5_month_b69 at hm
  refine j_iconst (v := 0) dX5_month_69 rfl (by decide) ?_
  exact tX5_month_b70   hk30 hm
def mX5_month_b208  (k149 : Int32 → Int32 → jMem → Option (Int32 × jMem)) (a2 : Int32) (s0 : Int32) (V : jMem) : Option (Int32 × jMem) := (k149 s0 (a2 + (1 : Int32)) V)
set_option maxHeartbeats 4000000 in
set_option maxRecDepth 20000 in
theorem tX5_month_b208 {l : Launch} {Z : jZ} {q : Nat → Nat} {k149 : Int32 → Int32 → jMem → Option (Int32 × jMem)} {a2 : Int32} {s0 : Int32} {V : jMem} {r : Int32} {V' : jMem}   (hk149 : ∀ (a1 : Int32) (a2 : Int32) (V : jMem), k149 a1 a2 V = some (r, V') → J l Z RX5 "month" cX5_month 4 (some .int) 5 0 0 (fun r' w => r' = some (.int r) ∧ w = jw Z q V' dM) 149 [(0, .ref (q 0)), (1, .int a1), (2, .int a2)] [] (jw Z q V dM) 0 0) (hm : mX5_month_b208 k149 a2 s0 V = some (r, V')) : J l Z RX5 "month" cX5_month 4 (some .int) 5 0 0 (fun r' w => r' = some (.int r) ∧ w = jw Z q V' dM) 208 [(0, .ref (q 0)), (2, .int a2)] [.int s0] (jw Z q V dM) 0 0 := by
  unfold mX5_month_b208 at hm
  refine j_istore_n (i := 1) (L' := [(1, _), (0, _), (2, _)]) dX5_month_208 rfl rfl (by decide) rfl ?_
  refine j_iinc (v := (a2 + (1 : Int32))) (L' := [(2, _), (1, _), (0, _)]) dX5_month_209 rfl rfl rfl (by decide) rfl ?_
  refine j_goto (tgt := 149) dX5_month_212 (by decide) ?_
  refine j_sub (L' := [(0, _), (1, _), (2, _)]) [2, 1, 0] rfl ?_
  exact hk149 _ _ _  hm
def mX5_month_b203  (k149 : Int32 → Int32 → jMem → Option (Int32 × jMem)) (a2 : Int32) (V : jMem) : Option (Int32 × jMem) := (mX5_month_b208 k149 a2 a2 V)
set_option maxHeartbeats 4000000 in
set_option maxRecDepth 20000 in
theorem tX5_month_b203 {l : Launch} {Z : jZ} {q : Nat → Nat} {k149 : Int32 → Int32 → jMem → Option (Int32 × jMem)} {a2 : Int32} {V : jMem} {r : Int32} {V' : jMem}   (hk149 : ∀ (a1 : Int32) (a2 : Int32) (V : jMem), k149 a1 a2 V = some (r, V') → J l Z RX5 "month" cX5_month 4 (some .int) 5 0 0 (fun r' w => r' = some (.int r) ∧ w = jw Z q V' dM) 149 [(0, .ref (q 0)), (1, .int a1), (2, .int a2)] [] (jw Z q V dM) 0 0) (hm : mX5_month_b203 k149 a2 V = some (r, V')) : J l Z RX5 "month" cX5_month 4 (some .int) 5 0 0 (fun r' w => r' = some (.int r) ∧ w = jw Z q V' dM) 203 [(0, .ref (q 0)), (2, .int a2)] [] (jw Z q V dM) 0 0 := by
  unfold mX5_month_b203 at hm
  refine j_iload_n dX5_month_203 rfl rfl ?_
  refine j_goto (tgt := 208) dX5_month_204 (by decide) ?_
  exact tX5_month_b208   hk149 hm
def mX5_month_b207  (k149 : Int32 → Int32 → jMem → Option (Int32 × jMem)) (a1 : Int32) (a2 : Int32) (V : jMem) : Option (Int32 × jMem) := (mX5_month_b208 k149 a2 a1 V)
set_option maxHeartbeats 4000000 in
set_option maxRecDepth 20000 in
theorem tX5_month_b207 {l : Launch} {Z : jZ} {q : Nat → Nat} {k149 : Int32 → Int32 → jMem → Option (Int32 × jMem)} {a1 : Int32} {a2 : Int32} {V : jMem} {r : Int32} {V' : jMem}   (hk149 : ∀ (a1 : Int32) (a2 : Int32) (V : jMem), k149 a1 a2 V = some (r, V') → J l Z RX5 "month" cX5_month 4 (some .int) 5 0 0 (fun r' w => r' = some (.int r) ∧ w = jw Z q V' dM) 149 [(0, .ref (q 0)), (1, .int a1), (2, .int a2)] [] (jw Z q V dM) 0 0) (hm : mX5_month_b207 k149 a1 a2 V = some (r, V')) : J l Z RX5 "month" cX5_month 4 (some .int) 5 0 0 (fun r' w => r' = some (.int r) ∧ w = jw Z q V' dM) 207 [(0, .ref (q 0)), (1, .int a1), (2, .int a2)] [] (jw Z q V dM) 0 0 := by
  unfold mX5_month_b207 at hm
  refine j_iload_n dX5_month_207 rfl rfl ?_
  refine j_sub (L' := [(0, _), (2, _)]) [0, 2] rfl ?_
  exact tX5_month_b208   hk149 hm
def mX5_month_b181  (k149 : Int32 → Int32 → jMem → Option (Int32 × jMem)) (a1 : Int32) (a2 : Int32) (s0 : Int32) (V : jMem) : Option (Int32 × jMem) := (if s0 = (0 : Int32) then (mX5_month_b207 k149 a1 a2 V) else (if a1 < (0 : Int32) then (mX5_month_b203 k149 a2 V) else ((mX5_asksNow a2 V).bind (fun (r3 : Int32) => ((mX5_asksNow a1 V).bind (fun (r4 : Int32) => (if r4 ≤ r3 then (mX5_month_b207 k149 a1 a2 V) else (mX5_month_b203 k149 a2 V))))))))
set_option maxHeartbeats 4000000 in
set_option maxRecDepth 20000 in
theorem tX5_month_b181 {l : Launch} {Z : jZ} {q : Nat → Nat} {k149 : Int32 → Int32 → jMem → Option (Int32 × jMem)} {a1 : Int32} {a2 : Int32} {s0 : Int32} {V : jMem} {r : Int32} {V' : jMem}   (hk149 : ∀ (a1 : Int32) (a2 : Int32) (V : jMem), k149 a1 a2 V = some (r, V') → J l Z RX5 "month" cX5_month 4 (some .int) 5 0 0 (fun r' w => r' = some (.int r) ∧ w = jw Z q V' dM) 149 [(0, .ref (q 0)), (1, .int a1), (2, .int a2)] [] (jw Z q V dM) 0 0) (hm : mX5_month_b181 k149 a1 a2 s0 V = some (r, V')) : J l Z RX5 "month" cX5_month 4 (some .int) 5 0 0 (fun r' w => r' = some (.int r) ∧ w = jw Z q V' dM) 181 [(0, .ref (q 0)), (1, .int a1), (2, .int a2)] [.int s0] (jw Z q V dM) 0 0 := by
  unfold mX5_month_b181 at hm
  refine j_istore_n (i := 3) (L' := [(3, _), (0, _), (1, _), (2, _)]) dX5_month_181 rfl rfl (by decide) rfl ?_
  refine j_iload_n dX5_month_182 rfl rfl ?_
  refine j_if_eq (tgt := 207) dX5_month_183 rfl (by decide) (fun c1 => ?_) (fun c1 => ?_)
  · have hm := jif_pos c1 hm
    refine j_sub (L' := [(0, _), (1, _), (2, _)]) [1, 2, 3] rfl ?_
    exact tX5_month_b207   hk149 hm
  · have hm := jif_neg c1 hm
    refine j_iload_n dX5_month_186 rfl rfl ?_
    refine j_if_lt (tgt := 203) dX5_month_187 rfl (by decide) (fun c2 => ?_) (fun c2 => ?_)
    · have hm := jif_pos c2 hm
      refine j_sub (L' := [(0, _), (2, _)]) [1, 3] rfl ?_
      exact tX5_month_b203   hk149 hm
    · have hm := jif_neg c2 hm
      refine j_aload_n dX5_month_190 rfl rfl ?_
      refine j_iload_n dX5_month_191 rfl rfl ?_
      obtain ⟨r3, er3, hm⟩ := jb_of hm
      refine o_callV_i kX5_88 dX5_month_192 rfl (tX5_asksNow  er3) rfl rfl rfl rfl rfl (Nat.le_of_ble_eq_true rfl) (by decide) ?_
      refine j_aload_n dX5_month_195 rfl rfl ?_
      refine j_iload_n dX5_month_196 rfl rfl ?_
      obtain ⟨r4, er4, hm⟩ := jb_of hm
      refine o_callV_i kX5_88 dX5_month_197 rfl (tX5_asksNow  er4) rfl rfl rfl rfl rfl (Nat.le_of_ble_eq_true rfl) (by decide) ?_
      refine j_icmp_ge (tgt := 207) dX5_month_200 rfl (by decide) (fun c5 => ?_) (fun c5 => ?_)
      · have hm := jif_pos c5 hm
        refine j_sub (L' := [(0, _), (1, _), (2, _)]) [1, 2, 3] rfl ?_
        exact tX5_month_b207   hk149 hm
      · have hm := jif_neg c5 hm
        refine j_sub (L' := [(0, _), (2, _)]) [1, 3] rfl ?_
        exact tX5_month_b203   hk149 hm
def mX5_month_b180  (k149 : Int32 → Int32 → jMem → Option (Int32 × jMem)) (a1 : Int32) (a2 : Int32) (V : jMem) : Option (Int32 × jMem) := (mX5_month_b181 k149 a1 a2 (0 : Int32) V)
set_option maxHeartbeats 4000000 in
set_option maxRecDepth 20000 in
theorem tX5_month_b180 {l : Launch} {Z : jZ} {q : Nat → Nat} {k149 : Int32 → Int32 → jMem → Option (Int32 × jMem)} {a1 : Int32} {a2 : Int32} {V : jMem} {r : Int32} {V' : jMem}   (hk149 : ∀ (a1 : Int32) (a2 : Int32) (V : jMem), k149 a1 a2 V = some (r, V') → J l Z RX5 "month" cX5_month 4 (some .int) 5 0 0 (fun r' w => r' = some (.int r) ∧ w = jw Z q V' dM) 149 [(0, .ref (q 0)), (1, .int a1), (2, .int a2)] [] (jw Z q V dM) 0 0) (hm : mX5_month_b180 k149 a1 a2 V = some (r, V')) : J l Z RX5 "month" cX5_month 4 (some .int) 5 0 0 (fun r' w => r' = some (.int r) ∧ w = jw Z q V' dM) 180 [(0, .ref (q 0)), (1, .int a1), (2, .int a2)] [] (jw Z q V dM) 0 0 := by
  unfold mX5_month_b180 at hm
  refine j_iconst (v := 0) dX5_month_180 rfl (by decide) ?_
  exact tX5_month_b181   hk149 hm
def mX5_month_b275  (k233 : Int32 → Int32 → jMem → Option (Int32 × jMem)) (a1 : Int32) (a2 : Int32) (s0 : Int32) (s1 : Int32) (s2 : Int32) (V : jMem) : Option (Int32 × jMem) := (jg (jin s2 120) (jl (jsI V 1 (Int32.toNatClampNeg s2) (s1 - s0)) (fun (V2 : jMem) => (k233 a1 (a2 + (1 : Int32)) V2))))
set_option maxHeartbeats 4000000 in
set_option maxRecDepth 20000 in
theorem tX5_month_b275 {l : Launch} {Z : jZ} {q : Nat → Nat} {k233 : Int32 → Int32 → jMem → Option (Int32 × jMem)} {a1 : Int32} {a2 : Int32} {s0 : Int32} {s1 : Int32} {s2 : Int32} {V : jMem} {r : Int32} {V' : jMem}   (hk233 : ∀ (a1 : Int32) (a2 : Int32) (V : jMem), k233 a1 a2 V = some (r, V') → J l Z RX5 "month" cX5_month 4 (some .int) 5 0 0 (fun r' w => r' = some (.int r) ∧ w = jw Z q V' dM) 233 [(0, .ref (q 0)), (1, .int a1), (2, .int a2)] [] (jw Z q V dM) 0 0) (hm : mX5_month_b275 k233 a1 a2 s0 s1 s2 V = some (r, V')) : J l Z RX5 "month" cX5_month 4 (some .int) 5 0 0 (fun r' w => r' = some (.int r) ∧ w = jw Z q V' dM) 275 [(0, .ref (q 0)), (1, .int a1), (2, .int a2)] [.int s0, .int s1, .int s2, .ref (q 1)] (jw Z q V dM) 0 0 := by
  unfold mX5_month_b275 at hm
  refine j_isub dX5_month_275 rfl ?_
  obtain ⟨g1, hm⟩ := jg_of hm
  refine o_iast (k := (Int32.toNatClampNeg s2)) rfl dX5_month_276 rfl rfl (jin_vp g1) ?_
  obtain ⟨V2, eV2⟩ : ∃ y, y = (jsI V 1 (Int32.toNatClampNeg s2) (s1 - s0)) := ⟨_, rfl⟩
  have hm := jl_of hm eV2
  rw [← eV2]
  refine j_iinc (v := (a2 + (1 : Int32))) (L' := [(2, _), (0, _), (1, _)]) dX5_month_277 rfl rfl rfl (by decide) rfl ?_
  refine j_goto (tgt := 233) dX5_month_280 (by decide) ?_
  refine j_sub (L' := [(0, _), (1, _), (2, _)]) [1, 2, 0] rfl ?_
  exact hk233 _ _ _  hm
def mX5_month_b233   : Nat → Int32 → Int32 → jMem → Option (Int32 × jMem)
  | 0, _, _, _ => none
  | n + 1, a1, a2, V => (if (V.1 1 0) ≤ a2 then (some (a1, V)) else (jg (jin (mX5_at a2 (2 : Int32)) 120) ((mX5_has a2 (2 : Int32) V).bind (fun (r3 : Int32) => (if r3 ≤ (V.1 1 4) then (mX5_month_b275 (mX5_month_b233 n) a1 a2 (0 : Int32) (V.1 1 (Int32.toNatClampNeg (mX5_at a2 (2 : Int32)))) (mX5_at a2 (2 : Int32)) V) else (mX5_month_b275 (mX5_month_b233 n) a1 a2 (1 : Int32) (V.1 1 (Int32.toNatClampNeg (mX5_at a2 (2 : Int32)))) (mX5_at a2 (2 : Int32)) V))))))
set_option maxHeartbeats 4000000 in
set_option maxRecDepth 20000 in
theorem tX5_month_b233 {l : Launch} {Z : jZ} {q : Nat → Nat}  {r : Int32} {V' : jMem}   (n : Nat) : ∀ (a1 : Int32) (a2 : Int32) (V : jMem), mX5_month_b233 n a1 a2 V = some (r, V') → J l Z RX5 "month" cX5_month 4 (some .int) 5 0 0 (fun r' w => r' = some (.int r) ∧ w = jw Z q V' dM) 233 [(0, .ref (q 0)), (1, .int a1), (2, .int a2)] [] (jw Z q V dM) 0 0 := by
  induction n with
  | zero => intro a1 a2 V hm; cases hm
  | succ n ih =>
    intro a1 a2 V hm
    rw [mX5_month_b233] at hm
    refine j_iload_n dX5_month_233 rfl rfl ?_
    refine j_aload_n dX5_month_234 rfl rfl ?_
    refine m_getr (k := 0) (r := 1) fX5_7 dX5_month_235 rfl rfl rfl ?_
    refine j_iconst (v := 0) dX5_month_238 rfl (by decide) ?_
    refine o_iald (k := 0) (by decide) dX5_month_239 rfl rfl (jin_vp (by decide)) ?_
    refine j_icmp_ge (tgt := 283) dX5_month_240 rfl (by decide) (fun c1 => ?_) (fun c1 => ?_)
    · have hm := jif_pos c1 hm
      refine j_iload_n dX5_month_283 rfl rfl ?_
      exact j_ireturn dX5_month_284 rfl rfl ⟨Nat.le_refl _, Nat.le_refl _⟩ (jf_m (fun z => .int z) hm)
    · have hm := jif_neg c1 hm
      refine j_aload_n dX5_month_243 rfl rfl ?_
      refine m_getr (k := 0) (r := 1) fX5_7 dX5_month_244 rfl rfl rfl ?_
      refine j_aload_n dX5_month_247 rfl rfl ?_
      refine j_iload_n dX5_month_248 rfl rfl ?_
      refine j_iconst (v := 2) dX5_month_249 rfl (by decide) ?_
      refine o_callV_i kX5_49 dX5_month_250 rfl (tX5_at  rfl) rfl rfl rfl rfl rfl (Nat.le_of_ble_eq_true rfl) (by decide) ?_
      refine j_dup2 dX5_month_253 rfl rfl rfl ?_
      obtain ⟨g2, hm⟩ := jg_of hm
      refine o_iald (k := (Int32.toNatClampNeg (mX5_at a2 (2 : Int32)))) rfl dX5_month_254 rfl rfl (jin_vp g2) ?_
      refine j_aload_n dX5_month_255 rfl rfl ?_
      refine j_iload_n dX5_month_256 rfl rfl ?_
      refine j_iconst (v := 2) dX5_month_257 rfl (by decide) ?_
      obtain ⟨r3, er3, hm⟩ := jb_of hm
      refine o_callV_i kX5_45 dX5_month_258 rfl (tX5_has  er3) rfl rfl rfl rfl rfl (Nat.le_of_ble_eq_true rfl) (by decide) ?_
      refine j_aload_n dX5_month_261 rfl rfl ?_
      refine m_getr (k := 0) (r := 1) fX5_7 dX5_month_262 rfl rfl rfl ?_
      refine j_iconst (v := 4) dX5_month_265 rfl (by decide) ?_
      refine o_iald (k := 4) (by decide) dX5_month_266 rfl rfl (jin_vp (by decide)) ?_
      refine j_icmp_le (tgt := 274) dX5_month_267 rfl (by decide) (fun c4 => ?_) (fun c4 => ?_)
      · have hm := jif_pos c4 hm
        refine j_iconst (v := 0) dX5_month_274 rfl (by decide) ?_
        exact tX5_month_b275   ih hm
      · have hm := jif_neg c4 hm
        refine j_iconst (v := 1) dX5_month_270 rfl (by decide) ?_
        refine j_goto (tgt := 275) dX5_month_271 (by decide) ?_
        exact tX5_month_b275   ih hm
def mX5_month_b231   (a1 : Int32) (V : jMem) : Option (Int32 × jMem) := (mX5_month_b233 2000 a1 (0 : Int32) V)
set_option maxHeartbeats 4000000 in
set_option maxRecDepth 20000 in
theorem tX5_month_b231 {l : Launch} {Z : jZ} {q : Nat → Nat} {a1 : Int32} {V : jMem} {r : Int32} {V' : jMem}    (hm : mX5_month_b231 a1 V = some (r, V')) : J l Z RX5 "month" cX5_month 4 (some .int) 5 0 0 (fun r' w => r' = some (.int r) ∧ w = jw Z q V' dM) 231 [(0, .ref (q 0)), (1, .int a1)] [] (jw Z q V dM) 0 0 := by
  unfold mX5_month_b231 at hm
  refine j_iconst (v := 0) dX5_month_231 rfl (by decide) ?_
  refine j_istore_n (i := 2) (L' := [(2, _), (0, _), (1, _)]) dX5_month_232 rfl rfl (by decide) rfl ?_
  refine j_sub (L' := [(0, _), (1, _), (2, _)]) [1, 2, 0] rfl ?_
  exact tX5_month_b233   _ _ _ _  hm
def mX5_month_b149   : Nat → Int32 → Int32 → jMem → Option (Int32 × jMem)
  | 0, _, _, _ => none
  | n + 1, a1, a2, V => (if (V.1 1 0) ≤ a2 then (if a1 < (0 : Int32) then (mX5_month_b231 a1 V) else (jg (jin (mX5_at a1 (4 : Int32)) 120) (jl (jsI V 1 (Int32.toNatClampNeg (mX5_at a1 (4 : Int32))) (2 : Int32)) (fun (V4 : jMem) => (mX5_month_b231 a1 V4))))) else ((mX5_isFree a2 V).bind (fun (r5 : Int32) => (if r5 = (0 : Int32) then (mX5_month_b180 (mX5_month_b149 n) a1 a2 V) else ((mX5_has a2 (5 : Int32) V).bind (fun (r7 : Int32) => (if (0 : Int32) ≤ r7 then (mX5_month_b180 (mX5_month_b149 n) a1 a2 V) else (mX5_month_b181 (mX5_month_b149 n) a1 a2 (1 : Int32) V))))))))
set_option maxHeartbeats 4000000 in
set_option maxRecDepth 20000 in
theorem tX5_month_b149 {l : Launch} {Z : jZ} {q : Nat → Nat}  {r : Int32} {V' : jMem}   (n : Nat) : ∀ (a1 : Int32) (a2 : Int32) (V : jMem), mX5_month_b149 n a1 a2 V = some (r, V') → J l Z RX5 "month" cX5_month 4 (some .int) 5 0 0 (fun r' w => r' = some (.int r) ∧ w = jw Z q V' dM) 149 [(0, .ref (q 0)), (1, .int a1), (2, .int a2)] [] (jw Z q V dM) 0 0 := by
  induction n with
  | zero => intro a1 a2 V hm; cases hm
  | succ n ih =>
    intro a1 a2 V hm
    rw [mX5_month_b149] at hm
    refine j_iload_n dX5_month_149 rfl rfl ?_
    refine j_aload_n dX5_month_150 rfl rfl ?_
    refine m_getr (k := 0) (r := 1) fX5_7 dX5_month_151 rfl rfl rfl ?_
    refine j_iconst (v := 0) dX5_month_154 rfl (by decide) ?_
    refine o_iald (k := 0) (by decide) dX5_month_155 rfl rfl (jin_vp (by decide)) ?_
    refine j_icmp_ge (tgt := 215) dX5_month_156 rfl (by decide) (fun c1 => ?_) (fun c1 => ?_)
    · have hm := jif_pos c1 hm
      refine j_iload_n dX5_month_215 rfl rfl ?_
      refine j_if_lt (tgt := 231) dX5_month_216 rfl (by decide) (fun c2 => ?_) (fun c2 => ?_)
      · have hm := jif_pos c2 hm
        refine j_sub (L' := [(0, _), (1, _)]) [0, 1] rfl ?_
        exact tX5_month_b231    hm
      · have hm := jif_neg c2 hm
        refine j_aload_n dX5_month_219 rfl rfl ?_
        refine m_getr (k := 0) (r := 1) fX5_7 dX5_month_220 rfl rfl rfl ?_
        refine j_aload_n dX5_month_223 rfl rfl ?_
        refine j_iload_n dX5_month_224 rfl rfl ?_
        refine j_iconst (v := 4) dX5_month_225 rfl (by decide) ?_
        refine o_callV_i kX5_49 dX5_month_226 rfl (tX5_at  rfl) rfl rfl rfl rfl rfl (Nat.le_of_ble_eq_true rfl) (by decide) ?_
        refine j_iconst (v := 2) dX5_month_229 rfl (by decide) ?_
        obtain ⟨g3, hm⟩ := jg_of hm
        refine o_iast (k := (Int32.toNatClampNeg (mX5_at a1 (4 : Int32)))) rfl dX5_month_230 rfl rfl (jin_vp g3) ?_
        obtain ⟨V4, eV4⟩ : ∃ y, y = (jsI V 1 (Int32.toNatClampNeg (mX5_at a1 (4 : Int32))) (2 : Int32)) := ⟨_, rfl⟩
        have hm := jl_of hm eV4
        rw [← eV4]
        refine j_sub (L' := [(0, _), (1, _)]) [0, 1] rfl ?_
        exact tX5_month_b231    hm
    · have hm := jif_neg c1 hm
      refine j_aload_n dX5_month_159 rfl rfl ?_
      refine j_iload_n dX5_month_160 rfl rfl ?_
      obtain ⟨r5, er5, hm⟩ := jb_of hm
      refine o_callV_i kX5_110 dX5_month_161 rfl (tX5_isFree  er5) rfl rfl rfl rfl rfl (Nat.le_of_ble_eq_true rfl) (by decide) ?_
      refine j_if_eq (tgt := 180) dX5_month_164 rfl (by decide) (fun c6 => ?_) (fun c6 => ?_)
      · have hm := jif_pos c6 hm
        exact tX5_month_b180   ih hm
      · have hm := jif_neg c6 hm
        refine j_aload_n dX5_month_167 rfl rfl ?_
        refine j_iload_n dX5_month_168 rfl rfl ?_
        refine j_iconst (v := 5) dX5_month_169 rfl (by decide) ?_
        obtain ⟨r7, er7, hm⟩ := jb_of hm
        refine o_callV_i kX5_45 dX5_month_170 rfl (tX5_has  er7) rfl rfl rfl rfl rfl (Nat.le_of_ble_eq_true rfl) (by decide) ?_
        refine j_if_ge (tgt := 180) dX5_month_173 rfl (by decide) (fun c8 => ?_) (fun c8 => ?_)
        · have hm := jif_pos c8 hm
          exact tX5_month_b180   ih hm
        · have hm := jif_neg c8 hm
          refine j_iconst (v := 1) dX5_month_176 rfl (by decide) ?_
          refine j_goto (tgt := 181) dX5_month_177 (by decide) ?_
          exact tX5_month_b181   ih hm
def mX5_month_b30   : Nat → Int32 → jMem → Option (Int32 × jMem)
  | 0, _, _ => none
  | n + 1, a1, V => (if (V.1 1 0) ≤ a1 then (jl (jsI V 1 7 (((V.1 1 7) * (1103515245 : Int32)) + (12345 : Int32))) (fun (V2 : jMem) => (if (V2.1 1 3) ≤ (((Int32.toUInt32 (V2.1 1 7) >>> (Int32.toUInt32 (8 : Int32) &&& Int32.toUInt32 31)).toInt32) - ((Int32.toUInt32 (V2.1 1 7) >>> (Int32.toUInt32 (8 : Int32) &&& Int32.toUInt32 31)).toInt32) / (100 : Int32) * (100 : Int32)) then (mX5_month_b231 (-1 : Int32) V2) else (mX5_month_b149 2000 (-1 : Int32) (0 : Int32) V2)))) else ((mX5_has a1 (5 : Int32) V).bind (fun (r4 : Int32) => (if r4 < (0 : Int32) then (mX5_month_b69 (mX5_month_b30 n) a1 V) else ((mX5_has a1 (6 : Int32) V).bind (fun (r6 : Int32) => (if (V.1 1 2) ≤ r6 then (mX5_month_b69 (mX5_month_b30 n) a1 V) else (mX5_month_b70 (mX5_month_b30 n) a1 (1 : Int32) V))))))))
set_option maxHeartbeats 4000000 in
set_option maxRecDepth 20000 in
theorem tX5_month_b30 {l : Launch} {Z : jZ} {q : Nat → Nat}  {r : Int32} {V' : jMem}   (n : Nat) : ∀ (a1 : Int32) (V : jMem), mX5_month_b30 n a1 V = some (r, V') → J l Z RX5 "month" cX5_month 4 (some .int) 5 0 0 (fun r' w => r' = some (.int r) ∧ w = jw Z q V' dM) 30 [(0, .ref (q 0)), (1, .int a1)] [] (jw Z q V dM) 0 0 := by
  induction n with
  | zero => intro a1 V hm; cases hm
  | succ n ih =>
    intro a1 V hm
    rw [mX5_month_b30] at hm
    refine j_iload_n dX5_month_30 rfl rfl ?_
    refine j_aload_n dX5_month_31 rfl rfl ?_
    refine m_getr (k := 0) (r := 1) fX5_7 dX5_month_32 rfl rfl rfl ?_
    refine j_iconst (v := 0) dX5_month_35 rfl (by decide) ?_
    refine o_iald (k := 0) (by decide) dX5_month_36 rfl rfl (jin_vp (by decide)) ?_
    refine j_icmp_ge (tgt := 102) dX5_month_37 rfl (by decide) (fun c1 => ?_) (fun c1 => ?_)
    · have hm := jif_pos c1 hm
      refine j_aload_n dX5_month_102 rfl rfl ?_
      refine m_getr (k := 0) (r := 1) fX5_7 dX5_month_103 rfl rfl rfl ?_
      refine j_bipush (v := 7) dX5_month_106 rfl (by decide) ?_
      refine j_aload_n dX5_month_108 rfl rfl ?_
      refine m_getr (k := 0) (r := 1) fX5_7 dX5_month_109 rfl rfl rfl ?_
      refine j_bipush (v := 7) dX5_month_112 rfl (by decide) ?_
      refine o_iald (k := 7) (by decide) dX5_month_114 rfl rfl (jin_vp (by decide)) ?_
      refine j_ldc dX5_month_115 rfl wX5_128 ?_
      refine j_imul dX5_month_117 rfl ?_
      refine j_sipush (v := 12345) dX5_month_118 rfl (by decide) ?_
      refine j_iadd dX5_month_121 rfl ?_
      refine o_iast (k := 7) (by decide) dX5_month_122 rfl rfl (jin_vp (by decide)) ?_
      obtain ⟨V2, eV2⟩ : ∃ y, y = (jsI V 1 7 (((V.1 1 7) * (1103515245 : Int32)) + (12345 : Int32))) := ⟨_, rfl⟩
      have hm := jl_of hm eV2
      rw [← eV2]
      refine j_iconst (v := -1) dX5_month_123 rfl (by decide) ?_
      refine j_istore_n (i := 1) (L' := [(1, _), (0, _)]) dX5_month_124 rfl rfl (by decide) rfl ?_
      refine j_aload_n dX5_month_125 rfl rfl ?_
      refine m_getr (k := 0) (r := 1) fX5_7 dX5_month_126 rfl rfl rfl ?_
      refine j_bipush (v := 7) dX5_month_129 rfl (by decide) ?_
      refine o_iald (k := 7) (by decide) dX5_month_131 rfl rfl (jin_vp (by decide)) ?_
      refine j_bipush (v := 8) dX5_month_132 rfl (by decide) ?_
      refine j_iushr dX5_month_134 rfl ?_
      refine j_bipush (v := 100) dX5_month_135 rfl (by decide) ?_
      refine j_irem dX5_month_137 rfl (by decide) ?_
      refine j_aload_n dX5_month_138 rfl rfl ?_
      refine m_getr (k := 0) (r := 1) fX5_7 dX5_month_139 rfl rfl rfl ?_
      refine j_iconst (v := 3) dX5_month_142 rfl (by decide) ?_
      refine o_iald (k := 3) (by decide) dX5_month_143 rfl rfl (jin_vp (by decide)) ?_
      refine j_icmp_ge (tgt := 231) dX5_month_144 rfl (by decide) (fun c3 => ?_) (fun c3 => ?_)
      · have hm := jif_pos c3 hm
        refine j_sub (L' := [(0, _), (1, _)]) [1, 0] rfl ?_
        exact tX5_month_b231    hm
      · have hm := jif_neg c3 hm
        refine j_iconst (v := 0) dX5_month_147 rfl (by decide) ?_
        refine j_istore_n (i := 2) (L' := [(2, _), (1, _), (0, _)]) dX5_month_148 rfl rfl (by decide) rfl ?_
        refine j_sub (L' := [(0, _), (1, _), (2, _)]) [2, 1, 0] rfl ?_
        exact tX5_month_b149   _ _ _ _  hm
    · have hm := jif_neg c1 hm
      refine j_aload_n dX5_month_40 rfl rfl ?_
      refine j_iload_n dX5_month_41 rfl rfl ?_
      refine j_iconst (v := 5) dX5_month_42 rfl (by decide) ?_
      obtain ⟨r4, er4, hm⟩ := jb_of hm
      refine o_callV_i kX5_45 dX5_month_43 rfl (tX5_has  er4) rfl rfl rfl rfl rfl (Nat.le_of_ble_eq_true rfl) (by decide) ?_
      refine j_if_lt (tgt := 69) dX5_month_46 rfl (by decide) (fun c5 => ?_) (fun c5 => ?_)
      · have hm := jif_pos c5 hm
        exact tX5_month_b69   ih hm
      · have hm := jif_neg c5 hm
        refine j_aload_n dX5_month_49 rfl rfl ?_
        refine j_iload_n dX5_month_50 rfl rfl ?_
        refine j_bipush (v := 6) dX5_month_51 rfl (by decide) ?_
        obtain ⟨r6, er6, hm⟩ := jb_of hm
        refine o_callV_i kX5_45 dX5_month_53 rfl (tX5_has  er6) rfl rfl rfl rfl rfl (Nat.le_of_ble_eq_true rfl) (by decide) ?_
        refine j_aload_n dX5_month_56 rfl rfl ?_
        refine m_getr (k := 0) (r := 1) fX5_7 dX5_month_57 rfl rfl rfl ?_
        refine j_iconst (v := 2) dX5_month_60 rfl (by decide) ?_
        refine o_iald (k := 2) (by decide) dX5_month_61 rfl rfl (jin_vp (by decide)) ?_
        refine j_icmp_ge (tgt := 69) dX5_month_62 rfl (by decide) (fun c7 => ?_) (fun c7 => ?_)
        · have hm := jif_pos c7 hm
          exact tX5_month_b69   ih hm
        · have hm := jif_neg c7 hm
          refine j_iconst (v := 1) dX5_month_65 rfl (by decide) ?_
          refine j_goto (tgt := 70) dX5_month_66 (by decide) ?_
          exact tX5_month_b70   ih hm
def mX5_month (V : jMem) : Option (Int32 × jMem) := (if (V.1 1 2) = (99 : Int32) then ((mX5_finds (-1000000005 : Int32) V).bind (fun (p3 : Int32 × jMem) => (some (p3.1, p3.2)))) else (jl (jsI V 1 2 ((V.1 1 2) + (1 : Int32))) (fun (V2 : jMem) => (mX5_month_b30 2000 (0 : Int32) V2))))
set_option maxHeartbeats 4000000 in
set_option maxRecDepth 20000 in
theorem tX5_month {l : Launch} {Z : jZ} {q : Nat → Nat} {V : jMem} {r : Int32} {V' : jMem}  (hm : mX5_month V = some (r, V')) : CtD l Z yX5_month cX5_month 4 (some .int) 5 q dM [.ref (q 0)] V (some (.int r)) V' := by
  refine Ct_of (L := [(0, .ref (q 0))]) (own := RX5) (nm := "month") rfl rfl (by decide +kernel) rfl (Nat.le_of_ble_eq_true rfl) ?_
  unfold mX5_month at hm
  refine j_aload_n dX5_month_0 rfl rfl ?_
  refine m_getr (k := 0) (r := 1) fX5_7 dX5_month_1 rfl rfl rfl ?_
  refine j_iconst (v := 2) dX5_month_4 rfl (by decide) ?_
  refine o_iald (k := 2) (by decide) dX5_month_5 rfl rfl (jin_vp (by decide)) ?_
  refine j_bipush (v := 99) dX5_month_6 rfl (by decide) ?_
  refine j_icmp_ne (tgt := 18) dX5_month_8 rfl (by decide) (fun c1 => ?_) (fun c1 => ?_)
  · have hm := jif_neg c1 hm
    refine j_aload_n dX5_month_18 rfl rfl ?_
    refine m_getr (k := 0) (r := 1) fX5_7 dX5_month_19 rfl rfl rfl ?_
    refine j_iconst (v := 2) dX5_month_22 rfl (by decide) ?_
    refine j_dup2 dX5_month_23 rfl rfl rfl ?_
    refine o_iald (k := 2) (by decide) dX5_month_24 rfl rfl (jin_vp (by decide)) ?_
    refine j_iconst (v := 1) dX5_month_25 rfl (by decide) ?_
    refine j_iadd dX5_month_26 rfl ?_
    refine o_iast (k := 2) (by decide) dX5_month_27 rfl rfl (jin_vp (by decide)) ?_
    obtain ⟨V2, eV2⟩ : ∃ y, y = (jsI V 1 2 ((V.1 1 2) + (1 : Int32))) := ⟨_, rfl⟩
    have hm := jl_of hm eV2
    rw [← eV2]
    refine j_iconst (v := 0) dX5_month_28 rfl (by decide) ?_
    refine j_istore_n (i := 1) (L' := [(1, _), (0, _)]) dX5_month_29 rfl rfl (by decide) rfl ?_
    refine j_sub (L' := [(0, _), (1, _)]) [1, 0] rfl ?_
    exact tX5_month_b30   _ _ _  hm
  · have hm := jif_pos c1 hm
    refine j_aload_n dX5_month_11 rfl rfl ?_
    refine j_ldc dX5_month_12 rfl wX5_114 ?_
    obtain ⟨p3, ep3, hm⟩ := jb_of hm
    refine o_callV_i kX5_60 dX5_month_14 rfl (tX5_finds  ep3) rfl rfl rfl rfl rfl (Nat.le_of_ble_eq_true rfl) (by decide) ?_
    exact j_ireturn dX5_month_17 rfl rfl ⟨Nat.le_refl _, Nat.le_refl _⟩ (jf_m (fun z => .int z) hm)
theorem dX5_seed_0 : decode cX5_seed 0 = .ok (.aload_n 0, 1) := by decide +kernel
theorem dX5_seed_1 : decode cX5_seed 1 = .ok (.bipush 7, 2) := by decide +kernel
theorem dX5_seed_3 : decode cX5_seed 3 = .ok (.iload_n 1, 1) := by decide +kernel
theorem dX5_seed_4 : decode cX5_seed 4 = .ok (.invokevirtual 97, 3) := by decide +kernel
theorem dX5_seed_7 : decode cX5_seed 7 = .ok (.ireturn, 1) := by decide +kernel
def mX5_seed (a1 : Int32) (V : jMem) : Option (Int32 × jMem) := ((mX5_becomes (7 : Int32) a1 V).bind (fun (p1 : Int32 × jMem) => (some (p1.1, p1.2))))
set_option maxHeartbeats 4000000 in
set_option maxRecDepth 20000 in
theorem tX5_seed {l : Launch} {Z : jZ} {q : Nat → Nat} {a1 : Int32} {V : jMem} {r : Int32} {V' : jMem}  (hm : mX5_seed a1 V = some (r, V')) : CtD l Z yX5_seed cX5_seed 2 (some .int) 1 q dM [.ref (q 0), .int a1] V (some (.int r)) V' := by
  refine Ct_of (L := [(0, .ref (q 0)), (1, .int a1)]) (own := RX5) (nm := "seed") rfl rfl (by decide +kernel) rfl (Nat.le_of_ble_eq_true rfl) ?_
  unfold mX5_seed at hm
  refine j_aload_n dX5_seed_0 rfl rfl ?_
  refine j_bipush (v := 7) dX5_seed_1 rfl (by decide) ?_
  refine j_iload_n dX5_seed_3 rfl rfl ?_
  obtain ⟨p1, ep1, hm⟩ := jb_of hm
  refine o_callV_i kX5_97 dX5_seed_4 rfl (tX5_becomes  ep1) rfl rfl rfl rfl rfl (Nat.le_of_ble_eq_true rfl) (by decide) ?_
  exact j_ireturn dX5_seed_7 rfl rfl ⟨Nat.le_refl _, Nat.le_refl _⟩ (jf_m (fun z => .int z) hm)
theorem dX5_thatAre_0 : decode cX5_thatAre 0 = .ok (.iconst 0, 1) := by decide +kernel
theorem dX5_thatAre_1 : decode cX5_thatAre 1 = .ok (.istore_n 2, 1) := by decide +kernel
theorem dX5_thatAre_2 : decode cX5_thatAre 2 = .ok (.iconst 0, 1) := by decide +kernel
theorem dX5_thatAre_3 : decode cX5_thatAre 3 = .ok (.istore_n 3, 1) := by decide +kernel
theorem dX5_thatAre_4 : decode cX5_thatAre 4 = .ok (.iload_n 3, 1) := by decide +kernel
theorem dX5_thatAre_5 : decode cX5_thatAre 5 = .ok (.aload_n 0, 1) := by decide +kernel
theorem dX5_thatAre_6 : decode cX5_thatAre 6 = .ok (.getfield 7, 3) := by decide +kernel
theorem dX5_thatAre_9 : decode cX5_thatAre 9 = .ok (.iconst 0, 1) := by decide +kernel
theorem dX5_thatAre_10 : decode cX5_thatAre 10 = .ok (.iaload, 1) := by decide +kernel
theorem dX5_thatAre_11 : decode cX5_thatAre 11 = .ok (.if_icmp .ge 27, 3) := by decide +kernel
theorem dX5_thatAre_14 : decode cX5_thatAre 14 = .ok (.iload_n 2, 1) := by decide +kernel
theorem dX5_thatAre_15 : decode cX5_thatAre 15 = .ok (.aload_n 0, 1) := by decide +kernel
theorem dX5_thatAre_16 : decode cX5_thatAre 16 = .ok (.iload_n 3, 1) := by decide +kernel
theorem dX5_thatAre_17 : decode cX5_thatAre 17 = .ok (.iconst 4, 1) := by decide +kernel
theorem dX5_thatAre_18 : decode cX5_thatAre 18 = .ok (.invokevirtual 45, 3) := by decide +kernel
theorem dX5_thatAre_21 : decode cX5_thatAre 21 = .ok (.iload_n 1, 1) := by decide +kernel
theorem dX5_thatAre_22 : decode cX5_thatAre 22 = .ok (.if_icmp .ne 7, 3) := by decide +kernel
theorem dX5_thatAre_25 : decode cX5_thatAre 25 = .ok (.iconst 1, 1) := by decide +kernel
theorem dX5_thatAre_26 : decode cX5_thatAre 26 = .ok (.goto 4, 3) := by decide +kernel
theorem dX5_thatAre_29 : decode cX5_thatAre 29 = .ok (.iconst 0, 1) := by decide +kernel
theorem dX5_thatAre_30 : decode cX5_thatAre 30 = .ok (.iadd, 1) := by decide +kernel
theorem dX5_thatAre_31 : decode cX5_thatAre 31 = .ok (.istore_n 2, 1) := by decide +kernel
theorem dX5_thatAre_32 : decode cX5_thatAre 32 = .ok (.iinc 3 1, 3) := by decide +kernel
theorem dX5_thatAre_35 : decode cX5_thatAre 35 = .ok (.goto (-31), 3) := by decide +kernel
theorem dX5_thatAre_38 : decode cX5_thatAre 38 = .ok (.iload_n 2, 1) := by decide +kernel
theorem dX5_thatAre_39 : decode cX5_thatAre 39 = .ok (.ireturn, 1) := by decide +kernel
def mX5_thatAre_b30 (V : jMem) (k4 : Int32 → Int32 → Int32 → Option Int32) (a1 : Int32) (a3 : Int32) (s0 : Int32) (s1 : Int32) : Option Int32 := (k4 a1 (s1 + s0) (a3 + (1 : Int32)))
set_option maxHeartbeats 4000000 in
set_option maxRecDepth 20000 in
theorem tX5_thatAre_b30 {l : Launch} {Z : jZ} {q : Nat → Nat} {V : jMem} {k4 : Int32 → Int32 → Int32 → Option Int32} {a1 : Int32} {a3 : Int32} {s0 : Int32} {s1 : Int32} {r : Int32}   (hk4 : ∀ (a1 : Int32) (a2 : Int32) (a3 : Int32), k4 a1 a2 a3 = some r → J l Z RX5 "thatAre" cX5_thatAre 4 (some .int) 1 0 0 (fun r' w => r' = some (.int r) ∧ w = jw Z q V dM) 4 [(0, .ref (q 0)), (1, .int a1), (2, .int a2), (3, .int a3)] [] (jw Z q V dM) 0 0) (hm : mX5_thatAre_b30 V k4 a1 a3 s0 s1 = some r) : J l Z RX5 "thatAre" cX5_thatAre 4 (some .int) 1 0 0 (fun r' w => r' = some (.int r) ∧ w = jw Z q V dM) 30 [(0, .ref (q 0)), (1, .int a1), (3, .int a3)] [.int s0, .int s1] (jw Z q V dM) 0 0 := by
  unfold mX5_thatAre_b30 at hm
  refine j_iadd dX5_thatAre_30 rfl ?_
  refine j_istore_n (i := 2) (L' := [(2, _), (0, _), (1, _), (3, _)]) dX5_thatAre_31 rfl rfl (by decide) rfl ?_
  refine j_iinc (v := (a3 + (1 : Int32))) (L' := [(3, _), (2, _), (0, _), (1, _)]) dX5_thatAre_32 rfl rfl rfl (by decide) rfl ?_
  refine j_goto (tgt := 4) dX5_thatAre_35 (by decide) ?_
  refine j_sub (L' := [(0, _), (1, _), (2, _), (3, _)]) [2, 3, 1, 0] rfl ?_
  exact hk4 _ _ _  hm
def mX5_thatAre_b4 (V : jMem)  : Nat → Int32 → Int32 → Int32 → Option Int32
  | 0, _, _, _ => none
  | n + 1, a1, a2, a3 => (if (V.1 1 0) ≤ a3 then (some a2) else ((mX5_has a3 (4 : Int32) V).bind (fun (r2 : Int32) => (if r2 = a1 then (mX5_thatAre_b30 V (mX5_thatAre_b4 V n) a1 a3 (1 : Int32) a2) else (mX5_thatAre_b30 V (mX5_thatAre_b4 V n) a1 a3 (0 : Int32) a2)))))
set_option maxHeartbeats 4000000 in
set_option maxRecDepth 20000 in
theorem tX5_thatAre_b4 {l : Launch} {Z : jZ} {q : Nat → Nat} {V : jMem} {r : Int32}   (n : Nat) : ∀ (a1 : Int32) (a2 : Int32) (a3 : Int32), mX5_thatAre_b4 V n a1 a2 a3 = some r → J l Z RX5 "thatAre" cX5_thatAre 4 (some .int) 1 0 0 (fun r' w => r' = some (.int r) ∧ w = jw Z q V dM) 4 [(0, .ref (q 0)), (1, .int a1), (2, .int a2), (3, .int a3)] [] (jw Z q V dM) 0 0 := by
  induction n with
  | zero => intro a1 a2 a3 hm; cases hm
  | succ n ih =>
    intro a1 a2 a3 hm
    rw [mX5_thatAre_b4] at hm
    refine j_iload_n dX5_thatAre_4 rfl rfl ?_
    refine j_aload_n dX5_thatAre_5 rfl rfl ?_
    refine m_getr (k := 0) (r := 1) fX5_7 dX5_thatAre_6 rfl rfl rfl ?_
    refine j_iconst (v := 0) dX5_thatAre_9 rfl (by decide) ?_
    refine o_iald (k := 0) (by decide) dX5_thatAre_10 rfl rfl (jin_vp (by decide)) ?_
    refine j_icmp_ge (tgt := 38) dX5_thatAre_11 rfl (by decide) (fun c1 => ?_) (fun c1 => ?_)
    · have hm := jif_pos c1 hm
      refine j_iload_n dX5_thatAre_38 rfl rfl ?_
      exact j_ireturn dX5_thatAre_39 rfl rfl ⟨Nat.le_refl _, Nat.le_refl _⟩ (jf_p (fun z => .int z) hm)
    · have hm := jif_neg c1 hm
      refine j_iload_n dX5_thatAre_14 rfl rfl ?_
      refine j_aload_n dX5_thatAre_15 rfl rfl ?_
      refine j_iload_n dX5_thatAre_16 rfl rfl ?_
      refine j_iconst (v := 4) dX5_thatAre_17 rfl (by decide) ?_
      obtain ⟨r2, er2, hm⟩ := jb_of hm
      refine o_callV_i kX5_45 dX5_thatAre_18 rfl (tX5_has  er2) rfl rfl rfl rfl rfl (Nat.le_of_ble_eq_true rfl) (by decide) ?_
      refine j_iload_n dX5_thatAre_21 rfl rfl ?_
      refine j_icmp_ne (tgt := 29) dX5_thatAre_22 rfl (by decide) (fun c3 => ?_) (fun c3 => ?_)
      · have hm := jif_neg c3 hm
        refine j_iconst (v := 0) dX5_thatAre_29 rfl (by decide) ?_
        refine j_sub (L' := [(0, _), (1, _), (3, _)]) [0, 1, 3] rfl ?_
        exact tX5_thatAre_b30   ih hm
      · have hm := jif_pos c3 hm
        refine j_iconst (v := 1) dX5_thatAre_25 rfl (by decide) ?_
        refine j_goto (tgt := 30) dX5_thatAre_26 (by decide) ?_
        refine j_sub (L' := [(0, _), (1, _), (3, _)]) [0, 1, 3] rfl ?_
        exact tX5_thatAre_b30   ih hm
def mX5_thatAre (a1 : Int32) (V : jMem) : Option Int32 := (mX5_thatAre_b4 V 2000 a1 (0 : Int32) (0 : Int32))
set_option maxHeartbeats 4000000 in
set_option maxRecDepth 20000 in
theorem tX5_thatAre {l : Launch} {Z : jZ} {q : Nat → Nat} {a1 : Int32} {V : jMem} {r : Int32}  (hm : mX5_thatAre a1 V = some r) : CtD l Z yX5_thatAre cX5_thatAre 4 (some .int) 1 q dM [.ref (q 0), .int a1] V (some (.int r)) V := by
  refine Ct_of (L := [(0, .ref (q 0)), (1, .int a1)]) (own := RX5) (nm := "thatAre") rfl rfl (by decide +kernel) rfl (Nat.le_of_ble_eq_true rfl) ?_
  unfold mX5_thatAre at hm
  refine j_iconst (v := 0) dX5_thatAre_0 rfl (by decide) ?_
  refine j_istore_n (i := 2) (L' := [(2, _), (0, _), (1, _)]) dX5_thatAre_1 rfl rfl (by decide) rfl ?_
  refine j_iconst (v := 0) dX5_thatAre_2 rfl (by decide) ?_
  refine j_istore_n (i := 3) (L' := [(3, _), (2, _), (0, _), (1, _)]) dX5_thatAre_3 rfl rfl (by decide) rfl ?_
  refine j_sub (L' := [(0, _), (1, _), (2, _), (3, _)]) [2, 3, 1, 0] rfl ?_
  exact tX5_thatAre_b4   _ _ _ _  hm
theorem dX5_stands_0 : decode cX5_stands 0 = .ok (.iload_n 1, 1) := by decide +kernel
theorem dX5_stands_1 : decode cX5_stands 1 = .ok (.tableswitch 69 0 4 #[35, 43, 48, 55, 62], 35) := by decide +kernel
theorem dX5_stands_36 : decode cX5_stands 36 = .ok (.aload_n 0, 1) := by decide +kernel
theorem dX5_stands_37 : decode cX5_stands 37 = .ok (.getfield 7, 3) := by decide +kernel
theorem dX5_stands_40 : decode cX5_stands 40 = .ok (.iconst 2, 1) := by decide +kernel
theorem dX5_stands_41 : decode cX5_stands 41 = .ok (.iaload, 1) := by decide +kernel
theorem dX5_stands_42 : decode cX5_stands 42 = .ok (.i2l, 1) := by decide +kernel
theorem dX5_stands_43 : decode cX5_stands 43 = .ok (.lreturn, 1) := by decide +kernel
theorem dX5_stands_44 : decode cX5_stands 44 = .ok (.aload_n 0, 1) := by decide +kernel
theorem dX5_stands_45 : decode cX5_stands 45 = .ok (.getfield 104, 3) := by decide +kernel
theorem dX5_stands_48 : decode cX5_stands 48 = .ok (.lreturn, 1) := by decide +kernel
theorem dX5_stands_49 : decode cX5_stands 49 = .ok (.aload_n 0, 1) := by decide +kernel
theorem dX5_stands_50 : decode cX5_stands 50 = .ok (.iconst 1, 1) := by decide +kernel
theorem dX5_stands_51 : decode cX5_stands 51 = .ok (.invokevirtual 129, 3) := by decide +kernel
theorem dX5_stands_54 : decode cX5_stands 54 = .ok (.i2l, 1) := by decide +kernel
theorem dX5_stands_55 : decode cX5_stands 55 = .ok (.lreturn, 1) := by decide +kernel
theorem dX5_stands_56 : decode cX5_stands 56 = .ok (.aload_n 0, 1) := by decide +kernel
theorem dX5_stands_57 : decode cX5_stands 57 = .ok (.iconst 2, 1) := by decide +kernel
theorem dX5_stands_58 : decode cX5_stands 58 = .ok (.invokevirtual 129, 3) := by decide +kernel
theorem dX5_stands_61 : decode cX5_stands 61 = .ok (.i2l, 1) := by decide +kernel
theorem dX5_stands_62 : decode cX5_stands 62 = .ok (.lreturn, 1) := by decide +kernel
theorem dX5_stands_63 : decode cX5_stands 63 = .ok (.aload_n 0, 1) := by decide +kernel
theorem dX5_stands_64 : decode cX5_stands 64 = .ok (.iconst 0, 1) := by decide +kernel
theorem dX5_stands_65 : decode cX5_stands 65 = .ok (.invokevirtual 129, 3) := by decide +kernel
theorem dX5_stands_68 : decode cX5_stands 68 = .ok (.i2l, 1) := by decide +kernel
theorem dX5_stands_69 : decode cX5_stands 69 = .ok (.lreturn, 1) := by decide +kernel
theorem dX5_stands_70 : decode cX5_stands 70 = .ok (.aload_n 0, 1) := by decide +kernel
theorem dX5_stands_71 : decode cX5_stands 71 = .ok (.ldc 44, 2) := by decide +kernel
theorem dX5_stands_73 : decode cX5_stands 73 = .ok (.invokevirtual 60, 3) := by decide +kernel
theorem dX5_stands_76 : decode cX5_stands 76 = .ok (.i2l, 1) := by decide +kernel
theorem dX5_stands_77 : decode cX5_stands 77 = .ok (.lreturn, 1) := by decide +kernel
def mX5_stands (a1 : Int32) (V : jMem) : Option (Int64 × jMem) := (if a1 = (0 : Int32) then (some ((Int32.toInt64 (V.1 1 2)), V)) else (if a1 = (1 : Int32) then (some ((V.2 0 3), V)) else (if a1 = (2 : Int32) then ((mX5_thatAre (1 : Int32) V).bind (fun (r4 : Int32) => (some ((Int32.toInt64 r4), V)))) else (if a1 = (3 : Int32) then ((mX5_thatAre (2 : Int32) V).bind (fun (r6 : Int32) => (some ((Int32.toInt64 r6), V)))) else (if a1 = (4 : Int32) then ((mX5_thatAre (0 : Int32) V).bind (fun (r8 : Int32) => (some ((Int32.toInt64 r8), V)))) else ((mX5_finds (-1000000001 : Int32) V).bind (fun (p9 : Int32 × jMem) => (some ((Int32.toInt64 p9.1), p9.2)))))))))
set_option maxHeartbeats 4000000 in
set_option maxRecDepth 20000 in
theorem tX5_stands {l : Launch} {Z : jZ} {q : Nat → Nat} {a1 : Int32} {V : jMem} {r : Int64} {V' : jMem}  (hm : mX5_stands a1 V = some (r, V')) : CtD l Z yX5_stands cX5_stands 2 (some .long) 2 q dM [.ref (q 0), .int a1] V (some (.long r)) V' := by
  refine Ct_of (L := [(0, .ref (q 0)), (1, .int a1)]) (own := RX5) (nm := "stands") rfl rfl (by decide +kernel) rfl (Nat.le_of_ble_eq_true rfl) ?_
  unfold mX5_stands at hm
  refine j_iload_n dX5_stands_0 rfl rfl ?_
  by_cases c1 : a1 = (0 : Int32)
  · have hm := jif_pos c1 hm
    refine j_ts_in (z := 0) (off := 35) (tgt := 36) dX5_stands_1 (j_ts_lit c1 (by decide)) (by decide) (by decide) rfl (by decide) ?_
    refine j_aload_n dX5_stands_36 rfl rfl ?_
    refine m_getr (k := 0) (r := 1) fX5_7 dX5_stands_37 rfl rfl rfl ?_
    refine j_iconst (v := 2) dX5_stands_40 rfl (by decide) ?_
    refine o_iald (k := 2) (by decide) dX5_stands_41 rfl rfl (jin_vp (by decide)) ?_
    refine j_i2l dX5_stands_42 rfl ?_
    exact j_lreturn dX5_stands_43 rfl ⟨Nat.le_refl _, Nat.le_refl _⟩ (jf_m (fun z => .long z) hm)
  have hm := jif_neg c1 hm
  by_cases c2 : a1 = (1 : Int32)
  · have hm := jif_pos c2 hm
    refine j_ts_in (z := 1) (off := 43) (tgt := 44) dX5_stands_1 (j_ts_lit c2 (by decide)) (by decide) (by decide) rfl (by decide) ?_
    refine j_aload_n dX5_stands_44 rfl rfl ?_
    refine m_getl (k := 3) fX5_104 dX5_stands_45 rfl rfl rfl ?_
    exact j_lreturn dX5_stands_48 rfl ⟨Nat.le_refl _, Nat.le_refl _⟩ (jf_m (fun z => .long z) hm)
  have hm := jif_neg c2 hm
  by_cases c3 : a1 = (2 : Int32)
  · have hm := jif_pos c3 hm
    refine j_ts_in (z := 2) (off := 48) (tgt := 49) dX5_stands_1 (j_ts_lit c3 (by decide)) (by decide) (by decide) rfl (by decide) ?_
    refine j_aload_n dX5_stands_49 rfl rfl ?_
    refine j_iconst (v := 1) dX5_stands_50 rfl (by decide) ?_
    obtain ⟨r4, er4, hm⟩ := jb_of hm
    refine o_callV_i kX5_129 dX5_stands_51 rfl (tX5_thatAre  er4) rfl rfl rfl rfl rfl (Nat.le_of_ble_eq_true rfl) (by decide) ?_
    refine j_i2l dX5_stands_54 rfl ?_
    exact j_lreturn dX5_stands_55 rfl ⟨Nat.le_refl _, Nat.le_refl _⟩ (jf_m (fun z => .long z) hm)
  have hm := jif_neg c3 hm
  by_cases c5 : a1 = (3 : Int32)
  · have hm := jif_pos c5 hm
    refine j_ts_in (z := 3) (off := 55) (tgt := 56) dX5_stands_1 (j_ts_lit c5 (by decide)) (by decide) (by decide) rfl (by decide) ?_
    refine j_aload_n dX5_stands_56 rfl rfl ?_
    refine j_iconst (v := 2) dX5_stands_57 rfl (by decide) ?_
    obtain ⟨r6, er6, hm⟩ := jb_of hm
    refine o_callV_i kX5_129 dX5_stands_58 rfl (tX5_thatAre  er6) rfl rfl rfl rfl rfl (Nat.le_of_ble_eq_true rfl) (by decide) ?_
    refine j_i2l dX5_stands_61 rfl ?_
    exact j_lreturn dX5_stands_62 rfl ⟨Nat.le_refl _, Nat.le_refl _⟩ (jf_m (fun z => .long z) hm)
  have hm := jif_neg c5 hm
  by_cases c7 : a1 = (4 : Int32)
  · have hm := jif_pos c7 hm
    refine j_ts_in (z := 4) (off := 62) (tgt := 63) dX5_stands_1 (j_ts_lit c7 (by decide)) (by decide) (by decide) rfl (by decide) ?_
    refine j_aload_n dX5_stands_63 rfl rfl ?_
    refine j_iconst (v := 0) dX5_stands_64 rfl (by decide) ?_
    obtain ⟨r8, er8, hm⟩ := jb_of hm
    refine o_callV_i kX5_129 dX5_stands_65 rfl (tX5_thatAre  er8) rfl rfl rfl rfl rfl (Nat.le_of_ble_eq_true rfl) (by decide) ?_
    refine j_i2l dX5_stands_68 rfl ?_
    exact j_lreturn dX5_stands_69 rfl ⟨Nat.le_refl _, Nat.le_refl _⟩ (jf_m (fun z => .long z) hm)
  have hm := jif_neg c7 hm
  refine j_ts_out (tgt := 70) dX5_stands_1 (by have := j_ts_ne (k := 0) c1 (by decide); have := j_ts_ne (k := 1) c2 (by decide); have := j_ts_ne (k := 2) c3 (by decide); have := j_ts_ne (k := 3) c5 (by decide); have := j_ts_ne (k := 4) c7 (by decide); omega) (by decide) ?_
  refine j_aload_n dX5_stands_70 rfl rfl ?_
  refine j_ldc dX5_stands_71 rfl wX5_44 ?_
  obtain ⟨p9, ep9, hm⟩ := jb_of hm
  refine o_callV_i kX5_60 dX5_stands_73 rfl (tX5_finds  ep9) rfl rfl rfl rfl rfl (Nat.le_of_ble_eq_true rfl) (by decide) ?_
  refine j_i2l dX5_stands_76 rfl ?_
  exact j_lreturn dX5_stands_77 rfl ⟨Nat.le_refl _, Nat.le_refl _⟩ (jf_m (fun z => .long z) hm)
theorem dX5_isStrip_0 : decode cX5_isStrip 0 = .ok (.iload_n 1, 1) := by decide +kernel
theorem dX5_isStrip_1 : decode cX5_isStrip 1 = .ok (.ifCond .lt 17, 3) := by decide +kernel
theorem dX5_isStrip_4 : decode cX5_isStrip 4 = .ok (.iload_n 1, 1) := by decide +kernel
theorem dX5_isStrip_5 : decode cX5_isStrip 5 = .ok (.aload_n 0, 1) := by decide +kernel
theorem dX5_isStrip_6 : decode cX5_isStrip 6 = .ok (.getfield 7, 3) := by decide +kernel
theorem dX5_isStrip_9 : decode cX5_isStrip 9 = .ok (.iconst 1, 1) := by decide +kernel
theorem dX5_isStrip_10 : decode cX5_isStrip 10 = .ok (.iaload, 1) := by decide +kernel
theorem dX5_isStrip_11 : decode cX5_isStrip 11 = .ok (.if_icmp .ge 7, 3) := by decide +kernel
theorem dX5_isStrip_14 : decode cX5_isStrip 14 = .ok (.iconst 1, 1) := by decide +kernel
theorem dX5_isStrip_15 : decode cX5_isStrip 15 = .ok (.goto 4, 3) := by decide +kernel
theorem dX5_isStrip_18 : decode cX5_isStrip 18 = .ok (.iconst 0, 1) := by decide +kernel
theorem dX5_isStrip_19 : decode cX5_isStrip 19 = .ok (.ireturn, 1) := by decide +kernel
def mX5_isStrip (a1 : Int32) (V : jMem) : Int32 := (if a1 < (0 : Int32) then (0 : Int32) else (if (V.1 1 1) ≤ a1 then (0 : Int32) else (1 : Int32)))
set_option maxHeartbeats 4000000 in
set_option maxRecDepth 20000 in
theorem tX5_isStrip {l : Launch} {Z : jZ} {q : Nat → Nat} {a1 : Int32} {V : jMem} {r : Int32}  (hm : mX5_isStrip a1 V = r) : CtD l Z yX5_isStrip cX5_isStrip 2 (some .boolean) 0 q dM [.ref (q 0), .int a1] V (some (.int r)) V := by
  refine Ct_of (L := [(0, .ref (q 0)), (1, .int a1)]) (own := RX5) (nm := "isStrip") rfl rfl (by decide +kernel) rfl (Nat.le_of_ble_eq_true rfl) ?_
  unfold mX5_isStrip at hm
  refine j_iload_n dX5_isStrip_0 rfl rfl ?_
  refine j_if_lt (tgt := 18) dX5_isStrip_1 rfl (by decide) (fun c1 => ?_) (fun c1 => ?_)
  · have hm := jif_pos c1 hm
    refine j_iconst (v := 0) dX5_isStrip_18 rfl (by decide) ?_
    exact j_zreturn dX5_isStrip_19 rfl (by decide) ⟨Nat.le_refl _, Nat.le_refl _⟩ (jf_t (fun z => .int z) hm)
  · have hm := jif_neg c1 hm
    refine j_iload_n dX5_isStrip_4 rfl rfl ?_
    refine j_aload_n dX5_isStrip_5 rfl rfl ?_
    refine m_getr (k := 0) (r := 1) fX5_7 dX5_isStrip_6 rfl rfl rfl ?_
    refine j_iconst (v := 1) dX5_isStrip_9 rfl (by decide) ?_
    refine o_iald (k := 1) (by decide) dX5_isStrip_10 rfl rfl (jin_vp (by decide)) ?_
    refine j_icmp_ge (tgt := 18) dX5_isStrip_11 rfl (by decide) (fun c2 => ?_) (fun c2 => ?_)
    · have hm := jif_pos c2 hm
      refine j_iconst (v := 0) dX5_isStrip_18 rfl (by decide) ?_
      exact j_zreturn dX5_isStrip_19 rfl (by decide) ⟨Nat.le_refl _, Nat.le_refl _⟩ (jf_t (fun z => .int z) hm)
    · have hm := jif_neg c2 hm
      refine j_iconst (v := 1) dX5_isStrip_14 rfl (by decide) ?_
      refine j_goto (tgt := 19) dX5_isStrip_15 (by decide) ?_
      exact j_zreturn dX5_isStrip_19 rfl (by decide) ⟨Nat.le_refl _, Nat.le_refl _⟩ (jf_t (fun z => .int z) hm)
theorem zzX5_isStrip {a1 : Int32} {V : jMem} : mX5_isStrip a1 V = 0 ∨ mX5_isStrip a1 V = 1 := by
  unfold mX5_isStrip
  (repeat' split) <;> first | exact Or.inl rfl | exact Or.inr rfl
theorem dX5_setOf_0 : decode cX5_setOf 0 = .ok (.aload_n 0, 1) := by decide +kernel
theorem dX5_setOf_1 : decode cX5_setOf 1 = .ok (.getfield 7, 3) := by decide +kernel
theorem dX5_setOf_4 : decode cX5_setOf 4 = .ok (.bipush 108, 2) := by decide +kernel
theorem dX5_setOf_6 : decode cX5_setOf 6 = .ok (.iconst 2, 1) := by decide +kernel
theorem dX5_setOf_7 : decode cX5_setOf 7 = .ok (.iload_n 1, 1) := by decide +kernel
theorem dX5_setOf_8 : decode cX5_setOf 8 = .ok (.imul, 1) := by decide +kernel
theorem dX5_setOf_9 : decode cX5_setOf 9 = .ok (.iadd, 1) := by decide +kernel
theorem dX5_setOf_10 : decode cX5_setOf 10 = .ok (.iaload, 1) := by decide +kernel
theorem dX5_setOf_11 : decode cX5_setOf 11 = .ok (.ireturn, 1) := by decide +kernel
def mX5_setOf (a1 : Int32) (V : jMem) : Option Int32 := (jg (jin ((108 : Int32) + ((2 : Int32) * a1)) 120) (some (V.1 1 (Int32.toNatClampNeg ((108 : Int32) + ((2 : Int32) * a1))))))
set_option maxHeartbeats 4000000 in
set_option maxRecDepth 20000 in
theorem tX5_setOf {l : Launch} {Z : jZ} {q : Nat → Nat} {a1 : Int32} {V : jMem} {r : Int32}  (hm : mX5_setOf a1 V = some r) : CtD l Z yX5_setOf cX5_setOf 2 (some .int) 0 q dM [.ref (q 0), .int a1] V (some (.int r)) V := by
  refine Ct_of (L := [(0, .ref (q 0)), (1, .int a1)]) (own := RX5) (nm := "setOf") rfl rfl (by decide +kernel) rfl (Nat.le_of_ble_eq_true rfl) ?_
  unfold mX5_setOf at hm
  refine j_aload_n dX5_setOf_0 rfl rfl ?_
  refine m_getr (k := 0) (r := 1) fX5_7 dX5_setOf_1 rfl rfl rfl ?_
  refine j_bipush (v := 108) dX5_setOf_4 rfl (by decide) ?_
  refine j_iconst (v := 2) dX5_setOf_6 rfl (by decide) ?_
  refine j_iload_n dX5_setOf_7 rfl rfl ?_
  refine j_imul dX5_setOf_8 rfl ?_
  refine j_iadd dX5_setOf_9 rfl ?_
  obtain ⟨g1, hm⟩ := jg_of hm
  refine o_iald (k := (Int32.toNatClampNeg ((108 : Int32) + ((2 : Int32) * a1)))) rfl dX5_setOf_10 rfl rfl (jin_vp g1) ?_
  exact j_ireturn dX5_setOf_11 rfl rfl ⟨Nat.le_refl _, Nat.le_refl _⟩ (jf_p (fun z => .int z) hm)
theorem dX5_comesStrip_0 : decode cX5_comesStrip 0 = .ok (.aload_n 0, 1) := by decide +kernel
theorem dX5_comesStrip_1 : decode cX5_comesStrip 1 = .ok (.getfield 7, 3) := by decide +kernel
theorem dX5_comesStrip_4 : decode cX5_comesStrip 4 = .ok (.bipush 108, 2) := by decide +kernel
theorem dX5_comesStrip_6 : decode cX5_comesStrip 6 = .ok (.iconst 2, 1) := by decide +kernel
theorem dX5_comesStrip_7 : decode cX5_comesStrip 7 = .ok (.aload_n 0, 1) := by decide +kernel
theorem dX5_comesStrip_8 : decode cX5_comesStrip 8 = .ok (.getfield 7, 3) := by decide +kernel
theorem dX5_comesStrip_11 : decode cX5_comesStrip 11 = .ok (.iconst 1, 1) := by decide +kernel
theorem dX5_comesStrip_12 : decode cX5_comesStrip 12 = .ok (.iaload, 1) := by decide +kernel
theorem dX5_comesStrip_13 : decode cX5_comesStrip 13 = .ok (.imul, 1) := by decide +kernel
theorem dX5_comesStrip_14 : decode cX5_comesStrip 14 = .ok (.iadd, 1) := by decide +kernel
theorem dX5_comesStrip_15 : decode cX5_comesStrip 15 = .ok (.iload_n 1, 1) := by decide +kernel
theorem dX5_comesStrip_16 : decode cX5_comesStrip 16 = .ok (.iastore, 1) := by decide +kernel
theorem dX5_comesStrip_17 : decode cX5_comesStrip 17 = .ok (.aload_n 0, 1) := by decide +kernel
theorem dX5_comesStrip_18 : decode cX5_comesStrip 18 = .ok (.getfield 7, 3) := by decide +kernel
theorem dX5_comesStrip_21 : decode cX5_comesStrip 21 = .ok (.bipush 108, 2) := by decide +kernel
theorem dX5_comesStrip_23 : decode cX5_comesStrip 23 = .ok (.iconst 2, 1) := by decide +kernel
theorem dX5_comesStrip_24 : decode cX5_comesStrip 24 = .ok (.aload_n 0, 1) := by decide +kernel
theorem dX5_comesStrip_25 : decode cX5_comesStrip 25 = .ok (.getfield 7, 3) := by decide +kernel
theorem dX5_comesStrip_28 : decode cX5_comesStrip 28 = .ok (.iconst 1, 1) := by decide +kernel
theorem dX5_comesStrip_29 : decode cX5_comesStrip 29 = .ok (.iaload, 1) := by decide +kernel
theorem dX5_comesStrip_30 : decode cX5_comesStrip 30 = .ok (.imul, 1) := by decide +kernel
theorem dX5_comesStrip_31 : decode cX5_comesStrip 31 = .ok (.iadd, 1) := by decide +kernel
theorem dX5_comesStrip_32 : decode cX5_comesStrip 32 = .ok (.iconst 1, 1) := by decide +kernel
theorem dX5_comesStrip_33 : decode cX5_comesStrip 33 = .ok (.iadd, 1) := by decide +kernel
theorem dX5_comesStrip_34 : decode cX5_comesStrip 34 = .ok (.iload_n 2, 1) := by decide +kernel
theorem dX5_comesStrip_35 : decode cX5_comesStrip 35 = .ok (.iastore, 1) := by decide +kernel
theorem dX5_comesStrip_36 : decode cX5_comesStrip 36 = .ok (.aload_n 0, 1) := by decide +kernel
theorem dX5_comesStrip_37 : decode cX5_comesStrip 37 = .ok (.getfield 7, 3) := by decide +kernel
theorem dX5_comesStrip_40 : decode cX5_comesStrip 40 = .ok (.iconst 1, 1) := by decide +kernel
theorem dX5_comesStrip_41 : decode cX5_comesStrip 41 = .ok (.dup2, 1) := by decide +kernel
theorem dX5_comesStrip_42 : decode cX5_comesStrip 42 = .ok (.iaload, 1) := by decide +kernel
theorem dX5_comesStrip_43 : decode cX5_comesStrip 43 = .ok (.iconst 1, 1) := by decide +kernel
theorem dX5_comesStrip_44 : decode cX5_comesStrip 44 = .ok (.iadd, 1) := by decide +kernel
theorem dX5_comesStrip_45 : decode cX5_comesStrip 45 = .ok (.iastore, 1) := by decide +kernel
theorem dX5_comesStrip_46 : decode cX5_comesStrip 46 = .ok (.return_, 1) := by decide +kernel
def mX5_comesStrip (a1 : Int32) (a2 : Int32) (V : jMem) : Option jMem := (jg (jin ((108 : Int32) + ((2 : Int32) * (V.1 1 1))) 120) (jl (jsI V 1 (Int32.toNatClampNeg ((108 : Int32) + ((2 : Int32) * (V.1 1 1)))) a1) (fun (V2 : jMem) => (jg (jin (((108 : Int32) + ((2 : Int32) * (V2.1 1 1))) + (1 : Int32)) 120) (jl (jsI V2 1 (Int32.toNatClampNeg (((108 : Int32) + ((2 : Int32) * (V2.1 1 1))) + (1 : Int32))) a2) (fun (V4 : jMem) => (jl (jsI V4 1 1 ((V4.1 1 1) + (1 : Int32))) (fun (V5 : jMem) => (some V5)))))))))
set_option maxHeartbeats 4000000 in
set_option maxRecDepth 20000 in
theorem tX5_comesStrip {l : Launch} {Z : jZ} {q : Nat → Nat} {a1 : Int32} {a2 : Int32} {V : jMem} {V' : jMem}  (hm : mX5_comesStrip a1 a2 V = some V') : CtD l Z yX5_comesStrip cX5_comesStrip 3 none 0 q dM [.ref (q 0), .int a1, .int a2] V none V' := by
  refine Ct_of (L := [(0, .ref (q 0)), (1, .int a1), (2, .int a2)]) (own := RX5) (nm := "comesStrip") rfl rfl (by decide +kernel) rfl (Nat.le_of_ble_eq_true rfl) ?_
  unfold mX5_comesStrip at hm
  refine j_aload_n dX5_comesStrip_0 rfl rfl ?_
  refine m_getr (k := 0) (r := 1) fX5_7 dX5_comesStrip_1 rfl rfl rfl ?_
  refine j_bipush (v := 108) dX5_comesStrip_4 rfl (by decide) ?_
  refine j_iconst (v := 2) dX5_comesStrip_6 rfl (by decide) ?_
  refine j_aload_n dX5_comesStrip_7 rfl rfl ?_
  refine m_getr (k := 0) (r := 1) fX5_7 dX5_comesStrip_8 rfl rfl rfl ?_
  refine j_iconst (v := 1) dX5_comesStrip_11 rfl (by decide) ?_
  refine o_iald (k := 1) (by decide) dX5_comesStrip_12 rfl rfl (jin_vp (by decide)) ?_
  refine j_imul dX5_comesStrip_13 rfl ?_
  refine j_iadd dX5_comesStrip_14 rfl ?_
  refine j_iload_n dX5_comesStrip_15 rfl rfl ?_
  obtain ⟨g1, hm⟩ := jg_of hm
  refine o_iast (k := (Int32.toNatClampNeg ((108 : Int32) + ((2 : Int32) * (V.1 1 1))))) rfl dX5_comesStrip_16 rfl rfl (jin_vp g1) ?_
  obtain ⟨V2, eV2⟩ : ∃ y, y = (jsI V 1 (Int32.toNatClampNeg ((108 : Int32) + ((2 : Int32) * (V.1 1 1)))) a1) := ⟨_, rfl⟩
  have hm := jl_of hm eV2
  rw [← eV2]
  refine j_aload_n dX5_comesStrip_17 rfl rfl ?_
  refine m_getr (k := 0) (r := 1) fX5_7 dX5_comesStrip_18 rfl rfl rfl ?_
  refine j_bipush (v := 108) dX5_comesStrip_21 rfl (by decide) ?_
  refine j_iconst (v := 2) dX5_comesStrip_23 rfl (by decide) ?_
  refine j_aload_n dX5_comesStrip_24 rfl rfl ?_
  refine m_getr (k := 0) (r := 1) fX5_7 dX5_comesStrip_25 rfl rfl rfl ?_
  refine j_iconst (v := 1) dX5_comesStrip_28 rfl (by decide) ?_
  refine o_iald (k := 1) (by decide) dX5_comesStrip_29 rfl rfl (jin_vp (by decide)) ?_
  refine j_imul dX5_comesStrip_30 rfl ?_
  refine j_iadd dX5_comesStrip_31 rfl ?_
  refine j_iconst (v := 1) dX5_comesStrip_32 rfl (by decide) ?_
  refine j_iadd dX5_comesStrip_33 rfl ?_
  refine j_iload_n dX5_comesStrip_34 rfl rfl ?_
  obtain ⟨g3, hm⟩ := jg_of hm
  refine o_iast (k := (Int32.toNatClampNeg (((108 : Int32) + ((2 : Int32) * (V2.1 1 1))) + (1 : Int32)))) rfl dX5_comesStrip_35 rfl rfl (jin_vp g3) ?_
  obtain ⟨V4, eV4⟩ : ∃ y, y = (jsI V2 1 (Int32.toNatClampNeg (((108 : Int32) + ((2 : Int32) * (V2.1 1 1))) + (1 : Int32))) a2) := ⟨_, rfl⟩
  have hm := jl_of hm eV4
  rw [← eV4]
  refine j_aload_n dX5_comesStrip_36 rfl rfl ?_
  refine m_getr (k := 0) (r := 1) fX5_7 dX5_comesStrip_37 rfl rfl rfl ?_
  refine j_iconst (v := 1) dX5_comesStrip_40 rfl (by decide) ?_
  refine j_dup2 dX5_comesStrip_41 rfl rfl rfl ?_
  refine o_iald (k := 1) (by decide) dX5_comesStrip_42 rfl rfl (jin_vp (by decide)) ?_
  refine j_iconst (v := 1) dX5_comesStrip_43 rfl (by decide) ?_
  refine j_iadd dX5_comesStrip_44 rfl ?_
  refine o_iast (k := 1) (by decide) dX5_comesStrip_45 rfl rfl (jin_vp (by decide)) ?_
  obtain ⟨V5, eV5⟩ : ∃ y, y = (jsI V4 1 1 ((V4.1 1 1) + (1 : Int32))) := ⟨_, rfl⟩
  have hm := jl_of hm eV5
  rw [← eV5]
  exact j_return dX5_comesStrip_46 rfl ⟨Nat.le_refl _, Nat.le_refl _⟩ (jf_v hm)
theorem dX5_strip_0 : decode cX5_strip 0 = .ok (.iload_n 1, 1) := by decide +kernel
theorem dX5_strip_1 : decode cX5_strip 1 = .ok (.ifCond .lt 27, 3) := by decide +kernel
theorem dX5_strip_4 : decode cX5_strip 4 = .ok (.iload_n 1, 1) := by decide +kernel
theorem dX5_strip_5 : decode cX5_strip 5 = .ok (.iconst 1, 1) := by decide +kernel
theorem dX5_strip_6 : decode cX5_strip 6 = .ok (.aload_n 0, 1) := by decide +kernel
theorem dX5_strip_7 : decode cX5_strip 7 = .ok (.getfield 7, 3) := by decide +kernel
theorem dX5_strip_10 : decode cX5_strip 10 = .ok (.iconst 0, 1) := by decide +kernel
theorem dX5_strip_11 : decode cX5_strip 11 = .ok (.iaload, 1) := by decide +kernel
theorem dX5_strip_12 : decode cX5_strip 12 = .ok (.ishl, 1) := by decide +kernel
theorem dX5_strip_13 : decode cX5_strip 13 = .ok (.if_icmp .ge 15, 3) := by decide +kernel
theorem dX5_strip_16 : decode cX5_strip 16 = .ok (.iload_n 2, 1) := by decide +kernel
theorem dX5_strip_17 : decode cX5_strip 17 = .ok (.i2l, 1) := by decide +kernel
theorem dX5_strip_18 : decode cX5_strip 18 = .ok (.lconst 0, 1) := by decide +kernel
theorem dX5_strip_19 : decode cX5_strip 19 = .ok (.ldc2_w 58, 3) := by decide +kernel
theorem dX5_strip_22 : decode cX5_strip 22 = .ok (.invokestatic 54, 3) := by decide +kernel
theorem dX5_strip_25 : decode cX5_strip 25 = .ok (.ifCond .ne 10, 3) := by decide +kernel
theorem dX5_strip_28 : decode cX5_strip 28 = .ok (.aload_n 0, 1) := by decide +kernel
theorem dX5_strip_29 : decode cX5_strip 29 = .ok (.ldc 44, 2) := by decide +kernel
theorem dX5_strip_31 : decode cX5_strip 31 = .ok (.invokevirtual 60, 3) := by decide +kernel
theorem dX5_strip_34 : decode cX5_strip 34 = .ok (.ireturn, 1) := by decide +kernel
theorem dX5_strip_35 : decode cX5_strip 35 = .ok (.aload_n 0, 1) := by decide +kernel
theorem dX5_strip_36 : decode cX5_strip 36 = .ok (.getfield 7, 3) := by decide +kernel
theorem dX5_strip_39 : decode cX5_strip 39 = .ok (.iconst 1, 1) := by decide +kernel
theorem dX5_strip_40 : decode cX5_strip 40 = .ok (.iaload, 1) := by decide +kernel
theorem dX5_strip_41 : decode cX5_strip 41 = .ok (.bipush 6, 2) := by decide +kernel
theorem dX5_strip_43 : decode cX5_strip 43 = .ok (.if_icmp .ne 10, 3) := by decide +kernel
theorem dX5_strip_46 : decode cX5_strip 46 = .ok (.aload_n 0, 1) := by decide +kernel
theorem dX5_strip_47 : decode cX5_strip 47 = .ok (.ldc 64, 2) := by decide +kernel
theorem dX5_strip_49 : decode cX5_strip 49 = .ok (.invokevirtual 60, 3) := by decide +kernel
theorem dX5_strip_52 : decode cX5_strip 52 = .ok (.ireturn, 1) := by decide +kernel
theorem dX5_strip_53 : decode cX5_strip 53 = .ok (.aload_n 0, 1) := by decide +kernel
theorem dX5_strip_54 : decode cX5_strip 54 = .ok (.iload_n 1, 1) := by decide +kernel
theorem dX5_strip_55 : decode cX5_strip 55 = .ok (.iload_n 2, 1) := by decide +kernel
theorem dX5_strip_56 : decode cX5_strip 56 = .ok (.invokevirtual 132, 3) := by decide +kernel
theorem dX5_strip_59 : decode cX5_strip 59 = .ok (.aload_n 0, 1) := by decide +kernel
theorem dX5_strip_60 : decode cX5_strip 60 = .ok (.getfield 7, 3) := by decide +kernel
theorem dX5_strip_63 : decode cX5_strip 63 = .ok (.iconst 1, 1) := by decide +kernel
theorem dX5_strip_64 : decode cX5_strip 64 = .ok (.iaload, 1) := by decide +kernel
theorem dX5_strip_65 : decode cX5_strip 65 = .ok (.iconst 1, 1) := by decide +kernel
theorem dX5_strip_66 : decode cX5_strip 66 = .ok (.isub, 1) := by decide +kernel
theorem dX5_strip_67 : decode cX5_strip 67 = .ok (.ireturn, 1) := by decide +kernel
def mX5_strip_b28   (V : jMem) : Option (Int32 × jMem) := ((mX5_finds (-1000000001 : Int32) V).bind (fun (p1 : Int32 × jMem) => (some (p1.1, p1.2))))
set_option maxHeartbeats 4000000 in
set_option maxRecDepth 20000 in
theorem tX5_strip_b28 {l : Launch} {Z : jZ} {q : Nat → Nat} {V : jMem} {r : Int32} {V' : jMem}    (hm : mX5_strip_b28 V = some (r, V')) : J l Z RX5 "strip" cX5_strip 3 (some .int) 1 0 0 (fun r' w => r' = some (.int r) ∧ w = jw Z q V' dM) 28 [(0, .ref (q 0))] [] (jw Z q V dM) 0 0 := by
  unfold mX5_strip_b28 at hm
  refine j_aload_n dX5_strip_28 rfl rfl ?_
  refine j_ldc dX5_strip_29 rfl wX5_44 ?_
  obtain ⟨p1, ep1, hm⟩ := jb_of hm
  refine o_callV_i kX5_60 dX5_strip_31 rfl (tX5_finds  ep1) rfl rfl rfl rfl rfl (Nat.le_of_ble_eq_true rfl) (by decide) ?_
  exact j_ireturn dX5_strip_34 rfl rfl ⟨Nat.le_refl _, Nat.le_refl _⟩ (jf_m (fun z => .int z) hm)
def mX5_strip (a1 : Int32) (a2 : Int32) (V : jMem) : Option (Int32 × jMem) := (if a1 < (0 : Int32) then (mX5_strip_b28 V) else (if ((1 : Int32) <<< ((V.1 1 0) &&& (31 : Int32))) ≤ a1 then (mX5_strip_b28 V) else (if (mX5_isIn (Int32.toInt64 a2) (0 : Int64) (9999 : Int64)) = (0 : Int32) then (mX5_strip_b28 V) else (if (V.1 1 1) = (6 : Int32) then ((mX5_finds (-1000000002 : Int32) V).bind (fun (p6 : Int32 × jMem) => (some (p6.1, p6.2)))) else ((mX5_comesStrip a1 a2 V).bind (fun (p5 : jMem) => (some (((p5.1 1 1) - (1 : Int32)), p5))))))))
set_option maxHeartbeats 4000000 in
set_option maxRecDepth 20000 in
theorem tX5_strip {l : Launch} {Z : jZ} {q : Nat → Nat} {a1 : Int32} {a2 : Int32} {V : jMem} {r : Int32} {V' : jMem}  (hm : mX5_strip a1 a2 V = some (r, V')) : CtD l Z yX5_strip cX5_strip 3 (some .int) 1 q dM [.ref (q 0), .int a1, .int a2] V (some (.int r)) V' := by
  refine Ct_of (L := [(0, .ref (q 0)), (1, .int a1), (2, .int a2)]) (own := RX5) (nm := "strip") rfl rfl (by decide +kernel) rfl (Nat.le_of_ble_eq_true rfl) ?_
  unfold mX5_strip at hm
  refine j_iload_n dX5_strip_0 rfl rfl ?_
  refine j_if_lt (tgt := 28) dX5_strip_1 rfl (by decide) (fun c1 => ?_) (fun c1 => ?_)
  · have hm := jif_pos c1 hm
    refine j_sub (L' := [(0, _)]) [0] rfl ?_
    exact tX5_strip_b28    hm
  · have hm := jif_neg c1 hm
    refine j_iload_n dX5_strip_4 rfl rfl ?_
    refine j_iconst (v := 1) dX5_strip_5 rfl (by decide) ?_
    refine j_aload_n dX5_strip_6 rfl rfl ?_
    refine m_getr (k := 0) (r := 1) fX5_7 dX5_strip_7 rfl rfl rfl ?_
    refine j_iconst (v := 0) dX5_strip_10 rfl (by decide) ?_
    refine o_iald (k := 0) (by decide) dX5_strip_11 rfl rfl (jin_vp (by decide)) ?_
    refine j_ishl dX5_strip_12 rfl ?_
    refine j_icmp_ge (tgt := 28) dX5_strip_13 rfl (by decide) (fun c2 => ?_) (fun c2 => ?_)
    · have hm := jif_pos c2 hm
      refine j_sub (L' := [(0, _)]) [0] rfl ?_
      exact tX5_strip_b28    hm
    · have hm := jif_neg c2 hm
      refine j_iload_n dX5_strip_16 rfl rfl ?_
      refine j_i2l dX5_strip_17 rfl ?_
      refine j_lconst (v := 0) dX5_strip_18 rfl (by decide) ?_
      refine j_ldc2 dX5_strip_19 rfl wX5_58 ?_
      refine o_callS_i kX5_54 dX5_strip_22 rfl (tX5_isIn  rfl) rfl rfl (Nat.le_of_ble_eq_true rfl) (by decide) ?_
      refine j_if_ne (tgt := 35) dX5_strip_25 rfl (by decide) (fun c3 => ?_) (fun c3 => ?_)
      · have hm := jif_neg c3 hm
        refine j_aload_n dX5_strip_35 rfl rfl ?_
        refine m_getr (k := 0) (r := 1) fX5_7 dX5_strip_36 rfl rfl rfl ?_
        refine j_iconst (v := 1) dX5_strip_39 rfl (by decide) ?_
        refine o_iald (k := 1) (by decide) dX5_strip_40 rfl rfl (jin_vp (by decide)) ?_
        refine j_bipush (v := 6) dX5_strip_41 rfl (by decide) ?_
        refine j_icmp_ne (tgt := 53) dX5_strip_43 rfl (by decide) (fun c4 => ?_) (fun c4 => ?_)
        · have hm := jif_neg c4 hm
          refine j_aload_n dX5_strip_53 rfl rfl ?_
          refine j_iload_n dX5_strip_54 rfl rfl ?_
          refine j_iload_n dX5_strip_55 rfl rfl ?_
          obtain ⟨p5, ep5, hm⟩ := jb_of hm
          refine o_callV_v kX5_132 dX5_strip_56 rfl (tX5_comesStrip  ep5) rfl rfl rfl rfl rfl (Nat.le_of_ble_eq_true rfl) (by decide) ?_
          refine j_aload_n dX5_strip_59 rfl rfl ?_
          refine m_getr (k := 0) (r := 1) fX5_7 dX5_strip_60 rfl rfl rfl ?_
          refine j_iconst (v := 1) dX5_strip_63 rfl (by decide) ?_
          refine o_iald (k := 1) (by decide) dX5_strip_64 rfl rfl (jin_vp (by decide)) ?_
          refine j_iconst (v := 1) dX5_strip_65 rfl (by decide) ?_
          refine j_isub dX5_strip_66 rfl ?_
          exact j_ireturn dX5_strip_67 rfl rfl ⟨Nat.le_refl _, Nat.le_refl _⟩ (jf_m (fun z => .int z) hm)
        · have hm := jif_pos c4 hm
          refine j_aload_n dX5_strip_46 rfl rfl ?_
          refine j_ldc dX5_strip_47 rfl wX5_64 ?_
          obtain ⟨p6, ep6, hm⟩ := jb_of hm
          refine o_callV_i kX5_60 dX5_strip_49 rfl (tX5_finds  ep6) rfl rfl rfl rfl rfl (Nat.le_of_ble_eq_true rfl) (by decide) ?_
          exact j_ireturn dX5_strip_52 rfl rfl ⟨Nat.le_refl _, Nat.le_refl _⟩ (jf_m (fun z => .int z) hm)
      · have hm := jif_pos c3 hm
        refine j_sub (L' := [(0, _)]) [0] rfl ?_
        exact tX5_strip_b28    hm
theorem dX5_thoseOf_0 : decode cX5_thoseOf 0 = .ok (.iconst 0, 1) := by decide +kernel
theorem dX5_thoseOf_1 : decode cX5_thoseOf 1 = .ok (.istore_n 3, 1) := by decide +kernel
theorem dX5_thoseOf_2 : decode cX5_thoseOf 2 = .ok (.iconst 0, 1) := by decide +kernel
theorem dX5_thoseOf_3 : decode cX5_thoseOf 3 = .ok (.istore 4, 2) := by decide +kernel
theorem dX5_thoseOf_5 : decode cX5_thoseOf 5 = .ok (.iload 4, 2) := by decide +kernel
theorem dX5_thoseOf_7 : decode cX5_thoseOf 7 = .ok (.aload_n 0, 1) := by decide +kernel
theorem dX5_thoseOf_8 : decode cX5_thoseOf 8 = .ok (.getfield 7, 3) := by decide +kernel
theorem dX5_thoseOf_11 : decode cX5_thoseOf 11 = .ok (.iconst 0, 1) := by decide +kernel
theorem dX5_thoseOf_12 : decode cX5_thoseOf 12 = .ok (.iaload, 1) := by decide +kernel
theorem dX5_thoseOf_13 : decode cX5_thoseOf 13 = .ok (.if_icmp .ge 45, 3) := by decide +kernel
theorem dX5_thoseOf_16 : decode cX5_thoseOf 16 = .ok (.iload_n 3, 1) := by decide +kernel
theorem dX5_thoseOf_17 : decode cX5_thoseOf 17 = .ok (.aload_n 0, 1) := by decide +kernel
theorem dX5_thoseOf_18 : decode cX5_thoseOf 18 = .ok (.iload_n 1, 1) := by decide +kernel
theorem dX5_thoseOf_19 : decode cX5_thoseOf 19 = .ok (.invokevirtual 135, 3) := by decide +kernel
theorem dX5_thoseOf_22 : decode cX5_thoseOf 22 = .ok (.iload 4, 2) := by decide +kernel
theorem dX5_thoseOf_24 : decode cX5_thoseOf 24 = .ok (.ishr, 1) := by decide +kernel
theorem dX5_thoseOf_25 : decode cX5_thoseOf 25 = .ok (.iconst 1, 1) := by decide +kernel
theorem dX5_thoseOf_26 : decode cX5_thoseOf 26 = .ok (.iand, 1) := by decide +kernel
theorem dX5_thoseOf_27 : decode cX5_thoseOf 27 = .ok (.iconst 1, 1) := by decide +kernel
theorem dX5_thoseOf_28 : decode cX5_thoseOf 28 = .ok (.if_icmp .ne 21, 3) := by decide +kernel
theorem dX5_thoseOf_31 : decode cX5_thoseOf 31 = .ok (.aload_n 0, 1) := by decide +kernel
theorem dX5_thoseOf_32 : decode cX5_thoseOf 32 = .ok (.iload 4, 2) := by decide +kernel
theorem dX5_thoseOf_34 : decode cX5_thoseOf 34 = .ok (.iconst 4, 1) := by decide +kernel
theorem dX5_thoseOf_35 : decode cX5_thoseOf 35 = .ok (.invokevirtual 45, 3) := by decide +kernel
theorem dX5_thoseOf_38 : decode cX5_thoseOf 38 = .ok (.iload_n 2, 1) := by decide +kernel
theorem dX5_thoseOf_39 : decode cX5_thoseOf 39 = .ok (.if_icmp .ne 10, 3) := by decide +kernel
theorem dX5_thoseOf_42 : decode cX5_thoseOf 42 = .ok (.iconst 1, 1) := by decide +kernel
theorem dX5_thoseOf_43 : decode cX5_thoseOf 43 = .ok (.iload 4, 2) := by decide +kernel
theorem dX5_thoseOf_45 : decode cX5_thoseOf 45 = .ok (.ishl, 1) := by decide +kernel
theorem dX5_thoseOf_46 : decode cX5_thoseOf 46 = .ok (.goto 4, 3) := by decide +kernel
theorem dX5_thoseOf_49 : decode cX5_thoseOf 49 = .ok (.iconst 0, 1) := by decide +kernel
theorem dX5_thoseOf_50 : decode cX5_thoseOf 50 = .ok (.ior, 1) := by decide +kernel
theorem dX5_thoseOf_51 : decode cX5_thoseOf 51 = .ok (.istore_n 3, 1) := by decide +kernel
theorem dX5_thoseOf_52 : decode cX5_thoseOf 52 = .ok (.iinc 4 1, 3) := by decide +kernel
theorem dX5_thoseOf_55 : decode cX5_thoseOf 55 = .ok (.goto (-50), 3) := by decide +kernel
theorem dX5_thoseOf_58 : decode cX5_thoseOf 58 = .ok (.iload_n 3, 1) := by decide +kernel
theorem dX5_thoseOf_59 : decode cX5_thoseOf 59 = .ok (.ireturn, 1) := by decide +kernel
def mX5_thoseOf_b50 (V : jMem) (k5 : Int32 → Int32 → Int32 → Int32 → Option Int32) (a1 : Int32) (a2 : Int32) (a4 : Int32) (s0 : Int32) (s1 : Int32) : Option Int32 := (k5 a1 a2 (s1 ||| s0) (a4 + (1 : Int32)))
set_option maxHeartbeats 4000000 in
set_option maxRecDepth 20000 in
theorem tX5_thoseOf_b50 {l : Launch} {Z : jZ} {q : Nat → Nat} {V : jMem} {k5 : Int32 → Int32 → Int32 → Int32 → Option Int32} {a1 : Int32} {a2 : Int32} {a4 : Int32} {s0 : Int32} {s1 : Int32} {r : Int32}   (hk5 : ∀ (a1 : Int32) (a2 : Int32) (a3 : Int32) (a4 : Int32), k5 a1 a2 a3 a4 = some r → J l Z RX5 "thoseOf" cX5_thoseOf 5 (some .int) 1 0 0 (fun r' w => r' = some (.int r) ∧ w = jw Z q V dM) 5 [(0, .ref (q 0)), (1, .int a1), (2, .int a2), (3, .int a3), (4, .int a4)] [] (jw Z q V dM) 0 0) (hm : mX5_thoseOf_b50 V k5 a1 a2 a4 s0 s1 = some r) : J l Z RX5 "thoseOf" cX5_thoseOf 5 (some .int) 1 0 0 (fun r' w => r' = some (.int r) ∧ w = jw Z q V dM) 50 [(0, .ref (q 0)), (1, .int a1), (2, .int a2), (4, .int a4)] [.int s0, .int s1] (jw Z q V dM) 0 0 := by
  unfold mX5_thoseOf_b50 at hm
  refine j_ior dX5_thoseOf_50 rfl ?_
  refine j_istore_n (i := 3) (L' := [(3, _), (0, _), (1, _), (2, _), (4, _)]) dX5_thoseOf_51 rfl rfl (by decide) rfl ?_
  refine j_iinc (v := (a4 + (1 : Int32))) (L' := [(4, _), (3, _), (0, _), (1, _), (2, _)]) dX5_thoseOf_52 rfl rfl rfl (by decide) rfl ?_
  refine j_goto (tgt := 5) dX5_thoseOf_55 (by decide) ?_
  refine j_sub (L' := [(0, _), (1, _), (2, _), (3, _), (4, _)]) [2, 3, 4, 1, 0] rfl ?_
  exact hk5 _ _ _ _  hm
def mX5_thoseOf_b49 (V : jMem) (k5 : Int32 → Int32 → Int32 → Int32 → Option Int32) (a1 : Int32) (a2 : Int32) (a4 : Int32) (s0 : Int32) : Option Int32 := (mX5_thoseOf_b50 V k5 a1 a2 a4 (0 : Int32) s0)
set_option maxHeartbeats 4000000 in
set_option maxRecDepth 20000 in
theorem tX5_thoseOf_b49 {l : Launch} {Z : jZ} {q : Nat → Nat} {V : jMem} {k5 : Int32 → Int32 → Int32 → Int32 → Option Int32} {a1 : Int32} {a2 : Int32} {a4 : Int32} {s0 : Int32} {r : Int32}   (hk5 : ∀ (a1 : Int32) (a2 : Int32) (a3 : Int32) (a4 : Int32), k5 a1 a2 a3 a4 = some r → J l Z RX5 "thoseOf" cX5_thoseOf 5 (some .int) 1 0 0 (fun r' w => r' = some (.int r) ∧ w = jw Z q V dM) 5 [(0, .ref (q 0)), (1, .int a1), (2, .int a2), (3, .int a3), (4, .int a4)] [] (jw Z q V dM) 0 0) (hm : mX5_thoseOf_b49 V k5 a1 a2 a4 s0 = some r) : J l Z RX5 "thoseOf" cX5_thoseOf 5 (some .int) 1 0 0 (fun r' w => r' = some (.int r) ∧ w = jw Z q V dM) 49 [(0, .ref (q 0)), (1, .int a1), (2, .int a2), (4, .int a4)] [.int s0] (jw Z q V dM) 0 0 := by
  unfold mX5_thoseOf_b49 at hm
  refine j_iconst (v := 0) dX5_thoseOf_49 rfl (by decide) ?_
  exact tX5_thoseOf_b50   hk5 hm
def mX5_thoseOf_b5 (V : jMem)  : Nat → Int32 → Int32 → Int32 → Int32 → Option Int32
  | 0, _, _, _, _ => none
  | n + 1, a1, a2, a3, a4 => (if (V.1 1 0) ≤ a4 then (some a3) else ((mX5_setOf a1 V).bind (fun (r2 : Int32) => (if ((r2 >>> (a4 &&& (31 : Int32))) &&& (1 : Int32)) = (1 : Int32) then ((mX5_has a4 (4 : Int32) V).bind (fun (r4 : Int32) => (if r4 = a2 then (mX5_thoseOf_b50 V (mX5_thoseOf_b5 V n) a1 a2 a4 ((1 : Int32) <<< (a4 &&& (31 : Int32))) a3) else (mX5_thoseOf_b49 V (mX5_thoseOf_b5 V n) a1 a2 a4 a3)))) else (mX5_thoseOf_b49 V (mX5_thoseOf_b5 V n) a1 a2 a4 a3)))))
set_option maxHeartbeats 4000000 in
set_option maxRecDepth 20000 in
theorem tX5_thoseOf_b5 {l : Launch} {Z : jZ} {q : Nat → Nat} {V : jMem} {r : Int32}   (n : Nat) : ∀ (a1 : Int32) (a2 : Int32) (a3 : Int32) (a4 : Int32), mX5_thoseOf_b5 V n a1 a2 a3 a4 = some r → J l Z RX5 "thoseOf" cX5_thoseOf 5 (some .int) 1 0 0 (fun r' w => r' = some (.int r) ∧ w = jw Z q V dM) 5 [(0, .ref (q 0)), (1, .int a1), (2, .int a2), (3, .int a3), (4, .int a4)] [] (jw Z q V dM) 0 0 := by
  induction n with
  | zero => intro a1 a2 a3 a4 hm; cases hm
  | succ n ih =>
    intro a1 a2 a3 a4 hm
    rw [mX5_thoseOf_b5] at hm
    refine j_iload dX5_thoseOf_5 rfl rfl ?_
    refine j_aload_n dX5_thoseOf_7 rfl rfl ?_
    refine m_getr (k := 0) (r := 1) fX5_7 dX5_thoseOf_8 rfl rfl rfl ?_
    refine j_iconst (v := 0) dX5_thoseOf_11 rfl (by decide) ?_
    refine o_iald (k := 0) (by decide) dX5_thoseOf_12 rfl rfl (jin_vp (by decide)) ?_
    refine j_icmp_ge (tgt := 58) dX5_thoseOf_13 rfl (by decide) (fun c1 => ?_) (fun c1 => ?_)
    · have hm := jif_pos c1 hm
      refine j_iload_n dX5_thoseOf_58 rfl rfl ?_
      exact j_ireturn dX5_thoseOf_59 rfl rfl ⟨Nat.le_refl _, Nat.le_refl _⟩ (jf_p (fun z => .int z) hm)
    · have hm := jif_neg c1 hm
      refine j_iload_n dX5_thoseOf_16 rfl rfl ?_
      refine j_aload_n dX5_thoseOf_17 rfl rfl ?_
      refine j_iload_n dX5_thoseOf_18 rfl rfl ?_
      obtain ⟨r2, er2, hm⟩ := jb_of hm
      refine o_callV_i kX5_135 dX5_thoseOf_19 rfl (tX5_setOf  er2) rfl rfl rfl rfl rfl (Nat.le_of_ble_eq_true rfl) (by decide) ?_
      refine j_iload dX5_thoseOf_22 rfl rfl ?_
      refine j_ishr dX5_thoseOf_24 rfl ?_
      refine j_iconst (v := 1) dX5_thoseOf_25 rfl (by decide) ?_
      refine j_iand dX5_thoseOf_26 rfl ?_
      refine j_iconst (v := 1) dX5_thoseOf_27 rfl (by decide) ?_
      refine j_icmp_ne (tgt := 49) dX5_thoseOf_28 rfl (by decide) (fun c3 => ?_) (fun c3 => ?_)
      · have hm := jif_neg c3 hm
        refine j_sub (L' := [(0, _), (1, _), (2, _), (4, _)]) [0, 1, 2, 4] rfl ?_
        exact tX5_thoseOf_b49   ih hm
      · have hm := jif_pos c3 hm
        refine j_aload_n dX5_thoseOf_31 rfl rfl ?_
        refine j_iload dX5_thoseOf_32 rfl rfl ?_
        refine j_iconst (v := 4) dX5_thoseOf_34 rfl (by decide) ?_
        obtain ⟨r4, er4, hm⟩ := jb_of hm
        refine o_callV_i kX5_45 dX5_thoseOf_35 rfl (tX5_has  er4) rfl rfl rfl rfl rfl (Nat.le_of_ble_eq_true rfl) (by decide) ?_
        refine j_iload_n dX5_thoseOf_38 rfl rfl ?_
        refine j_icmp_ne (tgt := 49) dX5_thoseOf_39 rfl (by decide) (fun c5 => ?_) (fun c5 => ?_)
        · have hm := jif_neg c5 hm
          refine j_sub (L' := [(0, _), (1, _), (2, _), (4, _)]) [0, 1, 2, 4] rfl ?_
          exact tX5_thoseOf_b49   ih hm
        · have hm := jif_pos c5 hm
          refine j_iconst (v := 1) dX5_thoseOf_42 rfl (by decide) ?_
          refine j_iload dX5_thoseOf_43 rfl rfl ?_
          refine j_ishl dX5_thoseOf_45 rfl ?_
          refine j_goto (tgt := 50) dX5_thoseOf_46 (by decide) ?_
          refine j_sub (L' := [(0, _), (1, _), (2, _), (4, _)]) [0, 1, 2, 4] rfl ?_
          exact tX5_thoseOf_b50   ih hm
def mX5_thoseOf (a1 : Int32) (a2 : Int32) (V : jMem) : Option Int32 := (mX5_thoseOf_b5 V 2000 a1 a2 (0 : Int32) (0 : Int32))
set_option maxHeartbeats 4000000 in
set_option maxRecDepth 20000 in
theorem tX5_thoseOf {l : Launch} {Z : jZ} {q : Nat → Nat} {a1 : Int32} {a2 : Int32} {V : jMem} {r : Int32}  (hm : mX5_thoseOf a1 a2 V = some r) : CtD l Z yX5_thoseOf cX5_thoseOf 5 (some .int) 1 q dM [.ref (q 0), .int a1, .int a2] V (some (.int r)) V := by
  refine Ct_of (L := [(0, .ref (q 0)), (1, .int a1), (2, .int a2)]) (own := RX5) (nm := "thoseOf") rfl rfl (by decide +kernel) rfl (Nat.le_of_ble_eq_true rfl) ?_
  unfold mX5_thoseOf at hm
  refine j_iconst (v := 0) dX5_thoseOf_0 rfl (by decide) ?_
  refine j_istore_n (i := 3) (L' := [(3, _), (0, _), (1, _), (2, _)]) dX5_thoseOf_1 rfl rfl (by decide) rfl ?_
  refine j_iconst (v := 0) dX5_thoseOf_2 rfl (by decide) ?_
  refine j_istore (L' := [(4, _), (3, _), (0, _), (1, _), (2, _)]) dX5_thoseOf_3 rfl (by decide) rfl ?_
  refine j_sub (L' := [(0, _), (1, _), (2, _), (3, _), (4, _)]) [2, 3, 4, 1, 0] rfl ?_
  exact tX5_thoseOf_b5   _ _ _ _ _  hm
theorem dX5_isHad_0 : decode cX5_isHad 0 = .ok (.aload_n 0, 1) := by decide +kernel
theorem dX5_isHad_1 : decode cX5_isHad 1 = .ok (.iload_n 1, 1) := by decide +kernel
theorem dX5_isHad_2 : decode cX5_isHad 2 = .ok (.iconst 1, 1) := by decide +kernel
theorem dX5_isHad_3 : decode cX5_isHad 3 = .ok (.invokevirtual 138, 3) := by decide +kernel
theorem dX5_isHad_6 : decode cX5_isHad 6 = .ok (.aload_n 0, 1) := by decide +kernel
theorem dX5_isHad_7 : decode cX5_isHad 7 = .ok (.iload_n 1, 1) := by decide +kernel
theorem dX5_isHad_8 : decode cX5_isHad 8 = .ok (.invokevirtual 135, 3) := by decide +kernel
theorem dX5_isHad_11 : decode cX5_isHad 11 = .ok (.if_icmp .ne 7, 3) := by decide +kernel
theorem dX5_isHad_14 : decode cX5_isHad 14 = .ok (.iconst 1, 1) := by decide +kernel
theorem dX5_isHad_15 : decode cX5_isHad 15 = .ok (.goto 4, 3) := by decide +kernel
theorem dX5_isHad_18 : decode cX5_isHad 18 = .ok (.iconst 0, 1) := by decide +kernel
theorem dX5_isHad_19 : decode cX5_isHad 19 = .ok (.ireturn, 1) := by decide +kernel
def mX5_isHad (a1 : Int32) (V : jMem) : Option Int32 := ((mX5_thoseOf a1 (1 : Int32) V).bind (fun (r1 : Int32) => ((mX5_setOf a1 V).bind (fun (r2 : Int32) => (if r1 = r2 then (some (1 : Int32)) else (some (0 : Int32)))))))
set_option maxHeartbeats 4000000 in
set_option maxRecDepth 20000 in
theorem tX5_isHad {l : Launch} {Z : jZ} {q : Nat → Nat} {a1 : Int32} {V : jMem} {r : Int32}  (hm : mX5_isHad a1 V = some r) : CtD l Z yX5_isHad cX5_isHad 2 (some .boolean) 2 q dM [.ref (q 0), .int a1] V (some (.int r)) V := by
  refine Ct_of (L := [(0, .ref (q 0)), (1, .int a1)]) (own := RX5) (nm := "isHad") rfl rfl (by decide +kernel) rfl (Nat.le_of_ble_eq_true rfl) ?_
  unfold mX5_isHad at hm
  refine j_aload_n dX5_isHad_0 rfl rfl ?_
  refine j_iload_n dX5_isHad_1 rfl rfl ?_
  refine j_iconst (v := 1) dX5_isHad_2 rfl (by decide) ?_
  obtain ⟨r1, er1, hm⟩ := jb_of hm
  refine o_callV_i kX5_138 dX5_isHad_3 rfl (tX5_thoseOf  er1) rfl rfl rfl rfl rfl (Nat.le_of_ble_eq_true rfl) (by decide) ?_
  refine j_aload_n dX5_isHad_6 rfl rfl ?_
  refine j_iload_n dX5_isHad_7 rfl rfl ?_
  obtain ⟨r2, er2, hm⟩ := jb_of hm
  refine o_callV_i kX5_135 dX5_isHad_8 rfl (tX5_setOf  er2) rfl rfl rfl rfl rfl (Nat.le_of_ble_eq_true rfl) (by decide) ?_
  refine j_icmp_ne (tgt := 18) dX5_isHad_11 rfl (by decide) (fun c3 => ?_) (fun c3 => ?_)
  · have hm := jif_neg c3 hm
    refine j_iconst (v := 0) dX5_isHad_18 rfl (by decide) ?_
    exact j_zreturn dX5_isHad_19 rfl (by decide) ⟨Nat.le_refl _, Nat.le_refl _⟩ (jf_p (fun z => .int z) hm)
  · have hm := jif_pos c3 hm
    refine j_iconst (v := 1) dX5_isHad_14 rfl (by decide) ?_
    refine j_goto (tgt := 19) dX5_isHad_15 (by decide) ?_
    exact j_zreturn dX5_isHad_19 rfl (by decide) ⟨Nat.le_refl _, Nat.le_refl _⟩ (jf_p (fun z => .int z) hm)
theorem dX5_canBe_0 : decode cX5_canBe 0 = .ok (.aload_n 0, 1) := by decide +kernel
theorem dX5_canBe_1 : decode cX5_canBe 1 = .ok (.iload_n 1, 1) := by decide +kernel
theorem dX5_canBe_2 : decode cX5_canBe 2 = .ok (.iconst 2, 1) := by decide +kernel
theorem dX5_canBe_3 : decode cX5_canBe 3 = .ok (.invokevirtual 138, 3) := by decide +kernel
theorem dX5_canBe_6 : decode cX5_canBe 6 = .ok (.ifCond .ne 7, 3) := by decide +kernel
theorem dX5_canBe_9 : decode cX5_canBe 9 = .ok (.iconst 1, 1) := by decide +kernel
theorem dX5_canBe_10 : decode cX5_canBe 10 = .ok (.goto 4, 3) := by decide +kernel
theorem dX5_canBe_13 : decode cX5_canBe 13 = .ok (.iconst 0, 1) := by decide +kernel
theorem dX5_canBe_14 : decode cX5_canBe 14 = .ok (.ireturn, 1) := by decide +kernel
def mX5_canBe (a1 : Int32) (V : jMem) : Option Int32 := ((mX5_thoseOf a1 (2 : Int32) V).bind (fun (r1 : Int32) => (if r1 = (0 : Int32) then (some (1 : Int32)) else (some (0 : Int32)))))
set_option maxHeartbeats 4000000 in
set_option maxRecDepth 20000 in
theorem tX5_canBe {l : Launch} {Z : jZ} {q : Nat → Nat} {a1 : Int32} {V : jMem} {r : Int32}  (hm : mX5_canBe a1 V = some r) : CtD l Z yX5_canBe cX5_canBe 2 (some .boolean) 2 q dM [.ref (q 0), .int a1] V (some (.int r)) V := by
  refine Ct_of (L := [(0, .ref (q 0)), (1, .int a1)]) (own := RX5) (nm := "canBe") rfl rfl (by decide +kernel) rfl (Nat.le_of_ble_eq_true rfl) ?_
  unfold mX5_canBe at hm
  refine j_aload_n dX5_canBe_0 rfl rfl ?_
  refine j_iload_n dX5_canBe_1 rfl rfl ?_
  refine j_iconst (v := 2) dX5_canBe_2 rfl (by decide) ?_
  obtain ⟨r1, er1, hm⟩ := jb_of hm
  refine o_callV_i kX5_138 dX5_canBe_3 rfl (tX5_thoseOf  er1) rfl rfl rfl rfl rfl (Nat.le_of_ble_eq_true rfl) (by decide) ?_
  refine j_if_ne (tgt := 13) dX5_canBe_6 rfl (by decide) (fun c2 => ?_) (fun c2 => ?_)
  · have hm := jif_neg c2 hm
    refine j_iconst (v := 0) dX5_canBe_13 rfl (by decide) ?_
    exact j_zreturn dX5_canBe_14 rfl (by decide) ⟨Nat.le_refl _, Nat.le_refl _⟩ (jf_p (fun z => .int z) hm)
  · have hm := jif_pos c2 hm
    refine j_iconst (v := 1) dX5_canBe_9 rfl (by decide) ?_
    refine j_goto (tgt := 14) dX5_canBe_10 (by decide) ?_
    exact j_zreturn dX5_canBe_14 rfl (by decide) ⟨Nat.le_refl _, Nat.le_refl _⟩ (jf_p (fun z => .int z) hm)
