theorem dX5_stripOf_0 : decode cX5_stripOf 0 = .ok (.aload_n 0, 1) := by decide +kernel
theorem dX5_stripOf_1 : decode cX5_stripOf 1 = .ok (.iload_n 1, 1) := by decide +kernel
theorem dX5_stripOf_2 : decode cX5_stripOf 2 = .ok (.invokevirtual 141, 3) := by decide +kernel
theorem dX5_stripOf_5 : decode cX5_stripOf 5 = .ok (.ifCond .eq 15, 3) := by decide +kernel
theorem dX5_stripOf_8 : decode cX5_stripOf 8 = .ok (.iload_n 2, 1) := by decide +kernel
theorem dX5_stripOf_9 : decode cX5_stripOf 9 = .ok (.i2l, 1) := by decide +kernel
theorem dX5_stripOf_10 : decode cX5_stripOf 10 = .ok (.lconst 0, 1) := by decide +kernel
theorem dX5_stripOf_11 : decode cX5_stripOf 11 = .ok (.ldc2_w 144, 3) := by decide +kernel
theorem dX5_stripOf_14 : decode cX5_stripOf 14 = .ok (.invokestatic 54, 3) := by decide +kernel
theorem dX5_stripOf_17 : decode cX5_stripOf 17 = .ok (.ifCond .ne 10, 3) := by decide +kernel
theorem dX5_stripOf_20 : decode cX5_stripOf 20 = .ok (.aload_n 0, 1) := by decide +kernel
theorem dX5_stripOf_21 : decode cX5_stripOf 21 = .ok (.ldc 44, 2) := by decide +kernel
theorem dX5_stripOf_23 : decode cX5_stripOf 23 = .ok (.invokevirtual 60, 3) := by decide +kernel
theorem dX5_stripOf_26 : decode cX5_stripOf 26 = .ok (.ireturn, 1) := by decide +kernel
theorem dX5_stripOf_27 : decode cX5_stripOf 27 = .ok (.iload_n 2, 1) := by decide +kernel
theorem dX5_stripOf_28 : decode cX5_stripOf 28 = .ok (.tableswitch 63 2 4 #[28, 42, 56], 28) := by decide +kernel
theorem dX5_stripOf_56 : decode cX5_stripOf 56 = .ok (.aload_n 0, 1) := by decide +kernel
theorem dX5_stripOf_57 : decode cX5_stripOf 57 = .ok (.iload_n 1, 1) := by decide +kernel
theorem dX5_stripOf_58 : decode cX5_stripOf 58 = .ok (.invokevirtual 146, 3) := by decide +kernel
theorem dX5_stripOf_61 : decode cX5_stripOf 61 = .ok (.ifCond .eq 7, 3) := by decide +kernel
theorem dX5_stripOf_64 : decode cX5_stripOf 64 = .ok (.iconst 1, 1) := by decide +kernel
theorem dX5_stripOf_65 : decode cX5_stripOf 65 = .ok (.goto 4, 3) := by decide +kernel
theorem dX5_stripOf_68 : decode cX5_stripOf 68 = .ok (.iconst 0, 1) := by decide +kernel
theorem dX5_stripOf_69 : decode cX5_stripOf 69 = .ok (.ireturn, 1) := by decide +kernel
theorem dX5_stripOf_70 : decode cX5_stripOf 70 = .ok (.aload_n 0, 1) := by decide +kernel
theorem dX5_stripOf_71 : decode cX5_stripOf 71 = .ok (.iload_n 1, 1) := by decide +kernel
theorem dX5_stripOf_72 : decode cX5_stripOf 72 = .ok (.invokevirtual 149, 3) := by decide +kernel
theorem dX5_stripOf_75 : decode cX5_stripOf 75 = .ok (.ifCond .eq 7, 3) := by decide +kernel
theorem dX5_stripOf_78 : decode cX5_stripOf 78 = .ok (.iconst 1, 1) := by decide +kernel
theorem dX5_stripOf_79 : decode cX5_stripOf 79 = .ok (.goto 4, 3) := by decide +kernel
theorem dX5_stripOf_82 : decode cX5_stripOf 82 = .ok (.iconst 0, 1) := by decide +kernel
theorem dX5_stripOf_83 : decode cX5_stripOf 83 = .ok (.ireturn, 1) := by decide +kernel
theorem dX5_stripOf_84 : decode cX5_stripOf 84 = .ok (.aload_n 0, 1) := by decide +kernel
theorem dX5_stripOf_85 : decode cX5_stripOf 85 = .ok (.iload_n 1, 1) := by decide +kernel
theorem dX5_stripOf_86 : decode cX5_stripOf 86 = .ok (.iconst 0, 1) := by decide +kernel
theorem dX5_stripOf_87 : decode cX5_stripOf 87 = .ok (.invokevirtual 138, 3) := by decide +kernel
theorem dX5_stripOf_90 : decode cX5_stripOf 90 = .ok (.ireturn, 1) := by decide +kernel
theorem dX5_stripOf_91 : decode cX5_stripOf 91 = .ok (.aload_n 0, 1) := by decide +kernel
theorem dX5_stripOf_92 : decode cX5_stripOf 92 = .ok (.getfield 7, 3) := by decide +kernel
theorem dX5_stripOf_95 : decode cX5_stripOf 95 = .ok (.bipush 108, 2) := by decide +kernel
theorem dX5_stripOf_97 : decode cX5_stripOf 97 = .ok (.iconst 2, 1) := by decide +kernel
theorem dX5_stripOf_98 : decode cX5_stripOf 98 = .ok (.iload_n 1, 1) := by decide +kernel
theorem dX5_stripOf_99 : decode cX5_stripOf 99 = .ok (.imul, 1) := by decide +kernel
theorem dX5_stripOf_100 : decode cX5_stripOf 100 = .ok (.iadd, 1) := by decide +kernel
theorem dX5_stripOf_101 : decode cX5_stripOf 101 = .ok (.iload_n 2, 1) := by decide +kernel
theorem dX5_stripOf_102 : decode cX5_stripOf 102 = .ok (.iadd, 1) := by decide +kernel
theorem dX5_stripOf_103 : decode cX5_stripOf 103 = .ok (.iaload, 1) := by decide +kernel
theorem dX5_stripOf_104 : decode cX5_stripOf 104 = .ok (.ireturn, 1) := by decide +kernel
def mX5_stripOf_b20   (V : jMem) : Option (Int32 × jMem) := ((mX5_finds (-1000000001 : Int32) V).bind (fun (p1 : Int32 × jMem) => (some (p1.1, p1.2))))
set_option maxHeartbeats 4000000 in
set_option maxRecDepth 20000 in
theorem tX5_stripOf_b20 {l : Launch} {Z : jZ} {q : Nat → Nat} {V : jMem} {r : Int32} {V' : jMem}    (hm : mX5_stripOf_b20 V = some (r, V')) : J l Z RX5 "stripOf" cX5_stripOf 3 (some .int) 3 0 0 (fun r' w => r' = some (.int r) ∧ w = jw Z q V' dM) 20 [(0, .ref (q 0))] [] (jw Z q V dM) 0 0 := by
  unfold mX5_stripOf_b20 at hm
  refine j_aload_n dX5_stripOf_20 rfl rfl ?_
  refine j_ldc dX5_stripOf_21 rfl wX5_44 ?_
  obtain ⟨p1, ep1, hm⟩ := jb_of hm
  refine o_callV_i kX5_60 dX5_stripOf_23 rfl (tX5_finds  ep1) rfl rfl rfl rfl rfl (Nat.le_of_ble_eq_true rfl) (by decide) ?_
  exact j_ireturn dX5_stripOf_26 rfl rfl ⟨Nat.le_refl _, Nat.le_refl _⟩ (jf_m (fun z => .int z) hm)
def mX5_stripOf (a1 : Int32) (a2 : Int32) (V : jMem) : Option (Int32 × jMem) := (if (mX5_isStrip a1 V) = (0 : Int32) then (mX5_stripOf_b20 V) else (if (mX5_isIn (Int32.toInt64 a2) (0 : Int64) (4 : Int64)) = (0 : Int32) then (mX5_stripOf_b20 V) else (if a2 = (2 : Int32) then ((mX5_isHad a1 V).bind (fun (r4 : Int32) => (if r4 = (0 : Int32) then (some ((0 : Int32), V)) else (some ((1 : Int32), V))))) else (if a2 = (3 : Int32) then ((mX5_canBe a1 V).bind (fun (r7 : Int32) => (if r7 = (0 : Int32) then (some ((0 : Int32), V)) else (some ((1 : Int32), V))))) else (if a2 = (4 : Int32) then ((mX5_thoseOf a1 (0 : Int32) V).bind (fun (r10 : Int32) => (some (r10, V)))) else (jg (jin (((108 : Int32) + ((2 : Int32) * a1)) + a2) 120) (some ((V.1 1 (Int32.toNatClampNeg (((108 : Int32) + ((2 : Int32) * a1)) + a2))), V))))))))
set_option maxHeartbeats 4000000 in
set_option maxRecDepth 20000 in
theorem tX5_stripOf {l : Launch} {Z : jZ} {q : Nat → Nat} {a1 : Int32} {a2 : Int32} {V : jMem} {r : Int32} {V' : jMem}  (hm : mX5_stripOf a1 a2 V = some (r, V')) : CtD l Z yX5_stripOf cX5_stripOf 3 (some .int) 3 q dM [.ref (q 0), .int a1, .int a2] V (some (.int r)) V' := by
  refine Ct_of (L := [(0, .ref (q 0)), (1, .int a1), (2, .int a2)]) (own := RX5) (nm := "stripOf") rfl rfl (by decide +kernel) rfl (Nat.le_of_ble_eq_true rfl) ?_
  unfold mX5_stripOf at hm
  refine j_aload_n dX5_stripOf_0 rfl rfl ?_
  refine j_iload_n dX5_stripOf_1 rfl rfl ?_
  refine o_callV_i kX5_141 dX5_stripOf_2 rfl (tX5_isStrip  rfl) rfl rfl rfl rfl rfl (Nat.le_of_ble_eq_true rfl) (by decide) ?_
  refine j_if_eq (tgt := 20) dX5_stripOf_5 rfl (by decide) (fun c1 => ?_) (fun c1 => ?_)
  · have hm := jif_pos c1 hm
    refine j_sub (L' := [(0, _)]) [0] rfl ?_
    exact tX5_stripOf_b20    hm
  · have hm := jif_neg c1 hm
    refine j_iload_n dX5_stripOf_8 rfl rfl ?_
    refine j_i2l dX5_stripOf_9 rfl ?_
    refine j_lconst (v := 0) dX5_stripOf_10 rfl (by decide) ?_
    refine j_ldc2 dX5_stripOf_11 rfl wX5_144 ?_
    refine o_callS_i kX5_54 dX5_stripOf_14 rfl (tX5_isIn  rfl) rfl rfl (Nat.le_of_ble_eq_true rfl) (by decide) ?_
    refine j_if_ne (tgt := 27) dX5_stripOf_17 rfl (by decide) (fun c2 => ?_) (fun c2 => ?_)
    · have hm := jif_neg c2 hm
      refine j_iload_n dX5_stripOf_27 rfl rfl ?_
      by_cases c3 : a2 = (2 : Int32)
      · have hm := jif_pos c3 hm
        refine j_ts_in (z := 2) (off := 28) (tgt := 56) dX5_stripOf_28 (j_ts_lit c3 (by decide)) (by decide) (by decide) rfl (by decide) ?_
        refine j_aload_n dX5_stripOf_56 rfl rfl ?_
        refine j_iload_n dX5_stripOf_57 rfl rfl ?_
        obtain ⟨r4, er4, hm⟩ := jb_of hm
        refine o_callV_i kX5_146 dX5_stripOf_58 rfl (tX5_isHad  er4) rfl rfl rfl rfl rfl (Nat.le_of_ble_eq_true rfl) (by decide) ?_
        refine j_if_eq (tgt := 68) dX5_stripOf_61 rfl (by decide) (fun c5 => ?_) (fun c5 => ?_)
        · have hm := jif_pos c5 hm
          refine j_iconst (v := 0) dX5_stripOf_68 rfl (by decide) ?_
          exact j_ireturn dX5_stripOf_69 rfl rfl ⟨Nat.le_refl _, Nat.le_refl _⟩ (jf_m (fun z => .int z) hm)
        · have hm := jif_neg c5 hm
          refine j_iconst (v := 1) dX5_stripOf_64 rfl (by decide) ?_
          refine j_goto (tgt := 69) dX5_stripOf_65 (by decide) ?_
          exact j_ireturn dX5_stripOf_69 rfl rfl ⟨Nat.le_refl _, Nat.le_refl _⟩ (jf_m (fun z => .int z) hm)
      have hm := jif_neg c3 hm
      by_cases c6 : a2 = (3 : Int32)
      · have hm := jif_pos c6 hm
        refine j_ts_in (z := 3) (off := 42) (tgt := 70) dX5_stripOf_28 (j_ts_lit c6 (by decide)) (by decide) (by decide) rfl (by decide) ?_
        refine j_aload_n dX5_stripOf_70 rfl rfl ?_
        refine j_iload_n dX5_stripOf_71 rfl rfl ?_
        obtain ⟨r7, er7, hm⟩ := jb_of hm
        refine o_callV_i kX5_149 dX5_stripOf_72 rfl (tX5_canBe  er7) rfl rfl rfl rfl rfl (Nat.le_of_ble_eq_true rfl) (by decide) ?_
        refine j_if_eq (tgt := 82) dX5_stripOf_75 rfl (by decide) (fun c8 => ?_) (fun c8 => ?_)
        · have hm := jif_pos c8 hm
          refine j_iconst (v := 0) dX5_stripOf_82 rfl (by decide) ?_
          exact j_ireturn dX5_stripOf_83 rfl rfl ⟨Nat.le_refl _, Nat.le_refl _⟩ (jf_m (fun z => .int z) hm)
        · have hm := jif_neg c8 hm
          refine j_iconst (v := 1) dX5_stripOf_78 rfl (by decide) ?_
          refine j_goto (tgt := 83) dX5_stripOf_79 (by decide) ?_
          exact j_ireturn dX5_stripOf_83 rfl rfl ⟨Nat.le_refl _, Nat.le_refl _⟩ (jf_m (fun z => .int z) hm)
      have hm := jif_neg c6 hm
      by_cases c9 : a2 = (4 : Int32)
      · have hm := jif_pos c9 hm
        refine j_ts_in (z := 4) (off := 56) (tgt := 84) dX5_stripOf_28 (j_ts_lit c9 (by decide)) (by decide) (by decide) rfl (by decide) ?_
        refine j_aload_n dX5_stripOf_84 rfl rfl ?_
        refine j_iload_n dX5_stripOf_85 rfl rfl ?_
        refine j_iconst (v := 0) dX5_stripOf_86 rfl (by decide) ?_
        obtain ⟨r10, er10, hm⟩ := jb_of hm
        refine o_callV_i kX5_138 dX5_stripOf_87 rfl (tX5_thoseOf  er10) rfl rfl rfl rfl rfl (Nat.le_of_ble_eq_true rfl) (by decide) ?_
        exact j_ireturn dX5_stripOf_90 rfl rfl ⟨Nat.le_refl _, Nat.le_refl _⟩ (jf_m (fun z => .int z) hm)
      have hm := jif_neg c9 hm
      refine j_ts_out (tgt := 91) dX5_stripOf_28 (by have := j_ts_ne (k := 2) c3 (by decide); have := j_ts_ne (k := 3) c6 (by decide); have := j_ts_ne (k := 4) c9 (by decide); omega) (by decide) ?_
      refine j_aload_n dX5_stripOf_91 rfl rfl ?_
      refine m_getr (k := 0) (r := 1) fX5_7 dX5_stripOf_92 rfl rfl rfl ?_
      refine j_bipush (v := 108) dX5_stripOf_95 rfl (by decide) ?_
      refine j_iconst (v := 2) dX5_stripOf_97 rfl (by decide) ?_
      refine j_iload_n dX5_stripOf_98 rfl rfl ?_
      refine j_imul dX5_stripOf_99 rfl ?_
      refine j_iadd dX5_stripOf_100 rfl ?_
      refine j_iload_n dX5_stripOf_101 rfl rfl ?_
      refine j_iadd dX5_stripOf_102 rfl ?_
      obtain ⟨g11, hm⟩ := jg_of hm
      refine o_iald (k := (Int32.toNatClampNeg (((108 : Int32) + ((2 : Int32) * a1)) + a2))) rfl dX5_stripOf_103 rfl rfl (jin_vp g11) ?_
      exact j_ireturn dX5_stripOf_104 rfl rfl ⟨Nat.le_refl _, Nat.le_refl _⟩ (jf_m (fun z => .int z) hm)
    · have hm := jif_pos c2 hm
      refine j_sub (L' := [(0, _)]) [0] rfl ?_
      exact tX5_stripOf_b20    hm
theorem dX5_had_0 : decode cX5_had 0 = .ok (.iconst 0, 1) := by decide +kernel
theorem dX5_had_1 : decode cX5_had 1 = .ok (.istore_n 1, 1) := by decide +kernel
theorem dX5_had_2 : decode cX5_had 2 = .ok (.iconst 0, 1) := by decide +kernel
theorem dX5_had_3 : decode cX5_had 3 = .ok (.istore_n 2, 1) := by decide +kernel
theorem dX5_had_4 : decode cX5_had 4 = .ok (.iload_n 2, 1) := by decide +kernel
theorem dX5_had_5 : decode cX5_had 5 = .ok (.aload_n 0, 1) := by decide +kernel
theorem dX5_had_6 : decode cX5_had 6 = .ok (.getfield 7, 3) := by decide +kernel
theorem dX5_had_9 : decode cX5_had 9 = .ok (.iconst 1, 1) := by decide +kernel
theorem dX5_had_10 : decode cX5_had 10 = .ok (.iaload, 1) := by decide +kernel
theorem dX5_had_11 : decode cX5_had 11 = .ok (.if_icmp .ge 27, 3) := by decide +kernel
theorem dX5_had_14 : decode cX5_had 14 = .ok (.iload_n 1, 1) := by decide +kernel
theorem dX5_had_15 : decode cX5_had 15 = .ok (.aload_n 0, 1) := by decide +kernel
theorem dX5_had_16 : decode cX5_had 16 = .ok (.iload_n 2, 1) := by decide +kernel
theorem dX5_had_17 : decode cX5_had 17 = .ok (.invokevirtual 146, 3) := by decide +kernel
theorem dX5_had_20 : decode cX5_had 20 = .ok (.ifCond .eq 9, 3) := by decide +kernel
theorem dX5_had_23 : decode cX5_had 23 = .ok (.iconst 1, 1) := by decide +kernel
theorem dX5_had_24 : decode cX5_had 24 = .ok (.iload_n 2, 1) := by decide +kernel
theorem dX5_had_25 : decode cX5_had 25 = .ok (.ishl, 1) := by decide +kernel
theorem dX5_had_26 : decode cX5_had 26 = .ok (.goto 4, 3) := by decide +kernel
theorem dX5_had_29 : decode cX5_had 29 = .ok (.iconst 0, 1) := by decide +kernel
theorem dX5_had_30 : decode cX5_had 30 = .ok (.ior, 1) := by decide +kernel
theorem dX5_had_31 : decode cX5_had 31 = .ok (.istore_n 1, 1) := by decide +kernel
theorem dX5_had_32 : decode cX5_had 32 = .ok (.iinc 2 1, 3) := by decide +kernel
theorem dX5_had_35 : decode cX5_had 35 = .ok (.goto (-31), 3) := by decide +kernel
theorem dX5_had_38 : decode cX5_had 38 = .ok (.iload_n 1, 1) := by decide +kernel
theorem dX5_had_39 : decode cX5_had 39 = .ok (.ireturn, 1) := by decide +kernel
def mX5_had_b30 (V : jMem) (k4 : Int32 → Int32 → Option Int32) (a2 : Int32) (s0 : Int32) (s1 : Int32) : Option Int32 := (k4 (s1 ||| s0) (a2 + (1 : Int32)))
set_option maxHeartbeats 4000000 in
set_option maxRecDepth 20000 in
theorem tX5_had_b30 {l : Launch} {Z : jZ} {q : Nat → Nat} {V : jMem} {k4 : Int32 → Int32 → Option Int32} {a2 : Int32} {s0 : Int32} {s1 : Int32} {r : Int32}   (hk4 : ∀ (a1 : Int32) (a2 : Int32), k4 a1 a2 = some r → J l Z RX5 "had" cX5_had 3 (some .int) 3 0 0 (fun r' w => r' = some (.int r) ∧ w = jw Z q V dM) 4 [(0, .ref (q 0)), (1, .int a1), (2, .int a2)] [] (jw Z q V dM) 0 0) (hm : mX5_had_b30 V k4 a2 s0 s1 = some r) : J l Z RX5 "had" cX5_had 3 (some .int) 3 0 0 (fun r' w => r' = some (.int r) ∧ w = jw Z q V dM) 30 [(0, .ref (q 0)), (2, .int a2)] [.int s0, .int s1] (jw Z q V dM) 0 0 := by
  unfold mX5_had_b30 at hm
  refine j_ior dX5_had_30 rfl ?_
  refine j_istore_n (i := 1) (L' := [(1, _), (0, _), (2, _)]) dX5_had_31 rfl rfl (by decide) rfl ?_
  refine j_iinc (v := (a2 + (1 : Int32))) (L' := [(2, _), (1, _), (0, _)]) dX5_had_32 rfl rfl rfl (by decide) rfl ?_
  refine j_goto (tgt := 4) dX5_had_35 (by decide) ?_
  refine j_sub (L' := [(0, _), (1, _), (2, _)]) [2, 1, 0] rfl ?_
  exact hk4 _ _  hm
def mX5_had_b4 (V : jMem)  : Nat → Int32 → Int32 → Option Int32
  | 0, _, _ => none
  | n + 1, a1, a2 => (if (V.1 1 1) ≤ a2 then (some a1) else ((mX5_isHad a2 V).bind (fun (r2 : Int32) => (if r2 = (0 : Int32) then (mX5_had_b30 V (mX5_had_b4 V n) a2 (0 : Int32) a1) else (mX5_had_b30 V (mX5_had_b4 V n) a2 ((1 : Int32) <<< (a2 &&& (31 : Int32))) a1)))))
set_option maxHeartbeats 4000000 in
set_option maxRecDepth 20000 in
theorem tX5_had_b4 {l : Launch} {Z : jZ} {q : Nat → Nat} {V : jMem} {r : Int32}   (n : Nat) : ∀ (a1 : Int32) (a2 : Int32), mX5_had_b4 V n a1 a2 = some r → J l Z RX5 "had" cX5_had 3 (some .int) 3 0 0 (fun r' w => r' = some (.int r) ∧ w = jw Z q V dM) 4 [(0, .ref (q 0)), (1, .int a1), (2, .int a2)] [] (jw Z q V dM) 0 0 := by
  induction n with
  | zero => intro a1 a2 hm; cases hm
  | succ n ih =>
    intro a1 a2 hm
    rw [mX5_had_b4] at hm
    refine j_iload_n dX5_had_4 rfl rfl ?_
    refine j_aload_n dX5_had_5 rfl rfl ?_
    refine m_getr (k := 0) (r := 1) fX5_7 dX5_had_6 rfl rfl rfl ?_
    refine j_iconst (v := 1) dX5_had_9 rfl (by decide) ?_
    refine o_iald (k := 1) (by decide) dX5_had_10 rfl rfl (jin_vp (by decide)) ?_
    refine j_icmp_ge (tgt := 38) dX5_had_11 rfl (by decide) (fun c1 => ?_) (fun c1 => ?_)
    · have hm := jif_pos c1 hm
      refine j_iload_n dX5_had_38 rfl rfl ?_
      exact j_ireturn dX5_had_39 rfl rfl ⟨Nat.le_refl _, Nat.le_refl _⟩ (jf_p (fun z => .int z) hm)
    · have hm := jif_neg c1 hm
      refine j_iload_n dX5_had_14 rfl rfl ?_
      refine j_aload_n dX5_had_15 rfl rfl ?_
      refine j_iload_n dX5_had_16 rfl rfl ?_
      obtain ⟨r2, er2, hm⟩ := jb_of hm
      refine o_callV_i kX5_146 dX5_had_17 rfl (tX5_isHad  er2) rfl rfl rfl rfl rfl (Nat.le_of_ble_eq_true rfl) (by decide) ?_
      refine j_if_eq (tgt := 29) dX5_had_20 rfl (by decide) (fun c3 => ?_) (fun c3 => ?_)
      · have hm := jif_pos c3 hm
        refine j_iconst (v := 0) dX5_had_29 rfl (by decide) ?_
        refine j_sub (L' := [(0, _), (2, _)]) [0, 2] rfl ?_
        exact tX5_had_b30   ih hm
      · have hm := jif_neg c3 hm
        refine j_iconst (v := 1) dX5_had_23 rfl (by decide) ?_
        refine j_iload_n dX5_had_24 rfl rfl ?_
        refine j_ishl dX5_had_25 rfl ?_
        refine j_goto (tgt := 30) dX5_had_26 (by decide) ?_
        refine j_sub (L' := [(0, _), (2, _)]) [0, 2] rfl ?_
        exact tX5_had_b30   ih hm
def mX5_had (V : jMem) : Option Int32 := (mX5_had_b4 V 2000 (0 : Int32) (0 : Int32))
set_option maxHeartbeats 4000000 in
set_option maxRecDepth 20000 in
theorem tX5_had {l : Launch} {Z : jZ} {q : Nat → Nat} {V : jMem} {r : Int32}  (hm : mX5_had V = some r) : CtD l Z yX5_had cX5_had 3 (some .int) 3 q dM [.ref (q 0)] V (some (.int r)) V := by
  refine Ct_of (L := [(0, .ref (q 0))]) (own := RX5) (nm := "had") rfl rfl (by decide +kernel) rfl (Nat.le_of_ble_eq_true rfl) ?_
  unfold mX5_had at hm
  refine j_iconst (v := 0) dX5_had_0 rfl (by decide) ?_
  refine j_istore_n (i := 1) (L' := [(1, _), (0, _)]) dX5_had_1 rfl rfl (by decide) rfl ?_
  refine j_iconst (v := 0) dX5_had_2 rfl (by decide) ?_
  refine j_istore_n (i := 2) (L' := [(2, _), (1, _), (0, _)]) dX5_had_3 rfl rfl (by decide) rfl ?_
  refine j_sub (L' := [(0, _), (1, _), (2, _)]) [2, 1, 0] rfl ?_
  exact tX5_had_b4   _ _ _  hm
theorem dX5_findWanted_0 : decode cX5_findWanted 0 = .ok (.aload_n 0, 1) := by decide +kernel
theorem dX5_findWanted_1 : decode cX5_findWanted 1 = .ok (.iconst 0, 1) := by decide +kernel
theorem dX5_findWanted_2 : decode cX5_findWanted 2 = .ok (.putfield 152, 3) := by decide +kernel
theorem dX5_findWanted_5 : decode cX5_findWanted 5 = .ok (.iconst 0, 1) := by decide +kernel
theorem dX5_findWanted_6 : decode cX5_findWanted 6 = .ok (.istore_n 2, 1) := by decide +kernel
theorem dX5_findWanted_7 : decode cX5_findWanted 7 = .ok (.iload_n 2, 1) := by decide +kernel
theorem dX5_findWanted_8 : decode cX5_findWanted 8 = .ok (.aload_n 0, 1) := by decide +kernel
theorem dX5_findWanted_9 : decode cX5_findWanted 9 = .ok (.getfield 7, 3) := by decide +kernel
theorem dX5_findWanted_12 : decode cX5_findWanted 12 = .ok (.iconst 0, 1) := by decide +kernel
theorem dX5_findWanted_13 : decode cX5_findWanted 13 = .ok (.iaload, 1) := by decide +kernel
theorem dX5_findWanted_14 : decode cX5_findWanted 14 = .ok (.if_icmp .ge 52, 3) := by decide +kernel
theorem dX5_findWanted_17 : decode cX5_findWanted 17 = .ok (.aload_n 0, 1) := by decide +kernel
theorem dX5_findWanted_18 : decode cX5_findWanted 18 = .ok (.iload_n 1, 1) := by decide +kernel
theorem dX5_findWanted_19 : decode cX5_findWanted 19 = .ok (.invokevirtual 135, 3) := by decide +kernel
theorem dX5_findWanted_22 : decode cX5_findWanted 22 = .ok (.iload_n 2, 1) := by decide +kernel
theorem dX5_findWanted_23 : decode cX5_findWanted 23 = .ok (.ishr, 1) := by decide +kernel
theorem dX5_findWanted_24 : decode cX5_findWanted 24 = .ok (.iconst 1, 1) := by decide +kernel
theorem dX5_findWanted_25 : decode cX5_findWanted 25 = .ok (.iand, 1) := by decide +kernel
theorem dX5_findWanted_26 : decode cX5_findWanted 26 = .ok (.iconst 1, 1) := by decide +kernel
theorem dX5_findWanted_27 : decode cX5_findWanted 27 = .ok (.if_icmp .ne 33, 3) := by decide +kernel
theorem dX5_findWanted_30 : decode cX5_findWanted 30 = .ok (.aload_n 0, 1) := by decide +kernel
theorem dX5_findWanted_31 : decode cX5_findWanted 31 = .ok (.iload_n 2, 1) := by decide +kernel
theorem dX5_findWanted_32 : decode cX5_findWanted 32 = .ok (.iconst 4, 1) := by decide +kernel
theorem dX5_findWanted_33 : decode cX5_findWanted 33 = .ok (.invokevirtual 45, 3) := by decide +kernel
theorem dX5_findWanted_36 : decode cX5_findWanted 36 = .ok (.iconst 1, 1) := by decide +kernel
theorem dX5_findWanted_37 : decode cX5_findWanted 37 = .ok (.if_icmp .eq 23, 3) := by decide +kernel
theorem dX5_findWanted_40 : decode cX5_findWanted 40 = .ok (.aload_n 0, 1) := by decide +kernel
theorem dX5_findWanted_41 : decode cX5_findWanted 41 = .ok (.getfield 35, 3) := by decide +kernel
theorem dX5_findWanted_44 : decode cX5_findWanted 44 = .ok (.aload_n 0, 1) := by decide +kernel
theorem dX5_findWanted_45 : decode cX5_findWanted 45 = .ok (.getfield 152, 3) := by decide +kernel
theorem dX5_findWanted_48 : decode cX5_findWanted 48 = .ok (.iload_n 2, 1) := by decide +kernel
theorem dX5_findWanted_49 : decode cX5_findWanted 49 = .ok (.iastore, 1) := by decide +kernel
theorem dX5_findWanted_50 : decode cX5_findWanted 50 = .ok (.aload_n 0, 1) := by decide +kernel
theorem dX5_findWanted_51 : decode cX5_findWanted 51 = .ok (.dup, 1) := by decide +kernel
theorem dX5_findWanted_52 : decode cX5_findWanted 52 = .ok (.getfield 152, 3) := by decide +kernel
theorem dX5_findWanted_55 : decode cX5_findWanted 55 = .ok (.iconst 1, 1) := by decide +kernel
theorem dX5_findWanted_56 : decode cX5_findWanted 56 = .ok (.iadd, 1) := by decide +kernel
theorem dX5_findWanted_57 : decode cX5_findWanted 57 = .ok (.putfield 152, 3) := by decide +kernel
theorem dX5_findWanted_60 : decode cX5_findWanted 60 = .ok (.iinc 2 1, 3) := by decide +kernel
theorem dX5_findWanted_63 : decode cX5_findWanted 63 = .ok (.goto (-56), 3) := by decide +kernel
theorem dX5_findWanted_66 : decode cX5_findWanted 66 = .ok (.return_, 1) := by decide +kernel
def mX5_findWanted_b60  (k7 : Int32 → Int32 → jMem → Option jMem) (a1 : Int32) (a2 : Int32) (V : jMem) : Option jMem := (k7 a1 (a2 + (1 : Int32)) V)
set_option maxHeartbeats 4000000 in
set_option maxRecDepth 20000 in
theorem tX5_findWanted_b60 {l : Launch} {Z : jZ} {q : Nat → Nat} {k7 : Int32 → Int32 → jMem → Option jMem} {a1 : Int32} {a2 : Int32} {V : jMem} {V' : jMem}   (hk7 : ∀ (a1 : Int32) (a2 : Int32) (V : jMem), k7 a1 a2 V = some V' → J l Z RX5 "findWanted" cX5_findWanted 3 none 1 0 0 (fun r' w => r' = none ∧ w = jw Z q V' dM) 7 [(0, .ref (q 0)), (1, .int a1), (2, .int a2)] [] (jw Z q V dM) 0 0) (hm : mX5_findWanted_b60 k7 a1 a2 V = some V') : J l Z RX5 "findWanted" cX5_findWanted 3 none 1 0 0 (fun r' w => r' = none ∧ w = jw Z q V' dM) 60 [(0, .ref (q 0)), (1, .int a1), (2, .int a2)] [] (jw Z q V dM) 0 0 := by
  unfold mX5_findWanted_b60 at hm
  refine j_iinc (v := (a2 + (1 : Int32))) (L' := [(2, _), (0, _), (1, _)]) dX5_findWanted_60 rfl rfl rfl (by decide) rfl ?_
  refine j_goto (tgt := 7) dX5_findWanted_63 (by decide) ?_
  refine j_sub (L' := [(0, _), (1, _), (2, _)]) [1, 2, 0] rfl ?_
  exact hk7 _ _ _  hm
def mX5_findWanted_b7   : Nat → Int32 → Int32 → jMem → Option jMem
  | 0, _, _, _ => none
  | n + 1, a1, a2, V => (if (V.1 1 0) ≤ a2 then (some V) else ((mX5_setOf a1 V).bind (fun (r2 : Int32) => (if ((r2 >>> (a2 &&& (31 : Int32))) &&& (1 : Int32)) = (1 : Int32) then ((mX5_has a2 (4 : Int32) V).bind (fun (r4 : Int32) => (if r4 = (1 : Int32) then (mX5_findWanted_b60 (mX5_findWanted_b7 n) a1 a2 V) else (jg (jin (V.1 0 13) 14) (jl (jsI V 9 (Int32.toNatClampNeg (V.1 0 13)) a2) (fun (V7 : jMem) => (jl (jsI V7 0 13 ((V7.1 0 13) + (1 : Int32))) (fun (V8 : jMem) => (mX5_findWanted_b60 (mX5_findWanted_b7 n) a1 a2 V8))))))))) else (mX5_findWanted_b60 (mX5_findWanted_b7 n) a1 a2 V)))))
set_option maxHeartbeats 4000000 in
set_option maxRecDepth 20000 in
theorem tX5_findWanted_b7 {l : Launch} {Z : jZ} {q : Nat → Nat}  {V' : jMem}   (n : Nat) : ∀ (a1 : Int32) (a2 : Int32) (V : jMem), mX5_findWanted_b7 n a1 a2 V = some V' → J l Z RX5 "findWanted" cX5_findWanted 3 none 1 0 0 (fun r' w => r' = none ∧ w = jw Z q V' dM) 7 [(0, .ref (q 0)), (1, .int a1), (2, .int a2)] [] (jw Z q V dM) 0 0 := by
  induction n with
  | zero => intro a1 a2 V hm; cases hm
  | succ n ih =>
    intro a1 a2 V hm
    rw [mX5_findWanted_b7] at hm
    refine j_iload_n dX5_findWanted_7 rfl rfl ?_
    refine j_aload_n dX5_findWanted_8 rfl rfl ?_
    refine m_getr (k := 0) (r := 1) fX5_7 dX5_findWanted_9 rfl rfl rfl ?_
    refine j_iconst (v := 0) dX5_findWanted_12 rfl (by decide) ?_
    refine o_iald (k := 0) (by decide) dX5_findWanted_13 rfl rfl (jin_vp (by decide)) ?_
    refine j_icmp_ge (tgt := 66) dX5_findWanted_14 rfl (by decide) (fun c1 => ?_) (fun c1 => ?_)
    · have hm := jif_pos c1 hm
      exact j_return dX5_findWanted_66 rfl ⟨Nat.le_refl _, Nat.le_refl _⟩ (jf_v hm)
    · have hm := jif_neg c1 hm
      refine j_aload_n dX5_findWanted_17 rfl rfl ?_
      refine j_iload_n dX5_findWanted_18 rfl rfl ?_
      obtain ⟨r2, er2, hm⟩ := jb_of hm
      refine o_callV_i kX5_135 dX5_findWanted_19 rfl (tX5_setOf  er2) rfl rfl rfl rfl rfl (Nat.le_of_ble_eq_true rfl) (by decide) ?_
      refine j_iload_n dX5_findWanted_22 rfl rfl ?_
      refine j_ishr dX5_findWanted_23 rfl ?_
      refine j_iconst (v := 1) dX5_findWanted_24 rfl (by decide) ?_
      refine j_iand dX5_findWanted_25 rfl ?_
      refine j_iconst (v := 1) dX5_findWanted_26 rfl (by decide) ?_
      refine j_icmp_ne (tgt := 60) dX5_findWanted_27 rfl (by decide) (fun c3 => ?_) (fun c3 => ?_)
      · have hm := jif_neg c3 hm
        exact tX5_findWanted_b60   ih hm
      · have hm := jif_pos c3 hm
        refine j_aload_n dX5_findWanted_30 rfl rfl ?_
        refine j_iload_n dX5_findWanted_31 rfl rfl ?_
        refine j_iconst (v := 4) dX5_findWanted_32 rfl (by decide) ?_
        obtain ⟨r4, er4, hm⟩ := jb_of hm
        refine o_callV_i kX5_45 dX5_findWanted_33 rfl (tX5_has  er4) rfl rfl rfl rfl rfl (Nat.le_of_ble_eq_true rfl) (by decide) ?_
        refine j_iconst (v := 1) dX5_findWanted_36 rfl (by decide) ?_
        refine j_icmp_eq (tgt := 60) dX5_findWanted_37 rfl (by decide) (fun c5 => ?_) (fun c5 => ?_)
        · have hm := jif_pos c5 hm
          exact tX5_findWanted_b60   ih hm
        · have hm := jif_neg c5 hm
          refine j_aload_n dX5_findWanted_40 rfl rfl ?_
          refine m_getr (k := 12) (r := 9) fX5_35 dX5_findWanted_41 rfl rfl rfl ?_
          refine j_aload_n dX5_findWanted_44 rfl rfl ?_
          refine m_geti (k := 13) fX5_152 dX5_findWanted_45 rfl rfl rfl ?_
          refine j_iload_n dX5_findWanted_48 rfl rfl ?_
          obtain ⟨g6, hm⟩ := jg_of hm
          refine o_iast (k := (Int32.toNatClampNeg (V.1 0 13))) rfl dX5_findWanted_49 rfl rfl (jin_vp g6) ?_
          obtain ⟨V7, eV7⟩ : ∃ y, y = (jsI V 9 (Int32.toNatClampNeg (V.1 0 13)) a2) := ⟨_, rfl⟩
          have hm := jl_of hm eV7
          rw [← eV7]
          refine j_aload_n dX5_findWanted_50 rfl rfl ?_
          refine j_dup dX5_findWanted_51 rfl rfl ?_
          refine m_geti (k := 13) fX5_152 dX5_findWanted_52 rfl rfl rfl ?_
          refine j_iconst (v := 1) dX5_findWanted_55 rfl (by decide) ?_
          refine j_iadd dX5_findWanted_56 rfl ?_
          refine m_puti (k := 13) fX5_152 dX5_findWanted_57 rfl rfl rfl ?_
          obtain ⟨V8, eV8⟩ : ∃ y, y = (jsI V7 0 13 ((V7.1 0 13) + (1 : Int32))) := ⟨_, rfl⟩
          have hm := jl_of hm eV8
          rw [← eV8]
          exact tX5_findWanted_b60   ih hm
def mX5_findWanted (a1 : Int32) (V : jMem) : Option jMem := (jl (jsI V 0 13 (0 : Int32)) (fun (V1 : jMem) => (mX5_findWanted_b7 2000 a1 (0 : Int32) V1)))
set_option maxHeartbeats 4000000 in
set_option maxRecDepth 20000 in
theorem tX5_findWanted {l : Launch} {Z : jZ} {q : Nat → Nat} {a1 : Int32} {V : jMem} {V' : jMem}  (hm : mX5_findWanted a1 V = some V') : CtD l Z yX5_findWanted cX5_findWanted 3 none 1 q dM [.ref (q 0), .int a1] V none V' := by
  refine Ct_of (L := [(0, .ref (q 0)), (1, .int a1)]) (own := RX5) (nm := "findWanted") rfl rfl (by decide +kernel) rfl (Nat.le_of_ble_eq_true rfl) ?_
  unfold mX5_findWanted at hm
  refine j_aload_n dX5_findWanted_0 rfl rfl ?_
  refine j_iconst (v := 0) dX5_findWanted_1 rfl (by decide) ?_
  refine m_puti (k := 13) fX5_152 dX5_findWanted_2 rfl rfl rfl ?_
  obtain ⟨V1, eV1⟩ : ∃ y, y = (jsI V 0 13 (0 : Int32)) := ⟨_, rfl⟩
  have hm := jl_of hm eV1
  rw [← eV1]
  refine j_iconst (v := 0) dX5_findWanted_5 rfl (by decide) ?_
  refine j_istore_n (i := 2) (L' := [(2, _), (0, _), (1, _)]) dX5_findWanted_6 rfl rfl (by decide) rfl ?_
  refine j_sub (L' := [(0, _), (1, _), (2, _)]) [1, 2, 0] rfl ?_
  exact tX5_findWanted_b7   _ _ _ _  hm
theorem dX5_asksBehind_0 : decode cX5_asksBehind 0 = .ok (.aload_n 0, 1) := by decide +kernel
theorem dX5_asksBehind_1 : decode cX5_asksBehind 1 = .ok (.invokevirtual 75, 3) := by decide +kernel
theorem dX5_asksBehind_4 : decode cX5_asksBehind 4 = .ok (.istore_n 3, 1) := by decide +kernel
theorem dX5_asksBehind_5 : decode cX5_asksBehind 5 = .ok (.iconst 0, 1) := by decide +kernel
theorem dX5_asksBehind_6 : decode cX5_asksBehind 6 = .ok (.istore 4, 2) := by decide +kernel
theorem dX5_asksBehind_8 : decode cX5_asksBehind 8 = .ok (.iload 4, 2) := by decide +kernel
theorem dX5_asksBehind_10 : decode cX5_asksBehind 10 = .ok (.aload_n 0, 1) := by decide +kernel
theorem dX5_asksBehind_11 : decode cX5_asksBehind 11 = .ok (.getfield 152, 3) := by decide +kernel
theorem dX5_asksBehind_14 : decode cX5_asksBehind 14 = .ok (.if_icmp .ge 35, 3) := by decide +kernel
theorem dX5_asksBehind_17 : decode cX5_asksBehind 17 = .ok (.iload_n 3, 1) := by decide +kernel
theorem dX5_asksBehind_18 : decode cX5_asksBehind 18 = .ok (.iload_n 2, 1) := by decide +kernel
theorem dX5_asksBehind_19 : decode cX5_asksBehind 19 = .ok (.iload 4, 2) := by decide +kernel
theorem dX5_asksBehind_21 : decode cX5_asksBehind 21 = .ok (.ishr, 1) := by decide +kernel
theorem dX5_asksBehind_22 : decode cX5_asksBehind 22 = .ok (.iconst 1, 1) := by decide +kernel
theorem dX5_asksBehind_23 : decode cX5_asksBehind 23 = .ok (.iand, 1) := by decide +kernel
theorem dX5_asksBehind_24 : decode cX5_asksBehind 24 = .ok (.iconst 1, 1) := by decide +kernel
theorem dX5_asksBehind_25 : decode cX5_asksBehind 25 = .ok (.if_icmp .ne 15, 3) := by decide +kernel
theorem dX5_asksBehind_28 : decode cX5_asksBehind 28 = .ok (.iconst 1, 1) := by decide +kernel
theorem dX5_asksBehind_29 : decode cX5_asksBehind 29 = .ok (.aload_n 0, 1) := by decide +kernel
theorem dX5_asksBehind_30 : decode cX5_asksBehind 30 = .ok (.getfield 35, 3) := by decide +kernel
theorem dX5_asksBehind_33 : decode cX5_asksBehind 33 = .ok (.iload 4, 2) := by decide +kernel
theorem dX5_asksBehind_35 : decode cX5_asksBehind 35 = .ok (.iaload, 1) := by decide +kernel
theorem dX5_asksBehind_36 : decode cX5_asksBehind 36 = .ok (.ishl, 1) := by decide +kernel
theorem dX5_asksBehind_37 : decode cX5_asksBehind 37 = .ok (.goto 4, 3) := by decide +kernel
theorem dX5_asksBehind_40 : decode cX5_asksBehind 40 = .ok (.iconst 0, 1) := by decide +kernel
theorem dX5_asksBehind_41 : decode cX5_asksBehind 41 = .ok (.ior, 1) := by decide +kernel
theorem dX5_asksBehind_42 : decode cX5_asksBehind 42 = .ok (.istore_n 3, 1) := by decide +kernel
theorem dX5_asksBehind_43 : decode cX5_asksBehind 43 = .ok (.iinc 4 1, 3) := by decide +kernel
theorem dX5_asksBehind_46 : decode cX5_asksBehind 46 = .ok (.goto (-38), 3) := by decide +kernel
theorem dX5_asksBehind_49 : decode cX5_asksBehind 49 = .ok (.aload_n 0, 1) := by decide +kernel
theorem dX5_asksBehind_50 : decode cX5_asksBehind 50 = .ok (.aload_n 0, 1) := by decide +kernel
theorem dX5_asksBehind_51 : decode cX5_asksBehind 51 = .ok (.getfield 35, 3) := by decide +kernel
theorem dX5_asksBehind_54 : decode cX5_asksBehind 54 = .ok (.iload_n 1, 1) := by decide +kernel
theorem dX5_asksBehind_55 : decode cX5_asksBehind 55 = .ok (.iaload, 1) := by decide +kernel
theorem dX5_asksBehind_56 : decode cX5_asksBehind 56 = .ok (.iload_n 3, 1) := by decide +kernel
theorem dX5_asksBehind_57 : decode cX5_asksBehind 57 = .ok (.invokevirtual 79, 3) := by decide +kernel
theorem dX5_asksBehind_60 : decode cX5_asksBehind 60 = .ok (.ireturn, 1) := by decide +kernel
def mX5_asksBehind_b41 (V : jMem) (k8 : Int32 → Int32 → Int32 → Int32 → Option Int32) (a1 : Int32) (a2 : Int32) (a4 : Int32) (s0 : Int32) (s1 : Int32) : Option Int32 := (k8 a1 a2 (s1 ||| s0) (a4 + (1 : Int32)))
set_option maxHeartbeats 4000000 in
set_option maxRecDepth 20000 in
theorem tX5_asksBehind_b41 {l : Launch} {Z : jZ} {q : Nat → Nat} {V : jMem} {k8 : Int32 → Int32 → Int32 → Int32 → Option Int32} {a1 : Int32} {a2 : Int32} {a4 : Int32} {s0 : Int32} {s1 : Int32} {r : Int32}   (hk8 : ∀ (a1 : Int32) (a2 : Int32) (a3 : Int32) (a4 : Int32), k8 a1 a2 a3 a4 = some r → J l Z RX5 "asksBehind" cX5_asksBehind 5 (some .int) 4 0 0 (fun r' w => r' = some (.int r) ∧ w = jw Z q V dM) 8 [(0, .ref (q 0)), (1, .int a1), (2, .int a2), (3, .int a3), (4, .int a4)] [] (jw Z q V dM) 0 0) (hm : mX5_asksBehind_b41 V k8 a1 a2 a4 s0 s1 = some r) : J l Z RX5 "asksBehind" cX5_asksBehind 5 (some .int) 4 0 0 (fun r' w => r' = some (.int r) ∧ w = jw Z q V dM) 41 [(0, .ref (q 0)), (1, .int a1), (2, .int a2), (4, .int a4)] [.int s0, .int s1] (jw Z q V dM) 0 0 := by
  unfold mX5_asksBehind_b41 at hm
  refine j_ior dX5_asksBehind_41 rfl ?_
  refine j_istore_n (i := 3) (L' := [(3, _), (0, _), (1, _), (2, _), (4, _)]) dX5_asksBehind_42 rfl rfl (by decide) rfl ?_
  refine j_iinc (v := (a4 + (1 : Int32))) (L' := [(4, _), (3, _), (0, _), (1, _), (2, _)]) dX5_asksBehind_43 rfl rfl rfl (by decide) rfl ?_
  refine j_goto (tgt := 8) dX5_asksBehind_46 (by decide) ?_
  refine j_sub (L' := [(0, _), (1, _), (2, _), (3, _), (4, _)]) [2, 3, 4, 1, 0] rfl ?_
  exact hk8 _ _ _ _  hm
def mX5_asksBehind_b8 (V : jMem)  : Nat → Int32 → Int32 → Int32 → Int32 → Option Int32
  | 0, _, _, _, _ => none
  | n + 1, a1, a2, a3, a4 => (if (V.1 0 13) ≤ a4 then (jg (jin a1 14) ((mX5_asksBy (V.1 9 (Int32.toNatClampNeg a1)) a3 V).bind (fun (r3 : Int32) => (some r3)))) else (if ((a2 >>> (a4 &&& (31 : Int32))) &&& (1 : Int32)) = (1 : Int32) then (jg (jin a4 14) (mX5_asksBehind_b41 V (mX5_asksBehind_b8 V n) a1 a2 a4 ((1 : Int32) <<< ((V.1 9 (Int32.toNatClampNeg a4)) &&& (31 : Int32))) a3)) else (mX5_asksBehind_b41 V (mX5_asksBehind_b8 V n) a1 a2 a4 (0 : Int32) a3)))
set_option maxHeartbeats 4000000 in
set_option maxRecDepth 20000 in
theorem tX5_asksBehind_b8 {l : Launch} {Z : jZ} {q : Nat → Nat} {V : jMem} {r : Int32}   (n : Nat) : ∀ (a1 : Int32) (a2 : Int32) (a3 : Int32) (a4 : Int32), mX5_asksBehind_b8 V n a1 a2 a3 a4 = some r → J l Z RX5 "asksBehind" cX5_asksBehind 5 (some .int) 4 0 0 (fun r' w => r' = some (.int r) ∧ w = jw Z q V dM) 8 [(0, .ref (q 0)), (1, .int a1), (2, .int a2), (3, .int a3), (4, .int a4)] [] (jw Z q V dM) 0 0 := by
  induction n with
  | zero => intro a1 a2 a3 a4 hm; cases hm
  | succ n ih =>
    intro a1 a2 a3 a4 hm
    rw [mX5_asksBehind_b8] at hm
    refine j_iload dX5_asksBehind_8 rfl rfl ?_
    refine j_aload_n dX5_asksBehind_10 rfl rfl ?_
    refine m_geti (k := 13) fX5_152 dX5_asksBehind_11 rfl rfl rfl ?_
    refine j_icmp_ge (tgt := 49) dX5_asksBehind_14 rfl (by decide) (fun c1 => ?_) (fun c1 => ?_)
    · have hm := jif_pos c1 hm
      refine j_aload_n dX5_asksBehind_49 rfl rfl ?_
      refine j_aload_n dX5_asksBehind_50 rfl rfl ?_
      refine m_getr (k := 12) (r := 9) fX5_35 dX5_asksBehind_51 rfl rfl rfl ?_
      refine j_iload_n dX5_asksBehind_54 rfl rfl ?_
      obtain ⟨g2, hm⟩ := jg_of hm
      refine o_iald (k := (Int32.toNatClampNeg a1)) rfl dX5_asksBehind_55 rfl rfl (jin_vp g2) ?_
      refine j_iload_n dX5_asksBehind_56 rfl rfl ?_
      obtain ⟨r3, er3, hm⟩ := jb_of hm
      refine o_callV_i kX5_79 dX5_asksBehind_57 rfl (tX5_asksBy  er3) rfl rfl rfl rfl rfl (Nat.le_of_ble_eq_true rfl) (by decide) ?_
      exact j_ireturn dX5_asksBehind_60 rfl rfl ⟨Nat.le_refl _, Nat.le_refl _⟩ (jf_p (fun z => .int z) hm)
    · have hm := jif_neg c1 hm
      refine j_iload_n dX5_asksBehind_17 rfl rfl ?_
      refine j_iload_n dX5_asksBehind_18 rfl rfl ?_
      refine j_iload dX5_asksBehind_19 rfl rfl ?_
      refine j_ishr dX5_asksBehind_21 rfl ?_
      refine j_iconst (v := 1) dX5_asksBehind_22 rfl (by decide) ?_
      refine j_iand dX5_asksBehind_23 rfl ?_
      refine j_iconst (v := 1) dX5_asksBehind_24 rfl (by decide) ?_
      refine j_icmp_ne (tgt := 40) dX5_asksBehind_25 rfl (by decide) (fun c4 => ?_) (fun c4 => ?_)
      · have hm := jif_neg c4 hm
        refine j_iconst (v := 0) dX5_asksBehind_40 rfl (by decide) ?_
        refine j_sub (L' := [(0, _), (1, _), (2, _), (4, _)]) [0, 1, 2, 4] rfl ?_
        exact tX5_asksBehind_b41   ih hm
      · have hm := jif_pos c4 hm
        refine j_iconst (v := 1) dX5_asksBehind_28 rfl (by decide) ?_
        refine j_aload_n dX5_asksBehind_29 rfl rfl ?_
        refine m_getr (k := 12) (r := 9) fX5_35 dX5_asksBehind_30 rfl rfl rfl ?_
        refine j_iload dX5_asksBehind_33 rfl rfl ?_
        obtain ⟨g5, hm⟩ := jg_of hm
        refine o_iald (k := (Int32.toNatClampNeg a4)) rfl dX5_asksBehind_35 rfl rfl (jin_vp g5) ?_
        refine j_ishl dX5_asksBehind_36 rfl ?_
        refine j_goto (tgt := 41) dX5_asksBehind_37 (by decide) ?_
        refine j_sub (L' := [(0, _), (1, _), (2, _), (4, _)]) [0, 1, 2, 4] rfl ?_
        exact tX5_asksBehind_b41   ih hm
def mX5_asksBehind (a1 : Int32) (a2 : Int32) (V : jMem) : Option Int32 := ((mX5_ours V).bind (fun (r1 : Int32) => (mX5_asksBehind_b8 V 2000 a1 a2 r1 (0 : Int32))))
set_option maxHeartbeats 4000000 in
set_option maxRecDepth 20000 in
theorem tX5_asksBehind {l : Launch} {Z : jZ} {q : Nat → Nat} {a1 : Int32} {a2 : Int32} {V : jMem} {r : Int32}  (hm : mX5_asksBehind a1 a2 V = some r) : CtD l Z yX5_asksBehind cX5_asksBehind 5 (some .int) 4 q dM [.ref (q 0), .int a1, .int a2] V (some (.int r)) V := by
  refine Ct_of (L := [(0, .ref (q 0)), (1, .int a1), (2, .int a2)]) (own := RX5) (nm := "asksBehind") rfl rfl (by decide +kernel) rfl (Nat.le_of_ble_eq_true rfl) ?_
  unfold mX5_asksBehind at hm
  refine j_aload_n dX5_asksBehind_0 rfl rfl ?_
  obtain ⟨r1, er1, hm⟩ := jb_of hm
  refine o_callV_i kX5_75 dX5_asksBehind_1 rfl (tX5_ours  er1) rfl rfl rfl rfl rfl (Nat.le_of_ble_eq_true rfl) (by decide) ?_
  refine j_istore_n (i := 3) (L' := [(3, _), (0, _), (1, _), (2, _)]) dX5_asksBehind_4 rfl rfl (by decide) rfl ?_
  refine j_iconst (v := 0) dX5_asksBehind_5 rfl (by decide) ?_
  refine j_istore (L' := [(4, _), (3, _), (0, _), (1, _), (2, _)]) dX5_asksBehind_6 rfl (by decide) rfl ?_
  refine j_sub (L' := [(0, _), (1, _), (2, _), (3, _), (4, _)]) [2, 3, 4, 1, 0] rfl ?_
  exact tX5_asksBehind_b8   _ _ _ _ _  hm
theorem dX5_findLeast_0 : decode cX5_findLeast 0 = .ok (.iconst 1, 1) := by decide +kernel
theorem dX5_findLeast_1 : decode cX5_findLeast 1 = .ok (.aload_n 0, 1) := by decide +kernel
theorem dX5_findLeast_2 : decode cX5_findLeast 2 = .ok (.getfield 152, 3) := by decide +kernel
theorem dX5_findLeast_5 : decode cX5_findLeast 5 = .ok (.ishl, 1) := by decide +kernel
theorem dX5_findLeast_6 : decode cX5_findLeast 6 = .ok (.iconst 1, 1) := by decide +kernel
theorem dX5_findLeast_7 : decode cX5_findLeast 7 = .ok (.isub, 1) := by decide +kernel
theorem dX5_findLeast_8 : decode cX5_findLeast 8 = .ok (.istore_n 1, 1) := by decide +kernel
theorem dX5_findLeast_9 : decode cX5_findLeast 9 = .ok (.aload_n 0, 1) := by decide +kernel
theorem dX5_findLeast_10 : decode cX5_findLeast 10 = .ok (.getfield 38, 3) := by decide +kernel
theorem dX5_findLeast_13 : decode cX5_findLeast 13 = .ok (.iload_n 1, 1) := by decide +kernel
theorem dX5_findLeast_14 : decode cX5_findLeast 14 = .ok (.iconst 0, 1) := by decide +kernel
theorem dX5_findLeast_15 : decode cX5_findLeast 15 = .ok (.iastore, 1) := by decide +kernel
theorem dX5_findLeast_16 : decode cX5_findLeast 16 = .ok (.iload_n 1, 1) := by decide +kernel
theorem dX5_findLeast_17 : decode cX5_findLeast 17 = .ok (.iconst 1, 1) := by decide +kernel
theorem dX5_findLeast_18 : decode cX5_findLeast 18 = .ok (.isub, 1) := by decide +kernel
theorem dX5_findLeast_19 : decode cX5_findLeast 19 = .ok (.istore_n 2, 1) := by decide +kernel
theorem dX5_findLeast_20 : decode cX5_findLeast 20 = .ok (.iload_n 2, 1) := by decide +kernel
theorem dX5_findLeast_21 : decode cX5_findLeast 21 = .ok (.ifCond .lt 83, 3) := by decide +kernel
theorem dX5_findLeast_24 : decode cX5_findLeast 24 = .ok (.iconst (-1), 1) := by decide +kernel
theorem dX5_findLeast_25 : decode cX5_findLeast 25 = .ok (.istore_n 3, 1) := by decide +kernel
theorem dX5_findLeast_26 : decode cX5_findLeast 26 = .ok (.iconst 0, 1) := by decide +kernel
theorem dX5_findLeast_27 : decode cX5_findLeast 27 = .ok (.istore 4, 2) := by decide +kernel
theorem dX5_findLeast_29 : decode cX5_findLeast 29 = .ok (.iload 4, 2) := by decide +kernel
theorem dX5_findLeast_31 : decode cX5_findLeast 31 = .ok (.aload_n 0, 1) := by decide +kernel
theorem dX5_findLeast_32 : decode cX5_findLeast 32 = .ok (.getfield 152, 3) := by decide +kernel
theorem dX5_findLeast_35 : decode cX5_findLeast 35 = .ok (.if_icmp .ge 56, 3) := by decide +kernel
theorem dX5_findLeast_38 : decode cX5_findLeast 38 = .ok (.iload_n 2, 1) := by decide +kernel
theorem dX5_findLeast_39 : decode cX5_findLeast 39 = .ok (.iload 4, 2) := by decide +kernel
theorem dX5_findLeast_41 : decode cX5_findLeast 41 = .ok (.ishr, 1) := by decide +kernel
theorem dX5_findLeast_42 : decode cX5_findLeast 42 = .ok (.iconst 1, 1) := by decide +kernel
theorem dX5_findLeast_43 : decode cX5_findLeast 43 = .ok (.iand, 1) := by decide +kernel
theorem dX5_findLeast_44 : decode cX5_findLeast 44 = .ok (.ifCond .ne 41, 3) := by decide +kernel
theorem dX5_findLeast_47 : decode cX5_findLeast 47 = .ok (.aload_n 0, 1) := by decide +kernel
theorem dX5_findLeast_48 : decode cX5_findLeast 48 = .ok (.iload 4, 2) := by decide +kernel
theorem dX5_findLeast_50 : decode cX5_findLeast 50 = .ok (.iload_n 2, 1) := by decide +kernel
theorem dX5_findLeast_51 : decode cX5_findLeast 51 = .ok (.invokevirtual 156, 3) := by decide +kernel
theorem dX5_findLeast_54 : decode cX5_findLeast 54 = .ok (.aload_n 0, 1) := by decide +kernel
theorem dX5_findLeast_55 : decode cX5_findLeast 55 = .ok (.getfield 38, 3) := by decide +kernel
theorem dX5_findLeast_58 : decode cX5_findLeast 58 = .ok (.iload_n 2, 1) := by decide +kernel
theorem dX5_findLeast_59 : decode cX5_findLeast 59 = .ok (.iconst 1, 1) := by decide +kernel
theorem dX5_findLeast_60 : decode cX5_findLeast 60 = .ok (.iload 4, 2) := by decide +kernel
theorem dX5_findLeast_62 : decode cX5_findLeast 62 = .ok (.ishl, 1) := by decide +kernel
theorem dX5_findLeast_63 : decode cX5_findLeast 63 = .ok (.ior, 1) := by decide +kernel
theorem dX5_findLeast_64 : decode cX5_findLeast 64 = .ok (.iaload, 1) := by decide +kernel
theorem dX5_findLeast_65 : decode cX5_findLeast 65 = .ok (.iadd, 1) := by decide +kernel
theorem dX5_findLeast_66 : decode cX5_findLeast 66 = .ok (.istore 5, 2) := by decide +kernel
theorem dX5_findLeast_68 : decode cX5_findLeast 68 = .ok (.iload_n 3, 1) := by decide +kernel
theorem dX5_findLeast_69 : decode cX5_findLeast 69 = .ok (.ifCond .lt 9, 3) := by decide +kernel
theorem dX5_findLeast_72 : decode cX5_findLeast 72 = .ok (.iload 5, 2) := by decide +kernel
theorem dX5_findLeast_74 : decode cX5_findLeast 74 = .ok (.iload_n 3, 1) := by decide +kernel
theorem dX5_findLeast_75 : decode cX5_findLeast 75 = .ok (.if_icmp .ge 8, 3) := by decide +kernel
theorem dX5_findLeast_78 : decode cX5_findLeast 78 = .ok (.iload 5, 2) := by decide +kernel
theorem dX5_findLeast_80 : decode cX5_findLeast 80 = .ok (.goto 4, 3) := by decide +kernel
theorem dX5_findLeast_83 : decode cX5_findLeast 83 = .ok (.iload_n 3, 1) := by decide +kernel
theorem dX5_findLeast_84 : decode cX5_findLeast 84 = .ok (.istore_n 3, 1) := by decide +kernel
theorem dX5_findLeast_85 : decode cX5_findLeast 85 = .ok (.iinc 4 1, 3) := by decide +kernel
theorem dX5_findLeast_88 : decode cX5_findLeast 88 = .ok (.goto (-59), 3) := by decide +kernel
theorem dX5_findLeast_91 : decode cX5_findLeast 91 = .ok (.aload_n 0, 1) := by decide +kernel
theorem dX5_findLeast_92 : decode cX5_findLeast 92 = .ok (.getfield 38, 3) := by decide +kernel
theorem dX5_findLeast_95 : decode cX5_findLeast 95 = .ok (.iload_n 2, 1) := by decide +kernel
theorem dX5_findLeast_96 : decode cX5_findLeast 96 = .ok (.iload_n 3, 1) := by decide +kernel
theorem dX5_findLeast_97 : decode cX5_findLeast 97 = .ok (.iastore, 1) := by decide +kernel
theorem dX5_findLeast_98 : decode cX5_findLeast 98 = .ok (.iinc 2 (-1), 3) := by decide +kernel
theorem dX5_findLeast_101 : decode cX5_findLeast 101 = .ok (.goto (-81), 3) := by decide +kernel
theorem dX5_findLeast_104 : decode cX5_findLeast 104 = .ok (.aload_n 0, 1) := by decide +kernel
theorem dX5_findLeast_105 : decode cX5_findLeast 105 = .ok (.getfield 38, 3) := by decide +kernel
theorem dX5_findLeast_108 : decode cX5_findLeast 108 = .ok (.iconst 0, 1) := by decide +kernel
theorem dX5_findLeast_109 : decode cX5_findLeast 109 = .ok (.iaload, 1) := by decide +kernel
theorem dX5_findLeast_110 : decode cX5_findLeast 110 = .ok (.ireturn, 1) := by decide +kernel
def mX5_findLeast_b85  (k20 : Int32 → jMem → Option (Int32 × jMem)) (k29 : Int32 → Int32 → Int32 → jMem → Option (Int32 × jMem)) (a2 : Int32) (a3 : Int32) (a4 : Int32) (V : jMem) : Option (Int32 × jMem) := (k29 a2 a3 (a4 + (1 : Int32)) V)
set_option maxHeartbeats 4000000 in
set_option maxRecDepth 20000 in
theorem tX5_findLeast_b85 {l : Launch} {Z : jZ} {q : Nat → Nat} {k20 : Int32 → jMem → Option (Int32 × jMem)} {k29 : Int32 → Int32 → Int32 → jMem → Option (Int32 × jMem)} {a2 : Int32} {a3 : Int32} {a4 : Int32} {V : jMem} {r : Int32} {V' : jMem}   (hk20 : ∀ (a2 : Int32) (V : jMem), k20 a2 V = some (r, V') → J l Z RX5 "findLeast" cX5_findLeast 6 (some .int) 5 0 0 (fun r' w => r' = some (.int r) ∧ w = jw Z q V' dM) 20 [(0, .ref (q 0)), (2, .int a2)] [] (jw Z q V dM) 0 0) (hk29 : ∀ (a2 : Int32) (a3 : Int32) (a4 : Int32) (V : jMem), k29 a2 a3 a4 V = some (r, V') → J l Z RX5 "findLeast" cX5_findLeast 6 (some .int) 5 0 0 (fun r' w => r' = some (.int r) ∧ w = jw Z q V' dM) 29 [(0, .ref (q 0)), (2, .int a2), (3, .int a3), (4, .int a4)] [] (jw Z q V dM) 0 0) (hm : mX5_findLeast_b85 k20 k29 a2 a3 a4 V = some (r, V')) : J l Z RX5 "findLeast" cX5_findLeast 6 (some .int) 5 0 0 (fun r' w => r' = some (.int r) ∧ w = jw Z q V' dM) 85 [(0, .ref (q 0)), (2, .int a2), (3, .int a3), (4, .int a4)] [] (jw Z q V dM) 0 0 := by
  unfold mX5_findLeast_b85 at hm
  refine j_iinc (v := (a4 + (1 : Int32))) (L' := [(4, _), (0, _), (2, _), (3, _)]) dX5_findLeast_85 rfl rfl rfl (by decide) rfl ?_
  refine j_goto (tgt := 29) dX5_findLeast_88 (by decide) ?_
  refine j_sub (L' := [(0, _), (2, _), (3, _), (4, _)]) [1, 2, 3, 0] rfl ?_
  exact hk29 _ _ _ _  hm
def mX5_findLeast_b84  (k20 : Int32 → jMem → Option (Int32 × jMem)) (k29 : Int32 → Int32 → Int32 → jMem → Option (Int32 × jMem)) (a2 : Int32) (a4 : Int32) (s0 : Int32) (V : jMem) : Option (Int32 × jMem) := (mX5_findLeast_b85 k20 k29 a2 s0 a4 V)
set_option maxHeartbeats 4000000 in
set_option maxRecDepth 20000 in
theorem tX5_findLeast_b84 {l : Launch} {Z : jZ} {q : Nat → Nat} {k20 : Int32 → jMem → Option (Int32 × jMem)} {k29 : Int32 → Int32 → Int32 → jMem → Option (Int32 × jMem)} {a2 : Int32} {a4 : Int32} {s0 : Int32} {V : jMem} {r : Int32} {V' : jMem}   (hk20 : ∀ (a2 : Int32) (V : jMem), k20 a2 V = some (r, V') → J l Z RX5 "findLeast" cX5_findLeast 6 (some .int) 5 0 0 (fun r' w => r' = some (.int r) ∧ w = jw Z q V' dM) 20 [(0, .ref (q 0)), (2, .int a2)] [] (jw Z q V dM) 0 0) (hk29 : ∀ (a2 : Int32) (a3 : Int32) (a4 : Int32) (V : jMem), k29 a2 a3 a4 V = some (r, V') → J l Z RX5 "findLeast" cX5_findLeast 6 (some .int) 5 0 0 (fun r' w => r' = some (.int r) ∧ w = jw Z q V' dM) 29 [(0, .ref (q 0)), (2, .int a2), (3, .int a3), (4, .int a4)] [] (jw Z q V dM) 0 0) (hm : mX5_findLeast_b84 k20 k29 a2 a4 s0 V = some (r, V')) : J l Z RX5 "findLeast" cX5_findLeast 6 (some .int) 5 0 0 (fun r' w => r' = some (.int r) ∧ w = jw Z q V' dM) 84 [(0, .ref (q 0)), (2, .int a2), (4, .int a4)] [.int s0] (jw Z q V dM) 0 0 := by
  unfold mX5_findLeast_b84 at hm
  refine j_istore_n (i := 3) (L' := [(3, _), (0, _), (2, _), (4, _)]) dX5_findLeast_84 rfl rfl (by decide) rfl ?_
  refine j_sub (L' := [(0, _), (2, _), (3, _), (4, _)]) [1, 2, 0, 3] rfl ?_
  exact tX5_findLeast_b85   hk20 hk29 hm
def mX5_findLeast_b78  (k20 : Int32 → jMem → Option (Int32 × jMem)) (k29 : Int32 → Int32 → Int32 → jMem → Option (Int32 × jMem)) (a2 : Int32) (a4 : Int32) (a5 : Int32) (V : jMem) : Option (Int32 × jMem) := (mX5_findLeast_b84 k20 k29 a2 a4 a5 V)
set_option maxHeartbeats 4000000 in
set_option maxRecDepth 20000 in
theorem tX5_findLeast_b78 {l : Launch} {Z : jZ} {q : Nat → Nat} {k20 : Int32 → jMem → Option (Int32 × jMem)} {k29 : Int32 → Int32 → Int32 → jMem → Option (Int32 × jMem)} {a2 : Int32} {a4 : Int32} {a5 : Int32} {V : jMem} {r : Int32} {V' : jMem}   (hk20 : ∀ (a2 : Int32) (V : jMem), k20 a2 V = some (r, V') → J l Z RX5 "findLeast" cX5_findLeast 6 (some .int) 5 0 0 (fun r' w => r' = some (.int r) ∧ w = jw Z q V' dM) 20 [(0, .ref (q 0)), (2, .int a2)] [] (jw Z q V dM) 0 0) (hk29 : ∀ (a2 : Int32) (a3 : Int32) (a4 : Int32) (V : jMem), k29 a2 a3 a4 V = some (r, V') → J l Z RX5 "findLeast" cX5_findLeast 6 (some .int) 5 0 0 (fun r' w => r' = some (.int r) ∧ w = jw Z q V' dM) 29 [(0, .ref (q 0)), (2, .int a2), (3, .int a3), (4, .int a4)] [] (jw Z q V dM) 0 0) (hm : mX5_findLeast_b78 k20 k29 a2 a4 a5 V = some (r, V')) : J l Z RX5 "findLeast" cX5_findLeast 6 (some .int) 5 0 0 (fun r' w => r' = some (.int r) ∧ w = jw Z q V' dM) 78 [(0, .ref (q 0)), (2, .int a2), (4, .int a4), (5, .int a5)] [] (jw Z q V dM) 0 0 := by
  unfold mX5_findLeast_b78 at hm
  refine j_iload dX5_findLeast_78 rfl rfl ?_
  refine j_goto (tgt := 84) dX5_findLeast_80 (by decide) ?_
  refine j_sub (L' := [(0, _), (2, _), (4, _)]) [0, 1, 2] rfl ?_
  exact tX5_findLeast_b84   hk20 hk29 hm
def mX5_findLeast_b29  (k20 : Int32 → jMem → Option (Int32 × jMem)) : Nat → Int32 → Int32 → Int32 → jMem → Option (Int32 × jMem)
  | 0, _, _, _, _ => none
  | n + 1, a2, a3, a4, V => (if (V.1 0 13) ≤ a4 then (jg (jin a2 1024) (jl (jsI V 10 (Int32.toNatClampNeg a2) a3) (fun (V3 : jMem) => (k20 (a2 + (-1 : Int32)) V3)))) else (if ((a2 >>> (a4 &&& (31 : Int32))) &&& (1 : Int32)) = (0 : Int32) then ((mX5_asksBehind a4 a2 V).bind (fun (r5 : Int32) => (jg (jin (a2 ||| ((1 : Int32) <<< (a4 &&& (31 : Int32)))) 1024) (jl (r5 + (V.1 10 (Int32.toNatClampNeg (a2 ||| ((1 : Int32) <<< (a4 &&& (31 : Int32))))))) (fun (v7 : Int32) => (if a3 < (0 : Int32) then (mX5_findLeast_b78 k20 (mX5_findLeast_b29 k20 n) a2 a4 v7 V) else (if a3 ≤ v7 then (mX5_findLeast_b84 k20 (mX5_findLeast_b29 k20 n) a2 a4 a3 V) else (mX5_findLeast_b78 k20 (mX5_findLeast_b29 k20 n) a2 a4 v7 V)))))))) else (mX5_findLeast_b85 k20 (mX5_findLeast_b29 k20 n) a2 a3 a4 V)))
set_option maxHeartbeats 4000000 in
set_option maxRecDepth 20000 in
theorem tX5_findLeast_b29 {l : Launch} {Z : jZ} {q : Nat → Nat} {k20 : Int32 → jMem → Option (Int32 × jMem)} {r : Int32} {V' : jMem}  (hk20 : ∀ (a2 : Int32) (V : jMem), k20 a2 V = some (r, V') → J l Z RX5 "findLeast" cX5_findLeast 6 (some .int) 5 0 0 (fun r' w => r' = some (.int r) ∧ w = jw Z q V' dM) 20 [(0, .ref (q 0)), (2, .int a2)] [] (jw Z q V dM) 0 0) (n : Nat) : ∀ (a2 : Int32) (a3 : Int32) (a4 : Int32) (V : jMem), mX5_findLeast_b29 k20 n a2 a3 a4 V = some (r, V') → J l Z RX5 "findLeast" cX5_findLeast 6 (some .int) 5 0 0 (fun r' w => r' = some (.int r) ∧ w = jw Z q V' dM) 29 [(0, .ref (q 0)), (2, .int a2), (3, .int a3), (4, .int a4)] [] (jw Z q V dM) 0 0 := by
  induction n with
  | zero => intro a2 a3 a4 V hm; cases hm
  | succ n ih =>
    intro a2 a3 a4 V hm
    rw [mX5_findLeast_b29] at hm
    refine j_iload dX5_findLeast_29 rfl rfl ?_
    refine j_aload_n dX5_findLeast_31 rfl rfl ?_
    refine m_geti (k := 13) fX5_152 dX5_findLeast_32 rfl rfl rfl ?_
    refine j_icmp_ge (tgt := 91) dX5_findLeast_35 rfl (by decide) (fun c1 => ?_) (fun c1 => ?_)
    · have hm := jif_pos c1 hm
      refine j_aload_n dX5_findLeast_91 rfl rfl ?_
      refine m_getr (k := 14) (r := 10) fX5_38 dX5_findLeast_92 rfl rfl rfl ?_
      refine j_iload_n dX5_findLeast_95 rfl rfl ?_
      refine j_iload_n dX5_findLeast_96 rfl rfl ?_
      obtain ⟨g2, hm⟩ := jg_of hm
      refine o_iast (k := (Int32.toNatClampNeg a2)) rfl dX5_findLeast_97 rfl rfl (jin_vp g2) ?_
      obtain ⟨V3, eV3⟩ : ∃ y, y = (jsI V 10 (Int32.toNatClampNeg a2) a3) := ⟨_, rfl⟩
      have hm := jl_of hm eV3
      rw [← eV3]
      refine j_iinc (v := (a2 + (-1 : Int32))) (L' := [(2, _), (0, _), (3, _), (4, _)]) dX5_findLeast_98 rfl rfl rfl (by decide) rfl ?_
      refine j_goto (tgt := 20) dX5_findLeast_101 (by decide) ?_
      refine j_sub (L' := [(0, _), (2, _)]) [1, 0] rfl ?_
      exact hk20 _ _  hm
    · have hm := jif_neg c1 hm
      refine j_iload_n dX5_findLeast_38 rfl rfl ?_
      refine j_iload dX5_findLeast_39 rfl rfl ?_
      refine j_ishr dX5_findLeast_41 rfl ?_
      refine j_iconst (v := 1) dX5_findLeast_42 rfl (by decide) ?_
      refine j_iand dX5_findLeast_43 rfl ?_
      refine j_if_ne (tgt := 85) dX5_findLeast_44 rfl (by decide) (fun c4 => ?_) (fun c4 => ?_)
      · have hm := jif_neg c4 hm
        exact tX5_findLeast_b85   hk20 ih hm
      · have hm := jif_pos c4 hm
        refine j_aload_n dX5_findLeast_47 rfl rfl ?_
        refine j_iload dX5_findLeast_48 rfl rfl ?_
        refine j_iload_n dX5_findLeast_50 rfl rfl ?_
        obtain ⟨r5, er5, hm⟩ := jb_of hm
        refine o_callV_i kX5_156 dX5_findLeast_51 rfl (tX5_asksBehind  er5) rfl rfl rfl rfl rfl (Nat.le_of_ble_eq_true rfl) (by decide) ?_
        refine j_aload_n dX5_findLeast_54 rfl rfl ?_
        refine m_getr (k := 14) (r := 10) fX5_38 dX5_findLeast_55 rfl rfl rfl ?_
        refine j_iload_n dX5_findLeast_58 rfl rfl ?_
        refine j_iconst (v := 1) dX5_findLeast_59 rfl (by decide) ?_
        refine j_iload dX5_findLeast_60 rfl rfl ?_
        refine j_ishl dX5_findLeast_62 rfl ?_
        refine j_ior dX5_findLeast_63 rfl ?_
        obtain ⟨g6, hm⟩ := jg_of hm
        refine o_iald (k := (Int32.toNatClampNeg (a2 ||| ((1 : Int32) <<< (a4 &&& (31 : Int32)))))) rfl dX5_findLeast_64 rfl rfl (jin_vp g6) ?_
        refine j_iadd dX5_findLeast_65 rfl ?_
        obtain ⟨v7, ev7⟩ : ∃ y, y = ((r5 + (V.1 10 (Int32.toNatClampNeg (a2 ||| ((1 : Int32) <<< (a4 &&& (31 : Int32))))))) : Int32) := ⟨_, rfl⟩
        have hm := jl_of hm ev7
        rw [← ev7]
        refine j_istore (L' := [(5, _), (0, _), (2, _), (3, _), (4, _)]) dX5_findLeast_66 rfl (by decide) rfl ?_
        refine j_iload_n dX5_findLeast_68 rfl rfl ?_
        refine j_if_lt (tgt := 78) dX5_findLeast_69 rfl (by decide) (fun c8 => ?_) (fun c8 => ?_)
        · have hm := jif_pos c8 hm
          refine j_sub (L' := [(0, _), (2, _), (4, _), (5, _)]) [1, 2, 4, 0] rfl ?_
          exact tX5_findLeast_b78   hk20 ih hm
        · have hm := jif_neg c8 hm
          refine j_iload dX5_findLeast_72 rfl rfl ?_
          refine j_iload_n dX5_findLeast_74 rfl rfl ?_
          refine j_icmp_ge (tgt := 83) dX5_findLeast_75 rfl (by decide) (fun c9 => ?_) (fun c9 => ?_)
          · have hm := jif_pos c9 hm
            refine j_iload_n dX5_findLeast_83 rfl rfl ?_
            refine j_sub (L' := [(0, _), (2, _), (4, _)]) [1, 2, 4] rfl ?_
            exact tX5_findLeast_b84   hk20 ih hm
          · have hm := jif_neg c9 hm
            refine j_sub (L' := [(0, _), (2, _), (4, _), (5, _)]) [1, 2, 4, 0] rfl ?_
            exact tX5_findLeast_b78   hk20 ih hm
def mX5_findLeast_b20   : Nat → Int32 → jMem → Option (Int32 × jMem)
  | 0, _, _ => none
  | n + 1, a2, V => (if a2 < (0 : Int32) then (some ((V.1 10 0), V)) else (mX5_findLeast_b29 (mX5_findLeast_b20 n) 2000 a2 (-1 : Int32) (0 : Int32) V))
set_option maxHeartbeats 4000000 in
set_option maxRecDepth 20000 in
theorem tX5_findLeast_b20 {l : Launch} {Z : jZ} {q : Nat → Nat}  {r : Int32} {V' : jMem}   (n : Nat) : ∀ (a2 : Int32) (V : jMem), mX5_findLeast_b20 n a2 V = some (r, V') → J l Z RX5 "findLeast" cX5_findLeast 6 (some .int) 5 0 0 (fun r' w => r' = some (.int r) ∧ w = jw Z q V' dM) 20 [(0, .ref (q 0)), (2, .int a2)] [] (jw Z q V dM) 0 0 := by
  induction n with
  | zero => intro a2 V hm; cases hm
  | succ n ih =>
    intro a2 V hm
    rw [mX5_findLeast_b20] at hm
    refine j_iload_n dX5_findLeast_20 rfl rfl ?_
    refine j_if_lt (tgt := 104) dX5_findLeast_21 rfl (by decide) (fun c1 => ?_) (fun c1 => ?_)
    · have hm := jif_pos c1 hm
      refine j_aload_n dX5_findLeast_104 rfl rfl ?_
      refine m_getr (k := 14) (r := 10) fX5_38 dX5_findLeast_105 rfl rfl rfl ?_
      refine j_iconst (v := 0) dX5_findLeast_108 rfl (by decide) ?_
      refine o_iald (k := 0) (by decide) dX5_findLeast_109 rfl rfl (jin_vp (by decide)) ?_
      exact j_ireturn dX5_findLeast_110 rfl rfl ⟨Nat.le_refl _, Nat.le_refl _⟩ (jf_m (fun z => .int z) hm)
    · have hm := jif_neg c1 hm
      refine j_iconst (v := -1) dX5_findLeast_24 rfl (by decide) ?_
      refine j_istore_n (i := 3) (L' := [(3, _), (0, _), (2, _)]) dX5_findLeast_25 rfl rfl (by decide) rfl ?_
      refine j_iconst (v := 0) dX5_findLeast_26 rfl (by decide) ?_
      refine j_istore (L' := [(4, _), (3, _), (0, _), (2, _)]) dX5_findLeast_27 rfl (by decide) rfl ?_
      refine j_sub (L' := [(0, _), (2, _), (3, _), (4, _)]) [2, 3, 1, 0] rfl ?_
      exact tX5_findLeast_b29  ih _ _ _ _ _  hm
def mX5_findLeast (V : jMem) : Option (Int32 × jMem) := (jl (((1 : Int32) <<< ((V.1 0 13) &&& (31 : Int32))) - (1 : Int32)) (fun (v1 : Int32) => (jg (jin v1 1024) (jl (jsI V 10 (Int32.toNatClampNeg v1) (0 : Int32)) (fun (V3 : jMem) => (mX5_findLeast_b20 2000 (v1 - (1 : Int32)) V3))))))
set_option maxHeartbeats 4000000 in
set_option maxRecDepth 20000 in
theorem tX5_findLeast {l : Launch} {Z : jZ} {q : Nat → Nat} {V : jMem} {r : Int32} {V' : jMem}  (hm : mX5_findLeast V = some (r, V')) : CtD l Z yX5_findLeast cX5_findLeast 6 (some .int) 5 q dM [.ref (q 0)] V (some (.int r)) V' := by
  refine Ct_of (L := [(0, .ref (q 0))]) (own := RX5) (nm := "findLeast") rfl rfl (by decide +kernel) rfl (Nat.le_of_ble_eq_true rfl) ?_
  unfold mX5_findLeast at hm
  refine j_iconst (v := 1) dX5_findLeast_0 rfl (by decide) ?_
  refine j_aload_n dX5_findLeast_1 rfl rfl ?_
  refine m_geti (k := 13) fX5_152 dX5_findLeast_2 rfl rfl rfl ?_
  refine j_ishl dX5_findLeast_5 rfl ?_
  refine j_iconst (v := 1) dX5_findLeast_6 rfl (by decide) ?_
  refine j_isub dX5_findLeast_7 rfl ?_
  obtain ⟨v1, ev1⟩ : ∃ y, y = ((((1 : Int32) <<< ((V.1 0 13) &&& (31 : Int32))) - (1 : Int32)) : Int32) := ⟨_, rfl⟩
  have hm := jl_of hm ev1
  rw [← ev1]
  refine j_istore_n (i := 1) (L' := [(1, _), (0, _)]) dX5_findLeast_8 rfl rfl (by decide) rfl ?_
  refine j_aload_n dX5_findLeast_9 rfl rfl ?_
  refine m_getr (k := 14) (r := 10) fX5_38 dX5_findLeast_10 rfl rfl rfl ?_
  refine j_iload_n dX5_findLeast_13 rfl rfl ?_
  refine j_iconst (v := 0) dX5_findLeast_14 rfl (by decide) ?_
  obtain ⟨g2, hm⟩ := jg_of hm
  refine o_iast (k := (Int32.toNatClampNeg v1)) rfl dX5_findLeast_15 rfl rfl (jin_vp g2) ?_
  obtain ⟨V3, eV3⟩ : ∃ y, y = (jsI V 10 (Int32.toNatClampNeg v1) (0 : Int32)) := ⟨_, rfl⟩
  have hm := jl_of hm eV3
  rw [← eV3]
  refine j_iload_n dX5_findLeast_16 rfl rfl ?_
  refine j_iconst (v := 1) dX5_findLeast_17 rfl (by decide) ?_
  refine j_isub dX5_findLeast_18 rfl ?_
  refine j_istore_n (i := 2) (L' := [(2, _), (1, _), (0, _)]) dX5_findLeast_19 rfl rfl (by decide) rfl ?_
  refine j_sub (L' := [(0, _), (2, _)]) [2, 0] rfl ?_
  exact tX5_findLeast_b20   _ _ _  hm
theorem dX5_least_0 : decode cX5_least 0 = .ok (.aload_n 0, 1) := by decide +kernel
theorem dX5_least_1 : decode cX5_least 1 = .ok (.iload_n 1, 1) := by decide +kernel
theorem dX5_least_2 : decode cX5_least 2 = .ok (.invokevirtual 141, 3) := by decide +kernel
theorem dX5_least_5 : decode cX5_least 5 = .ok (.ifCond .ne 10, 3) := by decide +kernel
theorem dX5_least_8 : decode cX5_least 8 = .ok (.aload_n 0, 1) := by decide +kernel
theorem dX5_least_9 : decode cX5_least 9 = .ok (.ldc 44, 2) := by decide +kernel
theorem dX5_least_11 : decode cX5_least 11 = .ok (.invokevirtual 60, 3) := by decide +kernel
theorem dX5_least_14 : decode cX5_least 14 = .ok (.ireturn, 1) := by decide +kernel
theorem dX5_least_15 : decode cX5_least 15 = .ok (.aload_n 0, 1) := by decide +kernel
theorem dX5_least_16 : decode cX5_least 16 = .ok (.iload_n 1, 1) := by decide +kernel
theorem dX5_least_17 : decode cX5_least 17 = .ok (.invokevirtual 149, 3) := by decide +kernel
theorem dX5_least_20 : decode cX5_least 20 = .ok (.ifCond .ne 10, 3) := by decide +kernel
theorem dX5_least_23 : decode cX5_least 23 = .ok (.aload_n 0, 1) := by decide +kernel
theorem dX5_least_24 : decode cX5_least 24 = .ok (.ldc 114, 2) := by decide +kernel
theorem dX5_least_26 : decode cX5_least 26 = .ok (.invokevirtual 60, 3) := by decide +kernel
theorem dX5_least_29 : decode cX5_least 29 = .ok (.ireturn, 1) := by decide +kernel
theorem dX5_least_30 : decode cX5_least 30 = .ok (.aload_n 0, 1) := by decide +kernel
theorem dX5_least_31 : decode cX5_least 31 = .ok (.iload_n 1, 1) := by decide +kernel
theorem dX5_least_32 : decode cX5_least 32 = .ok (.invokevirtual 159, 3) := by decide +kernel
theorem dX5_least_35 : decode cX5_least 35 = .ok (.aload_n 0, 1) := by decide +kernel
theorem dX5_least_36 : decode cX5_least 36 = .ok (.getfield 152, 3) := by decide +kernel
theorem dX5_least_39 : decode cX5_least 39 = .ok (.bipush 10, 2) := by decide +kernel
theorem dX5_least_41 : decode cX5_least 41 = .ok (.if_icmp .le 12, 3) := by decide +kernel
theorem dX5_least_44 : decode cX5_least 44 = .ok (.aload_n 0, 1) := by decide +kernel
theorem dX5_least_45 : decode cX5_least 45 = .ok (.ldc 163, 2) := by decide +kernel
theorem dX5_least_47 : decode cX5_least 47 = .ok (.invokevirtual 60, 3) := by decide +kernel
theorem dX5_least_50 : decode cX5_least 50 = .ok (.goto 21, 3) := by decide +kernel
theorem dX5_least_53 : decode cX5_least 53 = .ok (.aload_n 0, 1) := by decide +kernel
theorem dX5_least_54 : decode cX5_least 54 = .ok (.invokevirtual 164, 3) := by decide +kernel
theorem dX5_least_57 : decode cX5_least 57 = .ok (.aload_n 0, 1) := by decide +kernel
theorem dX5_least_58 : decode cX5_least 58 = .ok (.getfield 7, 3) := by decide +kernel
theorem dX5_least_61 : decode cX5_least 61 = .ok (.bipush 108, 2) := by decide +kernel
theorem dX5_least_63 : decode cX5_least 63 = .ok (.iconst 2, 1) := by decide +kernel
theorem dX5_least_64 : decode cX5_least 64 = .ok (.iload_n 1, 1) := by decide +kernel
theorem dX5_least_65 : decode cX5_least 65 = .ok (.imul, 1) := by decide +kernel
theorem dX5_least_66 : decode cX5_least 66 = .ok (.iadd, 1) := by decide +kernel
theorem dX5_least_67 : decode cX5_least 67 = .ok (.iconst 1, 1) := by decide +kernel
theorem dX5_least_68 : decode cX5_least 68 = .ok (.iadd, 1) := by decide +kernel
theorem dX5_least_69 : decode cX5_least 69 = .ok (.iaload, 1) := by decide +kernel
theorem dX5_least_70 : decode cX5_least 70 = .ok (.iadd, 1) := by decide +kernel
theorem dX5_least_71 : decode cX5_least 71 = .ok (.ireturn, 1) := by decide +kernel
def mX5_least (a1 : Int32) (V : jMem) : Option (Int32 × jMem) := (if (mX5_isStrip a1 V) = (0 : Int32) then ((mX5_finds (-1000000001 : Int32) V).bind (fun (p10 : Int32 × jMem) => (some (p10.1, p10.2)))) else ((mX5_canBe a1 V).bind (fun (r2 : Int32) => (if r2 = (0 : Int32) then ((mX5_finds (-1000000005 : Int32) V).bind (fun (p9 : Int32 × jMem) => (some (p9.1, p9.2)))) else ((mX5_findWanted a1 V).bind (fun (p4 : jMem) => (if (p4.1 0 13) ≤ (10 : Int32) then ((mX5_findLeast p4).bind (fun (p6 : Int32 × jMem) => (jg (jin (((108 : Int32) + ((2 : Int32) * a1)) + (1 : Int32)) 120) (some ((p6.1 + (p6.2.1 1 (Int32.toNatClampNeg (((108 : Int32) + ((2 : Int32) * a1)) + (1 : Int32))))), p6.2))))) else ((mX5_finds (-1000000007 : Int32) p4).bind (fun (p8 : Int32 × jMem) => (some (p8.1, p8.2)))))))))))
set_option maxHeartbeats 4000000 in
set_option maxRecDepth 20000 in
theorem tX5_least {l : Launch} {Z : jZ} {q : Nat → Nat} {a1 : Int32} {V : jMem} {r : Int32} {V' : jMem}  (hm : mX5_least a1 V = some (r, V')) : CtD l Z yX5_least cX5_least 2 (some .int) 6 q dM [.ref (q 0), .int a1] V (some (.int r)) V' := by
  refine Ct_of (L := [(0, .ref (q 0)), (1, .int a1)]) (own := RX5) (nm := "least") rfl rfl (by decide +kernel) rfl (Nat.le_of_ble_eq_true rfl) ?_
  unfold mX5_least at hm
  refine j_aload_n dX5_least_0 rfl rfl ?_
  refine j_iload_n dX5_least_1 rfl rfl ?_
  refine o_callV_i kX5_141 dX5_least_2 rfl (tX5_isStrip  rfl) rfl rfl rfl rfl rfl (Nat.le_of_ble_eq_true rfl) (by decide) ?_
  refine j_if_ne (tgt := 15) dX5_least_5 rfl (by decide) (fun c1 => ?_) (fun c1 => ?_)
  · have hm := jif_neg c1 hm
    refine j_aload_n dX5_least_15 rfl rfl ?_
    refine j_iload_n dX5_least_16 rfl rfl ?_
    obtain ⟨r2, er2, hm⟩ := jb_of hm
    refine o_callV_i kX5_149 dX5_least_17 rfl (tX5_canBe  er2) rfl rfl rfl rfl rfl (Nat.le_of_ble_eq_true rfl) (by decide) ?_
    refine j_if_ne (tgt := 30) dX5_least_20 rfl (by decide) (fun c3 => ?_) (fun c3 => ?_)
    · have hm := jif_neg c3 hm
      refine j_aload_n dX5_least_30 rfl rfl ?_
      refine j_iload_n dX5_least_31 rfl rfl ?_
      obtain ⟨p4, ep4, hm⟩ := jb_of hm
      refine o_callV_v kX5_159 dX5_least_32 rfl (tX5_findWanted  ep4) rfl rfl rfl rfl rfl (Nat.le_of_ble_eq_true rfl) (by decide) ?_
      refine j_aload_n dX5_least_35 rfl rfl ?_
      refine m_geti (k := 13) fX5_152 dX5_least_36 rfl rfl rfl ?_
      refine j_bipush (v := 10) dX5_least_39 rfl (by decide) ?_
      refine j_icmp_le (tgt := 53) dX5_least_41 rfl (by decide) (fun c5 => ?_) (fun c5 => ?_)
      · have hm := jif_pos c5 hm
        refine j_aload_n dX5_least_53 rfl rfl ?_
        obtain ⟨p6, ep6, hm⟩ := jb_of hm
        refine o_callV_i kX5_164 dX5_least_54 rfl (tX5_findLeast  ep6) rfl rfl rfl rfl rfl (Nat.le_of_ble_eq_true rfl) (by decide) ?_
        refine j_aload_n dX5_least_57 rfl rfl ?_
        refine m_getr (k := 0) (r := 1) fX5_7 dX5_least_58 rfl rfl rfl ?_
        refine j_bipush (v := 108) dX5_least_61 rfl (by decide) ?_
        refine j_iconst (v := 2) dX5_least_63 rfl (by decide) ?_
        refine j_iload_n dX5_least_64 rfl rfl ?_
        refine j_imul dX5_least_65 rfl ?_
        refine j_iadd dX5_least_66 rfl ?_
        refine j_iconst (v := 1) dX5_least_67 rfl (by decide) ?_
        refine j_iadd dX5_least_68 rfl ?_
        obtain ⟨g7, hm⟩ := jg_of hm
        refine o_iald (k := (Int32.toNatClampNeg (((108 : Int32) + ((2 : Int32) * a1)) + (1 : Int32)))) rfl dX5_least_69 rfl rfl (jin_vp g7) ?_
        refine j_iadd dX5_least_70 rfl ?_
        exact j_ireturn dX5_least_71 rfl rfl ⟨Nat.le_refl _, Nat.le_refl _⟩ (jf_m (fun z => .int z) hm)
      · have hm := jif_neg c5 hm
        refine j_aload_n dX5_least_44 rfl rfl ?_
        refine j_ldc dX5_least_45 rfl wX5_163 ?_
        obtain ⟨p8, ep8, hm⟩ := jb_of hm
        refine o_callV_i kX5_60 dX5_least_47 rfl (tX5_finds  ep8) rfl rfl rfl rfl rfl (Nat.le_of_ble_eq_true rfl) (by decide) ?_
        refine j_goto (tgt := 71) dX5_least_50 (by decide) ?_
        exact j_ireturn dX5_least_71 rfl rfl ⟨Nat.le_refl _, Nat.le_refl _⟩ (jf_m (fun z => .int z) hm)
    · have hm := jif_pos c3 hm
      refine j_aload_n dX5_least_23 rfl rfl ?_
      refine j_ldc dX5_least_24 rfl wX5_114 ?_
      obtain ⟨p9, ep9, hm⟩ := jb_of hm
      refine o_callV_i kX5_60 dX5_least_26 rfl (tX5_finds  ep9) rfl rfl rfl rfl rfl (Nat.le_of_ble_eq_true rfl) (by decide) ?_
      exact j_ireturn dX5_least_29 rfl rfl ⟨Nat.le_refl _, Nat.le_refl _⟩ (jf_m (fun z => .int z) hm)
  · have hm := jif_pos c1 hm
    refine j_aload_n dX5_least_8 rfl rfl ?_
    refine j_ldc dX5_least_9 rfl wX5_44 ?_
    obtain ⟨p10, ep10, hm⟩ := jb_of hm
    refine o_callV_i kX5_60 dX5_least_11 rfl (tX5_finds  ep10) rfl rfl rfl rfl rfl (Nat.le_of_ble_eq_true rfl) (by decide) ?_
    exact j_ireturn dX5_least_14 rfl rfl ⟨Nat.le_refl _, Nat.le_refl _⟩ (jf_m (fun z => .int z) hm)
theorem dX5_order_0 : decode cX5_order 0 = .ok (.aload_n 0, 1) := by decide +kernel
theorem dX5_order_1 : decode cX5_order 1 = .ok (.iload_n 1, 1) := by decide +kernel
theorem dX5_order_2 : decode cX5_order 2 = .ok (.invokevirtual 141, 3) := by decide +kernel
theorem dX5_order_5 : decode cX5_order 5 = .ok (.ifCond .eq 15, 3) := by decide +kernel
theorem dX5_order_8 : decode cX5_order 8 = .ok (.iload_n 2, 1) := by decide +kernel
theorem dX5_order_9 : decode cX5_order 9 = .ok (.i2l, 1) := by decide +kernel
theorem dX5_order_10 : decode cX5_order 10 = .ok (.lconst 0, 1) := by decide +kernel
theorem dX5_order_11 : decode cX5_order 11 = .ok (.ldc2_w 93, 3) := by decide +kernel
theorem dX5_order_14 : decode cX5_order 14 = .ok (.invokestatic 54, 3) := by decide +kernel
theorem dX5_order_17 : decode cX5_order 17 = .ok (.ifCond .ne 10, 3) := by decide +kernel
theorem dX5_order_20 : decode cX5_order 20 = .ok (.aload_n 0, 1) := by decide +kernel
theorem dX5_order_21 : decode cX5_order 21 = .ok (.ldc 44, 2) := by decide +kernel
theorem dX5_order_23 : decode cX5_order 23 = .ok (.invokevirtual 60, 3) := by decide +kernel
theorem dX5_order_26 : decode cX5_order 26 = .ok (.ireturn, 1) := by decide +kernel
theorem dX5_order_27 : decode cX5_order 27 = .ok (.aload_n 0, 1) := by decide +kernel
theorem dX5_order_28 : decode cX5_order 28 = .ok (.iload_n 1, 1) := by decide +kernel
theorem dX5_order_29 : decode cX5_order 29 = .ok (.invokevirtual 149, 3) := by decide +kernel
theorem dX5_order_32 : decode cX5_order 32 = .ok (.ifCond .ne 10, 3) := by decide +kernel
theorem dX5_order_35 : decode cX5_order 35 = .ok (.aload_n 0, 1) := by decide +kernel
theorem dX5_order_36 : decode cX5_order 36 = .ok (.ldc 114, 2) := by decide +kernel
theorem dX5_order_38 : decode cX5_order 38 = .ok (.invokevirtual 60, 3) := by decide +kernel
theorem dX5_order_41 : decode cX5_order 41 = .ok (.ireturn, 1) := by decide +kernel
theorem dX5_order_42 : decode cX5_order 42 = .ok (.aload_n 0, 1) := by decide +kernel
theorem dX5_order_43 : decode cX5_order 43 = .ok (.iload_n 1, 1) := by decide +kernel
theorem dX5_order_44 : decode cX5_order 44 = .ok (.invokevirtual 159, 3) := by decide +kernel
theorem dX5_order_47 : decode cX5_order 47 = .ok (.aload_n 0, 1) := by decide +kernel
theorem dX5_order_48 : decode cX5_order 48 = .ok (.getfield 152, 3) := by decide +kernel
theorem dX5_order_51 : decode cX5_order 51 = .ok (.bipush 10, 2) := by decide +kernel
theorem dX5_order_53 : decode cX5_order 53 = .ok (.if_icmp .le 10, 3) := by decide +kernel
theorem dX5_order_56 : decode cX5_order 56 = .ok (.aload_n 0, 1) := by decide +kernel
theorem dX5_order_57 : decode cX5_order 57 = .ok (.ldc 163, 2) := by decide +kernel
theorem dX5_order_59 : decode cX5_order 59 = .ok (.invokevirtual 60, 3) := by decide +kernel
theorem dX5_order_62 : decode cX5_order 62 = .ok (.ireturn, 1) := by decide +kernel
theorem dX5_order_63 : decode cX5_order 63 = .ok (.iload_n 2, 1) := by decide +kernel
theorem dX5_order_64 : decode cX5_order 64 = .ok (.aload_n 0, 1) := by decide +kernel
theorem dX5_order_65 : decode cX5_order 65 = .ok (.getfield 152, 3) := by decide +kernel
theorem dX5_order_68 : decode cX5_order 68 = .ok (.if_icmp .lt 10, 3) := by decide +kernel
theorem dX5_order_71 : decode cX5_order 71 = .ok (.aload_n 0, 1) := by decide +kernel
theorem dX5_order_72 : decode cX5_order 72 = .ok (.ldc 127, 2) := by decide +kernel
theorem dX5_order_74 : decode cX5_order 74 = .ok (.invokevirtual 60, 3) := by decide +kernel
theorem dX5_order_77 : decode cX5_order 77 = .ok (.ireturn, 1) := by decide +kernel
theorem dX5_order_78 : decode cX5_order 78 = .ok (.aload_n 0, 1) := by decide +kernel
theorem dX5_order_79 : decode cX5_order 79 = .ok (.invokevirtual 164, 3) := by decide +kernel
theorem dX5_order_82 : decode cX5_order 82 = .ok (.istore_n 3, 1) := by decide +kernel
theorem dX5_order_83 : decode cX5_order 83 = .ok (.iconst 0, 1) := by decide +kernel
theorem dX5_order_84 : decode cX5_order 84 = .ok (.istore 4, 2) := by decide +kernel
theorem dX5_order_86 : decode cX5_order 86 = .ok (.iconst (-1), 1) := by decide +kernel
theorem dX5_order_87 : decode cX5_order 87 = .ok (.istore 5, 2) := by decide +kernel
theorem dX5_order_89 : decode cX5_order 89 = .ok (.iconst 0, 1) := by decide +kernel
theorem dX5_order_90 : decode cX5_order 90 = .ok (.istore 6, 2) := by decide +kernel
theorem dX5_order_92 : decode cX5_order 92 = .ok (.iload 6, 2) := by decide +kernel
theorem dX5_order_94 : decode cX5_order 94 = .ok (.iload_n 2, 1) := by decide +kernel
theorem dX5_order_95 : decode cX5_order 95 = .ok (.if_icmp .gt 107, 3) := by decide +kernel
theorem dX5_order_98 : decode cX5_order 98 = .ok (.iconst (-1), 1) := by decide +kernel
theorem dX5_order_99 : decode cX5_order 99 = .ok (.istore 5, 2) := by decide +kernel
theorem dX5_order_101 : decode cX5_order 101 = .ok (.iconst 0, 1) := by decide +kernel
theorem dX5_order_102 : decode cX5_order 102 = .ok (.istore 7, 2) := by decide +kernel
theorem dX5_order_104 : decode cX5_order 104 = .ok (.iload 7, 2) := by decide +kernel
theorem dX5_order_106 : decode cX5_order 106 = .ok (.aload_n 0, 1) := by decide +kernel
theorem dX5_order_107 : decode cX5_order 107 = .ok (.getfield 152, 3) := by decide +kernel
theorem dX5_order_110 : decode cX5_order 110 = .ok (.if_icmp .ge 69, 3) := by decide +kernel
theorem dX5_order_113 : decode cX5_order 113 = .ok (.iload 5, 2) := by decide +kernel
theorem dX5_order_115 : decode cX5_order 115 = .ok (.ifCond .ge 64, 3) := by decide +kernel
theorem dX5_order_118 : decode cX5_order 118 = .ok (.iload 4, 2) := by decide +kernel
theorem dX5_order_120 : decode cX5_order 120 = .ok (.iload 7, 2) := by decide +kernel
theorem dX5_order_122 : decode cX5_order 122 = .ok (.ishr, 1) := by decide +kernel
theorem dX5_order_123 : decode cX5_order 123 = .ok (.iconst 1, 1) := by decide +kernel
theorem dX5_order_124 : decode cX5_order 124 = .ok (.iand, 1) := by decide +kernel
theorem dX5_order_125 : decode cX5_order 125 = .ok (.ifCond .ne 32, 3) := by decide +kernel
theorem dX5_order_128 : decode cX5_order 128 = .ok (.aload_n 0, 1) := by decide +kernel
theorem dX5_order_129 : decode cX5_order 129 = .ok (.iload 7, 2) := by decide +kernel
theorem dX5_order_131 : decode cX5_order 131 = .ok (.iload 4, 2) := by decide +kernel
theorem dX5_order_133 : decode cX5_order 133 = .ok (.invokevirtual 156, 3) := by decide +kernel
theorem dX5_order_136 : decode cX5_order 136 = .ok (.aload_n 0, 1) := by decide +kernel
theorem dX5_order_137 : decode cX5_order 137 = .ok (.getfield 38, 3) := by decide +kernel
theorem dX5_order_140 : decode cX5_order 140 = .ok (.iload 4, 2) := by decide +kernel
theorem dX5_order_142 : decode cX5_order 142 = .ok (.iconst 1, 1) := by decide +kernel
theorem dX5_order_143 : decode cX5_order 143 = .ok (.iload 7, 2) := by decide +kernel
theorem dX5_order_145 : decode cX5_order 145 = .ok (.ishl, 1) := by decide +kernel
theorem dX5_order_146 : decode cX5_order 146 = .ok (.ior, 1) := by decide +kernel
theorem dX5_order_147 : decode cX5_order 147 = .ok (.iaload, 1) := by decide +kernel
theorem dX5_order_148 : decode cX5_order 148 = .ok (.iadd, 1) := by decide +kernel
theorem dX5_order_149 : decode cX5_order 149 = .ok (.iload_n 3, 1) := by decide +kernel
theorem dX5_order_150 : decode cX5_order 150 = .ok (.if_icmp .ne 7, 3) := by decide +kernel
theorem dX5_order_153 : decode cX5_order 153 = .ok (.iconst 1, 1) := by decide +kernel
theorem dX5_order_154 : decode cX5_order 154 = .ok (.goto 4, 3) := by decide +kernel
theorem dX5_order_157 : decode cX5_order 157 = .ok (.iconst 0, 1) := by decide +kernel
theorem dX5_order_158 : decode cX5_order 158 = .ok (.istore 8, 2) := by decide +kernel
theorem dX5_order_160 : decode cX5_order 160 = .ok (.iload 8, 2) := by decide +kernel
theorem dX5_order_162 : decode cX5_order 162 = .ok (.ifCond .eq 8, 3) := by decide +kernel
theorem dX5_order_165 : decode cX5_order 165 = .ok (.iload 7, 2) := by decide +kernel
theorem dX5_order_167 : decode cX5_order 167 = .ok (.goto 4, 3) := by decide +kernel
theorem dX5_order_170 : decode cX5_order 170 = .ok (.iconst (-1), 1) := by decide +kernel
theorem dX5_order_171 : decode cX5_order 171 = .ok (.istore 5, 2) := by decide +kernel
theorem dX5_order_173 : decode cX5_order 173 = .ok (.iinc 7 1, 3) := by decide +kernel
theorem dX5_order_176 : decode cX5_order 176 = .ok (.goto (-72), 3) := by decide +kernel
theorem dX5_order_179 : decode cX5_order 179 = .ok (.iload 4, 2) := by decide +kernel
theorem dX5_order_181 : decode cX5_order 181 = .ok (.iconst 1, 1) := by decide +kernel
theorem dX5_order_182 : decode cX5_order 182 = .ok (.iload 5, 2) := by decide +kernel
theorem dX5_order_184 : decode cX5_order 184 = .ok (.ishl, 1) := by decide +kernel
theorem dX5_order_185 : decode cX5_order 185 = .ok (.ior, 1) := by decide +kernel
theorem dX5_order_186 : decode cX5_order 186 = .ok (.istore 4, 2) := by decide +kernel
theorem dX5_order_188 : decode cX5_order 188 = .ok (.aload_n 0, 1) := by decide +kernel
theorem dX5_order_189 : decode cX5_order 189 = .ok (.getfield 38, 3) := by decide +kernel
theorem dX5_order_192 : decode cX5_order 192 = .ok (.iload 4, 2) := by decide +kernel
theorem dX5_order_194 : decode cX5_order 194 = .ok (.iaload, 1) := by decide +kernel
theorem dX5_order_195 : decode cX5_order 195 = .ok (.istore_n 3, 1) := by decide +kernel
theorem dX5_order_196 : decode cX5_order 196 = .ok (.iinc 6 1, 3) := by decide +kernel
theorem dX5_order_199 : decode cX5_order 199 = .ok (.goto (-107), 3) := by decide +kernel
theorem dX5_order_202 : decode cX5_order 202 = .ok (.aload_n 0, 1) := by decide +kernel
theorem dX5_order_203 : decode cX5_order 203 = .ok (.getfield 35, 3) := by decide +kernel
theorem dX5_order_206 : decode cX5_order 206 = .ok (.iload 5, 2) := by decide +kernel
theorem dX5_order_208 : decode cX5_order 208 = .ok (.iaload, 1) := by decide +kernel
theorem dX5_order_209 : decode cX5_order 209 = .ok (.ireturn, 1) := by decide +kernel
def mX5_order_b20   (V : jMem) : Option (Int32 × jMem) := ((mX5_finds (-1000000001 : Int32) V).bind (fun (p1 : Int32 × jMem) => (some (p1.1, p1.2))))
set_option maxHeartbeats 4000000 in
set_option maxRecDepth 20000 in
theorem tX5_order_b20 {l : Launch} {Z : jZ} {q : Nat → Nat} {V : jMem} {r : Int32} {V' : jMem}    (hm : mX5_order_b20 V = some (r, V')) : J l Z RX5 "order" cX5_order 9 (some .int) 6 0 0 (fun r' w => r' = some (.int r) ∧ w = jw Z q V' dM) 20 [(0, .ref (q 0))] [] (jw Z q V dM) 0 0 := by
  unfold mX5_order_b20 at hm
  refine j_aload_n dX5_order_20 rfl rfl ?_
  refine j_ldc dX5_order_21 rfl wX5_44 ?_
  obtain ⟨p1, ep1, hm⟩ := jb_of hm
  refine o_callV_i kX5_60 dX5_order_23 rfl (tX5_finds  ep1) rfl rfl rfl rfl rfl (Nat.le_of_ble_eq_true rfl) (by decide) ?_
  exact j_ireturn dX5_order_26 rfl rfl ⟨Nat.le_refl _, Nat.le_refl _⟩ (jf_m (fun z => .int z) hm)
def mX5_order_b171  (k92 : Int32 → Int32 → Int32 → Int32 → Int32 → jMem → Option (Int32 × jMem)) (k104 : Int32 → Int32 → Int32 → Int32 → Int32 → Int32 → jMem → Option (Int32 × jMem)) (a2 : Int32) (a3 : Int32) (a4 : Int32) (a6 : Int32) (a7 : Int32) (s0 : Int32) (V : jMem) : Option (Int32 × jMem) := (k104 a2 a3 a4 s0 a6 (a7 + (1 : Int32)) V)
set_option maxHeartbeats 4000000 in
set_option maxRecDepth 20000 in
theorem tX5_order_b171 {l : Launch} {Z : jZ} {q : Nat → Nat} {k92 : Int32 → Int32 → Int32 → Int32 → Int32 → jMem → Option (Int32 × jMem)} {k104 : Int32 → Int32 → Int32 → Int32 → Int32 → Int32 → jMem → Option (Int32 × jMem)} {a2 : Int32} {a3 : Int32} {a4 : Int32} {a6 : Int32} {a7 : Int32} {s0 : Int32} {V : jMem} {r : Int32} {V' : jMem}   (hk92 : ∀ (a2 : Int32) (a3 : Int32) (a4 : Int32) (a5 : Int32) (a6 : Int32) (V : jMem), k92 a2 a3 a4 a5 a6 V = some (r, V') → J l Z RX5 "order" cX5_order 9 (some .int) 6 0 0 (fun r' w => r' = some (.int r) ∧ w = jw Z q V' dM) 92 [(0, .ref (q 0)), (2, .int a2), (3, .int a3), (4, .int a4), (5, .int a5), (6, .int a6)] [] (jw Z q V dM) 0 0) (hk104 : ∀ (a2 : Int32) (a3 : Int32) (a4 : Int32) (a5 : Int32) (a6 : Int32) (a7 : Int32) (V : jMem), k104 a2 a3 a4 a5 a6 a7 V = some (r, V') → J l Z RX5 "order" cX5_order 9 (some .int) 6 0 0 (fun r' w => r' = some (.int r) ∧ w = jw Z q V' dM) 104 [(0, .ref (q 0)), (2, .int a2), (3, .int a3), (4, .int a4), (5, .int a5), (6, .int a6), (7, .int a7)] [] (jw Z q V dM) 0 0) (hm : mX5_order_b171 k92 k104 a2 a3 a4 a6 a7 s0 V = some (r, V')) : J l Z RX5 "order" cX5_order 9 (some .int) 6 0 0 (fun r' w => r' = some (.int r) ∧ w = jw Z q V' dM) 171 [(0, .ref (q 0)), (2, .int a2), (3, .int a3), (4, .int a4), (6, .int a6), (7, .int a7)] [.int s0] (jw Z q V dM) 0 0 := by
  unfold mX5_order_b171 at hm
  refine j_istore (L' := [(5, _), (0, _), (2, _), (3, _), (4, _), (6, _), (7, _)]) dX5_order_171 rfl (by decide) rfl ?_
  refine j_iinc (v := (a7 + (1 : Int32))) (L' := [(7, _), (5, _), (0, _), (2, _), (3, _), (4, _), (6, _)]) dX5_order_173 rfl rfl rfl (by decide) rfl ?_
  refine j_goto (tgt := 104) dX5_order_176 (by decide) ?_
  refine j_sub (L' := [(0, _), (2, _), (3, _), (4, _), (5, _), (6, _), (7, _)]) [2, 3, 4, 5, 1, 6, 0] rfl ?_
  exact hk104 _ _ _ _ _ _ _  hm
def mX5_order_b158  (k92 : Int32 → Int32 → Int32 → Int32 → Int32 → jMem → Option (Int32 × jMem)) (k104 : Int32 → Int32 → Int32 → Int32 → Int32 → Int32 → jMem → Option (Int32 × jMem)) (a2 : Int32) (a3 : Int32) (a4 : Int32) (a6 : Int32) (a7 : Int32) (s0 : Int32) (V : jMem) : Option (Int32 × jMem) := (if s0 = (0 : Int32) then (mX5_order_b171 k92 k104 a2 a3 a4 a6 a7 (-1 : Int32) V) else (mX5_order_b171 k92 k104 a2 a3 a4 a6 a7 a7 V))
set_option maxHeartbeats 4000000 in
set_option maxRecDepth 20000 in
theorem tX5_order_b158 {l : Launch} {Z : jZ} {q : Nat → Nat} {k92 : Int32 → Int32 → Int32 → Int32 → Int32 → jMem → Option (Int32 × jMem)} {k104 : Int32 → Int32 → Int32 → Int32 → Int32 → Int32 → jMem → Option (Int32 × jMem)} {a2 : Int32} {a3 : Int32} {a4 : Int32} {a6 : Int32} {a7 : Int32} {s0 : Int32} {V : jMem} {r : Int32} {V' : jMem}   (hk92 : ∀ (a2 : Int32) (a3 : Int32) (a4 : Int32) (a5 : Int32) (a6 : Int32) (V : jMem), k92 a2 a3 a4 a5 a6 V = some (r, V') → J l Z RX5 "order" cX5_order 9 (some .int) 6 0 0 (fun r' w => r' = some (.int r) ∧ w = jw Z q V' dM) 92 [(0, .ref (q 0)), (2, .int a2), (3, .int a3), (4, .int a4), (5, .int a5), (6, .int a6)] [] (jw Z q V dM) 0 0) (hk104 : ∀ (a2 : Int32) (a3 : Int32) (a4 : Int32) (a5 : Int32) (a6 : Int32) (a7 : Int32) (V : jMem), k104 a2 a3 a4 a5 a6 a7 V = some (r, V') → J l Z RX5 "order" cX5_order 9 (some .int) 6 0 0 (fun r' w => r' = some (.int r) ∧ w = jw Z q V' dM) 104 [(0, .ref (q 0)), (2, .int a2), (3, .int a3), (4, .int a4), (5, .int a5), (6, .int a6), (7, .int a7)] [] (jw Z q V dM) 0 0) (hm : mX5_order_b158 k92 k104 a2 a3 a4 a6 a7 s0 V = some (r, V')) : J l Z RX5 "order" cX5_order 9 (some .int) 6 0 0 (fun r' w => r' = some (.int r) ∧ w = jw Z q V' dM) 158 [(0, .ref (q 0)), (2, .int a2), (3, .int a3), (4, .int a4), (6, .int a6), (7, .int a7)] [.int s0] (jw Z q V dM) 0 0 := by
  unfold mX5_order_b158 at hm
  refine j_istore (L' := [(8, _), (0, _), (2, _), (3, _), (4, _), (6, _), (7, _)]) dX5_order_158 rfl (by decide) rfl ?_
  refine j_iload dX5_order_160 rfl rfl ?_
  refine j_if_eq (tgt := 170) dX5_order_162 rfl (by decide) (fun c1 => ?_) (fun c1 => ?_)
  · have hm := jif_pos c1 hm
    refine j_iconst (v := -1) dX5_order_170 rfl (by decide) ?_
    refine j_sub (L' := [(0, _), (2, _), (3, _), (4, _), (6, _), (7, _)]) [1, 2, 3, 4, 5, 6] rfl ?_
    exact tX5_order_b171   hk92 hk104 hm
  · have hm := jif_neg c1 hm
    refine j_iload dX5_order_165 rfl rfl ?_
    refine j_goto (tgt := 171) dX5_order_167 (by decide) ?_
    refine j_sub (L' := [(0, _), (2, _), (3, _), (4, _), (6, _), (7, _)]) [1, 2, 3, 4, 5, 6] rfl ?_
    exact tX5_order_b171   hk92 hk104 hm
def mX5_order_b157  (k92 : Int32 → Int32 → Int32 → Int32 → Int32 → jMem → Option (Int32 × jMem)) (k104 : Int32 → Int32 → Int32 → Int32 → Int32 → Int32 → jMem → Option (Int32 × jMem)) (a2 : Int32) (a3 : Int32) (a4 : Int32) (a6 : Int32) (a7 : Int32) (V : jMem) : Option (Int32 × jMem) := (mX5_order_b158 k92 k104 a2 a3 a4 a6 a7 (0 : Int32) V)
set_option maxHeartbeats 4000000 in
set_option maxRecDepth 20000 in
theorem tX5_order_b157 {l : Launch} {Z : jZ} {q : Nat → Nat} {k92 : Int32 → Int32 → Int32 → Int32 → Int32 → jMem → Option (Int32 × jMem)} {k104 : Int32 → Int32 → Int32 → Int32 → Int32 → Int32 → jMem → Option (Int32 × jMem)} {a2 : Int32} {a3 : Int32} {a4 : Int32} {a6 : Int32} {a7 : Int32} {V : jMem} {r : Int32} {V' : jMem}   (hk92 : ∀ (a2 : Int32) (a3 : Int32) (a4 : Int32) (a5 : Int32) (a6 : Int32) (V : jMem), k92 a2 a3 a4 a5 a6 V = some (r, V') → J l Z RX5 "order" cX5_order 9 (some .int) 6 0 0 (fun r' w => r' = some (.int r) ∧ w = jw Z q V' dM) 92 [(0, .ref (q 0)), (2, .int a2), (3, .int a3), (4, .int a4), (5, .int a5), (6, .int a6)] [] (jw Z q V dM) 0 0) (hk104 : ∀ (a2 : Int32) (a3 : Int32) (a4 : Int32) (a5 : Int32) (a6 : Int32) (a7 : Int32) (V : jMem), k104 a2 a3 a4 a5 a6 a7 V = some (r, V') → J l Z RX5 "order" cX5_order 9 (some .int) 6 0 0 (fun r' w => r' = some (.int r) ∧ w = jw Z q V' dM) 104 [(0, .ref (q 0)), (2, .int a2), (3, .int a3), (4, .int a4), (5, .int a5), (6, .int a6), (7, .int a7)] [] (jw Z q V dM) 0 0) (hm : mX5_order_b157 k92 k104 a2 a3 a4 a6 a7 V = some (r, V')) : J l Z RX5 "order" cX5_order 9 (some .int) 6 0 0 (fun r' w => r' = some (.int r) ∧ w = jw Z q V' dM) 157 [(0, .ref (q 0)), (2, .int a2), (3, .int a3), (4, .int a4), (6, .int a6), (7, .int a7)] [] (jw Z q V dM) 0 0 := by
  unfold mX5_order_b157 at hm
  refine j_iconst (v := 0) dX5_order_157 rfl (by decide) ?_
  exact tX5_order_b158   hk92 hk104 hm
def mX5_order_b179  (k92 : Int32 → Int32 → Int32 → Int32 → Int32 → jMem → Option (Int32 × jMem)) (a2 : Int32) (a4 : Int32) (a5 : Int32) (a6 : Int32) (V : jMem) : Option (Int32 × jMem) := (jl (a4 ||| ((1 : Int32) <<< (a5 &&& (31 : Int32)))) (fun (v1 : Int32) => (jg (jin v1 1024) (k92 a2 (V.1 10 (Int32.toNatClampNeg v1)) v1 a5 (a6 + (1 : Int32)) V))))
set_option maxHeartbeats 4000000 in
set_option maxRecDepth 20000 in
theorem tX5_order_b179 {l : Launch} {Z : jZ} {q : Nat → Nat} {k92 : Int32 → Int32 → Int32 → Int32 → Int32 → jMem → Option (Int32 × jMem)} {a2 : Int32} {a4 : Int32} {a5 : Int32} {a6 : Int32} {V : jMem} {r : Int32} {V' : jMem}   (hk92 : ∀ (a2 : Int32) (a3 : Int32) (a4 : Int32) (a5 : Int32) (a6 : Int32) (V : jMem), k92 a2 a3 a4 a5 a6 V = some (r, V') → J l Z RX5 "order" cX5_order 9 (some .int) 6 0 0 (fun r' w => r' = some (.int r) ∧ w = jw Z q V' dM) 92 [(0, .ref (q 0)), (2, .int a2), (3, .int a3), (4, .int a4), (5, .int a5), (6, .int a6)] [] (jw Z q V dM) 0 0) (hm : mX5_order_b179 k92 a2 a4 a5 a6 V = some (r, V')) : J l Z RX5 "order" cX5_order 9 (some .int) 6 0 0 (fun r' w => r' = some (.int r) ∧ w = jw Z q V' dM) 179 [(0, .ref (q 0)), (2, .int a2), (4, .int a4), (5, .int a5), (6, .int a6)] [] (jw Z q V dM) 0 0 := by
  unfold mX5_order_b179 at hm
  refine j_iload dX5_order_179 rfl rfl ?_
  refine j_iconst (v := 1) dX5_order_181 rfl (by decide) ?_
  refine j_iload dX5_order_182 rfl rfl ?_
  refine j_ishl dX5_order_184 rfl ?_
  refine j_ior dX5_order_185 rfl ?_
  obtain ⟨v1, ev1⟩ : ∃ y, y = ((a4 ||| ((1 : Int32) <<< (a5 &&& (31 : Int32)))) : Int32) := ⟨_, rfl⟩
  have hm := jl_of hm ev1
  rw [← ev1]
  refine j_istore (L' := [(4, _), (0, _), (2, _), (5, _), (6, _)]) dX5_order_186 rfl (by decide) rfl ?_
  refine j_aload_n dX5_order_188 rfl rfl ?_
  refine m_getr (k := 14) (r := 10) fX5_38 dX5_order_189 rfl rfl rfl ?_
  refine j_iload dX5_order_192 rfl rfl ?_
  obtain ⟨g2, hm⟩ := jg_of hm
  refine o_iald (k := (Int32.toNatClampNeg v1)) rfl dX5_order_194 rfl rfl (jin_vp g2) ?_
  refine j_istore_n (i := 3) (L' := [(3, _), (4, _), (0, _), (2, _), (5, _), (6, _)]) dX5_order_195 rfl rfl (by decide) rfl ?_
  refine j_iinc (v := (a6 + (1 : Int32))) (L' := [(6, _), (3, _), (4, _), (0, _), (2, _), (5, _)]) dX5_order_196 rfl rfl rfl (by decide) rfl ?_
  refine j_goto (tgt := 92) dX5_order_199 (by decide) ?_
  refine j_sub (L' := [(0, _), (2, _), (3, _), (4, _), (5, _), (6, _)]) [3, 4, 1, 2, 5, 0] rfl ?_
  exact hk92 _ _ _ _ _ _  hm
def mX5_order_b104  (k92 : Int32 → Int32 → Int32 → Int32 → Int32 → jMem → Option (Int32 × jMem)) : Nat → Int32 → Int32 → Int32 → Int32 → Int32 → Int32 → jMem → Option (Int32 × jMem)
  | 0, _, _, _, _, _, _, _ => none
  | n + 1, a2, a3, a4, a5, a6, a7, V => (if (V.1 0 13) ≤ a7 then (mX5_order_b179 k92 a2 a4 a5 a6 V) else (if (0 : Int32) ≤ a5 then (mX5_order_b179 k92 a2 a4 a5 a6 V) else (if ((a4 >>> (a7 &&& (31 : Int32))) &&& (1 : Int32)) = (0 : Int32) then ((mX5_asksBehind a7 a4 V).bind (fun (r4 : Int32) => (jg (jin (a4 ||| ((1 : Int32) <<< (a7 &&& (31 : Int32)))) 1024) (if (r4 + (V.1 10 (Int32.toNatClampNeg (a4 ||| ((1 : Int32) <<< (a7 &&& (31 : Int32))))))) = a3 then (mX5_order_b158 k92 (mX5_order_b104 k92 n) a2 a3 a4 a6 a7 (1 : Int32) V) else (mX5_order_b157 k92 (mX5_order_b104 k92 n) a2 a3 a4 a6 a7 V))))) else (mX5_order_b157 k92 (mX5_order_b104 k92 n) a2 a3 a4 a6 a7 V))))
set_option maxHeartbeats 4000000 in
set_option maxRecDepth 20000 in
theorem tX5_order_b104 {l : Launch} {Z : jZ} {q : Nat → Nat} {k92 : Int32 → Int32 → Int32 → Int32 → Int32 → jMem → Option (Int32 × jMem)} {r : Int32} {V' : jMem}  (hk92 : ∀ (a2 : Int32) (a3 : Int32) (a4 : Int32) (a5 : Int32) (a6 : Int32) (V : jMem), k92 a2 a3 a4 a5 a6 V = some (r, V') → J l Z RX5 "order" cX5_order 9 (some .int) 6 0 0 (fun r' w => r' = some (.int r) ∧ w = jw Z q V' dM) 92 [(0, .ref (q 0)), (2, .int a2), (3, .int a3), (4, .int a4), (5, .int a5), (6, .int a6)] [] (jw Z q V dM) 0 0) (n : Nat) : ∀ (a2 : Int32) (a3 : Int32) (a4 : Int32) (a5 : Int32) (a6 : Int32) (a7 : Int32) (V : jMem), mX5_order_b104 k92 n a2 a3 a4 a5 a6 a7 V = some (r, V') → J l Z RX5 "order" cX5_order 9 (some .int) 6 0 0 (fun r' w => r' = some (.int r) ∧ w = jw Z q V' dM) 104 [(0, .ref (q 0)), (2, .int a2), (3, .int a3), (4, .int a4), (5, .int a5), (6, .int a6), (7, .int a7)] [] (jw Z q V dM) 0 0 := by
  induction n with
  | zero => intro a2 a3 a4 a5 a6 a7 V hm; cases hm
  | succ n ih =>
    intro a2 a3 a4 a5 a6 a7 V hm
    rw [mX5_order_b104] at hm
    refine j_iload dX5_order_104 rfl rfl ?_
    refine j_aload_n dX5_order_106 rfl rfl ?_
    refine m_geti (k := 13) fX5_152 dX5_order_107 rfl rfl rfl ?_
    refine j_icmp_ge (tgt := 179) dX5_order_110 rfl (by decide) (fun c1 => ?_) (fun c1 => ?_)
    · have hm := jif_pos c1 hm
      refine j_sub (L' := [(0, _), (2, _), (4, _), (5, _), (6, _)]) [0, 1, 3, 4, 5] rfl ?_
      exact tX5_order_b179   hk92 hm
    · have hm := jif_neg c1 hm
      refine j_iload dX5_order_113 rfl rfl ?_
      refine j_if_ge (tgt := 179) dX5_order_115 rfl (by decide) (fun c2 => ?_) (fun c2 => ?_)
      · have hm := jif_pos c2 hm
        refine j_sub (L' := [(0, _), (2, _), (4, _), (5, _), (6, _)]) [0, 1, 3, 4, 5] rfl ?_
        exact tX5_order_b179   hk92 hm
      · have hm := jif_neg c2 hm
        refine j_iload dX5_order_118 rfl rfl ?_
        refine j_iload dX5_order_120 rfl rfl ?_
        refine j_ishr dX5_order_122 rfl ?_
        refine j_iconst (v := 1) dX5_order_123 rfl (by decide) ?_
        refine j_iand dX5_order_124 rfl ?_
        refine j_if_ne (tgt := 157) dX5_order_125 rfl (by decide) (fun c3 => ?_) (fun c3 => ?_)
        · have hm := jif_neg c3 hm
          refine j_sub (L' := [(0, _), (2, _), (3, _), (4, _), (6, _), (7, _)]) [0, 1, 2, 3, 5, 6] rfl ?_
          exact tX5_order_b157   hk92 ih hm
        · have hm := jif_pos c3 hm
          refine j_aload_n dX5_order_128 rfl rfl ?_
          refine j_iload dX5_order_129 rfl rfl ?_
          refine j_iload dX5_order_131 rfl rfl ?_
          obtain ⟨r4, er4, hm⟩ := jb_of hm
          refine o_callV_i kX5_156 dX5_order_133 rfl (tX5_asksBehind  er4) rfl rfl rfl rfl rfl (Nat.le_of_ble_eq_true rfl) (by decide) ?_
          refine j_aload_n dX5_order_136 rfl rfl ?_
          refine m_getr (k := 14) (r := 10) fX5_38 dX5_order_137 rfl rfl rfl ?_
          refine j_iload dX5_order_140 rfl rfl ?_
          refine j_iconst (v := 1) dX5_order_142 rfl (by decide) ?_
          refine j_iload dX5_order_143 rfl rfl ?_
          refine j_ishl dX5_order_145 rfl ?_
          refine j_ior dX5_order_146 rfl ?_
          obtain ⟨g5, hm⟩ := jg_of hm
          refine o_iald (k := (Int32.toNatClampNeg (a4 ||| ((1 : Int32) <<< (a7 &&& (31 : Int32)))))) rfl dX5_order_147 rfl rfl (jin_vp g5) ?_
          refine j_iadd dX5_order_148 rfl ?_
          refine j_iload_n dX5_order_149 rfl rfl ?_
          refine j_icmp_ne (tgt := 157) dX5_order_150 rfl (by decide) (fun c6 => ?_) (fun c6 => ?_)
          · have hm := jif_neg c6 hm
            refine j_sub (L' := [(0, _), (2, _), (3, _), (4, _), (6, _), (7, _)]) [0, 1, 2, 3, 5, 6] rfl ?_
            exact tX5_order_b157   hk92 ih hm
          · have hm := jif_pos c6 hm
            refine j_iconst (v := 1) dX5_order_153 rfl (by decide) ?_
            refine j_goto (tgt := 158) dX5_order_154 (by decide) ?_
            refine j_sub (L' := [(0, _), (2, _), (3, _), (4, _), (6, _), (7, _)]) [0, 1, 2, 3, 5, 6] rfl ?_
            exact tX5_order_b158   hk92 ih hm
def mX5_order_b92   : Nat → Int32 → Int32 → Int32 → Int32 → Int32 → jMem → Option (Int32 × jMem)
  | 0, _, _, _, _, _, _ => none
  | n + 1, a2, a3, a4, a5, a6, V => (if a2 < a6 then (jg (jin a5 14) (some ((V.1 9 (Int32.toNatClampNeg a5)), V))) else (mX5_order_b104 (mX5_order_b92 n) 2000 a2 a3 a4 (-1 : Int32) a6 (0 : Int32) V))
set_option maxHeartbeats 4000000 in
set_option maxRecDepth 20000 in
theorem tX5_order_b92 {l : Launch} {Z : jZ} {q : Nat → Nat}  {r : Int32} {V' : jMem}   (n : Nat) : ∀ (a2 : Int32) (a3 : Int32) (a4 : Int32) (a5 : Int32) (a6 : Int32) (V : jMem), mX5_order_b92 n a2 a3 a4 a5 a6 V = some (r, V') → J l Z RX5 "order" cX5_order 9 (some .int) 6 0 0 (fun r' w => r' = some (.int r) ∧ w = jw Z q V' dM) 92 [(0, .ref (q 0)), (2, .int a2), (3, .int a3), (4, .int a4), (5, .int a5), (6, .int a6)] [] (jw Z q V dM) 0 0 := by
  induction n with
  | zero => intro a2 a3 a4 a5 a6 V hm; cases hm
  | succ n ih =>
    intro a2 a3 a4 a5 a6 V hm
    rw [mX5_order_b92] at hm
    refine j_iload dX5_order_92 rfl rfl ?_
    refine j_iload_n dX5_order_94 rfl rfl ?_
    refine j_icmp_gt (tgt := 202) dX5_order_95 rfl (by decide) (fun c1 => ?_) (fun c1 => ?_)
    · have hm := jif_pos c1 hm
      refine j_aload_n dX5_order_202 rfl rfl ?_
      refine m_getr (k := 12) (r := 9) fX5_35 dX5_order_203 rfl rfl rfl ?_
      refine j_iload dX5_order_206 rfl rfl ?_
      obtain ⟨g2, hm⟩ := jg_of hm
      refine o_iald (k := (Int32.toNatClampNeg a5)) rfl dX5_order_208 rfl rfl (jin_vp g2) ?_
      exact j_ireturn dX5_order_209 rfl rfl ⟨Nat.le_refl _, Nat.le_refl _⟩ (jf_m (fun z => .int z) hm)
    · have hm := jif_neg c1 hm
      refine j_iconst (v := -1) dX5_order_98 rfl (by decide) ?_
      refine j_istore (L' := [(5, _), (0, _), (2, _), (3, _), (4, _), (6, _)]) dX5_order_99 rfl (by decide) rfl ?_
      refine j_iconst (v := 0) dX5_order_101 rfl (by decide) ?_
      refine j_istore (L' := [(7, _), (5, _), (0, _), (2, _), (3, _), (4, _), (6, _)]) dX5_order_102 rfl (by decide) rfl ?_
      refine j_sub (L' := [(0, _), (2, _), (3, _), (4, _), (5, _), (6, _), (7, _)]) [2, 3, 4, 5, 1, 6, 0] rfl ?_
      exact tX5_order_b104  ih _ _ _ _ _ _ _ _  hm
def mX5_order (a1 : Int32) (a2 : Int32) (V : jMem) : Option (Int32 × jMem) := (if (mX5_isStrip a1 V) = (0 : Int32) then (mX5_order_b20 V) else (if (mX5_isIn (Int32.toInt64 a2) (0 : Int64) (9 : Int64)) = (0 : Int32) then (mX5_order_b20 V) else ((mX5_canBe a1 V).bind (fun (r3 : Int32) => (if r3 = (0 : Int32) then ((mX5_finds (-1000000005 : Int32) V).bind (fun (p11 : Int32 × jMem) => (some (p11.1, p11.2)))) else ((mX5_findWanted a1 V).bind (fun (p5 : jMem) => (if (p5.1 0 13) ≤ (10 : Int32) then (if a2 < (p5.1 0 13) then ((mX5_findLeast p5).bind (fun (p8 : Int32 × jMem) => (mX5_order_b92 2000 a2 p8.1 (0 : Int32) (-1 : Int32) (0 : Int32) p8.2))) else ((mX5_finds (-1000000004 : Int32) p5).bind (fun (p9 : Int32 × jMem) => (some (p9.1, p9.2))))) else ((mX5_finds (-1000000007 : Int32) p5).bind (fun (p10 : Int32 × jMem) => (some (p10.1, p10.2))))))))))))
set_option maxHeartbeats 4000000 in
set_option maxRecDepth 20000 in
theorem tX5_order {l : Launch} {Z : jZ} {q : Nat → Nat} {a1 : Int32} {a2 : Int32} {V : jMem} {r : Int32} {V' : jMem}  (hm : mX5_order a1 a2 V = some (r, V')) : CtD l Z yX5_order cX5_order 9 (some .int) 6 q dM [.ref (q 0), .int a1, .int a2] V (some (.int r)) V' := by
  refine Ct_of (L := [(0, .ref (q 0)), (1, .int a1), (2, .int a2)]) (own := RX5) (nm := "order") rfl rfl (by decide +kernel) rfl (Nat.le_of_ble_eq_true rfl) ?_
  unfold mX5_order at hm
  refine j_aload_n dX5_order_0 rfl rfl ?_
  refine j_iload_n dX5_order_1 rfl rfl ?_
  refine o_callV_i kX5_141 dX5_order_2 rfl (tX5_isStrip  rfl) rfl rfl rfl rfl rfl (Nat.le_of_ble_eq_true rfl) (by decide) ?_
  refine j_if_eq (tgt := 20) dX5_order_5 rfl (by decide) (fun c1 => ?_) (fun c1 => ?_)
  · have hm := jif_pos c1 hm
    refine j_sub (L' := [(0, _)]) [0] rfl ?_
    exact tX5_order_b20    hm
  · have hm := jif_neg c1 hm
    refine j_iload_n dX5_order_8 rfl rfl ?_
    refine j_i2l dX5_order_9 rfl ?_
    refine j_lconst (v := 0) dX5_order_10 rfl (by decide) ?_
    refine j_ldc2 dX5_order_11 rfl wX5_93 ?_
    refine o_callS_i kX5_54 dX5_order_14 rfl (tX5_isIn  rfl) rfl rfl (Nat.le_of_ble_eq_true rfl) (by decide) ?_
    refine j_if_ne (tgt := 27) dX5_order_17 rfl (by decide) (fun c2 => ?_) (fun c2 => ?_)
    · have hm := jif_neg c2 hm
      refine j_aload_n dX5_order_27 rfl rfl ?_
      refine j_iload_n dX5_order_28 rfl rfl ?_
      obtain ⟨r3, er3, hm⟩ := jb_of hm
      refine o_callV_i kX5_149 dX5_order_29 rfl (tX5_canBe  er3) rfl rfl rfl rfl rfl (Nat.le_of_ble_eq_true rfl) (by decide) ?_
      refine j_if_ne (tgt := 42) dX5_order_32 rfl (by decide) (fun c4 => ?_) (fun c4 => ?_)
      · have hm := jif_neg c4 hm
        refine j_aload_n dX5_order_42 rfl rfl ?_
        refine j_iload_n dX5_order_43 rfl rfl ?_
        obtain ⟨p5, ep5, hm⟩ := jb_of hm
        refine o_callV_v kX5_159 dX5_order_44 rfl (tX5_findWanted  ep5) rfl rfl rfl rfl rfl (Nat.le_of_ble_eq_true rfl) (by decide) ?_
        refine j_aload_n dX5_order_47 rfl rfl ?_
        refine m_geti (k := 13) fX5_152 dX5_order_48 rfl rfl rfl ?_
        refine j_bipush (v := 10) dX5_order_51 rfl (by decide) ?_
        refine j_icmp_le (tgt := 63) dX5_order_53 rfl (by decide) (fun c6 => ?_) (fun c6 => ?_)
        · have hm := jif_pos c6 hm
          refine j_iload_n dX5_order_63 rfl rfl ?_
          refine j_aload_n dX5_order_64 rfl rfl ?_
          refine m_geti (k := 13) fX5_152 dX5_order_65 rfl rfl rfl ?_
          refine j_icmp_lt (tgt := 78) dX5_order_68 rfl (by decide) (fun c7 => ?_) (fun c7 => ?_)
          · have hm := jif_pos c7 hm
            refine j_aload_n dX5_order_78 rfl rfl ?_
            obtain ⟨p8, ep8, hm⟩ := jb_of hm
            refine o_callV_i kX5_164 dX5_order_79 rfl (tX5_findLeast  ep8) rfl rfl rfl rfl rfl (Nat.le_of_ble_eq_true rfl) (by decide) ?_
            refine j_istore_n (i := 3) (L' := [(3, _), (0, _), (1, _), (2, _)]) dX5_order_82 rfl rfl (by decide) rfl ?_
            refine j_iconst (v := 0) dX5_order_83 rfl (by decide) ?_
            refine j_istore (L' := [(4, _), (3, _), (0, _), (1, _), (2, _)]) dX5_order_84 rfl (by decide) rfl ?_
            refine j_iconst (v := -1) dX5_order_86 rfl (by decide) ?_
            refine j_istore (L' := [(5, _), (4, _), (3, _), (0, _), (1, _), (2, _)]) dX5_order_87 rfl (by decide) rfl ?_
            refine j_iconst (v := 0) dX5_order_89 rfl (by decide) ?_
            refine j_istore (L' := [(6, _), (5, _), (4, _), (3, _), (0, _), (1, _), (2, _)]) dX5_order_90 rfl (by decide) rfl ?_
            refine j_sub (L' := [(0, _), (2, _), (3, _), (4, _), (5, _), (6, _)]) [4, 6, 3, 2, 1, 0] rfl ?_
            exact tX5_order_b92   _ _ _ _ _ _ _  hm
          · have hm := jif_neg c7 hm
            refine j_aload_n dX5_order_71 rfl rfl ?_
            refine j_ldc dX5_order_72 rfl wX5_127 ?_
            obtain ⟨p9, ep9, hm⟩ := jb_of hm
            refine o_callV_i kX5_60 dX5_order_74 rfl (tX5_finds  ep9) rfl rfl rfl rfl rfl (Nat.le_of_ble_eq_true rfl) (by decide) ?_
            exact j_ireturn dX5_order_77 rfl rfl ⟨Nat.le_refl _, Nat.le_refl _⟩ (jf_m (fun z => .int z) hm)
        · have hm := jif_neg c6 hm
          refine j_aload_n dX5_order_56 rfl rfl ?_
          refine j_ldc dX5_order_57 rfl wX5_163 ?_
          obtain ⟨p10, ep10, hm⟩ := jb_of hm
          refine o_callV_i kX5_60 dX5_order_59 rfl (tX5_finds  ep10) rfl rfl rfl rfl rfl (Nat.le_of_ble_eq_true rfl) (by decide) ?_
          exact j_ireturn dX5_order_62 rfl rfl ⟨Nat.le_refl _, Nat.le_refl _⟩ (jf_m (fun z => .int z) hm)
      · have hm := jif_pos c4 hm
        refine j_aload_n dX5_order_35 rfl rfl ?_
        refine j_ldc dX5_order_36 rfl wX5_114 ?_
        obtain ⟨p11, ep11, hm⟩ := jb_of hm
        refine o_callV_i kX5_60 dX5_order_38 rfl (tX5_finds  ep11) rfl rfl rfl rfl rfl (Nat.le_of_ble_eq_true rfl) (by decide) ?_
        exact j_ireturn dX5_order_41 rfl rfl ⟨Nat.le_refl _, Nat.le_refl _⟩ (jf_m (fun z => .int z) hm)
    · have hm := jif_pos c2 hm
      refine j_sub (L' := [(0, _)]) [0] rfl ?_
      exact tX5_order_b20    hm
theorem dX5_bestStrip_0 : decode cX5_bestStrip 0 = .ok (.iconst (-1), 1) := by decide +kernel
theorem dX5_bestStrip_1 : decode cX5_bestStrip 1 = .ok (.istore_n 1, 1) := by decide +kernel
theorem dX5_bestStrip_2 : decode cX5_bestStrip 2 = .ok (.iconst 0, 1) := by decide +kernel
theorem dX5_bestStrip_3 : decode cX5_bestStrip 3 = .ok (.istore_n 2, 1) := by decide +kernel
theorem dX5_bestStrip_4 : decode cX5_bestStrip 4 = .ok (.iload_n 2, 1) := by decide +kernel
theorem dX5_bestStrip_5 : decode cX5_bestStrip 5 = .ok (.aload_n 0, 1) := by decide +kernel
theorem dX5_bestStrip_6 : decode cX5_bestStrip 6 = .ok (.getfield 7, 3) := by decide +kernel
theorem dX5_bestStrip_9 : decode cX5_bestStrip 9 = .ok (.iconst 1, 1) := by decide +kernel
theorem dX5_bestStrip_10 : decode cX5_bestStrip 10 = .ok (.iaload, 1) := by decide +kernel
theorem dX5_bestStrip_11 : decode cX5_bestStrip 11 = .ok (.if_icmp .ge 69, 3) := by decide +kernel
theorem dX5_bestStrip_14 : decode cX5_bestStrip 14 = .ok (.aload_n 0, 1) := by decide +kernel
theorem dX5_bestStrip_15 : decode cX5_bestStrip 15 = .ok (.iload_n 2, 1) := by decide +kernel
theorem dX5_bestStrip_16 : decode cX5_bestStrip 16 = .ok (.invokevirtual 159, 3) := by decide +kernel
theorem dX5_bestStrip_19 : decode cX5_bestStrip 19 = .ok (.aload_n 0, 1) := by decide +kernel
theorem dX5_bestStrip_20 : decode cX5_bestStrip 20 = .ok (.iload_n 2, 1) := by decide +kernel
theorem dX5_bestStrip_21 : decode cX5_bestStrip 21 = .ok (.invokevirtual 149, 3) := by decide +kernel
theorem dX5_bestStrip_24 : decode cX5_bestStrip 24 = .ok (.ifCond .eq 50, 3) := by decide +kernel
theorem dX5_bestStrip_27 : decode cX5_bestStrip 27 = .ok (.aload_n 0, 1) := by decide +kernel
theorem dX5_bestStrip_28 : decode cX5_bestStrip 28 = .ok (.getfield 152, 3) := by decide +kernel
theorem dX5_bestStrip_31 : decode cX5_bestStrip 31 = .ok (.bipush 10, 2) := by decide +kernel
theorem dX5_bestStrip_33 : decode cX5_bestStrip 33 = .ok (.if_icmp .gt 41, 3) := by decide +kernel
theorem dX5_bestStrip_36 : decode cX5_bestStrip 36 = .ok (.aload_n 0, 1) := by decide +kernel
theorem dX5_bestStrip_37 : decode cX5_bestStrip 37 = .ok (.invokevirtual 164, 3) := by decide +kernel
theorem dX5_bestStrip_40 : decode cX5_bestStrip 40 = .ok (.aload_n 0, 1) := by decide +kernel
theorem dX5_bestStrip_41 : decode cX5_bestStrip 41 = .ok (.getfield 7, 3) := by decide +kernel
theorem dX5_bestStrip_44 : decode cX5_bestStrip 44 = .ok (.bipush 108, 2) := by decide +kernel
theorem dX5_bestStrip_46 : decode cX5_bestStrip 46 = .ok (.iconst 2, 1) := by decide +kernel
theorem dX5_bestStrip_47 : decode cX5_bestStrip 47 = .ok (.iload_n 2, 1) := by decide +kernel
theorem dX5_bestStrip_48 : decode cX5_bestStrip 48 = .ok (.imul, 1) := by decide +kernel
theorem dX5_bestStrip_49 : decode cX5_bestStrip 49 = .ok (.iadd, 1) := by decide +kernel
theorem dX5_bestStrip_50 : decode cX5_bestStrip 50 = .ok (.iconst 1, 1) := by decide +kernel
theorem dX5_bestStrip_51 : decode cX5_bestStrip 51 = .ok (.iadd, 1) := by decide +kernel
theorem dX5_bestStrip_52 : decode cX5_bestStrip 52 = .ok (.iaload, 1) := by decide +kernel
theorem dX5_bestStrip_53 : decode cX5_bestStrip 53 = .ok (.iadd, 1) := by decide +kernel
theorem dX5_bestStrip_54 : decode cX5_bestStrip 54 = .ok (.istore_n 3, 1) := by decide +kernel
theorem dX5_bestStrip_55 : decode cX5_bestStrip 55 = .ok (.iload_n 1, 1) := by decide +kernel
theorem dX5_bestStrip_56 : decode cX5_bestStrip 56 = .ok (.ifCond .lt 11, 3) := by decide +kernel
theorem dX5_bestStrip_59 : decode cX5_bestStrip 59 = .ok (.iload_n 3, 1) := by decide +kernel
theorem dX5_bestStrip_60 : decode cX5_bestStrip 60 = .ok (.aload_n 0, 1) := by decide +kernel
theorem dX5_bestStrip_61 : decode cX5_bestStrip 61 = .ok (.getfield 167, 3) := by decide +kernel
theorem dX5_bestStrip_64 : decode cX5_bestStrip 64 = .ok (.if_icmp .ge 10, 3) := by decide +kernel
theorem dX5_bestStrip_67 : decode cX5_bestStrip 67 = .ok (.iload_n 2, 1) := by decide +kernel
theorem dX5_bestStrip_68 : decode cX5_bestStrip 68 = .ok (.istore_n 1, 1) := by decide +kernel
theorem dX5_bestStrip_69 : decode cX5_bestStrip 69 = .ok (.aload_n 0, 1) := by decide +kernel
theorem dX5_bestStrip_70 : decode cX5_bestStrip 70 = .ok (.iload_n 3, 1) := by decide +kernel
theorem dX5_bestStrip_71 : decode cX5_bestStrip 71 = .ok (.putfield 167, 3) := by decide +kernel
theorem dX5_bestStrip_74 : decode cX5_bestStrip 74 = .ok (.iinc 2 1, 3) := by decide +kernel
theorem dX5_bestStrip_77 : decode cX5_bestStrip 77 = .ok (.goto (-73), 3) := by decide +kernel
theorem dX5_bestStrip_80 : decode cX5_bestStrip 80 = .ok (.iload_n 1, 1) := by decide +kernel
theorem dX5_bestStrip_81 : decode cX5_bestStrip 81 = .ok (.ireturn, 1) := by decide +kernel
def mX5_bestStrip_b74  (k4 : Int32 → Int32 → jMem → Option (Int32 × jMem)) (a1 : Int32) (a2 : Int32) (V : jMem) : Option (Int32 × jMem) := (k4 a1 (a2 + (1 : Int32)) V)
set_option maxHeartbeats 4000000 in
set_option maxRecDepth 20000 in
theorem tX5_bestStrip_b74 {l : Launch} {Z : jZ} {q : Nat → Nat} {k4 : Int32 → Int32 → jMem → Option (Int32 × jMem)} {a1 : Int32} {a2 : Int32} {V : jMem} {r : Int32} {V' : jMem}   (hk4 : ∀ (a1 : Int32) (a2 : Int32) (V : jMem), k4 a1 a2 V = some (r, V') → J l Z RX5 "bestStrip" cX5_bestStrip 4 (some .int) 6 0 0 (fun r' w => r' = some (.int r) ∧ w = jw Z q V' dM) 4 [(0, .ref (q 0)), (1, .int a1), (2, .int a2)] [] (jw Z q V dM) 0 0) (hm : mX5_bestStrip_b74 k4 a1 a2 V = some (r, V')) : J l Z RX5 "bestStrip" cX5_bestStrip 4 (some .int) 6 0 0 (fun r' w => r' = some (.int r) ∧ w = jw Z q V' dM) 74 [(0, .ref (q 0)), (1, .int a1), (2, .int a2)] [] (jw Z q V dM) 0 0 := by
  unfold mX5_bestStrip_b74 at hm
  refine j_iinc (v := (a2 + (1 : Int32))) (L' := [(2, _), (0, _), (1, _)]) dX5_bestStrip_74 rfl rfl rfl (by decide) rfl ?_
  refine j_goto (tgt := 4) dX5_bestStrip_77 (by decide) ?_
  refine j_sub (L' := [(0, _), (1, _), (2, _)]) [1, 2, 0] rfl ?_
  exact hk4 _ _ _  hm
def mX5_bestStrip_b67  (k4 : Int32 → Int32 → jMem → Option (Int32 × jMem)) (a2 : Int32) (a3 : Int32) (V : jMem) : Option (Int32 × jMem) := (jl (jsI V 0 15 a3) (fun (V1 : jMem) => (mX5_bestStrip_b74 k4 a2 a2 V1)))
set_option maxHeartbeats 4000000 in
set_option maxRecDepth 20000 in
theorem tX5_bestStrip_b67 {l : Launch} {Z : jZ} {q : Nat → Nat} {k4 : Int32 → Int32 → jMem → Option (Int32 × jMem)} {a2 : Int32} {a3 : Int32} {V : jMem} {r : Int32} {V' : jMem}   (hk4 : ∀ (a1 : Int32) (a2 : Int32) (V : jMem), k4 a1 a2 V = some (r, V') → J l Z RX5 "bestStrip" cX5_bestStrip 4 (some .int) 6 0 0 (fun r' w => r' = some (.int r) ∧ w = jw Z q V' dM) 4 [(0, .ref (q 0)), (1, .int a1), (2, .int a2)] [] (jw Z q V dM) 0 0) (hm : mX5_bestStrip_b67 k4 a2 a3 V = some (r, V')) : J l Z RX5 "bestStrip" cX5_bestStrip 4 (some .int) 6 0 0 (fun r' w => r' = some (.int r) ∧ w = jw Z q V' dM) 67 [(0, .ref (q 0)), (2, .int a2), (3, .int a3)] [] (jw Z q V dM) 0 0 := by
  unfold mX5_bestStrip_b67 at hm
  refine j_iload_n dX5_bestStrip_67 rfl rfl ?_
  refine j_istore_n (i := 1) (L' := [(1, _), (0, _), (2, _), (3, _)]) dX5_bestStrip_68 rfl rfl (by decide) rfl ?_
  refine j_aload_n dX5_bestStrip_69 rfl rfl ?_
  refine j_iload_n dX5_bestStrip_70 rfl rfl ?_
  refine m_puti (k := 15) fX5_167 dX5_bestStrip_71 rfl rfl rfl ?_
  obtain ⟨V1, eV1⟩ : ∃ y, y = (jsI V 0 15 a3) := ⟨_, rfl⟩
  have hm := jl_of hm eV1
  rw [← eV1]
  refine j_sub (L' := [(0, _), (1, _), (2, _)]) [1, 0, 2] rfl ?_
  exact tX5_bestStrip_b74   hk4 hm
def mX5_bestStrip_b4   : Nat → Int32 → Int32 → jMem → Option (Int32 × jMem)
  | 0, _, _, _ => none
  | n + 1, a1, a2, V => (if (V.1 1 1) ≤ a2 then (some (a1, V)) else ((mX5_findWanted a2 V).bind (fun (p2 : jMem) => ((mX5_canBe a2 p2).bind (fun (r3 : Int32) => (if r3 = (0 : Int32) then (mX5_bestStrip_b74 (mX5_bestStrip_b4 n) a1 a2 p2) else (if (10 : Int32) < (p2.1 0 13) then (mX5_bestStrip_b74 (mX5_bestStrip_b4 n) a1 a2 p2) else ((mX5_findLeast p2).bind (fun (p6 : Int32 × jMem) => (jg (jin (((108 : Int32) + ((2 : Int32) * a2)) + (1 : Int32)) 120) (jl (p6.1 + (p6.2.1 1 (Int32.toNatClampNeg (((108 : Int32) + ((2 : Int32) * a2)) + (1 : Int32))))) (fun (v8 : Int32) => (if a1 < (0 : Int32) then (mX5_bestStrip_b67 (mX5_bestStrip_b4 n) a2 v8 p6.2) else (if (p6.2.1 0 15) ≤ v8 then (mX5_bestStrip_b74 (mX5_bestStrip_b4 n) a1 a2 p6.2) else (mX5_bestStrip_b67 (mX5_bestStrip_b4 n) a2 v8 p6.2)))))))))))))))
set_option maxHeartbeats 4000000 in
set_option maxRecDepth 20000 in
theorem tX5_bestStrip_b4 {l : Launch} {Z : jZ} {q : Nat → Nat}  {r : Int32} {V' : jMem}   (n : Nat) : ∀ (a1 : Int32) (a2 : Int32) (V : jMem), mX5_bestStrip_b4 n a1 a2 V = some (r, V') → J l Z RX5 "bestStrip" cX5_bestStrip 4 (some .int) 6 0 0 (fun r' w => r' = some (.int r) ∧ w = jw Z q V' dM) 4 [(0, .ref (q 0)), (1, .int a1), (2, .int a2)] [] (jw Z q V dM) 0 0 := by
  induction n with
  | zero => intro a1 a2 V hm; cases hm
  | succ n ih =>
    intro a1 a2 V hm
    rw [mX5_bestStrip_b4] at hm
    refine j_iload_n dX5_bestStrip_4 rfl rfl ?_
    refine j_aload_n dX5_bestStrip_5 rfl rfl ?_
    refine m_getr (k := 0) (r := 1) fX5_7 dX5_bestStrip_6 rfl rfl rfl ?_
    refine j_iconst (v := 1) dX5_bestStrip_9 rfl (by decide) ?_
    refine o_iald (k := 1) (by decide) dX5_bestStrip_10 rfl rfl (jin_vp (by decide)) ?_
    refine j_icmp_ge (tgt := 80) dX5_bestStrip_11 rfl (by decide) (fun c1 => ?_) (fun c1 => ?_)
    · have hm := jif_pos c1 hm
      refine j_iload_n dX5_bestStrip_80 rfl rfl ?_
      exact j_ireturn dX5_bestStrip_81 rfl rfl ⟨Nat.le_refl _, Nat.le_refl _⟩ (jf_m (fun z => .int z) hm)
    · have hm := jif_neg c1 hm
      refine j_aload_n dX5_bestStrip_14 rfl rfl ?_
      refine j_iload_n dX5_bestStrip_15 rfl rfl ?_
      obtain ⟨p2, ep2, hm⟩ := jb_of hm
      refine o_callV_v kX5_159 dX5_bestStrip_16 rfl (tX5_findWanted  ep2) rfl rfl rfl rfl rfl (Nat.le_of_ble_eq_true rfl) (by decide) ?_
      refine j_aload_n dX5_bestStrip_19 rfl rfl ?_
      refine j_iload_n dX5_bestStrip_20 rfl rfl ?_
      obtain ⟨r3, er3, hm⟩ := jb_of hm
      refine o_callV_i kX5_149 dX5_bestStrip_21 rfl (tX5_canBe  er3) rfl rfl rfl rfl rfl (Nat.le_of_ble_eq_true rfl) (by decide) ?_
      refine j_if_eq (tgt := 74) dX5_bestStrip_24 rfl (by decide) (fun c4 => ?_) (fun c4 => ?_)
      · have hm := jif_pos c4 hm
        exact tX5_bestStrip_b74   ih hm
      · have hm := jif_neg c4 hm
        refine j_aload_n dX5_bestStrip_27 rfl rfl ?_
        refine m_geti (k := 13) fX5_152 dX5_bestStrip_28 rfl rfl rfl ?_
        refine j_bipush (v := 10) dX5_bestStrip_31 rfl (by decide) ?_
        refine j_icmp_gt (tgt := 74) dX5_bestStrip_33 rfl (by decide) (fun c5 => ?_) (fun c5 => ?_)
        · have hm := jif_pos c5 hm
          exact tX5_bestStrip_b74   ih hm
        · have hm := jif_neg c5 hm
          refine j_aload_n dX5_bestStrip_36 rfl rfl ?_
          obtain ⟨p6, ep6, hm⟩ := jb_of hm
          refine o_callV_i kX5_164 dX5_bestStrip_37 rfl (tX5_findLeast  ep6) rfl rfl rfl rfl rfl (Nat.le_of_ble_eq_true rfl) (by decide) ?_
          refine j_aload_n dX5_bestStrip_40 rfl rfl ?_
          refine m_getr (k := 0) (r := 1) fX5_7 dX5_bestStrip_41 rfl rfl rfl ?_
          refine j_bipush (v := 108) dX5_bestStrip_44 rfl (by decide) ?_
          refine j_iconst (v := 2) dX5_bestStrip_46 rfl (by decide) ?_
          refine j_iload_n dX5_bestStrip_47 rfl rfl ?_
          refine j_imul dX5_bestStrip_48 rfl ?_
          refine j_iadd dX5_bestStrip_49 rfl ?_
          refine j_iconst (v := 1) dX5_bestStrip_50 rfl (by decide) ?_
          refine j_iadd dX5_bestStrip_51 rfl ?_
          obtain ⟨g7, hm⟩ := jg_of hm
          refine o_iald (k := (Int32.toNatClampNeg (((108 : Int32) + ((2 : Int32) * a2)) + (1 : Int32)))) rfl dX5_bestStrip_52 rfl rfl (jin_vp g7) ?_
          refine j_iadd dX5_bestStrip_53 rfl ?_
          obtain ⟨v8, ev8⟩ : ∃ y, y = ((p6.1 + (p6.2.1 1 (Int32.toNatClampNeg (((108 : Int32) + ((2 : Int32) * a2)) + (1 : Int32))))) : Int32) := ⟨_, rfl⟩
          have hm := jl_of hm ev8
          rw [← ev8]
          refine j_istore_n (i := 3) (L' := [(3, _), (0, _), (1, _), (2, _)]) dX5_bestStrip_54 rfl rfl (by decide) rfl ?_
          refine j_iload_n dX5_bestStrip_55 rfl rfl ?_
          refine j_if_lt (tgt := 67) dX5_bestStrip_56 rfl (by decide) (fun c9 => ?_) (fun c9 => ?_)
          · have hm := jif_pos c9 hm
            refine j_sub (L' := [(0, _), (2, _), (3, _)]) [1, 3, 0] rfl ?_
            exact tX5_bestStrip_b67   ih hm
          · have hm := jif_neg c9 hm
            refine j_iload_n dX5_bestStrip_59 rfl rfl ?_
            refine j_aload_n dX5_bestStrip_60 rfl rfl ?_
            refine m_geti (k := 15) fX5_167 dX5_bestStrip_61 rfl rfl rfl ?_
            refine j_icmp_ge (tgt := 74) dX5_bestStrip_64 rfl (by decide) (fun c10 => ?_) (fun c10 => ?_)
            · have hm := jif_pos c10 hm
              refine j_sub (L' := [(0, _), (1, _), (2, _)]) [1, 2, 3] rfl ?_
              exact tX5_bestStrip_b74   ih hm
            · have hm := jif_neg c10 hm
              refine j_sub (L' := [(0, _), (2, _), (3, _)]) [1, 3, 0] rfl ?_
              exact tX5_bestStrip_b67   ih hm
def mX5_bestStrip (V : jMem) : Option (Int32 × jMem) := (mX5_bestStrip_b4 2000 (-1 : Int32) (0 : Int32) V)
set_option maxHeartbeats 4000000 in
set_option maxRecDepth 20000 in
theorem tX5_bestStrip {l : Launch} {Z : jZ} {q : Nat → Nat} {V : jMem} {r : Int32} {V' : jMem}  (hm : mX5_bestStrip V = some (r, V')) : CtD l Z yX5_bestStrip cX5_bestStrip 4 (some .int) 6 q dM [.ref (q 0)] V (some (.int r)) V' := by
  refine Ct_of (L := [(0, .ref (q 0))]) (own := RX5) (nm := "bestStrip") rfl rfl (by decide +kernel) rfl (Nat.le_of_ble_eq_true rfl) ?_
  unfold mX5_bestStrip at hm
  refine j_iconst (v := -1) dX5_bestStrip_0 rfl (by decide) ?_
  refine j_istore_n (i := 1) (L' := [(1, _), (0, _)]) dX5_bestStrip_1 rfl rfl (by decide) rfl ?_
  refine j_iconst (v := 0) dX5_bestStrip_2 rfl (by decide) ?_
  refine j_istore_n (i := 2) (L' := [(2, _), (1, _), (0, _)]) dX5_bestStrip_3 rfl rfl (by decide) rfl ?_
  refine j_sub (L' := [(0, _), (1, _), (2, _)]) [2, 1, 0] rfl ?_
  exact tX5_bestStrip_b4   _ _ _ _  hm
theorem dX5_best_0 : decode cX5_best 0 = .ok (.aload_n 0, 1) := by decide +kernel
theorem dX5_best_1 : decode cX5_best 1 = .ok (.invokevirtual 170, 3) := by decide +kernel
theorem dX5_best_4 : decode cX5_best 4 = .ok (.istore_n 1, 1) := by decide +kernel
theorem dX5_best_5 : decode cX5_best 5 = .ok (.iload_n 1, 1) := by decide +kernel
theorem dX5_best_6 : decode cX5_best 6 = .ok (.ifCond .ge 12, 3) := by decide +kernel
theorem dX5_best_9 : decode cX5_best 9 = .ok (.aload_n 0, 1) := by decide +kernel
theorem dX5_best_10 : decode cX5_best 10 = .ok (.ldc 127, 2) := by decide +kernel
theorem dX5_best_12 : decode cX5_best 12 = .ok (.invokevirtual 60, 3) := by decide +kernel
theorem dX5_best_15 : decode cX5_best 15 = .ok (.goto 4, 3) := by decide +kernel
theorem dX5_best_18 : decode cX5_best 18 = .ok (.iload_n 1, 1) := by decide +kernel
theorem dX5_best_19 : decode cX5_best 19 = .ok (.ireturn, 1) := by decide +kernel
def mX5_best (V : jMem) : Option (Int32 × jMem) := ((mX5_bestStrip V).bind (fun (p1 : Int32 × jMem) => (if (0 : Int32) ≤ p1.1 then (some (p1.1, p1.2)) else ((mX5_finds (-1000000004 : Int32) p1.2).bind (fun (p3 : Int32 × jMem) => (some (p3.1, p3.2)))))))
set_option maxHeartbeats 4000000 in
set_option maxRecDepth 20000 in
theorem tX5_best {l : Launch} {Z : jZ} {q : Nat → Nat} {V : jMem} {r : Int32} {V' : jMem}  (hm : mX5_best V = some (r, V')) : CtD l Z yX5_best cX5_best 2 (some .int) 7 q dM [.ref (q 0)] V (some (.int r)) V' := by
  refine Ct_of (L := [(0, .ref (q 0))]) (own := RX5) (nm := "best") rfl rfl (by decide +kernel) rfl (Nat.le_of_ble_eq_true rfl) ?_
  unfold mX5_best at hm
  refine j_aload_n dX5_best_0 rfl rfl ?_
  obtain ⟨p1, ep1, hm⟩ := jb_of hm
  refine o_callV_i kX5_170 dX5_best_1 rfl (tX5_bestStrip  ep1) rfl rfl rfl rfl rfl (Nat.le_of_ble_eq_true rfl) (by decide) ?_
  refine j_istore_n (i := 1) (L' := [(1, _), (0, _)]) dX5_best_4 rfl rfl (by decide) rfl ?_
  refine j_iload_n dX5_best_5 rfl rfl ?_
  refine j_if_ge (tgt := 18) dX5_best_6 rfl (by decide) (fun c2 => ?_) (fun c2 => ?_)
  · have hm := jif_pos c2 hm
    refine j_iload_n dX5_best_18 rfl rfl ?_
    exact j_ireturn dX5_best_19 rfl rfl ⟨Nat.le_refl _, Nat.le_refl _⟩ (jf_m (fun z => .int z) hm)
  · have hm := jif_neg c2 hm
    refine j_aload_n dX5_best_9 rfl rfl ?_
    refine j_ldc dX5_best_10 rfl wX5_127 ?_
    obtain ⟨p3, ep3, hm⟩ := jb_of hm
    refine o_callV_i kX5_60 dX5_best_12 rfl (tX5_finds  ep3) rfl rfl rfl rfl rfl (Nat.le_of_ble_eq_true rfl) (by decide) ?_
    refine j_goto (tgt := 19) dX5_best_15 (by decide) ?_
    exact j_ireturn dX5_best_19 rfl rfl ⟨Nat.le_refl _, Nat.le_refl _⟩ (jf_m (fun z => .int z) hm)
theorem dX5_last_0 : decode cX5_last 0 = .ok (.aload_n 0, 1) := by decide +kernel
theorem dX5_last_1 : decode cX5_last 1 = .ok (.iload_n 1, 1) := by decide +kernel
theorem dX5_last_2 : decode cX5_last 2 = .ok (.invokevirtual 141, 3) := by decide +kernel
theorem dX5_last_5 : decode cX5_last 5 = .ok (.ifCond .eq 13, 3) := by decide +kernel
theorem dX5_last_8 : decode cX5_last 8 = .ok (.iload_n 2, 1) := by decide +kernel
theorem dX5_last_9 : decode cX5_last 9 = .ok (.i2l, 1) := by decide +kernel
theorem dX5_last_10 : decode cX5_last 10 = .ok (.lconst 0, 1) := by decide +kernel
theorem dX5_last_11 : decode cX5_last 11 = .ok (.lconst 1, 1) := by decide +kernel
theorem dX5_last_12 : decode cX5_last 12 = .ok (.invokestatic 54, 3) := by decide +kernel
theorem dX5_last_15 : decode cX5_last 15 = .ok (.ifCond .ne 10, 3) := by decide +kernel
theorem dX5_last_18 : decode cX5_last 18 = .ok (.aload_n 0, 1) := by decide +kernel
theorem dX5_last_19 : decode cX5_last 19 = .ok (.ldc 44, 2) := by decide +kernel
theorem dX5_last_21 : decode cX5_last 21 = .ok (.invokevirtual 60, 3) := by decide +kernel
theorem dX5_last_24 : decode cX5_last 24 = .ok (.ireturn, 1) := by decide +kernel
theorem dX5_last_25 : decode cX5_last 25 = .ok (.aload_n 0, 1) := by decide +kernel
theorem dX5_last_26 : decode cX5_last 26 = .ok (.iload_n 1, 1) := by decide +kernel
theorem dX5_last_27 : decode cX5_last 27 = .ok (.invokevirtual 149, 3) := by decide +kernel
theorem dX5_last_30 : decode cX5_last 30 = .ok (.ifCond .ne 10, 3) := by decide +kernel
theorem dX5_last_33 : decode cX5_last 33 = .ok (.aload_n 0, 1) := by decide +kernel
theorem dX5_last_34 : decode cX5_last 34 = .ok (.ldc 114, 2) := by decide +kernel
theorem dX5_last_36 : decode cX5_last 36 = .ok (.invokevirtual 60, 3) := by decide +kernel
theorem dX5_last_39 : decode cX5_last 39 = .ok (.ireturn, 1) := by decide +kernel
theorem dX5_last_40 : decode cX5_last 40 = .ok (.aload_n 0, 1) := by decide +kernel
theorem dX5_last_41 : decode cX5_last 41 = .ok (.iload_n 1, 1) := by decide +kernel
theorem dX5_last_42 : decode cX5_last 42 = .ok (.invokevirtual 159, 3) := by decide +kernel
theorem dX5_last_45 : decode cX5_last 45 = .ok (.aload_n 0, 1) := by decide +kernel
theorem dX5_last_46 : decode cX5_last 46 = .ok (.getfield 152, 3) := by decide +kernel
theorem dX5_last_49 : decode cX5_last 49 = .ok (.ifCond .ne 10, 3) := by decide +kernel
theorem dX5_last_52 : decode cX5_last 52 = .ok (.aload_n 0, 1) := by decide +kernel
theorem dX5_last_53 : decode cX5_last 53 = .ok (.ldc 127, 2) := by decide +kernel
theorem dX5_last_55 : decode cX5_last 55 = .ok (.invokevirtual 60, 3) := by decide +kernel
theorem dX5_last_58 : decode cX5_last 58 = .ok (.ireturn, 1) := by decide +kernel
theorem dX5_last_59 : decode cX5_last 59 = .ok (.iconst (-1), 1) := by decide +kernel
theorem dX5_last_60 : decode cX5_last 60 = .ok (.istore_n 3, 1) := by decide +kernel
theorem dX5_last_61 : decode cX5_last 61 = .ok (.iconst 0, 1) := by decide +kernel
theorem dX5_last_62 : decode cX5_last 62 = .ok (.istore 4, 2) := by decide +kernel
theorem dX5_last_64 : decode cX5_last 64 = .ok (.iconst 0, 1) := by decide +kernel
theorem dX5_last_65 : decode cX5_last 65 = .ok (.istore 5, 2) := by decide +kernel
theorem dX5_last_67 : decode cX5_last 67 = .ok (.iload 5, 2) := by decide +kernel
theorem dX5_last_69 : decode cX5_last 69 = .ok (.aload_n 0, 1) := by decide +kernel
theorem dX5_last_70 : decode cX5_last 70 = .ok (.getfield 152, 3) := by decide +kernel
theorem dX5_last_73 : decode cX5_last 73 = .ok (.if_icmp .ge 61, 3) := by decide +kernel
theorem dX5_last_76 : decode cX5_last 76 = .ok (.aload_n 0, 1) := by decide +kernel
theorem dX5_last_77 : decode cX5_last 77 = .ok (.getfield 35, 3) := by decide +kernel
theorem dX5_last_80 : decode cX5_last 80 = .ok (.iload 5, 2) := by decide +kernel
theorem dX5_last_82 : decode cX5_last 82 = .ok (.iaload, 1) := by decide +kernel
theorem dX5_last_83 : decode cX5_last 83 = .ok (.istore 6, 2) := by decide +kernel
theorem dX5_last_85 : decode cX5_last 85 = .ok (.aload_n 0, 1) := by decide +kernel
theorem dX5_last_86 : decode cX5_last 86 = .ok (.iload 6, 2) := by decide +kernel
theorem dX5_last_88 : decode cX5_last 88 = .ok (.aload_n 0, 1) := by decide +kernel
theorem dX5_last_89 : decode cX5_last 89 = .ok (.invokevirtual 75, 3) := by decide +kernel
theorem dX5_last_92 : decode cX5_last 92 = .ok (.aload_n 0, 1) := by decide +kernel
theorem dX5_last_93 : decode cX5_last 93 = .ok (.iload_n 1, 1) := by decide +kernel
theorem dX5_last_94 : decode cX5_last 94 = .ok (.invokevirtual 135, 3) := by decide +kernel
theorem dX5_last_97 : decode cX5_last 97 = .ok (.ior, 1) := by decide +kernel
theorem dX5_last_98 : decode cX5_last 98 = .ok (.iconst 1, 1) := by decide +kernel
theorem dX5_last_99 : decode cX5_last 99 = .ok (.iload 6, 2) := by decide +kernel
theorem dX5_last_101 : decode cX5_last 101 = .ok (.ishl, 1) := by decide +kernel
theorem dX5_last_102 : decode cX5_last 102 = .ok (.iconst (-1), 1) := by decide +kernel
theorem dX5_last_103 : decode cX5_last 103 = .ok (.ixor, 1) := by decide +kernel
theorem dX5_last_104 : decode cX5_last 104 = .ok (.iand, 1) := by decide +kernel
theorem dX5_last_105 : decode cX5_last 105 = .ok (.invokevirtual 79, 3) := by decide +kernel
theorem dX5_last_108 : decode cX5_last 108 = .ok (.istore 7, 2) := by decide +kernel
theorem dX5_last_110 : decode cX5_last 110 = .ok (.iload_n 3, 1) := by decide +kernel
theorem dX5_last_111 : decode cX5_last 111 = .ok (.ifCond .lt 10, 3) := by decide +kernel
theorem dX5_last_114 : decode cX5_last 114 = .ok (.iload 7, 2) := by decide +kernel
theorem dX5_last_116 : decode cX5_last 116 = .ok (.iload 4, 2) := by decide +kernel
theorem dX5_last_118 : decode cX5_last 118 = .ok (.if_icmp .le 10, 3) := by decide +kernel
theorem dX5_last_121 : decode cX5_last 121 = .ok (.iload 6, 2) := by decide +kernel
theorem dX5_last_123 : decode cX5_last 123 = .ok (.istore_n 3, 1) := by decide +kernel
theorem dX5_last_124 : decode cX5_last 124 = .ok (.iload 7, 2) := by decide +kernel
theorem dX5_last_126 : decode cX5_last 126 = .ok (.istore 4, 2) := by decide +kernel
theorem dX5_last_128 : decode cX5_last 128 = .ok (.iinc 5 1, 3) := by decide +kernel
theorem dX5_last_131 : decode cX5_last 131 = .ok (.goto (-64), 3) := by decide +kernel
theorem dX5_last_134 : decode cX5_last 134 = .ok (.iload_n 2, 1) := by decide +kernel
theorem dX5_last_135 : decode cX5_last 135 = .ok (.ifCond .ne 8, 3) := by decide +kernel
theorem dX5_last_138 : decode cX5_last 138 = .ok (.iload 4, 2) := by decide +kernel
theorem dX5_last_140 : decode cX5_last 140 = .ok (.goto 4, 3) := by decide +kernel
theorem dX5_last_143 : decode cX5_last 143 = .ok (.iload_n 3, 1) := by decide +kernel
theorem dX5_last_144 : decode cX5_last 144 = .ok (.ireturn, 1) := by decide +kernel
def mX5_last_b18   (V : jMem) : Option (Int32 × jMem) := ((mX5_finds (-1000000001 : Int32) V).bind (fun (p1 : Int32 × jMem) => (some (p1.1, p1.2))))
set_option maxHeartbeats 4000000 in
set_option maxRecDepth 20000 in
theorem tX5_last_b18 {l : Launch} {Z : jZ} {q : Nat → Nat} {V : jMem} {r : Int32} {V' : jMem}    (hm : mX5_last_b18 V = some (r, V')) : J l Z RX5 "last" cX5_last 8 (some .int) 4 0 0 (fun r' w => r' = some (.int r) ∧ w = jw Z q V' dM) 18 [(0, .ref (q 0))] [] (jw Z q V dM) 0 0 := by
  unfold mX5_last_b18 at hm
  refine j_aload_n dX5_last_18 rfl rfl ?_
  refine j_ldc dX5_last_19 rfl wX5_44 ?_
  obtain ⟨p1, ep1, hm⟩ := jb_of hm
  refine o_callV_i kX5_60 dX5_last_21 rfl (tX5_finds  ep1) rfl rfl rfl rfl rfl (Nat.le_of_ble_eq_true rfl) (by decide) ?_
  exact j_ireturn dX5_last_24 rfl rfl ⟨Nat.le_refl _, Nat.le_refl _⟩ (jf_m (fun z => .int z) hm)
def mX5_last_b128  (k67 : Int32 → Int32 → Int32 → Int32 → Int32 → jMem → Option (Int32 × jMem)) (a1 : Int32) (a2 : Int32) (a3 : Int32) (a4 : Int32) (a5 : Int32) (V : jMem) : Option (Int32 × jMem) := (k67 a1 a2 a3 a4 (a5 + (1 : Int32)) V)
set_option maxHeartbeats 4000000 in
set_option maxRecDepth 20000 in
theorem tX5_last_b128 {l : Launch} {Z : jZ} {q : Nat → Nat} {k67 : Int32 → Int32 → Int32 → Int32 → Int32 → jMem → Option (Int32 × jMem)} {a1 : Int32} {a2 : Int32} {a3 : Int32} {a4 : Int32} {a5 : Int32} {V : jMem} {r : Int32} {V' : jMem}   (hk67 : ∀ (a1 : Int32) (a2 : Int32) (a3 : Int32) (a4 : Int32) (a5 : Int32) (V : jMem), k67 a1 a2 a3 a4 a5 V = some (r, V') → J l Z RX5 "last" cX5_last 8 (some .int) 4 0 0 (fun r' w => r' = some (.int r) ∧ w = jw Z q V' dM) 67 [(0, .ref (q 0)), (1, .int a1), (2, .int a2), (3, .int a3), (4, .int a4), (5, .int a5)] [] (jw Z q V dM) 0 0) (hm : mX5_last_b128 k67 a1 a2 a3 a4 a5 V = some (r, V')) : J l Z RX5 "last" cX5_last 8 (some .int) 4 0 0 (fun r' w => r' = some (.int r) ∧ w = jw Z q V' dM) 128 [(0, .ref (q 0)), (1, .int a1), (2, .int a2), (3, .int a3), (4, .int a4), (5, .int a5)] [] (jw Z q V dM) 0 0 := by
  unfold mX5_last_b128 at hm
  refine j_iinc (v := (a5 + (1 : Int32))) (L' := [(5, _), (0, _), (1, _), (2, _), (3, _), (4, _)]) dX5_last_128 rfl rfl rfl (by decide) rfl ?_
  refine j_goto (tgt := 67) dX5_last_131 (by decide) ?_
  refine j_sub (L' := [(0, _), (1, _), (2, _), (3, _), (4, _), (5, _)]) [1, 2, 3, 4, 5, 0] rfl ?_
  exact hk67 _ _ _ _ _ _  hm
def mX5_last_b121  (k67 : Int32 → Int32 → Int32 → Int32 → Int32 → jMem → Option (Int32 × jMem)) (a1 : Int32) (a2 : Int32) (a5 : Int32) (a6 : Int32) (a7 : Int32) (V : jMem) : Option (Int32 × jMem) := (mX5_last_b128 k67 a1 a2 a6 a7 a5 V)
set_option maxHeartbeats 4000000 in
set_option maxRecDepth 20000 in
theorem tX5_last_b121 {l : Launch} {Z : jZ} {q : Nat → Nat} {k67 : Int32 → Int32 → Int32 → Int32 → Int32 → jMem → Option (Int32 × jMem)} {a1 : Int32} {a2 : Int32} {a5 : Int32} {a6 : Int32} {a7 : Int32} {V : jMem} {r : Int32} {V' : jMem}   (hk67 : ∀ (a1 : Int32) (a2 : Int32) (a3 : Int32) (a4 : Int32) (a5 : Int32) (V : jMem), k67 a1 a2 a3 a4 a5 V = some (r, V') → J l Z RX5 "last" cX5_last 8 (some .int) 4 0 0 (fun r' w => r' = some (.int r) ∧ w = jw Z q V' dM) 67 [(0, .ref (q 0)), (1, .int a1), (2, .int a2), (3, .int a3), (4, .int a4), (5, .int a5)] [] (jw Z q V dM) 0 0) (hm : mX5_last_b121 k67 a1 a2 a5 a6 a7 V = some (r, V')) : J l Z RX5 "last" cX5_last 8 (some .int) 4 0 0 (fun r' w => r' = some (.int r) ∧ w = jw Z q V' dM) 121 [(0, .ref (q 0)), (1, .int a1), (2, .int a2), (5, .int a5), (6, .int a6), (7, .int a7)] [] (jw Z q V dM) 0 0 := by
  unfold mX5_last_b121 at hm
  refine j_iload dX5_last_121 rfl rfl ?_
  refine j_istore_n (i := 3) (L' := [(3, _), (0, _), (1, _), (2, _), (5, _), (6, _), (7, _)]) dX5_last_123 rfl rfl (by decide) rfl ?_
  refine j_iload dX5_last_124 rfl rfl ?_
  refine j_istore (L' := [(4, _), (3, _), (0, _), (1, _), (2, _), (5, _), (6, _), (7, _)]) dX5_last_126 rfl (by decide) rfl ?_
  refine j_sub (L' := [(0, _), (1, _), (2, _), (3, _), (4, _), (5, _)]) [2, 3, 4, 1, 0, 5] rfl ?_
  exact tX5_last_b128   hk67 hm
def mX5_last_b67   : Nat → Int32 → Int32 → Int32 → Int32 → Int32 → jMem → Option (Int32 × jMem)
  | 0, _, _, _, _, _, _ => none
  | n + 1, a1, a2, a3, a4, a5, V => (if (V.1 0 13) ≤ a5 then (if a2 = (0 : Int32) then (some (a4, V)) else (some (a3, V))) else (jg (jin a5 14) ((mX5_ours V).bind (fun (r4 : Int32) => ((mX5_setOf a1 V).bind (fun (r5 : Int32) => ((mX5_asksBy (V.1 9 (Int32.toNatClampNeg a5)) ((r4 ||| r5) &&& (((1 : Int32) <<< ((V.1 9 (Int32.toNatClampNeg a5)) &&& (31 : Int32))) ^^^ (-1 : Int32))) V).bind (fun (r6 : Int32) => (if a3 < (0 : Int32) then (mX5_last_b121 (mX5_last_b67 n) a1 a2 a5 (V.1 9 (Int32.toNatClampNeg a5)) r6 V) else (if r6 ≤ a4 then (mX5_last_b128 (mX5_last_b67 n) a1 a2 a3 a4 a5 V) else (mX5_last_b121 (mX5_last_b67 n) a1 a2 a5 (V.1 9 (Int32.toNatClampNeg a5)) r6 V)))))))))))
set_option maxHeartbeats 4000000 in
set_option maxRecDepth 20000 in
theorem tX5_last_b67 {l : Launch} {Z : jZ} {q : Nat → Nat}  {r : Int32} {V' : jMem}   (n : Nat) : ∀ (a1 : Int32) (a2 : Int32) (a3 : Int32) (a4 : Int32) (a5 : Int32) (V : jMem), mX5_last_b67 n a1 a2 a3 a4 a5 V = some (r, V') → J l Z RX5 "last" cX5_last 8 (some .int) 4 0 0 (fun r' w => r' = some (.int r) ∧ w = jw Z q V' dM) 67 [(0, .ref (q 0)), (1, .int a1), (2, .int a2), (3, .int a3), (4, .int a4), (5, .int a5)] [] (jw Z q V dM) 0 0 := by
  induction n with
  | zero => intro a1 a2 a3 a4 a5 V hm; cases hm
  | succ n ih =>
    intro a1 a2 a3 a4 a5 V hm
    rw [mX5_last_b67] at hm
    refine j_iload dX5_last_67 rfl rfl ?_
    refine j_aload_n dX5_last_69 rfl rfl ?_
    refine m_geti (k := 13) fX5_152 dX5_last_70 rfl rfl rfl ?_
    refine j_icmp_ge (tgt := 134) dX5_last_73 rfl (by decide) (fun c1 => ?_) (fun c1 => ?_)
    · have hm := jif_pos c1 hm
      refine j_iload_n dX5_last_134 rfl rfl ?_
      refine j_if_ne (tgt := 143) dX5_last_135 rfl (by decide) (fun c2 => ?_) (fun c2 => ?_)
      · have hm := jif_neg c2 hm
        refine j_iload_n dX5_last_143 rfl rfl ?_
        exact j_ireturn dX5_last_144 rfl rfl ⟨Nat.le_refl _, Nat.le_refl _⟩ (jf_m (fun z => .int z) hm)
      · have hm := jif_pos c2 hm
        refine j_iload dX5_last_138 rfl rfl ?_
        refine j_goto (tgt := 144) dX5_last_140 (by decide) ?_
        exact j_ireturn dX5_last_144 rfl rfl ⟨Nat.le_refl _, Nat.le_refl _⟩ (jf_m (fun z => .int z) hm)
    · have hm := jif_neg c1 hm
      refine j_aload_n dX5_last_76 rfl rfl ?_
      refine m_getr (k := 12) (r := 9) fX5_35 dX5_last_77 rfl rfl rfl ?_
      refine j_iload dX5_last_80 rfl rfl ?_
      obtain ⟨g3, hm⟩ := jg_of hm
      refine o_iald (k := (Int32.toNatClampNeg a5)) rfl dX5_last_82 rfl rfl (jin_vp g3) ?_
      refine j_istore (L' := [(6, _), (0, _), (1, _), (2, _), (3, _), (4, _), (5, _)]) dX5_last_83 rfl (by decide) rfl ?_
      refine j_aload_n dX5_last_85 rfl rfl ?_
      refine j_iload dX5_last_86 rfl rfl ?_
      refine j_aload_n dX5_last_88 rfl rfl ?_
      obtain ⟨r4, er4, hm⟩ := jb_of hm
      refine o_callV_i kX5_75 dX5_last_89 rfl (tX5_ours  er4) rfl rfl rfl rfl rfl (Nat.le_of_ble_eq_true rfl) (by decide) ?_
      refine j_aload_n dX5_last_92 rfl rfl ?_
      refine j_iload_n dX5_last_93 rfl rfl ?_
      obtain ⟨r5, er5, hm⟩ := jb_of hm
      refine o_callV_i kX5_135 dX5_last_94 rfl (tX5_setOf  er5) rfl rfl rfl rfl rfl (Nat.le_of_ble_eq_true rfl) (by decide) ?_
      refine j_ior dX5_last_97 rfl ?_
      refine j_iconst (v := 1) dX5_last_98 rfl (by decide) ?_
      refine j_iload dX5_last_99 rfl rfl ?_
      refine j_ishl dX5_last_101 rfl ?_
      refine j_iconst (v := -1) dX5_last_102 rfl (by decide) ?_
      refine j_ixor dX5_last_103 rfl ?_
      refine j_iand dX5_last_104 rfl ?_
      obtain ⟨r6, er6, hm⟩ := jb_of hm
      refine o_callV_i kX5_79 dX5_last_105 rfl (tX5_asksBy  er6) rfl rfl rfl rfl rfl (Nat.le_of_ble_eq_true rfl) (by decide) ?_
      refine j_istore (L' := [(7, _), (6, _), (0, _), (1, _), (2, _), (3, _), (4, _), (5, _)]) dX5_last_108 rfl (by decide) rfl ?_
      refine j_iload_n dX5_last_110 rfl rfl ?_
      refine j_if_lt (tgt := 121) dX5_last_111 rfl (by decide) (fun c7 => ?_) (fun c7 => ?_)
      · have hm := jif_pos c7 hm
        refine j_sub (L' := [(0, _), (1, _), (2, _), (5, _), (6, _), (7, _)]) [2, 3, 4, 7, 1, 0] rfl ?_
        exact tX5_last_b121   ih hm
      · have hm := jif_neg c7 hm
        refine j_iload dX5_last_114 rfl rfl ?_
        refine j_iload dX5_last_116 rfl rfl ?_
        refine j_icmp_le (tgt := 128) dX5_last_118 rfl (by decide) (fun c8 => ?_) (fun c8 => ?_)
        · have hm := jif_pos c8 hm
          refine j_sub (L' := [(0, _), (1, _), (2, _), (3, _), (4, _), (5, _)]) [2, 3, 4, 5, 6, 7] rfl ?_
          exact tX5_last_b128   ih hm
        · have hm := jif_neg c8 hm
          refine j_sub (L' := [(0, _), (1, _), (2, _), (5, _), (6, _), (7, _)]) [2, 3, 4, 7, 1, 0] rfl ?_
          exact tX5_last_b121   ih hm
def mX5_last (a1 : Int32) (a2 : Int32) (V : jMem) : Option (Int32 × jMem) := (if (mX5_isStrip a1 V) = (0 : Int32) then (mX5_last_b18 V) else (if (mX5_isIn (Int32.toInt64 a2) (0 : Int64) (1 : Int64)) = (0 : Int32) then (mX5_last_b18 V) else ((mX5_canBe a1 V).bind (fun (r3 : Int32) => (if r3 = (0 : Int32) then ((mX5_finds (-1000000005 : Int32) V).bind (fun (p8 : Int32 × jMem) => (some (p8.1, p8.2)))) else ((mX5_findWanted a1 V).bind (fun (p5 : jMem) => (if (p5.1 0 13) = (0 : Int32) then ((mX5_finds (-1000000004 : Int32) p5).bind (fun (p7 : Int32 × jMem) => (some (p7.1, p7.2)))) else (mX5_last_b67 2000 a1 a2 (-1 : Int32) (0 : Int32) (0 : Int32) p5)))))))))
set_option maxHeartbeats 4000000 in
set_option maxRecDepth 20000 in
theorem tX5_last {l : Launch} {Z : jZ} {q : Nat → Nat} {a1 : Int32} {a2 : Int32} {V : jMem} {r : Int32} {V' : jMem}  (hm : mX5_last a1 a2 V = some (r, V')) : CtD l Z yX5_last cX5_last 8 (some .int) 4 q dM [.ref (q 0), .int a1, .int a2] V (some (.int r)) V' := by
  refine Ct_of (L := [(0, .ref (q 0)), (1, .int a1), (2, .int a2)]) (own := RX5) (nm := "last") rfl rfl (by decide +kernel) rfl (Nat.le_of_ble_eq_true rfl) ?_
  unfold mX5_last at hm
  refine j_aload_n dX5_last_0 rfl rfl ?_
  refine j_iload_n dX5_last_1 rfl rfl ?_
  refine o_callV_i kX5_141 dX5_last_2 rfl (tX5_isStrip  rfl) rfl rfl rfl rfl rfl (Nat.le_of_ble_eq_true rfl) (by decide) ?_
  refine j_if_eq (tgt := 18) dX5_last_5 rfl (by decide) (fun c1 => ?_) (fun c1 => ?_)
  · have hm := jif_pos c1 hm
    refine j_sub (L' := [(0, _)]) [0] rfl ?_
    exact tX5_last_b18    hm
  · have hm := jif_neg c1 hm
    refine j_iload_n dX5_last_8 rfl rfl ?_
    refine j_i2l dX5_last_9 rfl ?_
    refine j_lconst (v := 0) dX5_last_10 rfl (by decide) ?_
    refine j_lconst (v := 1) dX5_last_11 rfl (by decide) ?_
    refine o_callS_i kX5_54 dX5_last_12 rfl (tX5_isIn  rfl) rfl rfl (Nat.le_of_ble_eq_true rfl) (by decide) ?_
    refine j_if_ne (tgt := 25) dX5_last_15 rfl (by decide) (fun c2 => ?_) (fun c2 => ?_)
    · have hm := jif_neg c2 hm
      refine j_aload_n dX5_last_25 rfl rfl ?_
      refine j_iload_n dX5_last_26 rfl rfl ?_
      obtain ⟨r3, er3, hm⟩ := jb_of hm
      refine o_callV_i kX5_149 dX5_last_27 rfl (tX5_canBe  er3) rfl rfl rfl rfl rfl (Nat.le_of_ble_eq_true rfl) (by decide) ?_
      refine j_if_ne (tgt := 40) dX5_last_30 rfl (by decide) (fun c4 => ?_) (fun c4 => ?_)
      · have hm := jif_neg c4 hm
        refine j_aload_n dX5_last_40 rfl rfl ?_
        refine j_iload_n dX5_last_41 rfl rfl ?_
        obtain ⟨p5, ep5, hm⟩ := jb_of hm
        refine o_callV_v kX5_159 dX5_last_42 rfl (tX5_findWanted  ep5) rfl rfl rfl rfl rfl (Nat.le_of_ble_eq_true rfl) (by decide) ?_
        refine j_aload_n dX5_last_45 rfl rfl ?_
        refine m_geti (k := 13) fX5_152 dX5_last_46 rfl rfl rfl ?_
        refine j_if_ne (tgt := 59) dX5_last_49 rfl (by decide) (fun c6 => ?_) (fun c6 => ?_)
        · have hm := jif_neg c6 hm
          refine j_iconst (v := -1) dX5_last_59 rfl (by decide) ?_
          refine j_istore_n (i := 3) (L' := [(3, _), (0, _), (1, _), (2, _)]) dX5_last_60 rfl rfl (by decide) rfl ?_
          refine j_iconst (v := 0) dX5_last_61 rfl (by decide) ?_
          refine j_istore (L' := [(4, _), (3, _), (0, _), (1, _), (2, _)]) dX5_last_62 rfl (by decide) rfl ?_
          refine j_iconst (v := 0) dX5_last_64 rfl (by decide) ?_
          refine j_istore (L' := [(5, _), (4, _), (3, _), (0, _), (1, _), (2, _)]) dX5_last_65 rfl (by decide) rfl ?_
          refine j_sub (L' := [(0, _), (1, _), (2, _), (3, _), (4, _), (5, _)]) [3, 4, 5, 2, 1, 0] rfl ?_
          exact tX5_last_b67   _ _ _ _ _ _ _  hm
        · have hm := jif_pos c6 hm
          refine j_aload_n dX5_last_52 rfl rfl ?_
          refine j_ldc dX5_last_53 rfl wX5_127 ?_
          obtain ⟨p7, ep7, hm⟩ := jb_of hm
          refine o_callV_i kX5_60 dX5_last_55 rfl (tX5_finds  ep7) rfl rfl rfl rfl rfl (Nat.le_of_ble_eq_true rfl) (by decide) ?_
          exact j_ireturn dX5_last_58 rfl rfl ⟨Nat.le_refl _, Nat.le_refl _⟩ (jf_m (fun z => .int z) hm)
      · have hm := jif_pos c4 hm
        refine j_aload_n dX5_last_33 rfl rfl ?_
        refine j_ldc dX5_last_34 rfl wX5_114 ?_
        obtain ⟨p8, ep8, hm⟩ := jb_of hm
        refine o_callV_i kX5_60 dX5_last_36 rfl (tX5_finds  ep8) rfl rfl rfl rfl rfl (Nat.le_of_ble_eq_true rfl) (by decide) ?_
        exact j_ireturn dX5_last_39 rfl rfl ⟨Nat.le_refl _, Nat.le_refl _⟩ (jf_m (fun z => .int z) hm)
    · have hm := jif_pos c2 hm
      refine j_sub (L' := [(0, _)]) [0] rfl ?_
      exact tX5_last_b18    hm
theorem dX5_giveUp_0 : decode cX5_giveUp 0 = .ok (.iload_n 1, 1) := by decide +kernel
theorem dX5_giveUp_1 : decode cX5_giveUp 1 = .ok (.i2l, 1) := by decide +kernel
theorem dX5_giveUp_2 : decode cX5_giveUp 2 = .ok (.lconst 0, 1) := by decide +kernel
theorem dX5_giveUp_3 : decode cX5_giveUp 3 = .ok (.ldc2_w 173, 3) := by decide +kernel
theorem dX5_giveUp_6 : decode cX5_giveUp 6 = .ok (.invokestatic 54, 3) := by decide +kernel
theorem dX5_giveUp_9 : decode cX5_giveUp 9 = .ok (.ifCond .ne 10, 3) := by decide +kernel
theorem dX5_giveUp_12 : decode cX5_giveUp 12 = .ok (.aload_n 0, 1) := by decide +kernel
theorem dX5_giveUp_13 : decode cX5_giveUp 13 = .ok (.ldc 44, 2) := by decide +kernel
theorem dX5_giveUp_15 : decode cX5_giveUp 15 = .ok (.invokevirtual 60, 3) := by decide +kernel
theorem dX5_giveUp_18 : decode cX5_giveUp 18 = .ok (.ireturn, 1) := by decide +kernel
theorem dX5_giveUp_19 : decode cX5_giveUp 19 = .ok (.aload_n 0, 1) := by decide +kernel
theorem dX5_giveUp_20 : decode cX5_giveUp 20 = .ok (.invokevirtual 170, 3) := by decide +kernel
theorem dX5_giveUp_23 : decode cX5_giveUp 23 = .ok (.ifCond .lt 11, 3) := by decide +kernel
theorem dX5_giveUp_26 : decode cX5_giveUp 26 = .ok (.aload_n 0, 1) := by decide +kernel
theorem dX5_giveUp_27 : decode cX5_giveUp 27 = .ok (.getfield 167, 3) := by decide +kernel
theorem dX5_giveUp_30 : decode cX5_giveUp 30 = .ok (.iload_n 1, 1) := by decide +kernel
theorem dX5_giveUp_31 : decode cX5_giveUp 31 = .ok (.if_icmp .le 7, 3) := by decide +kernel
theorem dX5_giveUp_34 : decode cX5_giveUp 34 = .ok (.iconst 1, 1) := by decide +kernel
theorem dX5_giveUp_35 : decode cX5_giveUp 35 = .ok (.goto 4, 3) := by decide +kernel
theorem dX5_giveUp_38 : decode cX5_giveUp 38 = .ok (.iconst 0, 1) := by decide +kernel
theorem dX5_giveUp_39 : decode cX5_giveUp 39 = .ok (.ireturn, 1) := by decide +kernel
def mX5_giveUp (a1 : Int32) (V : jMem) : Option (Int32 × jMem) := (if (mX5_isIn (Int32.toInt64 a1) (0 : Int64) (9999999 : Int64)) = (0 : Int32) then ((mX5_finds (-1000000001 : Int32) V).bind (fun (p5 : Int32 × jMem) => (some (p5.1, p5.2)))) else ((mX5_bestStrip V).bind (fun (p2 : Int32 × jMem) => (if p2.1 < (0 : Int32) then (some ((1 : Int32), p2.2)) else (if (p2.2.1 0 15) ≤ a1 then (some ((0 : Int32), p2.2)) else (some ((1 : Int32), p2.2)))))))
set_option maxHeartbeats 4000000 in
set_option maxRecDepth 20000 in
theorem tX5_giveUp {l : Launch} {Z : jZ} {q : Nat → Nat} {a1 : Int32} {V : jMem} {r : Int32} {V' : jMem}  (hm : mX5_giveUp a1 V = some (r, V')) : CtD l Z yX5_giveUp cX5_giveUp 2 (some .int) 7 q dM [.ref (q 0), .int a1] V (some (.int r)) V' := by
  refine Ct_of (L := [(0, .ref (q 0)), (1, .int a1)]) (own := RX5) (nm := "giveUp") rfl rfl (by decide +kernel) rfl (Nat.le_of_ble_eq_true rfl) ?_
  unfold mX5_giveUp at hm
  refine j_iload_n dX5_giveUp_0 rfl rfl ?_
  refine j_i2l dX5_giveUp_1 rfl ?_
  refine j_lconst (v := 0) dX5_giveUp_2 rfl (by decide) ?_
  refine j_ldc2 dX5_giveUp_3 rfl wX5_173 ?_
  refine o_callS_i kX5_54 dX5_giveUp_6 rfl (tX5_isIn  rfl) rfl rfl (Nat.le_of_ble_eq_true rfl) (by decide) ?_
  refine j_if_ne (tgt := 19) dX5_giveUp_9 rfl (by decide) (fun c1 => ?_) (fun c1 => ?_)
  · have hm := jif_neg c1 hm
    refine j_aload_n dX5_giveUp_19 rfl rfl ?_
    obtain ⟨p2, ep2, hm⟩ := jb_of hm
    refine o_callV_i kX5_170 dX5_giveUp_20 rfl (tX5_bestStrip  ep2) rfl rfl rfl rfl rfl (Nat.le_of_ble_eq_true rfl) (by decide) ?_
    refine j_if_lt (tgt := 34) dX5_giveUp_23 rfl (by decide) (fun c3 => ?_) (fun c3 => ?_)
    · have hm := jif_pos c3 hm
      refine j_iconst (v := 1) dX5_giveUp_34 rfl (by decide) ?_
      refine j_goto (tgt := 39) dX5_giveUp_35 (by decide) ?_
      exact j_ireturn dX5_giveUp_39 rfl rfl ⟨Nat.le_refl _, Nat.le_refl _⟩ (jf_m (fun z => .int z) hm)
    · have hm := jif_neg c3 hm
      refine j_aload_n dX5_giveUp_26 rfl rfl ?_
      refine m_geti (k := 15) fX5_167 dX5_giveUp_27 rfl rfl rfl ?_
      refine j_iload_n dX5_giveUp_30 rfl rfl ?_
      refine j_icmp_le (tgt := 38) dX5_giveUp_31 rfl (by decide) (fun c4 => ?_) (fun c4 => ?_)
      · have hm := jif_pos c4 hm
        refine j_iconst (v := 0) dX5_giveUp_38 rfl (by decide) ?_
        exact j_ireturn dX5_giveUp_39 rfl rfl ⟨Nat.le_refl _, Nat.le_refl _⟩ (jf_m (fun z => .int z) hm)
      · have hm := jif_neg c4 hm
        refine j_iconst (v := 1) dX5_giveUp_34 rfl (by decide) ?_
        refine j_goto (tgt := 39) dX5_giveUp_35 (by decide) ?_
        exact j_ireturn dX5_giveUp_39 rfl rfl ⟨Nat.le_refl _, Nat.le_refl _⟩ (jf_m (fun z => .int z) hm)
  · have hm := jif_pos c1 hm
    refine j_aload_n dX5_giveUp_12 rfl rfl ?_
    refine j_ldc dX5_giveUp_13 rfl wX5_44 ?_
    obtain ⟨p5, ep5, hm⟩ := jb_of hm
    refine o_callV_i kX5_60 dX5_giveUp_15 rfl (tX5_finds  ep5) rfl rfl rfl rfl rfl (Nat.le_of_ble_eq_true rfl) (by decide) ?_
    exact j_ireturn dX5_giveUp_18 rfl rfl ⟨Nat.le_refl _, Nat.le_refl _⟩ (jf_m (fun z => .int z) hm)
theorem dX5_rights_0 : decode cX5_rights 0 = .ok (.aload_n 0, 1) := by decide +kernel
theorem dX5_rights_1 : decode cX5_rights 1 = .ok (.iload_n 1, 1) := by decide +kernel
theorem dX5_rights_2 : decode cX5_rights 2 = .ok (.invokevirtual 141, 3) := by decide +kernel
theorem dX5_rights_5 : decode cX5_rights 5 = .ok (.ifCond .ne 10, 3) := by decide +kernel
theorem dX5_rights_8 : decode cX5_rights 8 = .ok (.aload_n 0, 1) := by decide +kernel
theorem dX5_rights_9 : decode cX5_rights 9 = .ok (.ldc 44, 2) := by decide +kernel
theorem dX5_rights_11 : decode cX5_rights 11 = .ok (.invokevirtual 60, 3) := by decide +kernel
theorem dX5_rights_14 : decode cX5_rights 14 = .ok (.ireturn, 1) := by decide +kernel
theorem dX5_rights_15 : decode cX5_rights 15 = .ok (.aload_n 0, 1) := by decide +kernel
theorem dX5_rights_16 : decode cX5_rights 16 = .ok (.iload_n 1, 1) := by decide +kernel
theorem dX5_rights_17 : decode cX5_rights 17 = .ok (.invokevirtual 149, 3) := by decide +kernel
theorem dX5_rights_20 : decode cX5_rights 20 = .ok (.ifCond .ne 10, 3) := by decide +kernel
theorem dX5_rights_23 : decode cX5_rights 23 = .ok (.aload_n 0, 1) := by decide +kernel
theorem dX5_rights_24 : decode cX5_rights 24 = .ok (.ldc 114, 2) := by decide +kernel
theorem dX5_rights_26 : decode cX5_rights 26 = .ok (.invokevirtual 60, 3) := by decide +kernel
theorem dX5_rights_29 : decode cX5_rights 29 = .ok (.ireturn, 1) := by decide +kernel
theorem dX5_rights_30 : decode cX5_rights 30 = .ok (.aload_n 0, 1) := by decide +kernel
theorem dX5_rights_31 : decode cX5_rights 31 = .ok (.iload_n 1, 1) := by decide +kernel
theorem dX5_rights_32 : decode cX5_rights 32 = .ok (.invokevirtual 159, 3) := by decide +kernel
theorem dX5_rights_35 : decode cX5_rights 35 = .ok (.aload_n 0, 1) := by decide +kernel
theorem dX5_rights_36 : decode cX5_rights 36 = .ok (.getfield 7, 3) := by decide +kernel
theorem dX5_rights_39 : decode cX5_rights 39 = .ok (.bipush 108, 2) := by decide +kernel
theorem dX5_rights_41 : decode cX5_rights 41 = .ok (.iconst 2, 1) := by decide +kernel
theorem dX5_rights_42 : decode cX5_rights 42 = .ok (.iload_n 1, 1) := by decide +kernel
theorem dX5_rights_43 : decode cX5_rights 43 = .ok (.imul, 1) := by decide +kernel
theorem dX5_rights_44 : decode cX5_rights 44 = .ok (.iadd, 1) := by decide +kernel
theorem dX5_rights_45 : decode cX5_rights 45 = .ok (.iconst 1, 1) := by decide +kernel
theorem dX5_rights_46 : decode cX5_rights 46 = .ok (.iadd, 1) := by decide +kernel
theorem dX5_rights_47 : decode cX5_rights 47 = .ok (.iaload, 1) := by decide +kernel
theorem dX5_rights_48 : decode cX5_rights 48 = .ok (.istore_n 2, 1) := by decide +kernel
theorem dX5_rights_49 : decode cX5_rights 49 = .ok (.iconst 0, 1) := by decide +kernel
theorem dX5_rights_50 : decode cX5_rights 50 = .ok (.istore_n 3, 1) := by decide +kernel
theorem dX5_rights_51 : decode cX5_rights 51 = .ok (.iload_n 3, 1) := by decide +kernel
theorem dX5_rights_52 : decode cX5_rights 52 = .ok (.aload_n 0, 1) := by decide +kernel
theorem dX5_rights_53 : decode cX5_rights 53 = .ok (.getfield 152, 3) := by decide +kernel
theorem dX5_rights_56 : decode cX5_rights 56 = .ok (.if_icmp .ge 32, 3) := by decide +kernel
theorem dX5_rights_59 : decode cX5_rights 59 = .ok (.aload_n 0, 1) := by decide +kernel
theorem dX5_rights_60 : decode cX5_rights 60 = .ok (.aload_n 0, 1) := by decide +kernel
theorem dX5_rights_61 : decode cX5_rights 61 = .ok (.getfield 35, 3) := by decide +kernel
theorem dX5_rights_64 : decode cX5_rights 64 = .ok (.iload_n 3, 1) := by decide +kernel
theorem dX5_rights_65 : decode cX5_rights 65 = .ok (.iaload, 1) := by decide +kernel
theorem dX5_rights_66 : decode cX5_rights 66 = .ok (.invokevirtual 88, 3) := by decide +kernel
theorem dX5_rights_69 : decode cX5_rights 69 = .ok (.istore 4, 2) := by decide +kernel
theorem dX5_rights_71 : decode cX5_rights 71 = .ok (.iload_n 2, 1) := by decide +kernel
theorem dX5_rights_72 : decode cX5_rights 72 = .ok (.iload 4, 2) := by decide +kernel
theorem dX5_rights_74 : decode cX5_rights 74 = .ok (.iload 4, 2) := by decide +kernel
theorem dX5_rights_76 : decode cX5_rights 76 = .ok (.invokestatic 124, 3) := by decide +kernel
theorem dX5_rights_79 : decode cX5_rights 79 = .ok (.iadd, 1) := by decide +kernel
theorem dX5_rights_80 : decode cX5_rights 80 = .ok (.iadd, 1) := by decide +kernel
theorem dX5_rights_81 : decode cX5_rights 81 = .ok (.istore_n 2, 1) := by decide +kernel
theorem dX5_rights_82 : decode cX5_rights 82 = .ok (.iinc 3 1, 3) := by decide +kernel
theorem dX5_rights_85 : decode cX5_rights 85 = .ok (.goto (-34), 3) := by decide +kernel
theorem dX5_rights_88 : decode cX5_rights 88 = .ok (.iload_n 2, 1) := by decide +kernel
theorem dX5_rights_89 : decode cX5_rights 89 = .ok (.ireturn, 1) := by decide +kernel
def mX5_rights_b51   : Nat → Int32 → Int32 → jMem → Option (Int32 × jMem)
  | 0, _, _, _ => none
  | n + 1, a2, a3, V => (if (V.1 0 13) ≤ a3 then (some (a2, V)) else (jg (jin a3 14) ((mX5_asksNow (V.1 9 (Int32.toNatClampNeg a3)) V).bind (fun (r3 : Int32) => (mX5_rights_b51 n (a2 + (r3 + (mX5_paperFor r3))) (a3 + (1 : Int32)) V)))))
set_option maxHeartbeats 4000000 in
set_option maxRecDepth 20000 in
theorem tX5_rights_b51 {l : Launch} {Z : jZ} {q : Nat → Nat}  {r : Int32} {V' : jMem}   (n : Nat) : ∀ (a2 : Int32) (a3 : Int32) (V : jMem), mX5_rights_b51 n a2 a3 V = some (r, V') → J l Z RX5 "rights" cX5_rights 5 (some .int) 5 0 0 (fun r' w => r' = some (.int r) ∧ w = jw Z q V' dM) 51 [(0, .ref (q 0)), (2, .int a2), (3, .int a3)] [] (jw Z q V dM) 0 0 := by
  induction n with
  | zero => intro a2 a3 V hm; cases hm
  | succ n ih =>
    intro a2 a3 V hm
    rw [mX5_rights_b51] at hm
    refine j_iload_n dX5_rights_51 rfl rfl ?_
    refine j_aload_n dX5_rights_52 rfl rfl ?_
    refine m_geti (k := 13) fX5_152 dX5_rights_53 rfl rfl rfl ?_
    refine j_icmp_ge (tgt := 88) dX5_rights_56 rfl (by decide) (fun c1 => ?_) (fun c1 => ?_)
    · have hm := jif_pos c1 hm
      refine j_iload_n dX5_rights_88 rfl rfl ?_
      exact j_ireturn dX5_rights_89 rfl rfl ⟨Nat.le_refl _, Nat.le_refl _⟩ (jf_m (fun z => .int z) hm)
    · have hm := jif_neg c1 hm
      refine j_aload_n dX5_rights_59 rfl rfl ?_
      refine j_aload_n dX5_rights_60 rfl rfl ?_
      refine m_getr (k := 12) (r := 9) fX5_35 dX5_rights_61 rfl rfl rfl ?_
      refine j_iload_n dX5_rights_64 rfl rfl ?_
      obtain ⟨g2, hm⟩ := jg_of hm
      refine o_iald (k := (Int32.toNatClampNeg a3)) rfl dX5_rights_65 rfl rfl (jin_vp g2) ?_
      obtain ⟨r3, er3, hm⟩ := jb_of hm
      refine o_callV_i kX5_88 dX5_rights_66 rfl (tX5_asksNow  er3) rfl rfl rfl rfl rfl (Nat.le_of_ble_eq_true rfl) (by decide) ?_
      refine j_istore (L' := [(4, _), (0, _), (2, _), (3, _)]) dX5_rights_69 rfl (by decide) rfl ?_
      refine j_iload_n dX5_rights_71 rfl rfl ?_
      refine j_iload dX5_rights_72 rfl rfl ?_
      refine j_iload dX5_rights_74 rfl rfl ?_
      refine o_callS_i kX5_124 dX5_rights_76 rfl (tX5_paperFor  rfl) rfl rfl (Nat.le_of_ble_eq_true rfl) (by decide) ?_
      refine j_iadd dX5_rights_79 rfl ?_
      refine j_iadd dX5_rights_80 rfl ?_
      refine j_istore_n (i := 2) (L' := [(2, _), (4, _), (0, _), (3, _)]) dX5_rights_81 rfl rfl (by decide) rfl ?_
      refine j_iinc (v := (a3 + (1 : Int32))) (L' := [(3, _), (2, _), (4, _), (0, _)]) dX5_rights_82 rfl rfl rfl (by decide) rfl ?_
      refine j_goto (tgt := 51) dX5_rights_85 (by decide) ?_
      refine j_sub (L' := [(0, _), (2, _), (3, _)]) [3, 1, 0] rfl ?_
      exact ih _ _ _  hm
def mX5_rights (a1 : Int32) (V : jMem) : Option (Int32 × jMem) := (if (mX5_isStrip a1 V) = (0 : Int32) then ((mX5_finds (-1000000001 : Int32) V).bind (fun (p8 : Int32 × jMem) => (some (p8.1, p8.2)))) else ((mX5_canBe a1 V).bind (fun (r2 : Int32) => (if r2 = (0 : Int32) then ((mX5_finds (-1000000005 : Int32) V).bind (fun (p7 : Int32 × jMem) => (some (p7.1, p7.2)))) else ((mX5_findWanted a1 V).bind (fun (p4 : jMem) => (jg (jin (((108 : Int32) + ((2 : Int32) * a1)) + (1 : Int32)) 120) (jl (p4.1 1 (Int32.toNatClampNeg (((108 : Int32) + ((2 : Int32) * a1)) + (1 : Int32)))) (fun (v6 : Int32) => (mX5_rights_b51 2000 v6 (0 : Int32) p4))))))))))
set_option maxHeartbeats 4000000 in
set_option maxRecDepth 20000 in
theorem tX5_rights {l : Launch} {Z : jZ} {q : Nat → Nat} {a1 : Int32} {V : jMem} {r : Int32} {V' : jMem}  (hm : mX5_rights a1 V = some (r, V')) : CtD l Z yX5_rights cX5_rights 5 (some .int) 5 q dM [.ref (q 0), .int a1] V (some (.int r)) V' := by
  refine Ct_of (L := [(0, .ref (q 0)), (1, .int a1)]) (own := RX5) (nm := "rights") rfl rfl (by decide +kernel) rfl (Nat.le_of_ble_eq_true rfl) ?_
  unfold mX5_rights at hm
  refine j_aload_n dX5_rights_0 rfl rfl ?_
  refine j_iload_n dX5_rights_1 rfl rfl ?_
  refine o_callV_i kX5_141 dX5_rights_2 rfl (tX5_isStrip  rfl) rfl rfl rfl rfl rfl (Nat.le_of_ble_eq_true rfl) (by decide) ?_
  refine j_if_ne (tgt := 15) dX5_rights_5 rfl (by decide) (fun c1 => ?_) (fun c1 => ?_)
  · have hm := jif_neg c1 hm
    refine j_aload_n dX5_rights_15 rfl rfl ?_
    refine j_iload_n dX5_rights_16 rfl rfl ?_
    obtain ⟨r2, er2, hm⟩ := jb_of hm
    refine o_callV_i kX5_149 dX5_rights_17 rfl (tX5_canBe  er2) rfl rfl rfl rfl rfl (Nat.le_of_ble_eq_true rfl) (by decide) ?_
    refine j_if_ne (tgt := 30) dX5_rights_20 rfl (by decide) (fun c3 => ?_) (fun c3 => ?_)
    · have hm := jif_neg c3 hm
      refine j_aload_n dX5_rights_30 rfl rfl ?_
      refine j_iload_n dX5_rights_31 rfl rfl ?_
      obtain ⟨p4, ep4, hm⟩ := jb_of hm
      refine o_callV_v kX5_159 dX5_rights_32 rfl (tX5_findWanted  ep4) rfl rfl rfl rfl rfl (Nat.le_of_ble_eq_true rfl) (by decide) ?_
      refine j_aload_n dX5_rights_35 rfl rfl ?_
      refine m_getr (k := 0) (r := 1) fX5_7 dX5_rights_36 rfl rfl rfl ?_
      refine j_bipush (v := 108) dX5_rights_39 rfl (by decide) ?_
      refine j_iconst (v := 2) dX5_rights_41 rfl (by decide) ?_
      refine j_iload_n dX5_rights_42 rfl rfl ?_
      refine j_imul dX5_rights_43 rfl ?_
      refine j_iadd dX5_rights_44 rfl ?_
      refine j_iconst (v := 1) dX5_rights_45 rfl (by decide) ?_
      refine j_iadd dX5_rights_46 rfl ?_
      obtain ⟨g5, hm⟩ := jg_of hm
      refine o_iald (k := (Int32.toNatClampNeg (((108 : Int32) + ((2 : Int32) * a1)) + (1 : Int32)))) rfl dX5_rights_47 rfl rfl (jin_vp g5) ?_
      obtain ⟨v6, ev6⟩ : ∃ y, y = ((p4.1 1 (Int32.toNatClampNeg (((108 : Int32) + ((2 : Int32) * a1)) + (1 : Int32)))) : Int32) := ⟨_, rfl⟩
      have hm := jl_of hm ev6
      rw [← ev6]
      refine j_istore_n (i := 2) (L' := [(2, _), (0, _), (1, _)]) dX5_rights_48 rfl rfl (by decide) rfl ?_
      refine j_iconst (v := 0) dX5_rights_49 rfl (by decide) ?_
      refine j_istore_n (i := 3) (L' := [(3, _), (2, _), (0, _), (1, _)]) dX5_rights_50 rfl rfl (by decide) rfl ?_
      refine j_sub (L' := [(0, _), (2, _), (3, _)]) [2, 1, 0] rfl ?_
      exact tX5_rights_b51   _ _ _ _  hm
    · have hm := jif_pos c3 hm
      refine j_aload_n dX5_rights_23 rfl rfl ?_
      refine j_ldc dX5_rights_24 rfl wX5_114 ?_
      obtain ⟨p7, ep7, hm⟩ := jb_of hm
      refine o_callV_i kX5_60 dX5_rights_26 rfl (tX5_finds  ep7) rfl rfl rfl rfl rfl (Nat.le_of_ble_eq_true rfl) (by decide) ?_
      exact j_ireturn dX5_rights_29 rfl rfl ⟨Nat.le_refl _, Nat.le_refl _⟩ (jf_m (fun z => .int z) hm)
  · have hm := jif_pos c1 hm
    refine j_aload_n dX5_rights_8 rfl rfl ?_
    refine j_ldc dX5_rights_9 rfl wX5_44 ?_
    obtain ⟨p8, ep8, hm⟩ := jb_of hm
    refine o_callV_i kX5_60 dX5_rights_11 rfl (tX5_finds  ep8) rfl rfl rfl rfl rfl (Nat.le_of_ble_eq_true rfl) (by decide) ?_
    exact j_ireturn dX5_rights_14 rfl rfl ⟨Nat.le_refl _, Nat.le_refl _⟩ (jf_m (fun z => .int z) hm)
theorem dX5_share_0 : decode cX5_share 0 = .ok (.aload_n 0, 1) := by decide +kernel
theorem dX5_share_1 : decode cX5_share 1 = .ok (.iload_n 1, 1) := by decide +kernel
theorem dX5_share_2 : decode cX5_share 2 = .ok (.invokevirtual 141, 3) := by decide +kernel
theorem dX5_share_5 : decode cX5_share 5 = .ok (.ifCond .eq 24, 3) := by decide +kernel
theorem dX5_share_8 : decode cX5_share 8 = .ok (.iload_n 2, 1) := by decide +kernel
theorem dX5_share_9 : decode cX5_share 9 = .ok (.i2l, 1) := by decide +kernel
theorem dX5_share_10 : decode cX5_share 10 = .ok (.lconst 0, 1) := by decide +kernel
theorem dX5_share_11 : decode cX5_share 11 = .ok (.ldc2_w 173, 3) := by decide +kernel
theorem dX5_share_14 : decode cX5_share 14 = .ok (.invokestatic 54, 3) := by decide +kernel
theorem dX5_share_17 : decode cX5_share 17 = .ok (.ifCond .eq 12, 3) := by decide +kernel
theorem dX5_share_20 : decode cX5_share 20 = .ok (.aload_n 0, 1) := by decide +kernel
theorem dX5_share_21 : decode cX5_share 21 = .ok (.iload_n 3, 1) := by decide +kernel
theorem dX5_share_22 : decode cX5_share 22 = .ok (.i2l, 1) := by decide +kernel
theorem dX5_share_23 : decode cX5_share 23 = .ok (.invokevirtual 82, 3) := by decide +kernel
theorem dX5_share_26 : decode cX5_share 26 = .ok (.ifCond .ne 10, 3) := by decide +kernel
theorem dX5_share_29 : decode cX5_share 29 = .ok (.aload_n 0, 1) := by decide +kernel
theorem dX5_share_30 : decode cX5_share 30 = .ok (.ldc 44, 2) := by decide +kernel
theorem dX5_share_32 : decode cX5_share 32 = .ok (.invokevirtual 60, 3) := by decide +kernel
theorem dX5_share_35 : decode cX5_share 35 = .ok (.ireturn, 1) := by decide +kernel
theorem dX5_share_36 : decode cX5_share 36 = .ok (.aload_n 0, 1) := by decide +kernel
theorem dX5_share_37 : decode cX5_share 37 = .ok (.iload_n 1, 1) := by decide +kernel
theorem dX5_share_38 : decode cX5_share 38 = .ok (.iconst 0, 1) := by decide +kernel
theorem dX5_share_39 : decode cX5_share 39 = .ok (.invokevirtual 138, 3) := by decide +kernel
theorem dX5_share_42 : decode cX5_share 42 = .ok (.istore 4, 2) := by decide +kernel
theorem dX5_share_44 : decode cX5_share 44 = .ok (.iload 4, 2) := by decide +kernel
theorem dX5_share_46 : decode cX5_share 46 = .ok (.iload_n 3, 1) := by decide +kernel
theorem dX5_share_47 : decode cX5_share 47 = .ok (.ishr, 1) := by decide +kernel
theorem dX5_share_48 : decode cX5_share 48 = .ok (.iconst 1, 1) := by decide +kernel
theorem dX5_share_49 : decode cX5_share 49 = .ok (.iand, 1) := by decide +kernel
theorem dX5_share_50 : decode cX5_share 50 = .ok (.ifCond .ne 10, 3) := by decide +kernel
theorem dX5_share_53 : decode cX5_share 53 = .ok (.aload_n 0, 1) := by decide +kernel
theorem dX5_share_54 : decode cX5_share 54 = .ok (.ldc 114, 2) := by decide +kernel
theorem dX5_share_56 : decode cX5_share 56 = .ok (.invokevirtual 60, 3) := by decide +kernel
theorem dX5_share_59 : decode cX5_share 59 = .ok (.ireturn, 1) := by decide +kernel
theorem dX5_share_60 : decode cX5_share 60 = .ok (.lconst 0, 1) := by decide +kernel
theorem dX5_share_61 : decode cX5_share 61 = .ok (.lstore 5, 2) := by decide +kernel
theorem dX5_share_63 : decode cX5_share 63 = .ok (.iconst 0, 1) := by decide +kernel
theorem dX5_share_64 : decode cX5_share 64 = .ok (.istore 7, 2) := by decide +kernel
theorem dX5_share_66 : decode cX5_share 66 = .ok (.iload 7, 2) := by decide +kernel
theorem dX5_share_68 : decode cX5_share 68 = .ok (.aload_n 0, 1) := by decide +kernel
theorem dX5_share_69 : decode cX5_share 69 = .ok (.getfield 7, 3) := by decide +kernel
theorem dX5_share_72 : decode cX5_share 72 = .ok (.iconst 0, 1) := by decide +kernel
theorem dX5_share_73 : decode cX5_share 73 = .ok (.iaload, 1) := by decide +kernel
theorem dX5_share_74 : decode cX5_share 74 = .ok (.if_icmp .ge 37, 3) := by decide +kernel
theorem dX5_share_77 : decode cX5_share 77 = .ok (.lload 5, 2) := by decide +kernel
theorem dX5_share_79 : decode cX5_share 79 = .ok (.iload 4, 2) := by decide +kernel
theorem dX5_share_81 : decode cX5_share 81 = .ok (.iload 7, 2) := by decide +kernel
theorem dX5_share_83 : decode cX5_share 83 = .ok (.ishr, 1) := by decide +kernel
theorem dX5_share_84 : decode cX5_share 84 = .ok (.iconst 1, 1) := by decide +kernel
theorem dX5_share_85 : decode cX5_share 85 = .ok (.iand, 1) := by decide +kernel
theorem dX5_share_86 : decode cX5_share 86 = .ok (.iconst 1, 1) := by decide +kernel
theorem dX5_share_87 : decode cX5_share 87 = .ok (.if_icmp .ne 14, 3) := by decide +kernel
theorem dX5_share_90 : decode cX5_share 90 = .ok (.aload_n 0, 1) := by decide +kernel
theorem dX5_share_91 : decode cX5_share 91 = .ok (.iload 7, 2) := by decide +kernel
theorem dX5_share_93 : decode cX5_share 93 = .ok (.iconst 1, 1) := by decide +kernel
theorem dX5_share_94 : decode cX5_share 94 = .ok (.invokevirtual 45, 3) := by decide +kernel
theorem dX5_share_97 : decode cX5_share 97 = .ok (.i2l, 1) := by decide +kernel
theorem dX5_share_98 : decode cX5_share 98 = .ok (.goto 4, 3) := by decide +kernel
theorem dX5_share_101 : decode cX5_share 101 = .ok (.lconst 0, 1) := by decide +kernel
theorem dX5_share_102 : decode cX5_share 102 = .ok (.ladd, 1) := by decide +kernel
theorem dX5_share_103 : decode cX5_share 103 = .ok (.lstore 5, 2) := by decide +kernel
theorem dX5_share_105 : decode cX5_share 105 = .ok (.iinc 7 1, 3) := by decide +kernel
theorem dX5_share_108 : decode cX5_share 108 = .ok (.goto (-42), 3) := by decide +kernel
theorem dX5_share_111 : decode cX5_share 111 = .ok (.iload_n 2, 1) := by decide +kernel
theorem dX5_share_112 : decode cX5_share 112 = .ok (.i2l, 1) := by decide +kernel
theorem dX5_share_113 : decode cX5_share 113 = .ok (.lload 5, 2) := by decide +kernel
theorem dX5_share_115 : decode cX5_share 115 = .ok (.lcmp, 1) := by decide +kernel
theorem dX5_share_116 : decode cX5_share 116 = .ok (.ifCond .ge 10, 3) := by decide +kernel
theorem dX5_share_119 : decode cX5_share 119 = .ok (.aload_n 0, 1) := by decide +kernel
theorem dX5_share_120 : decode cX5_share 120 = .ok (.ldc 127, 2) := by decide +kernel
theorem dX5_share_122 : decode cX5_share 122 = .ok (.invokevirtual 60, 3) := by decide +kernel
theorem dX5_share_125 : decode cX5_share 125 = .ok (.ireturn, 1) := by decide +kernel
theorem dX5_share_126 : decode cX5_share 126 = .ok (.aload_n 0, 1) := by decide +kernel
theorem dX5_share_127 : decode cX5_share 127 = .ok (.iload_n 3, 1) := by decide +kernel
theorem dX5_share_128 : decode cX5_share 128 = .ok (.iconst 1, 1) := by decide +kernel
theorem dX5_share_129 : decode cX5_share 129 = .ok (.invokevirtual 45, 3) := by decide +kernel
theorem dX5_share_132 : decode cX5_share 132 = .ok (.i2l, 1) := by decide +kernel
theorem dX5_share_133 : decode cX5_share 133 = .ok (.lstore 7, 2) := by decide +kernel
theorem dX5_share_135 : decode cX5_share 135 = .ok (.lload 7, 2) := by decide +kernel
theorem dX5_share_137 : decode cX5_share 137 = .ok (.iload_n 2, 1) := by decide +kernel
theorem dX5_share_138 : decode cX5_share 138 = .ok (.i2l, 1) := by decide +kernel
theorem dX5_share_139 : decode cX5_share 139 = .ok (.lload 5, 2) := by decide +kernel
theorem dX5_share_141 : decode cX5_share 141 = .ok (.lsub, 1) := by decide +kernel
theorem dX5_share_142 : decode cX5_share 142 = .ok (.lload 7, 2) := by decide +kernel
theorem dX5_share_144 : decode cX5_share 144 = .ok (.lmul, 1) := by decide +kernel
theorem dX5_share_145 : decode cX5_share 145 = .ok (.lload 5, 2) := by decide +kernel
theorem dX5_share_147 : decode cX5_share 147 = .ok (.ldiv, 1) := by decide +kernel
theorem dX5_share_148 : decode cX5_share 148 = .ok (.ladd, 1) := by decide +kernel
theorem dX5_share_149 : decode cX5_share 149 = .ok (.l2i, 1) := by decide +kernel
theorem dX5_share_150 : decode cX5_share 150 = .ok (.ireturn, 1) := by decide +kernel
def mX5_share_b29   (V : jMem) : Option (Int32 × jMem) := ((mX5_finds (-1000000001 : Int32) V).bind (fun (p1 : Int32 × jMem) => (some (p1.1, p1.2))))
set_option maxHeartbeats 4000000 in
set_option maxRecDepth 20000 in
theorem tX5_share_b29 {l : Launch} {Z : jZ} {q : Nat → Nat} {V : jMem} {r : Int32} {V' : jMem}    (hm : mX5_share_b29 V = some (r, V')) : J l Z RX5 "share" cX5_share 9 (some .int) 2 0 0 (fun r' w => r' = some (.int r) ∧ w = jw Z q V' dM) 29 [(0, .ref (q 0))] [] (jw Z q V dM) 0 0 := by
  unfold mX5_share_b29 at hm
  refine j_aload_n dX5_share_29 rfl rfl ?_
  refine j_ldc dX5_share_30 rfl wX5_44 ?_
  obtain ⟨p1, ep1, hm⟩ := jb_of hm
  refine o_callV_i kX5_60 dX5_share_32 rfl (tX5_finds  ep1) rfl rfl rfl rfl rfl (Nat.le_of_ble_eq_true rfl) (by decide) ?_
  exact j_ireturn dX5_share_35 rfl rfl ⟨Nat.le_refl _, Nat.le_refl _⟩ (jf_m (fun z => .int z) hm)
def mX5_share_b102  (k66 : Int32 → Int32 → Int32 → Int64 → Int32 → jMem → Option (Int32 × jMem)) (a2 : Int32) (a3 : Int32) (a4 : Int32) (a7 : Int32) (s0 : Int64) (s1 : Int64) (V : jMem) : Option (Int32 × jMem) := (k66 a2 a3 a4 (s1 + s0) (a7 + (1 : Int32)) V)
set_option maxHeartbeats 4000000 in
set_option maxRecDepth 20000 in
theorem tX5_share_b102 {l : Launch} {Z : jZ} {q : Nat → Nat} {k66 : Int32 → Int32 → Int32 → Int64 → Int32 → jMem → Option (Int32 × jMem)} {a2 : Int32} {a3 : Int32} {a4 : Int32} {a7 : Int32} {s0 : Int64} {s1 : Int64} {V : jMem} {r : Int32} {V' : jMem}   (hk66 : ∀ (a2 : Int32) (a3 : Int32) (a4 : Int32) (a5 : Int64) (a7 : Int32) (V : jMem), k66 a2 a3 a4 a5 a7 V = some (r, V') → J l Z RX5 "share" cX5_share 9 (some .int) 2 0 0 (fun r' w => r' = some (.int r) ∧ w = jw Z q V' dM) 66 [(0, .ref (q 0)), (2, .int a2), (3, .int a3), (4, .int a4), (5, .long a5), (7, .int a7)] [] (jw Z q V dM) 0 0) (hm : mX5_share_b102 k66 a2 a3 a4 a7 s0 s1 V = some (r, V')) : J l Z RX5 "share" cX5_share 9 (some .int) 2 0 0 (fun r' w => r' = some (.int r) ∧ w = jw Z q V' dM) 102 [(0, .ref (q 0)), (2, .int a2), (3, .int a3), (4, .int a4), (7, .int a7)] [.long s0, .long s1] (jw Z q V dM) 0 0 := by
  unfold mX5_share_b102 at hm
  refine j_ladd dX5_share_102 rfl ?_
  refine j_lstore (L' := [(5, _), (0, _), (2, _), (3, _), (4, _), (7, _)]) dX5_share_103 rfl (by decide) rfl ?_
  refine j_iinc (v := (a7 + (1 : Int32))) (L' := [(7, _), (5, _), (0, _), (2, _), (3, _), (4, _)]) dX5_share_105 rfl rfl rfl (by decide) rfl ?_
  refine j_goto (tgt := 66) dX5_share_108 (by decide) ?_
  refine j_sub (L' := [(0, _), (2, _), (3, _), (4, _), (5, _), (7, _)]) [2, 3, 4, 5, 1, 0] rfl ?_
  exact hk66 _ _ _ _ _ _  hm
def mX5_share_b66   : Nat → Int32 → Int32 → Int32 → Int64 → Int32 → jMem → Option (Int32 × jMem)
  | 0, _, _, _, _, _, _ => none
  | n + 1, a2, a3, a4, a5, a7, V => (if (V.1 1 0) ≤ a7 then (if (0 : Int32) ≤ (lg_cmp (Int32.toInt64 a2) a5) then ((mX5_has a3 (1 : Int32) V).bind (fun (r3 : Int32) => (jg (jnzl a5) (some ((Int64.toInt32 ((Int32.toInt64 r3) + ((((Int32.toInt64 a2) - a5) * (Int32.toInt64 r3)) / a5))), V))))) else ((mX5_finds (-1000000004 : Int32) V).bind (fun (p5 : Int32 × jMem) => (some (p5.1, p5.2))))) else (if ((a4 >>> (a7 &&& (31 : Int32))) &&& (1 : Int32)) = (1 : Int32) then ((mX5_has a7 (1 : Int32) V).bind (fun (r7 : Int32) => (mX5_share_b102 (mX5_share_b66 n) a2 a3 a4 a7 (Int32.toInt64 r7) a5 V))) else (mX5_share_b102 (mX5_share_b66 n) a2 a3 a4 a7 (0 : Int64) a5 V)))
set_option maxHeartbeats 4000000 in
set_option maxRecDepth 20000 in
theorem tX5_share_b66 {l : Launch} {Z : jZ} {q : Nat → Nat}  {r : Int32} {V' : jMem}   (n : Nat) : ∀ (a2 : Int32) (a3 : Int32) (a4 : Int32) (a5 : Int64) (a7 : Int32) (V : jMem), mX5_share_b66 n a2 a3 a4 a5 a7 V = some (r, V') → J l Z RX5 "share" cX5_share 9 (some .int) 2 0 0 (fun r' w => r' = some (.int r) ∧ w = jw Z q V' dM) 66 [(0, .ref (q 0)), (2, .int a2), (3, .int a3), (4, .int a4), (5, .long a5), (7, .int a7)] [] (jw Z q V dM) 0 0 := by
  induction n with
  | zero => intro a2 a3 a4 a5 a7 V hm; cases hm
  | succ n ih =>
    intro a2 a3 a4 a5 a7 V hm
    rw [mX5_share_b66] at hm
    refine j_iload dX5_share_66 rfl rfl ?_
    refine j_aload_n dX5_share_68 rfl rfl ?_
    refine m_getr (k := 0) (r := 1) fX5_7 dX5_share_69 rfl rfl rfl ?_
    refine j_iconst (v := 0) dX5_share_72 rfl (by decide) ?_
    refine o_iald (k := 0) (by decide) dX5_share_73 rfl rfl (jin_vp (by decide)) ?_
    refine j_icmp_ge (tgt := 111) dX5_share_74 rfl (by decide) (fun c1 => ?_) (fun c1 => ?_)
    · have hm := jif_pos c1 hm
      refine j_iload_n dX5_share_111 rfl rfl ?_
      refine j_i2l dX5_share_112 rfl ?_
      refine j_lload dX5_share_113 rfl rfl ?_
      refine j_lcmp dX5_share_115 rfl ?_
      refine j_if_ge (tgt := 126) dX5_share_116 rfl (by decide) (fun c2 => ?_) (fun c2 => ?_)
      · have hm := jif_pos c2 hm
        refine j_aload_n dX5_share_126 rfl rfl ?_
        refine j_iload_n dX5_share_127 rfl rfl ?_
        refine j_iconst (v := 1) dX5_share_128 rfl (by decide) ?_
        obtain ⟨r3, er3, hm⟩ := jb_of hm
        refine o_callV_i kX5_45 dX5_share_129 rfl (tX5_has  er3) rfl rfl rfl rfl rfl (Nat.le_of_ble_eq_true rfl) (by decide) ?_
        refine j_i2l dX5_share_132 rfl ?_
        refine j_lstore (L' := [(7, _), (0, _), (2, _), (3, _), (4, _), (5, _)]) dX5_share_133 rfl (by decide) rfl ?_
        refine j_lload dX5_share_135 rfl rfl ?_
        refine j_iload_n dX5_share_137 rfl rfl ?_
        refine j_i2l dX5_share_138 rfl ?_
        refine j_lload dX5_share_139 rfl rfl ?_
        refine j_lsub dX5_share_141 rfl ?_
        refine j_lload dX5_share_142 rfl rfl ?_
        refine j_lmul dX5_share_144 rfl ?_
        refine j_lload dX5_share_145 rfl rfl ?_
        obtain ⟨g4, hm⟩ := jg_of hm
        refine j_ldiv dX5_share_147 rfl (jnzl_of g4) ?_
        refine j_ladd dX5_share_148 rfl ?_
        refine j_l2i dX5_share_149 rfl ?_
        exact j_ireturn dX5_share_150 rfl rfl ⟨Nat.le_refl _, Nat.le_refl _⟩ (jf_m (fun z => .int z) hm)
      · have hm := jif_neg c2 hm
        refine j_aload_n dX5_share_119 rfl rfl ?_
        refine j_ldc dX5_share_120 rfl wX5_127 ?_
        obtain ⟨p5, ep5, hm⟩ := jb_of hm
        refine o_callV_i kX5_60 dX5_share_122 rfl (tX5_finds  ep5) rfl rfl rfl rfl rfl (Nat.le_of_ble_eq_true rfl) (by decide) ?_
        exact j_ireturn dX5_share_125 rfl rfl ⟨Nat.le_refl _, Nat.le_refl _⟩ (jf_m (fun z => .int z) hm)
    · have hm := jif_neg c1 hm
      refine j_lload dX5_share_77 rfl rfl ?_
      refine j_iload dX5_share_79 rfl rfl ?_
      refine j_iload dX5_share_81 rfl rfl ?_
      refine j_ishr dX5_share_83 rfl ?_
      refine j_iconst (v := 1) dX5_share_84 rfl (by decide) ?_
      refine j_iand dX5_share_85 rfl ?_
      refine j_iconst (v := 1) dX5_share_86 rfl (by decide) ?_
      refine j_icmp_ne (tgt := 101) dX5_share_87 rfl (by decide) (fun c6 => ?_) (fun c6 => ?_)
      · have hm := jif_neg c6 hm
        refine j_lconst (v := 0) dX5_share_101 rfl (by decide) ?_
        refine j_sub (L' := [(0, _), (2, _), (3, _), (4, _), (7, _)]) [0, 1, 2, 3, 5] rfl ?_
        exact tX5_share_b102   ih hm
      · have hm := jif_pos c6 hm
        refine j_aload_n dX5_share_90 rfl rfl ?_
        refine j_iload dX5_share_91 rfl rfl ?_
        refine j_iconst (v := 1) dX5_share_93 rfl (by decide) ?_
        obtain ⟨r7, er7, hm⟩ := jb_of hm
        refine o_callV_i kX5_45 dX5_share_94 rfl (tX5_has  er7) rfl rfl rfl rfl rfl (Nat.le_of_ble_eq_true rfl) (by decide) ?_
        refine j_i2l dX5_share_97 rfl ?_
        refine j_goto (tgt := 102) dX5_share_98 (by decide) ?_
        refine j_sub (L' := [(0, _), (2, _), (3, _), (4, _), (7, _)]) [0, 1, 2, 3, 5] rfl ?_
        exact tX5_share_b102   ih hm
def mX5_share (a1 : Int32) (a2 : Int32) (a3 : Int32) (V : jMem) : Option (Int32 × jMem) := (if (mX5_isStrip a1 V) = (0 : Int32) then (mX5_share_b29 V) else (if (mX5_isIn (Int32.toInt64 a2) (0 : Int64) (9999999 : Int64)) = (0 : Int32) then (mX5_share_b29 V) else (if (mX5_isField (Int32.toInt64 a3) V) = (0 : Int32) then (mX5_share_b29 V) else ((mX5_thoseOf a1 (0 : Int32) V).bind (fun (r4 : Int32) => (if ((r4 >>> (a3 &&& (31 : Int32))) &&& (1 : Int32)) = (0 : Int32) then ((mX5_finds (-1000000005 : Int32) V).bind (fun (p6 : Int32 × jMem) => (some (p6.1, p6.2)))) else (mX5_share_b66 2000 a2 a3 r4 (0 : Int64) (0 : Int32) V)))))))
set_option maxHeartbeats 4000000 in
set_option maxRecDepth 20000 in
theorem tX5_share {l : Launch} {Z : jZ} {q : Nat → Nat} {a1 : Int32} {a2 : Int32} {a3 : Int32} {V : jMem} {r : Int32} {V' : jMem}  (hm : mX5_share a1 a2 a3 V = some (r, V')) : CtD l Z yX5_share cX5_share 9 (some .int) 2 q dM [.ref (q 0), .int a1, .int a2, .int a3] V (some (.int r)) V' := by
  refine Ct_of (L := [(0, .ref (q 0)), (1, .int a1), (2, .int a2), (3, .int a3)]) (own := RX5) (nm := "share") rfl rfl (by decide +kernel) rfl (Nat.le_of_ble_eq_true rfl) ?_
  unfold mX5_share at hm
  refine j_aload_n dX5_share_0 rfl rfl ?_
  refine j_iload_n dX5_share_1 rfl rfl ?_
  refine o_callV_i kX5_141 dX5_share_2 rfl (tX5_isStrip  rfl) rfl rfl rfl rfl rfl (Nat.le_of_ble_eq_true rfl) (by decide) ?_
  refine j_if_eq (tgt := 29) dX5_share_5 rfl (by decide) (fun c1 => ?_) (fun c1 => ?_)
  · have hm := jif_pos c1 hm
    refine j_sub (L' := [(0, _)]) [0] rfl ?_
    exact tX5_share_b29    hm
  · have hm := jif_neg c1 hm
    refine j_iload_n dX5_share_8 rfl rfl ?_
    refine j_i2l dX5_share_9 rfl ?_
    refine j_lconst (v := 0) dX5_share_10 rfl (by decide) ?_
    refine j_ldc2 dX5_share_11 rfl wX5_173 ?_
    refine o_callS_i kX5_54 dX5_share_14 rfl (tX5_isIn  rfl) rfl rfl (Nat.le_of_ble_eq_true rfl) (by decide) ?_
    refine j_if_eq (tgt := 29) dX5_share_17 rfl (by decide) (fun c2 => ?_) (fun c2 => ?_)
    · have hm := jif_pos c2 hm
      refine j_sub (L' := [(0, _)]) [0] rfl ?_
      exact tX5_share_b29    hm
    · have hm := jif_neg c2 hm
      refine j_aload_n dX5_share_20 rfl rfl ?_
      refine j_iload_n dX5_share_21 rfl rfl ?_
      refine j_i2l dX5_share_22 rfl ?_
      refine o_callV_i kX5_82 dX5_share_23 rfl (tX5_isField  rfl) rfl rfl rfl rfl rfl (Nat.le_of_ble_eq_true rfl) (by decide) ?_
      refine j_if_ne (tgt := 36) dX5_share_26 rfl (by decide) (fun c3 => ?_) (fun c3 => ?_)
      · have hm := jif_neg c3 hm
        refine j_aload_n dX5_share_36 rfl rfl ?_
        refine j_iload_n dX5_share_37 rfl rfl ?_
        refine j_iconst (v := 0) dX5_share_38 rfl (by decide) ?_
        obtain ⟨r4, er4, hm⟩ := jb_of hm
        refine o_callV_i kX5_138 dX5_share_39 rfl (tX5_thoseOf  er4) rfl rfl rfl rfl rfl (Nat.le_of_ble_eq_true rfl) (by decide) ?_
        refine j_istore (L' := [(4, _), (0, _), (1, _), (2, _), (3, _)]) dX5_share_42 rfl (by decide) rfl ?_
        refine j_iload dX5_share_44 rfl rfl ?_
        refine j_iload_n dX5_share_46 rfl rfl ?_
        refine j_ishr dX5_share_47 rfl ?_
        refine j_iconst (v := 1) dX5_share_48 rfl (by decide) ?_
        refine j_iand dX5_share_49 rfl ?_
        refine j_if_ne (tgt := 60) dX5_share_50 rfl (by decide) (fun c5 => ?_) (fun c5 => ?_)
        · have hm := jif_neg c5 hm
          refine j_lconst (v := 0) dX5_share_60 rfl (by decide) ?_
          refine j_lstore (L' := [(5, _), (4, _), (0, _), (1, _), (2, _), (3, _)]) dX5_share_61 rfl (by decide) rfl ?_
          refine j_iconst (v := 0) dX5_share_63 rfl (by decide) ?_
          refine j_istore (L' := [(7, _), (5, _), (4, _), (0, _), (1, _), (2, _), (3, _)]) dX5_share_64 rfl (by decide) rfl ?_
          refine j_sub (L' := [(0, _), (2, _), (3, _), (4, _), (5, _), (7, _)]) [3, 5, 6, 2, 1, 0] rfl ?_
          exact tX5_share_b66   _ _ _ _ _ _ _  hm
        · have hm := jif_pos c5 hm
          refine j_aload_n dX5_share_53 rfl rfl ?_
          refine j_ldc dX5_share_54 rfl wX5_114 ?_
          obtain ⟨p6, ep6, hm⟩ := jb_of hm
          refine o_callV_i kX5_60 dX5_share_56 rfl (tX5_finds  ep6) rfl rfl rfl rfl rfl (Nat.le_of_ble_eq_true rfl) (by decide) ?_
          exact j_ireturn dX5_share_59 rfl rfl ⟨Nat.le_refl _, Nat.le_refl _⟩ (jf_m (fun z => .int z) hm)
      · have hm := jif_pos c3 hm
        refine j_sub (L' := [(0, _)]) [0] rfl ?_
        exact tX5_share_b29    hm
theorem dX5_common_0 : decode cX5_common 0 = .ok (.sipush 16383, 3) := by decide +kernel
theorem dX5_common_3 : decode cX5_common 3 = .ok (.istore_n 1, 1) := by decide +kernel
theorem dX5_common_4 : decode cX5_common 4 = .ok (.iconst 0, 1) := by decide +kernel
theorem dX5_common_5 : decode cX5_common 5 = .ok (.istore_n 2, 1) := by decide +kernel
theorem dX5_common_6 : decode cX5_common 6 = .ok (.iconst 0, 1) := by decide +kernel
theorem dX5_common_7 : decode cX5_common 7 = .ok (.istore_n 3, 1) := by decide +kernel
theorem dX5_common_8 : decode cX5_common 8 = .ok (.iload_n 3, 1) := by decide +kernel
theorem dX5_common_9 : decode cX5_common 9 = .ok (.aload_n 0, 1) := by decide +kernel
theorem dX5_common_10 : decode cX5_common 10 = .ok (.getfield 7, 3) := by decide +kernel
theorem dX5_common_13 : decode cX5_common 13 = .ok (.iconst 1, 1) := by decide +kernel
theorem dX5_common_14 : decode cX5_common 14 = .ok (.iaload, 1) := by decide +kernel
theorem dX5_common_15 : decode cX5_common 15 = .ok (.if_icmp .ge 28, 3) := by decide +kernel
theorem dX5_common_18 : decode cX5_common 18 = .ok (.aload_n 0, 1) := by decide +kernel
theorem dX5_common_19 : decode cX5_common 19 = .ok (.iload_n 3, 1) := by decide +kernel
theorem dX5_common_20 : decode cX5_common 20 = .ok (.invokevirtual 149, 3) := by decide +kernel
theorem dX5_common_23 : decode cX5_common 23 = .ok (.ifCond .eq 14, 3) := by decide +kernel
theorem dX5_common_26 : decode cX5_common 26 = .ok (.iload_n 1, 1) := by decide +kernel
theorem dX5_common_27 : decode cX5_common 27 = .ok (.aload_n 0, 1) := by decide +kernel
theorem dX5_common_28 : decode cX5_common 28 = .ok (.iload_n 3, 1) := by decide +kernel
theorem dX5_common_29 : decode cX5_common 29 = .ok (.invokevirtual 135, 3) := by decide +kernel
theorem dX5_common_32 : decode cX5_common 32 = .ok (.iand, 1) := by decide +kernel
theorem dX5_common_33 : decode cX5_common 33 = .ok (.istore_n 1, 1) := by decide +kernel
theorem dX5_common_34 : decode cX5_common 34 = .ok (.iinc 2 1, 3) := by decide +kernel
theorem dX5_common_37 : decode cX5_common 37 = .ok (.iinc 3 1, 3) := by decide +kernel
theorem dX5_common_40 : decode cX5_common 40 = .ok (.goto (-32), 3) := by decide +kernel
theorem dX5_common_43 : decode cX5_common 43 = .ok (.iload_n 2, 1) := by decide +kernel
theorem dX5_common_44 : decode cX5_common 44 = .ok (.ifCond .ne 12, 3) := by decide +kernel
theorem dX5_common_47 : decode cX5_common 47 = .ok (.aload_n 0, 1) := by decide +kernel
theorem dX5_common_48 : decode cX5_common 48 = .ok (.ldc 127, 2) := by decide +kernel
theorem dX5_common_50 : decode cX5_common 50 = .ok (.invokevirtual 60, 3) := by decide +kernel
theorem dX5_common_53 : decode cX5_common 53 = .ok (.goto 4, 3) := by decide +kernel
theorem dX5_common_56 : decode cX5_common 56 = .ok (.iload_n 1, 1) := by decide +kernel
theorem dX5_common_57 : decode cX5_common 57 = .ok (.ireturn, 1) := by decide +kernel
def mX5_common_b37  (k8 : Int32 → Int32 → Int32 → jMem → Option (Int32 × jMem)) (a1 : Int32) (a2 : Int32) (a3 : Int32) (V : jMem) : Option (Int32 × jMem) := (k8 a1 a2 (a3 + (1 : Int32)) V)
set_option maxHeartbeats 4000000 in
set_option maxRecDepth 20000 in
theorem tX5_common_b37 {l : Launch} {Z : jZ} {q : Nat → Nat} {k8 : Int32 → Int32 → Int32 → jMem → Option (Int32 × jMem)} {a1 : Int32} {a2 : Int32} {a3 : Int32} {V : jMem} {r : Int32} {V' : jMem}   (hk8 : ∀ (a1 : Int32) (a2 : Int32) (a3 : Int32) (V : jMem), k8 a1 a2 a3 V = some (r, V') → J l Z RX5 "common" cX5_common 4 (some .int) 3 0 0 (fun r' w => r' = some (.int r) ∧ w = jw Z q V' dM) 8 [(0, .ref (q 0)), (1, .int a1), (2, .int a2), (3, .int a3)] [] (jw Z q V dM) 0 0) (hm : mX5_common_b37 k8 a1 a2 a3 V = some (r, V')) : J l Z RX5 "common" cX5_common 4 (some .int) 3 0 0 (fun r' w => r' = some (.int r) ∧ w = jw Z q V' dM) 37 [(0, .ref (q 0)), (1, .int a1), (2, .int a2), (3, .int a3)] [] (jw Z q V dM) 0 0 := by
  unfold mX5_common_b37 at hm
  refine j_iinc (v := (a3 + (1 : Int32))) (L' := [(3, _), (0, _), (1, _), (2, _)]) dX5_common_37 rfl rfl rfl (by decide) rfl ?_
  refine j_goto (tgt := 8) dX5_common_40 (by decide) ?_
  refine j_sub (L' := [(0, _), (1, _), (2, _), (3, _)]) [1, 2, 3, 0] rfl ?_
  exact hk8 _ _ _ _  hm
def mX5_common_b8   : Nat → Int32 → Int32 → Int32 → jMem → Option (Int32 × jMem)
  | 0, _, _, _, _ => none
  | n + 1, a1, a2, a3, V => (if (V.1 1 1) ≤ a3 then (if a2 = (0 : Int32) then ((mX5_finds (-1000000004 : Int32) V).bind (fun (p3 : Int32 × jMem) => (some (p3.1, p3.2)))) else (some (a1, V))) else ((mX5_canBe a3 V).bind (fun (r4 : Int32) => (if r4 = (0 : Int32) then (mX5_common_b37 (mX5_common_b8 n) a1 a2 a3 V) else ((mX5_setOf a3 V).bind (fun (r6 : Int32) => (mX5_common_b37 (mX5_common_b8 n) (a1 &&& r6) (a2 + (1 : Int32)) a3 V)))))))
set_option maxHeartbeats 4000000 in
set_option maxRecDepth 20000 in
theorem tX5_common_b8 {l : Launch} {Z : jZ} {q : Nat → Nat}  {r : Int32} {V' : jMem}   (n : Nat) : ∀ (a1 : Int32) (a2 : Int32) (a3 : Int32) (V : jMem), mX5_common_b8 n a1 a2 a3 V = some (r, V') → J l Z RX5 "common" cX5_common 4 (some .int) 3 0 0 (fun r' w => r' = some (.int r) ∧ w = jw Z q V' dM) 8 [(0, .ref (q 0)), (1, .int a1), (2, .int a2), (3, .int a3)] [] (jw Z q V dM) 0 0 := by
  induction n with
  | zero => intro a1 a2 a3 V hm; cases hm
  | succ n ih =>
    intro a1 a2 a3 V hm
    rw [mX5_common_b8] at hm
    refine j_iload_n dX5_common_8 rfl rfl ?_
    refine j_aload_n dX5_common_9 rfl rfl ?_
    refine m_getr (k := 0) (r := 1) fX5_7 dX5_common_10 rfl rfl rfl ?_
    refine j_iconst (v := 1) dX5_common_13 rfl (by decide) ?_
    refine o_iald (k := 1) (by decide) dX5_common_14 rfl rfl (jin_vp (by decide)) ?_
    refine j_icmp_ge (tgt := 43) dX5_common_15 rfl (by decide) (fun c1 => ?_) (fun c1 => ?_)
    · have hm := jif_pos c1 hm
      refine j_iload_n dX5_common_43 rfl rfl ?_
      refine j_if_ne (tgt := 56) dX5_common_44 rfl (by decide) (fun c2 => ?_) (fun c2 => ?_)
      · have hm := jif_neg c2 hm
        refine j_iload_n dX5_common_56 rfl rfl ?_
        exact j_ireturn dX5_common_57 rfl rfl ⟨Nat.le_refl _, Nat.le_refl _⟩ (jf_m (fun z => .int z) hm)
      · have hm := jif_pos c2 hm
        refine j_aload_n dX5_common_47 rfl rfl ?_
        refine j_ldc dX5_common_48 rfl wX5_127 ?_
        obtain ⟨p3, ep3, hm⟩ := jb_of hm
        refine o_callV_i kX5_60 dX5_common_50 rfl (tX5_finds  ep3) rfl rfl rfl rfl rfl (Nat.le_of_ble_eq_true rfl) (by decide) ?_
        refine j_goto (tgt := 57) dX5_common_53 (by decide) ?_
        exact j_ireturn dX5_common_57 rfl rfl ⟨Nat.le_refl _, Nat.le_refl _⟩ (jf_m (fun z => .int z) hm)
    · have hm := jif_neg c1 hm
      refine j_aload_n dX5_common_18 rfl rfl ?_
      refine j_iload_n dX5_common_19 rfl rfl ?_
      obtain ⟨r4, er4, hm⟩ := jb_of hm
      refine o_callV_i kX5_149 dX5_common_20 rfl (tX5_canBe  er4) rfl rfl rfl rfl rfl (Nat.le_of_ble_eq_true rfl) (by decide) ?_
      refine j_if_eq (tgt := 37) dX5_common_23 rfl (by decide) (fun c5 => ?_) (fun c5 => ?_)
      · have hm := jif_pos c5 hm
        exact tX5_common_b37   ih hm
      · have hm := jif_neg c5 hm
        refine j_iload_n dX5_common_26 rfl rfl ?_
        refine j_aload_n dX5_common_27 rfl rfl ?_
        refine j_iload_n dX5_common_28 rfl rfl ?_
        obtain ⟨r6, er6, hm⟩ := jb_of hm
        refine o_callV_i kX5_135 dX5_common_29 rfl (tX5_setOf  er6) rfl rfl rfl rfl rfl (Nat.le_of_ble_eq_true rfl) (by decide) ?_
        refine j_iand dX5_common_32 rfl ?_
        refine j_istore_n (i := 1) (L' := [(1, _), (0, _), (2, _), (3, _)]) dX5_common_33 rfl rfl (by decide) rfl ?_
        refine j_iinc (v := (a2 + (1 : Int32))) (L' := [(2, _), (1, _), (0, _), (3, _)]) dX5_common_34 rfl rfl rfl (by decide) rfl ?_
        refine j_sub (L' := [(0, _), (1, _), (2, _), (3, _)]) [2, 1, 0, 3] rfl ?_
        exact tX5_common_b37   ih hm
def mX5_common (V : jMem) : Option (Int32 × jMem) := (mX5_common_b8 2000 (16383 : Int32) (0 : Int32) (0 : Int32) V)
set_option maxHeartbeats 4000000 in
set_option maxRecDepth 20000 in
theorem tX5_common {l : Launch} {Z : jZ} {q : Nat → Nat} {V : jMem} {r : Int32} {V' : jMem}  (hm : mX5_common V = some (r, V')) : CtD l Z yX5_common cX5_common 4 (some .int) 3 q dM [.ref (q 0)] V (some (.int r)) V' := by
  refine Ct_of (L := [(0, .ref (q 0))]) (own := RX5) (nm := "common") rfl rfl (by decide +kernel) rfl (Nat.le_of_ble_eq_true rfl) ?_
  unfold mX5_common at hm
  refine j_sipush (v := 16383) dX5_common_0 rfl (by decide) ?_
  refine j_istore_n (i := 1) (L' := [(1, _), (0, _)]) dX5_common_3 rfl rfl (by decide) rfl ?_
  refine j_iconst (v := 0) dX5_common_4 rfl (by decide) ?_
  refine j_istore_n (i := 2) (L' := [(2, _), (1, _), (0, _)]) dX5_common_5 rfl rfl (by decide) rfl ?_
  refine j_iconst (v := 0) dX5_common_6 rfl (by decide) ?_
  refine j_istore_n (i := 3) (L' := [(3, _), (2, _), (1, _), (0, _)]) dX5_common_7 rfl rfl (by decide) rfl ?_
  refine j_sub (L' := [(0, _), (1, _), (2, _), (3, _)]) [3, 2, 1, 0] rfl ?_
  exact tX5_common_b8   _ _ _ _ _  hm
theorem dX5_first_0 : decode cX5_first 0 = .ok (.aload_n 0, 1) := by decide +kernel
theorem dX5_first_1 : decode cX5_first 1 = .ok (.iload_n 1, 1) := by decide +kernel
theorem dX5_first_2 : decode cX5_first 2 = .ok (.invokevirtual 141, 3) := by decide +kernel
theorem dX5_first_5 : decode cX5_first 5 = .ok (.ifCond .ne 10, 3) := by decide +kernel
theorem dX5_first_8 : decode cX5_first 8 = .ok (.aload_n 0, 1) := by decide +kernel
theorem dX5_first_9 : decode cX5_first 9 = .ok (.ldc 44, 2) := by decide +kernel
theorem dX5_first_11 : decode cX5_first 11 = .ok (.invokevirtual 60, 3) := by decide +kernel
theorem dX5_first_14 : decode cX5_first 14 = .ok (.ireturn, 1) := by decide +kernel
theorem dX5_first_15 : decode cX5_first 15 = .ok (.aload_n 0, 1) := by decide +kernel
theorem dX5_first_16 : decode cX5_first 16 = .ok (.iload_n 1, 1) := by decide +kernel
theorem dX5_first_17 : decode cX5_first 17 = .ok (.iconst 0, 1) := by decide +kernel
theorem dX5_first_18 : decode cX5_first 18 = .ok (.invokevirtual 138, 3) := by decide +kernel
theorem dX5_first_21 : decode cX5_first 21 = .ok (.istore_n 2, 1) := by decide +kernel
theorem dX5_first_22 : decode cX5_first 22 = .ok (.iconst (-1), 1) := by decide +kernel
theorem dX5_first_23 : decode cX5_first 23 = .ok (.istore_n 3, 1) := by decide +kernel
theorem dX5_first_24 : decode cX5_first 24 = .ok (.iconst 0, 1) := by decide +kernel
theorem dX5_first_25 : decode cX5_first 25 = .ok (.istore 4, 2) := by decide +kernel
theorem dX5_first_27 : decode cX5_first 27 = .ok (.iconst 0, 1) := by decide +kernel
theorem dX5_first_28 : decode cX5_first 28 = .ok (.istore 5, 2) := by decide +kernel
theorem dX5_first_30 : decode cX5_first 30 = .ok (.iload 5, 2) := by decide +kernel
theorem dX5_first_32 : decode cX5_first 32 = .ok (.aload_n 0, 1) := by decide +kernel
theorem dX5_first_33 : decode cX5_first 33 = .ok (.getfield 7, 3) := by decide +kernel
theorem dX5_first_36 : decode cX5_first 36 = .ok (.iconst 0, 1) := by decide +kernel
theorem dX5_first_37 : decode cX5_first 37 = .ok (.iaload, 1) := by decide +kernel
theorem dX5_first_38 : decode cX5_first 38 = .ok (.if_icmp .ge 101, 3) := by decide +kernel
theorem dX5_first_41 : decode cX5_first 41 = .ok (.iload_n 2, 1) := by decide +kernel
theorem dX5_first_42 : decode cX5_first 42 = .ok (.iload 5, 2) := by decide +kernel
theorem dX5_first_44 : decode cX5_first 44 = .ok (.ishr, 1) := by decide +kernel
theorem dX5_first_45 : decode cX5_first 45 = .ok (.iconst 1, 1) := by decide +kernel
theorem dX5_first_46 : decode cX5_first 46 = .ok (.iand, 1) := by decide +kernel
theorem dX5_first_47 : decode cX5_first 47 = .ok (.iconst 1, 1) := by decide +kernel
theorem dX5_first_48 : decode cX5_first 48 = .ok (.if_icmp .ne 85, 3) := by decide +kernel
theorem dX5_first_51 : decode cX5_first 51 = .ok (.iconst 0, 1) := by decide +kernel
theorem dX5_first_52 : decode cX5_first 52 = .ok (.istore 6, 2) := by decide +kernel
theorem dX5_first_54 : decode cX5_first 54 = .ok (.iconst 0, 1) := by decide +kernel
theorem dX5_first_55 : decode cX5_first 55 = .ok (.istore 7, 2) := by decide +kernel
theorem dX5_first_57 : decode cX5_first 57 = .ok (.iload 7, 2) := by decide +kernel
theorem dX5_first_59 : decode cX5_first 59 = .ok (.aload_n 0, 1) := by decide +kernel
theorem dX5_first_60 : decode cX5_first 60 = .ok (.getfield 7, 3) := by decide +kernel
theorem dX5_first_63 : decode cX5_first 63 = .ok (.iconst 0, 1) := by decide +kernel
theorem dX5_first_64 : decode cX5_first 64 = .ok (.iaload, 1) := by decide +kernel
theorem dX5_first_65 : decode cX5_first 65 = .ok (.if_icmp .ge 50, 3) := by decide +kernel
theorem dX5_first_68 : decode cX5_first 68 = .ok (.iload 6, 2) := by decide +kernel
theorem dX5_first_70 : decode cX5_first 70 = .ok (.iload 7, 2) := by decide +kernel
theorem dX5_first_72 : decode cX5_first 72 = .ok (.iload 5, 2) := by decide +kernel
theorem dX5_first_74 : decode cX5_first 74 = .ok (.if_icmp .eq 31, 3) := by decide +kernel
theorem dX5_first_77 : decode cX5_first 77 = .ok (.iload_n 2, 1) := by decide +kernel
theorem dX5_first_78 : decode cX5_first 78 = .ok (.iload 7, 2) := by decide +kernel
theorem dX5_first_80 : decode cX5_first 80 = .ok (.ishr, 1) := by decide +kernel
theorem dX5_first_81 : decode cX5_first 81 = .ok (.iconst 1, 1) := by decide +kernel
theorem dX5_first_82 : decode cX5_first 82 = .ok (.iand, 1) := by decide +kernel
theorem dX5_first_83 : decode cX5_first 83 = .ok (.iconst 1, 1) := by decide +kernel
theorem dX5_first_84 : decode cX5_first 84 = .ok (.if_icmp .ne 21, 3) := by decide +kernel
theorem dX5_first_87 : decode cX5_first 87 = .ok (.aload_n 0, 1) := by decide +kernel
theorem dX5_first_88 : decode cX5_first 88 = .ok (.iload 7, 2) := by decide +kernel
theorem dX5_first_90 : decode cX5_first 90 = .ok (.aload_n 0, 1) := by decide +kernel
theorem dX5_first_91 : decode cX5_first 91 = .ok (.invokevirtual 75, 3) := by decide +kernel
theorem dX5_first_94 : decode cX5_first 94 = .ok (.iconst 1, 1) := by decide +kernel
theorem dX5_first_95 : decode cX5_first 95 = .ok (.iload 5, 2) := by decide +kernel
theorem dX5_first_97 : decode cX5_first 97 = .ok (.ishl, 1) := by decide +kernel
theorem dX5_first_98 : decode cX5_first 98 = .ok (.ior, 1) := by decide +kernel
theorem dX5_first_99 : decode cX5_first 99 = .ok (.invokevirtual 79, 3) := by decide +kernel
theorem dX5_first_102 : decode cX5_first 102 = .ok (.goto 4, 3) := by decide +kernel
theorem dX5_first_105 : decode cX5_first 105 = .ok (.iconst 0, 1) := by decide +kernel
theorem dX5_first_106 : decode cX5_first 106 = .ok (.iadd, 1) := by decide +kernel
theorem dX5_first_107 : decode cX5_first 107 = .ok (.istore 6, 2) := by decide +kernel
theorem dX5_first_109 : decode cX5_first 109 = .ok (.iinc 7 1, 3) := by decide +kernel
theorem dX5_first_112 : decode cX5_first 112 = .ok (.goto (-55), 3) := by decide +kernel
theorem dX5_first_115 : decode cX5_first 115 = .ok (.iload_n 3, 1) := by decide +kernel
theorem dX5_first_116 : decode cX5_first 116 = .ok (.ifCond .lt 10, 3) := by decide +kernel
theorem dX5_first_119 : decode cX5_first 119 = .ok (.iload 6, 2) := by decide +kernel
theorem dX5_first_121 : decode cX5_first 121 = .ok (.iload 4, 2) := by decide +kernel
theorem dX5_first_123 : decode cX5_first 123 = .ok (.if_icmp .ge 10, 3) := by decide +kernel
theorem dX5_first_126 : decode cX5_first 126 = .ok (.iload 5, 2) := by decide +kernel
theorem dX5_first_128 : decode cX5_first 128 = .ok (.istore_n 3, 1) := by decide +kernel
theorem dX5_first_129 : decode cX5_first 129 = .ok (.iload 6, 2) := by decide +kernel
theorem dX5_first_131 : decode cX5_first 131 = .ok (.istore 4, 2) := by decide +kernel
theorem dX5_first_133 : decode cX5_first 133 = .ok (.iinc 5 1, 3) := by decide +kernel
theorem dX5_first_136 : decode cX5_first 136 = .ok (.goto (-106), 3) := by decide +kernel
theorem dX5_first_139 : decode cX5_first 139 = .ok (.iload_n 3, 1) := by decide +kernel
theorem dX5_first_140 : decode cX5_first 140 = .ok (.ifCond .ge 12, 3) := by decide +kernel
theorem dX5_first_143 : decode cX5_first 143 = .ok (.aload_n 0, 1) := by decide +kernel
theorem dX5_first_144 : decode cX5_first 144 = .ok (.ldc 127, 2) := by decide +kernel
theorem dX5_first_146 : decode cX5_first 146 = .ok (.invokevirtual 60, 3) := by decide +kernel
theorem dX5_first_149 : decode cX5_first 149 = .ok (.goto 4, 3) := by decide +kernel
theorem dX5_first_152 : decode cX5_first 152 = .ok (.iload_n 3, 1) := by decide +kernel
theorem dX5_first_153 : decode cX5_first 153 = .ok (.ireturn, 1) := by decide +kernel
def mX5_first_b106  (k30 : Int32 → Int32 → Int32 → Int32 → jMem → Option (Int32 × jMem)) (k57 : Int32 → Int32 → Int32 → Int32 → Int32 → Int32 → jMem → Option (Int32 × jMem)) (a2 : Int32) (a3 : Int32) (a4 : Int32) (a5 : Int32) (a7 : Int32) (s0 : Int32) (s1 : Int32) (V : jMem) : Option (Int32 × jMem) := (k57 a2 a3 a4 a5 (s1 + s0) (a7 + (1 : Int32)) V)
set_option maxHeartbeats 4000000 in
set_option maxRecDepth 20000 in
theorem tX5_first_b106 {l : Launch} {Z : jZ} {q : Nat → Nat} {k30 : Int32 → Int32 → Int32 → Int32 → jMem → Option (Int32 × jMem)} {k57 : Int32 → Int32 → Int32 → Int32 → Int32 → Int32 → jMem → Option (Int32 × jMem)} {a2 : Int32} {a3 : Int32} {a4 : Int32} {a5 : Int32} {a7 : Int32} {s0 : Int32} {s1 : Int32} {V : jMem} {r : Int32} {V' : jMem}   (hk30 : ∀ (a2 : Int32) (a3 : Int32) (a4 : Int32) (a5 : Int32) (V : jMem), k30 a2 a3 a4 a5 V = some (r, V') → J l Z RX5 "first" cX5_first 8 (some .int) 4 0 0 (fun r' w => r' = some (.int r) ∧ w = jw Z q V' dM) 30 [(0, .ref (q 0)), (2, .int a2), (3, .int a3), (4, .int a4), (5, .int a5)] [] (jw Z q V dM) 0 0) (hk57 : ∀ (a2 : Int32) (a3 : Int32) (a4 : Int32) (a5 : Int32) (a6 : Int32) (a7 : Int32) (V : jMem), k57 a2 a3 a4 a5 a6 a7 V = some (r, V') → J l Z RX5 "first" cX5_first 8 (some .int) 4 0 0 (fun r' w => r' = some (.int r) ∧ w = jw Z q V' dM) 57 [(0, .ref (q 0)), (2, .int a2), (3, .int a3), (4, .int a4), (5, .int a5), (6, .int a6), (7, .int a7)] [] (jw Z q V dM) 0 0) (hm : mX5_first_b106 k30 k57 a2 a3 a4 a5 a7 s0 s1 V = some (r, V')) : J l Z RX5 "first" cX5_first 8 (some .int) 4 0 0 (fun r' w => r' = some (.int r) ∧ w = jw Z q V' dM) 106 [(0, .ref (q 0)), (2, .int a2), (3, .int a3), (4, .int a4), (5, .int a5), (7, .int a7)] [.int s0, .int s1] (jw Z q V dM) 0 0 := by
  unfold mX5_first_b106 at hm
  refine j_iadd dX5_first_106 rfl ?_
  refine j_istore (L' := [(6, _), (0, _), (2, _), (3, _), (4, _), (5, _), (7, _)]) dX5_first_107 rfl (by decide) rfl ?_
  refine j_iinc (v := (a7 + (1 : Int32))) (L' := [(7, _), (6, _), (0, _), (2, _), (3, _), (4, _), (5, _)]) dX5_first_109 rfl rfl rfl (by decide) rfl ?_
  refine j_goto (tgt := 57) dX5_first_112 (by decide) ?_
  refine j_sub (L' := [(0, _), (2, _), (3, _), (4, _), (5, _), (6, _), (7, _)]) [2, 3, 4, 5, 6, 1, 0] rfl ?_
  exact hk57 _ _ _ _ _ _ _  hm
def mX5_first_b105  (k30 : Int32 → Int32 → Int32 → Int32 → jMem → Option (Int32 × jMem)) (k57 : Int32 → Int32 → Int32 → Int32 → Int32 → Int32 → jMem → Option (Int32 × jMem)) (a2 : Int32) (a3 : Int32) (a4 : Int32) (a5 : Int32) (a7 : Int32) (s0 : Int32) (V : jMem) : Option (Int32 × jMem) := (mX5_first_b106 k30 k57 a2 a3 a4 a5 a7 (0 : Int32) s0 V)
set_option maxHeartbeats 4000000 in
set_option maxRecDepth 20000 in
theorem tX5_first_b105 {l : Launch} {Z : jZ} {q : Nat → Nat} {k30 : Int32 → Int32 → Int32 → Int32 → jMem → Option (Int32 × jMem)} {k57 : Int32 → Int32 → Int32 → Int32 → Int32 → Int32 → jMem → Option (Int32 × jMem)} {a2 : Int32} {a3 : Int32} {a4 : Int32} {a5 : Int32} {a7 : Int32} {s0 : Int32} {V : jMem} {r : Int32} {V' : jMem}   (hk30 : ∀ (a2 : Int32) (a3 : Int32) (a4 : Int32) (a5 : Int32) (V : jMem), k30 a2 a3 a4 a5 V = some (r, V') → J l Z RX5 "first" cX5_first 8 (some .int) 4 0 0 (fun r' w => r' = some (.int r) ∧ w = jw Z q V' dM) 30 [(0, .ref (q 0)), (2, .int a2), (3, .int a3), (4, .int a4), (5, .int a5)] [] (jw Z q V dM) 0 0) (hk57 : ∀ (a2 : Int32) (a3 : Int32) (a4 : Int32) (a5 : Int32) (a6 : Int32) (a7 : Int32) (V : jMem), k57 a2 a3 a4 a5 a6 a7 V = some (r, V') → J l Z RX5 "first" cX5_first 8 (some .int) 4 0 0 (fun r' w => r' = some (.int r) ∧ w = jw Z q V' dM) 57 [(0, .ref (q 0)), (2, .int a2), (3, .int a3), (4, .int a4), (5, .int a5), (6, .int a6), (7, .int a7)] [] (jw Z q V dM) 0 0) (hm : mX5_first_b105 k30 k57 a2 a3 a4 a5 a7 s0 V = some (r, V')) : J l Z RX5 "first" cX5_first 8 (some .int) 4 0 0 (fun r' w => r' = some (.int r) ∧ w = jw Z q V' dM) 105 [(0, .ref (q 0)), (2, .int a2), (3, .int a3), (4, .int a4), (5, .int a5), (7, .int a7)] [.int s0] (jw Z q V dM) 0 0 := by
  unfold mX5_first_b105 at hm
  refine j_iconst (v := 0) dX5_first_105 rfl (by decide) ?_
  exact tX5_first_b106   hk30 hk57 hm
def mX5_first_b133  (k30 : Int32 → Int32 → Int32 → Int32 → jMem → Option (Int32 × jMem)) (a2 : Int32) (a3 : Int32) (a4 : Int32) (a5 : Int32) (V : jMem) : Option (Int32 × jMem) := (k30 a2 a3 a4 (a5 + (1 : Int32)) V)
set_option maxHeartbeats 4000000 in
set_option maxRecDepth 20000 in
theorem tX5_first_b133 {l : Launch} {Z : jZ} {q : Nat → Nat} {k30 : Int32 → Int32 → Int32 → Int32 → jMem → Option (Int32 × jMem)} {a2 : Int32} {a3 : Int32} {a4 : Int32} {a5 : Int32} {V : jMem} {r : Int32} {V' : jMem}   (hk30 : ∀ (a2 : Int32) (a3 : Int32) (a4 : Int32) (a5 : Int32) (V : jMem), k30 a2 a3 a4 a5 V = some (r, V') → J l Z RX5 "first" cX5_first 8 (some .int) 4 0 0 (fun r' w => r' = some (.int r) ∧ w = jw Z q V' dM) 30 [(0, .ref (q 0)), (2, .int a2), (3, .int a3), (4, .int a4), (5, .int a5)] [] (jw Z q V dM) 0 0) (hm : mX5_first_b133 k30 a2 a3 a4 a5 V = some (r, V')) : J l Z RX5 "first" cX5_first 8 (some .int) 4 0 0 (fun r' w => r' = some (.int r) ∧ w = jw Z q V' dM) 133 [(0, .ref (q 0)), (2, .int a2), (3, .int a3), (4, .int a4), (5, .int a5)] [] (jw Z q V dM) 0 0 := by
  unfold mX5_first_b133 at hm
  refine j_iinc (v := (a5 + (1 : Int32))) (L' := [(5, _), (0, _), (2, _), (3, _), (4, _)]) dX5_first_133 rfl rfl rfl (by decide) rfl ?_
  refine j_goto (tgt := 30) dX5_first_136 (by decide) ?_
  refine j_sub (L' := [(0, _), (2, _), (3, _), (4, _), (5, _)]) [1, 2, 3, 4, 0] rfl ?_
  exact hk30 _ _ _ _ _  hm
def mX5_first_b126  (k30 : Int32 → Int32 → Int32 → Int32 → jMem → Option (Int32 × jMem)) (a2 : Int32) (a5 : Int32) (a6 : Int32) (V : jMem) : Option (Int32 × jMem) := (mX5_first_b133 k30 a2 a5 a6 a5 V)
set_option maxHeartbeats 4000000 in
set_option maxRecDepth 20000 in
theorem tX5_first_b126 {l : Launch} {Z : jZ} {q : Nat → Nat} {k30 : Int32 → Int32 → Int32 → Int32 → jMem → Option (Int32 × jMem)} {a2 : Int32} {a5 : Int32} {a6 : Int32} {V : jMem} {r : Int32} {V' : jMem}   (hk30 : ∀ (a2 : Int32) (a3 : Int32) (a4 : Int32) (a5 : Int32) (V : jMem), k30 a2 a3 a4 a5 V = some (r, V') → J l Z RX5 "first" cX5_first 8 (some .int) 4 0 0 (fun r' w => r' = some (.int r) ∧ w = jw Z q V' dM) 30 [(0, .ref (q 0)), (2, .int a2), (3, .int a3), (4, .int a4), (5, .int a5)] [] (jw Z q V dM) 0 0) (hm : mX5_first_b126 k30 a2 a5 a6 V = some (r, V')) : J l Z RX5 "first" cX5_first 8 (some .int) 4 0 0 (fun r' w => r' = some (.int r) ∧ w = jw Z q V' dM) 126 [(0, .ref (q 0)), (2, .int a2), (5, .int a5), (6, .int a6)] [] (jw Z q V dM) 0 0 := by
  unfold mX5_first_b126 at hm
  refine j_iload dX5_first_126 rfl rfl ?_
  refine j_istore_n (i := 3) (L' := [(3, _), (0, _), (2, _), (5, _), (6, _)]) dX5_first_128 rfl rfl (by decide) rfl ?_
  refine j_iload dX5_first_129 rfl rfl ?_
  refine j_istore (L' := [(4, _), (3, _), (0, _), (2, _), (5, _), (6, _)]) dX5_first_131 rfl (by decide) rfl ?_
  refine j_sub (L' := [(0, _), (2, _), (3, _), (4, _), (5, _)]) [2, 3, 1, 0, 4] rfl ?_
  exact tX5_first_b133   hk30 hm
def mX5_first_b57  (k30 : Int32 → Int32 → Int32 → Int32 → jMem → Option (Int32 × jMem)) : Nat → Int32 → Int32 → Int32 → Int32 → Int32 → Int32 → jMem → Option (Int32 × jMem)
  | 0, _, _, _, _, _, _, _ => none
  | n + 1, a2, a3, a4, a5, a6, a7, V => (if (V.1 1 0) ≤ a7 then (if a3 < (0 : Int32) then (mX5_first_b126 k30 a2 a5 a6 V) else (if a4 ≤ a6 then (mX5_first_b133 k30 a2 a3 a4 a5 V) else (mX5_first_b126 k30 a2 a5 a6 V))) else (if a7 = a5 then (mX5_first_b105 k30 (mX5_first_b57 k30 n) a2 a3 a4 a5 a7 a6 V) else (if ((a2 >>> (a7 &&& (31 : Int32))) &&& (1 : Int32)) = (1 : Int32) then ((mX5_ours V).bind (fun (r6 : Int32) => ((mX5_asksBy a7 (r6 ||| ((1 : Int32) <<< (a5 &&& (31 : Int32)))) V).bind (fun (r7 : Int32) => (mX5_first_b106 k30 (mX5_first_b57 k30 n) a2 a3 a4 a5 a7 r7 a6 V))))) else (mX5_first_b105 k30 (mX5_first_b57 k30 n) a2 a3 a4 a5 a7 a6 V))))
set_option maxHeartbeats 4000000 in
set_option maxRecDepth 20000 in
theorem tX5_first_b57 {l : Launch} {Z : jZ} {q : Nat → Nat} {k30 : Int32 → Int32 → Int32 → Int32 → jMem → Option (Int32 × jMem)} {r : Int32} {V' : jMem}  (hk30 : ∀ (a2 : Int32) (a3 : Int32) (a4 : Int32) (a5 : Int32) (V : jMem), k30 a2 a3 a4 a5 V = some (r, V') → J l Z RX5 "first" cX5_first 8 (some .int) 4 0 0 (fun r' w => r' = some (.int r) ∧ w = jw Z q V' dM) 30 [(0, .ref (q 0)), (2, .int a2), (3, .int a3), (4, .int a4), (5, .int a5)] [] (jw Z q V dM) 0 0) (n : Nat) : ∀ (a2 : Int32) (a3 : Int32) (a4 : Int32) (a5 : Int32) (a6 : Int32) (a7 : Int32) (V : jMem), mX5_first_b57 k30 n a2 a3 a4 a5 a6 a7 V = some (r, V') → J l Z RX5 "first" cX5_first 8 (some .int) 4 0 0 (fun r' w => r' = some (.int r) ∧ w = jw Z q V' dM) 57 [(0, .ref (q 0)), (2, .int a2), (3, .int a3), (4, .int a4), (5, .int a5), (6, .int a6), (7, .int a7)] [] (jw Z q V dM) 0 0 := by
  induction n with
  | zero => intro a2 a3 a4 a5 a6 a7 V hm; cases hm
  | succ n ih =>
    intro a2 a3 a4 a5 a6 a7 V hm
    rw [mX5_first_b57] at hm
    refine j_iload dX5_first_57 rfl rfl ?_
    refine j_aload_n dX5_first_59 rfl rfl ?_
    refine m_getr (k := 0) (r := 1) fX5_7 dX5_first_60 rfl rfl rfl ?_
    refine j_iconst (v := 0) dX5_first_63 rfl (by decide) ?_
    refine o_iald (k := 0) (by decide) dX5_first_64 rfl rfl (jin_vp (by decide)) ?_
    refine j_icmp_ge (tgt := 115) dX5_first_65 rfl (by decide) (fun c1 => ?_) (fun c1 => ?_)
    · have hm := jif_pos c1 hm
      refine j_iload_n dX5_first_115 rfl rfl ?_
      refine j_if_lt (tgt := 126) dX5_first_116 rfl (by decide) (fun c2 => ?_) (fun c2 => ?_)
      · have hm := jif_pos c2 hm
        refine j_sub (L' := [(0, _), (2, _), (5, _), (6, _)]) [0, 1, 4, 5] rfl ?_
        exact tX5_first_b126   hk30 hm
      · have hm := jif_neg c2 hm
        refine j_iload dX5_first_119 rfl rfl ?_
        refine j_iload dX5_first_121 rfl rfl ?_
        refine j_icmp_ge (tgt := 133) dX5_first_123 rfl (by decide) (fun c3 => ?_) (fun c3 => ?_)
        · have hm := jif_pos c3 hm
          refine j_sub (L' := [(0, _), (2, _), (3, _), (4, _), (5, _)]) [0, 1, 2, 3, 4] rfl ?_
          exact tX5_first_b133   hk30 hm
        · have hm := jif_neg c3 hm
          refine j_sub (L' := [(0, _), (2, _), (5, _), (6, _)]) [0, 1, 4, 5] rfl ?_
          exact tX5_first_b126   hk30 hm
    · have hm := jif_neg c1 hm
      refine j_iload dX5_first_68 rfl rfl ?_
      refine j_iload dX5_first_70 rfl rfl ?_
      refine j_iload dX5_first_72 rfl rfl ?_
      refine j_icmp_eq (tgt := 105) dX5_first_74 rfl (by decide) (fun c4 => ?_) (fun c4 => ?_)
      · have hm := jif_pos c4 hm
        refine j_sub (L' := [(0, _), (2, _), (3, _), (4, _), (5, _), (7, _)]) [0, 1, 2, 3, 4, 6] rfl ?_
        exact tX5_first_b105   hk30 ih hm
      · have hm := jif_neg c4 hm
        refine j_iload_n dX5_first_77 rfl rfl ?_
        refine j_iload dX5_first_78 rfl rfl ?_
        refine j_ishr dX5_first_80 rfl ?_
        refine j_iconst (v := 1) dX5_first_81 rfl (by decide) ?_
        refine j_iand dX5_first_82 rfl ?_
        refine j_iconst (v := 1) dX5_first_83 rfl (by decide) ?_
        refine j_icmp_ne (tgt := 105) dX5_first_84 rfl (by decide) (fun c5 => ?_) (fun c5 => ?_)
        · have hm := jif_neg c5 hm
          refine j_sub (L' := [(0, _), (2, _), (3, _), (4, _), (5, _), (7, _)]) [0, 1, 2, 3, 4, 6] rfl ?_
          exact tX5_first_b105   hk30 ih hm
        · have hm := jif_pos c5 hm
          refine j_aload_n dX5_first_87 rfl rfl ?_
          refine j_iload dX5_first_88 rfl rfl ?_
          refine j_aload_n dX5_first_90 rfl rfl ?_
          obtain ⟨r6, er6, hm⟩ := jb_of hm
          refine o_callV_i kX5_75 dX5_first_91 rfl (tX5_ours  er6) rfl rfl rfl rfl rfl (Nat.le_of_ble_eq_true rfl) (by decide) ?_
          refine j_iconst (v := 1) dX5_first_94 rfl (by decide) ?_
          refine j_iload dX5_first_95 rfl rfl ?_
          refine j_ishl dX5_first_97 rfl ?_
          refine j_ior dX5_first_98 rfl ?_
          obtain ⟨r7, er7, hm⟩ := jb_of hm
          refine o_callV_i kX5_79 dX5_first_99 rfl (tX5_asksBy  er7) rfl rfl rfl rfl rfl (Nat.le_of_ble_eq_true rfl) (by decide) ?_
          refine j_goto (tgt := 106) dX5_first_102 (by decide) ?_
          refine j_sub (L' := [(0, _), (2, _), (3, _), (4, _), (5, _), (7, _)]) [0, 1, 2, 3, 4, 6] rfl ?_
          exact tX5_first_b106   hk30 ih hm
def mX5_first_b30   : Nat → Int32 → Int32 → Int32 → Int32 → jMem → Option (Int32 × jMem)
  | 0, _, _, _, _, _ => none
  | n + 1, a2, a3, a4, a5, V => (if (V.1 1 0) ≤ a5 then (if (0 : Int32) ≤ a3 then (some (a3, V)) else ((mX5_finds (-1000000004 : Int32) V).bind (fun (p3 : Int32 × jMem) => (some (p3.1, p3.2))))) else (if ((a2 >>> (a5 &&& (31 : Int32))) &&& (1 : Int32)) = (1 : Int32) then (mX5_first_b57 (mX5_first_b30 n) 2000 a2 a3 a4 a5 (0 : Int32) (0 : Int32) V) else (mX5_first_b133 (mX5_first_b30 n) a2 a3 a4 a5 V)))
set_option maxHeartbeats 4000000 in
set_option maxRecDepth 20000 in
theorem tX5_first_b30 {l : Launch} {Z : jZ} {q : Nat → Nat}  {r : Int32} {V' : jMem}   (n : Nat) : ∀ (a2 : Int32) (a3 : Int32) (a4 : Int32) (a5 : Int32) (V : jMem), mX5_first_b30 n a2 a3 a4 a5 V = some (r, V') → J l Z RX5 "first" cX5_first 8 (some .int) 4 0 0 (fun r' w => r' = some (.int r) ∧ w = jw Z q V' dM) 30 [(0, .ref (q 0)), (2, .int a2), (3, .int a3), (4, .int a4), (5, .int a5)] [] (jw Z q V dM) 0 0 := by
  induction n with
  | zero => intro a2 a3 a4 a5 V hm; cases hm
  | succ n ih =>
    intro a2 a3 a4 a5 V hm
    rw [mX5_first_b30] at hm
    refine j_iload dX5_first_30 rfl rfl ?_
    refine j_aload_n dX5_first_32 rfl rfl ?_
    refine m_getr (k := 0) (r := 1) fX5_7 dX5_first_33 rfl rfl rfl ?_
    refine j_iconst (v := 0) dX5_first_36 rfl (by decide) ?_
    refine o_iald (k := 0) (by decide) dX5_first_37 rfl rfl (jin_vp (by decide)) ?_
    refine j_icmp_ge (tgt := 139) dX5_first_38 rfl (by decide) (fun c1 => ?_) (fun c1 => ?_)
    · have hm := jif_pos c1 hm
      refine j_iload_n dX5_first_139 rfl rfl ?_
      refine j_if_ge (tgt := 152) dX5_first_140 rfl (by decide) (fun c2 => ?_) (fun c2 => ?_)
      · have hm := jif_pos c2 hm
        refine j_iload_n dX5_first_152 rfl rfl ?_
        exact j_ireturn dX5_first_153 rfl rfl ⟨Nat.le_refl _, Nat.le_refl _⟩ (jf_m (fun z => .int z) hm)
      · have hm := jif_neg c2 hm
        refine j_aload_n dX5_first_143 rfl rfl ?_
        refine j_ldc dX5_first_144 rfl wX5_127 ?_
        obtain ⟨p3, ep3, hm⟩ := jb_of hm
        refine o_callV_i kX5_60 dX5_first_146 rfl (tX5_finds  ep3) rfl rfl rfl rfl rfl (Nat.le_of_ble_eq_true rfl) (by decide) ?_
        refine j_goto (tgt := 153) dX5_first_149 (by decide) ?_
        exact j_ireturn dX5_first_153 rfl rfl ⟨Nat.le_refl _, Nat.le_refl _⟩ (jf_m (fun z => .int z) hm)
    · have hm := jif_neg c1 hm
      refine j_iload_n dX5_first_41 rfl rfl ?_
      refine j_iload dX5_first_42 rfl rfl ?_
      refine j_ishr dX5_first_44 rfl ?_
      refine j_iconst (v := 1) dX5_first_45 rfl (by decide) ?_
      refine j_iand dX5_first_46 rfl ?_
      refine j_iconst (v := 1) dX5_first_47 rfl (by decide) ?_
      refine j_icmp_ne (tgt := 133) dX5_first_48 rfl (by decide) (fun c4 => ?_) (fun c4 => ?_)
      · have hm := jif_neg c4 hm
        exact tX5_first_b133   ih hm
      · have hm := jif_pos c4 hm
        refine j_iconst (v := 0) dX5_first_51 rfl (by decide) ?_
        refine j_istore (L' := [(6, _), (0, _), (2, _), (3, _), (4, _), (5, _)]) dX5_first_52 rfl (by decide) rfl ?_
        refine j_iconst (v := 0) dX5_first_54 rfl (by decide) ?_
        refine j_istore (L' := [(7, _), (6, _), (0, _), (2, _), (3, _), (4, _), (5, _)]) dX5_first_55 rfl (by decide) rfl ?_
        refine j_sub (L' := [(0, _), (2, _), (3, _), (4, _), (5, _), (6, _), (7, _)]) [2, 3, 4, 5, 6, 1, 0] rfl ?_
        exact tX5_first_b57  ih _ _ _ _ _ _ _ _  hm
def mX5_first (a1 : Int32) (V : jMem) : Option (Int32 × jMem) := (if (mX5_isStrip a1 V) = (0 : Int32) then ((mX5_finds (-1000000001 : Int32) V).bind (fun (p3 : Int32 × jMem) => (some (p3.1, p3.2)))) else ((mX5_thoseOf a1 (0 : Int32) V).bind (fun (r2 : Int32) => (mX5_first_b30 2000 r2 (-1 : Int32) (0 : Int32) (0 : Int32) V))))
set_option maxHeartbeats 4000000 in
set_option maxRecDepth 20000 in
theorem tX5_first {l : Launch} {Z : jZ} {q : Nat → Nat} {a1 : Int32} {V : jMem} {r : Int32} {V' : jMem}  (hm : mX5_first a1 V = some (r, V')) : CtD l Z yX5_first cX5_first 8 (some .int) 4 q dM [.ref (q 0), .int a1] V (some (.int r)) V' := by
  refine Ct_of (L := [(0, .ref (q 0)), (1, .int a1)]) (own := RX5) (nm := "first") rfl rfl (by decide +kernel) rfl (Nat.le_of_ble_eq_true rfl) ?_
  unfold mX5_first at hm
  refine j_aload_n dX5_first_0 rfl rfl ?_
  refine j_iload_n dX5_first_1 rfl rfl ?_
  refine o_callV_i kX5_141 dX5_first_2 rfl (tX5_isStrip  rfl) rfl rfl rfl rfl rfl (Nat.le_of_ble_eq_true rfl) (by decide) ?_
  refine j_if_ne (tgt := 15) dX5_first_5 rfl (by decide) (fun c1 => ?_) (fun c1 => ?_)
  · have hm := jif_neg c1 hm
    refine j_aload_n dX5_first_15 rfl rfl ?_
    refine j_iload_n dX5_first_16 rfl rfl ?_
    refine j_iconst (v := 0) dX5_first_17 rfl (by decide) ?_
    obtain ⟨r2, er2, hm⟩ := jb_of hm
    refine o_callV_i kX5_138 dX5_first_18 rfl (tX5_thoseOf  er2) rfl rfl rfl rfl rfl (Nat.le_of_ble_eq_true rfl) (by decide) ?_
    refine j_istore_n (i := 2) (L' := [(2, _), (0, _), (1, _)]) dX5_first_21 rfl rfl (by decide) rfl ?_
    refine j_iconst (v := -1) dX5_first_22 rfl (by decide) ?_
    refine j_istore_n (i := 3) (L' := [(3, _), (2, _), (0, _), (1, _)]) dX5_first_23 rfl rfl (by decide) rfl ?_
    refine j_iconst (v := 0) dX5_first_24 rfl (by decide) ?_
    refine j_istore (L' := [(4, _), (3, _), (2, _), (0, _), (1, _)]) dX5_first_25 rfl (by decide) rfl ?_
    refine j_iconst (v := 0) dX5_first_27 rfl (by decide) ?_
    refine j_istore (L' := [(5, _), (4, _), (3, _), (2, _), (0, _), (1, _)]) dX5_first_28 rfl (by decide) rfl ?_
    refine j_sub (L' := [(0, _), (2, _), (3, _), (4, _), (5, _)]) [4, 3, 2, 1, 0] rfl ?_
    exact tX5_first_b30   _ _ _ _ _ _  hm
  · have hm := jif_pos c1 hm
    refine j_aload_n dX5_first_8 rfl rfl ?_
    refine j_ldc dX5_first_9 rfl wX5_44 ?_
    obtain ⟨p3, ep3, hm⟩ := jb_of hm
    refine o_callV_i kX5_60 dX5_first_11 rfl (tX5_finds  ep3) rfl rfl rfl rfl rfl (Nat.le_of_ble_eq_true rfl) (by decide) ?_
    exact j_ireturn dX5_first_14 rfl rfl ⟨Nat.le_refl _, Nat.le_refl _⟩ (jf_m (fun z => .int z) hm)
theorem dX5_feed_0 : decode cX5_feed 0 = .ok (.iload_n 2, 1) := by decide +kernel
theorem dX5_feed_1 : decode cX5_feed 1 = .ok (.i2l, 1) := by decide +kernel
theorem dX5_feed_2 : decode cX5_feed 2 = .ok (.lconst 1, 1) := by decide +kernel
theorem dX5_feed_3 : decode cX5_feed 3 = .ok (.ldc2_w 144, 3) := by decide +kernel
theorem dX5_feed_6 : decode cX5_feed 6 = .ok (.invokestatic 54, 3) := by decide +kernel
theorem dX5_feed_9 : decode cX5_feed 9 = .ok (.ifCond .ne 10, 3) := by decide +kernel
theorem dX5_feed_12 : decode cX5_feed 12 = .ok (.aload_n 0, 1) := by decide +kernel
theorem dX5_feed_13 : decode cX5_feed 13 = .ok (.ldc 44, 2) := by decide +kernel
theorem dX5_feed_15 : decode cX5_feed 15 = .ok (.invokevirtual 60, 3) := by decide +kernel
theorem dX5_feed_18 : decode cX5_feed 18 = .ok (.ireturn, 1) := by decide +kernel
theorem dX5_feed_19 : decode cX5_feed 19 = .ok (.aload_n 0, 1) := by decide +kernel
theorem dX5_feed_20 : decode cX5_feed 20 = .ok (.getfield 175, 3) := by decide +kernel
theorem dX5_feed_23 : decode cX5_feed 23 = .ok (.iload_n 2, 1) := by decide +kernel
theorem dX5_feed_24 : decode cX5_feed 24 = .ok (.iadd, 1) := by decide +kernel
theorem dX5_feed_25 : decode cX5_feed 25 = .ok (.bipush 120, 2) := by decide +kernel
theorem dX5_feed_27 : decode cX5_feed 27 = .ok (.if_icmp .le 10, 3) := by decide +kernel
theorem dX5_feed_30 : decode cX5_feed 30 = .ok (.aload_n 0, 1) := by decide +kernel
theorem dX5_feed_31 : decode cX5_feed 31 = .ok (.ldc 64, 2) := by decide +kernel
theorem dX5_feed_33 : decode cX5_feed 33 = .ok (.invokevirtual 60, 3) := by decide +kernel
theorem dX5_feed_36 : decode cX5_feed 36 = .ok (.ireturn, 1) := by decide +kernel
theorem dX5_feed_37 : decode cX5_feed 37 = .ok (.iload_n 2, 1) := by decide +kernel
theorem dX5_feed_38 : decode cX5_feed 38 = .ok (.iconst 1, 1) := by decide +kernel
theorem dX5_feed_39 : decode cX5_feed 39 = .ok (.isub, 1) := by decide +kernel
theorem dX5_feed_40 : decode cX5_feed 40 = .ok (.istore_n 3, 1) := by decide +kernel
theorem dX5_feed_41 : decode cX5_feed 41 = .ok (.iload_n 3, 1) := by decide +kernel
theorem dX5_feed_42 : decode cX5_feed 42 = .ok (.ifCond .lt 38, 3) := by decide +kernel
theorem dX5_feed_45 : decode cX5_feed 45 = .ok (.aload_n 0, 1) := by decide +kernel
theorem dX5_feed_46 : decode cX5_feed 46 = .ok (.getfield 22, 3) := by decide +kernel
theorem dX5_feed_49 : decode cX5_feed 49 = .ok (.aload_n 0, 1) := by decide +kernel
theorem dX5_feed_50 : decode cX5_feed 50 = .ok (.getfield 175, 3) := by decide +kernel
theorem dX5_feed_53 : decode cX5_feed 53 = .ok (.iload_n 1, 1) := by decide +kernel
theorem dX5_feed_54 : decode cX5_feed 54 = .ok (.bipush 8, 2) := by decide +kernel
theorem dX5_feed_56 : decode cX5_feed 56 = .ok (.iload_n 3, 1) := by decide +kernel
theorem dX5_feed_57 : decode cX5_feed 57 = .ok (.imul, 1) := by decide +kernel
theorem dX5_feed_58 : decode cX5_feed 58 = .ok (.ishr, 1) := by decide +kernel
theorem dX5_feed_59 : decode cX5_feed 59 = .ok (.sipush 255, 3) := by decide +kernel
theorem dX5_feed_62 : decode cX5_feed 62 = .ok (.iand, 1) := by decide +kernel
theorem dX5_feed_63 : decode cX5_feed 63 = .ok (.iastore, 1) := by decide +kernel
theorem dX5_feed_64 : decode cX5_feed 64 = .ok (.aload_n 0, 1) := by decide +kernel
theorem dX5_feed_65 : decode cX5_feed 65 = .ok (.dup, 1) := by decide +kernel
theorem dX5_feed_66 : decode cX5_feed 66 = .ok (.getfield 175, 3) := by decide +kernel
theorem dX5_feed_69 : decode cX5_feed 69 = .ok (.iconst 1, 1) := by decide +kernel
theorem dX5_feed_70 : decode cX5_feed 70 = .ok (.iadd, 1) := by decide +kernel
theorem dX5_feed_71 : decode cX5_feed 71 = .ok (.putfield 175, 3) := by decide +kernel
theorem dX5_feed_74 : decode cX5_feed 74 = .ok (.iinc 3 (-1), 3) := by decide +kernel
theorem dX5_feed_77 : decode cX5_feed 77 = .ok (.goto (-36), 3) := by decide +kernel
theorem dX5_feed_80 : decode cX5_feed 80 = .ok (.aload_n 0, 1) := by decide +kernel
theorem dX5_feed_81 : decode cX5_feed 81 = .ok (.getfield 175, 3) := by decide +kernel
theorem dX5_feed_84 : decode cX5_feed 84 = .ok (.ireturn, 1) := by decide +kernel
def mX5_feed_b41   : Nat → Int32 → Int32 → jMem → Option (Int32 × jMem)
  | 0, _, _, _ => none
  | n + 1, a1, a3, V => (if a3 < (0 : Int32) then (some ((V.1 0 8), V)) else (jg (jin (V.1 0 8) 120) (jl (jsI V 5 (Int32.toNatClampNeg (V.1 0 8)) ((a1 >>> (((8 : Int32) * a3) &&& (31 : Int32))) &&& (255 : Int32))) (fun (V3 : jMem) => (jl (jsI V3 0 8 ((V3.1 0 8) + (1 : Int32))) (fun (V4 : jMem) => (mX5_feed_b41 n a1 (a3 + (-1 : Int32)) V4)))))))
set_option maxHeartbeats 4000000 in
set_option maxRecDepth 20000 in
theorem tX5_feed_b41 {l : Launch} {Z : jZ} {q : Nat → Nat}  {r : Int32} {V' : jMem}   (n : Nat) : ∀ (a1 : Int32) (a3 : Int32) (V : jMem), mX5_feed_b41 n a1 a3 V = some (r, V') → J l Z RX5 "feed" cX5_feed 4 (some .int) 1 0 0 (fun r' w => r' = some (.int r) ∧ w = jw Z q V' dM) 41 [(0, .ref (q 0)), (1, .int a1), (3, .int a3)] [] (jw Z q V dM) 0 0 := by
  induction n with
  | zero => intro a1 a3 V hm; cases hm
  | succ n ih =>
    intro a1 a3 V hm
    rw [mX5_feed_b41] at hm
    refine j_iload_n dX5_feed_41 rfl rfl ?_
    refine j_if_lt (tgt := 80) dX5_feed_42 rfl (by decide) (fun c1 => ?_) (fun c1 => ?_)
    · have hm := jif_pos c1 hm
      refine j_aload_n dX5_feed_80 rfl rfl ?_
      refine m_geti (k := 8) fX5_175 dX5_feed_81 rfl rfl rfl ?_
      exact j_ireturn dX5_feed_84 rfl rfl ⟨Nat.le_refl _, Nat.le_refl _⟩ (jf_m (fun z => .int z) hm)
    · have hm := jif_neg c1 hm
      refine j_aload_n dX5_feed_45 rfl rfl ?_
      refine m_getr (k := 7) (r := 5) fX5_22 dX5_feed_46 rfl rfl rfl ?_
      refine j_aload_n dX5_feed_49 rfl rfl ?_
      refine m_geti (k := 8) fX5_175 dX5_feed_50 rfl rfl rfl ?_
      refine j_iload_n dX5_feed_53 rfl rfl ?_
      refine j_bipush (v := 8) dX5_feed_54 rfl (by decide) ?_
      refine j_iload_n dX5_feed_56 rfl rfl ?_
      refine j_imul dX5_feed_57 rfl ?_
      refine j_ishr dX5_feed_58 rfl ?_
      refine j_sipush (v := 255) dX5_feed_59 rfl (by decide) ?_
      refine j_iand dX5_feed_62 rfl ?_
      obtain ⟨g2, hm⟩ := jg_of hm
      refine o_iast (k := (Int32.toNatClampNeg (V.1 0 8))) rfl dX5_feed_63 rfl rfl (jin_vp g2) ?_
      obtain ⟨V3, eV3⟩ : ∃ y, y = (jsI V 5 (Int32.toNatClampNeg (V.1 0 8)) ((a1 >>> (((8 : Int32) * a3) &&& (31 : Int32))) &&& (255 : Int32))) := ⟨_, rfl⟩
      have hm := jl_of hm eV3
      rw [← eV3]
      refine j_aload_n dX5_feed_64 rfl rfl ?_
      refine j_dup dX5_feed_65 rfl rfl ?_
      refine m_geti (k := 8) fX5_175 dX5_feed_66 rfl rfl rfl ?_
      refine j_iconst (v := 1) dX5_feed_69 rfl (by decide) ?_
      refine j_iadd dX5_feed_70 rfl ?_
      refine m_puti (k := 8) fX5_175 dX5_feed_71 rfl rfl rfl ?_
      obtain ⟨V4, eV4⟩ : ∃ y, y = (jsI V3 0 8 ((V3.1 0 8) + (1 : Int32))) := ⟨_, rfl⟩
      have hm := jl_of hm eV4
      rw [← eV4]
      refine j_iinc (v := (a3 + (-1 : Int32))) (L' := [(3, _), (0, _), (1, _)]) dX5_feed_74 rfl rfl rfl (by decide) rfl ?_
      refine j_goto (tgt := 41) dX5_feed_77 (by decide) ?_
      refine j_sub (L' := [(0, _), (1, _), (3, _)]) [1, 2, 0] rfl ?_
      exact ih _ _ _  hm
def mX5_feed (a1 : Int32) (a2 : Int32) (V : jMem) : Option (Int32 × jMem) := (if (mX5_isIn (Int32.toInt64 a2) (1 : Int64) (4 : Int64)) = (0 : Int32) then ((mX5_finds (-1000000001 : Int32) V).bind (fun (p4 : Int32 × jMem) => (some (p4.1, p4.2)))) else (if ((V.1 0 8) + a2) ≤ (120 : Int32) then (mX5_feed_b41 2000 a1 (a2 - (1 : Int32)) V) else ((mX5_finds (-1000000002 : Int32) V).bind (fun (p3 : Int32 × jMem) => (some (p3.1, p3.2))))))
set_option maxHeartbeats 4000000 in
set_option maxRecDepth 20000 in
theorem tX5_feed {l : Launch} {Z : jZ} {q : Nat → Nat} {a1 : Int32} {a2 : Int32} {V : jMem} {r : Int32} {V' : jMem}  (hm : mX5_feed a1 a2 V = some (r, V')) : CtD l Z yX5_feed cX5_feed 4 (some .int) 1 q dM [.ref (q 0), .int a1, .int a2] V (some (.int r)) V' := by
  refine Ct_of (L := [(0, .ref (q 0)), (1, .int a1), (2, .int a2)]) (own := RX5) (nm := "feed") rfl rfl (by decide +kernel) rfl (Nat.le_of_ble_eq_true rfl) ?_
  unfold mX5_feed at hm
  refine j_iload_n dX5_feed_0 rfl rfl ?_
  refine j_i2l dX5_feed_1 rfl ?_
  refine j_lconst (v := 1) dX5_feed_2 rfl (by decide) ?_
  refine j_ldc2 dX5_feed_3 rfl wX5_144 ?_
  refine o_callS_i kX5_54 dX5_feed_6 rfl (tX5_isIn  rfl) rfl rfl (Nat.le_of_ble_eq_true rfl) (by decide) ?_
  refine j_if_ne (tgt := 19) dX5_feed_9 rfl (by decide) (fun c1 => ?_) (fun c1 => ?_)
  · have hm := jif_neg c1 hm
    refine j_aload_n dX5_feed_19 rfl rfl ?_
    refine m_geti (k := 8) fX5_175 dX5_feed_20 rfl rfl rfl ?_
    refine j_iload_n dX5_feed_23 rfl rfl ?_
    refine j_iadd dX5_feed_24 rfl ?_
    refine j_bipush (v := 120) dX5_feed_25 rfl (by decide) ?_
    refine j_icmp_le (tgt := 37) dX5_feed_27 rfl (by decide) (fun c2 => ?_) (fun c2 => ?_)
    · have hm := jif_pos c2 hm
      refine j_iload_n dX5_feed_37 rfl rfl ?_
      refine j_iconst (v := 1) dX5_feed_38 rfl (by decide) ?_
      refine j_isub dX5_feed_39 rfl ?_
      refine j_istore_n (i := 3) (L' := [(3, _), (0, _), (1, _), (2, _)]) dX5_feed_40 rfl rfl (by decide) rfl ?_
      refine j_sub (L' := [(0, _), (1, _), (3, _)]) [1, 2, 0] rfl ?_
      exact tX5_feed_b41   _ _ _ _  hm
    · have hm := jif_neg c2 hm
      refine j_aload_n dX5_feed_30 rfl rfl ?_
      refine j_ldc dX5_feed_31 rfl wX5_64 ?_
      obtain ⟨p3, ep3, hm⟩ := jb_of hm
      refine o_callV_i kX5_60 dX5_feed_33 rfl (tX5_finds  ep3) rfl rfl rfl rfl rfl (Nat.le_of_ble_eq_true rfl) (by decide) ?_
      exact j_ireturn dX5_feed_36 rfl rfl ⟨Nat.le_refl _, Nat.le_refl _⟩ (jf_m (fun z => .int z) hm)
  · have hm := jif_pos c1 hm
    refine j_aload_n dX5_feed_12 rfl rfl ?_
    refine j_ldc dX5_feed_13 rfl wX5_44 ?_
    obtain ⟨p4, ep4, hm⟩ := jb_of hm
    refine o_callV_i kX5_60 dX5_feed_15 rfl (tX5_finds  ep4) rfl rfl rfl rfl rfl (Nat.le_of_ble_eq_true rfl) (by decide) ?_
    exact j_ireturn dX5_feed_18 rfl rfl ⟨Nat.le_refl _, Nat.le_refl _⟩ (jf_m (fun z => .int z) hm)
theorem dX5_wipe_0 : decode cX5_wipe 0 = .ok (.aload_n 0, 1) := by decide +kernel
theorem dX5_wipe_1 : decode cX5_wipe 1 = .ok (.getfield 175, 3) := by decide +kernel
theorem dX5_wipe_4 : decode cX5_wipe 4 = .ok (.istore_n 1, 1) := by decide +kernel
theorem dX5_wipe_5 : decode cX5_wipe 5 = .ok (.aload_n 0, 1) := by decide +kernel
theorem dX5_wipe_6 : decode cX5_wipe 6 = .ok (.iconst 0, 1) := by decide +kernel
theorem dX5_wipe_7 : decode cX5_wipe 7 = .ok (.putfield 175, 3) := by decide +kernel
theorem dX5_wipe_10 : decode cX5_wipe 10 = .ok (.iload_n 1, 1) := by decide +kernel
theorem dX5_wipe_11 : decode cX5_wipe 11 = .ok (.ireturn, 1) := by decide +kernel
def mX5_wipe (V : jMem) : Option (Int32 × jMem) := (jl (jsI V 0 8 (0 : Int32)) (fun (V1 : jMem) => (some ((V.1 0 8), V1))))
set_option maxHeartbeats 4000000 in
set_option maxRecDepth 20000 in
theorem tX5_wipe {l : Launch} {Z : jZ} {q : Nat → Nat} {V : jMem} {r : Int32} {V' : jMem}  (hm : mX5_wipe V = some (r, V')) : CtD l Z yX5_wipe cX5_wipe 2 (some .int) 0 q dM [.ref (q 0)] V (some (.int r)) V' := by
  refine Ct_of (L := [(0, .ref (q 0))]) (own := RX5) (nm := "wipe") rfl rfl (by decide +kernel) rfl (Nat.le_of_ble_eq_true rfl) ?_
  unfold mX5_wipe at hm
  refine j_aload_n dX5_wipe_0 rfl rfl ?_
  refine m_geti (k := 8) fX5_175 dX5_wipe_1 rfl rfl rfl ?_
  refine j_istore_n (i := 1) (L' := [(1, _), (0, _)]) dX5_wipe_4 rfl rfl (by decide) rfl ?_
  refine j_aload_n dX5_wipe_5 rfl rfl ?_
  refine j_iconst (v := 0) dX5_wipe_6 rfl (by decide) ?_
  refine m_puti (k := 8) fX5_175 dX5_wipe_7 rfl rfl rfl ?_
  obtain ⟨V1, eV1⟩ : ∃ y, y = (jsI V 0 8 (0 : Int32)) := ⟨_, rfl⟩
  have hm := jl_of hm eV1
  rw [← eV1]
  refine j_iload_n dX5_wipe_10 rfl rfl ?_
  exact j_ireturn dX5_wipe_11 rfl rfl ⟨Nat.le_refl _, Nat.le_refl _⟩ (jf_m (fun z => .int z) hm)
theorem dX5_byteAt_0 : decode cX5_byteAt 0 = .ok (.iload_n 1, 1) := by decide +kernel
theorem dX5_byteAt_1 : decode cX5_byteAt 1 = .ok (.aload_n 0, 1) := by decide +kernel
theorem dX5_byteAt_2 : decode cX5_byteAt 2 = .ok (.getfield 175, 3) := by decide +kernel
theorem dX5_byteAt_5 : decode cX5_byteAt 5 = .ok (.if_icmp .ge 12, 3) := by decide +kernel
theorem dX5_byteAt_8 : decode cX5_byteAt 8 = .ok (.aload_n 0, 1) := by decide +kernel
theorem dX5_byteAt_9 : decode cX5_byteAt 9 = .ok (.getfield 22, 3) := by decide +kernel
theorem dX5_byteAt_12 : decode cX5_byteAt 12 = .ok (.iload_n 1, 1) := by decide +kernel
theorem dX5_byteAt_13 : decode cX5_byteAt 13 = .ok (.iaload, 1) := by decide +kernel
theorem dX5_byteAt_14 : decode cX5_byteAt 14 = .ok (.goto 4, 3) := by decide +kernel
theorem dX5_byteAt_17 : decode cX5_byteAt 17 = .ok (.iconst (-1), 1) := by decide +kernel
theorem dX5_byteAt_18 : decode cX5_byteAt 18 = .ok (.ireturn, 1) := by decide +kernel
def mX5_byteAt (a1 : Int32) (V : jMem) : Option Int32 := (if (V.1 0 8) ≤ a1 then (some (-1 : Int32)) else (jg (jin a1 120) (some (V.1 5 (Int32.toNatClampNeg a1)))))
set_option maxHeartbeats 4000000 in
set_option maxRecDepth 20000 in
theorem tX5_byteAt {l : Launch} {Z : jZ} {q : Nat → Nat} {a1 : Int32} {V : jMem} {r : Int32}  (hm : mX5_byteAt a1 V = some r) : CtD l Z yX5_byteAt cX5_byteAt 2 (some .int) 0 q dM [.ref (q 0), .int a1] V (some (.int r)) V := by
  refine Ct_of (L := [(0, .ref (q 0)), (1, .int a1)]) (own := RX5) (nm := "byteAt") rfl rfl (by decide +kernel) rfl (Nat.le_of_ble_eq_true rfl) ?_
  unfold mX5_byteAt at hm
  refine j_iload_n dX5_byteAt_0 rfl rfl ?_
  refine j_aload_n dX5_byteAt_1 rfl rfl ?_
  refine m_geti (k := 8) fX5_175 dX5_byteAt_2 rfl rfl rfl ?_
  refine j_icmp_ge (tgt := 17) dX5_byteAt_5 rfl (by decide) (fun c1 => ?_) (fun c1 => ?_)
  · have hm := jif_pos c1 hm
    refine j_iconst (v := -1) dX5_byteAt_17 rfl (by decide) ?_
    exact j_ireturn dX5_byteAt_18 rfl rfl ⟨Nat.le_refl _, Nat.le_refl _⟩ (jf_p (fun z => .int z) hm)
  · have hm := jif_neg c1 hm
    refine j_aload_n dX5_byteAt_8 rfl rfl ?_
    refine m_getr (k := 7) (r := 5) fX5_22 dX5_byteAt_9 rfl rfl rfl ?_
    refine j_iload_n dX5_byteAt_12 rfl rfl ?_
    obtain ⟨g2, hm⟩ := jg_of hm
    refine o_iald (k := (Int32.toNatClampNeg a1)) rfl dX5_byteAt_13 rfl rfl (jin_vp g2) ?_
    refine j_goto (tgt := 18) dX5_byteAt_14 (by decide) ?_
    exact j_ireturn dX5_byteAt_18 rfl rfl ⟨Nat.le_refl _, Nat.le_refl _⟩ (jf_p (fun z => .int z) hm)
theorem dX5_wordHere_0 : decode cX5_wordHere 0 = .ok (.iconst 0, 1) := by decide +kernel
theorem dX5_wordHere_1 : decode cX5_wordHere 1 = .ok (.istore_n 1, 1) := by decide +kernel
theorem dX5_wordHere_2 : decode cX5_wordHere 2 = .ok (.aload_n 0, 1) := by decide +kernel
theorem dX5_wordHere_3 : decode cX5_wordHere 3 = .ok (.getfield 178, 3) := by decide +kernel
theorem dX5_wordHere_6 : decode cX5_wordHere 6 = .ok (.istore_n 2, 1) := by decide +kernel
theorem dX5_wordHere_7 : decode cX5_wordHere 7 = .ok (.iconst 1, 1) := by decide +kernel
theorem dX5_wordHere_8 : decode cX5_wordHere 8 = .ok (.istore_n 3, 1) := by decide +kernel
theorem dX5_wordHere_9 : decode cX5_wordHere 9 = .ok (.iconst 0, 1) := by decide +kernel
theorem dX5_wordHere_10 : decode cX5_wordHere 10 = .ok (.istore 4, 2) := by decide +kernel
theorem dX5_wordHere_12 : decode cX5_wordHere 12 = .ok (.iload 4, 2) := by decide +kernel
theorem dX5_wordHere_14 : decode cX5_wordHere 14 = .ok (.bipush 83, 2) := by decide +kernel
theorem dX5_wordHere_16 : decode cX5_wordHere 16 = .ok (.if_icmp .ge 82, 3) := by decide +kernel
theorem dX5_wordHere_19 : decode cX5_wordHere 19 = .ok (.aload_n 0, 1) := by decide +kernel
theorem dX5_wordHere_20 : decode cX5_wordHere 20 = .ok (.getfield 41, 3) := by decide +kernel
theorem dX5_wordHere_23 : decode cX5_wordHere 23 = .ok (.iload 4, 2) := by decide +kernel
theorem dX5_wordHere_25 : decode cX5_wordHere 25 = .ok (.iaload, 1) := by decide +kernel
theorem dX5_wordHere_26 : decode cX5_wordHere 26 = .ok (.ifCond .ne 30, 3) := by decide +kernel
theorem dX5_wordHere_29 : decode cX5_wordHere 29 = .ok (.iload_n 3, 1) := by decide +kernel
theorem dX5_wordHere_30 : decode cX5_wordHere 30 = .ok (.ifCond .eq 13, 3) := by decide +kernel
theorem dX5_wordHere_33 : decode cX5_wordHere 33 = .ok (.iload_n 2, 1) := by decide +kernel
theorem dX5_wordHere_34 : decode cX5_wordHere 34 = .ok (.aload_n 0, 1) := by decide +kernel
theorem dX5_wordHere_35 : decode cX5_wordHere 35 = .ok (.getfield 181, 3) := by decide +kernel
theorem dX5_wordHere_38 : decode cX5_wordHere 38 = .ok (.if_icmp .ne 5, 3) := by decide +kernel
theorem dX5_wordHere_41 : decode cX5_wordHere 41 = .ok (.iload_n 1, 1) := by decide +kernel
theorem dX5_wordHere_42 : decode cX5_wordHere 42 = .ok (.ireturn, 1) := by decide +kernel
theorem dX5_wordHere_43 : decode cX5_wordHere 43 = .ok (.iinc 1 1, 3) := by decide +kernel
theorem dX5_wordHere_46 : decode cX5_wordHere 46 = .ok (.aload_n 0, 1) := by decide +kernel
theorem dX5_wordHere_47 : decode cX5_wordHere 47 = .ok (.getfield 178, 3) := by decide +kernel
theorem dX5_wordHere_50 : decode cX5_wordHere 50 = .ok (.istore_n 2, 1) := by decide +kernel
theorem dX5_wordHere_51 : decode cX5_wordHere 51 = .ok (.iconst 1, 1) := by decide +kernel
theorem dX5_wordHere_52 : decode cX5_wordHere 52 = .ok (.istore_n 3, 1) := by decide +kernel
theorem dX5_wordHere_53 : decode cX5_wordHere 53 = .ok (.goto 39, 3) := by decide +kernel
theorem dX5_wordHere_56 : decode cX5_wordHere 56 = .ok (.iload_n 3, 1) := by decide +kernel
theorem dX5_wordHere_57 : decode cX5_wordHere 57 = .ok (.ifCond .eq 30, 3) := by decide +kernel
theorem dX5_wordHere_60 : decode cX5_wordHere 60 = .ok (.iload_n 2, 1) := by decide +kernel
theorem dX5_wordHere_61 : decode cX5_wordHere 61 = .ok (.aload_n 0, 1) := by decide +kernel
theorem dX5_wordHere_62 : decode cX5_wordHere 62 = .ok (.getfield 181, 3) := by decide +kernel
theorem dX5_wordHere_65 : decode cX5_wordHere 65 = .ok (.if_icmp .ge 22, 3) := by decide +kernel
theorem dX5_wordHere_68 : decode cX5_wordHere 68 = .ok (.aload_n 0, 1) := by decide +kernel
theorem dX5_wordHere_69 : decode cX5_wordHere 69 = .ok (.iload_n 2, 1) := by decide +kernel
theorem dX5_wordHere_70 : decode cX5_wordHere 70 = .ok (.invokevirtual 184, 3) := by decide +kernel
theorem dX5_wordHere_73 : decode cX5_wordHere 73 = .ok (.aload_n 0, 1) := by decide +kernel
theorem dX5_wordHere_74 : decode cX5_wordHere 74 = .ok (.getfield 41, 3) := by decide +kernel
theorem dX5_wordHere_77 : decode cX5_wordHere 77 = .ok (.iload 4, 2) := by decide +kernel
theorem dX5_wordHere_79 : decode cX5_wordHere 79 = .ok (.iaload, 1) := by decide +kernel
theorem dX5_wordHere_80 : decode cX5_wordHere 80 = .ok (.if_icmp .ne 7, 3) := by decide +kernel
theorem dX5_wordHere_83 : decode cX5_wordHere 83 = .ok (.iconst 1, 1) := by decide +kernel
theorem dX5_wordHere_84 : decode cX5_wordHere 84 = .ok (.goto 4, 3) := by decide +kernel
theorem dX5_wordHere_87 : decode cX5_wordHere 87 = .ok (.iconst 0, 1) := by decide +kernel
theorem dX5_wordHere_88 : decode cX5_wordHere 88 = .ok (.istore_n 3, 1) := by decide +kernel
theorem dX5_wordHere_89 : decode cX5_wordHere 89 = .ok (.iinc 2 1, 3) := by decide +kernel
theorem dX5_wordHere_92 : decode cX5_wordHere 92 = .ok (.iinc 4 1, 3) := by decide +kernel
theorem dX5_wordHere_95 : decode cX5_wordHere 95 = .ok (.goto (-83), 3) := by decide +kernel
theorem dX5_wordHere_98 : decode cX5_wordHere 98 = .ok (.iconst (-1), 1) := by decide +kernel
theorem dX5_wordHere_99 : decode cX5_wordHere 99 = .ok (.ireturn, 1) := by decide +kernel
def mX5_wordHere_b92 (V : jMem) (k12 : Int32 → Int32 → Int32 → Int32 → Option Int32) (a1 : Int32) (a2 : Int32) (a3 : Int32) (a4 : Int32) : Option Int32 := (k12 a1 a2 a3 (a4 + (1 : Int32)))
set_option maxHeartbeats 4000000 in
set_option maxRecDepth 20000 in
theorem tX5_wordHere_b92 {l : Launch} {Z : jZ} {q : Nat → Nat} {V : jMem} {k12 : Int32 → Int32 → Int32 → Int32 → Option Int32} {a1 : Int32} {a2 : Int32} {a3 : Int32} {a4 : Int32} {r : Int32}   (hk12 : ∀ (a1 : Int32) (a2 : Int32) (a3 : Int32) (a4 : Int32), k12 a1 a2 a3 a4 = some r → J l Z RX5 "wordHere" cX5_wordHere 5 (some .int) 1 0 0 (fun r' w => r' = some (.int r) ∧ w = jw Z q V dM) 12 [(0, .ref (q 0)), (1, .int a1), (2, .int a2), (3, .int a3), (4, .int a4)] [] (jw Z q V dM) 0 0) (hm : mX5_wordHere_b92 V k12 a1 a2 a3 a4 = some r) : J l Z RX5 "wordHere" cX5_wordHere 5 (some .int) 1 0 0 (fun r' w => r' = some (.int r) ∧ w = jw Z q V dM) 92 [(0, .ref (q 0)), (1, .int a1), (2, .int a2), (3, .int a3), (4, .int a4)] [] (jw Z q V dM) 0 0 := by
  unfold mX5_wordHere_b92 at hm
  refine j_iinc (v := (a4 + (1 : Int32))) (L' := [(4, _), (0, _), (1, _), (2, _), (3, _)]) dX5_wordHere_92 rfl rfl rfl (by decide) rfl ?_
  refine j_goto (tgt := 12) dX5_wordHere_95 (by decide) ?_
  refine j_sub (L' := [(0, _), (1, _), (2, _), (3, _), (4, _)]) [1, 2, 3, 4, 0] rfl ?_
  exact hk12 _ _ _ _  hm
def mX5_wordHere_b43 (V : jMem) (k12 : Int32 → Int32 → Int32 → Int32 → Option Int32) (a1 : Int32) (a4 : Int32) : Option Int32 := (mX5_wordHere_b92 V k12 (a1 + (1 : Int32)) (V.1 0 16) (1 : Int32) a4)
set_option maxHeartbeats 4000000 in
set_option maxRecDepth 20000 in
theorem tX5_wordHere_b43 {l : Launch} {Z : jZ} {q : Nat → Nat} {V : jMem} {k12 : Int32 → Int32 → Int32 → Int32 → Option Int32} {a1 : Int32} {a4 : Int32} {r : Int32}   (hk12 : ∀ (a1 : Int32) (a2 : Int32) (a3 : Int32) (a4 : Int32), k12 a1 a2 a3 a4 = some r → J l Z RX5 "wordHere" cX5_wordHere 5 (some .int) 1 0 0 (fun r' w => r' = some (.int r) ∧ w = jw Z q V dM) 12 [(0, .ref (q 0)), (1, .int a1), (2, .int a2), (3, .int a3), (4, .int a4)] [] (jw Z q V dM) 0 0) (hm : mX5_wordHere_b43 V k12 a1 a4 = some r) : J l Z RX5 "wordHere" cX5_wordHere 5 (some .int) 1 0 0 (fun r' w => r' = some (.int r) ∧ w = jw Z q V dM) 43 [(0, .ref (q 0)), (1, .int a1), (4, .int a4)] [] (jw Z q V dM) 0 0 := by
  unfold mX5_wordHere_b43 at hm
  refine j_iinc (v := (a1 + (1 : Int32))) (L' := [(1, _), (0, _), (4, _)]) dX5_wordHere_43 rfl rfl rfl (by decide) rfl ?_
  refine j_aload_n dX5_wordHere_46 rfl rfl ?_
  refine m_geti (k := 16) fX5_178 dX5_wordHere_47 rfl rfl rfl ?_
  refine j_istore_n (i := 2) (L' := [(2, _), (1, _), (0, _), (4, _)]) dX5_wordHere_50 rfl rfl (by decide) rfl ?_
  refine j_iconst (v := 1) dX5_wordHere_51 rfl (by decide) ?_
  refine j_istore_n (i := 3) (L' := [(3, _), (2, _), (1, _), (0, _), (4, _)]) dX5_wordHere_52 rfl rfl (by decide) rfl ?_
  refine j_goto (tgt := 92) dX5_wordHere_53 (by decide) ?_
  refine j_sub (L' := [(0, _), (1, _), (2, _), (3, _), (4, _)]) [3, 2, 1, 0, 4] rfl ?_
  exact tX5_wordHere_b92   hk12 hm
def mX5_wordHere_b88 (V : jMem) (k12 : Int32 → Int32 → Int32 → Int32 → Option Int32) (a1 : Int32) (a2 : Int32) (a4 : Int32) (s0 : Int32) : Option Int32 := (mX5_wordHere_b92 V k12 a1 (a2 + (1 : Int32)) s0 a4)
set_option maxHeartbeats 4000000 in
set_option maxRecDepth 20000 in
theorem tX5_wordHere_b88 {l : Launch} {Z : jZ} {q : Nat → Nat} {V : jMem} {k12 : Int32 → Int32 → Int32 → Int32 → Option Int32} {a1 : Int32} {a2 : Int32} {a4 : Int32} {s0 : Int32} {r : Int32}   (hk12 : ∀ (a1 : Int32) (a2 : Int32) (a3 : Int32) (a4 : Int32), k12 a1 a2 a3 a4 = some r → J l Z RX5 "wordHere" cX5_wordHere 5 (some .int) 1 0 0 (fun r' w => r' = some (.int r) ∧ w = jw Z q V dM) 12 [(0, .ref (q 0)), (1, .int a1), (2, .int a2), (3, .int a3), (4, .int a4)] [] (jw Z q V dM) 0 0) (hm : mX5_wordHere_b88 V k12 a1 a2 a4 s0 = some r) : J l Z RX5 "wordHere" cX5_wordHere 5 (some .int) 1 0 0 (fun r' w => r' = some (.int r) ∧ w = jw Z q V dM) 88 [(0, .ref (q 0)), (1, .int a1), (2, .int a2), (4, .int a4)] [.int s0] (jw Z q V dM) 0 0 := by
  unfold mX5_wordHere_b88 at hm
  refine j_istore_n (i := 3) (L' := [(3, _), (0, _), (1, _), (2, _), (4, _)]) dX5_wordHere_88 rfl rfl (by decide) rfl ?_
  refine j_iinc (v := (a2 + (1 : Int32))) (L' := [(2, _), (3, _), (0, _), (1, _), (4, _)]) dX5_wordHere_89 rfl rfl rfl (by decide) rfl ?_
  refine j_sub (L' := [(0, _), (1, _), (2, _), (3, _), (4, _)]) [2, 3, 0, 1, 4] rfl ?_
  exact tX5_wordHere_b92   hk12 hm
def mX5_wordHere_b87 (V : jMem) (k12 : Int32 → Int32 → Int32 → Int32 → Option Int32) (a1 : Int32) (a2 : Int32) (a4 : Int32) : Option Int32 := (mX5_wordHere_b88 V k12 a1 a2 a4 (0 : Int32))
set_option maxHeartbeats 4000000 in
set_option maxRecDepth 20000 in
theorem tX5_wordHere_b87 {l : Launch} {Z : jZ} {q : Nat → Nat} {V : jMem} {k12 : Int32 → Int32 → Int32 → Int32 → Option Int32} {a1 : Int32} {a2 : Int32} {a4 : Int32} {r : Int32}   (hk12 : ∀ (a1 : Int32) (a2 : Int32) (a3 : Int32) (a4 : Int32), k12 a1 a2 a3 a4 = some r → J l Z RX5 "wordHere" cX5_wordHere 5 (some .int) 1 0 0 (fun r' w => r' = some (.int r) ∧ w = jw Z q V dM) 12 [(0, .ref (q 0)), (1, .int a1), (2, .int a2), (3, .int a3), (4, .int a4)] [] (jw Z q V dM) 0 0) (hm : mX5_wordHere_b87 V k12 a1 a2 a4 = some r) : J l Z RX5 "wordHere" cX5_wordHere 5 (some .int) 1 0 0 (fun r' w => r' = some (.int r) ∧ w = jw Z q V dM) 87 [(0, .ref (q 0)), (1, .int a1), (2, .int a2), (4, .int a4)] [] (jw Z q V dM) 0 0 := by
  unfold mX5_wordHere_b87 at hm
  refine j_iconst (v := 0) dX5_wordHere_87 rfl (by decide) ?_
  exact tX5_wordHere_b88   hk12 hm
def mX5_wordHere_b12 (V : jMem)  : Nat → Int32 → Int32 → Int32 → Int32 → Option Int32
  | 0, _, _, _, _ => none
  | n + 1, a1, a2, a3, a4 => (if (83 : Int32) ≤ a4 then (some (-1 : Int32)) else (jg (jin a4 83) (if (V.1 11 (Int32.toNatClampNeg a4)) = (0 : Int32) then (if a3 = (0 : Int32) then (mX5_wordHere_b43 V (mX5_wordHere_b12 V n) a1 a4) else (if a2 = (V.1 0 17) then (some a1) else (mX5_wordHere_b43 V (mX5_wordHere_b12 V n) a1 a4))) else (if a3 = (0 : Int32) then (mX5_wordHere_b87 V (mX5_wordHere_b12 V n) a1 a2 a4) else (if (V.1 0 17) ≤ a2 then (mX5_wordHere_b87 V (mX5_wordHere_b12 V n) a1 a2 a4) else ((mX5_byteAt a2 V).bind (fun (r6 : Int32) => (if r6 = (V.1 11 (Int32.toNatClampNeg a4)) then (mX5_wordHere_b88 V (mX5_wordHere_b12 V n) a1 a2 a4 (1 : Int32)) else (mX5_wordHere_b87 V (mX5_wordHere_b12 V n) a1 a2 a4)))))))))
set_option maxHeartbeats 4000000 in
set_option maxRecDepth 20000 in
theorem tX5_wordHere_b12 {l : Launch} {Z : jZ} {q : Nat → Nat} {V : jMem} {r : Int32}   (n : Nat) : ∀ (a1 : Int32) (a2 : Int32) (a3 : Int32) (a4 : Int32), mX5_wordHere_b12 V n a1 a2 a3 a4 = some r → J l Z RX5 "wordHere" cX5_wordHere 5 (some .int) 1 0 0 (fun r' w => r' = some (.int r) ∧ w = jw Z q V dM) 12 [(0, .ref (q 0)), (1, .int a1), (2, .int a2), (3, .int a3), (4, .int a4)] [] (jw Z q V dM) 0 0 := by
  induction n with
  | zero => intro a1 a2 a3 a4 hm; cases hm
  | succ n ih =>
    intro a1 a2 a3 a4 hm
    rw [mX5_wordHere_b12] at hm
    refine j_iload dX5_wordHere_12 rfl rfl ?_
    refine j_bipush (v := 83) dX5_wordHere_14 rfl (by decide) ?_
    refine j_icmp_ge (tgt := 98) dX5_wordHere_16 rfl (by decide) (fun c1 => ?_) (fun c1 => ?_)
    · have hm := jif_pos c1 hm
      refine j_iconst (v := -1) dX5_wordHere_98 rfl (by decide) ?_
      exact j_ireturn dX5_wordHere_99 rfl rfl ⟨Nat.le_refl _, Nat.le_refl _⟩ (jf_p (fun z => .int z) hm)
    · have hm := jif_neg c1 hm
      refine j_aload_n dX5_wordHere_19 rfl rfl ?_
      refine m_getr (k := 21) (r := 11) fX5_41 dX5_wordHere_20 rfl rfl rfl ?_
      refine j_iload dX5_wordHere_23 rfl rfl ?_
      obtain ⟨g2, hm⟩ := jg_of hm
      refine o_iald (k := (Int32.toNatClampNeg a4)) rfl dX5_wordHere_25 rfl rfl (jin_vp g2) ?_
      refine j_if_ne (tgt := 56) dX5_wordHere_26 rfl (by decide) (fun c3 => ?_) (fun c3 => ?_)
      · have hm := jif_neg c3 hm
        refine j_iload_n dX5_wordHere_56 rfl rfl ?_
        refine j_if_eq (tgt := 87) dX5_wordHere_57 rfl (by decide) (fun c4 => ?_) (fun c4 => ?_)
        · have hm := jif_pos c4 hm
          refine j_sub (L' := [(0, _), (1, _), (2, _), (4, _)]) [0, 1, 2, 4] rfl ?_
          exact tX5_wordHere_b87   ih hm
        · have hm := jif_neg c4 hm
          refine j_iload_n dX5_wordHere_60 rfl rfl ?_
          refine j_aload_n dX5_wordHere_61 rfl rfl ?_
          refine m_geti (k := 17) fX5_181 dX5_wordHere_62 rfl rfl rfl ?_
          refine j_icmp_ge (tgt := 87) dX5_wordHere_65 rfl (by decide) (fun c5 => ?_) (fun c5 => ?_)
          · have hm := jif_pos c5 hm
            refine j_sub (L' := [(0, _), (1, _), (2, _), (4, _)]) [0, 1, 2, 4] rfl ?_
            exact tX5_wordHere_b87   ih hm
          · have hm := jif_neg c5 hm
            refine j_aload_n dX5_wordHere_68 rfl rfl ?_
            refine j_iload_n dX5_wordHere_69 rfl rfl ?_
            obtain ⟨r6, er6, hm⟩ := jb_of hm
            refine o_callV_i kX5_184 dX5_wordHere_70 rfl (tX5_byteAt  er6) rfl rfl rfl rfl rfl (Nat.le_of_ble_eq_true rfl) (by decide) ?_
            refine j_aload_n dX5_wordHere_73 rfl rfl ?_
            refine m_getr (k := 21) (r := 11) fX5_41 dX5_wordHere_74 rfl rfl rfl ?_
            refine j_iload dX5_wordHere_77 rfl rfl ?_
            refine o_iald (k := (Int32.toNatClampNeg a4)) rfl dX5_wordHere_79 rfl rfl (jin_vp g2) ?_
            refine j_icmp_ne (tgt := 87) dX5_wordHere_80 rfl (by decide) (fun c7 => ?_) (fun c7 => ?_)
            · have hm := jif_neg c7 hm
              refine j_sub (L' := [(0, _), (1, _), (2, _), (4, _)]) [0, 1, 2, 4] rfl ?_
              exact tX5_wordHere_b87   ih hm
            · have hm := jif_pos c7 hm
              refine j_iconst (v := 1) dX5_wordHere_83 rfl (by decide) ?_
              refine j_goto (tgt := 88) dX5_wordHere_84 (by decide) ?_
              refine j_sub (L' := [(0, _), (1, _), (2, _), (4, _)]) [0, 1, 2, 4] rfl ?_
              exact tX5_wordHere_b88   ih hm
      · have hm := jif_pos c3 hm
        refine j_iload_n dX5_wordHere_29 rfl rfl ?_
        refine j_if_eq (tgt := 43) dX5_wordHere_30 rfl (by decide) (fun c8 => ?_) (fun c8 => ?_)
        · have hm := jif_pos c8 hm
          refine j_sub (L' := [(0, _), (1, _), (4, _)]) [0, 1, 4] rfl ?_
          exact tX5_wordHere_b43   ih hm
        · have hm := jif_neg c8 hm
          refine j_iload_n dX5_wordHere_33 rfl rfl ?_
          refine j_aload_n dX5_wordHere_34 rfl rfl ?_
          refine m_geti (k := 17) fX5_181 dX5_wordHere_35 rfl rfl rfl ?_
          refine j_icmp_ne (tgt := 43) dX5_wordHere_38 rfl (by decide) (fun c9 => ?_) (fun c9 => ?_)
          · have hm := jif_neg c9 hm
            refine j_sub (L' := [(0, _), (1, _), (4, _)]) [0, 1, 4] rfl ?_
            exact tX5_wordHere_b43   ih hm
          · have hm := jif_pos c9 hm
            refine j_iload_n dX5_wordHere_41 rfl rfl ?_
            exact j_ireturn dX5_wordHere_42 rfl rfl ⟨Nat.le_refl _, Nat.le_refl _⟩ (jf_p (fun z => .int z) hm)
def mX5_wordHere (V : jMem) : Option Int32 := (mX5_wordHere_b12 V 2000 (0 : Int32) (V.1 0 16) (1 : Int32) (0 : Int32))
set_option maxHeartbeats 4000000 in
set_option maxRecDepth 20000 in
theorem tX5_wordHere {l : Launch} {Z : jZ} {q : Nat → Nat} {V : jMem} {r : Int32}  (hm : mX5_wordHere V = some r) : CtD l Z yX5_wordHere cX5_wordHere 5 (some .int) 1 q dM [.ref (q 0)] V (some (.int r)) V := by
  refine Ct_of (L := [(0, .ref (q 0))]) (own := RX5) (nm := "wordHere") rfl rfl (by decide +kernel) rfl (Nat.le_of_ble_eq_true rfl) ?_
  unfold mX5_wordHere at hm
  refine j_iconst (v := 0) dX5_wordHere_0 rfl (by decide) ?_
  refine j_istore_n (i := 1) (L' := [(1, _), (0, _)]) dX5_wordHere_1 rfl rfl (by decide) rfl ?_
  refine j_aload_n dX5_wordHere_2 rfl rfl ?_
  refine m_geti (k := 16) fX5_178 dX5_wordHere_3 rfl rfl rfl ?_
  refine j_istore_n (i := 2) (L' := [(2, _), (1, _), (0, _)]) dX5_wordHere_6 rfl rfl (by decide) rfl ?_
  refine j_iconst (v := 1) dX5_wordHere_7 rfl (by decide) ?_
  refine j_istore_n (i := 3) (L' := [(3, _), (2, _), (1, _), (0, _)]) dX5_wordHere_8 rfl rfl (by decide) rfl ?_
  refine j_iconst (v := 0) dX5_wordHere_9 rfl (by decide) ?_
  refine j_istore (L' := [(4, _), (3, _), (2, _), (1, _), (0, _)]) dX5_wordHere_10 rfl (by decide) rfl ?_
  refine j_sub (L' := [(0, _), (1, _), (2, _), (3, _), (4, _)]) [4, 3, 2, 1, 0] rfl ?_
  exact tX5_wordHere_b12   _ _ _ _ _  hm
theorem dX5_goesOn_0 : decode cX5_goesOn 0 = .ok (.aload_n 0, 1) := by decide +kernel
theorem dX5_goesOn_1 : decode cX5_goesOn 1 = .ok (.aload_n 0, 1) := by decide +kernel
theorem dX5_goesOn_2 : decode cX5_goesOn 2 = .ok (.getfield 181, 3) := by decide +kernel
theorem dX5_goesOn_5 : decode cX5_goesOn 5 = .ok (.invokevirtual 184, 3) := by decide +kernel
theorem dX5_goesOn_8 : decode cX5_goesOn 8 = .ok (.bipush 32, 2) := by decide +kernel
theorem dX5_goesOn_10 : decode cX5_goesOn 10 = .ok (.if_icmp .ne 16, 3) := by decide +kernel
theorem dX5_goesOn_13 : decode cX5_goesOn 13 = .ok (.aload_n 0, 1) := by decide +kernel
theorem dX5_goesOn_14 : decode cX5_goesOn 14 = .ok (.dup, 1) := by decide +kernel
theorem dX5_goesOn_15 : decode cX5_goesOn 15 = .ok (.getfield 181, 3) := by decide +kernel
theorem dX5_goesOn_18 : decode cX5_goesOn 18 = .ok (.iconst 1, 1) := by decide +kernel
theorem dX5_goesOn_19 : decode cX5_goesOn 19 = .ok (.iadd, 1) := by decide +kernel
theorem dX5_goesOn_20 : decode cX5_goesOn 20 = .ok (.putfield 181, 3) := by decide +kernel
theorem dX5_goesOn_23 : decode cX5_goesOn 23 = .ok (.goto (-23), 3) := by decide +kernel
theorem dX5_goesOn_26 : decode cX5_goesOn 26 = .ok (.aload_n 0, 1) := by decide +kernel
theorem dX5_goesOn_27 : decode cX5_goesOn 27 = .ok (.aload_n 0, 1) := by decide +kernel
theorem dX5_goesOn_28 : decode cX5_goesOn 28 = .ok (.getfield 181, 3) := by decide +kernel
theorem dX5_goesOn_31 : decode cX5_goesOn 31 = .ok (.putfield 178, 3) := by decide +kernel
theorem dX5_goesOn_34 : decode cX5_goesOn 34 = .ok (.aload_n 0, 1) := by decide +kernel
theorem dX5_goesOn_35 : decode cX5_goesOn 35 = .ok (.aload_n 0, 1) := by decide +kernel
theorem dX5_goesOn_36 : decode cX5_goesOn 36 = .ok (.getfield 181, 3) := by decide +kernel
theorem dX5_goesOn_39 : decode cX5_goesOn 39 = .ok (.invokevirtual 184, 3) := by decide +kernel
theorem dX5_goesOn_42 : decode cX5_goesOn 42 = .ok (.istore_n 1, 1) := by decide +kernel
theorem dX5_goesOn_43 : decode cX5_goesOn 43 = .ok (.iload_n 1, 1) := by decide +kernel
theorem dX5_goesOn_44 : decode cX5_goesOn 44 = .ok (.ifCond .ge 11, 3) := by decide +kernel
theorem dX5_goesOn_47 : decode cX5_goesOn 47 = .ok (.aload_n 0, 1) := by decide +kernel
theorem dX5_goesOn_48 : decode cX5_goesOn 48 = .ok (.iconst 0, 1) := by decide +kernel
theorem dX5_goesOn_49 : decode cX5_goesOn 49 = .ok (.putfield 187, 3) := by decide +kernel
theorem dX5_goesOn_52 : decode cX5_goesOn 52 = .ok (.goto 218, 3) := by decide +kernel
theorem dX5_goesOn_55 : decode cX5_goesOn 55 = .ok (.iload_n 1, 1) := by decide +kernel
theorem dX5_goesOn_56 : decode cX5_goesOn 56 = .ok (.i2l, 1) := by decide +kernel
theorem dX5_goesOn_57 : decode cX5_goesOn 57 = .ok (.ldc2_w 190, 3) := by decide +kernel
theorem dX5_goesOn_60 : decode cX5_goesOn 60 = .ok (.ldc2_w 192, 3) := by decide +kernel
theorem dX5_goesOn_63 : decode cX5_goesOn 63 = .ok (.invokestatic 54, 3) := by decide +kernel
theorem dX5_goesOn_66 : decode cX5_goesOn 66 = .ok (.ifCond .eq 64, 3) := by decide +kernel
theorem dX5_goesOn_69 : decode cX5_goesOn 69 = .ok (.aload_n 0, 1) := by decide +kernel
theorem dX5_goesOn_70 : decode cX5_goesOn 70 = .ok (.aload_n 0, 1) := by decide +kernel
theorem dX5_goesOn_71 : decode cX5_goesOn 71 = .ok (.getfield 181, 3) := by decide +kernel
theorem dX5_goesOn_74 : decode cX5_goesOn 74 = .ok (.invokevirtual 184, 3) := by decide +kernel
theorem dX5_goesOn_77 : decode cX5_goesOn 77 = .ok (.i2l, 1) := by decide +kernel
theorem dX5_goesOn_78 : decode cX5_goesOn 78 = .ok (.ldc2_w 190, 3) := by decide +kernel
theorem dX5_goesOn_81 : decode cX5_goesOn 81 = .ok (.ldc2_w 192, 3) := by decide +kernel
theorem dX5_goesOn_84 : decode cX5_goesOn 84 = .ok (.invokestatic 54, 3) := by decide +kernel
theorem dX5_goesOn_87 : decode cX5_goesOn 87 = .ok (.ifCond .eq 16, 3) := by decide +kernel
theorem dX5_goesOn_90 : decode cX5_goesOn 90 = .ok (.aload_n 0, 1) := by decide +kernel
theorem dX5_goesOn_91 : decode cX5_goesOn 91 = .ok (.dup, 1) := by decide +kernel
theorem dX5_goesOn_92 : decode cX5_goesOn 92 = .ok (.getfield 181, 3) := by decide +kernel
theorem dX5_goesOn_95 : decode cX5_goesOn 95 = .ok (.iconst 1, 1) := by decide +kernel
theorem dX5_goesOn_96 : decode cX5_goesOn 96 = .ok (.iadd, 1) := by decide +kernel
theorem dX5_goesOn_97 : decode cX5_goesOn 97 = .ok (.putfield 181, 3) := by decide +kernel
theorem dX5_goesOn_100 : decode cX5_goesOn 100 = .ok (.goto (-31), 3) := by decide +kernel
theorem dX5_goesOn_103 : decode cX5_goesOn 103 = .ok (.aload_n 0, 1) := by decide +kernel
theorem dX5_goesOn_104 : decode cX5_goesOn 104 = .ok (.aload_n 0, 1) := by decide +kernel
theorem dX5_goesOn_105 : decode cX5_goesOn 105 = .ok (.invokevirtual 194, 3) := by decide +kernel
theorem dX5_goesOn_108 : decode cX5_goesOn 108 = .ok (.putfield 197, 3) := by decide +kernel
theorem dX5_goesOn_111 : decode cX5_goesOn 111 = .ok (.aload_n 0, 1) := by decide +kernel
theorem dX5_goesOn_112 : decode cX5_goesOn 112 = .ok (.aload_n 0, 1) := by decide +kernel
theorem dX5_goesOn_113 : decode cX5_goesOn 113 = .ok (.getfield 197, 3) := by decide +kernel
theorem dX5_goesOn_116 : decode cX5_goesOn 116 = .ok (.ifCond .ge 7, 3) := by decide +kernel
theorem dX5_goesOn_119 : decode cX5_goesOn 119 = .ok (.iconst 4, 1) := by decide +kernel
theorem dX5_goesOn_120 : decode cX5_goesOn 120 = .ok (.goto 4, 3) := by decide +kernel
theorem dX5_goesOn_123 : decode cX5_goesOn 123 = .ok (.iconst 1, 1) := by decide +kernel
theorem dX5_goesOn_124 : decode cX5_goesOn 124 = .ok (.putfield 187, 3) := by decide +kernel
theorem dX5_goesOn_127 : decode cX5_goesOn 127 = .ok (.goto 143, 3) := by decide +kernel
theorem dX5_goesOn_130 : decode cX5_goesOn 130 = .ok (.iload_n 1, 1) := by decide +kernel
theorem dX5_goesOn_131 : decode cX5_goesOn 131 = .ok (.i2l, 1) := by decide +kernel
theorem dX5_goesOn_132 : decode cX5_goesOn 132 = .ok (.ldc2_w 200, 3) := by decide +kernel
theorem dX5_goesOn_135 : decode cX5_goesOn 135 = .ok (.ldc2_w 202, 3) := by decide +kernel
theorem dX5_goesOn_138 : decode cX5_goesOn 138 = .ok (.invokestatic 54, 3) := by decide +kernel
theorem dX5_goesOn_141 : decode cX5_goesOn 141 = .ok (.ifCond .eq 104, 3) := by decide +kernel
theorem dX5_goesOn_144 : decode cX5_goesOn 144 = .ok (.aload_n 0, 1) := by decide +kernel
theorem dX5_goesOn_145 : decode cX5_goesOn 145 = .ok (.iconst 0, 1) := by decide +kernel
theorem dX5_goesOn_146 : decode cX5_goesOn 146 = .ok (.putfield 197, 3) := by decide +kernel
theorem dX5_goesOn_149 : decode cX5_goesOn 149 = .ok (.aload_n 0, 1) := by decide +kernel
theorem dX5_goesOn_150 : decode cX5_goesOn 150 = .ok (.aload_n 0, 1) := by decide +kernel
theorem dX5_goesOn_151 : decode cX5_goesOn 151 = .ok (.getfield 181, 3) := by decide +kernel
theorem dX5_goesOn_154 : decode cX5_goesOn 154 = .ok (.invokevirtual 184, 3) := by decide +kernel
theorem dX5_goesOn_157 : decode cX5_goesOn 157 = .ok (.i2l, 1) := by decide +kernel
theorem dX5_goesOn_158 : decode cX5_goesOn 158 = .ok (.ldc2_w 200, 3) := by decide +kernel
theorem dX5_goesOn_161 : decode cX5_goesOn 161 = .ok (.ldc2_w 202, 3) := by decide +kernel
theorem dX5_goesOn_164 : decode cX5_goesOn 164 = .ok (.invokestatic 54, 3) := by decide +kernel
theorem dX5_goesOn_167 : decode cX5_goesOn 167 = .ok (.ifCond .eq 56, 3) := by decide +kernel
theorem dX5_goesOn_170 : decode cX5_goesOn 170 = .ok (.aload_n 0, 1) := by decide +kernel
theorem dX5_goesOn_171 : decode cX5_goesOn 171 = .ok (.aload_n 0, 1) := by decide +kernel
theorem dX5_goesOn_172 : decode cX5_goesOn 172 = .ok (.getfield 197, 3) := by decide +kernel
theorem dX5_goesOn_175 : decode cX5_goesOn 175 = .ok (.sipush 9999, 3) := by decide +kernel
theorem dX5_goesOn_178 : decode cX5_goesOn 178 = .ok (.if_icmp .le 10, 3) := by decide +kernel
theorem dX5_goesOn_181 : decode cX5_goesOn 181 = .ok (.aload_n 0, 1) := by decide +kernel
theorem dX5_goesOn_182 : decode cX5_goesOn 182 = .ok (.getfield 197, 3) := by decide +kernel
theorem dX5_goesOn_185 : decode cX5_goesOn 185 = .ok (.goto 22, 3) := by decide +kernel
theorem dX5_goesOn_188 : decode cX5_goesOn 188 = .ok (.bipush 10, 2) := by decide +kernel
theorem dX5_goesOn_190 : decode cX5_goesOn 190 = .ok (.aload_n 0, 1) := by decide +kernel
theorem dX5_goesOn_191 : decode cX5_goesOn 191 = .ok (.getfield 197, 3) := by decide +kernel
theorem dX5_goesOn_194 : decode cX5_goesOn 194 = .ok (.imul, 1) := by decide +kernel
theorem dX5_goesOn_195 : decode cX5_goesOn 195 = .ok (.aload_n 0, 1) := by decide +kernel
theorem dX5_goesOn_196 : decode cX5_goesOn 196 = .ok (.aload_n 0, 1) := by decide +kernel
theorem dX5_goesOn_197 : decode cX5_goesOn 197 = .ok (.getfield 181, 3) := by decide +kernel
theorem dX5_goesOn_200 : decode cX5_goesOn 200 = .ok (.invokevirtual 184, 3) := by decide +kernel
theorem dX5_goesOn_203 : decode cX5_goesOn 203 = .ok (.iadd, 1) := by decide +kernel
theorem dX5_goesOn_204 : decode cX5_goesOn 204 = .ok (.bipush 48, 2) := by decide +kernel
theorem dX5_goesOn_206 : decode cX5_goesOn 206 = .ok (.isub, 1) := by decide +kernel
theorem dX5_goesOn_207 : decode cX5_goesOn 207 = .ok (.putfield 197, 3) := by decide +kernel
theorem dX5_goesOn_210 : decode cX5_goesOn 210 = .ok (.aload_n 0, 1) := by decide +kernel
theorem dX5_goesOn_211 : decode cX5_goesOn 211 = .ok (.dup, 1) := by decide +kernel
theorem dX5_goesOn_212 : decode cX5_goesOn 212 = .ok (.getfield 181, 3) := by decide +kernel
theorem dX5_goesOn_215 : decode cX5_goesOn 215 = .ok (.iconst 1, 1) := by decide +kernel
theorem dX5_goesOn_216 : decode cX5_goesOn 216 = .ok (.iadd, 1) := by decide +kernel
theorem dX5_goesOn_217 : decode cX5_goesOn 217 = .ok (.putfield 181, 3) := by decide +kernel
theorem dX5_goesOn_220 : decode cX5_goesOn 220 = .ok (.goto (-71), 3) := by decide +kernel
theorem dX5_goesOn_223 : decode cX5_goesOn 223 = .ok (.aload_n 0, 1) := by decide +kernel
theorem dX5_goesOn_224 : decode cX5_goesOn 224 = .ok (.aload_n 0, 1) := by decide +kernel
theorem dX5_goesOn_225 : decode cX5_goesOn 225 = .ok (.getfield 197, 3) := by decide +kernel
theorem dX5_goesOn_228 : decode cX5_goesOn 228 = .ok (.sipush 9999, 3) := by decide +kernel
theorem dX5_goesOn_231 : decode cX5_goesOn 231 = .ok (.if_icmp .le 7, 3) := by decide +kernel
theorem dX5_goesOn_234 : decode cX5_goesOn 234 = .ok (.iconst 4, 1) := by decide +kernel
theorem dX5_goesOn_235 : decode cX5_goesOn 235 = .ok (.goto 4, 3) := by decide +kernel
theorem dX5_goesOn_238 : decode cX5_goesOn 238 = .ok (.iconst 2, 1) := by decide +kernel
theorem dX5_goesOn_239 : decode cX5_goesOn 239 = .ok (.putfield 187, 3) := by decide +kernel
theorem dX5_goesOn_242 : decode cX5_goesOn 242 = .ok (.goto 28, 3) := by decide +kernel
theorem dX5_goesOn_245 : decode cX5_goesOn 245 = .ok (.aload_n 0, 1) := by decide +kernel
theorem dX5_goesOn_246 : decode cX5_goesOn 246 = .ok (.dup, 1) := by decide +kernel
theorem dX5_goesOn_247 : decode cX5_goesOn 247 = .ok (.getfield 181, 3) := by decide +kernel
theorem dX5_goesOn_250 : decode cX5_goesOn 250 = .ok (.iconst 1, 1) := by decide +kernel
theorem dX5_goesOn_251 : decode cX5_goesOn 251 = .ok (.iadd, 1) := by decide +kernel
theorem dX5_goesOn_252 : decode cX5_goesOn 252 = .ok (.putfield 181, 3) := by decide +kernel
theorem dX5_goesOn_255 : decode cX5_goesOn 255 = .ok (.aload_n 0, 1) := by decide +kernel
theorem dX5_goesOn_256 : decode cX5_goesOn 256 = .ok (.iload_n 1, 1) := by decide +kernel
theorem dX5_goesOn_257 : decode cX5_goesOn 257 = .ok (.bipush 59, 2) := by decide +kernel
theorem dX5_goesOn_259 : decode cX5_goesOn 259 = .ok (.if_icmp .ne 7, 3) := by decide +kernel
theorem dX5_goesOn_262 : decode cX5_goesOn 262 = .ok (.iconst 3, 1) := by decide +kernel
theorem dX5_goesOn_263 : decode cX5_goesOn 263 = .ok (.goto 4, 3) := by decide +kernel
theorem dX5_goesOn_266 : decode cX5_goesOn 266 = .ok (.iconst 4, 1) := by decide +kernel
theorem dX5_goesOn_267 : decode cX5_goesOn 267 = .ok (.putfield 187, 3) := by decide +kernel
theorem dX5_goesOn_270 : decode cX5_goesOn 270 = .ok (.return_, 1) := by decide +kernel
def mX5_goesOn_b124   (s0 : Int32) (V : jMem) : Option jMem := (jl (jsI V 0 18 s0) (fun (V1 : jMem) => (some V1)))
set_option maxHeartbeats 4000000 in
set_option maxRecDepth 20000 in
theorem tX5_goesOn_b124 {l : Launch} {Z : jZ} {q : Nat → Nat} {s0 : Int32} {V : jMem} {V' : jMem}    (hm : mX5_goesOn_b124 s0 V = some V') : J l Z RX5 "goesOn" cX5_goesOn 2 none 2 0 0 (fun r' w => r' = none ∧ w = jw Z q V' dM) 124 [] [.int s0, .ref (q 0)] (jw Z q V dM) 0 0 := by
  unfold mX5_goesOn_b124 at hm
  refine m_puti (k := 18) fX5_187 dX5_goesOn_124 rfl rfl rfl ?_
  obtain ⟨V1, eV1⟩ : ∃ y, y = (jsI V 0 18 s0) := ⟨_, rfl⟩
  have hm := jl_of hm eV1
  rw [← eV1]
  refine j_goto (tgt := 270) dX5_goesOn_127 (by decide) ?_
  exact j_return dX5_goesOn_270 rfl ⟨Nat.le_refl _, Nat.le_refl _⟩ (jf_v hm)
def mX5_goesOn_b69   : Nat → jMem → Option jMem
  | 0, _ => none
  | n + 1, V => ((mX5_byteAt (V.1 0 17) V).bind (fun (r1 : Int32) => (if (mX5_isIn (Int32.toInt64 r1) (97 : Int64) (122 : Int64)) = (0 : Int32) then ((mX5_wordHere V).bind (fun (r3 : Int32) => (jl (jsI V 0 19 r3) (fun (V4 : jMem) => (if (0 : Int32) ≤ (V4.1 0 19) then (mX5_goesOn_b124 (1 : Int32) V4) else (mX5_goesOn_b124 (4 : Int32) V4)))))) else (jl (jsI V 0 17 ((V.1 0 17) + (1 : Int32))) (fun (V6 : jMem) => (mX5_goesOn_b69 n V6))))))
set_option maxHeartbeats 4000000 in
set_option maxRecDepth 20000 in
theorem tX5_goesOn_b69 {l : Launch} {Z : jZ} {q : Nat → Nat}  {V' : jMem}   (n : Nat) : ∀ (V : jMem), mX5_goesOn_b69 n V = some V' → J l Z RX5 "goesOn" cX5_goesOn 2 none 2 0 0 (fun r' w => r' = none ∧ w = jw Z q V' dM) 69 [(0, .ref (q 0))] [] (jw Z q V dM) 0 0 := by
  induction n with
  | zero => intro V hm; cases hm
  | succ n ih =>
    intro V hm
    rw [mX5_goesOn_b69] at hm
    refine j_aload_n dX5_goesOn_69 rfl rfl ?_
    refine j_aload_n dX5_goesOn_70 rfl rfl ?_
    refine m_geti (k := 17) fX5_181 dX5_goesOn_71 rfl rfl rfl ?_
    obtain ⟨r1, er1, hm⟩ := jb_of hm
    refine o_callV_i kX5_184 dX5_goesOn_74 rfl (tX5_byteAt  er1) rfl rfl rfl rfl rfl (Nat.le_of_ble_eq_true rfl) (by decide) ?_
    refine j_i2l dX5_goesOn_77 rfl ?_
    refine j_ldc2 dX5_goesOn_78 rfl wX5_190 ?_
    refine j_ldc2 dX5_goesOn_81 rfl wX5_192 ?_
    refine o_callS_i kX5_54 dX5_goesOn_84 rfl (tX5_isIn  rfl) rfl rfl (Nat.le_of_ble_eq_true rfl) (by decide) ?_
    refine j_if_eq (tgt := 103) dX5_goesOn_87 rfl (by decide) (fun c2 => ?_) (fun c2 => ?_)
    · have hm := jif_pos c2 hm
      refine j_aload_n dX5_goesOn_103 rfl rfl ?_
      refine j_aload_n dX5_goesOn_104 rfl rfl ?_
      obtain ⟨r3, er3, hm⟩ := jb_of hm
      refine o_callV_i kX5_194 dX5_goesOn_105 rfl (tX5_wordHere  er3) rfl rfl rfl rfl rfl (Nat.le_of_ble_eq_true rfl) (by decide) ?_
      refine m_puti (k := 19) fX5_197 dX5_goesOn_108 rfl rfl rfl ?_
      obtain ⟨V4, eV4⟩ : ∃ y, y = (jsI V 0 19 r3) := ⟨_, rfl⟩
      have hm := jl_of hm eV4
      rw [← eV4]
      refine j_aload_n dX5_goesOn_111 rfl rfl ?_
      refine j_aload_n dX5_goesOn_112 rfl rfl ?_
      refine m_geti (k := 19) fX5_197 dX5_goesOn_113 rfl rfl rfl ?_
      refine j_if_ge (tgt := 123) dX5_goesOn_116 rfl (by decide) (fun c5 => ?_) (fun c5 => ?_)
      · have hm := jif_pos c5 hm
        refine j_iconst (v := 1) dX5_goesOn_123 rfl (by decide) ?_
        refine j_sub (L' := []) [] rfl ?_
        exact tX5_goesOn_b124    hm
      · have hm := jif_neg c5 hm
        refine j_iconst (v := 4) dX5_goesOn_119 rfl (by decide) ?_
        refine j_goto (tgt := 124) dX5_goesOn_120 (by decide) ?_
        refine j_sub (L' := []) [] rfl ?_
        exact tX5_goesOn_b124    hm
    · have hm := jif_neg c2 hm
      refine j_aload_n dX5_goesOn_90 rfl rfl ?_
      refine j_dup dX5_goesOn_91 rfl rfl ?_
      refine m_geti (k := 17) fX5_181 dX5_goesOn_92 rfl rfl rfl ?_
      refine j_iconst (v := 1) dX5_goesOn_95 rfl (by decide) ?_
      refine j_iadd dX5_goesOn_96 rfl ?_
      refine m_puti (k := 17) fX5_181 dX5_goesOn_97 rfl rfl rfl ?_
      obtain ⟨V6, eV6⟩ : ∃ y, y = (jsI V 0 17 ((V.1 0 17) + (1 : Int32))) := ⟨_, rfl⟩
      have hm := jl_of hm eV6
      rw [← eV6]
      refine j_goto (tgt := 69) dX5_goesOn_100 (by decide) ?_
      exact ih _  hm
def mX5_goesOn_b207  (k149 : jMem → Option jMem) (s0 : Int32) (V : jMem) : Option jMem := (jl (jsI V 0 19 s0) (fun (V1 : jMem) => (jl (jsI V1 0 17 ((V1.1 0 17) + (1 : Int32))) (fun (V2 : jMem) => (k149 V2)))))
set_option maxHeartbeats 4000000 in
set_option maxRecDepth 20000 in
theorem tX5_goesOn_b207 {l : Launch} {Z : jZ} {q : Nat → Nat} {k149 : jMem → Option jMem} {s0 : Int32} {V : jMem} {V' : jMem}   (hk149 : ∀ (V : jMem), k149 V = some V' → J l Z RX5 "goesOn" cX5_goesOn 2 none 2 0 0 (fun r' w => r' = none ∧ w = jw Z q V' dM) 149 [(0, .ref (q 0))] [] (jw Z q V dM) 0 0) (hm : mX5_goesOn_b207 k149 s0 V = some V') : J l Z RX5 "goesOn" cX5_goesOn 2 none 2 0 0 (fun r' w => r' = none ∧ w = jw Z q V' dM) 207 [(0, .ref (q 0))] [.int s0, .ref (q 0)] (jw Z q V dM) 0 0 := by
  unfold mX5_goesOn_b207 at hm
  refine m_puti (k := 19) fX5_197 dX5_goesOn_207 rfl rfl rfl ?_
  obtain ⟨V1, eV1⟩ : ∃ y, y = (jsI V 0 19 s0) := ⟨_, rfl⟩
  have hm := jl_of hm eV1
  rw [← eV1]
  refine j_aload_n dX5_goesOn_210 rfl rfl ?_
  refine j_dup dX5_goesOn_211 rfl rfl ?_
  refine m_geti (k := 17) fX5_181 dX5_goesOn_212 rfl rfl rfl ?_
  refine j_iconst (v := 1) dX5_goesOn_215 rfl (by decide) ?_
  refine j_iadd dX5_goesOn_216 rfl ?_
  refine m_puti (k := 17) fX5_181 dX5_goesOn_217 rfl rfl rfl ?_
  obtain ⟨V2, eV2⟩ : ∃ y, y = (jsI V1 0 17 ((V1.1 0 17) + (1 : Int32))) := ⟨_, rfl⟩
  have hm := jl_of hm eV2
  rw [← eV2]
  refine j_goto (tgt := 149) dX5_goesOn_220 (by decide) ?_
  exact hk149 _  hm
def mX5_goesOn_b239   (s0 : Int32) (V : jMem) : Option jMem := (jl (jsI V 0 18 s0) (fun (V1 : jMem) => (some V1)))
set_option maxHeartbeats 4000000 in
set_option maxRecDepth 20000 in
theorem tX5_goesOn_b239 {l : Launch} {Z : jZ} {q : Nat → Nat} {s0 : Int32} {V : jMem} {V' : jMem}    (hm : mX5_goesOn_b239 s0 V = some V') : J l Z RX5 "goesOn" cX5_goesOn 2 none 2 0 0 (fun r' w => r' = none ∧ w = jw Z q V' dM) 239 [] [.int s0, .ref (q 0)] (jw Z q V dM) 0 0 := by
  unfold mX5_goesOn_b239 at hm
  refine m_puti (k := 18) fX5_187 dX5_goesOn_239 rfl rfl rfl ?_
  obtain ⟨V1, eV1⟩ : ∃ y, y = (jsI V 0 18 s0) := ⟨_, rfl⟩
  have hm := jl_of hm eV1
  rw [← eV1]
  refine j_goto (tgt := 270) dX5_goesOn_242 (by decide) ?_
  exact j_return dX5_goesOn_270 rfl ⟨Nat.le_refl _, Nat.le_refl _⟩ (jf_v hm)
def mX5_goesOn_b149   : Nat → jMem → Option jMem
  | 0, _ => none
  | n + 1, V => ((mX5_byteAt (V.1 0 17) V).bind (fun (r1 : Int32) => (if (mX5_isIn (Int32.toInt64 r1) (48 : Int64) (57 : Int64)) = (0 : Int32) then (if (V.1 0 19) ≤ (9999 : Int32) then (mX5_goesOn_b239 (2 : Int32) V) else (mX5_goesOn_b239 (4 : Int32) V)) else (if (V.1 0 19) ≤ (9999 : Int32) then ((mX5_byteAt (V.1 0 17) V).bind (fun (r5 : Int32) => (mX5_goesOn_b207 (mX5_goesOn_b149 n) ((((10 : Int32) * (V.1 0 19)) + r5) - (48 : Int32)) V))) else (mX5_goesOn_b207 (mX5_goesOn_b149 n) (V.1 0 19) V)))))
set_option maxHeartbeats 4000000 in
set_option maxRecDepth 20000 in
theorem tX5_goesOn_b149 {l : Launch} {Z : jZ} {q : Nat → Nat}  {V' : jMem}   (n : Nat) : ∀ (V : jMem), mX5_goesOn_b149 n V = some V' → J l Z RX5 "goesOn" cX5_goesOn 2 none 2 0 0 (fun r' w => r' = none ∧ w = jw Z q V' dM) 149 [(0, .ref (q 0))] [] (jw Z q V dM) 0 0 := by
  induction n with
  | zero => intro V hm; cases hm
  | succ n ih =>
    intro V hm
    rw [mX5_goesOn_b149] at hm
    refine j_aload_n dX5_goesOn_149 rfl rfl ?_
    refine j_aload_n dX5_goesOn_150 rfl rfl ?_
    refine m_geti (k := 17) fX5_181 dX5_goesOn_151 rfl rfl rfl ?_
    obtain ⟨r1, er1, hm⟩ := jb_of hm
    refine o_callV_i kX5_184 dX5_goesOn_154 rfl (tX5_byteAt  er1) rfl rfl rfl rfl rfl (Nat.le_of_ble_eq_true rfl) (by decide) ?_
    refine j_i2l dX5_goesOn_157 rfl ?_
    refine j_ldc2 dX5_goesOn_158 rfl wX5_200 ?_
    refine j_ldc2 dX5_goesOn_161 rfl wX5_202 ?_
    refine o_callS_i kX5_54 dX5_goesOn_164 rfl (tX5_isIn  rfl) rfl rfl (Nat.le_of_ble_eq_true rfl) (by decide) ?_
    refine j_if_eq (tgt := 223) dX5_goesOn_167 rfl (by decide) (fun c2 => ?_) (fun c2 => ?_)
    · have hm := jif_pos c2 hm
      refine j_aload_n dX5_goesOn_223 rfl rfl ?_
      refine j_aload_n dX5_goesOn_224 rfl rfl ?_
      refine m_geti (k := 19) fX5_197 dX5_goesOn_225 rfl rfl rfl ?_
      refine j_sipush (v := 9999) dX5_goesOn_228 rfl (by decide) ?_
      refine j_icmp_le (tgt := 238) dX5_goesOn_231 rfl (by decide) (fun c3 => ?_) (fun c3 => ?_)
      · have hm := jif_pos c3 hm
        refine j_iconst (v := 2) dX5_goesOn_238 rfl (by decide) ?_
        refine j_sub (L' := []) [] rfl ?_
        exact tX5_goesOn_b239    hm
      · have hm := jif_neg c3 hm
        refine j_iconst (v := 4) dX5_goesOn_234 rfl (by decide) ?_
        refine j_goto (tgt := 239) dX5_goesOn_235 (by decide) ?_
        refine j_sub (L' := []) [] rfl ?_
        exact tX5_goesOn_b239    hm
    · have hm := jif_neg c2 hm
      refine j_aload_n dX5_goesOn_170 rfl rfl ?_
      refine j_aload_n dX5_goesOn_171 rfl rfl ?_
      refine m_geti (k := 19) fX5_197 dX5_goesOn_172 rfl rfl rfl ?_
      refine j_sipush (v := 9999) dX5_goesOn_175 rfl (by decide) ?_
      refine j_icmp_le (tgt := 188) dX5_goesOn_178 rfl (by decide) (fun c4 => ?_) (fun c4 => ?_)
      · have hm := jif_pos c4 hm
        refine j_bipush (v := 10) dX5_goesOn_188 rfl (by decide) ?_
        refine j_aload_n dX5_goesOn_190 rfl rfl ?_
        refine m_geti (k := 19) fX5_197 dX5_goesOn_191 rfl rfl rfl ?_
        refine j_imul dX5_goesOn_194 rfl ?_
        refine j_aload_n dX5_goesOn_195 rfl rfl ?_
        refine j_aload_n dX5_goesOn_196 rfl rfl ?_
        refine m_geti (k := 17) fX5_181 dX5_goesOn_197 rfl rfl rfl ?_
        obtain ⟨r5, er5, hm⟩ := jb_of hm
        refine o_callV_i kX5_184 dX5_goesOn_200 rfl (tX5_byteAt  er5) rfl rfl rfl rfl rfl (Nat.le_of_ble_eq_true rfl) (by decide) ?_
        refine j_iadd dX5_goesOn_203 rfl ?_
        refine j_bipush (v := 48) dX5_goesOn_204 rfl (by decide) ?_
        refine j_isub dX5_goesOn_206 rfl ?_
        exact tX5_goesOn_b207   ih hm
      · have hm := jif_neg c4 hm
        refine j_aload_n dX5_goesOn_181 rfl rfl ?_
        refine m_geti (k := 19) fX5_197 dX5_goesOn_182 rfl rfl rfl ?_
        refine j_goto (tgt := 207) dX5_goesOn_185 (by decide) ?_
        exact tX5_goesOn_b207   ih hm
def mX5_goesOn_b267   (s0 : Int32) (V : jMem) : Option jMem := (jl (jsI V 0 18 s0) (fun (V1 : jMem) => (some V1)))
set_option maxHeartbeats 4000000 in
set_option maxRecDepth 20000 in
theorem tX5_goesOn_b267 {l : Launch} {Z : jZ} {q : Nat → Nat} {s0 : Int32} {V : jMem} {V' : jMem}    (hm : mX5_goesOn_b267 s0 V = some V') : J l Z RX5 "goesOn" cX5_goesOn 2 none 2 0 0 (fun r' w => r' = none ∧ w = jw Z q V' dM) 267 [] [.int s0, .ref (q 0)] (jw Z q V dM) 0 0 := by
  unfold mX5_goesOn_b267 at hm
  refine m_puti (k := 18) fX5_187 dX5_goesOn_267 rfl rfl rfl ?_
  obtain ⟨V1, eV1⟩ : ∃ y, y = (jsI V 0 18 s0) := ⟨_, rfl⟩
  have hm := jl_of hm eV1
  rw [← eV1]
  exact j_return dX5_goesOn_270 rfl ⟨Nat.le_refl _, Nat.le_refl _⟩ (jf_v hm)
def mX5_goesOn_b0   : Nat → jMem → Option jMem
  | 0, _ => none
  | n + 1, V => ((mX5_byteAt (V.1 0 17) V).bind (fun (r1 : Int32) => (if r1 = (32 : Int32) then (jl (jsI V 0 17 ((V.1 0 17) + (1 : Int32))) (fun (V12 : jMem) => (mX5_goesOn_b0 n V12))) else (jl (jsI V 0 16 (V.1 0 17)) (fun (V3 : jMem) => ((mX5_byteAt (V3.1 0 17) V3).bind (fun (r4 : Int32) => (if (0 : Int32) ≤ r4 then (if (mX5_isIn (Int32.toInt64 r4) (97 : Int64) (122 : Int64)) = (0 : Int32) then (if (mX5_isIn (Int32.toInt64 r4) (48 : Int64) (57 : Int64)) = (0 : Int32) then (jl (jsI V3 0 17 ((V3.1 0 17) + (1 : Int32))) (fun (V8 : jMem) => (if r4 = (59 : Int32) then (mX5_goesOn_b267 (3 : Int32) V8) else (mX5_goesOn_b267 (4 : Int32) V8)))) else (jl (jsI V3 0 19 (0 : Int32)) (fun (V10 : jMem) => (mX5_goesOn_b149 2000 V10)))) else (mX5_goesOn_b69 2000 V3)) else (jl (jsI V3 0 18 (0 : Int32)) (fun (V11 : jMem) => (some V11)))))))))))
set_option maxHeartbeats 4000000 in
set_option maxRecDepth 20000 in
theorem tX5_goesOn_b0 {l : Launch} {Z : jZ} {q : Nat → Nat}  {V' : jMem}   (n : Nat) : ∀ (V : jMem), mX5_goesOn_b0 n V = some V' → J l Z RX5 "goesOn" cX5_goesOn 2 none 2 0 0 (fun r' w => r' = none ∧ w = jw Z q V' dM) 0 [(0, .ref (q 0))] [] (jw Z q V dM) 0 0 := by
  induction n with
  | zero => intro V hm; cases hm
  | succ n ih =>
    intro V hm
    rw [mX5_goesOn_b0] at hm
    refine j_aload_n dX5_goesOn_0 rfl rfl ?_
    refine j_aload_n dX5_goesOn_1 rfl rfl ?_
    refine m_geti (k := 17) fX5_181 dX5_goesOn_2 rfl rfl rfl ?_
    obtain ⟨r1, er1, hm⟩ := jb_of hm
    refine o_callV_i kX5_184 dX5_goesOn_5 rfl (tX5_byteAt  er1) rfl rfl rfl rfl rfl (Nat.le_of_ble_eq_true rfl) (by decide) ?_
    refine j_bipush (v := 32) dX5_goesOn_8 rfl (by decide) ?_
    refine j_icmp_ne (tgt := 26) dX5_goesOn_10 rfl (by decide) (fun c2 => ?_) (fun c2 => ?_)
    · have hm := jif_neg c2 hm
      refine j_aload_n dX5_goesOn_26 rfl rfl ?_
      refine j_aload_n dX5_goesOn_27 rfl rfl ?_
      refine m_geti (k := 17) fX5_181 dX5_goesOn_28 rfl rfl rfl ?_
      refine m_puti (k := 16) fX5_178 dX5_goesOn_31 rfl rfl rfl ?_
      obtain ⟨V3, eV3⟩ : ∃ y, y = (jsI V 0 16 (V.1 0 17)) := ⟨_, rfl⟩
      have hm := jl_of hm eV3
      rw [← eV3]
      refine j_aload_n dX5_goesOn_34 rfl rfl ?_
      refine j_aload_n dX5_goesOn_35 rfl rfl ?_
      refine m_geti (k := 17) fX5_181 dX5_goesOn_36 rfl rfl rfl ?_
      obtain ⟨r4, er4, hm⟩ := jb_of hm
      refine o_callV_i kX5_184 dX5_goesOn_39 rfl (tX5_byteAt  er4) rfl rfl rfl rfl rfl (Nat.le_of_ble_eq_true rfl) (by decide) ?_
      refine j_istore_n (i := 1) (L' := [(1, _), (0, _)]) dX5_goesOn_42 rfl rfl (by decide) rfl ?_
      refine j_iload_n dX5_goesOn_43 rfl rfl ?_
      refine j_if_ge (tgt := 55) dX5_goesOn_44 rfl (by decide) (fun c5 => ?_) (fun c5 => ?_)
      · have hm := jif_pos c5 hm
        refine j_iload_n dX5_goesOn_55 rfl rfl ?_
        refine j_i2l dX5_goesOn_56 rfl ?_
        refine j_ldc2 dX5_goesOn_57 rfl wX5_190 ?_
        refine j_ldc2 dX5_goesOn_60 rfl wX5_192 ?_
        refine o_callS_i kX5_54 dX5_goesOn_63 rfl (tX5_isIn  rfl) rfl rfl (Nat.le_of_ble_eq_true rfl) (by decide) ?_
        refine j_if_eq (tgt := 130) dX5_goesOn_66 rfl (by decide) (fun c6 => ?_) (fun c6 => ?_)
        · have hm := jif_pos c6 hm
          refine j_iload_n dX5_goesOn_130 rfl rfl ?_
          refine j_i2l dX5_goesOn_131 rfl ?_
          refine j_ldc2 dX5_goesOn_132 rfl wX5_200 ?_
          refine j_ldc2 dX5_goesOn_135 rfl wX5_202 ?_
          refine o_callS_i kX5_54 dX5_goesOn_138 rfl (tX5_isIn  rfl) rfl rfl (Nat.le_of_ble_eq_true rfl) (by decide) ?_
          refine j_if_eq (tgt := 245) dX5_goesOn_141 rfl (by decide) (fun c7 => ?_) (fun c7 => ?_)
          · have hm := jif_pos c7 hm
            refine j_aload_n dX5_goesOn_245 rfl rfl ?_
            refine j_dup dX5_goesOn_246 rfl rfl ?_
            refine m_geti (k := 17) fX5_181 dX5_goesOn_247 rfl rfl rfl ?_
            refine j_iconst (v := 1) dX5_goesOn_250 rfl (by decide) ?_
            refine j_iadd dX5_goesOn_251 rfl ?_
            refine m_puti (k := 17) fX5_181 dX5_goesOn_252 rfl rfl rfl ?_
            obtain ⟨V8, eV8⟩ : ∃ y, y = (jsI V3 0 17 ((V3.1 0 17) + (1 : Int32))) := ⟨_, rfl⟩
            have hm := jl_of hm eV8
            rw [← eV8]
            refine j_aload_n dX5_goesOn_255 rfl rfl ?_
            refine j_iload_n dX5_goesOn_256 rfl rfl ?_
            refine j_bipush (v := 59) dX5_goesOn_257 rfl (by decide) ?_
            refine j_icmp_ne (tgt := 266) dX5_goesOn_259 rfl (by decide) (fun c9 => ?_) (fun c9 => ?_)
            · have hm := jif_neg c9 hm
              refine j_iconst (v := 4) dX5_goesOn_266 rfl (by decide) ?_
              refine j_sub (L' := []) [] rfl ?_
              exact tX5_goesOn_b267    hm
            · have hm := jif_pos c9 hm
              refine j_iconst (v := 3) dX5_goesOn_262 rfl (by decide) ?_
              refine j_goto (tgt := 267) dX5_goesOn_263 (by decide) ?_
              refine j_sub (L' := []) [] rfl ?_
              exact tX5_goesOn_b267    hm
          · have hm := jif_neg c7 hm
            refine j_aload_n dX5_goesOn_144 rfl rfl ?_
            refine j_iconst (v := 0) dX5_goesOn_145 rfl (by decide) ?_
            refine m_puti (k := 19) fX5_197 dX5_goesOn_146 rfl rfl rfl ?_
            obtain ⟨V10, eV10⟩ : ∃ y, y = (jsI V3 0 19 (0 : Int32)) := ⟨_, rfl⟩
            have hm := jl_of hm eV10
            rw [← eV10]
            refine j_sub (L' := [(0, _)]) [1] rfl ?_
            exact tX5_goesOn_b149   _ _  hm
        · have hm := jif_neg c6 hm
          refine j_sub (L' := [(0, _)]) [1] rfl ?_
          exact tX5_goesOn_b69   _ _  hm
      · have hm := jif_neg c5 hm
        refine j_aload_n dX5_goesOn_47 rfl rfl ?_
        refine j_iconst (v := 0) dX5_goesOn_48 rfl (by decide) ?_
        refine m_puti (k := 18) fX5_187 dX5_goesOn_49 rfl rfl rfl ?_
        obtain ⟨V11, eV11⟩ : ∃ y, y = (jsI V3 0 18 (0 : Int32)) := ⟨_, rfl⟩
        have hm := jl_of hm eV11
        rw [← eV11]
        refine j_goto (tgt := 270) dX5_goesOn_52 (by decide) ?_
        exact j_return dX5_goesOn_270 rfl ⟨Nat.le_refl _, Nat.le_refl _⟩ (jf_v hm)
    · have hm := jif_pos c2 hm
      refine j_aload_n dX5_goesOn_13 rfl rfl ?_
      refine j_dup dX5_goesOn_14 rfl rfl ?_
      refine m_geti (k := 17) fX5_181 dX5_goesOn_15 rfl rfl rfl ?_
      refine j_iconst (v := 1) dX5_goesOn_18 rfl (by decide) ?_
      refine j_iadd dX5_goesOn_19 rfl ?_
      refine m_puti (k := 17) fX5_181 dX5_goesOn_20 rfl rfl rfl ?_
      obtain ⟨V12, eV12⟩ : ∃ y, y = (jsI V 0 17 ((V.1 0 17) + (1 : Int32))) := ⟨_, rfl⟩
      have hm := jl_of hm eV12
      rw [← eV12]
      refine j_goto (tgt := 0) dX5_goesOn_23 (by decide) ?_
      exact ih _  hm
def mX5_goesOn (V : jMem) : Option jMem := (mX5_goesOn_b0 2000 V)
set_option maxHeartbeats 4000000 in
set_option maxRecDepth 20000 in
theorem tX5_goesOn {l : Launch} {Z : jZ} {q : Nat → Nat} {V : jMem} {V' : jMem}  (hm : mX5_goesOn V = some V') : CtD l Z yX5_goesOn cX5_goesOn 2 none 2 q dM [.ref (q 0)] V none V' := by
  refine Ct_of (L := [(0, .ref (q 0))]) (own := RX5) (nm := "goesOn") rfl rfl (by decide +kernel) rfl (Nat.le_of_ble_eq_true rfl) ?_
  unfold mX5_goesOn at hm
  exact tX5_goesOn_b0   _ _  hm
theorem dX5_isWord_0 : decode cX5_isWord 0 = .ok (.aload_n 0, 1) := by decide +kernel
theorem dX5_isWord_1 : decode cX5_isWord 1 = .ok (.getfield 204, 3) := by decide +kernel
theorem dX5_isWord_4 : decode cX5_isWord 4 = .ok (.ifCond .ne 23, 3) := by decide +kernel
theorem dX5_isWord_7 : decode cX5_isWord 7 = .ok (.aload_n 0, 1) := by decide +kernel
theorem dX5_isWord_8 : decode cX5_isWord 8 = .ok (.getfield 187, 3) := by decide +kernel
theorem dX5_isWord_11 : decode cX5_isWord 11 = .ok (.iconst 1, 1) := by decide +kernel
theorem dX5_isWord_12 : decode cX5_isWord 12 = .ok (.if_icmp .ne 15, 3) := by decide +kernel
theorem dX5_isWord_15 : decode cX5_isWord 15 = .ok (.aload_n 0, 1) := by decide +kernel
theorem dX5_isWord_16 : decode cX5_isWord 16 = .ok (.getfield 197, 3) := by decide +kernel
theorem dX5_isWord_19 : decode cX5_isWord 19 = .ok (.iload_n 1, 1) := by decide +kernel
theorem dX5_isWord_20 : decode cX5_isWord 20 = .ok (.if_icmp .ne 7, 3) := by decide +kernel
theorem dX5_isWord_23 : decode cX5_isWord 23 = .ok (.iconst 1, 1) := by decide +kernel
theorem dX5_isWord_24 : decode cX5_isWord 24 = .ok (.goto 4, 3) := by decide +kernel
theorem dX5_isWord_27 : decode cX5_isWord 27 = .ok (.iconst 0, 1) := by decide +kernel
theorem dX5_isWord_28 : decode cX5_isWord 28 = .ok (.ireturn, 1) := by decide +kernel
def mX5_isWord (a1 : Int32) (V : jMem) : Int32 := (if (V.1 0 20) = (0 : Int32) then (if (V.1 0 18) = (1 : Int32) then (if (V.1 0 19) = a1 then (1 : Int32) else (0 : Int32)) else (0 : Int32)) else (0 : Int32))
set_option maxHeartbeats 4000000 in
set_option maxRecDepth 20000 in
theorem tX5_isWord {l : Launch} {Z : jZ} {q : Nat → Nat} {a1 : Int32} {V : jMem} {r : Int32}  (hm : mX5_isWord a1 V = r) : CtD l Z yX5_isWord cX5_isWord 2 (some .boolean) 0 q dM [.ref (q 0), .int a1] V (some (.int r)) V := by
  refine Ct_of (L := [(0, .ref (q 0)), (1, .int a1)]) (own := RX5) (nm := "isWord") rfl rfl (by decide +kernel) rfl (Nat.le_of_ble_eq_true rfl) ?_
  unfold mX5_isWord at hm
  refine j_aload_n dX5_isWord_0 rfl rfl ?_
  refine m_geti (k := 20) fX5_204 dX5_isWord_1 rfl rfl rfl ?_
  refine j_if_ne (tgt := 27) dX5_isWord_4 rfl (by decide) (fun c1 => ?_) (fun c1 => ?_)
  · have hm := jif_neg c1 hm
    refine j_iconst (v := 0) dX5_isWord_27 rfl (by decide) ?_
    exact j_zreturn dX5_isWord_28 rfl (by decide) ⟨Nat.le_refl _, Nat.le_refl _⟩ (jf_t (fun z => .int z) hm)
  · have hm := jif_pos c1 hm
    refine j_aload_n dX5_isWord_7 rfl rfl ?_
    refine m_geti (k := 18) fX5_187 dX5_isWord_8 rfl rfl rfl ?_
    refine j_iconst (v := 1) dX5_isWord_11 rfl (by decide) ?_
    refine j_icmp_ne (tgt := 27) dX5_isWord_12 rfl (by decide) (fun c2 => ?_) (fun c2 => ?_)
    · have hm := jif_neg c2 hm
      refine j_iconst (v := 0) dX5_isWord_27 rfl (by decide) ?_
      exact j_zreturn dX5_isWord_28 rfl (by decide) ⟨Nat.le_refl _, Nat.le_refl _⟩ (jf_t (fun z => .int z) hm)
    · have hm := jif_pos c2 hm
      refine j_aload_n dX5_isWord_15 rfl rfl ?_
      refine m_geti (k := 19) fX5_197 dX5_isWord_16 rfl rfl rfl ?_
      refine j_iload_n dX5_isWord_19 rfl rfl ?_
      refine j_icmp_ne (tgt := 27) dX5_isWord_20 rfl (by decide) (fun c3 => ?_) (fun c3 => ?_)
      · have hm := jif_neg c3 hm
        refine j_iconst (v := 0) dX5_isWord_27 rfl (by decide) ?_
        exact j_zreturn dX5_isWord_28 rfl (by decide) ⟨Nat.le_refl _, Nat.le_refl _⟩ (jf_t (fun z => .int z) hm)
      · have hm := jif_pos c3 hm
        refine j_iconst (v := 1) dX5_isWord_23 rfl (by decide) ?_
        refine j_goto (tgt := 28) dX5_isWord_24 (by decide) ?_
        exact j_zreturn dX5_isWord_28 rfl (by decide) ⟨Nat.le_refl _, Nat.le_refl _⟩ (jf_t (fun z => .int z) hm)
theorem zzX5_isWord {a1 : Int32} {V : jMem} : mX5_isWord a1 V = 0 ∨ mX5_isWord a1 V = 1 := by
  unfold mX5_isWord
  (repeat' split) <;> first | exact Or.inl rfl | exact Or.inr rfl
theorem dX5_takes_0 : decode cX5_takes 0 = .ok (.aload_n 0, 1) := by decide +kernel
theorem dX5_takes_1 : decode cX5_takes 1 = .ok (.iload_n 1, 1) := by decide +kernel
theorem dX5_takes_2 : decode cX5_takes 2 = .ok (.invokevirtual 208, 3) := by decide +kernel
theorem dX5_takes_5 : decode cX5_takes 5 = .ok (.istore_n 2, 1) := by decide +kernel
theorem dX5_takes_6 : decode cX5_takes 6 = .ok (.iload_n 2, 1) := by decide +kernel
theorem dX5_takes_7 : decode cX5_takes 7 = .ok (.ifCond .eq 7, 3) := by decide +kernel
theorem dX5_takes_10 : decode cX5_takes 10 = .ok (.aload_n 0, 1) := by decide +kernel
theorem dX5_takes_11 : decode cX5_takes 11 = .ok (.invokevirtual 211, 3) := by decide +kernel
theorem dX5_takes_14 : decode cX5_takes 14 = .ok (.iload_n 2, 1) := by decide +kernel
theorem dX5_takes_15 : decode cX5_takes 15 = .ok (.ireturn, 1) := by decide +kernel
def mX5_takes (a1 : Int32) (V : jMem) : Option (Int32 × jMem) := (if (mX5_isWord a1 V) = (0 : Int32) then (some ((mX5_isWord a1 V), V)) else ((mX5_goesOn V).bind (fun (p2 : jMem) => (some ((mX5_isWord a1 V), p2)))))
set_option maxHeartbeats 4000000 in
set_option maxRecDepth 20000 in
theorem tX5_takes {l : Launch} {Z : jZ} {q : Nat → Nat} {a1 : Int32} {V : jMem} {r : Int32} {V' : jMem}  (hm : mX5_takes a1 V = some (r, V')) : CtD l Z yX5_takes cX5_takes 3 (some .boolean) 3 q dM [.ref (q 0), .int a1] V (some (.int r)) V' := by
  refine Ct_of (L := [(0, .ref (q 0)), (1, .int a1)]) (own := RX5) (nm := "takes") rfl rfl (by decide +kernel) rfl (Nat.le_of_ble_eq_true rfl) ?_
  unfold mX5_takes at hm
  refine j_aload_n dX5_takes_0 rfl rfl ?_
  refine j_iload_n dX5_takes_1 rfl rfl ?_
  refine o_callV_i kX5_208 dX5_takes_2 rfl (tX5_isWord  rfl) rfl rfl rfl rfl rfl (Nat.le_of_ble_eq_true rfl) (by decide) ?_
  refine j_istore_n (i := 2) (L' := [(2, _), (0, _), (1, _)]) dX5_takes_5 rfl rfl (by decide) rfl ?_
  refine j_iload_n dX5_takes_6 rfl rfl ?_
  refine j_if_eq (tgt := 14) dX5_takes_7 rfl (by decide) (fun c1 => ?_) (fun c1 => ?_)
  · have hm := jif_pos c1 hm
    refine j_iload_n dX5_takes_14 rfl rfl ?_
    exact j_zreturn dX5_takes_15 rfl zzX5_isWord ⟨Nat.le_refl _, Nat.le_refl _⟩ (jf_m (fun z => .int z) hm)
  · have hm := jif_neg c1 hm
    refine j_aload_n dX5_takes_10 rfl rfl ?_
    obtain ⟨p2, ep2, hm⟩ := jb_of hm
    refine o_callV_v kX5_211 dX5_takes_11 rfl (tX5_goesOn  ep2) rfl rfl rfl rfl rfl (Nat.le_of_ble_eq_true rfl) (by decide) ?_
    refine j_iload_n dX5_takes_14 rfl rfl ?_
    exact j_zreturn dX5_takes_15 rfl zzX5_isWord ⟨Nat.le_refl _, Nat.le_refl _⟩ (jf_m (fun z => .int z) hm)
theorem dX5_number_0 : decode cX5_number 0 = .ok (.aload_n 0, 1) := by decide +kernel
theorem dX5_number_1 : decode cX5_number 1 = .ok (.getfield 204, 3) := by decide +kernel
theorem dX5_number_4 : decode cX5_number 4 = .ok (.ifCond .ne 26, 3) := by decide +kernel
theorem dX5_number_7 : decode cX5_number 7 = .ok (.aload_n 0, 1) := by decide +kernel
theorem dX5_number_8 : decode cX5_number 8 = .ok (.getfield 187, 3) := by decide +kernel
theorem dX5_number_11 : decode cX5_number 11 = .ok (.iconst 2, 1) := by decide +kernel
theorem dX5_number_12 : decode cX5_number 12 = .ok (.if_icmp .ne 18, 3) := by decide +kernel
theorem dX5_number_15 : decode cX5_number 15 = .ok (.aload_n 0, 1) := by decide +kernel
theorem dX5_number_16 : decode cX5_number 16 = .ok (.getfield 197, 3) := by decide +kernel
theorem dX5_number_19 : decode cX5_number 19 = .ok (.i2l, 1) := by decide +kernel
theorem dX5_number_20 : decode cX5_number 20 = .ok (.iload_n 1, 1) := by decide +kernel
theorem dX5_number_21 : decode cX5_number 21 = .ok (.i2l, 1) := by decide +kernel
theorem dX5_number_22 : decode cX5_number 22 = .ok (.iload_n 2, 1) := by decide +kernel
theorem dX5_number_23 : decode cX5_number 23 = .ok (.i2l, 1) := by decide +kernel
theorem dX5_number_24 : decode cX5_number 24 = .ok (.invokestatic 54, 3) := by decide +kernel
theorem dX5_number_27 : decode cX5_number 27 = .ok (.ifCond .ne 10, 3) := by decide +kernel
theorem dX5_number_30 : decode cX5_number 30 = .ok (.aload_n 0, 1) := by decide +kernel
theorem dX5_number_31 : decode cX5_number 31 = .ok (.iconst 1, 1) := by decide +kernel
theorem dX5_number_32 : decode cX5_number 32 = .ok (.putfield 204, 3) := by decide +kernel
theorem dX5_number_35 : decode cX5_number 35 = .ok (.iconst 0, 1) := by decide +kernel
theorem dX5_number_36 : decode cX5_number 36 = .ok (.ireturn, 1) := by decide +kernel
theorem dX5_number_37 : decode cX5_number 37 = .ok (.aload_n 0, 1) := by decide +kernel
theorem dX5_number_38 : decode cX5_number 38 = .ok (.getfield 197, 3) := by decide +kernel
theorem dX5_number_41 : decode cX5_number 41 = .ok (.istore_n 3, 1) := by decide +kernel
theorem dX5_number_42 : decode cX5_number 42 = .ok (.aload_n 0, 1) := by decide +kernel
theorem dX5_number_43 : decode cX5_number 43 = .ok (.invokevirtual 211, 3) := by decide +kernel
theorem dX5_number_46 : decode cX5_number 46 = .ok (.iload_n 3, 1) := by decide +kernel
theorem dX5_number_47 : decode cX5_number 47 = .ok (.ireturn, 1) := by decide +kernel
def mX5_number_b30   (V : jMem) : Option (Int32 × jMem) := (jl (jsI V 0 20 (1 : Int32)) (fun (V1 : jMem) => (some ((0 : Int32), V1))))
set_option maxHeartbeats 4000000 in
set_option maxRecDepth 20000 in
theorem tX5_number_b30 {l : Launch} {Z : jZ} {q : Nat → Nat} {V : jMem} {r : Int32} {V' : jMem}    (hm : mX5_number_b30 V = some (r, V')) : J l Z RX5 "number" cX5_number 4 (some .int) 3 0 0 (fun r' w => r' = some (.int r) ∧ w = jw Z q V' dM) 30 [(0, .ref (q 0))] [] (jw Z q V dM) 0 0 := by
  unfold mX5_number_b30 at hm
  refine j_aload_n dX5_number_30 rfl rfl ?_
  refine j_iconst (v := 1) dX5_number_31 rfl (by decide) ?_
  refine m_putz (k := 20) fX5_204 dX5_number_32 rfl rfl rfl (by decide) ?_
  obtain ⟨V1, eV1⟩ : ∃ y, y = (jsI V 0 20 (1 : Int32)) := ⟨_, rfl⟩
  have hm := jl_of hm eV1
  rw [← eV1]
  refine j_iconst (v := 0) dX5_number_35 rfl (by decide) ?_
  exact j_ireturn dX5_number_36 rfl rfl ⟨Nat.le_refl _, Nat.le_refl _⟩ (jf_m (fun z => .int z) hm)
def mX5_number (a1 : Int32) (a2 : Int32) (V : jMem) : Option (Int32 × jMem) := (if (V.1 0 20) = (0 : Int32) then (if (V.1 0 18) = (2 : Int32) then (if (mX5_isIn (Int32.toInt64 (V.1 0 19)) (Int32.toInt64 a1) (Int32.toInt64 a2)) = (0 : Int32) then (mX5_number_b30 V) else ((mX5_goesOn V).bind (fun (p4 : jMem) => (some ((V.1 0 19), p4))))) else (mX5_number_b30 V)) else (mX5_number_b30 V))
set_option maxHeartbeats 4000000 in
set_option maxRecDepth 20000 in
theorem tX5_number {l : Launch} {Z : jZ} {q : Nat → Nat} {a1 : Int32} {a2 : Int32} {V : jMem} {r : Int32} {V' : jMem}  (hm : mX5_number a1 a2 V = some (r, V')) : CtD l Z yX5_number cX5_number 4 (some .int) 3 q dM [.ref (q 0), .int a1, .int a2] V (some (.int r)) V' := by
  refine Ct_of (L := [(0, .ref (q 0)), (1, .int a1), (2, .int a2)]) (own := RX5) (nm := "number") rfl rfl (by decide +kernel) rfl (Nat.le_of_ble_eq_true rfl) ?_
  unfold mX5_number at hm
  refine j_aload_n dX5_number_0 rfl rfl ?_
  refine m_geti (k := 20) fX5_204 dX5_number_1 rfl rfl rfl ?_
  refine j_if_ne (tgt := 30) dX5_number_4 rfl (by decide) (fun c1 => ?_) (fun c1 => ?_)
  · have hm := jif_neg c1 hm
    refine j_sub (L' := [(0, _)]) [0] rfl ?_
    exact tX5_number_b30    hm
  · have hm := jif_pos c1 hm
    refine j_aload_n dX5_number_7 rfl rfl ?_
    refine m_geti (k := 18) fX5_187 dX5_number_8 rfl rfl rfl ?_
    refine j_iconst (v := 2) dX5_number_11 rfl (by decide) ?_
    refine j_icmp_ne (tgt := 30) dX5_number_12 rfl (by decide) (fun c2 => ?_) (fun c2 => ?_)
    · have hm := jif_neg c2 hm
      refine j_sub (L' := [(0, _)]) [0] rfl ?_
      exact tX5_number_b30    hm
    · have hm := jif_pos c2 hm
      refine j_aload_n dX5_number_15 rfl rfl ?_
      refine m_geti (k := 19) fX5_197 dX5_number_16 rfl rfl rfl ?_
      refine j_i2l dX5_number_19 rfl ?_
      refine j_iload_n dX5_number_20 rfl rfl ?_
      refine j_i2l dX5_number_21 rfl ?_
      refine j_iload_n dX5_number_22 rfl rfl ?_
      refine j_i2l dX5_number_23 rfl ?_
      refine o_callS_i kX5_54 dX5_number_24 rfl (tX5_isIn  rfl) rfl rfl (Nat.le_of_ble_eq_true rfl) (by decide) ?_
      refine j_if_ne (tgt := 37) dX5_number_27 rfl (by decide) (fun c3 => ?_) (fun c3 => ?_)
      · have hm := jif_neg c3 hm
        refine j_aload_n dX5_number_37 rfl rfl ?_
        refine m_geti (k := 19) fX5_197 dX5_number_38 rfl rfl rfl ?_
        refine j_istore_n (i := 3) (L' := [(3, _), (0, _), (1, _), (2, _)]) dX5_number_41 rfl rfl (by decide) rfl ?_
        refine j_aload_n dX5_number_42 rfl rfl ?_
        obtain ⟨p4, ep4, hm⟩ := jb_of hm
        refine o_callV_v kX5_211 dX5_number_43 rfl (tX5_goesOn  ep4) rfl rfl rfl rfl rfl (Nat.le_of_ble_eq_true rfl) (by decide) ?_
        refine j_iload_n dX5_number_46 rfl rfl ?_
        exact j_ireturn dX5_number_47 rfl rfl ⟨Nat.le_refl _, Nat.le_refl _⟩ (jf_m (fun z => .int z) hm)
      · have hm := jif_pos c3 hm
        refine j_sub (L' := [(0, _)]) [0] rfl ?_
        exact tX5_number_b30    hm
theorem dX5_numbersBelow_0 : decode cX5_numbersBelow 0 = .ok (.iconst 0, 1) := by decide +kernel
theorem dX5_numbersBelow_1 : decode cX5_numbersBelow 1 = .ok (.istore_n 2, 1) := by decide +kernel
theorem dX5_numbersBelow_2 : decode cX5_numbersBelow 2 = .ok (.iconst 1, 1) := by decide +kernel
theorem dX5_numbersBelow_3 : decode cX5_numbersBelow 3 = .ok (.istore_n 3, 1) := by decide +kernel
theorem dX5_numbersBelow_4 : decode cX5_numbersBelow 4 = .ok (.iload_n 3, 1) := by decide +kernel
theorem dX5_numbersBelow_5 : decode cX5_numbersBelow 5 = .ok (.ifCond .eq 62, 3) := by decide +kernel
theorem dX5_numbersBelow_8 : decode cX5_numbersBelow 8 = .ok (.aload_n 0, 1) := by decide +kernel
theorem dX5_numbersBelow_9 : decode cX5_numbersBelow 9 = .ok (.getfield 204, 3) := by decide +kernel
theorem dX5_numbersBelow_12 : decode cX5_numbersBelow 12 = .ok (.ifCond .ne 55, 3) := by decide +kernel
theorem dX5_numbersBelow_15 : decode cX5_numbersBelow 15 = .ok (.aload_n 0, 1) := by decide +kernel
theorem dX5_numbersBelow_16 : decode cX5_numbersBelow 16 = .ok (.iconst 0, 1) := by decide +kernel
theorem dX5_numbersBelow_17 : decode cX5_numbersBelow 17 = .ok (.iload_n 1, 1) := by decide +kernel
theorem dX5_numbersBelow_18 : decode cX5_numbersBelow 18 = .ok (.iconst 1, 1) := by decide +kernel
theorem dX5_numbersBelow_19 : decode cX5_numbersBelow 19 = .ok (.isub, 1) := by decide +kernel
theorem dX5_numbersBelow_20 : decode cX5_numbersBelow 20 = .ok (.invokevirtual 214, 3) := by decide +kernel
theorem dX5_numbersBelow_23 : decode cX5_numbersBelow 23 = .ok (.istore 4, 2) := by decide +kernel
theorem dX5_numbersBelow_25 : decode cX5_numbersBelow 25 = .ok (.iload_n 2, 1) := by decide +kernel
theorem dX5_numbersBelow_26 : decode cX5_numbersBelow 26 = .ok (.aload_n 0, 1) := by decide +kernel
theorem dX5_numbersBelow_27 : decode cX5_numbersBelow 27 = .ok (.getfield 204, 3) := by decide +kernel
theorem dX5_numbersBelow_30 : decode cX5_numbersBelow 30 = .ok (.ifCond .eq 7, 3) := by decide +kernel
theorem dX5_numbersBelow_33 : decode cX5_numbersBelow 33 = .ok (.iconst 0, 1) := by decide +kernel
theorem dX5_numbersBelow_34 : decode cX5_numbersBelow 34 = .ok (.goto 7, 3) := by decide +kernel
theorem dX5_numbersBelow_37 : decode cX5_numbersBelow 37 = .ok (.iconst 1, 1) := by decide +kernel
theorem dX5_numbersBelow_38 : decode cX5_numbersBelow 38 = .ok (.iload 4, 2) := by decide +kernel
theorem dX5_numbersBelow_40 : decode cX5_numbersBelow 40 = .ok (.ishl, 1) := by decide +kernel
theorem dX5_numbersBelow_41 : decode cX5_numbersBelow 41 = .ok (.ior, 1) := by decide +kernel
theorem dX5_numbersBelow_42 : decode cX5_numbersBelow 42 = .ok (.istore_n 2, 1) := by decide +kernel
theorem dX5_numbersBelow_43 : decode cX5_numbersBelow 43 = .ok (.aload_n 0, 1) := by decide +kernel
theorem dX5_numbersBelow_44 : decode cX5_numbersBelow 44 = .ok (.getfield 204, 3) := by decide +kernel
theorem dX5_numbersBelow_47 : decode cX5_numbersBelow 47 = .ok (.ifCond .ne 15, 3) := by decide +kernel
theorem dX5_numbersBelow_50 : decode cX5_numbersBelow 50 = .ok (.aload_n 0, 1) := by decide +kernel
theorem dX5_numbersBelow_51 : decode cX5_numbersBelow 51 = .ok (.getfield 187, 3) := by decide +kernel
theorem dX5_numbersBelow_54 : decode cX5_numbersBelow 54 = .ok (.iconst 2, 1) := by decide +kernel
theorem dX5_numbersBelow_55 : decode cX5_numbersBelow 55 = .ok (.if_icmp .ne 7, 3) := by decide +kernel
theorem dX5_numbersBelow_58 : decode cX5_numbersBelow 58 = .ok (.iconst 1, 1) := by decide +kernel
theorem dX5_numbersBelow_59 : decode cX5_numbersBelow 59 = .ok (.goto 4, 3) := by decide +kernel
theorem dX5_numbersBelow_62 : decode cX5_numbersBelow 62 = .ok (.iconst 0, 1) := by decide +kernel
theorem dX5_numbersBelow_63 : decode cX5_numbersBelow 63 = .ok (.istore_n 3, 1) := by decide +kernel
theorem dX5_numbersBelow_64 : decode cX5_numbersBelow 64 = .ok (.goto (-60), 3) := by decide +kernel
theorem dX5_numbersBelow_67 : decode cX5_numbersBelow 67 = .ok (.iload_n 2, 1) := by decide +kernel
theorem dX5_numbersBelow_68 : decode cX5_numbersBelow 68 = .ok (.ireturn, 1) := by decide +kernel
def mX5_numbersBelow_b63  (k4 : Int32 → Int32 → Int32 → jMem → Option (Int32 × jMem)) (a1 : Int32) (a2 : Int32) (s0 : Int32) (V : jMem) : Option (Int32 × jMem) := (k4 a1 a2 s0 V)
set_option maxHeartbeats 4000000 in
set_option maxRecDepth 20000 in
theorem tX5_numbersBelow_b63 {l : Launch} {Z : jZ} {q : Nat → Nat} {k4 : Int32 → Int32 → Int32 → jMem → Option (Int32 × jMem)} {a1 : Int32} {a2 : Int32} {s0 : Int32} {V : jMem} {r : Int32} {V' : jMem}   (hk4 : ∀ (a1 : Int32) (a2 : Int32) (a3 : Int32) (V : jMem), k4 a1 a2 a3 V = some (r, V') → J l Z RX5 "numbersBelow" cX5_numbersBelow 5 (some .int) 4 0 0 (fun r' w => r' = some (.int r) ∧ w = jw Z q V' dM) 4 [(0, .ref (q 0)), (1, .int a1), (2, .int a2), (3, .int a3)] [] (jw Z q V dM) 0 0) (hm : mX5_numbersBelow_b63 k4 a1 a2 s0 V = some (r, V')) : J l Z RX5 "numbersBelow" cX5_numbersBelow 5 (some .int) 4 0 0 (fun r' w => r' = some (.int r) ∧ w = jw Z q V' dM) 63 [(0, .ref (q 0)), (1, .int a1), (2, .int a2)] [.int s0] (jw Z q V dM) 0 0 := by
  unfold mX5_numbersBelow_b63 at hm
  refine j_istore_n (i := 3) (L' := [(3, _), (0, _), (1, _), (2, _)]) dX5_numbersBelow_63 rfl rfl (by decide) rfl ?_
  refine j_goto (tgt := 4) dX5_numbersBelow_64 (by decide) ?_
  refine j_sub (L' := [(0, _), (1, _), (2, _), (3, _)]) [1, 2, 3, 0] rfl ?_
  exact hk4 _ _ _ _  hm
def mX5_numbersBelow_b62  (k4 : Int32 → Int32 → Int32 → jMem → Option (Int32 × jMem)) (a1 : Int32) (a2 : Int32) (V : jMem) : Option (Int32 × jMem) := (mX5_numbersBelow_b63 k4 a1 a2 (0 : Int32) V)
set_option maxHeartbeats 4000000 in
set_option maxRecDepth 20000 in
theorem tX5_numbersBelow_b62 {l : Launch} {Z : jZ} {q : Nat → Nat} {k4 : Int32 → Int32 → Int32 → jMem → Option (Int32 × jMem)} {a1 : Int32} {a2 : Int32} {V : jMem} {r : Int32} {V' : jMem}   (hk4 : ∀ (a1 : Int32) (a2 : Int32) (a3 : Int32) (V : jMem), k4 a1 a2 a3 V = some (r, V') → J l Z RX5 "numbersBelow" cX5_numbersBelow 5 (some .int) 4 0 0 (fun r' w => r' = some (.int r) ∧ w = jw Z q V' dM) 4 [(0, .ref (q 0)), (1, .int a1), (2, .int a2), (3, .int a3)] [] (jw Z q V dM) 0 0) (hm : mX5_numbersBelow_b62 k4 a1 a2 V = some (r, V')) : J l Z RX5 "numbersBelow" cX5_numbersBelow 5 (some .int) 4 0 0 (fun r' w => r' = some (.int r) ∧ w = jw Z q V' dM) 62 [(0, .ref (q 0)), (1, .int a1), (2, .int a2)] [] (jw Z q V dM) 0 0 := by
  unfold mX5_numbersBelow_b62 at hm
  refine j_iconst (v := 0) dX5_numbersBelow_62 rfl (by decide) ?_
  exact tX5_numbersBelow_b63   hk4 hm
def mX5_numbersBelow_b41  (k4 : Int32 → Int32 → Int32 → jMem → Option (Int32 × jMem)) (a1 : Int32) (s0 : Int32) (s1 : Int32) (V : jMem) : Option (Int32 × jMem) := (if (V.1 0 20) = (0 : Int32) then (if (V.1 0 18) = (2 : Int32) then (mX5_numbersBelow_b63 k4 a1 (s1 ||| s0) (1 : Int32) V) else (mX5_numbersBelow_b62 k4 a1 (s1 ||| s0) V)) else (mX5_numbersBelow_b62 k4 a1 (s1 ||| s0) V))
set_option maxHeartbeats 4000000 in
set_option maxRecDepth 20000 in
theorem tX5_numbersBelow_b41 {l : Launch} {Z : jZ} {q : Nat → Nat} {k4 : Int32 → Int32 → Int32 → jMem → Option (Int32 × jMem)} {a1 : Int32} {s0 : Int32} {s1 : Int32} {V : jMem} {r : Int32} {V' : jMem}   (hk4 : ∀ (a1 : Int32) (a2 : Int32) (a3 : Int32) (V : jMem), k4 a1 a2 a3 V = some (r, V') → J l Z RX5 "numbersBelow" cX5_numbersBelow 5 (some .int) 4 0 0 (fun r' w => r' = some (.int r) ∧ w = jw Z q V' dM) 4 [(0, .ref (q 0)), (1, .int a1), (2, .int a2), (3, .int a3)] [] (jw Z q V dM) 0 0) (hm : mX5_numbersBelow_b41 k4 a1 s0 s1 V = some (r, V')) : J l Z RX5 "numbersBelow" cX5_numbersBelow 5 (some .int) 4 0 0 (fun r' w => r' = some (.int r) ∧ w = jw Z q V' dM) 41 [(0, .ref (q 0)), (1, .int a1)] [.int s0, .int s1] (jw Z q V dM) 0 0 := by
  unfold mX5_numbersBelow_b41 at hm
  refine j_ior dX5_numbersBelow_41 rfl ?_
  refine j_istore_n (i := 2) (L' := [(2, _), (0, _), (1, _)]) dX5_numbersBelow_42 rfl rfl (by decide) rfl ?_
  refine j_aload_n dX5_numbersBelow_43 rfl rfl ?_
  refine m_geti (k := 20) fX5_204 dX5_numbersBelow_44 rfl rfl rfl ?_
  refine j_if_ne (tgt := 62) dX5_numbersBelow_47 rfl (by decide) (fun c1 => ?_) (fun c1 => ?_)
  · have hm := jif_neg c1 hm
    refine j_sub (L' := [(0, _), (1, _), (2, _)]) [1, 2, 0] rfl ?_
    exact tX5_numbersBelow_b62   hk4 hm
  · have hm := jif_pos c1 hm
    refine j_aload_n dX5_numbersBelow_50 rfl rfl ?_
    refine m_geti (k := 18) fX5_187 dX5_numbersBelow_51 rfl rfl rfl ?_
    refine j_iconst (v := 2) dX5_numbersBelow_54 rfl (by decide) ?_
    refine j_icmp_ne (tgt := 62) dX5_numbersBelow_55 rfl (by decide) (fun c2 => ?_) (fun c2 => ?_)
    · have hm := jif_neg c2 hm
      refine j_sub (L' := [(0, _), (1, _), (2, _)]) [1, 2, 0] rfl ?_
      exact tX5_numbersBelow_b62   hk4 hm
    · have hm := jif_pos c2 hm
      refine j_iconst (v := 1) dX5_numbersBelow_58 rfl (by decide) ?_
      refine j_goto (tgt := 63) dX5_numbersBelow_59 (by decide) ?_
      refine j_sub (L' := [(0, _), (1, _), (2, _)]) [1, 2, 0] rfl ?_
      exact tX5_numbersBelow_b63   hk4 hm
def mX5_numbersBelow_b4   : Nat → Int32 → Int32 → Int32 → jMem → Option (Int32 × jMem)
  | 0, _, _, _, _ => none
  | n + 1, a1, a2, a3, V => (if a3 = (0 : Int32) then (some (a2, V)) else (if (V.1 0 20) = (0 : Int32) then ((mX5_number (0 : Int32) (a1 - (1 : Int32)) V).bind (fun (p3 : Int32 × jMem) => (if (p3.2.1 0 20) = (0 : Int32) then (mX5_numbersBelow_b41 (mX5_numbersBelow_b4 n) a1 ((1 : Int32) <<< (p3.1 &&& (31 : Int32))) a2 p3.2) else (mX5_numbersBelow_b41 (mX5_numbersBelow_b4 n) a1 (0 : Int32) a2 p3.2)))) else (some (a2, V))))
set_option maxHeartbeats 4000000 in
set_option maxRecDepth 20000 in
theorem tX5_numbersBelow_b4 {l : Launch} {Z : jZ} {q : Nat → Nat}  {r : Int32} {V' : jMem}   (n : Nat) : ∀ (a1 : Int32) (a2 : Int32) (a3 : Int32) (V : jMem), mX5_numbersBelow_b4 n a1 a2 a3 V = some (r, V') → J l Z RX5 "numbersBelow" cX5_numbersBelow 5 (some .int) 4 0 0 (fun r' w => r' = some (.int r) ∧ w = jw Z q V' dM) 4 [(0, .ref (q 0)), (1, .int a1), (2, .int a2), (3, .int a3)] [] (jw Z q V dM) 0 0 := by
  induction n with
  | zero => intro a1 a2 a3 V hm; cases hm
  | succ n ih =>
    intro a1 a2 a3 V hm
    rw [mX5_numbersBelow_b4] at hm
    refine j_iload_n dX5_numbersBelow_4 rfl rfl ?_
    refine j_if_eq (tgt := 67) dX5_numbersBelow_5 rfl (by decide) (fun c1 => ?_) (fun c1 => ?_)
    · have hm := jif_pos c1 hm
      refine j_iload_n dX5_numbersBelow_67 rfl rfl ?_
      exact j_ireturn dX5_numbersBelow_68 rfl rfl ⟨Nat.le_refl _, Nat.le_refl _⟩ (jf_m (fun z => .int z) hm)
    · have hm := jif_neg c1 hm
      refine j_aload_n dX5_numbersBelow_8 rfl rfl ?_
      refine m_geti (k := 20) fX5_204 dX5_numbersBelow_9 rfl rfl rfl ?_
      refine j_if_ne (tgt := 67) dX5_numbersBelow_12 rfl (by decide) (fun c2 => ?_) (fun c2 => ?_)
      · have hm := jif_neg c2 hm
        refine j_iload_n dX5_numbersBelow_67 rfl rfl ?_
        exact j_ireturn dX5_numbersBelow_68 rfl rfl ⟨Nat.le_refl _, Nat.le_refl _⟩ (jf_m (fun z => .int z) hm)
      · have hm := jif_pos c2 hm
        refine j_aload_n dX5_numbersBelow_15 rfl rfl ?_
        refine j_iconst (v := 0) dX5_numbersBelow_16 rfl (by decide) ?_
        refine j_iload_n dX5_numbersBelow_17 rfl rfl ?_
        refine j_iconst (v := 1) dX5_numbersBelow_18 rfl (by decide) ?_
        refine j_isub dX5_numbersBelow_19 rfl ?_
        obtain ⟨p3, ep3, hm⟩ := jb_of hm
        refine o_callV_i kX5_214 dX5_numbersBelow_20 rfl (tX5_number  ep3) rfl rfl rfl rfl rfl (Nat.le_of_ble_eq_true rfl) (by decide) ?_
        refine j_istore (L' := [(4, _), (0, _), (1, _), (2, _), (3, _)]) dX5_numbersBelow_23 rfl (by decide) rfl ?_
        refine j_iload_n dX5_numbersBelow_25 rfl rfl ?_
        refine j_aload_n dX5_numbersBelow_26 rfl rfl ?_
        refine m_geti (k := 20) fX5_204 dX5_numbersBelow_27 rfl rfl rfl ?_
        refine j_if_eq (tgt := 37) dX5_numbersBelow_30 rfl (by decide) (fun c4 => ?_) (fun c4 => ?_)
        · have hm := jif_pos c4 hm
          refine j_iconst (v := 1) dX5_numbersBelow_37 rfl (by decide) ?_
          refine j_iload dX5_numbersBelow_38 rfl rfl ?_
          refine j_ishl dX5_numbersBelow_40 rfl ?_
          refine j_sub (L' := [(0, _), (1, _)]) [1, 2] rfl ?_
          exact tX5_numbersBelow_b41   ih hm
        · have hm := jif_neg c4 hm
          refine j_iconst (v := 0) dX5_numbersBelow_33 rfl (by decide) ?_
          refine j_goto (tgt := 41) dX5_numbersBelow_34 (by decide) ?_
          refine j_sub (L' := [(0, _), (1, _)]) [1, 2] rfl ?_
          exact tX5_numbersBelow_b41   ih hm
def mX5_numbersBelow (a1 : Int32) (V : jMem) : Option (Int32 × jMem) := (mX5_numbersBelow_b4 2000 a1 (0 : Int32) (1 : Int32) V)
set_option maxHeartbeats 4000000 in
set_option maxRecDepth 20000 in
theorem tX5_numbersBelow {l : Launch} {Z : jZ} {q : Nat → Nat} {a1 : Int32} {V : jMem} {r : Int32} {V' : jMem}  (hm : mX5_numbersBelow a1 V = some (r, V')) : CtD l Z yX5_numbersBelow cX5_numbersBelow 5 (some .int) 4 q dM [.ref (q 0), .int a1] V (some (.int r)) V' := by
  refine Ct_of (L := [(0, .ref (q 0)), (1, .int a1)]) (own := RX5) (nm := "numbersBelow") rfl rfl (by decide +kernel) rfl (Nat.le_of_ble_eq_true rfl) ?_
  unfold mX5_numbersBelow at hm
  refine j_iconst (v := 0) dX5_numbersBelow_0 rfl (by decide) ?_
  refine j_istore_n (i := 2) (L' := [(2, _), (0, _), (1, _)]) dX5_numbersBelow_1 rfl rfl (by decide) rfl ?_
  refine j_iconst (v := 1) dX5_numbersBelow_2 rfl (by decide) ?_
  refine j_istore_n (i := 3) (L' := [(3, _), (2, _), (0, _), (1, _)]) dX5_numbersBelow_3 rfl rfl (by decide) rfl ?_
  refine j_sub (L' := [(0, _), (1, _), (2, _), (3, _)]) [2, 3, 1, 0] rfl ?_
  exact tX5_numbersBelow_b4   _ _ _ _ _  hm
theorem dX5_fieldItem_0 : decode cX5_fieldItem 0 = .ok (.aload_n 0, 1) := by decide +kernel
theorem dX5_fieldItem_1 : decode cX5_fieldItem 1 = .ok (.getfield 7, 3) := by decide +kernel
theorem dX5_fieldItem_4 : decode cX5_fieldItem 4 = .ok (.iconst 0, 1) := by decide +kernel
theorem dX5_fieldItem_5 : decode cX5_fieldItem 5 = .ok (.iaload, 1) := by decide +kernel
theorem dX5_fieldItem_6 : decode cX5_fieldItem 6 = .ok (.bipush 14, 2) := by decide +kernel
theorem dX5_fieldItem_8 : decode cX5_fieldItem 8 = .ok (.if_icmp .ne 9, 3) := by decide +kernel
theorem dX5_fieldItem_11 : decode cX5_fieldItem 11 = .ok (.aload_n 0, 1) := by decide +kernel
theorem dX5_fieldItem_12 : decode cX5_fieldItem 12 = .ok (.iconst 1, 1) := by decide +kernel
theorem dX5_fieldItem_13 : decode cX5_fieldItem 13 = .ok (.putfield 204, 3) := by decide +kernel
theorem dX5_fieldItem_16 : decode cX5_fieldItem 16 = .ok (.return_, 1) := by decide +kernel
theorem dX5_fieldItem_17 : decode cX5_fieldItem 17 = .ok (.aload_n 0, 1) := by decide +kernel
theorem dX5_fieldItem_18 : decode cX5_fieldItem 18 = .ok (.invokevirtual 211, 3) := by decide +kernel
theorem dX5_fieldItem_21 : decode cX5_fieldItem 21 = .ok (.aload_n 0, 1) := by decide +kernel
theorem dX5_fieldItem_22 : decode cX5_fieldItem 22 = .ok (.iconst 1, 1) := by decide +kernel
theorem dX5_fieldItem_23 : decode cX5_fieldItem 23 = .ok (.sipush 9999, 3) := by decide +kernel
theorem dX5_fieldItem_26 : decode cX5_fieldItem 26 = .ok (.invokevirtual 214, 3) := by decide +kernel
theorem dX5_fieldItem_29 : decode cX5_fieldItem 29 = .ok (.istore_n 2, 1) := by decide +kernel
theorem dX5_fieldItem_30 : decode cX5_fieldItem 30 = .ok (.aload_n 0, 1) := by decide +kernel
theorem dX5_fieldItem_31 : decode cX5_fieldItem 31 = .ok (.bipush 11, 2) := by decide +kernel
theorem dX5_fieldItem_33 : decode cX5_fieldItem 33 = .ok (.invokevirtual 217, 3) := by decide +kernel
theorem dX5_fieldItem_36 : decode cX5_fieldItem 36 = .ok (.ifCond .eq 13, 3) := by decide +kernel
theorem dX5_fieldItem_39 : decode cX5_fieldItem 39 = .ok (.aload_n 0, 1) := by decide +kernel
theorem dX5_fieldItem_40 : decode cX5_fieldItem 40 = .ok (.iconst 0, 1) := by decide +kernel
theorem dX5_fieldItem_41 : decode cX5_fieldItem 41 = .ok (.bipush 9, 2) := by decide +kernel
theorem dX5_fieldItem_43 : decode cX5_fieldItem 43 = .ok (.invokevirtual 214, 3) := by decide +kernel
theorem dX5_fieldItem_46 : decode cX5_fieldItem 46 = .ok (.goto 4, 3) := by decide +kernel
theorem dX5_fieldItem_49 : decode cX5_fieldItem 49 = .ok (.iconst 0, 1) := by decide +kernel
theorem dX5_fieldItem_50 : decode cX5_fieldItem 50 = .ok (.istore_n 3, 1) := by decide +kernel
theorem dX5_fieldItem_51 : decode cX5_fieldItem 51 = .ok (.aload_n 0, 1) := by decide +kernel
theorem dX5_fieldItem_52 : decode cX5_fieldItem 52 = .ok (.bipush 12, 2) := by decide +kernel
theorem dX5_fieldItem_54 : decode cX5_fieldItem 54 = .ok (.invokevirtual 217, 3) := by decide +kernel
theorem dX5_fieldItem_57 : decode cX5_fieldItem 57 = .ok (.ifCond .eq 12, 3) := by decide +kernel
theorem dX5_fieldItem_60 : decode cX5_fieldItem 60 = .ok (.aload_n 0, 1) := by decide +kernel
theorem dX5_fieldItem_61 : decode cX5_fieldItem 61 = .ok (.bipush 14, 2) := by decide +kernel
theorem dX5_fieldItem_63 : decode cX5_fieldItem 63 = .ok (.invokevirtual 220, 3) := by decide +kernel
theorem dX5_fieldItem_66 : decode cX5_fieldItem 66 = .ok (.goto 4, 3) := by decide +kernel
theorem dX5_fieldItem_69 : decode cX5_fieldItem 69 = .ok (.iconst 0, 1) := by decide +kernel
theorem dX5_fieldItem_70 : decode cX5_fieldItem 70 = .ok (.istore 4, 2) := by decide +kernel
theorem dX5_fieldItem_72 : decode cX5_fieldItem 72 = .ok (.aload_n 0, 1) := by decide +kernel
theorem dX5_fieldItem_73 : decode cX5_fieldItem 73 = .ok (.getfield 204, 3) := by decide +kernel
theorem dX5_fieldItem_76 : decode cX5_fieldItem 76 = .ok (.ifCond .ne 48, 3) := by decide +kernel
theorem dX5_fieldItem_79 : decode cX5_fieldItem 79 = .ok (.aload_n 0, 1) := by decide +kernel
theorem dX5_fieldItem_80 : decode cX5_fieldItem 80 = .ok (.iload_n 1, 1) := by decide +kernel
theorem dX5_fieldItem_81 : decode cX5_fieldItem 81 = .ok (.iload_n 2, 1) := by decide +kernel
theorem dX5_fieldItem_82 : decode cX5_fieldItem 82 = .ok (.invokevirtual 65, 3) := by decide +kernel
theorem dX5_fieldItem_85 : decode cX5_fieldItem 85 = .ok (.aload_n 0, 1) := by decide +kernel
theorem dX5_fieldItem_86 : decode cX5_fieldItem 86 = .ok (.getfield 7, 3) := by decide +kernel
theorem dX5_fieldItem_89 : decode cX5_fieldItem 89 = .ok (.aload_n 0, 1) := by decide +kernel
theorem dX5_fieldItem_90 : decode cX5_fieldItem 90 = .ok (.aload_n 0, 1) := by decide +kernel
theorem dX5_fieldItem_91 : decode cX5_fieldItem 91 = .ok (.getfield 7, 3) := by decide +kernel
theorem dX5_fieldItem_94 : decode cX5_fieldItem 94 = .ok (.iconst 0, 1) := by decide +kernel
theorem dX5_fieldItem_95 : decode cX5_fieldItem 95 = .ok (.iaload, 1) := by decide +kernel
theorem dX5_fieldItem_96 : decode cX5_fieldItem 96 = .ok (.iconst 1, 1) := by decide +kernel
theorem dX5_fieldItem_97 : decode cX5_fieldItem 97 = .ok (.isub, 1) := by decide +kernel
theorem dX5_fieldItem_98 : decode cX5_fieldItem 98 = .ok (.iconst 2, 1) := by decide +kernel
theorem dX5_fieldItem_99 : decode cX5_fieldItem 99 = .ok (.invokevirtual 49, 3) := by decide +kernel
theorem dX5_fieldItem_102 : decode cX5_fieldItem 102 = .ok (.iload_n 3, 1) := by decide +kernel
theorem dX5_fieldItem_103 : decode cX5_fieldItem 103 = .ok (.iastore, 1) := by decide +kernel
theorem dX5_fieldItem_104 : decode cX5_fieldItem 104 = .ok (.aload_n 0, 1) := by decide +kernel
theorem dX5_fieldItem_105 : decode cX5_fieldItem 105 = .ok (.getfield 7, 3) := by decide +kernel
theorem dX5_fieldItem_108 : decode cX5_fieldItem 108 = .ok (.aload_n 0, 1) := by decide +kernel
theorem dX5_fieldItem_109 : decode cX5_fieldItem 109 = .ok (.aload_n 0, 1) := by decide +kernel
theorem dX5_fieldItem_110 : decode cX5_fieldItem 110 = .ok (.getfield 7, 3) := by decide +kernel
theorem dX5_fieldItem_113 : decode cX5_fieldItem 113 = .ok (.iconst 0, 1) := by decide +kernel
theorem dX5_fieldItem_114 : decode cX5_fieldItem 114 = .ok (.iaload, 1) := by decide +kernel
theorem dX5_fieldItem_115 : decode cX5_fieldItem 115 = .ok (.iconst 1, 1) := by decide +kernel
theorem dX5_fieldItem_116 : decode cX5_fieldItem 116 = .ok (.isub, 1) := by decide +kernel
theorem dX5_fieldItem_117 : decode cX5_fieldItem 117 = .ok (.iconst 3, 1) := by decide +kernel
theorem dX5_fieldItem_118 : decode cX5_fieldItem 118 = .ok (.invokevirtual 49, 3) := by decide +kernel
theorem dX5_fieldItem_121 : decode cX5_fieldItem 121 = .ok (.iload 4, 2) := by decide +kernel
theorem dX5_fieldItem_123 : decode cX5_fieldItem 123 = .ok (.iastore, 1) := by decide +kernel
theorem dX5_fieldItem_124 : decode cX5_fieldItem 124 = .ok (.return_, 1) := by decide +kernel
def mX5_fieldItem_b70   (a1 : Int32) (a2 : Int32) (a3 : Int32) (s0 : Int32) (V : jMem) : Option jMem := (if (V.1 0 20) = (0 : Int32) then ((mX5_comes a1 a2 V).bind (fun (p2 : jMem) => (jg (jin (mX5_at ((p2.1 1 0) - (1 : Int32)) (2 : Int32)) 120) (jl (jsI p2 1 (Int32.toNatClampNeg (mX5_at ((p2.1 1 0) - (1 : Int32)) (2 : Int32))) a3) (fun (V4 : jMem) => (jg (jin (mX5_at ((V4.1 1 0) - (1 : Int32)) (3 : Int32)) 120) (jl (jsI V4 1 (Int32.toNatClampNeg (mX5_at ((V4.1 1 0) - (1 : Int32)) (3 : Int32))) s0) (fun (V6 : jMem) => (some V6))))))))) else (some V))
set_option maxHeartbeats 4000000 in
set_option maxRecDepth 20000 in
theorem tX5_fieldItem_b70 {l : Launch} {Z : jZ} {q : Nat → Nat} {a1 : Int32} {a2 : Int32} {a3 : Int32} {s0 : Int32} {V : jMem} {V' : jMem}    (hm : mX5_fieldItem_b70 a1 a2 a3 s0 V = some V') : J l Z RX5 "fieldItem" cX5_fieldItem 5 none 5 0 0 (fun r' w => r' = none ∧ w = jw Z q V' dM) 70 [(0, .ref (q 0)), (1, .int a1), (2, .int a2), (3, .int a3)] [.int s0] (jw Z q V dM) 0 0 := by
  unfold mX5_fieldItem_b70 at hm
  refine j_istore (L' := [(4, _), (0, _), (1, _), (2, _), (3, _)]) dX5_fieldItem_70 rfl (by decide) rfl ?_
  refine j_aload_n dX5_fieldItem_72 rfl rfl ?_
  refine m_geti (k := 20) fX5_204 dX5_fieldItem_73 rfl rfl rfl ?_
  refine j_if_ne (tgt := 124) dX5_fieldItem_76 rfl (by decide) (fun c1 => ?_) (fun c1 => ?_)
  · have hm := jif_neg c1 hm
    exact j_return dX5_fieldItem_124 rfl ⟨Nat.le_refl _, Nat.le_refl _⟩ (jf_v hm)
  · have hm := jif_pos c1 hm
    refine j_aload_n dX5_fieldItem_79 rfl rfl ?_
    refine j_iload_n dX5_fieldItem_80 rfl rfl ?_
    refine j_iload_n dX5_fieldItem_81 rfl rfl ?_
    obtain ⟨p2, ep2, hm⟩ := jb_of hm
    refine o_callV_v kX5_65 dX5_fieldItem_82 rfl (tX5_comes  ep2) rfl rfl rfl rfl rfl (Nat.le_of_ble_eq_true rfl) (by decide) ?_
    refine j_aload_n dX5_fieldItem_85 rfl rfl ?_
    refine m_getr (k := 0) (r := 1) fX5_7 dX5_fieldItem_86 rfl rfl rfl ?_
    refine j_aload_n dX5_fieldItem_89 rfl rfl ?_
    refine j_aload_n dX5_fieldItem_90 rfl rfl ?_
    refine m_getr (k := 0) (r := 1) fX5_7 dX5_fieldItem_91 rfl rfl rfl ?_
    refine j_iconst (v := 0) dX5_fieldItem_94 rfl (by decide) ?_
    refine o_iald (k := 0) (by decide) dX5_fieldItem_95 rfl rfl (jin_vp (by decide)) ?_
    refine j_iconst (v := 1) dX5_fieldItem_96 rfl (by decide) ?_
    refine j_isub dX5_fieldItem_97 rfl ?_
    refine j_iconst (v := 2) dX5_fieldItem_98 rfl (by decide) ?_
    refine o_callV_i kX5_49 dX5_fieldItem_99 rfl (tX5_at  rfl) rfl rfl rfl rfl rfl (Nat.le_of_ble_eq_true rfl) (by decide) ?_
    refine j_iload_n dX5_fieldItem_102 rfl rfl ?_
    obtain ⟨g3, hm⟩ := jg_of hm
    refine o_iast (k := (Int32.toNatClampNeg (mX5_at ((p2.1 1 0) - (1 : Int32)) (2 : Int32)))) rfl dX5_fieldItem_103 rfl rfl (jin_vp g3) ?_
    obtain ⟨V4, eV4⟩ : ∃ y, y = (jsI p2 1 (Int32.toNatClampNeg (mX5_at ((p2.1 1 0) - (1 : Int32)) (2 : Int32))) a3) := ⟨_, rfl⟩
    have hm := jl_of hm eV4
    rw [← eV4]
    refine j_aload_n dX5_fieldItem_104 rfl rfl ?_
    refine m_getr (k := 0) (r := 1) fX5_7 dX5_fieldItem_105 rfl rfl rfl ?_
    refine j_aload_n dX5_fieldItem_108 rfl rfl ?_
    refine j_aload_n dX5_fieldItem_109 rfl rfl ?_
    refine m_getr (k := 0) (r := 1) fX5_7 dX5_fieldItem_110 rfl rfl rfl ?_
    refine j_iconst (v := 0) dX5_fieldItem_113 rfl (by decide) ?_
    refine o_iald (k := 0) (by decide) dX5_fieldItem_114 rfl rfl (jin_vp (by decide)) ?_
    refine j_iconst (v := 1) dX5_fieldItem_115 rfl (by decide) ?_
    refine j_isub dX5_fieldItem_116 rfl ?_
    refine j_iconst (v := 3) dX5_fieldItem_117 rfl (by decide) ?_
    refine o_callV_i kX5_49 dX5_fieldItem_118 rfl (tX5_at  rfl) rfl rfl rfl rfl rfl (Nat.le_of_ble_eq_true rfl) (by decide) ?_
    refine j_iload dX5_fieldItem_121 rfl rfl ?_
    obtain ⟨g5, hm⟩ := jg_of hm
    refine o_iast (k := (Int32.toNatClampNeg (mX5_at ((V4.1 1 0) - (1 : Int32)) (3 : Int32)))) rfl dX5_fieldItem_123 rfl rfl (jin_vp g5) ?_
    obtain ⟨V6, eV6⟩ : ∃ y, y = (jsI V4 1 (Int32.toNatClampNeg (mX5_at ((V4.1 1 0) - (1 : Int32)) (3 : Int32))) s0) := ⟨_, rfl⟩
    have hm := jl_of hm eV6
    rw [← eV6]
    exact j_return dX5_fieldItem_124 rfl ⟨Nat.le_refl _, Nat.le_refl _⟩ (jf_v hm)
def mX5_fieldItem_b50   (a1 : Int32) (a2 : Int32) (s0 : Int32) (V : jMem) : Option jMem := ((mX5_takes (12 : Int32) V).bind (fun (p1 : Int32 × jMem) => (if p1.1 = (0 : Int32) then (mX5_fieldItem_b70 a1 a2 s0 (0 : Int32) p1.2) else ((mX5_numbersBelow (14 : Int32) p1.2).bind (fun (p3 : Int32 × jMem) => (mX5_fieldItem_b70 a1 a2 s0 p3.1 p3.2))))))
set_option maxHeartbeats 4000000 in
set_option maxRecDepth 20000 in
theorem tX5_fieldItem_b50 {l : Launch} {Z : jZ} {q : Nat → Nat} {a1 : Int32} {a2 : Int32} {s0 : Int32} {V : jMem} {V' : jMem}    (hm : mX5_fieldItem_b50 a1 a2 s0 V = some V') : J l Z RX5 "fieldItem" cX5_fieldItem 5 none 5 0 0 (fun r' w => r' = none ∧ w = jw Z q V' dM) 50 [(0, .ref (q 0)), (1, .int a1), (2, .int a2)] [.int s0] (jw Z q V dM) 0 0 := by
  unfold mX5_fieldItem_b50 at hm
  refine j_istore_n (i := 3) (L' := [(3, _), (0, _), (1, _), (2, _)]) dX5_fieldItem_50 rfl rfl (by decide) rfl ?_
  refine j_aload_n dX5_fieldItem_51 rfl rfl ?_
  refine j_bipush (v := 12) dX5_fieldItem_52 rfl (by decide) ?_
  obtain ⟨p1, ep1, hm⟩ := jb_of hm
  refine o_callV_i kX5_217 dX5_fieldItem_54 rfl (tX5_takes  ep1) rfl rfl rfl rfl rfl (Nat.le_of_ble_eq_true rfl) (by decide) ?_
  refine j_if_eq (tgt := 69) dX5_fieldItem_57 rfl (by decide) (fun c2 => ?_) (fun c2 => ?_)
  · have hm := jif_pos c2 hm
    refine j_iconst (v := 0) dX5_fieldItem_69 rfl (by decide) ?_
    refine j_sub (L' := [(0, _), (1, _), (2, _), (3, _)]) [1, 2, 3, 0] rfl ?_
    exact tX5_fieldItem_b70    hm
  · have hm := jif_neg c2 hm
    refine j_aload_n dX5_fieldItem_60 rfl rfl ?_
    refine j_bipush (v := 14) dX5_fieldItem_61 rfl (by decide) ?_
    obtain ⟨p3, ep3, hm⟩ := jb_of hm
    refine o_callV_i kX5_220 dX5_fieldItem_63 rfl (tX5_numbersBelow  ep3) rfl rfl rfl rfl rfl (Nat.le_of_ble_eq_true rfl) (by decide) ?_
    refine j_goto (tgt := 70) dX5_fieldItem_66 (by decide) ?_
    refine j_sub (L' := [(0, _), (1, _), (2, _), (3, _)]) [1, 2, 3, 0] rfl ?_
    exact tX5_fieldItem_b70    hm
def mX5_fieldItem (a1 : Int32) (V : jMem) : Option jMem := (if (V.1 1 0) = (14 : Int32) then (jl (jsI V 0 20 (1 : Int32)) (fun (V7 : jMem) => (some V7))) else ((mX5_goesOn V).bind (fun (p2 : jMem) => ((mX5_number (1 : Int32) (9999 : Int32) p2).bind (fun (p3 : Int32 × jMem) => ((mX5_takes (11 : Int32) p3.2).bind (fun (p4 : Int32 × jMem) => (if p4.1 = (0 : Int32) then (mX5_fieldItem_b50 a1 p3.1 (0 : Int32) p4.2) else ((mX5_number (0 : Int32) (9 : Int32) p4.2).bind (fun (p6 : Int32 × jMem) => (mX5_fieldItem_b50 a1 p3.1 p6.1 p6.2)))))))))))
set_option maxHeartbeats 4000000 in
set_option maxRecDepth 20000 in
theorem tX5_fieldItem {l : Launch} {Z : jZ} {q : Nat → Nat} {a1 : Int32} {V : jMem} {V' : jMem}  (hm : mX5_fieldItem a1 V = some V') : CtD l Z yX5_fieldItem cX5_fieldItem 5 none 5 q dM [.ref (q 0), .int a1] V none V' := by
  refine Ct_of (L := [(0, .ref (q 0)), (1, .int a1)]) (own := RX5) (nm := "fieldItem") rfl rfl (by decide +kernel) rfl (Nat.le_of_ble_eq_true rfl) ?_
  unfold mX5_fieldItem at hm
  refine j_aload_n dX5_fieldItem_0 rfl rfl ?_
  refine m_getr (k := 0) (r := 1) fX5_7 dX5_fieldItem_1 rfl rfl rfl ?_
  refine j_iconst (v := 0) dX5_fieldItem_4 rfl (by decide) ?_
  refine o_iald (k := 0) (by decide) dX5_fieldItem_5 rfl rfl (jin_vp (by decide)) ?_
  refine j_bipush (v := 14) dX5_fieldItem_6 rfl (by decide) ?_
  refine j_icmp_ne (tgt := 17) dX5_fieldItem_8 rfl (by decide) (fun c1 => ?_) (fun c1 => ?_)
  · have hm := jif_neg c1 hm
    refine j_aload_n dX5_fieldItem_17 rfl rfl ?_
    obtain ⟨p2, ep2, hm⟩ := jb_of hm
    refine o_callV_v kX5_211 dX5_fieldItem_18 rfl (tX5_goesOn  ep2) rfl rfl rfl rfl rfl (Nat.le_of_ble_eq_true rfl) (by decide) ?_
    refine j_aload_n dX5_fieldItem_21 rfl rfl ?_
    refine j_iconst (v := 1) dX5_fieldItem_22 rfl (by decide) ?_
    refine j_sipush (v := 9999) dX5_fieldItem_23 rfl (by decide) ?_
    obtain ⟨p3, ep3, hm⟩ := jb_of hm
    refine o_callV_i kX5_214 dX5_fieldItem_26 rfl (tX5_number  ep3) rfl rfl rfl rfl rfl (Nat.le_of_ble_eq_true rfl) (by decide) ?_
    refine j_istore_n (i := 2) (L' := [(2, _), (0, _), (1, _)]) dX5_fieldItem_29 rfl rfl (by decide) rfl ?_
    refine j_aload_n dX5_fieldItem_30 rfl rfl ?_
    refine j_bipush (v := 11) dX5_fieldItem_31 rfl (by decide) ?_
    obtain ⟨p4, ep4, hm⟩ := jb_of hm
    refine o_callV_i kX5_217 dX5_fieldItem_33 rfl (tX5_takes  ep4) rfl rfl rfl rfl rfl (Nat.le_of_ble_eq_true rfl) (by decide) ?_
    refine j_if_eq (tgt := 49) dX5_fieldItem_36 rfl (by decide) (fun c5 => ?_) (fun c5 => ?_)
    · have hm := jif_pos c5 hm
      refine j_iconst (v := 0) dX5_fieldItem_49 rfl (by decide) ?_
      refine j_sub (L' := [(0, _), (1, _), (2, _)]) [1, 2, 0] rfl ?_
      exact tX5_fieldItem_b50    hm
    · have hm := jif_neg c5 hm
      refine j_aload_n dX5_fieldItem_39 rfl rfl ?_
      refine j_iconst (v := 0) dX5_fieldItem_40 rfl (by decide) ?_
      refine j_bipush (v := 9) dX5_fieldItem_41 rfl (by decide) ?_
      obtain ⟨p6, ep6, hm⟩ := jb_of hm
      refine o_callV_i kX5_214 dX5_fieldItem_43 rfl (tX5_number  ep6) rfl rfl rfl rfl rfl (Nat.le_of_ble_eq_true rfl) (by decide) ?_
      refine j_goto (tgt := 50) dX5_fieldItem_46 (by decide) ?_
      refine j_sub (L' := [(0, _), (1, _), (2, _)]) [1, 2, 0] rfl ?_
      exact tX5_fieldItem_b50    hm
  · have hm := jif_pos c1 hm
    refine j_aload_n dX5_fieldItem_11 rfl rfl ?_
    refine j_iconst (v := 1) dX5_fieldItem_12 rfl (by decide) ?_
    refine m_putz (k := 20) fX5_204 dX5_fieldItem_13 rfl rfl rfl (by decide) ?_
    obtain ⟨V7, eV7⟩ : ∃ y, y = (jsI V 0 20 (1 : Int32)) := ⟨_, rfl⟩
    have hm := jl_of hm eV7
    rw [← eV7]
    exact j_return dX5_fieldItem_16 rfl ⟨Nat.le_refl _, Nat.le_refl _⟩ (jf_v hm)
theorem dX5_stripItem_0 : decode cX5_stripItem 0 = .ok (.aload_n 0, 1) := by decide +kernel
theorem dX5_stripItem_1 : decode cX5_stripItem 1 = .ok (.getfield 7, 3) := by decide +kernel
theorem dX5_stripItem_4 : decode cX5_stripItem 4 = .ok (.iconst 1, 1) := by decide +kernel
theorem dX5_stripItem_5 : decode cX5_stripItem 5 = .ok (.iaload, 1) := by decide +kernel
theorem dX5_stripItem_6 : decode cX5_stripItem 6 = .ok (.bipush 6, 2) := by decide +kernel
theorem dX5_stripItem_8 : decode cX5_stripItem 8 = .ok (.if_icmp .ne 9, 3) := by decide +kernel
theorem dX5_stripItem_11 : decode cX5_stripItem 11 = .ok (.aload_n 0, 1) := by decide +kernel
theorem dX5_stripItem_12 : decode cX5_stripItem 12 = .ok (.iconst 1, 1) := by decide +kernel
theorem dX5_stripItem_13 : decode cX5_stripItem 13 = .ok (.putfield 204, 3) := by decide +kernel
theorem dX5_stripItem_16 : decode cX5_stripItem 16 = .ok (.return_, 1) := by decide +kernel
theorem dX5_stripItem_17 : decode cX5_stripItem 17 = .ok (.aload_n 0, 1) := by decide +kernel
theorem dX5_stripItem_18 : decode cX5_stripItem 18 = .ok (.invokevirtual 211, 3) := by decide +kernel
theorem dX5_stripItem_21 : decode cX5_stripItem 21 = .ok (.aload_n 0, 1) := by decide +kernel
theorem dX5_stripItem_22 : decode cX5_stripItem 22 = .ok (.aload_n 0, 1) := by decide +kernel
theorem dX5_stripItem_23 : decode cX5_stripItem 23 = .ok (.getfield 7, 3) := by decide +kernel
theorem dX5_stripItem_26 : decode cX5_stripItem 26 = .ok (.iconst 0, 1) := by decide +kernel
theorem dX5_stripItem_27 : decode cX5_stripItem 27 = .ok (.iaload, 1) := by decide +kernel
theorem dX5_stripItem_28 : decode cX5_stripItem 28 = .ok (.invokevirtual 220, 3) := by decide +kernel
theorem dX5_stripItem_31 : decode cX5_stripItem 31 = .ok (.istore_n 1, 1) := by decide +kernel
theorem dX5_stripItem_32 : decode cX5_stripItem 32 = .ok (.aload_n 0, 1) := by decide +kernel
theorem dX5_stripItem_33 : decode cX5_stripItem 33 = .ok (.bipush 13, 2) := by decide +kernel
theorem dX5_stripItem_35 : decode cX5_stripItem 35 = .ok (.invokevirtual 217, 3) := by decide +kernel
theorem dX5_stripItem_38 : decode cX5_stripItem 38 = .ok (.ifCond .eq 14, 3) := by decide +kernel
theorem dX5_stripItem_41 : decode cX5_stripItem 41 = .ok (.aload_n 0, 1) := by decide +kernel
theorem dX5_stripItem_42 : decode cX5_stripItem 42 = .ok (.iconst 0, 1) := by decide +kernel
theorem dX5_stripItem_43 : decode cX5_stripItem 43 = .ok (.sipush 9999, 3) := by decide +kernel
theorem dX5_stripItem_46 : decode cX5_stripItem 46 = .ok (.invokevirtual 214, 3) := by decide +kernel
theorem dX5_stripItem_49 : decode cX5_stripItem 49 = .ok (.goto 4, 3) := by decide +kernel
theorem dX5_stripItem_52 : decode cX5_stripItem 52 = .ok (.iconst 0, 1) := by decide +kernel
theorem dX5_stripItem_53 : decode cX5_stripItem 53 = .ok (.istore_n 2, 1) := by decide +kernel
theorem dX5_stripItem_54 : decode cX5_stripItem 54 = .ok (.aload_n 0, 1) := by decide +kernel
theorem dX5_stripItem_55 : decode cX5_stripItem 55 = .ok (.getfield 204, 3) := by decide +kernel
theorem dX5_stripItem_58 : decode cX5_stripItem 58 = .ok (.ifCond .ne 9, 3) := by decide +kernel
theorem dX5_stripItem_61 : decode cX5_stripItem 61 = .ok (.aload_n 0, 1) := by decide +kernel
theorem dX5_stripItem_62 : decode cX5_stripItem 62 = .ok (.iload_n 1, 1) := by decide +kernel
theorem dX5_stripItem_63 : decode cX5_stripItem 63 = .ok (.iload_n 2, 1) := by decide +kernel
theorem dX5_stripItem_64 : decode cX5_stripItem 64 = .ok (.invokevirtual 132, 3) := by decide +kernel
theorem dX5_stripItem_67 : decode cX5_stripItem 67 = .ok (.return_, 1) := by decide +kernel
def mX5_stripItem_b53   (a1 : Int32) (s0 : Int32) (V : jMem) : Option jMem := (if (V.1 0 20) = (0 : Int32) then ((mX5_comesStrip a1 s0 V).bind (fun (p2 : jMem) => (some p2))) else (some V))
set_option maxHeartbeats 4000000 in
set_option maxRecDepth 20000 in
theorem tX5_stripItem_b53 {l : Launch} {Z : jZ} {q : Nat → Nat} {a1 : Int32} {s0 : Int32} {V : jMem} {V' : jMem}    (hm : mX5_stripItem_b53 a1 s0 V = some V') : J l Z RX5 "stripItem" cX5_stripItem 3 none 5 0 0 (fun r' w => r' = none ∧ w = jw Z q V' dM) 53 [(0, .ref (q 0)), (1, .int a1)] [.int s0] (jw Z q V dM) 0 0 := by
  unfold mX5_stripItem_b53 at hm
  refine j_istore_n (i := 2) (L' := [(2, _), (0, _), (1, _)]) dX5_stripItem_53 rfl rfl (by decide) rfl ?_
  refine j_aload_n dX5_stripItem_54 rfl rfl ?_
  refine m_geti (k := 20) fX5_204 dX5_stripItem_55 rfl rfl rfl ?_
  refine j_if_ne (tgt := 67) dX5_stripItem_58 rfl (by decide) (fun c1 => ?_) (fun c1 => ?_)
  · have hm := jif_neg c1 hm
    exact j_return dX5_stripItem_67 rfl ⟨Nat.le_refl _, Nat.le_refl _⟩ (jf_v hm)
  · have hm := jif_pos c1 hm
    refine j_aload_n dX5_stripItem_61 rfl rfl ?_
    refine j_iload_n dX5_stripItem_62 rfl rfl ?_
    refine j_iload_n dX5_stripItem_63 rfl rfl ?_
    obtain ⟨p2, ep2, hm⟩ := jb_of hm
    refine o_callV_v kX5_132 dX5_stripItem_64 rfl (tX5_comesStrip  ep2) rfl rfl rfl rfl rfl (Nat.le_of_ble_eq_true rfl) (by decide) ?_
    exact j_return dX5_stripItem_67 rfl ⟨Nat.le_refl _, Nat.le_refl _⟩ (jf_v hm)
def mX5_stripItem (V : jMem) : Option jMem := (if (V.1 1 1) = (6 : Int32) then (jl (jsI V 0 20 (1 : Int32)) (fun (V7 : jMem) => (some V7))) else ((mX5_goesOn V).bind (fun (p2 : jMem) => ((mX5_numbersBelow (p2.1 1 0) p2).bind (fun (p3 : Int32 × jMem) => ((mX5_takes (13 : Int32) p3.2).bind (fun (p4 : Int32 × jMem) => (if p4.1 = (0 : Int32) then (mX5_stripItem_b53 p3.1 (0 : Int32) p4.2) else ((mX5_number (0 : Int32) (9999 : Int32) p4.2).bind (fun (p6 : Int32 × jMem) => (mX5_stripItem_b53 p3.1 p6.1 p6.2)))))))))))
set_option maxHeartbeats 4000000 in
set_option maxRecDepth 20000 in
theorem tX5_stripItem {l : Launch} {Z : jZ} {q : Nat → Nat} {V : jMem} {V' : jMem}  (hm : mX5_stripItem V = some V') : CtD l Z yX5_stripItem cX5_stripItem 3 none 5 q dM [.ref (q 0)] V none V' := by
  refine Ct_of (L := [(0, .ref (q 0))]) (own := RX5) (nm := "stripItem") rfl rfl (by decide +kernel) rfl (Nat.le_of_ble_eq_true rfl) ?_
  unfold mX5_stripItem at hm
  refine j_aload_n dX5_stripItem_0 rfl rfl ?_
  refine m_getr (k := 0) (r := 1) fX5_7 dX5_stripItem_1 rfl rfl rfl ?_
  refine j_iconst (v := 1) dX5_stripItem_4 rfl (by decide) ?_
  refine o_iald (k := 1) (by decide) dX5_stripItem_5 rfl rfl (jin_vp (by decide)) ?_
  refine j_bipush (v := 6) dX5_stripItem_6 rfl (by decide) ?_
  refine j_icmp_ne (tgt := 17) dX5_stripItem_8 rfl (by decide) (fun c1 => ?_) (fun c1 => ?_)
  · have hm := jif_neg c1 hm
    refine j_aload_n dX5_stripItem_17 rfl rfl ?_
    obtain ⟨p2, ep2, hm⟩ := jb_of hm
    refine o_callV_v kX5_211 dX5_stripItem_18 rfl (tX5_goesOn  ep2) rfl rfl rfl rfl rfl (Nat.le_of_ble_eq_true rfl) (by decide) ?_
    refine j_aload_n dX5_stripItem_21 rfl rfl ?_
    refine j_aload_n dX5_stripItem_22 rfl rfl ?_
    refine m_getr (k := 0) (r := 1) fX5_7 dX5_stripItem_23 rfl rfl rfl ?_
    refine j_iconst (v := 0) dX5_stripItem_26 rfl (by decide) ?_
    refine o_iald (k := 0) (by decide) dX5_stripItem_27 rfl rfl (jin_vp (by decide)) ?_
    obtain ⟨p3, ep3, hm⟩ := jb_of hm
    refine o_callV_i kX5_220 dX5_stripItem_28 rfl (tX5_numbersBelow  ep3) rfl rfl rfl rfl rfl (Nat.le_of_ble_eq_true rfl) (by decide) ?_
    refine j_istore_n (i := 1) (L' := [(1, _), (0, _)]) dX5_stripItem_31 rfl rfl (by decide) rfl ?_
    refine j_aload_n dX5_stripItem_32 rfl rfl ?_
    refine j_bipush (v := 13) dX5_stripItem_33 rfl (by decide) ?_
    obtain ⟨p4, ep4, hm⟩ := jb_of hm
    refine o_callV_i kX5_217 dX5_stripItem_35 rfl (tX5_takes  ep4) rfl rfl rfl rfl rfl (Nat.le_of_ble_eq_true rfl) (by decide) ?_
    refine j_if_eq (tgt := 52) dX5_stripItem_38 rfl (by decide) (fun c5 => ?_) (fun c5 => ?_)
    · have hm := jif_pos c5 hm
      refine j_iconst (v := 0) dX5_stripItem_52 rfl (by decide) ?_
      refine j_sub (L' := [(0, _), (1, _)]) [1, 0] rfl ?_
      exact tX5_stripItem_b53    hm
    · have hm := jif_neg c5 hm
      refine j_aload_n dX5_stripItem_41 rfl rfl ?_
      refine j_iconst (v := 0) dX5_stripItem_42 rfl (by decide) ?_
      refine j_sipush (v := 9999) dX5_stripItem_43 rfl (by decide) ?_
      obtain ⟨p6, ep6, hm⟩ := jb_of hm
      refine o_callV_i kX5_214 dX5_stripItem_46 rfl (tX5_number  ep6) rfl rfl rfl rfl rfl (Nat.le_of_ble_eq_true rfl) (by decide) ?_
      refine j_goto (tgt := 53) dX5_stripItem_49 (by decide) ?_
      refine j_sub (L' := [(0, _), (1, _)]) [1, 0] rfl ?_
      exact tX5_stripItem_b53    hm
  · have hm := jif_pos c1 hm
    refine j_aload_n dX5_stripItem_11 rfl rfl ?_
    refine j_iconst (v := 1) dX5_stripItem_12 rfl (by decide) ?_
    refine m_putz (k := 20) fX5_204 dX5_stripItem_13 rfl rfl rfl (by decide) ?_
    obtain ⟨V7, eV7⟩ : ∃ y, y = (jsI V 0 20 (1 : Int32)) := ⟨_, rfl⟩
    have hm := jl_of hm eV7
    rw [← eV7]
    exact j_return dX5_stripItem_16 rfl ⟨Nat.le_refl _, Nat.le_refl _⟩ (jf_v hm)
