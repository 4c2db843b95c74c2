/-! a Land becomes another -/
section ON
variable {V U : jMem}
theorem x_become (p p2 : Nat) (V : jMem) (hp : p2 + 9 < p ∨ p + 9 < p2) : ∃ W, mX0_become p p2 V = some W ∧ (∀ j, (j < p ∨ p + 9 < j) → W.1 j = V.1 j) ∧ (∀ j, j ≠ p → W.2 j = V.2 j) ∧ W.1 p 0 = V.1 p2 0 ∧ (∀ q, q < 14 → W.1 (p + 1) q = V.1 (p2 + 1) q) ∧ (∀ q, q < 14 → W.1 (p + 2) q = V.1 (p2 + 2) q) ∧ (∀ q, q < 14 → W.1 (p + 3) q = V.1 (p2 + 3) q) ∧ (∀ q, q < 14 → W.1 (p + 4) q = V.1 (p2 + 4) q) ∧ W.1 p 5 = V.1 p2 5 ∧ W.1 p 6 = V.1 p2 6 ∧ W.1 p 7 = V.1 p2 7 ∧ (∀ q, q < 14 → W.1 (p + 5) q = V.1 (p2 + 5) q) ∧ (∀ q, q < 14 → W.1 (p + 6) q = V.1 (p2 + 6) q) ∧ W.1 p 10 = V.1 p2 10 ∧ W.2 p 11 = V.2 p2 11 ∧ W.1 p 12 = V.1 p2 12 ∧ (∀ q, q < 4 → W.1 (p + 7) q = V.1 (p2 + 7) q) ∧ W.1 p 14 = V.1 p2 14 ∧ (∀ q, q < 6 → W.1 (p + 8) q = V.1 (p2 + 8) q) ∧ (∀ q, q < 6 → W.1 (p + 9) q = V.1 (p2 + 9) q) := by
  unfold mX0_become
  obtain ⟨V1, e1⟩ : ∃ y, y = jsI V p 0 (V.1 p2 0) := ⟨_, rfl⟩
  rw [jl_eq, ← e1]
  have f1 : ∀ j, (j < p ∨ p + 9 < j) → V1.1 j = V.1 j := fun j hj => by rw [e1, s1_eq, if_neg (by omega)]
  have g1 : ∀ j, j ≠ p → V1.2 j = V.2 j := fun j hj => by rw [e1, s1_2]
  have d1_1 : V1.1 p 0 = V.1 p2 0 := by rw [e1, s1_at, if_pos ⟨rfl, rfl⟩]
  obtain ⟨V2, e2⟩ : ∃ y, y = jsA V1 (p + 1) (va_cpy (V1.1 (p2 + 1)) (V1.1 (p + 1)) (Int32.toNatClampNeg 0) (Int32.toNatClampNeg 0) (Int32.toNatClampNeg 14)) := ⟨_, rfl⟩
  rw [jl_eq, ← e2]
  have f2 : ∀ j, (j < p ∨ p + 9 < j) → V2.1 j = V.1 j := fun j hj => by rw [e2, sA_eq, if_neg (by omega)]; exact f1 j hj
  have g2 : ∀ j, j ≠ p → V2.2 j = V.2 j := fun j hj => by rw [e2, sA_2]; exact g1 j hj
  have d1_2 : V2.1 p 0 = V.1 p2 0 := by rw [e2, sA_eq, if_neg (by omega)]; exact d1_1
  have d2_2 : (∀ q, q < 14 → V2.1 (p + 1) q = V.1 (p2 + 1) q) := fun q hq => by rw [e2, sA_eq, if_pos rfl, cpy_at _ _ 14 rfl hq, f1 _ (by omega)]
  obtain ⟨V3, e3⟩ : ∃ y, y = jsA V2 (p + 2) (va_cpy (V2.1 (p2 + 2)) (V2.1 (p + 2)) (Int32.toNatClampNeg 0) (Int32.toNatClampNeg 0) (Int32.toNatClampNeg 14)) := ⟨_, rfl⟩
  rw [jl_eq, ← e3]
  have f3 : ∀ j, (j < p ∨ p + 9 < j) → V3.1 j = V.1 j := fun j hj => by rw [e3, sA_eq, if_neg (by omega)]; exact f2 j hj
  have g3 : ∀ j, j ≠ p → V3.2 j = V.2 j := fun j hj => by rw [e3, sA_2]; exact g2 j hj
  have d1_3 : V3.1 p 0 = V.1 p2 0 := by rw [e3, sA_eq, if_neg (by omega)]; exact d1_2
  have d2_3 : (∀ q, q < 14 → V3.1 (p + 1) q = V.1 (p2 + 1) q) := fun q hq => by rw [e3, sA_eq, if_neg (by omega)]; exact d2_2 q hq
  have d3_3 : (∀ q, q < 14 → V3.1 (p + 2) q = V.1 (p2 + 2) q) := fun q hq => by rw [e3, sA_eq, if_pos rfl, cpy_at _ _ 14 rfl hq, f2 _ (by omega)]
  obtain ⟨V4, e4⟩ : ∃ y, y = jsA V3 (p + 3) (va_cpy (V3.1 (p2 + 3)) (V3.1 (p + 3)) (Int32.toNatClampNeg 0) (Int32.toNatClampNeg 0) (Int32.toNatClampNeg 14)) := ⟨_, rfl⟩
  rw [jl_eq, ← e4]
  have f4 : ∀ j, (j < p ∨ p + 9 < j) → V4.1 j = V.1 j := fun j hj => by rw [e4, sA_eq, if_neg (by omega)]; exact f3 j hj
  have g4 : ∀ j, j ≠ p → V4.2 j = V.2 j := fun j hj => by rw [e4, sA_2]; exact g3 j hj
  have d1_4 : V4.1 p 0 = V.1 p2 0 := by rw [e4, sA_eq, if_neg (by omega)]; exact d1_3
  have d2_4 : (∀ q, q < 14 → V4.1 (p + 1) q = V.1 (p2 + 1) q) := fun q hq => by rw [e4, sA_eq, if_neg (by omega)]; exact d2_3 q hq
  have d3_4 : (∀ q, q < 14 → V4.1 (p + 2) q = V.1 (p2 + 2) q) := fun q hq => by rw [e4, sA_eq, if_neg (by omega)]; exact d3_3 q hq
  have d4_4 : (∀ q, q < 14 → V4.1 (p + 3) q = V.1 (p2 + 3) q) := fun q hq => by rw [e4, sA_eq, if_pos rfl, cpy_at _ _ 14 rfl hq, f3 _ (by omega)]
  obtain ⟨V5, e5⟩ : ∃ y, y = jsA V4 (p + 4) (va_cpy (V4.1 (p2 + 4)) (V4.1 (p + 4)) (Int32.toNatClampNeg 0) (Int32.toNatClampNeg 0) (Int32.toNatClampNeg 14)) := ⟨_, rfl⟩
  rw [jl_eq, ← e5]
  have f5 : ∀ j, (j < p ∨ p + 9 < j) → V5.1 j = V.1 j := fun j hj => by rw [e5, sA_eq, if_neg (by omega)]; exact f4 j hj
  have g5 : ∀ j, j ≠ p → V5.2 j = V.2 j := fun j hj => by rw [e5, sA_2]; exact g4 j hj
  have d1_5 : V5.1 p 0 = V.1 p2 0 := by rw [e5, sA_eq, if_neg (by omega)]; exact d1_4
  have d2_5 : (∀ q, q < 14 → V5.1 (p + 1) q = V.1 (p2 + 1) q) := fun q hq => by rw [e5, sA_eq, if_neg (by omega)]; exact d2_4 q hq
  have d3_5 : (∀ q, q < 14 → V5.1 (p + 2) q = V.1 (p2 + 2) q) := fun q hq => by rw [e5, sA_eq, if_neg (by omega)]; exact d3_4 q hq
  have d4_5 : (∀ q, q < 14 → V5.1 (p + 3) q = V.1 (p2 + 3) q) := fun q hq => by rw [e5, sA_eq, if_neg (by omega)]; exact d4_4 q hq
  have d5_5 : (∀ q, q < 14 → V5.1 (p + 4) q = V.1 (p2 + 4) q) := fun q hq => by rw [e5, sA_eq, if_pos rfl, cpy_at _ _ 14 rfl hq, f4 _ (by omega)]
  obtain ⟨V6, e6⟩ : ∃ y, y = jsI V5 p 5 (V5.1 p2 5) := ⟨_, rfl⟩
  rw [jl_eq, ← e6]
  have f6 : ∀ j, (j < p ∨ p + 9 < j) → V6.1 j = V.1 j := fun j hj => by rw [e6, s1_eq, if_neg (by omega)]; exact f5 j hj
  have g6 : ∀ j, j ≠ p → V6.2 j = V.2 j := fun j hj => by rw [e6, s1_2]; exact g5 j hj
  have d1_6 : V6.1 p 0 = V.1 p2 0 := by rw [e6, s1_at, if_neg (by omega)]; exact d1_5
  have d2_6 : (∀ q, q < 14 → V6.1 (p + 1) q = V.1 (p2 + 1) q) := fun q hq => by rw [e6, s1_eq, if_neg (by omega)]; exact d2_5 q hq
  have d3_6 : (∀ q, q < 14 → V6.1 (p + 2) q = V.1 (p2 + 2) q) := fun q hq => by rw [e6, s1_eq, if_neg (by omega)]; exact d3_5 q hq
  have d4_6 : (∀ q, q < 14 → V6.1 (p + 3) q = V.1 (p2 + 3) q) := fun q hq => by rw [e6, s1_eq, if_neg (by omega)]; exact d4_5 q hq
  have d5_6 : (∀ q, q < 14 → V6.1 (p + 4) q = V.1 (p2 + 4) q) := fun q hq => by rw [e6, s1_eq, if_neg (by omega)]; exact d5_5 q hq
  have d6_6 : V6.1 p 5 = V.1 p2 5 := by rw [e6, s1_at, if_pos ⟨rfl, rfl⟩, f5 p2 (by omega)]
  obtain ⟨V7, e7⟩ : ∃ y, y = jsI V6 p 6 (V6.1 p2 6) := ⟨_, rfl⟩
  rw [jl_eq, ← e7]
  have f7 : ∀ j, (j < p ∨ p + 9 < j) → V7.1 j = V.1 j := fun j hj => by rw [e7, s1_eq, if_neg (by omega)]; exact f6 j hj
  have g7 : ∀ j, j ≠ p → V7.2 j = V.2 j := fun j hj => by rw [e7, s1_2]; exact g6 j hj
  have d1_7 : V7.1 p 0 = V.1 p2 0 := by rw [e7, s1_at, if_neg (by omega)]; exact d1_6
  have d2_7 : (∀ q, q < 14 → V7.1 (p + 1) q = V.1 (p2 + 1) q) := fun q hq => by rw [e7, s1_eq, if_neg (by omega)]; exact d2_6 q hq
  have d3_7 : (∀ q, q < 14 → V7.1 (p + 2) q = V.1 (p2 + 2) q) := fun q hq => by rw [e7, s1_eq, if_neg (by omega)]; exact d3_6 q hq
  have d4_7 : (∀ q, q < 14 → V7.1 (p + 3) q = V.1 (p2 + 3) q) := fun q hq => by rw [e7, s1_eq, if_neg (by omega)]; exact d4_6 q hq
  have d5_7 : (∀ q, q < 14 → V7.1 (p + 4) q = V.1 (p2 + 4) q) := fun q hq => by rw [e7, s1_eq, if_neg (by omega)]; exact d5_6 q hq
  have d6_7 : V7.1 p 5 = V.1 p2 5 := by rw [e7, s1_at, if_neg (by omega)]; exact d6_6
  have d7_7 : V7.1 p 6 = V.1 p2 6 := by rw [e7, s1_at, if_pos ⟨rfl, rfl⟩, f6 p2 (by omega)]
  obtain ⟨V8, e8⟩ : ∃ y, y = jsI V7 p 7 (V7.1 p2 7) := ⟨_, rfl⟩
  rw [jl_eq, ← e8]
  have f8 : ∀ j, (j < p ∨ p + 9 < j) → V8.1 j = V.1 j := fun j hj => by rw [e8, s1_eq, if_neg (by omega)]; exact f7 j hj
  have g8 : ∀ j, j ≠ p → V8.2 j = V.2 j := fun j hj => by rw [e8, s1_2]; exact g7 j hj
  have d1_8 : V8.1 p 0 = V.1 p2 0 := by rw [e8, s1_at, if_neg (by omega)]; exact d1_7
  have d2_8 : (∀ q, q < 14 → V8.1 (p + 1) q = V.1 (p2 + 1) q) := fun q hq => by rw [e8, s1_eq, if_neg (by omega)]; exact d2_7 q hq
  have d3_8 : (∀ q, q < 14 → V8.1 (p + 2) q = V.1 (p2 + 2) q) := fun q hq => by rw [e8, s1_eq, if_neg (by omega)]; exact d3_7 q hq
  have d4_8 : (∀ q, q < 14 → V8.1 (p + 3) q = V.1 (p2 + 3) q) := fun q hq => by rw [e8, s1_eq, if_neg (by omega)]; exact d4_7 q hq
  have d5_8 : (∀ q, q < 14 → V8.1 (p + 4) q = V.1 (p2 + 4) q) := fun q hq => by rw [e8, s1_eq, if_neg (by omega)]; exact d5_7 q hq
  have d6_8 : V8.1 p 5 = V.1 p2 5 := by rw [e8, s1_at, if_neg (by omega)]; exact d6_7
  have d7_8 : V8.1 p 6 = V.1 p2 6 := by rw [e8, s1_at, if_neg (by omega)]; exact d7_7
  have d8_8 : V8.1 p 7 = V.1 p2 7 := by rw [e8, s1_at, if_pos ⟨rfl, rfl⟩, f7 p2 (by omega)]
  obtain ⟨V9, e9⟩ : ∃ y, y = jsA V8 (p + 5) (va_cpy (V8.1 (p2 + 5)) (V8.1 (p + 5)) (Int32.toNatClampNeg 0) (Int32.toNatClampNeg 0) (Int32.toNatClampNeg 14)) := ⟨_, rfl⟩
  rw [jl_eq, ← e9]
  have f9 : ∀ j, (j < p ∨ p + 9 < j) → V9.1 j = V.1 j := fun j hj => by rw [e9, sA_eq, if_neg (by omega)]; exact f8 j hj
  have g9 : ∀ j, j ≠ p → V9.2 j = V.2 j := fun j hj => by rw [e9, sA_2]; exact g8 j hj
  have d1_9 : V9.1 p 0 = V.1 p2 0 := by rw [e9, sA_eq, if_neg (by omega)]; exact d1_8
  have d2_9 : (∀ q, q < 14 → V9.1 (p + 1) q = V.1 (p2 + 1) q) := fun q hq => by rw [e9, sA_eq, if_neg (by omega)]; exact d2_8 q hq
  have d3_9 : (∀ q, q < 14 → V9.1 (p + 2) q = V.1 (p2 + 2) q) := fun q hq => by rw [e9, sA_eq, if_neg (by omega)]; exact d3_8 q hq
  have d4_9 : (∀ q, q < 14 → V9.1 (p + 3) q = V.1 (p2 + 3) q) := fun q hq => by rw [e9, sA_eq, if_neg (by omega)]; exact d4_8 q hq
  have d5_9 : (∀ q, q < 14 → V9.1 (p + 4) q = V.1 (p2 + 4) q) := fun q hq => by rw [e9, sA_eq, if_neg (by omega)]; exact d5_8 q hq
  have d6_9 : V9.1 p 5 = V.1 p2 5 := by rw [e9, sA_eq, if_neg (by omega)]; exact d6_8
  have d7_9 : V9.1 p 6 = V.1 p2 6 := by rw [e9, sA_eq, if_neg (by omega)]; exact d7_8
  have d8_9 : V9.1 p 7 = V.1 p2 7 := by rw [e9, sA_eq, if_neg (by omega)]; exact d8_8
  have d9_9 : (∀ q, q < 14 → V9.1 (p + 5) q = V.1 (p2 + 5) q) := fun q hq => by rw [e9, sA_eq, if_pos rfl, cpy_at _ _ 14 rfl hq, f8 _ (by omega)]
  obtain ⟨V10, e10⟩ : ∃ y, y = jsA V9 (p + 6) (va_cpy (V9.1 (p2 + 6)) (V9.1 (p + 6)) (Int32.toNatClampNeg 0) (Int32.toNatClampNeg 0) (Int32.toNatClampNeg 14)) := ⟨_, rfl⟩
  rw [jl_eq, ← e10]
  have f10 : ∀ j, (j < p ∨ p + 9 < j) → V10.1 j = V.1 j := fun j hj => by rw [e10, sA_eq, if_neg (by omega)]; exact f9 j hj
  have g10 : ∀ j, j ≠ p → V10.2 j = V.2 j := fun j hj => by rw [e10, sA_2]; exact g9 j hj
  have d1_10 : V10.1 p 0 = V.1 p2 0 := by rw [e10, sA_eq, if_neg (by omega)]; exact d1_9
  have d2_10 : (∀ q, q < 14 → V10.1 (p + 1) q = V.1 (p2 + 1) q) := fun q hq => by rw [e10, sA_eq, if_neg (by omega)]; exact d2_9 q hq
  have d3_10 : (∀ q, q < 14 → V10.1 (p + 2) q = V.1 (p2 + 2) q) := fun q hq => by rw [e10, sA_eq, if_neg (by omega)]; exact d3_9 q hq
  have d4_10 : (∀ q, q < 14 → V10.1 (p + 3) q = V.1 (p2 + 3) q) := fun q hq => by rw [e10, sA_eq, if_neg (by omega)]; exact d4_9 q hq
  have d5_10 : (∀ q, q < 14 → V10.1 (p + 4) q = V.1 (p2 + 4) q) := fun q hq => by rw [e10, sA_eq, if_neg (by omega)]; exact d5_9 q hq
  have d6_10 : V10.1 p 5 = V.1 p2 5 := by rw [e10, sA_eq, if_neg (by omega)]; exact d6_9
  have d7_10 : V10.1 p 6 = V.1 p2 6 := by rw [e10, sA_eq, if_neg (by omega)]; exact d7_9
  have d8_10 : V10.1 p 7 = V.1 p2 7 := by rw [e10, sA_eq, if_neg (by omega)]; exact d8_9
  have d9_10 : (∀ q, q < 14 → V10.1 (p + 5) q = V.1 (p2 + 5) q) := fun q hq => by rw [e10, sA_eq, if_neg (by omega)]; exact d9_9 q hq
  have d10_10 : (∀ q, q < 14 → V10.1 (p + 6) q = V.1 (p2 + 6) q) := fun q hq => by rw [e10, sA_eq, if_pos rfl, cpy_at _ _ 14 rfl hq, f9 _ (by omega)]
  obtain ⟨V11, e11⟩ : ∃ y, y = jsI V10 p 10 (V10.1 p2 10) := ⟨_, rfl⟩
  rw [jl_eq, ← e11]
  have f11 : ∀ j, (j < p ∨ p + 9 < j) → V11.1 j = V.1 j := fun j hj => by rw [e11, s1_eq, if_neg (by omega)]; exact f10 j hj
  have g11 : ∀ j, j ≠ p → V11.2 j = V.2 j := fun j hj => by rw [e11, s1_2]; exact g10 j hj
  have d1_11 : V11.1 p 0 = V.1 p2 0 := by rw [e11, s1_at, if_neg (by omega)]; exact d1_10
  have d2_11 : (∀ q, q < 14 → V11.1 (p + 1) q = V.1 (p2 + 1) q) := fun q hq => by rw [e11, s1_eq, if_neg (by omega)]; exact d2_10 q hq
  have d3_11 : (∀ q, q < 14 → V11.1 (p + 2) q = V.1 (p2 + 2) q) := fun q hq => by rw [e11, s1_eq, if_neg (by omega)]; exact d3_10 q hq
  have d4_11 : (∀ q, q < 14 → V11.1 (p + 3) q = V.1 (p2 + 3) q) := fun q hq => by rw [e11, s1_eq, if_neg (by omega)]; exact d4_10 q hq
  have d5_11 : (∀ q, q < 14 → V11.1 (p + 4) q = V.1 (p2 + 4) q) := fun q hq => by rw [e11, s1_eq, if_neg (by omega)]; exact d5_10 q hq
  have d6_11 : V11.1 p 5 = V.1 p2 5 := by rw [e11, s1_at, if_neg (by omega)]; exact d6_10
  have d7_11 : V11.1 p 6 = V.1 p2 6 := by rw [e11, s1_at, if_neg (by omega)]; exact d7_10
  have d8_11 : V11.1 p 7 = V.1 p2 7 := by rw [e11, s1_at, if_neg (by omega)]; exact d8_10
  have d9_11 : (∀ q, q < 14 → V11.1 (p + 5) q = V.1 (p2 + 5) q) := fun q hq => by rw [e11, s1_eq, if_neg (by omega)]; exact d9_10 q hq
  have d10_11 : (∀ q, q < 14 → V11.1 (p + 6) q = V.1 (p2 + 6) q) := fun q hq => by rw [e11, s1_eq, if_neg (by omega)]; exact d10_10 q hq
  have d11_11 : V11.1 p 10 = V.1 p2 10 := by rw [e11, s1_at, if_pos ⟨rfl, rfl⟩, f10 p2 (by omega)]
  obtain ⟨V12, e12⟩ : ∃ y, y = jsL V11 p 11 (V11.2 p2 11) := ⟨_, rfl⟩
  rw [jl_eq, ← e12]
  have f12 : ∀ j, (j < p ∨ p + 9 < j) → V12.1 j = V.1 j := fun j hj => by rw [e12, s2_1]; exact f11 j hj
  have g12 : ∀ j, j ≠ p → V12.2 j = V.2 j := fun j hj => by rw [e12, s2_eq, if_neg hj]; exact g11 j hj
  have d1_12 : V12.1 p 0 = V.1 p2 0 := by rw [e12, s2_1]; exact d1_11
  have d2_12 : (∀ q, q < 14 → V12.1 (p + 1) q = V.1 (p2 + 1) q) := fun q hq => by rw [e12, s2_1]; exact d2_11 q hq
  have d3_12 : (∀ q, q < 14 → V12.1 (p + 2) q = V.1 (p2 + 2) q) := fun q hq => by rw [e12, s2_1]; exact d3_11 q hq
  have d4_12 : (∀ q, q < 14 → V12.1 (p + 3) q = V.1 (p2 + 3) q) := fun q hq => by rw [e12, s2_1]; exact d4_11 q hq
  have d5_12 : (∀ q, q < 14 → V12.1 (p + 4) q = V.1 (p2 + 4) q) := fun q hq => by rw [e12, s2_1]; exact d5_11 q hq
  have d6_12 : V12.1 p 5 = V.1 p2 5 := by rw [e12, s2_1]; exact d6_11
  have d7_12 : V12.1 p 6 = V.1 p2 6 := by rw [e12, s2_1]; exact d7_11
  have d8_12 : V12.1 p 7 = V.1 p2 7 := by rw [e12, s2_1]; exact d8_11
  have d9_12 : (∀ q, q < 14 → V12.1 (p + 5) q = V.1 (p2 + 5) q) := fun q hq => by rw [e12, s2_1]; exact d9_11 q hq
  have d10_12 : (∀ q, q < 14 → V12.1 (p + 6) q = V.1 (p2 + 6) q) := fun q hq => by rw [e12, s2_1]; exact d10_11 q hq
  have d11_12 : V12.1 p 10 = V.1 p2 10 := by rw [e12, s2_1]; exact d11_11
  have d12_12 : V12.2 p 11 = V.2 p2 11 := by rw [e12, s2_eq, if_pos rfl, uL_eq, if_pos rfl, g11 p2 (by omega)]
  obtain ⟨V13, e13⟩ : ∃ y, y = jsI V12 p 12 (V12.1 p2 12) := ⟨_, rfl⟩
  rw [jl_eq, ← e13]
  have f13 : ∀ j, (j < p ∨ p + 9 < j) → V13.1 j = V.1 j := fun j hj => by rw [e13, s1_eq, if_neg (by omega)]; exact f12 j hj
  have g13 : ∀ j, j ≠ p → V13.2 j = V.2 j := fun j hj => by rw [e13, s1_2]; exact g12 j hj
  have d1_13 : V13.1 p 0 = V.1 p2 0 := by rw [e13, s1_at, if_neg (by omega)]; exact d1_12
  have d2_13 : (∀ q, q < 14 → V13.1 (p + 1) q = V.1 (p2 + 1) q) := fun q hq => by rw [e13, s1_eq, if_neg (by omega)]; exact d2_12 q hq
  have d3_13 : (∀ q, q < 14 → V13.1 (p + 2) q = V.1 (p2 + 2) q) := fun q hq => by rw [e13, s1_eq, if_neg (by omega)]; exact d3_12 q hq
  have d4_13 : (∀ q, q < 14 → V13.1 (p + 3) q = V.1 (p2 + 3) q) := fun q hq => by rw [e13, s1_eq, if_neg (by omega)]; exact d4_12 q hq
  have d5_13 : (∀ q, q < 14 → V13.1 (p + 4) q = V.1 (p2 + 4) q) := fun q hq => by rw [e13, s1_eq, if_neg (by omega)]; exact d5_12 q hq
  have d6_13 : V13.1 p 5 = V.1 p2 5 := by rw [e13, s1_at, if_neg (by omega)]; exact d6_12
  have d7_13 : V13.1 p 6 = V.1 p2 6 := by rw [e13, s1_at, if_neg (by omega)]; exact d7_12
  have d8_13 : V13.1 p 7 = V.1 p2 7 := by rw [e13, s1_at, if_neg (by omega)]; exact d8_12
  have d9_13 : (∀ q, q < 14 → V13.1 (p + 5) q = V.1 (p2 + 5) q) := fun q hq => by rw [e13, s1_eq, if_neg (by omega)]; exact d9_12 q hq
  have d10_13 : (∀ q, q < 14 → V13.1 (p + 6) q = V.1 (p2 + 6) q) := fun q hq => by rw [e13, s1_eq, if_neg (by omega)]; exact d10_12 q hq
  have d11_13 : V13.1 p 10 = V.1 p2 10 := by rw [e13, s1_at, if_neg (by omega)]; exact d11_12
  have d12_13 : V13.2 p 11 = V.2 p2 11 := by rw [e13, s1_2]; exact d12_12
  have d13_13 : V13.1 p 12 = V.1 p2 12 := by rw [e13, s1_at, if_pos ⟨rfl, rfl⟩, f12 p2 (by omega)]
  obtain ⟨V14, e14⟩ : ∃ y, y = jsA V13 (p + 7) (va_cpy (V13.1 (p2 + 7)) (V13.1 (p + 7)) (Int32.toNatClampNeg 0) (Int32.toNatClampNeg 0) (Int32.toNatClampNeg 4)) := ⟨_, rfl⟩
  rw [jl_eq, ← e14]
  have f14 : ∀ j, (j < p ∨ p + 9 < j) → V14.1 j = V.1 j := fun j hj => by rw [e14, sA_eq, if_neg (by omega)]; exact f13 j hj
  have g14 : ∀ j, j ≠ p → V14.2 j = V.2 j := fun j hj => by rw [e14, sA_2]; exact g13 j hj
  have d1_14 : V14.1 p 0 = V.1 p2 0 := by rw [e14, sA_eq, if_neg (by omega)]; exact d1_13
  have d2_14 : (∀ q, q < 14 → V14.1 (p + 1) q = V.1 (p2 + 1) q) := fun q hq => by rw [e14, sA_eq, if_neg (by omega)]; exact d2_13 q hq
  have d3_14 : (∀ q, q < 14 → V14.1 (p + 2) q = V.1 (p2 + 2) q) := fun q hq => by rw [e14, sA_eq, if_neg (by omega)]; exact d3_13 q hq
  have d4_14 : (∀ q, q < 14 → V14.1 (p + 3) q = V.1 (p2 + 3) q) := fun q hq => by rw [e14, sA_eq, if_neg (by omega)]; exact d4_13 q hq
  have d5_14 : (∀ q, q < 14 → V14.1 (p + 4) q = V.1 (p2 + 4) q) := fun q hq => by rw [e14, sA_eq, if_neg (by omega)]; exact d5_13 q hq
  have d6_14 : V14.1 p 5 = V.1 p2 5 := by rw [e14, sA_eq, if_neg (by omega)]; exact d6_13
  have d7_14 : V14.1 p 6 = V.1 p2 6 := by rw [e14, sA_eq, if_neg (by omega)]; exact d7_13
  have d8_14 : V14.1 p 7 = V.1 p2 7 := by rw [e14, sA_eq, if_neg (by omega)]; exact d8_13
  have d9_14 : (∀ q, q < 14 → V14.1 (p + 5) q = V.1 (p2 + 5) q) := fun q hq => by rw [e14, sA_eq, if_neg (by omega)]; exact d9_13 q hq
  have d10_14 : (∀ q, q < 14 → V14.1 (p + 6) q = V.1 (p2 + 6) q) := fun q hq => by rw [e14, sA_eq, if_neg (by omega)]; exact d10_13 q hq
  have d11_14 : V14.1 p 10 = V.1 p2 10 := by rw [e14, sA_eq, if_neg (by omega)]; exact d11_13
  have d12_14 : V14.2 p 11 = V.2 p2 11 := by rw [e14, sA_2]; exact d12_13
  have d13_14 : V14.1 p 12 = V.1 p2 12 := by rw [e14, sA_eq, if_neg (by omega)]; exact d13_13
  have d14_14 : (∀ q, q < 4 → V14.1 (p + 7) q = V.1 (p2 + 7) q) := fun q hq => by rw [e14, sA_eq, if_pos rfl, cpy_at _ _ 4 rfl hq, f13 _ (by omega)]
  obtain ⟨V15, e15⟩ : ∃ y, y = jsI V14 p 14 (V14.1 p2 14) := ⟨_, rfl⟩
  rw [jl_eq, ← e15]
  have f15 : ∀ j, (j < p ∨ p + 9 < j) → V15.1 j = V.1 j := fun j hj => by rw [e15, s1_eq, if_neg (by omega)]; exact f14 j hj
  have g15 : ∀ j, j ≠ p → V15.2 j = V.2 j := fun j hj => by rw [e15, s1_2]; exact g14 j hj
  have d1_15 : V15.1 p 0 = V.1 p2 0 := by rw [e15, s1_at, if_neg (by omega)]; exact d1_14
  have d2_15 : (∀ q, q < 14 → V15.1 (p + 1) q = V.1 (p2 + 1) q) := fun q hq => by rw [e15, s1_eq, if_neg (by omega)]; exact d2_14 q hq
  have d3_15 : (∀ q, q < 14 → V15.1 (p + 2) q = V.1 (p2 + 2) q) := fun q hq => by rw [e15, s1_eq, if_neg (by omega)]; exact d3_14 q hq
  have d4_15 : (∀ q, q < 14 → V15.1 (p + 3) q = V.1 (p2 + 3) q) := fun q hq => by rw [e15, s1_eq, if_neg (by omega)]; exact d4_14 q hq
  have d5_15 : (∀ q, q < 14 → V15.1 (p + 4) q = V.1 (p2 + 4) q) := fun q hq => by rw [e15, s1_eq, if_neg (by omega)]; exact d5_14 q hq
  have d6_15 : V15.1 p 5 = V.1 p2 5 := by rw [e15, s1_at, if_neg (by omega)]; exact d6_14
  have d7_15 : V15.1 p 6 = V.1 p2 6 := by rw [e15, s1_at, if_neg (by omega)]; exact d7_14
  have d8_15 : V15.1 p 7 = V.1 p2 7 := by rw [e15, s1_at, if_neg (by omega)]; exact d8_14
  have d9_15 : (∀ q, q < 14 → V15.1 (p + 5) q = V.1 (p2 + 5) q) := fun q hq => by rw [e15, s1_eq, if_neg (by omega)]; exact d9_14 q hq
  have d10_15 : (∀ q, q < 14 → V15.1 (p + 6) q = V.1 (p2 + 6) q) := fun q hq => by rw [e15, s1_eq, if_neg (by omega)]; exact d10_14 q hq
  have d11_15 : V15.1 p 10 = V.1 p2 10 := by rw [e15, s1_at, if_neg (by omega)]; exact d11_14
  have d12_15 : V15.2 p 11 = V.2 p2 11 := by rw [e15, s1_2]; exact d12_14
  have d13_15 : V15.1 p 12 = V.1 p2 12 := by rw [e15, s1_at, if_neg (by omega)]; exact d13_14
  have d14_15 : (∀ q, q < 4 → V15.1 (p + 7) q = V.1 (p2 + 7) q) := fun q hq => by rw [e15, s1_eq, if_neg (by omega)]; exact d14_14 q hq
  have d15_15 : V15.1 p 14 = V.1 p2 14 := by rw [e15, s1_at, if_pos ⟨rfl, rfl⟩, f14 p2 (by omega)]
  obtain ⟨V16, e16⟩ : ∃ y, y = jsA V15 (p + 8) (va_cpy (V15.1 (p2 + 8)) (V15.1 (p + 8)) (Int32.toNatClampNeg 0) (Int32.toNatClampNeg 0) (Int32.toNatClampNeg 6)) := ⟨_, rfl⟩
  rw [jl_eq, ← e16]
  have f16 : ∀ j, (j < p ∨ p + 9 < j) → V16.1 j = V.1 j := fun j hj => by rw [e16, sA_eq, if_neg (by omega)]; exact f15 j hj
  have g16 : ∀ j, j ≠ p → V16.2 j = V.2 j := fun j hj => by rw [e16, sA_2]; exact g15 j hj
  have d1_16 : V16.1 p 0 = V.1 p2 0 := by rw [e16, sA_eq, if_neg (by omega)]; exact d1_15
  have d2_16 : (∀ q, q < 14 → V16.1 (p + 1) q = V.1 (p2 + 1) q) := fun q hq => by rw [e16, sA_eq, if_neg (by omega)]; exact d2_15 q hq
  have d3_16 : (∀ q, q < 14 → V16.1 (p + 2) q = V.1 (p2 + 2) q) := fun q hq => by rw [e16, sA_eq, if_neg (by omega)]; exact d3_15 q hq
  have d4_16 : (∀ q, q < 14 → V16.1 (p + 3) q = V.1 (p2 + 3) q) := fun q hq => by rw [e16, sA_eq, if_neg (by omega)]; exact d4_15 q hq
  have d5_16 : (∀ q, q < 14 → V16.1 (p + 4) q = V.1 (p2 + 4) q) := fun q hq => by rw [e16, sA_eq, if_neg (by omega)]; exact d5_15 q hq
  have d6_16 : V16.1 p 5 = V.1 p2 5 := by rw [e16, sA_eq, if_neg (by omega)]; exact d6_15
  have d7_16 : V16.1 p 6 = V.1 p2 6 := by rw [e16, sA_eq, if_neg (by omega)]; exact d7_15
  have d8_16 : V16.1 p 7 = V.1 p2 7 := by rw [e16, sA_eq, if_neg (by omega)]; exact d8_15
  have d9_16 : (∀ q, q < 14 → V16.1 (p + 5) q = V.1 (p2 + 5) q) := fun q hq => by rw [e16, sA_eq, if_neg (by omega)]; exact d9_15 q hq
  have d10_16 : (∀ q, q < 14 → V16.1 (p + 6) q = V.1 (p2 + 6) q) := fun q hq => by rw [e16, sA_eq, if_neg (by omega)]; exact d10_15 q hq
  have d11_16 : V16.1 p 10 = V.1 p2 10 := by rw [e16, sA_eq, if_neg (by omega)]; exact d11_15
  have d12_16 : V16.2 p 11 = V.2 p2 11 := by rw [e16, sA_2]; exact d12_15
  have d13_16 : V16.1 p 12 = V.1 p2 12 := by rw [e16, sA_eq, if_neg (by omega)]; exact d13_15
  have d14_16 : (∀ q, q < 4 → V16.1 (p + 7) q = V.1 (p2 + 7) q) := fun q hq => by rw [e16, sA_eq, if_neg (by omega)]; exact d14_15 q hq
  have d15_16 : V16.1 p 14 = V.1 p2 14 := by rw [e16, sA_eq, if_neg (by omega)]; exact d15_15
  have d16_16 : (∀ q, q < 6 → V16.1 (p + 8) q = V.1 (p2 + 8) q) := fun q hq => by rw [e16, sA_eq, if_pos rfl, cpy_at _ _ 6 rfl hq, f15 _ (by omega)]
  obtain ⟨V17, e17⟩ : ∃ y, y = jsA V16 (p + 9) (va_cpy (V16.1 (p2 + 9)) (V16.1 (p + 9)) (Int32.toNatClampNeg 0) (Int32.toNatClampNeg 0) (Int32.toNatClampNeg 6)) := ⟨_, rfl⟩
  rw [jl_eq, ← e17]
  have f17 : ∀ j, (j < p ∨ p + 9 < j) → V17.1 j = V.1 j := fun j hj => by rw [e17, sA_eq, if_neg (by omega)]; exact f16 j hj
  have g17 : ∀ j, j ≠ p → V17.2 j = V.2 j := fun j hj => by rw [e17, sA_2]; exact g16 j hj
  have d1_17 : V17.1 p 0 = V.1 p2 0 := by rw [e17, sA_eq, if_neg (by omega)]; exact d1_16
  have d2_17 : (∀ q, q < 14 → V17.1 (p + 1) q = V.1 (p2 + 1) q) := fun q hq => by rw [e17, sA_eq, if_neg (by omega)]; exact d2_16 q hq
  have d3_17 : (∀ q, q < 14 → V17.1 (p + 2) q = V.1 (p2 + 2) q) := fun q hq => by rw [e17, sA_eq, if_neg (by omega)]; exact d3_16 q hq
  have d4_17 : (∀ q, q < 14 → V17.1 (p + 3) q = V.1 (p2 + 3) q) := fun q hq => by rw [e17, sA_eq, if_neg (by omega)]; exact d4_16 q hq
  have d5_17 : (∀ q, q < 14 → V17.1 (p + 4) q = V.1 (p2 + 4) q) := fun q hq => by rw [e17, sA_eq, if_neg (by omega)]; exact d5_16 q hq
  have d6_17 : V17.1 p 5 = V.1 p2 5 := by rw [e17, sA_eq, if_neg (by omega)]; exact d6_16
  have d7_17 : V17.1 p 6 = V.1 p2 6 := by rw [e17, sA_eq, if_neg (by omega)]; exact d7_16
  have d8_17 : V17.1 p 7 = V.1 p2 7 := by rw [e17, sA_eq, if_neg (by omega)]; exact d8_16
  have d9_17 : (∀ q, q < 14 → V17.1 (p + 5) q = V.1 (p2 + 5) q) := fun q hq => by rw [e17, sA_eq, if_neg (by omega)]; exact d9_16 q hq
  have d10_17 : (∀ q, q < 14 → V17.1 (p + 6) q = V.1 (p2 + 6) q) := fun q hq => by rw [e17, sA_eq, if_neg (by omega)]; exact d10_16 q hq
  have d11_17 : V17.1 p 10 = V.1 p2 10 := by rw [e17, sA_eq, if_neg (by omega)]; exact d11_16
  have d12_17 : V17.2 p 11 = V.2 p2 11 := by rw [e17, sA_2]; exact d12_16
  have d13_17 : V17.1 p 12 = V.1 p2 12 := by rw [e17, sA_eq, if_neg (by omega)]; exact d13_16
  have d14_17 : (∀ q, q < 4 → V17.1 (p + 7) q = V.1 (p2 + 7) q) := fun q hq => by rw [e17, sA_eq, if_neg (by omega)]; exact d14_16 q hq
  have d15_17 : V17.1 p 14 = V.1 p2 14 := by rw [e17, sA_eq, if_neg (by omega)]; exact d15_16
  have d16_17 : (∀ q, q < 6 → V17.1 (p + 8) q = V.1 (p2 + 8) q) := fun q hq => by rw [e17, sA_eq, if_neg (by omega)]; exact d16_16 q hq
  have d17_17 : (∀ q, q < 6 → V17.1 (p + 9) q = V.1 (p2 + 9) q) := fun q hq => by rw [e17, sA_eq, if_pos rfl, cpy_at _ _ 6 rfl hq, f16 _ (by omega)]
  exact ⟨V17, rfl, f17, g17, d1_17, d2_17, d3_17, d4_17, d5_17, d6_17, d7_17, d8_17, d9_17, d10_17, d11_17, d12_17, d13_17, d14_17, d15_17, d16_17, d17_17⟩
theorem xl_become {p p2 : Nat} {W : jMem} {s s' : Nat → Int32} {ss ss' : Int64} (hb : W.1 p 0 = V.1 p2 0 ∧ (∀ q, q < 14 → W.1 (p + 1) q = V.1 (p2 + 1) q) ∧ (∀ q, q < 14 → W.1 (p + 2) q = V.1 (p2 + 2) q) ∧ (∀ q, q < 14 → W.1 (p + 3) q = V.1 (p2 + 3) q) ∧ (∀ q, q < 14 → W.1 (p + 4) q = V.1 (p2 + 4) q) ∧ W.1 p 5 = V.1 p2 5 ∧ W.1 p 6 = V.1 p2 6 ∧ W.1 p 7 = V.1 p2 7 ∧ (∀ q, q < 14 → W.1 (p + 5) q = V.1 (p2 + 5) q) ∧ (∀ q, q < 14 → W.1 (p + 6) q = V.1 (p2 + 6) q) ∧ W.1 p 10 = V.1 p2 10 ∧ W.2 p 11 = V.2 p2 11 ∧ W.1 p 12 = V.1 p2 12 ∧ (∀ q, q < 4 → W.1 (p + 7) q = V.1 (p2 + 7) q) ∧ W.1 p 14 = V.1 p2 14 ∧ (∀ q, q < 6 → W.1 (p + 8) q = V.1 (p2 + 8) q) ∧ (∀ q, q < 6 → W.1 (p + 9) q = V.1 (p2 + 9) q)) (x : XL (V.1 p2) (V.1 (p2 + 1)) (V.1 (p2 + 2)) (V.1 (p2 + 3)) (V.1 (p2 + 4)) (V.1 (p2 + 5)) (V.1 (p2 + 6)) (V.1 (p2 + 7)) (V.1 (p2 + 8)) (V.1 (p2 + 9)) (V.2 p2 11) s ss) (w : WF s) (h : ∀ k, k < 120 → s' k = s k) (hss : ss' = ss) : XL (W.1 p) (W.1 (p + 1)) (W.1 (p + 2)) (W.1 (p + 3)) (W.1 (p + 4)) (W.1 (p + 5)) (W.1 (p + 6)) (W.1 (p + 7)) (W.1 (p + 8)) (W.1 (p + 9)) (W.2 p 11) s' ss' := by
  obtain ⟨d1, d2, d3, d4, d5, d6, d7, d8, d9, d10, d11, d12, d13, d14, d15, d16, d17⟩ := hb
  exact xl_row x w h d12 hss ⟨d1, d6, d7, d8, d11, d13, d15⟩ (fun k hk => ⟨d2 k hk, d3 k hk, d4 k hk, d5 k hk, d9 k hk, d10 k hk⟩) d14 (fun k hk => ⟨d16 k hk, d17 k hk⟩)
theorem op_image_ok : op_image Rel := by
  intro V U h
  obtain ⟨h1, h2, h3, h4, h5, h6⟩ := h
  obtain ⟨W, b1, b2, b3, b4⟩ := x_become 11 1 V (by omega)
  obtain ⟨U', m1, m2, m3, m4, m5, m6, m7, m8⟩ := m_image U
  have z : ∀ j, j ≠ 0 → (jsI W 0 7 1).1 j = W.1 j := fun j hj => by rw [s1_eq, if_neg hj]
  refine ⟨1, jsI W 0 7 1, U', ?_, m1, ?_, ?_, ?_, ?_, ?_, ?_⟩
  · unfold mX4_image
    rw [b1]; rfl
  · exact ReL_fr h1 (fun j _ _ => by rw [z j (by omega), b2 j (by omega)]) (by rw [s1_2, b3 1 (by omega)]) (m5 1 (by omega) (by omega)) m7
  · refine ⟨?_, .inr m3, fun _ => ⟨?_, wf_row m2 h1.2⟩⟩
    · rw [m3, s1_at, if_pos ⟨rfl, rfl⟩]
    · rw [z 11 (by omega), z 12 (by omega), z 13 (by omega), z 14 (by omega), z 15 (by omega), z 16 (by omega), z 17 (by omega), z 18 (by omega), z 19 (by omega), z 20 (by omega), s1_2]
      exact xl_become (p := 11) (p2 := 1) b4 h1.1 h1.2 m2 m6
  · exact ReT_fr h3 (by rw [z 36 (by omega), b2 36 (by omega)]) (by rw [z 37 (by omega), b2 37 (by omega)]) (m4 8 (by omega)) (m5 5 (by omega) (by omega))
  · exact ReF_fr h4 (by rw [z 47 (by omega), b2 47 (by omega)]) (m5 4 (by omega) (by omega))
  · exact ReS_fr h5 (fun j _ _ => by rw [z j (by omega), b2 j (by omega)]) (fun j _ _ => by rw [s1_2, b3 j (by omega)]) (m5 6 (by omega) (by omega)) (m5 7 (by omega) (by omega)) (m8 8 (by omega) ▸ rfl)
  · exact ReW_fr h6 (m5 11 (by omega) (by omega))
theorem op_undo_ok : op_undo Rel := by
  intro V U h
  obtain ⟨V4, U4, e3, e4, h4'⟩ := ref_of (-1000000004) 3 (by omega) (by decide) h
  obtain ⟨h1, h2, h3, h4, h5, h6⟩ := h
  rcases h2.2.1 with z0 | z1
  · unfold mX4_undo mX5_undo
    rw [h2.1, if_pos z0, if_pos z0, e3, e4]
    exact ⟨_, V4, U4, rfl, rfl, h4'⟩
  · obtain ⟨k1, k2⟩ := h2.2.2 z1
    obtain ⟨W, b1, b2, b3, b4⟩ := x_become 1 11 V (by omega)
    have hne : ¬ U.1 0 5 = 0 := by rw [z1]; exact g_10
    obtain ⟨U', m1, m2, m3, m4, m5, m6⟩ := m_undo U hne
    have hx := xl_become (p := 1) (p2 := 11) (s' := U'.1 1) (ss' := U'.2 0 3) b4 k1 k2 m2 m4
    refine ⟨U.1 2 0, W, U', ?_, m1, ⟨hx, wf_row m2 k2⟩, ?_, ?_, ?_, ?_, ?_⟩
    · unfold mX4_undo
      rw [h2.1, if_neg hne, b1, Option.bind_some, hx.1, m2 0 (by omega)]
    · exact ReK_fr h2 (by rw [b2 0 (by omega)]) (fun j _ _ => b2 j (by omega)) (by rw [b3 11 (by omega)]) (m3 2 (by omega)) m5 (by rw [m3 0 (by omega)])
    · exact ReT_fr h3 (by rw [b2 36 (by omega)]) (b2 37 (by omega)) (by rw [m3 0 (by omega)]) (m3 5 (by omega))
    · exact ReF_fr h4 (b2 47 (by omega)) (m3 4 (by omega))
    · exact ReS_fr h5 (fun j _ _ => b2 j (by omega)) (fun j _ _ => b3 j (by omega)) (m3 6 (by omega)) (m3 7 (by omega)) (m6 8 (by omega))
    · exact ReW_fr h6 (m3 11 (by omega))
end ON
