/-! copy -/
section CO
variable {V U V' U' : jMem}
theorem i_nat {a : Int32} (h : ¬ a < 0) : ∃ k, k < 2 ^ 31 ∧ a = nI k := by
  obtain ⟨k, hk, e⟩ := nI_of2 (x := a) (M := 2147483647) (n := 2147483647) (by decide) h (by
    rw [Int32.le_iff_toInt_le]
    have h1 := Int32.toInt_lt a
    have h2 : (2147483647 : Int32).toInt = 2147483647 := by decide
    omega)
  exact ⟨k, by omega, e⟩
theorem i_sub {a b c : Nat} (ha : a < 2 ^ 30) (hb : b < 2 ^ 31) (hc : c < 2 ^ 31) : (nI a - nI b < nI c) ↔ a < b + c := by
  have e : (nI a - nI b).toInt = (a : Int) - b := by
    rw [Int32.toInt_sub, nI_toInt (by omega), nI_toInt hb, Int.bmod_def]
    split <;> omega
  rw [Int32.lt_iff_toInt_lt, e, nI_toInt hc]
  omega
theorem m_cp {a b k : Nat} (ha : a + k ≤ 160) (hb : b + k ≤ 160) (hk : k ≤ 40) (U : jMem) : ∃ U', mX5_copy_b136 2000 (nI k) (nI a) (nI b) 0 U = some (nI k, U') ∧ U'.1 = U.1 ∧ (∀ j, j ≠ 8 → U'.2 j = U.2 j) ∧ (∀ q, U'.2 8 q = if b ≤ q ∧ q < b + k then U.2 8 (a + (q - b)) else U.2 8 q) := by
  have hle : (nI b ≤ nI a) ↔ b ≤ a := nI_leI (by omega) (by omega)
  by_cases z : b ≤ a
  · have key : ∀ d c n (W : jMem), c + d = k → d < n → (∀ q, W.2 8 q = if b ≤ q ∧ q < b + c then U.2 8 (a + (q - b)) else U.2 8 q) → W.1 = U.1 → (∀ j, j ≠ 8 → W.2 j = U.2 j) → ∃ U', mX5_copy_b136 n (nI k) (nI a) (nI b) (nI c) W = some (nI k, U') ∧ U'.1 = U.1 ∧ (∀ j, j ≠ 8 → U'.2 j = U.2 j) ∧ (∀ q, U'.2 8 q = if b ≤ q ∧ q < b + k then U.2 8 (a + (q - b)) else U.2 8 q) := by
      intro d
      induction d with
      | zero =>
        intro c n W hc hn h1 h2 h3
        obtain ⟨n, rfl⟩ : ∃ n', n = n' + 1 := ⟨n - 1, by omega⟩
        obtain rfl : c = k := by omega
        unfold mX5_copy_b136
        rw [if_pos (nI_le (Nat.le_refl _) (by omega))]
        exact ⟨W, rfl, h2, h3, h1⟩
      | succ d ih =>
        intro c n W hc hn h1 h2 h3
        obtain ⟨n, rfl⟩ : ∃ n', n = n' + 1 := ⟨n - 1, by omega⟩
        unfold mX5_copy_b136 mX5_copy_b162
        rw [if_neg (nI_ge (show c < k by omega) (by omega)), if_pos (hle.mpr z), nI_add, nI_add, g_jin (show a + c < 160 by omega) (by omega), g_jin (show b + c < 160 by omega) (by omega), jg_t, jg_t, jl_eq, g_cl (show a + c < 2 ^ 31 by omega), g_cl (show b + c < 2 ^ 31 by omega), nI_1]
        refine ih (c + 1) n _ (by omega) (by omega) (fun q => ?_) h2 (fun j hj => by rw [s2_eq, if_neg hj, h3 j hj])
        rw [s2_eq, if_pos rfl, uL_eq, h1, h1 q, if_neg (show ¬ (b ≤ a + c ∧ a + c < b + c) by omega)]
        by_cases e : q = b + c
        · rw [if_pos e, if_pos (by omega), show a + (q - b) = a + c by omega]
        · rw [if_neg e]
          by_cases e2 : b ≤ q ∧ q < b + c
          · rw [if_pos e2, if_pos (by omega)]
          · rw [if_neg e2, if_neg (by omega)]
    exact key k 0 2000 U (by omega) (by omega) (fun q => by rw [if_neg (by omega)]) rfl (fun _ _ => rfl)
  · have key : ∀ d c n (W : jMem), c + d = k → d < n → (∀ q, W.2 8 q = if b + k ≤ q + c ∧ q < b + k then U.2 8 (a + (q - b)) else U.2 8 q) → W.1 = U.1 → (∀ j, j ≠ 8 → W.2 j = U.2 j) → ∃ U', mX5_copy_b136 n (nI k) (nI a) (nI b) (nI c) W = some (nI k, U') ∧ U'.1 = U.1 ∧ (∀ j, j ≠ 8 → U'.2 j = U.2 j) ∧ (∀ q, U'.2 8 q = if b ≤ q ∧ q < b + k then U.2 8 (a + (q - b)) else U.2 8 q) := by
      intro d
      induction d with
      | zero =>
        intro c n W hc hn h1 h2 h3
        obtain ⟨n, rfl⟩ : ∃ n', n = n' + 1 := ⟨n - 1, by omega⟩
        obtain rfl : c = k := by omega
        unfold mX5_copy_b136
        rw [if_pos (nI_le (Nat.le_refl _) (by omega))]
        refine ⟨W, rfl, h2, h3, fun q => ?_⟩
        rw [h1]
        by_cases e : b ≤ q ∧ q < b + c
        · rw [if_pos e, if_pos (by omega)]
        · rw [if_neg e, if_neg (by omega)]
      | succ d ih =>
        intro c n W hc hn h1 h2 h3
        obtain ⟨n, rfl⟩ : ∃ n', n = n' + 1 := ⟨n - 1, by omega⟩
        have es : nI k - 1 - nI c = nI (k - 1 - c) := by
          rw [show nI k - 1 = nI (k - 1) from pk_sub (b := 1) (by omega), pk_sub (by omega)]
        unfold mX5_copy_b136 mX5_copy_b162
        rw [if_neg (nI_ge (show c < k by omega) (by omega)), if_neg (fun y => z (hle.mp y)), es, nI_add, nI_add, g_jin (show a + (k - 1 - c) < 160 by omega) (by omega), g_jin (show b + (k - 1 - c) < 160 by omega) (by omega), jg_t, jg_t, jl_eq, g_cl (show a + (k - 1 - c) < 2 ^ 31 by omega), g_cl (show b + (k - 1 - c) < 2 ^ 31 by omega), nI_1]
        refine ih (c + 1) n _ (by omega) (by omega) (fun q => ?_) h2 (fun j hj => by rw [s2_eq, if_neg hj, h3 j hj])
        rw [s2_eq, if_pos rfl, uL_eq, h1, h1 q, if_neg (show ¬ (b + k ≤ a + (k - 1 - c) + c ∧ a + (k - 1 - c) < b + k) by omega)]
        by_cases e : q = b + (k - 1 - c)
        · rw [if_pos e, if_pos (by omega), show a + (q - b) = a + (k - 1 - c) by omega]
        · rw [if_neg e]
          by_cases e2 : b + k ≤ q + c ∧ q < b + k
          · rw [if_pos e2, if_pos (by omega)]
          · rw [if_neg e2, if_neg (by omega)]
    exact key k 0 2000 U (by omega) (by omega) (fun q => by rw [if_neg (by omega)]) rfl (fun _ _ => rfl)
theorem copy_ok (h : Rel V U) {i j f t k : Nat} (hi : i < 4) (hj : j < 4) (hf : f + k ≤ 40) (ht : t + k ≤ 40) (h1 : U'.1 = U.1) (h2 : ∀ j, j ≠ 8 → U'.2 j = U.2 j) (h3 : ∀ q, U'.2 8 q = if 40 * j + t ≤ q ∧ q < 40 * j + t + k then U.2 8 (40 * i + f + (q - (40 * j + t))) else U.2 8 q) : Rel (jsB V (39 + 2 * j + 1) (va_cpy (V.2 (39 + 2 * i + 1)) (V.2 (39 + 2 * j + 1)) f t k)) U' := by
  refine Rel_sheet h ?_ (fun _ _ => rfl) (fun a ha => by rw [sB_eq, if_neg (by omega)]) (fun a _ _ => by rw [h1]) h2
  intro a ha
  obtain ⟨g1, g2, g3, g4⟩ := h.2.2.2.2.1 a ha
  obtain ⟨-, -, -, r4⟩ := s_row h hi
  rw [h1]
  refine ⟨g1, g2, g3, fun p hp => ?_⟩
  show (jsB V (39 + 2 * j + 1) (va_cpy (V.2 (39 + 2 * i + 1)) (V.2 (39 + 2 * j + 1)) f t k)).2 (40 + 2 * a) p = U'.2 8 (40 * a + p)
  rw [sB_eq, h3]
  by_cases e : a = j
  · subst e
    rw [if_pos (by omega)]
    by_cases e2 : t ≤ p ∧ p < t + k
    · rw [pk_cpy_in e2.1 e2.2, if_pos (by omega), r4 _ (by omega), show 40 * i + f + (40 * a + p - (40 * a + t)) = 40 * i + (f + (p - t)) by omega]
    · rw [pk_cpy_out (by omega), if_neg (by omega), show 39 + 2 * a + 1 = 40 + 2 * a by omega]
      exact g4 p hp
  · rw [if_neg (by omega), if_neg (by omega)]
    exact g4 p hp
theorem op_copy_ok : op_copy Rel := by
  intro a1 a2 a3 a4 a5 V U h
  obtain ⟨V1, U1, e1, e2, h1⟩ := ref_of (-1000000001) 0 (by omega) (by decide) h
  obtain ⟨V3, U3, e3, e4, h3⟩ := ref_of (-1000000003) 2 (by omega) (by decide) h
  obtain ⟨V6, U6, e5, e6, h6⟩ := ref_of (-1000000006) 5 (by omega) (by decide) h
  have x14 : mX4_copy_b14 V = some (-1000000001, V1) := by unfold mX4_copy_b14; rw [e1]; rfl
  have x104 : mX4_copy_b104 V = some (-1000000001, V1) := by unfold mX4_copy_b104; rw [e1]; rfl
  have x53 : mX4_copy_b53 V = some (-1000000006, V6) := by unfold mX4_copy_b53; rw [e5]; rfl
  have m14 : mX5_copy_b14 U = some (-1000000001, U1) := by unfold mX5_copy_b14; rw [e2]; rfl
  have m109 : mX5_copy_b109 U = some (-1000000001, U1) := by unfold mX5_copy_b109; rw [e2]; rfl
  have m39 : mX5_copy_b39 U = some (-1000000006, U6) := by unfold mX5_copy_b39; rw [e6]; rfl
  unfold mX4_copy mX5_copy
  rw [x14, x104, x53, m14, m109, m39]
  rcases s_ix a1 with ⟨c1, c2⟩ | ⟨i, hi, rfl, c1, c2⟩
  · rw [if_pos c1, if_pos c2]; exact ⟨_, V1, U1, rfl, rfl, h1⟩
  rw [c1, c2, if_neg g_10, if_neg g_10]
  rcases s_ix a3 with ⟨c3, c4⟩ | ⟨j, hj, rfl, c3, c4⟩
  · rw [if_pos c3, if_pos c4]; exact ⟨_, V1, U1, rfl, rfl, h1⟩
  rw [c3, c4, if_neg g_10, if_neg g_10, g_jin hi (by omega), g_jin hj (by omega), jg_t, jg_t, jg_t, jg_t, g_cl (show i < 2 ^ 31 by omega), g_cl (show j < 2 ^ 31 by omega)]
  obtain ⟨r1, r2, r3, r4⟩ := s_row h hi
  obtain ⟨q1, q2, q3, q4⟩ := s_row h hj
  have kn : ∀ x : Int32, (x = 8 ∨ x = 16 ∨ x = 64) → ¬ x < 0 ∧ (0 : Int32) ≤ x ∧ ¬ x = 0 := by
    intro x hx
    rcases hx with rfl | rfl | rfl <;> decide
  have mi0 : ∀ x : Int32, x = 0 → ¬ ((if x = 0 then (1 : Int32) else 0) = 0) := by
    intro x hx; rw [if_pos hx]; exact g_10
  have mi1 : ∀ x : Int32, ¬ x = 0 → (if x = 0 then (1 : Int32) else 0) = 0 := by
    intro x hx; rw [if_neg hx]
  unfold mX2_isMissing
  rcases s_fault h hi with ⟨f1, -⟩ | ⟨f1, f2, f3, -⟩
  · have o0 : V.1 (39 + 2 * i) 0 = 0 := by
      rcases (h.2.2.2.2.1 i hi).1 with e | e
      · exact e.2
      · rw [f1] at e; exact absurd e.1 (by decide)
    rw [if_neg (mi0 _ o0), f1, if_pos (show (-1 : Int32) < 0 by decide)]
    exact ⟨_, V6, U6, rfl, rfl, h6⟩
  obtain ⟨n1, n2, n3⟩ := kn _ f1
  rw [if_pos (mi1 _ (by rw [f2]; exact n3)), if_neg n1]
  rcases s_fault h hj with ⟨g1, -⟩ | ⟨g1, g2, g3, -⟩
  · have o0 : V.1 (39 + 2 * j) 0 = 0 := by
      rcases (h.2.2.2.2.1 j hj).1 with e | e
      · exact e.2
      · rw [g1] at e; exact absurd e.1 (by decide)
    rw [if_neg (mi0 _ o0), g1, if_neg (show ¬ ((0 : Int32) ≤ -1) by decide)]
    exact ⟨_, V6, U6, rfl, rfl, h6⟩
  obtain ⟨l1, l2, l3⟩ := kn _ g1
  rw [if_pos (mi1 _ (by rw [g2]; exact l3)), if_pos l2, f2, g2]
  by_cases hk : U.1 6 i = U.1 6 j
  · rw [if_pos hk, if_pos hk]
    unfold mX2_holds
    rw [r1, q1]
    by_cases z2 : a2 < 0
    · rw [if_pos z2, if_pos z2, if_pos rfl]; exact ⟨_, V1, U1, rfl, rfl, h1⟩
    rw [if_neg z2, if_neg z2]
    by_cases z4 : a4 < 0
    · rw [if_pos z4, if_pos z4]
      refine ⟨-1000000001, V1, U1, ?_, rfl, h1⟩
      rw [if_pos (rfl : (0 : Int32) = 0), ite_self]
    rw [if_neg z4, if_neg z4]
    by_cases z5 : a5 < 0
    · rw [if_pos z5, if_pos rfl, if_pos z5]; exact ⟨_, V1, U1, rfl, rfl, h1⟩
    rw [if_neg z5, if_neg z5, if_neg z5]
    obtain ⟨f, hf, rfl⟩ := i_nat z2
    obtain ⟨t, ht, rfl⟩ := i_nat z4
    obtain ⟨k, hk5, rfl⟩ := i_nat z5
    generalize nn (U.1 7 i) = za at *
    generalize nn (U.1 7 j) = zb at *
    rw [r2, q2]
    have s1 : (nI za - nI k < nI f) ↔ za < k + f := i_sub (by omega) hk5 hf
    have s2 : (nI za - nI f < nI k) ↔ za < f + k := i_sub (by omega) hf hk5
    have s3 : (nI zb - nI k < nI t) ↔ zb < k + t := i_sub (by omega) hk5 ht
    have s4 : (nI k ≤ nI zb - nI t) ↔ ¬ zb < t + k := by
      rw [← i_sub (by omega) ht hk5, i_nlt]
    by_cases w1 : za < f + k
    · rw [if_pos (s2.mpr w1), if_pos (s1.mpr (by omega)), if_pos rfl]; exact ⟨_, V1, U1, rfl, rfl, h1⟩
    rw [if_neg (show ¬ nI za - nI f < nI k from fun y => w1 (s2.mp y)), if_neg (show ¬ nI za - nI k < nI f from fun y => w1 (by have := s1.mp y; omega)), if_neg g_10]
    by_cases w2 : zb < t + k
    · rw [if_pos (s3.mpr (by omega)), if_pos rfl, if_neg (show ¬ nI k ≤ nI zb - nI t from fun y => s4.mp y w2)]; exact ⟨_, V1, U1, rfl, rfl, h1⟩
    rw [if_neg (show ¬ nI zb - nI k < nI t from fun y => w2 (by have := s3.mp y; omega)), if_neg g_10, if_pos (s4.mpr w2)]
    have j1 : jnn (nI f) = true := decide_eq_true z2
    have j2 : jnn (nI t) = true := decide_eq_true z4
    have j3 : jnn (nI k) = true := decide_eq_true z5
    have j4 : jle (nI f) (nI k) 40 = true := by
      unfold jle; rw [g_cl hf, g_cl hk5]; exact decide_eq_true (by omega)
    have j5 : jle (nI t) (nI k) 40 = true := by
      unfold jle; rw [g_cl ht, g_cl hk5]; exact decide_eq_true (by omega)
    obtain ⟨U', p1, p2, p3, p4⟩ := m_cp (a := 40 * i + f) (b := 40 * j + t) (k := k) (by omega) (by omega) (by omega) U
    rw [j1, j2, j3, j4, j5, jg_t, jg_t, jg_t, jg_t, jg_t, jl_eq, g_cl hf, g_cl ht, g_cl hk5, g_ix40, g_ix40, p1]
    exact ⟨nI k, _, U', rfl, rfl, copy_ok h hi hj (by omega) (by omega) p2 p3 p4⟩
  · rw [if_neg hk, if_neg hk, e3, e4]
    exact ⟨_, V3, U3, rfl, rfl, h3⟩
end CO
