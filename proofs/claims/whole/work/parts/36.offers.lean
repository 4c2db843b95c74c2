/-! offers -/
section OK1
variable {V U V' U' : jMem}
theorem l_nat {w : Int64} (h1 : ¬ w < 0) {n : Nat} (hn : n < 2 ^ 31) (h2 : w < Int32.toInt64 (nI n)) : ∃ f, f < n ∧ w = Int32.toInt64 (nI f) ∧ Int64.toInt32 w = nI f := by
  obtain ⟨k, hk, rfl⟩ := pk_lOf h1
  rw [nI_l hn, pk_lLT hk (by omega)] at h2
  refine ⟨k, h2, (nI_l (by omega)).symm, ?_⟩
  rw [← nI_l (show k < 2 ^ 31 by omega)]
  exact Int32.toInt32_toInt64 _
theorem f_told (h : Rel V U) (w : Int64) : (mX0_fieldTold w V = -1 ∧ mX5_isField w U = 0) ∨ ∃ f, f < gN (U.1 1) ∧ mX0_fieldTold w V = nI f ∧ mX5_isField w U = 1 ∧ Int64.toInt32 w = nI f := by
  obtain ⟨n1, n2, n3⟩ := h.n
  unfold mX0_fieldTold mX5_isField
  rw [n1, n2]
  by_cases z1 : lg_cmp w 0 < 0
  · left; rw [if_pos z1, if_pos z1]; exact ⟨rfl, rfl⟩
  · by_cases z2 : 0 ≤ lg_cmp w (Int32.toInt64 (nI (gN (U.1 1))))
    · left; rw [if_neg z1, if_neg z1, if_pos z2, if_pos z2]; exact ⟨rfl, rfl⟩
    · right
      rw [if_neg z1, if_neg z1, if_neg z2, if_neg z2]
      rw [lg_cmp_lt] at z1
      rw [lg_cmp_ge] at z2
      have z3 : w < Int32.toInt64 (nI (gN (U.1 1))) := by
        rw [Int64.lt_iff_toInt_lt]; rw [Int64.le_iff_toInt_le] at z2; omega
      obtain ⟨f, hf, e1, e2⟩ := l_nat z1 (by omega) z3
      exact ⟨f, hf, e2, rfl, e2⟩
theorem f_price (w : Int64) : ((lg_cmp w 0 < 0 ∨ 0 < lg_cmp w 99999) ∧ mX5_isIn w 0 99999 = 0) ∨ (¬ lg_cmp w 0 < 0 ∧ ¬ 0 < lg_cmp w 99999 ∧ mX5_isIn w 0 99999 = 1 ∧ ∃ p, p ≤ 99999 ∧ Int64.toInt32 w = nI p) := by
  unfold mX5_isIn
  by_cases z1 : lg_cmp w 0 < 0
  · left; rw [if_pos z1]; exact ⟨.inl z1, rfl⟩
  · by_cases z2 : 0 < lg_cmp w 99999
    · left; rw [if_neg z1, if_pos z2]; exact ⟨.inr z2, rfl⟩
    · right
      rw [if_neg z1, if_neg z2]
      refine ⟨z1, z2, rfl, ?_⟩
      rw [lg_cmp_lt] at z1
      rw [lg_cmp_gt] at z2
      have z3 : w < Int32.toInt64 (nI 100000) := by
        rw [Int64.lt_iff_toInt_lt]; rw [Int64.lt_iff_toInt_lt] at z2
        have q1 : (99999 : Int64).toInt = 99999 := by decide
        have q2 : (Int32.toInt64 (nI 100000)).toInt = 100000 := by decide
        omega
      obtain ⟨f, hf, e1, e2⟩ := l_nat z1 (by omega) z3
      exact ⟨f, by omega, e2⟩
theorem i00 : ((0 : Int32) = 0) = True := eq_true rfl
theorem offers_loop {i : Nat} (hi : i < 4) : ∀ (m k n : Nat) (c : Int32) (V U : jMem), Rel V U → 41 ≤ k + m → k ≤ 100 → m < n → ∃ (r : Int32) (V' U' : jMem), mX4_offers_b29 n i c (nI k) V = some (r, V') ∧ mX5_offers_b34 n (nI i) c (nI k) U = some (r, U') ∧ Rel V' U' := by
  intro m
  induction m with
  | zero =>
    intro k n c V U h hk hk2 hn
    obtain ⟨n, rfl⟩ : ∃ n', n = n' + 1 := ⟨n - 1, by omega⟩
    obtain ⟨r1, r2, r3, r4⟩ := s_row h hi
    have hz : U.1 7 i ≤ nI k + 1 := by rw [r2, nI_1]; exact nI_le (by omega) (by omega)
    unfold mX4_offers_b29 mX5_offers_b34
    rw [g_jin hi (by omega), jg_t, g_cl (show i < 2 ^ 31 by omega), r1, if_pos hz, if_pos hz]
    exact ⟨_, V, U, rfl, rfl, h⟩
  | succ m ih =>
    intro k n c V U h hk hk2 hn
    obtain ⟨n, rfl⟩ : ∃ n', n = n' + 1 := ⟨n - 1, by omega⟩
    obtain ⟨r1, r2, r3, r4⟩ := s_row h hi
    by_cases hz : U.1 7 i ≤ nI k + 1
    · unfold mX4_offers_b29 mX5_offers_b34
      rw [g_jin hi (by omega), jg_t, g_cl (show i < 2 ^ 31 by omega), r1, if_pos hz, if_pos hz]
      exact ⟨_, V, U, rfl, rfl, h⟩
    · have hk4 : k + 1 < nn (U.1 7 i) := by
        rcases Nat.lt_or_ge (k + 1) (nn (U.1 7 i)) with z | z
        · exact z
        · exact absurd (by rw [r2, nI_1]; exact nI_le z (by omega)) hz
      have hi1 : nI (40 * i + k) + 1 = nI (40 * i + (k + 1)) := nI_1 _
      have e2 : nI k + 2 = nI (k + 2) := nI_add k 2
      have go := ih (k + 2) n c V U h (by omega) (by omega) (by omega)
      unfold mX4_offers_b29 mX5_offers_b34
      rw [g_jin hi (by omega), jg_t, g_cl (show i < 2 ^ 31 by omega), r1, if_neg hz, if_neg hz, g_ix40, hi1, nI_1, g_jin (show k < 40 by omega) (by omega), g_jin (show k + 1 < 40 by omega) (by omega), g_jin (show 40 * i + k < 160 by omega) (by omega), g_jin (show 40 * i + (k + 1) < 160 by omega) (by omega)]
      simp only [jg_t, jl_eq, g_cl (show k < 2 ^ 31 by omega), g_cl (show k + 1 < 2 ^ 31 by omega), g_cl (show 40 * i + k < 2 ^ 31 by omega), g_cl (show 40 * i + (k + 1) < 2 ^ 31 by omega)]
      rw [r4 k (by omega), r4 (k + 1) (by omega)]
      unfold mX4_offers_b104 mX4_offers_b105 mX4_offers_b130 mX5_offers_b124 mX5_offers_b126
      generalize U.2 8 (40 * i + k) = w
      generalize U.2 8 (40 * i + (k + 1)) = p
      rw [e2]
      rcases f_told h w with ⟨t1, t2⟩ | ⟨f, hf, t1, t2, t3⟩
      · rw [t1, t2, if_pos (by decide), if_pos rfl, if_pos rfl]
        exact go
      · have hn14 := h.n.2.2
        rw [t1, t2, t3, if_neg (nI_pos (show f < 2 ^ 31 by omega)), if_neg g_10, m_isFree h.wf hf, Option.bind_some, x_isFree h.xv h.wf hf]
        rcases f_price p with ⟨p1, p2⟩ | ⟨p1, p2, p3, q, hq, p4⟩
        · simp only [p2, i00, ite_true]
          have : ∀ (A B C : Option (Int32 × jMem)), A = B → (if lg_cmp p 0 < 0 then A else if 0 < lg_cmp p 99999 then A else if (if pFree (U.1 1) f = true then (1 : Int32) else 0) = 0 then B else C) = A := by
            intro A B C hab
            rcases p1 with z | z
            · rw [if_pos z]
            · by_cases z2 : lg_cmp p 0 < 0
              · rw [if_pos z2]
              · rw [if_neg z2, if_pos z]
          rw [this _ _ _ rfl]
          have : ∀ (A : Option (Int32 × jMem)), (if (if pFree (U.1 1) f = true then (1 : Int32) else 0) = 0 then A else A) = A := fun A => by split <;> rfl
          rw [this]
          exact go
        · rw [p3, if_neg p1, if_neg p2, if_neg g_10, p4]
          by_cases hfree : pFree (U.1 1) f = true
          · rw [if_pos hfree, if_neg g_10, if_neg g_10, if_neg g_10]
            obtain ⟨r, V2, U2, hr, b1, b2, b3⟩ := bid_ok h hf hfree hq
            rw [b1, b2, Option.bind_some, Option.bind_some]
            rcases hr with rfl | rfl
            · rw [if_pos rfl, if_pos rfl, Int32.add_zero]
              exact ih (k + 2) n c V2 U2 b3 (by omega) (by omega) (by omega)
            · rw [if_neg g_10, if_neg g_10]
              exact ih (k + 2) n (c + 1) V2 U2 b3 (by omega) (by omega) (by omega)
          · rw [if_neg hfree, if_pos rfl, if_pos rfl, if_pos rfl]
            exact go
theorem op_offers_ok : op_offers Rel := by
  intro a1 V U h
  obtain ⟨V1, U1, e1, e2, h1⟩ := ref_of (-1000000001) 0 (by omega) (by decide) h
  obtain ⟨V6, U6, e3, e4, h6⟩ := ref_of (-1000000006) 5 (by omega) (by decide) h
  unfold mX4_offers mX5_offers
  rcases s_ix a1 with ⟨c1, c2⟩ | ⟨i, hi, rfl, c1, c2⟩
  · have : mX4_sheetFault a1 V = some (-1000000001) := by unfold mX4_sheetFault; rw [if_pos c1]
    rw [this, Option.bind_some, if_neg (by decide), if_pos c2, e1, e2]
    exact ⟨_, V1, U1, rfl, rfl, h1⟩
  · rw [c2, if_neg g_10, g_jin hi (by omega), jg_t, jg_t, g_cl (by omega)]
    rcases s_fault h hi with ⟨f1, f2⟩ | ⟨f1, f2, f3, f4⟩
    · rw [f2, Option.bind_some, if_neg (by decide), f1, if_neg (by decide), e3, e4]
      exact ⟨_, V6, U6, rfl, rfl, h6⟩
    · rw [f4, Option.bind_some, if_pos rfl, if_pos f3]
      exact offers_loop hi 41 0 2000 0 V U h (by omega) (by omega) (by omega)
end OK1
