/-! sheets -/
section OI
variable {V U V' U' : jMem}
theorem Rel_sheet (h : Rel V U) (hs : ReS V' U') (a : ∀ j, (j < 39 ∨ j = 47) → V'.1 j = V.1 j) (b : ∀ j, j < 39 → V'.2 j = V.2 j) (c : ∀ j, j ≠ 6 → j ≠ 7 → U'.1 j = U.1 j) (d : ∀ j, j ≠ 8 → U'.2 j = U.2 j) : Rel V' U' := by
  obtain ⟨h1, h2, h3, h4, -, h6⟩ := h
  have a0 : V'.1 0 = V.1 0 := a 0 (by omega)
  have c0 : U'.1 0 = U.1 0 := c 0 (by omega) (by omega)
  have d0 : U'.2 0 = U.2 0 := d 0 (by omega)
  exact ⟨ReL_fr h1 (fun j _ _ => a j (by omega)) (by rw [b 1 (by omega)]) (c 1 (by omega) (by omega)) (by rw [d0]), ReK_fr h2 (by rw [a0]) (fun j _ _ => a j (by omega)) (by rw [b 11 (by omega)]) (c 2 (by omega) (by omega)) (by rw [d0]) (by rw [c0]), ReT_fr h3 (by rw [a 36 (by omega)]) (a 37 (by omega)) (by rw [c0]) (c 5 (by omega) (by omega)), ReF_fr h4 (a 47 (by omega)) (c 4 (by omega) (by omega)), hs, ReW_fr h6 (c 11 (by omega) (by omega))⟩
theorem s_ix (a : Int32) : (mX4_isSheet a = 0 ∧ mX5_isSheet a = 0) ∨ ∃ i, i < 4 ∧ a = nI i ∧ mX4_isSheet a = 1 ∧ mX5_isSheet a = 1 := by
  unfold mX4_isSheet mX5_isSheet
  rcases x_within a (n := 4) (by omega) with ⟨h1, h2⟩ | ⟨j, h1, h2, h3⟩
  · left
    refine ⟨h1, ?_⟩
    by_cases h4 : a < 0
    · rw [if_pos h4]
    · rw [if_neg h4, if_pos (show (4 : Int32) ≤ a from h2.resolve_left h4)]
  · right
    refine ⟨j, h1, h2, h3, ?_⟩
    subst h2
    rw [if_neg (nI_pos (by omega)), if_neg (show ¬ ((4 : Int32) ≤ nI j) from nI_ge (b := 4) (by omega) (by omega))]
theorem s_fault (h : Rel V U) {i : Nat} (hi : i < 4) : (U.1 6 i = -1 ∧ mX4_sheetFault (nI i) V = some (-1000000006)) ∨ ((U.1 6 i = 8 ∨ U.1 6 i = 16 ∨ U.1 6 i = 64) ∧ V.1 (39 + 2 * i) 0 = U.1 6 i ∧ 0 ≤ U.1 6 i ∧ mX4_sheetFault (nI i) V = some 0) := by
  have hs := (h.2.2.2.2.1 i hi).1
  have hj : mX4_isSheet (nI i) = 1 := by
    rcases s_ix (nI i) with ⟨-, e⟩ | ⟨j, -, -, e, -⟩
    · unfold mX5_isSheet at e
      rw [if_neg (nI_pos (by omega)), if_neg (show ¬ ((4 : Int32) ≤ nI i) from nI_ge (b := 4) (by omega) (by omega))] at e
      exact absurd e g_10
    · exact e
  unfold mX4_sheetFault mX2_isMissing
  rw [hj, if_neg g_10, g_jin hi (by omega), jg_t, g_cl (by omega)]
  rcases hs with ⟨e1, e2⟩ | ⟨e1, e2⟩
  · left
    rw [e2, if_pos rfl, if_neg g_10]
    exact ⟨e1, rfl⟩
  · right
    rw [e2]
    refine ⟨e1, rfl, ?_, ?_⟩
    · rcases e1 with e | e | e <;> rw [e] <;> decide
    · rcases e1 with e | e | e <;> rw [e] <;> rfl
theorem x_fill (p : Nat) (V : jMem) : ∃ V', mJ7_fill_d0a16 p 40 0 V = some V' ∧ V'.1 = V.1 ∧ (∀ j, j ≠ p → V'.2 j = V.2 j) ∧ (∀ k, k < 40 → V'.2 p k = 0) := by
  have key : ∀ k i n (W : jMem), i + k = 40 → k < n → (∀ q, q < i → W.2 p q = 0) → ∃ V', mJ7_fill_d0a16_b6 p 40 n 0 (nI i) (nI 40) W = some V' ∧ V'.1 = W.1 ∧ (∀ j, j ≠ p → V'.2 j = W.2 j) ∧ (∀ k, k < 40 → V'.2 p k = 0) := by
    intro k
    induction k with
    | zero =>
      intro i n W hi hn hz
      obtain ⟨n, rfl⟩ : ∃ n', n = n' + 1 := ⟨n - 1, by omega⟩
      obtain rfl : i = 40 := by omega
      unfold mJ7_fill_d0a16_b6
      rw [if_pos (nI_le (by omega) (by omega))]
      exact ⟨W, rfl, rfl, fun _ _ => rfl, hz⟩
    | succ k ih =>
      intro i n W hi hn hz
      obtain ⟨n, rfl⟩ : ∃ n', n = n' + 1 := ⟨n - 1, by omega⟩
      unfold mJ7_fill_d0a16_b6
      rw [if_neg (nI_ge (show i < 40 by omega) (by omega)), g_jin (show i < 40 by omega) (by omega), jg_t, jl_eq, g_cl (by omega), nI_1]
      obtain ⟨V', r1, r2, r3, r4⟩ := ih (i + 1) n (jsL W p i 0) (by omega) (by omega) (fun q hq => by
        rw [s2_eq, if_pos rfl, uL_eq]
        by_cases e : q = i
        · rw [if_pos e]
        · rw [if_neg e]; exact hz q (by omega))
      refine ⟨V', r1, r2, fun j hj => ?_, r4⟩
      rw [r3 j hj, s2_eq, if_neg hj]
  exact key 40 0 2000 V (by omega) (by omega) (fun q hq => absurd hq (Nat.not_lt_zero _))
theorem m_fill {i : Nat} (hi : i < 4) (U : jMem) : ∃ U', mX5_sheet_b93 2000 (nI i) 0 U = some (U.1 7 i, U') ∧ U'.1 = U.1 ∧ (∀ j, j ≠ 8 → U'.2 j = U.2 j) ∧ (∀ q, U'.2 8 q = if 40 * i ≤ q ∧ q < 40 * i + 40 then 0 else U.2 8 q) := by
  have key : ∀ k c n (W : jMem), c + k = 40 → k < n → (∀ q, W.2 8 q = if 40 * i ≤ q ∧ q < 40 * i + c then 0 else U.2 8 q) → W.1 = U.1 → (∀ j, j ≠ 8 → W.2 j = U.2 j) → ∃ U', mX5_sheet_b93 n (nI i) (nI c) W = some (U.1 7 i, U') ∧ U'.1 = U.1 ∧ (∀ j, j ≠ 8 → U'.2 j = U.2 j) ∧ (∀ q, U'.2 8 q = if 40 * i ≤ q ∧ q < 40 * i + 40 then 0 else U.2 8 q) := by
    intro k
    induction k with
    | zero =>
      intro c n W hc hn hz h1 h2
      obtain ⟨n, rfl⟩ : ∃ n', n = n' + 1 := ⟨n - 1, by omega⟩
      obtain rfl : c = 40 := by omega
      unfold mX5_sheet_b93
      rw [if_pos (show (40 : Int32) ≤ nI 40 by decide), g_jin hi (by omega), jg_t, g_cl (by omega), h1]
      exact ⟨W, rfl, h1, h2, hz⟩
    | succ k ih =>
      intro c n W hc hn hz h1 h2
      obtain ⟨n, rfl⟩ : ∃ n', n = n' + 1 := ⟨n - 1, by omega⟩
      have ei : (40 : Int32) * nI i + nI c = nI (40 * i + c) := by
        show nI 40 * nI i + nI c = _
        rw [pk_mul, nI_add]
      unfold mX5_sheet_b93
      rw [if_neg (show ¬ ((40 : Int32) ≤ nI c) from nI_ge (b := 40) (by omega) (by omega)), ei, g_jin (show 40 * i + c < 160 by omega) (by omega), jg_t, jl_eq, g_cl (by omega), nI_1]
      refine ih (c + 1) n _ (by omega) (by omega) (fun q => ?_) h1 (fun j hj => ?_)
      · rw [s2_eq, if_pos rfl, uL_eq, hz]
        by_cases e : q = 40 * i + c
        · rw [if_pos e, if_pos (by omega)]
        · rw [if_neg e]
          by_cases e2 : 40 * i ≤ q ∧ q < 40 * i + c
          · rw [if_pos e2, if_pos (by omega)]
          · rw [if_neg e2, if_neg (by omega)]
      · rw [s2_eq, if_neg hj, h2 j hj]
  exact key 40 0 2000 U (by omega) (by omega) (fun q => by rw [if_neg (by omega)]) rfl (fun j hj => rfl)
theorem sheet36_ok (h : Rel V U) {i : Nat} (hi : i < 4) {a2 : Int32} (ha : a2 = 0 ∨ a2 = 8 ∨ a2 = 16 ∨ a2 = 64) (a3 : Int32) : ∃ (r : Int32) (V' U' : jMem), mX4_sheet_b36 (nI i) a2 a3 V = some (r, V') ∧ mX5_sheet_b36 (nI i) a2 a3 U = some (r, U') ∧ Rel V' U' := by
  obtain ⟨V1, U1, e1, e2, h1⟩ := ref_of (-1000000001) 0 (by omega) (by decide) h
  obtain ⟨V7, U7, e3, e4, h7⟩ := ref_of (-1000000007) 6 (by omega) (by decide) h
  unfold mX4_sheet_b36 mX5_sheet_b36
  by_cases z1 : 0 ≤ a3
  · rw [if_pos z1, if_pos z1]
    by_cases z2 : a3 ≤ 40
    · rw [if_pos z2, if_pos z2, g_jin hi (by omega), jg_t, g_cl (by omega)]
      have z3 : ¬ a3 < 0 := by rw [Int32.lt_iff_toInt_lt]; rw [Int32.le_iff_toInt_le] at z1; omega
      obtain ⟨c, hc, rfl⟩ := nI_of2 (n := 40) (M := 40) (by decide) z3 z2
      have main : ∀ (s0 b0 : Int32), isN s0 40 → (b0 = -1 ∧ a2 = 0 ∨ (b0 = 8 ∨ b0 = 16 ∨ b0 = 64) ∧ a2 = b0) → ∃ (r : Int32) (V' U' : jMem), ((mX2_lay_b15 i s0 (jsI V (39 + 2 * i) 0 a2)).bind (fun p4 => some (p4.1 (39 + 2 * i) 1, p4))) = some (r, V') ∧ mX5_sheet_b89 (nI i) s0 (nI i) (jsI U 6 i b0) = some (r, U') ∧ Rel V' U' := by
        intro s0 b0 hs0 hb
        unfold mX2_lay_b15 mX5_sheet_b89
        obtain ⟨V', r1, r2, r3, r4⟩ := x_fill (39 + 2 * i + 1) (jsI (jsI V (39 + 2 * i) 0 a2) (39 + 2 * i) 1 s0)
        obtain ⟨U', y1, y2, y3, y4⟩ := m_fill hi (jsI (jsI U 6 i b0) 7 i s0)
        rw [g_jin hi (by omega), jg_t, g_cl (by omega), jl_eq, jl_eq, r1, Option.bind_some, Option.bind_some, y1]
        refine ⟨s0, V', U', ?_, ?_, ?_⟩
        · rw [r2, s1_at, if_pos ⟨rfl, rfl⟩]
        · rw [s1_at, if_pos ⟨rfl, rfl⟩]
        · refine Rel_sheet h ?_ (fun j hj => ?_) (fun j hj => ?_) (fun j q1 q2 => ?_) (fun j hj => ?_)
          · intro j hj
            have hold := h.2.2.2.2.1 j hj
            by_cases e : j = i
            · subst e
              refine ⟨?_, ?_, ?_, ?_⟩
              · rw [r2, y2, s1_at, if_neg (by omega), s1_at, if_pos ⟨rfl, rfl⟩, s1_at, if_neg (by omega), s1_at, if_pos ⟨rfl, rfl⟩]
                exact hb
              · rw [r2, y2, s1_at, if_pos ⟨rfl, rfl⟩, s1_at, if_pos ⟨rfl, rfl⟩]
              · rw [y2, s1_at, if_pos ⟨rfl, rfl⟩]; exact hs0
              · intro k hk
                show V'.2 (40 + 2 * j) k = U'.2 8 (40 * j + k)
                rw [y4, if_pos (by omega), show 40 + 2 * j = 39 + 2 * j + 1 by omega, r4 k hk]
            · have w1 : V'.1 (39 + 2 * j) = V.1 (39 + 2 * j) := by rw [r2, s1_eq, if_neg (by omega), s1_eq, if_neg (by omega)]
              have w2 : V'.2 (40 + 2 * j) = V.2 (40 + 2 * j) := by rw [r3 _ (by omega)]; rfl
              have w3 : U'.1 6 j = U.1 6 j := by rw [y2, s1_at, if_neg (by omega), s1_at, if_neg (by omega)]
              have w4 : U'.1 7 j = U.1 7 j := by rw [y2, s1_at, if_neg (by omega), s1_at, if_neg (by omega)]
              rw [w1, w2, w3, w4]
              refine ⟨hold.1, hold.2.1, hold.2.2.1, fun k hk => ?_⟩
              show V.2 (40 + 2 * j) k = U'.2 8 (40 * j + k)
              rw [y4, if_neg (by omega)]
              exact hold.2.2.2 k hk
          · rw [r2, s1_eq, if_neg (by omega), s1_eq, if_neg (by omega)]
          · rw [r3 j (by omega)]; rfl
          · rw [y2, s1_eq, if_neg q2, s1_eq, if_neg q1]
          · rw [y3 j hj]; rfl
      unfold mX2_lay mX5_sheet_b74
      rw [jl_eq, g_jin hi (by omega), jg_t, jg_t, jl_eq, jl_eq, g_cl (by omega)]
      by_cases zz : a2 = 0
      · rw [if_pos zz, if_pos zz, if_pos zz]
        exact main 0 (-1) (isN_nI (k := 0) (by omega) (by omega)) (.inl ⟨rfl, zz⟩)
      · rw [if_neg zz, if_neg zz, if_neg zz]
        exact main (nI c) a2 (isN_nI hc (by omega)) (.inr ⟨ha.resolve_left zz, rfl⟩)
    · rw [if_neg z2, if_neg z2, e1, e2]
      exact ⟨_, V1, U1, rfl, rfl, h1⟩
  · rw [if_neg z1, if_neg z1, e3, e4]
    exact ⟨_, V7, U7, rfl, rfl, h7⟩
theorem op_sheet_ok : op_sheet Rel := by
  intro a1 a2 a3 V U h
  obtain ⟨V', U', e1, e2, h'⟩ := ref_of (-1000000001) 0 (by omega) (by decide) h
  unfold mX4_sheet mX5_sheet mX4_sheet_b29 mX5_sheet_b29
  rcases s_ix a1 with ⟨c1, c2⟩ | ⟨i, hi, rfl, c1, c2⟩
  · rw [if_pos c1, if_pos c2, e1, e2]; exact ⟨_, V', U', rfl, rfl, h'⟩
  · rw [c1, c2, if_neg g_10, if_neg g_10]
    by_cases z0 : a2 = 0
    · rw [if_pos z0, if_pos z0]; exact sheet36_ok h hi (.inl z0) a3
    rw [if_neg z0, if_neg z0]
    by_cases z1 : a2 = 8
    · rw [if_pos z1, if_pos z1]; exact sheet36_ok h hi (.inr (.inl z1)) a3
    rw [if_neg z1, if_neg z1]
    by_cases z2 : a2 = 16
    · rw [if_pos z2, if_pos z2]; exact sheet36_ok h hi (.inr (.inr (.inl z2))) a3
    rw [if_neg z2, if_neg z2]
    by_cases z3 : a2 = 64
    · rw [if_pos z3, if_pos z3]; exact sheet36_ok h hi (.inr (.inr (.inr z3))) a3
    rw [if_neg z3, if_neg z3, e1, e2]
    exact ⟨_, V', U', rfl, rfl, h'⟩
end OI
