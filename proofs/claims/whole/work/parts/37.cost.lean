/-! cost -/
section OL
variable {V U : jMem}
theorem cost_loop (h : Rel V U) {i : Nat} (hi : i < 4) {V3 U3 : jMem} (e3 : mX4_refuse (-1000000003) V = some (-1000000003, V3)) (e4 : mX5_finds (-1000000003) U = some (-1000000003, U3)) : ∀ (d k t : Nat), k + d = nn (U.1 7 i) → t < 2 ^ 14 →
    ((∀ n sum, d < n → mX4_cost_b33 n i (nI t) sum (nI k) V = some (Int32.toInt64 (-1000000003), V3)) ∧ (∀ n, d < n → mX5_cost_b36 n (nI i) (nI t) (nI k) U = some (Int32.toInt64 (-1000000003), U3)))
    ∨ (∃ S : Int64, (∀ n sum, d < n → mX4_cost_b33 n i (nI t) sum (nI k) V = some (sum + S, V)) ∧ (∀ n, d < n → mX5_cost_b36 n (nI i) (nI t) (nI k) U = ((mX5_ours U).bind (fun r3 => mX5_cost_b112 2000 (nI i) 0 r3 0 U))) ∧ (∀ n sum, d < n → mX5_cost_b112 n (nI i) sum (nI (gOurs (U.1 1) ||| t)) (nI k) U = some (sum + S, U))) := by
  obtain ⟨r1, r2, r3, r4⟩ := s_row h hi
  have hn14 := h.n.2.2
  have ho := gOurs_lt h.wf
  intro d
  induction d with
  | zero =>
    intro k t hk ht
    right
    have hz : U.1 7 i ≤ nI k := by rw [r2]; exact nI_le (by omega) (by omega)
    refine ⟨0, ?_, ?_, ?_⟩
    · intro n sum hn
      obtain ⟨n, rfl⟩ : ∃ n', n = n' + 1 := ⟨n - 1, by omega⟩
      unfold mX4_cost_b33
      rw [r1, if_pos hz, Int64.add_zero]
    · intro n hn
      obtain ⟨n, rfl⟩ : ∃ n', n = n' + 1 := ⟨n - 1, by omega⟩
      unfold mX5_cost_b36
      rw [g_jin hi (by omega), jg_t, g_cl (show i < 2 ^ 31 by omega), if_pos hz]
    · intro n sum hn
      obtain ⟨n, rfl⟩ : ∃ n', n = n' + 1 := ⟨n - 1, by omega⟩
      unfold mX5_cost_b112
      rw [g_jin hi (by omega), jg_t, g_cl (show i < 2 ^ 31 by omega), if_pos hz, Int64.add_zero]
  | succ d ih =>
    intro k t hk ht
    have hz : ¬ U.1 7 i ≤ nI k := by rw [r2]; exact nI_ge (by omega) (by omega)
    have jk : jin (nI k) 40 = true := g_jin (by omega) (by omega)
    have jk2 : jin (nI (40 * i + k)) 160 = true := g_jin (by omega) (by omega)
    have xk : ∀ n sum, mX4_cost_b33 (n + 1) i (nI t) sum (nI k) V = (if mX0_fieldTold (U.2 8 (40 * i + k)) V < 0 then (mX4_cost_b73 V) else (if (mX4_isIn (mX0_fieldTold (U.2 8 (40 * i + k)) V) (nI t)) = 0 then ((mX0_priceBy (mX0_fieldTold (U.2 8 (40 * i + k)) V) (nI (gOurs (U.1 1) ||| t)) V).bind (fun r6 => mX4_cost_b33 n i (nI t ||| (1 <<< (mX0_fieldTold (U.2 8 (40 * i + k)) V &&& 31))) (sum + Int32.toInt64 r6) (nI (k + 1)) V)) else (mX4_cost_b73 V))) := by
      intro n sum
      show mX4_cost_b33 (n + 1) i (nI t) sum (nI k) V = _
      rw [mX4_cost_b33, r1, if_neg hz, jk, jg_t, g_cl (show k < 2 ^ 31 by omega), r4 k (by omega), h.xv.ours, g_or, nI_1]
      rfl
    have mk : ∀ n, mX5_cost_b36 (n + 1) (nI i) (nI t) (nI k) U = (if (mX5_isField (U.2 8 (40 * i + k)) U) = 0 then (mX5_cost_b79 U) else (if (((nI t) >>> ((Int64.toInt32 (U.2 8 (40 * i + k))) &&& 31)) &&& 1) = 1 then (mX5_cost_b79 U) else mX5_cost_b36 n (nI i) (nI t ||| (1 <<< ((Int64.toInt32 (U.2 8 (40 * i + k))) &&& 31))) (nI (k + 1)) U)) := by
      intro n
      rw [mX5_cost_b36, g_jin hi (by omega), jg_t, g_cl (show i < 2 ^ 31 by omega), if_neg hz, g_ix40, jk2, jg_t, g_cl (show 40 * i + k < 2 ^ 31 by omega), nI_1]
      rfl
    have sk : ∀ n sum, mX5_cost_b112 (n + 1) (nI i) sum (nI (gOurs (U.1 1) ||| t)) (nI k) U = ((mX5_asksBy (Int64.toInt32 (U.2 8 (40 * i + k))) (nI (gOurs (U.1 1) ||| t)) U).bind (fun r5 => mX5_cost_b112 n (nI i) (sum + Int32.toInt64 r5) (nI (gOurs (U.1 1) ||| t) ||| (1 <<< ((Int64.toInt32 (U.2 8 (40 * i + k))) &&& 31))) (nI (k + 1)) U)) := by
      intro n sum
      rw [mX5_cost_b112, g_jin hi (by omega), jg_t, g_cl (show i < 2 ^ 31 by omega), if_neg hz, g_ix40, jk2, jg_t, g_cl (show 40 * i + k < 2 ^ 31 by omega), nI_1]
      rfl
    have bx : mX4_cost_b73 V = some (Int32.toInt64 (-1000000003), V3) := by unfold mX4_cost_b73; rw [e3]; rfl
    have bm : mX5_cost_b79 U = some (Int32.toInt64 (-1000000003), U3) := by unfold mX5_cost_b79; rw [e4]; rfl
    rcases f_told h (U.2 8 (40 * i + k)) with ⟨t1, t2⟩ | ⟨f, hf, t1, t2, t3⟩
    · left
      refine ⟨fun n sum hn => ?_, fun n hn => ?_⟩
      · obtain ⟨n, rfl⟩ : ∃ n', n = n' + 1 := ⟨n - 1, by omega⟩
        rw [xk, t1, if_pos (by decide), bx]
      · obtain ⟨n, rfl⟩ : ∃ n', n = n' + 1 := ⟨n - 1, by omega⟩
        rw [mk, t2, if_pos rfl, bm]
    · rw [t1] at xk
      rw [t2, t3] at mk
      rw [t3] at sk
      have nf : ¬ nI f < 0 := nI_pos (by omega)
      have hx : mX4_isIn (nI f) (nI t) = if t.testBit f then 1 else 0 := x_isIn (by omega) (by omega)
      have hg : ((nI t >>> (nI f &&& 31)) &&& 1 = 1) ↔ t.testBit f = true := g_bit1 (by omega) (by omega)
      have ho2 : gOurs (U.1 1) ||| t < 2 ^ 14 := g_or_lt ho ht
      by_cases hb : t.testBit f = true
      · left
        refine ⟨fun n sum hn => ?_, fun n hn => ?_⟩
        · obtain ⟨n, rfl⟩ : ∃ n', n = n' + 1 := ⟨n - 1, by omega⟩
          rw [xk, if_neg nf, hx, if_pos hb, if_neg g_10, bx]
        · obtain ⟨n, rfl⟩ : ∃ n', n = n' + 1 := ⟨n - 1, by omega⟩
          rw [mk, if_neg g_10, if_pos (hg.mpr hb), bm]
      · have hf2 : 2 ^ f < 2 ^ 14 := Nat.pow_lt_pow_right (by decide) (by omega)
        have xk' : ∀ n sum, mX4_cost_b33 (n + 1) i (nI t) sum (nI k) V = mX4_cost_b33 n i (nI (t ||| 2 ^ f)) (sum + Int32.toInt64 (nI (gAsk (U.1 1) f (gOurs (U.1 1) ||| t)))) (nI (k + 1)) V := by
          intro n sum
          rw [xk, if_neg nf, hx, if_neg hb, if_pos rfl, x_by h.xv h.wf hf, Option.bind_some, g_one f (by omega), g_or]
        have mk' : ∀ n, mX5_cost_b36 (n + 1) (nI i) (nI t) (nI k) U = mX5_cost_b36 n (nI i) (nI (t ||| 2 ^ f)) (nI (k + 1)) U := by
          intro n
          rw [mk, if_neg g_10, if_neg (fun z => hb (hg.mp z)), g_one f (by omega), g_or]
        have sk' : ∀ n sum, mX5_cost_b112 (n + 1) (nI i) sum (nI (gOurs (U.1 1) ||| t)) (nI k) U = mX5_cost_b112 n (nI i) (sum + Int32.toInt64 (nI (gAsk (U.1 1) f (gOurs (U.1 1) ||| t)))) (nI (gOurs (U.1 1) ||| (t ||| 2 ^ f))) (nI (k + 1)) U := by
          intro n sum
          rw [sk, m_by h.wf hf (by omega), Option.bind_some, g_one f (by omega), g_or, Nat.or_assoc]
        rcases ih (k + 1) (t ||| 2 ^ f) (by omega) (g_or_lt ht hf2) with ⟨q1, q2⟩ | ⟨S, q1, q2, q3⟩
        · left
          refine ⟨fun n sum hn => ?_, fun n hn => ?_⟩
          · obtain ⟨n, rfl⟩ : ∃ n', n = n' + 1 := ⟨n - 1, by omega⟩
            rw [xk']; exact q1 n _ (by omega)
          · obtain ⟨n, rfl⟩ : ∃ n', n = n' + 1 := ⟨n - 1, by omega⟩
            rw [mk']; exact q2 n (by omega)
        · right
          refine ⟨Int32.toInt64 (nI (gAsk (U.1 1) f (gOurs (U.1 1) ||| t))) + S, fun n sum hn => ?_, fun n hn => ?_, fun n sum hn => ?_⟩
          · obtain ⟨n, rfl⟩ : ∃ n', n = n' + 1 := ⟨n - 1, by omega⟩
            rw [xk', q1 n _ (by omega), Int64.add_assoc]
          · obtain ⟨n, rfl⟩ : ∃ n', n = n' + 1 := ⟨n - 1, by omega⟩
            rw [mk', q2 n (by omega)]
          · obtain ⟨n, rfl⟩ : ∃ n', n = n' + 1 := ⟨n - 1, by omega⟩
            rw [sk', q3 n _ (by omega), Int64.add_assoc]
theorem op_cost_ok : op_cost Rel := by
  intro a1 V U h
  obtain ⟨V1, U1, e1, e2, h1⟩ := ref_of (-1000000001) 0 (by omega) (by decide) h
  obtain ⟨V3, U3, e5, e6, h3⟩ := ref_of (-1000000003) 2 (by omega) (by decide) h
  obtain ⟨V6, U6, e3, e4, h6⟩ := ref_of (-1000000006) 5 (by omega) (by decide) h
  unfold mX4_cost mX5_cost
  rcases s_ix a1 with ⟨c1, c2⟩ | ⟨i, hi, rfl, c1, c2⟩
  · have : mX4_sheetFault a1 V = some (-1000000001) := by unfold mX4_sheetFault; rw [if_pos c1]
    rw [this, Option.bind_some, if_neg (by decide), if_pos c2, e1, e2]
    exact ⟨_, V1, U1, rfl, rfl, h1⟩
  · rw [c2, if_neg g_10, g_jin hi (by omega), jg_t, jg_t, g_cl (by omega)]
    obtain ⟨r1, r2, r3, r4⟩ := s_row h hi
    rcases s_fault h hi with ⟨f1, f2⟩ | ⟨f1, f2, f3, f4⟩
    · rw [f2, Option.bind_some, if_neg (by decide), f1, if_neg (by decide), e3, e4]
      exact ⟨_, V6, U6, rfl, rfl, h6⟩
    · rw [f4, Option.bind_some, if_pos rfl, if_pos f3]
      rcases cost_loop h hi e5 e6 (nn (U.1 7 i)) 0 0 (by omega) (by omega) with ⟨q1, q2⟩ | ⟨S, q1, q2, q3⟩
      · exact ⟨_, V3, U3, q1 2000 0 (by omega), q2 2000 (by omega), h3⟩
      · refine ⟨0 + S, V, U, q1 2000 0 (by omega), ?_, h⟩
        refine (q2 2000 (by omega)).trans ?_
        rw [m_ours h.wf, Option.bind_some]
        have := q3 2000 0 (by omega)
        rw [Nat.or_zero] at this
        exact this
end OL
