/-! common, share -/
section OO
variable {V U : jMem}
theorem op_common_ok : op_common Rel := by
  intro V U h
  obtain ⟨V4, U4, e1, e2, h4⟩ := ref_of (-1000000004) 3 (by omega) (by decide) h
  have w := h.wf
  have hv := h.xv
  obtain ⟨hn1, hn2, hn3⟩ := h.n
  obtain ⟨hm1, hm2, hm3⟩ := h.m
  have h1 : 1 ≤ 2 ^ gN (U.1 1) := Nat.one_le_two_pow
  have hp : (2 : Nat) ^ gN (U.1 1) ≤ 2 ^ 14 := Nat.pow_le_pow_right (by decide) hn3
  have hs : nI (2 ^ gN (U.1 1)) - 1 = nI (2 ^ gN (U.1 1) - 1) := pk_sub (b := 1) h1
  have key := g_up (P := fun n k => (∃ (r : Int32) (V' U' : jMem), mX4_common_b12 n (nI (2 ^ gN (U.1 1) - 1)) 0 (nI k) V = some (r, V') ∧ mX5_common_b8 n 16383 0 (nI k) U = some (r, U') ∧ Rel V' U') ∧ (∀ q c, 1 ≤ c → c ≤ k → ∃ (r : Int32) (V' U' : jMem), mX4_common_b12 n (nI q) 1 (nI k) V = some (r, V') ∧ mX5_common_b8 n (nI q) (nI c) (nI k) U = some (r, U') ∧ Rel V' U')) (gM (U.1 1)) ?_ ?_ 2000 0 (by omega) (by omega)
  · unfold mX4_common mX5_common mX0_allFields
    rw [hn2, g_one _ (by omega), hs]
    exact key.1
  · intro n
    refine ⟨?_, fun q c hc1 hc2 => ?_⟩
    · show ∃ r V' U', mX4_common_b12 (n + 1) _ _ _ _ = _ ∧ mX5_common_b8 (n + 1) _ _ _ _ = _ ∧ _
      unfold mX4_common_b12 mX5_common_b8
      rw [hm2, hm1, if_pos (nI_le (Nat.le_refl _) (by omega)), if_pos (nI_le (Nat.le_refl _) (by omega)), if_pos rfl, if_pos rfl, e1, e2]
      exact ⟨_, V4, U4, rfl, rfl, h4⟩
    · show ∃ r V' U', mX4_common_b12 (n + 1) _ _ _ _ = _ ∧ mX5_common_b8 (n + 1) _ _ _ _ = _ ∧ _
      unfold mX4_common_b12 mX5_common_b8
      rw [hm2, hm1, if_pos (nI_le (Nat.le_refl _) (by omega)), if_pos (nI_le (Nat.le_refl _) (by omega)), if_neg g_10, if_neg (nI_ne0 (by omega) (by omega))]
      exact ⟨_, V, U, rfl, rfl, h⟩
  · intro n k hk this
    have hT := (w.t hk).1
    have hTl := g_T_lt w hk
    have sm : nI (2 ^ gN (U.1 1) - 1) &&& gT (U.1 1) k = gT (U.1 1) k := by
      rw [hT.1, g_and]
      congr 1
      refine g_ext ?_ hTl (fun i hi => ?_)
      · rw [Nat.and_comm]; exact g_and_lt _ hTl
      · rw [Nat.testBit_and, Nat.testBit_two_pow_sub_one, decide_eq_true hi, Bool.true_and]
    have sm2 : (16383 : Int32) &&& gT (U.1 1) k = gT (U.1 1) k := by
      rw [hT.1, show (16383 : Int32) = nI 16383 from rfl, g_and]
      congr 1
      refine g_ext ?_ hTl (fun i hi => ?_)
      · rw [Nat.and_comm]; exact g_and_lt _ hTl
      · rw [Nat.testBit_and, t_all i (by omega), Bool.true_and]
    have ge : ¬ nI (gM (U.1 1)) ≤ nI k := nI_ge hk (by omega)
    refine ⟨?_, fun q c hc1 hc2 => ?_⟩
    · show ∃ r V' U', mX4_common_b12 (n + 1) _ _ _ _ = _ ∧ mX5_common_b8 (n + 1) _ _ _ _ = _ ∧ _
      unfold mX4_common_b12 mX5_common_b8 mX4_common_b48 mX5_common_b37
      rw [hm2, hm1, if_neg ge, if_neg ge, x_canBe hv w hk, m_canBe w hk, Option.bind_some, Option.bind_some, m_setOf (by omega), Option.bind_some, g_jin (show k < 6 by omega) (by omega), jg_t, jl_eq, g_cl (show k < 2 ^ 31 by omega), (hv.t hk).1, sm, sm2, nI_1]
      cases gCan (U.1 1) k
      · rw [if_pos (by decide), if_pos (by decide)]; exact this.1
      · rw [if_neg (by decide), if_neg (by decide)]
        have := this.2 (nn (gT (U.1 1) k)) 1 (by omega) (by omega)
        rw [← hT.1] at this
        exact this
    · show ∃ r V' U', mX4_common_b12 (n + 1) _ _ _ _ = _ ∧ mX5_common_b8 (n + 1) _ _ _ _ = _ ∧ _
      unfold mX4_common_b12 mX5_common_b8 mX4_common_b48 mX5_common_b37
      rw [hm2, hm1, if_neg ge, if_neg ge, x_canBe hv w hk, m_canBe w hk, Option.bind_some, Option.bind_some, m_setOf (by omega), Option.bind_some, g_jin (show k < 6 by omega) (by omega), jg_t, jl_eq, g_cl (show k < 2 ^ 31 by omega), (hv.t hk).1, nI_1]
      cases gCan (U.1 1) k
      · rw [if_pos (by decide), if_pos (by decide)]; exact this.2 q c hc1 (by omega)
      · rw [if_neg (by decide), if_neg (by decide)]
        have := this.2 (q &&& nn (gT (U.1 1) k)) (c + 1) (by omega) (by omega)
        rw [← g_and, ← hT.1] at this
        rw [nI_1]
        exact this
end OO
