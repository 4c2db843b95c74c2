/-! write, read, offers, cost -/
section OJ
variable {V U V' U' : jMem}
theorem g_ix40 (i c : Nat) : (40 : Int32) * nI i + nI c = nI (40 * i + c) := by
  show nI 40 * nI i + nI c = _
  rw [pk_mul, nI_add]
theorem s_row (h : Rel V U) {i : Nat} (hi : i < 4) : V.1 (39 + 2 * i) 1 = U.1 7 i ∧ U.1 7 i = nI (nn (U.1 7 i)) ∧ nn (U.1 7 i) ≤ 40 ∧ (∀ k, k < 40 → V.2 (39 + 2 * i + 1) k = U.2 8 (40 * i + k)) := by
  obtain ⟨-, h2, h3, h4⟩ := h.2.2.2.2.1 i hi
  exact ⟨h2, h3.1, h3.2, fun k hk => by rw [show 39 + 2 * i + 1 = 40 + 2 * i by omega]; exact h4 k hk⟩
theorem write_ok (h : Rel V U) {i j : Nat} (hi : i < 4) (hj : j < 40) (v : Int64) : Rel (jsL V (39 + 2 * i + 1) j v) (jsL U 8 (40 * i + j) v) := by
  refine Rel_sheet h ?_ (fun _ _ => rfl) (fun k hk => by rw [s2_eq, if_neg (by omega)]) (fun _ _ _ => rfl) (fun k hk => by rw [s2_eq, if_neg hk])
  intro a ha
  obtain ⟨h1, h2, h3, h4⟩ := h.2.2.2.2.1 a ha
  refine ⟨h1, h2, h3, fun k hk => ?_⟩
  show (jsL V (39 + 2 * i + 1) j v).2 (40 + 2 * a) k = (jsL U 8 (40 * i + j) v).2 8 (40 * a + k)
  rw [s2_eq, s2_eq, if_pos rfl, uL_eq]
  by_cases e : a = i
  · subst e
    rw [if_pos (by omega), uL_eq]
    by_cases e2 : k = j
    · rw [if_pos e2, if_pos (by omega)]
    · rw [if_neg e2, if_neg (by omega), show 39 + 2 * a + 1 = 40 + 2 * a by omega]; exact h4 k hk
  · rw [if_neg (by omega), if_neg (by omega)]; exact h4 k hk
theorem op_write_ok : op_write Rel := by
  intro a1 a2 a3 V U h
  obtain ⟨V1, U1, e1, e2, h1⟩ := ref_of (-1000000001) 0 (by omega) (by decide) h
  obtain ⟨V6, U6, e3, e4, h6⟩ := ref_of (-1000000006) 5 (by omega) (by decide) h
  unfold mX4_write mX5_write
  rcases s_ix a1 with ⟨c1, c2⟩ | ⟨i, hi, rfl, c1, c2⟩
  · have : mX4_sheetFault a1 V = some (-1000000001) := by unfold mX4_sheetFault; rw [if_pos c1]
    rw [this, Option.bind_some, if_neg (by decide), if_pos c2, e1, e2]
    exact ⟨_, V1, U1, rfl, rfl, h1⟩
  · rw [c2, if_neg g_10, g_jin hi (by omega), jg_t, jg_t, g_cl (by omega)]
    obtain ⟨r1, r2, r3, r4⟩ := s_row h hi
    rcases s_fault h hi with ⟨f1, f2⟩ | ⟨f1, f2, f3, f4⟩
    · rw [f2, Option.bind_some, if_neg (by decide), f1, if_neg (by decide), e3, e4]
      exact ⟨_, V6, U6, rfl, rfl, h6⟩
    · rw [f4, Option.bind_some, if_pos rfl, if_pos f3, r1]
      rcases f_in a2 0 (U.1 7 i - 1) 0 (Int32.toInt64 (U.1 7 i - 1)) rfl rfl with ⟨d1, d2⟩ | ⟨d1, d2, d3, d4⟩
      · rw [d1, d2, if_pos rfl, if_pos rfl, e1, e2]
        exact ⟨_, V1, U1, rfl, rfl, h1⟩
      · rw [d3, d4, if_neg g_10, if_neg g_10]
        have : ∃ j, j < nn (U.1 7 i) ∧ a2 = nI j := by
          rcases x_within a2 (n := nn (U.1 7 i)) (by omega) with ⟨z, -⟩ | ⟨j, hj, e, -⟩
          · rw [← r2, d3] at z; exact absurd z g_10
          · exact ⟨j, hj, e⟩
        obtain ⟨j, hj, rfl⟩ := this
        unfold mX2_put mX2_put_b46 mX5_narrow
        rw [g_ix40, g_jin (show 40 * i + j < 160 by omega) (by omega), g_jin (show j < 40 by omega) (by omega), jg_t, jg_t, jl_eq, jl_eq, jl_eq, g_cl (by omega), g_cl (by omega), f2, r4 j (by omega)]
        rcases f1 with e | e | e
        · rw [e]
          exact ⟨_, _, _, rfl, rfl, write_ok h hi (show j < 40 by omega) _⟩
        · rw [e]
          exact ⟨_, _, _, rfl, rfl, write_ok h hi (show j < 40 by omega) _⟩
        · rw [e]
          exact ⟨_, _, _, rfl, rfl, write_ok h hi (show j < 40 by omega) _⟩
theorem f_nat (h : Rel V U) {a : Nat} (ha : a < 2 ^ 20) : (mX0_hasField (nI a) V = 0 ∧ mX5_isField (Int32.toInt64 (nI a)) U = 0) ∨ (a < gN (U.1 1) ∧ mX0_hasField (nI a) V = 1 ∧ mX5_isField (Int32.toInt64 (nI a)) U = 1) := by
  rcases f_ix h (nI a) with c | ⟨f, hf, e, c⟩
  · exact .inl c
  · have hn := h.n
    rw [nI_eq (by omega) (by omega)] at e
    exact .inr ⟨by omega, c⟩
theorem op_read_ok : op_read Rel := by
  intro a1 V U h
  obtain ⟨V1, U1, e1, e2, h1⟩ := ref_of (-1000000001) 0 (by omega) (by decide) h
  obtain ⟨V6, U6, e3, e4, h6⟩ := ref_of (-1000000006) 5 (by omega) (by decide) h
  unfold mX4_read mX5_read
  rcases s_ix a1 with ⟨c1, c2⟩ | ⟨i, hi, rfl, c1, c2⟩
  · have : mX4_sheetFault a1 V = some (-1000000001) := by unfold mX4_sheetFault; rw [if_pos c1]
    rw [this, Option.bind_some, if_neg (by decide), if_pos c2, e1, e2]
    exact ⟨_, V1, U1, rfl, rfl, h1⟩
  · rw [c2, if_neg g_10, g_jin hi (by omega), jg_t, jg_t, g_cl (by omega)]
    obtain ⟨r1, r2, r3, r4⟩ := s_row h hi
    rcases s_fault h hi with ⟨f1, f2⟩ | ⟨f1, f2, f3, f4⟩
    · rw [f2, Option.bind_some, if_neg (by decide), f1, if_neg (by decide), e3, e4]
      exact ⟨_, V6, U6, rfl, rfl, h6⟩
    · rw [f4, Option.bind_some, if_pos rfl, if_pos f3]
      refine g_up (P := fun n k => ∃ (r : Int32) (V' U' : jMem), mX4_read_b26 n i (nI k) V = some (r, V') ∧ mX5_read_b32 n (nI i) (nI k) U = some (r, U') ∧ Rel V' U') (nn (U.1 7 i)) ?_ ?_ 2000 0 (by omega) (by omega)
      · intro n
        show ∃ r V' U', mX4_read_b26 (n + 1) _ _ _ = _ ∧ mX5_read_b32 (n + 1) _ _ _ = _ ∧ _
        unfold mX4_read_b26 mX5_read_b32
        rw [g_jin hi (by omega), jg_t, g_cl (show i < 2 ^ 31 by omega), r1, if_pos (by rw [← r2]; exact Int32.le_refl _), if_pos (by rw [← r2]; exact Int32.le_refl _)]
        exact ⟨_, V, U, rfl, rfl, h⟩
      · intro n k hk this
        show ∃ r V' U', mX4_read_b26 (n + 1) _ _ _ = _ ∧ mX5_read_b32 (n + 1) _ _ _ = _ ∧ _
        have hz : ¬ U.1 7 i ≤ nI k := by rw [r2]; exact nI_ge hk (by omega)
        unfold mX4_read_b26 mX5_read_b32 mX4_read_b68 mX5_read_b72
        rw [g_jin hi (by omega), jg_t, g_cl (show i < 2 ^ 31 by omega), r1, if_neg hz, if_neg hz]
        rcases f_nat h (a := k) (by omega) with ⟨c3, c4⟩ | ⟨hf, c3, c4⟩
        · rw [if_pos c3, if_pos c4]
          exact ⟨_, V, U, rfl, by rw [show (1 : Int32) + nI k = nI k + 1 from Int32.add_comm _ _], h⟩
        · rw [c3, c4, if_neg g_10, if_neg g_10, g_ix40, g_jin (show k < 40 by omega) (by omega), g_jin (show 40 * i + k < 160 by omega) (by omega), jg_t, jg_t, x_now h.xv h.wf hf, m_now h.wf hf, Option.bind_some, Option.bind_some, g_cl (show k < 2 ^ 31 by omega), g_cl (show 40 * i + k < 2 ^ 31 by omega), r4 k (by omega)]
          by_cases q : lg_cmp (U.2 8 (40 * i + k)) (Int32.toInt64 (nI (gNow (U.1 1) k))) = 0
          · rw [if_pos q, if_pos q, nI_1]; exact this
          · rw [if_neg q, if_neg q]
            exact ⟨_, V, U, rfl, by rw [show (1 : Int32) + nI k = nI k + 1 from Int32.add_comm _ _], h⟩
end OJ
