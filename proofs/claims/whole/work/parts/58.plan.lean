/-! plan -/
section TL
variable {V U V' U' V0 U0 : jMem} {bs : Nat → Nat} {z : Nat}
/-- how the reading of all ITEMS ends -/
def PE (V U : jMem) (X : Option (Int32 × jMem)) (M : Option (Int32 × jMem)) : Prop := (∃ a V' U', a < 2 ^ 31 ∧ X = some (nI a, V') ∧ M = mX5_plan_b95 (nI a) 0 U' ∧ Rel V' U' ∧ LX V V' ∧ LM U U') ∨ (∃ x q V' U', q ≤ 120 ∧ X = some (-1 - nI q, V') ∧ M = mX5_plan_b95 x 1 U' ∧ U'.1 0 16 = nI q ∧ LX V V' ∧ LM U U')
theorem PE.tr {X M : Option (Int32 × jMem)} (lx : LX V V') (lm : LM U U') (h : PE V' U' X M) : PE V U X M := by
  rcases h with ⟨a, V2, U2, r1, r2, r3, r4, r5, r6⟩ | ⟨x, q, V2, U2, r1, r2, r3, r4, r5, r6⟩
  · exact .inl ⟨a, V2, U2, r1, r2, r3, r4, lx.tr r5, lm.tr r6⟩
  · exact .inr ⟨x, q, V2, U2, r1, r2, r3, r4, lx.tr r5, lm.tr r6⟩
theorem m_46F {q n : Nat} (hf : FA U q) (a : Int32) : mX5_plan_b46 (n + 1) a U = mX5_plan_b95 a 1 U := by
  rw [mX5_plan_b46]
  unfold mX5_plan_b75 mX5_plan_b90
  rcases hf.2 with y | ⟨y, y2⟩
  · rw [y, if_neg g_10, if_neg g_10]
  · rw [y, y2, if_pos rfl, if_neg (by decide), if_pos rfl, if_neg (by decide)]
theorem items_loop (hb : TTB bs z) : ∀ d p k v e a n n2 (V U : jMem), p + d = z → d < n → d + 1 < n2 → a ≤ p + 1 → TTX V bs z → TTM U bs z → TK bs z V U p k v e → Rel V U → U.1 0 20 = 0 → PE V U (mX4_readItems_b6 n (nI a) V) ((mX5_item U).bind (fun p4 => mX5_plan_b46 n2 (nI a) p4)) := by
  have h1 := hb.1
  intro d
  induction d using Nat.strongRecOn with
  | ind d ih =>
    intro p k v e a n n2 V U hp hn hn2 ha tx tm tk h0 b0
    obtain ⟨n, rfl⟩ : ∃ n', n = n' + 1 := ⟨n - 1, by omega⟩
    obtain ⟨n2, rfl⟩ : ∃ n', n2 = n' + 1 := ⟨n2 - 1, by omega⟩
    have hq : p ≤ z := tk.1
    by_cases y : 120 < a
    · have hk : k = 5 := by
        by_cases y5 : k = 5
        · exact y5
        · have := tk.2.2.2.2.2.2.2.2.2.2.1 y5
          omega
      have hf : FA (jsI U 0 20 1) p := FA_bad ⟨tk.2.2.1, Nat.le_trans tk.1 hb.1⟩
      rw [mX4_readItems_b6, if_pos (show (120 : Int32) < nI a from nI_lt (a := 120) (by omega) (by omega)), m_item_no (fun q => by have := tk.k0.mp q; omega), Option.bind_some, m_46F hf, tk.2.1]
      exact .inr ⟨nI a, p, V, jsI U 0 20 1, by omega, rfl, rfl, hf.1.1, ⟨fun _ _ => rfl, rfl, rfl⟩, (FB_bad _ _).lm⟩
    · rw [mX4_readItems_b6, if_neg (show ¬ (120 : Int32) < nI a from nI_nlt (a := 120) (by omega) (by omega))]
      rcases item_ok h0 hb tx tm tk b0 with ⟨V1, U1, p1, k1, v1, e1, r1, r2, r3, tk1, hp1, b1, lx1, lm1⟩ | ⟨V1, U1, q, r1, r2, r3, r4, lx1, lm1⟩
      · rw [r1, r2, Option.bind_some, Option.bind_some]
        show PE V U (if (1 : Int32) = 0 then _ else if V1.1 36 4 = 3 then some (nI a, V1) else if V1.1 36 4 = 2 then (mX3_next V1).bind (fun p6 => mX4_readItems_b6 n (nI a + 1) p6) else some (-1 - V1.1 36 2, V1)) (mX5_plan_b46 (n2 + 1) (nI a) U1)
        rw [if_neg g_10, mX5_plan_b46, if_pos b1]
        have hp1z := tk1.1
        by_cases y4 : k1 = 4
        · subst y4
          obtain ⟨ee1, ee2, ee3, ee4⟩ := tk1.2.2.2.2.2.1 (.inr (.inr rfl))
          have tx1 : TTX V1 bs z := TTX_fr tx lx1.2.1 (lx1.1 37 (by omega))
          have tm1 : TTM U1 bs z := TTM_fr tm (lm1.2.1 8 (by omega)) (lm1.1 5 (by omega)) (lm1.1 11 (by omega))
          obtain ⟨V2, U2, p2, k2, v2, e2, n1, n2', tk2, hqp, fx, fm⟩ := step_ok hb tx1 tm1 ee2 ee3 ee4
          have hp2z := tk2.1
          rw [if_neg (show ¬ V1.1 36 4 = 3 from fun q => by have := tk1.k4.2.2.2.1.mp q; omega), if_pos (tk1.k4.2.1.mpr rfl), n1, Option.bind_some, if_pos (tk1.k4.1.mpr rfl), n2', Option.bind_some, nI_1]
          exact PE.tr (lx1.tr fx.lx) (lm1.tr fm.lm) (ih (z - p2) (by omega) p2 k2 v2 e2 (a + 1) n n2 V2 U2 (by omega) (by omega) (by omega) (by omega) (tx1.fx fx) (tm1.fb fm.fb) tk2 (Rel_tok r3 fx fm.fb) (by rw [fm.2.1 20 (by omega)]; exact b1))
        · rw [if_neg (show ¬ U1.1 0 18 = 3 from fun q => y4 (tk1.k4.1.mp q)), if_neg (show ¬ V1.1 36 4 = 2 from fun q => y4 (tk1.k4.2.1.mp q))]
          unfold mX5_plan_b75 mX5_plan_b90
          rw [if_pos b1]
          by_cases y5 : k1 = 5
          · rw [if_pos (tk1.k4.2.2.2.1.mpr y5), if_pos (tk1.k4.2.2.1.mpr y5)]
            exact .inl ⟨a, V1, U1, by omega, rfl, rfl, r3, lx1, lm1⟩
          · rw [if_neg (show ¬ V1.1 36 4 = 3 from fun q => y5 (tk1.k4.2.2.2.1.mp q)), if_neg (show ¬ U1.1 0 18 = 0 from fun q => y5 (tk1.k4.2.2.1.mp q)), tk1.2.1]
            exact .inr ⟨nI a, p1, V1, U1, by omega, rfl, rfl, tk1.2.2.1, lx1, lm1⟩
      · rw [r1, r2, Option.bind_some, Option.bind_some]
        show PE V U (if (0 : Int32) = 0 then some (-1 - V1.1 36 2, V1) else _) (mX5_plan_b46 (n2 + 1) (nI a) U1)
        rw [if_pos rfl, m_46F r3, r4]
        exact .inr ⟨nI a, q, V1, U1, r3.1.2, rfl, rfl, r3.1.1, lx1, lm1⟩
def pEnd (m : Nat) (U : jMem) : Option (Int32 × jMem) := mX5_plan_b2 (m + 1) (nI 120) U
theorem m_save : ∀ d k n (U : jMem), k + d = 120 → d < n → (∀ i, i < k → U.1 3 i = U.1 1 i) → ∃ m U', mX5_plan_b2 n (nI k) U = pEnd m U' ∧ (∀ i, i < 120 → U'.1 3 i = U.1 1 i) ∧ (∀ j, j ≠ 3 → U'.1 j = U.1 j) ∧ U'.2 = U.2 := by
  intro d
  induction d with
  | zero =>
    intro k n U hk hn hi
    obtain ⟨n, rfl⟩ : ∃ n', n = n' + 1 := ⟨n - 1, by omega⟩
    obtain rfl : k = 120 := by omega
    exact ⟨n, U, rfl, hi, fun _ _ => rfl, rfl⟩
  | succ d ih =>
    intro k n U hk hn hi
    obtain ⟨n, rfl⟩ : ∃ n', n = n' + 1 := ⟨n - 1, by omega⟩
    rw [mX5_plan_b2, if_neg (show ¬ ((120 : Int32) ≤ nI k) from nI_ge (b := 120) (by omega) (by omega)), g_jin (show k < 120 by omega) (by omega), jg_t, jl_eq, g_cl (show k < 2 ^ 31 by omega), nI_1]
    have e1 : (jsI U 3 k (U.1 1 k)).1 1 = U.1 1 := by rw [s1_eq, if_neg (by omega)]
    obtain ⟨m, U', r1, r2, r3, r4⟩ := ih (k + 1) n (jsI U 3 k (U.1 1 k)) (by omega) (by omega) (fun i hi2 => by
      rw [e1, s1_at]
      by_cases e : i = k
      · rw [if_pos ⟨rfl, e⟩, e]
      · rw [if_neg (fun q => e q.2)]; exact hi i (by omega))
    refine ⟨m, U', r1, fun i hi2 => by rw [r2 i hi2, e1], fun j hj => by rw [r3 j hj, s1_eq, if_neg hj], by rw [r4]; rfl⟩
theorem m_back : ∀ d k n (U : jMem), k + d = 120 → d < n → (∀ i, i < k → U.1 1 i = U.1 3 i) → ∃ U', mX5_plan_b114 n (nI k) U = some (-1 - U.1 0 16, U') ∧ (∀ i, i < 120 → U'.1 1 i = U.1 3 i) ∧ (∀ j, j ≠ 1 → U'.1 j = U.1 j) ∧ U'.2 = U.2 := by
  intro d
  induction d with
  | zero =>
    intro k n U hk hn hi
    obtain ⟨n, rfl⟩ : ∃ n', n = n' + 1 := ⟨n - 1, by omega⟩
    obtain rfl : k = 120 := by omega
    rw [mX5_plan_b114, if_pos (by decide)]
    exact ⟨U, rfl, hi, fun _ _ => rfl, rfl⟩
  | succ d ih =>
    intro k n U hk hn hi
    obtain ⟨n, rfl⟩ : ∃ n', n = n' + 1 := ⟨n - 1, by omega⟩
    rw [mX5_plan_b114, if_neg (show ¬ ((120 : Int32) ≤ nI k) from nI_ge (b := 120) (by omega) (by omega)), g_jin (show k < 120 by omega) (by omega), jg_t, jl_eq, g_cl (show k < 2 ^ 31 by omega), nI_1]
    have e3 : (jsI U 1 k (U.1 3 k)).1 3 = U.1 3 := by rw [s1_eq, if_neg (by omega)]
    have e0 : (jsI U 1 k (U.1 3 k)).1 0 = U.1 0 := by rw [s1_eq, if_neg (by omega)]
    obtain ⟨U', r1, r2, r3, r4⟩ := ih (k + 1) n (jsI U 1 k (U.1 3 k)) (by omega) (by omega) (fun i hi2 => by
      rw [e3, s1_at]
      by_cases e : i = k
      · rw [if_pos ⟨rfl, e⟩, e]
      · rw [if_neg (fun q => e q.2)]; exact hi i (by omega))
    rw [e0] at r1
    refine ⟨U', r1, fun i hi2 => by rw [r2 i hi2, e3], fun j hj => by rw [r3 j hj, s1_eq, if_neg hj], by rw [r4]; rfl⟩
theorem Rel_fin (h : Rel V U) (h1 : ReL V' U') (a : ∀ j, (j = 0 ∨ (11 ≤ j ∧ j ≤ 20) ∨ 37 ≤ j) → V'.1 j = V.1 j) (a1 : V'.1 36 1 = 0) (b : ∀ j, j = 11 ∨ 37 ≤ j → V'.2 j = V.2 j) (c : ∀ j, (j = 2 ∨ 4 ≤ j) → U'.1 j = U.1 j) (c0 : U'.1 0 5 = U.1 0 5) (c8 : U'.1 0 8 = 0) (d : U'.2 = U.2) : Rel V' U' := by
  obtain ⟨-, h2, h3, h4, h5, h6⟩ := h
  refine ⟨h1, ReK_fr h2 (by rw [a 0 (by omega)]) (fun j _ _ => a j (by omega)) (by rw [b 11 (by omega)]) (c 2 (by omega)) (by rw [d]) c0, ⟨by rw [a1, c8], ?_, fun k hk => ?_⟩, ReF_fr h4 (a 47 (by omega)) (c 4 (by omega)), ReS_fr h5 (fun j _ _ => a j (by omega)) (fun j _ _ => b j (by omega)) (c 6 (by omega)) (c 7 (by omega)) (by rw [d]), ReW_fr h6 (c 11 (by omega))⟩
  · rw [c8]; exact isN_nI (k := 0) (by omega) (by omega)
  · rw [c8] at hk; exact absurd hk (Nat.not_lt_zero _)
theorem op_plan_ok : op_plan Rel := by
  intro V U h
  obtain ⟨V1, s1, s2, s3, s4⟩ := x_become 21 1 V (by omega)
  have xl1 := xl_become s4 h.xl h.wf (s' := U.1 1) (ss' := U.2 0 3) (fun _ _ => rfl) rfl
  obtain ⟨m, U1, t1, t2, t3, t4⟩ := m_save 120 0 2000 U (by omega) (by omega) (fun i hi => absurd hi (Nat.not_lt_zero _))
  have hv1 : Rel V1 U := by
    obtain ⟨h1, h2, h3, h4, h5, h6⟩ := h
    exact ⟨ReL_fr h1 (fun j _ _ => s2 j (by omega)) (by rw [s3 1 (by omega)]) rfl rfl, ReK_fr h2 (by rw [s2 0 (by omega)]) (fun j _ _ => s2 j (by omega)) (by rw [s3 11 (by omega)]) rfl rfl rfl, ReT_fr h3 (by rw [s2 36 (by omega)]) (s2 37 (by omega)) rfl rfl, ReF_fr h4 (s2 47 (by omega)) rfl, ReS_fr h5 (fun j _ _ => s2 j (by omega)) (fun j _ _ => s3 j (by omega)) rfl rfl rfl, h6⟩
  -- the tape
  have hT := h.2.2.1
  have hW := h.2.2.2.2.2
  obtain ⟨T1, T2, T3⟩ := hT
  have hz : U.1 0 8 = nI (nn (U.1 0 8)) := T2.1
  generalize hzz : nn (U.1 0 8) = z at *
  have zle : z ≤ 120 := by rw [← hzz]; exact T2.2
  have hb : TTB (fun k => nn (U.1 5 k)) z := ⟨zle, fun k hk => (T3 k hk).2.2⟩
  generalize hU2 : jsI (jsI U1 0 17 0) 0 20 0 = U2
  have f20 : U2.1 0 20 = 0 := by rw [← hU2, s1_at, if_pos ⟨rfl, rfl⟩]
  have f17 : U2.1 0 17 = nI 0 := by rw [← hU2, s1_at, if_neg (by omega), s1_at, if_pos ⟨rfl, rfl⟩]; rfl
  have f0 : ∀ a, a < 16 → U2.1 0 a = U.1 0 a := fun a ha => by rw [← hU2, s1_at, if_neg (by omega), s1_at, if_neg (by omega), t3 0 (by omega)]
  have fj : ∀ j, j ≠ 0 → j ≠ 3 → U2.1 j = U.1 j := fun j j1 j2 => by rw [← hU2, s1_eq, if_neg j1, s1_eq, if_neg j1, t3 j j2]
  have f3 : ∀ i, i < 120 → U2.1 3 i = U.1 1 i := fun i hi => by rw [← hU2, s1_at, if_neg (by omega), s1_at, if_neg (by omega), t2 i hi]
  have f2 : U2.2 = U.2 := by rw [← hU2]; exact t4
  have tm : TTM U2 (fun k => nn (U.1 5 k)) z := by
    refine ⟨by rw [f0 8 (by omega)]; exact hz, fun k hk => ?_, fun i hi => ?_⟩
    · rw [fj 5 (by omega) (by omega)]; exact (T3 k hk).2.1
    · rw [fj 11 (by omega) (by omega)]; exact hW i hi
  have tx : TTX (jsI V1 36 3 0) (fun k => nn (U.1 5 k)) z := by
    refine ⟨?_, fun k hk => ?_⟩
    · rw [s1_at, if_neg (by omega), s2 36 (by omega), T1]; exact hz
    · rw [s1_eq, if_neg (by omega), s2 37 (by omega), (T3 k hk).1]; exact (T3 k hk).2.1
  obtain ⟨V3, U3, p, k, v, e, n1, n2, tk, hqp, fx, fm⟩ := step_ok hb tx tm (Nat.zero_le z) (by rw [s1_at, if_pos ⟨rfl, rfl⟩]; rfl) f17
  have fxa : FX V1 (jsI V1 36 3 0) := ⟨fun j hj => by rw [s1_eq, if_neg hj], by rw [s1_at, if_neg (by omega)], rfl⟩
  have fx0 : FX V1 V3 := fxa.tr fx
  have hpz := tk.1
  have r0 : Rel V1 U2 := Rel_scr hv1 (fun _ _ => rfl) rfl (fun j j0 j3 _ _ => fj j j0 j3) (fun a ha => f0 a (by omega)) f2
  have rel3 : Rel V3 U3 := Rel_tok r0 fx0 fm.fb
  have pe := items_loop hb (z - p) p k v e 1 2000 2000 V3 U3 (by omega) (by omega) (by omega) (by omega) (tx.fx fx) (tm.fb fm.fb) tk rel3 (by rw [fm.2.1 20 (by omega)]; exact f20)
  have xi : mX4_readItems V1 = mX4_readItems_b6 2000 (nI 1) V3 := by
    unfold mX4_readItems mX3_start
    rw [jl_eq, n1, Option.bind_some, Option.bind_some]; rfl
  have mi : mX5_plan U = (mX5_item U3).bind (fun p4 => mX5_plan_b46 2000 (nI 1) p4) := by
    unfold mX5_plan
    rw [show (0 : Int32) = nI 0 from rfl, t1]
    unfold pEnd
    rw [mX5_plan_b2, if_pos (show (120 : Int32) ≤ nI 120 by decide), jl_eq, jl_eq, show jsI (jsI U1 0 17 0) 0 20 0 = U2 from hU2, n2, Option.bind_some]; rfl
  have lx3 : LX V1 V3 := fx0.lx
  have lm3 : LM U2 U3 := fm.lm
  unfold mX4_plan
  rw [s1, Option.bind_some, xi, mi]
  rcases pe with ⟨a, V4, U4, ha, r1, r2, r3, lx, lm⟩ | ⟨x, q, V4, U4, hq, r1, r2, r3, lx, lm⟩
  · rw [r1, r2, Option.bind_some]
    show ∃ r V' U', (if (0 : Int32) ≤ nI a then mX4_plan_b38 (nI a) V4 else _) = some (r, V') ∧ _ = some (r, U') ∧ Rel V' U'
    rw [if_pos (nI_pos' ha)]
    unfold mX4_plan_b38 mX5_plan_b95
    have b20 : (jsI (jsI U4 0 20 0) 0 8 0).1 0 20 = 0 := by rw [s1_at, if_neg (by omega), s1_at, if_pos ⟨rfl, rfl⟩]
    rw [jl_eq, show jzb 0 = true by decide, jg_t, jl_eq, jl_eq, b20, if_pos rfl]
    refine ⟨nI a, _, _, rfl, rfl, ?_⟩
    have e0 : ∀ j, j ≠ 36 → (jsI V4 36 1 0).1 j = V4.1 j := fun j hj => by rw [s1_eq, if_neg hj]
    have e1 : ∀ j, j ≠ 0 → (jsI (jsI U4 0 20 0) 0 8 0).1 j = U4.1 j := fun j hj => by rw [s1_eq, if_neg hj, s1_eq, if_neg hj]
    exact Rel_fin r3 (ReL_fr r3.1 (fun j _ _ => e0 j (by omega)) rfl (e1 1 (by omega)) rfl) (fun j hj => e0 j (by omega)) (by rw [s1_at, if_pos ⟨rfl, rfl⟩]) (fun _ _ => rfl) (fun j hj => e1 j (by omega)) (by rw [s1_at, if_neg (by omega), s1_at, if_neg (by omega)]) (by rw [s1_at, if_pos ⟨rfl, rfl⟩]) rfl
  · obtain ⟨W, w1, w2, w3, w4⟩ := x_become 1 21 V4 (by omega)
    have neg : ¬ ((0 : Int32) ≤ -1 - nI q) := (by decide +kernel : ∀ q, q < 121 → ¬ ((0 : Int32) ≤ -1 - nI q)) q (by omega)
    rw [r1, r2, Option.bind_some]
    show ∃ r V' U', (if (0 : Int32) ≤ -1 - nI q then _ else (mX0_become 1 21 V4).bind (fun p4 => mX4_plan_b38 (-1 - nI q) p4)) = some (r, V') ∧ _ = some (r, U') ∧ Rel V' U'
    rw [if_neg neg, w1, Option.bind_some]
    unfold mX4_plan_b38 mX5_plan_b95
    have b20 : (jsI (jsI U4 0 20 1) 0 8 0).1 0 20 = 1 := by rw [s1_at, if_neg (by omega), s1_at, if_pos ⟨rfl, rfl⟩]
    have b16 : (jsI (jsI U4 0 20 1) 0 8 0).1 0 16 = nI q := by rw [s1_at, if_neg (by omega), s1_at, if_neg (by omega)]; exact r3
    have e1 : ∀ j, j ≠ 0 → (jsI (jsI U4 0 20 1) 0 8 0).1 j = U4.1 j := fun j hj => by rw [s1_eq, if_neg hj, s1_eq, if_neg hj]
    obtain ⟨U5, k1, k2, k3, k4⟩ := m_back 120 0 2000 (jsI (jsI U4 0 20 1) 0 8 0) (by omega) (by omega) (fun i hi => absurd hi (Nat.not_lt_zero _))
    rw [jl_eq, show jzb 1 = true by decide, jg_t, jl_eq, jl_eq, b20, if_neg g_10, show mX5_plan_b114 2000 0 (jsI (jsI U4 0 20 1) 0 8 0) = _ from k1, b16]
    refine ⟨-1 - nI q, _, U5, rfl, rfl, ?_⟩
    have lxx := lx3.tr lx
    have lmm := lm3.tr lm
    have row : ∀ i, i < 120 → U5.1 1 i = U.1 1 i := fun i hi => by
      rw [k2 i hi, e1 3 (by omega), lmm.1 3 (by omega), f3 i hi]
    have u2 : U5.2 = U.2 := by rw [k4]; show U4.2 = U.2; rw [lmm.2.2, f2]
    have v2 : V4.2 = V1.2 := lxx.2.2
    have xl4 : XL (V4.1 21) (V4.1 (21 + 1)) (V4.1 (21 + 2)) (V4.1 (21 + 3)) (V4.1 (21 + 4)) (V4.1 (21 + 5)) (V4.1 (21 + 6)) (V4.1 (21 + 7)) (V4.1 (21 + 8)) (V4.1 (21 + 9)) (V4.2 21 11) (U.1 1) (U.2 0 3) := by
      rw [v2, lxx.1 21 (by omega), lxx.1 (21 + 1) (by omega), lxx.1 (21 + 2) (by omega), lxx.1 (21 + 3) (by omega), lxx.1 (21 + 4) (by omega), lxx.1 (21 + 5) (by omega), lxx.1 (21 + 6) (by omega), lxx.1 (21 + 7) (by omega), lxx.1 (21 + 8) (by omega), lxx.1 (21 + 9) (by omega)]
      exact xl1
    have xl5 := xl_become w4 xl4 h.wf (s' := U5.1 1) (ss' := U5.2 0 3) row (by rw [u2])
    have e0 : ∀ j, j ≠ 36 → (jsI W 36 1 0).1 j = W.1 j := fun j hj => by rw [s1_eq, if_neg hj]
    have rl : ReL (jsI W 36 1 0) U5 := ReL_fr (V := W) (U := U5) ⟨xl5, wf_row row h.wf⟩ (fun j _ _ => e0 j (by omega)) rfl rfl rfl
    refine Rel_fin h rl (fun j hj => ?_) (by rw [s1_at, if_pos ⟨rfl, rfl⟩]) (fun j hj => ?_) (fun j hj => ?_) ?_ ?_ u2
    · rw [e0 j (by omega), w2 j (by omega), lxx.1 j (by omega), s2 j (by omega)]
    · show W.2 j = V.2 j
      rw [w3 j (by omega), v2, s3 j (by omega)]
    · rw [k3 j (by omega), e1 j (by omega), lmm.1 j (by omega), fj j (by omega) (by omega)]
    · rw [k3 0 (by omega), s1_at, if_neg (by omega), s1_at, if_neg (by omega), lmm.2.1 5 (by omega), f0 5 (by omega)]
    · rw [k3 0 (by omega), s1_at, if_pos ⟨rfl, rfl⟩]
end TL
