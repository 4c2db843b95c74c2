/-! best, giveUp -/
section BE
variable {V U V' U' : jMem}
theorem i_nle {a b : Int32} : ¬ a ≤ b ↔ b < a := by
  rw [Int32.le_iff_toInt_le, Int32.lt_iff_toInt_lt]; omega
theorem i_nlt {a b : Int32} : ¬ a < b ↔ b ≤ a := by
  rw [Int32.le_iff_toInt_le, Int32.lt_iff_toInt_lt]; omega
theorem i_tr {a b c : Int32} (h : a ≤ b) (h2 : b ≤ c) : a ≤ c := by
  rw [Int32.le_iff_toInt_le] at *; omega
theorem Rel_15 (h : Rel V U) (x : Int32) : Rel V (jsI U 0 15 x) := Rel_scr h (fun _ _ => rfl) rfl (fun j q0 _ _ _ => by rw [s1_eq, if_neg q0]) (fun a ha => by rw [s1_at, if_neg (by omega)]) rfl
theorem bs_step (h : Rel V U) {t : Nat} (ht : t < gM (U.1 1)) : ∃ V' U', Rel V' U' ∧ U'.1 1 = U.1 1 ∧ U'.1 0 15 = U.1 0 15 ∧ (∀ j, (j ≤ 30 ∨ 36 ≤ j) → V'.1 j = V.1 j) ∧ V'.2 = V.2 ∧
    ((∃ r, ¬ r = 0 ∧ mX4_hindranceOf (nI t) V = some r ∧ V' = V ∧ ∀ n a, mX5_bestStrip_b4 (n + 1) a (nI t) U = mX5_bestStrip_b4 n a (nI (t + 1)) U') ∨
     (∃ x, mX4_hindranceOf (nI t) V = some 0 ∧ mX4_leastCost (nI t) V = some (x, V') ∧ ∀ n a, mX5_bestStrip_b4 (n + 1) a (nI t) U = if a < 0 then mX5_bestStrip_b4 n (nI t) (nI (t + 1)) (jsI U' 0 15 x) else if U'.1 0 15 ≤ x then mX5_bestStrip_b4 n a (nI (t + 1)) U' else mX5_bestStrip_b4 n (nI t) (nI (t + 1)) (jsI U' 0 15 x))) := by
  have w := h.wf
  have hm := h.m
  have hN := h.n.2.2
  have hh := x_hind h ht
  have hcl := gCt_le (pMiss (U.1 1) t) (gN (U.1 1))
  obtain ⟨Uw, m1, m2, m3, m4, m5, m6⟩ := m_want w ht
  have wa : WA U Uw t := ⟨m2, m3, m4, m5, m6⟩
  have hr := wa.rel h
  have u1 : Uw.1 1 = U.1 1 := m5 1 (by omega) (by omega)
  have w' : WF (Uw.1 1) := by rw [u1]; exact w
  have cb := m_canBe w' (t := t) (by rw [u1]; exact ht)
  rw [u1] at cb
  have q : ((10 : Int32) < nI (gCt (pMiss (U.1 1) t) (gN (U.1 1)))) ↔ 10 < gCt (pMiss (U.1 1) t) (gN (U.1 1)) := nI_ltI (a := 10) (by omega) (by omega)
  have ng : ¬ U.1 1 1 ≤ nI t := by
    rw [hm.1]; exact nI_ge ht (by omega)
  have y : (108 : Int32) + 2 * nI t + 1 = nI (109 + 2 * t) := by
    show nI 108 + nI 2 * nI t + nI 1 = _
    rw [pk_mul, nI_add, nI_add]; congr 1; omega
  by_cases hc : gCan (U.1 1) t = true
  · by_cases z : gCt (pMiss (U.1 1) t) (gN (U.1 1)) ≤ 10
    · obtain ⟨V', U', f0, f1, f2, f3, f4, f5, f6, f7, f8, f9, f10⟩ := least_both h ht z wa
      refine ⟨V', U', f3, f4, f5 15 (by omega), f9, f10, .inr ⟨V'.1 35 0 + gR (U.1 1) t, ?_, f1, fun n a => ?_⟩⟩
      · rw [hh, if_pos hc, if_pos z]
      · have nz : ¬ 10 < gCt (pMiss (U.1 1) t) (gN (U.1 1)) := by omega
        have rr : U'.1 1 (109 + 2 * t) = gR (U.1 1) t := by rw [f4]; rfl
        rw [mX5_bestStrip_b4]
        unfold mX5_bestStrip_b67 mX5_bestStrip_b74
        rw [if_neg ng, m1, Option.bind_some, cb, Option.bind_some, if_pos hc, if_neg g_10, m2, if_neg (show ¬ (10 : Int32) < nI (gCt (pMiss (U.1 1) t) (gN (U.1 1))) from fun k => nz (q.mp k)), f2, Option.bind_some, y, g_jin (show 109 + 2 * t < 120 by omega) (by omega), jg_t, jl_eq, g_cl (show 109 + 2 * t < 2 ^ 31 by omega), nI_1, jl_eq]
        show (if a < 0 then mX5_bestStrip_b4 n (nI t) (nI (t + 1)) (jsI U' 0 15 (V'.1 35 0 + U'.1 1 (109 + 2 * t))) else if U'.1 0 15 ≤ V'.1 35 0 + U'.1 1 (109 + 2 * t) then _ else _) = _
        rw [rr]
    · refine ⟨V, Uw, hr, u1, m4 15 (by omega), fun _ _ => rfl, rfl, .inl ⟨-1000000007, by decide, ?_, rfl, fun n a => ?_⟩⟩
      · rw [hh, if_pos hc, if_neg z]
      · rw [mX5_bestStrip_b4]
        unfold mX5_bestStrip_b74
        rw [if_neg ng, m1, Option.bind_some, cb, Option.bind_some, if_pos hc, if_neg g_10, m2, if_pos (show (10 : Int32) < nI (gCt (pMiss (U.1 1) t) (gN (U.1 1))) from q.mpr (by omega)), nI_1]
  · refine ⟨V, Uw, hr, u1, m4 15 (by omega), fun _ _ => rfl, rfl, .inl ⟨-1000000005, by decide, ?_, rfl, fun n a => ?_⟩⟩
    · rw [hh, if_neg hc]
    · rw [mX5_bestStrip_b4]
      unfold mX5_bestStrip_b74
      rw [if_neg ng, m1, Option.bind_some, cb, Option.bind_some, if_neg hc, if_pos rfl, nI_1]
theorem best_loop (M : Nat) : ∀ d i n n2 (V U : jMem) (a c : Int32), i + d = M → d < n → d < n2 → Rel V U → gM (U.1 1) = M → (a = -1 ∨ ∃ f, f < M ∧ a = nI f ∧ U.1 0 15 = c) → ∃ b V' U', mX4_best_b6 n a c (nI i) V = (if (0 : Int32) ≤ b then some (b, V') else (mX4_refuse (-1000000004) V').bind (fun p3 => some (p3.1, p3.2))) ∧ mX5_bestStrip_b4 n2 a (nI i) U = some (b, U') ∧ Rel V' U' := by
  intro d
  induction d with
  | zero =>
    intro i n n2 V U a c hi hn hn2 h hM hac
    obtain ⟨n, rfl⟩ : ∃ n', n = n' + 1 := ⟨n - 1, by omega⟩
    obtain ⟨n2, rfl⟩ : ∃ n', n2 = n' + 1 := ⟨n2 - 1, by omega⟩
    have hm := h.m
    refine ⟨a, V, U, ?_, ?_, h⟩
    · rw [mX4_best_b6, hm.2.1, if_pos (nI_le (show gM (U.1 1) ≤ i by omega) (by omega))]
    · rw [mX5_bestStrip_b4, hm.1, if_pos (nI_le (show gM (U.1 1) ≤ i by omega) (by omega))]
  | succ d ih =>
    intro i n n2 V U a c hi hn hn2 h hM hac
    obtain ⟨n, rfl⟩ : ∃ n', n = n' + 1 := ⟨n - 1, by omega⟩
    obtain ⟨n2, rfl⟩ : ∃ n', n2 = n' + 1 := ⟨n2 - 1, by omega⟩
    have hm := h.m
    have hi' : i < gM (U.1 1) := by omega
    have ng : ¬ V.1 1 14 ≤ nI i := by rw [hm.2.1]; exact nI_ge hi' (by omega)
    obtain ⟨V2, U2, r1, r2, r3, r4, r5, hcase⟩ := bs_step h hi'
    have hM2 : gM (U2.1 1) = M := by rw [r2]; exact hM
    rcases hcase with ⟨r, k1, k2, k3, k4⟩ | ⟨x, k1, k2, k3⟩
    · rw [mX4_best_b6]
      unfold mX4_best_b47
      rw [if_neg ng, k2, Option.bind_some, if_neg k1, k4, nI_1, ← k3]
      exact ih (i + 1) n n2 V2 U2 a c (by omega) (by omega) (by omega) r1 hM2 (by rw [r3]; exact hac)
    · rw [mX4_best_b6]
      unfold mX4_best_b42 mX4_best_b47
      rw [if_neg ng, k1, Option.bind_some, if_pos rfl, k2, Option.bind_some, k3, nI_1]
      have new : ∃ b V' U', mX4_best_b6 n (nI i) x (nI (i + 1)) V2 = (if (0 : Int32) ≤ b then some (b, V') else (mX4_refuse (-1000000004) V').bind (fun p3 => some (p3.1, p3.2))) ∧ mX5_bestStrip_b4 n2 (nI i) (nI (i + 1)) (jsI U2 0 15 x) = some (b, U') ∧ Rel V' U' := ih (i + 1) n n2 V2 (jsI U2 0 15 x) (nI i) x (by omega) (by omega) (by omega) (Rel_15 r1 x) hM2 (.inr ⟨i, by omega, rfl, by rw [s1_at, if_pos ⟨rfl, rfl⟩]⟩)
      rcases hac with rfl | ⟨f, hf, rfl, hc⟩
      · rw [if_pos (by decide), if_pos (by decide)]
        exact new
      · rw [if_neg (nI_pos (by omega)), if_neg (nI_pos (by omega)), r3, hc]
        show ∃ b V' U', (if c ≤ x then mX4_best_b6 n (nI f) c (nI (i + 1)) V2 else mX4_best_b6 n (nI i) x (nI (i + 1)) V2) = _ ∧ _ ∧ _
        by_cases z : c ≤ x
        · rw [if_pos z, if_pos z]
          exact ih (i + 1) n n2 V2 U2 (nI f) c (by omega) (by omega) (by omega) r1 hM2 (.inr ⟨f, hf, rfl, r3.trans hc⟩)
        · rw [if_neg z, if_neg z]
          exact new
theorem op_best_ok : op_best Rel := by
  intro V U h
  have hm := h.m
  obtain ⟨b, V', U', e1, e2, e3⟩ := best_loop (gM (U.1 1)) (gM (U.1 1)) 0 2000 2000 V U (-1) 0 (by omega) (by omega) (by omega) h rfl (.inl rfl)
  have e1' : mX4_best V = (if (0 : Int32) ≤ b then some (b, V') else (mX4_refuse (-1000000004) V').bind (fun p3 => some (p3.1, p3.2))) := e1
  have e2' : mX5_bestStrip U = some (b, U') := e2
  obtain ⟨V4, U4, e4, e5, h4⟩ := ref_of (-1000000004) 3 (by omega) (by decide) e3
  unfold mX5_best
  rw [e1', e2', Option.bind_some]
  show ∃ r V2 U2, _ = some (r, V2) ∧ (if (0 : Int32) ≤ b then some (b, U') else (mX5_finds (-1000000004) U').bind (fun p3 => some (p3.1, p3.2))) = some (r, U2) ∧ Rel V2 U2
  by_cases z : (0 : Int32) ≤ b
  · rw [if_pos z, if_pos z]
    exact ⟨b, V', U', rfl, rfl, e3⟩
  · rw [if_neg z, if_neg z, e4, e5]
    exact ⟨_, V4, U4, rfl, rfl, h4⟩
/-- a best is found that costs no more than g: the rest changes nothing of that -/
theorem bs_rest (M : Nat) (g : Int32) : ∀ d i n (V U : jMem) (f : Nat), i + d = M → d < n → Rel V U → gM (U.1 1) = M → f < M → U.1 0 15 ≤ g → ∃ f' U', f' < M ∧ mX5_bestStrip_b4 n (nI f) (nI i) U = some (nI f', U') ∧ Rel V U' ∧ U'.1 0 15 ≤ g := by
  intro d
  induction d with
  | zero =>
    intro i n V U f hi hn h hM hf hg
    obtain ⟨n, rfl⟩ : ∃ n', n = n' + 1 := ⟨n - 1, by omega⟩
    have hm := h.m
    refine ⟨f, U, hf, ?_, h, hg⟩
    rw [mX5_bestStrip_b4, hm.1, if_pos (nI_le (show gM (U.1 1) ≤ i by omega) (by omega))]
  | succ d ih =>
    intro i n V U f hi hn h hM hf hg
    obtain ⟨n, rfl⟩ : ∃ n', n = n' + 1 := ⟨n - 1, by omega⟩
    have hm := h.m
    have hi' : i < gM (U.1 1) := by omega
    obtain ⟨V2, U2, r1, r2, r3, r4, r5, hcase⟩ := bs_step h hi'
    have hM2 : gM (U2.1 1) = M := by rw [r2]; exact hM
    have hr : Rel V U2 := Rel_scr r1 (fun j hj => (r4 j (by omega)).symm) r5.symm (fun _ _ _ _ _ => rfl) (fun _ _ => rfl) rfl
    rcases hcase with ⟨r, k1, k2, k3, k4⟩ | ⟨x, k1, k2, k3⟩
    · rw [k4]
      exact ih (i + 1) n V U2 f (by omega) (by omega) hr hM2 hf (by rw [r3]; exact hg)
    · rw [k3, if_neg (nI_pos (by omega))]
      by_cases z : U2.1 0 15 ≤ x
      · rw [if_pos z]
        exact ih (i + 1) n V U2 f (by omega) (by omega) hr hM2 hf (by rw [r3]; exact hg)
      · rw [if_neg z]
        refine ih (i + 1) n V (jsI U2 0 15 x) i (by omega) (by omega) (Rel_15 hr x) hM2 (by omega) ?_
        rw [s1_at, if_pos ⟨rfl, rfl⟩]
        rw [r3] at z
        rw [Int32.le_iff_toInt_le] at *
        omega
theorem giveUp_loop (M : Nat) (g : Int32) : ∀ d i n n2 (V U : jMem) (a : Int32), i + d = M → d < n → d < n2 → Rel V U → gM (U.1 1) = M → (a = -1 ∨ ∃ f, f < M ∧ a = nI f ∧ g < U.1 0 15) → ∃ r b V' U', mX4_giveUp_b19 n g (nI i) V = some (r, V') ∧ mX5_bestStrip_b4 n2 a (nI i) U = some (b, U') ∧ Rel V' U' ∧ r = (if b < 0 then 1 else if U'.1 0 15 ≤ g then 0 else 1) := by
  intro d
  induction d with
  | zero =>
    intro i n n2 V U a hi hn hn2 h hM hac
    obtain ⟨n, rfl⟩ : ∃ n', n = n' + 1 := ⟨n - 1, by omega⟩
    obtain ⟨n2, rfl⟩ : ∃ n', n2 = n' + 1 := ⟨n2 - 1, by omega⟩
    have hm := h.m
    refine ⟨1, a, V, U, ?_, ?_, h, ?_⟩
    · rw [mX4_giveUp_b19, hm.2.1, if_pos (nI_le (show gM (U.1 1) ≤ i by omega) (by omega))]
    · rw [mX5_bestStrip_b4, hm.1, if_pos (nI_le (show gM (U.1 1) ≤ i by omega) (by omega))]
    · rcases hac with rfl | ⟨f, hf, rfl, hc⟩
      · rw [if_pos (by decide)]
      · rw [if_neg (nI_pos (by omega)), if_neg (i_nle.mpr hc)]
  | succ d ih =>
    intro i n n2 V U a hi hn hn2 h hM hac
    obtain ⟨n, rfl⟩ : ∃ n', n = n' + 1 := ⟨n - 1, by omega⟩
    obtain ⟨n2, rfl⟩ : ∃ n', n2 = n' + 1 := ⟨n2 - 1, by omega⟩
    have hm := h.m
    have hi' : i < gM (U.1 1) := by omega
    have ng : ¬ V.1 1 14 ≤ nI i := by rw [hm.2.1]; exact nI_ge hi' (by omega)
    obtain ⟨V2, U2, r1, r2, r3, r4, r5, hcase⟩ := bs_step h hi'
    have hM2 : gM (U2.1 1) = M := by rw [r2]; exact hM
    rcases hcase with ⟨r, k1, k2, k3, k4⟩ | ⟨x, k1, k2, k3⟩
    · rw [mX4_giveUp_b19]
      unfold mX4_giveUp_b49
      rw [if_neg ng, k2, Option.bind_some, if_neg k1, k4, nI_1, ← k3]
      exact ih (i + 1) n n2 V2 U2 a (by omega) (by omega) (by omega) r1 hM2 (by rw [r3]; exact hac)
    · rw [mX4_giveUp_b19]
      unfold mX4_giveUp_b49
      rw [if_neg ng, k1, Option.bind_some, if_pos rfl, k2, Option.bind_some, k3, nI_1]
      show ∃ r b V' U', (if g < x then mX4_giveUp_b19 n g (nI (i + 1)) V2 else some (0, V2)) = some (r, V') ∧ _ = some (b, U') ∧ Rel V' U' ∧ r = (if b < 0 then 1 else if U'.1 0 15 ≤ g then 0 else 1)
      have q15 : (jsI U2 0 15 x).1 0 15 = x := by rw [s1_at, if_pos ⟨rfl, rfl⟩]
      by_cases z : g < x
      · rw [if_pos z]
        have new : ∃ r b V' U', mX4_giveUp_b19 n g (nI (i + 1)) V2 = some (r, V') ∧ mX5_bestStrip_b4 n2 (nI i) (nI (i + 1)) (jsI U2 0 15 x) = some (b, U') ∧ Rel V' U' ∧ r = (if b < 0 then 1 else if U'.1 0 15 ≤ g then 0 else 1) := ih (i + 1) n n2 V2 (jsI U2 0 15 x) (nI i) (by omega) (by omega) (by omega) (Rel_15 r1 x) hM2 (.inr ⟨i, by omega, rfl, by rw [q15]; exact z⟩)
        rcases hac with rfl | ⟨f, hf, rfl, hc⟩
        · rw [if_pos (by decide)]
          exact new
        · rw [if_neg (nI_pos (by omega))]
          by_cases y : U2.1 0 15 ≤ x
          · rw [if_pos y]
            exact ih (i + 1) n n2 V2 U2 (nI f) (by omega) (by omega) (by omega) r1 hM2 (.inr ⟨f, hf, rfl, by rw [r3]; exact hc⟩)
          · rw [if_neg y]
            exact new
      · rw [if_neg z]
        obtain ⟨f', U3, p1, p2, p3, p4⟩ := bs_rest M g d (i + 1) n2 V2 (jsI U2 0 15 x) i (by omega) (by omega) (Rel_15 r1 x) hM2 (by omega) (by rw [q15]; exact i_nlt.mp z)
        have fin : (0 : Int32) = (if nI f' < 0 then 1 else if U3.1 0 15 ≤ g then 0 else 1) := by
          rw [if_neg (nI_pos (by omega)), if_pos p4]
        rcases hac with rfl | ⟨f, hf, rfl, hc⟩
        · rw [if_pos (by decide), p2]
          exact ⟨0, nI f', V2, U3, rfl, rfl, p3, fin⟩
        · have y : ¬ U2.1 0 15 ≤ x := by
            rw [r3]
            rw [Int32.lt_iff_toInt_lt] at *
            rw [Int32.le_iff_toInt_le]; omega
          rw [if_neg (nI_pos (by omega)), if_neg y, p2]
          exact ⟨0, nI f', V2, U3, rfl, rfl, p3, fin⟩
theorem op_giveUp_ok : op_giveUp Rel := by
  intro a1 V U h
  obtain ⟨V1, U1, e1, e2, h1⟩ := ref_of (-1000000001) 0 (by omega) (by decide) h
  have hm := h.m
  unfold mX4_giveUp mX5_giveUp
  rcases f_in a1 0 9999999 0 9999999 rfl rfl with ⟨d1, d2⟩ | ⟨d1, d2, d3, d4⟩
  · rw [d1, d2, if_pos rfl, if_pos rfl, e1, e2]; exact ⟨_, V1, U1, rfl, rfl, h1⟩
  rw [d3, d4, if_neg g_10, if_neg g_10]
  obtain ⟨r, b, V', U', k1, k2, k3, k4⟩ := giveUp_loop (gM (U.1 1)) a1 (gM (U.1 1)) 0 2000 2000 V U (-1) (by omega) (by omega) (by omega) h rfl (.inl rfl)
  have k1' : mX4_giveUp_b19 2000 a1 0 V = some (r, V') := k1
  have k2' : mX5_bestStrip U = some (b, U') := k2
  rw [k1', k2', Option.bind_some]
  refine ⟨r, V', U', rfl, ?_, k3⟩
  show (if b < 0 then some (1, U') else if U'.1 0 15 ≤ a1 then some (0, U') else some (1, U')) = _
  rw [k4]
  by_cases z : b < 0
  · rw [if_pos z, if_pos z]
  · rw [if_neg z, if_neg z]
    split <;> rfl
end BE
