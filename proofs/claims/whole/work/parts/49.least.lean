/-! least, order -/
section LE
variable {V U V' U' : jMem}
theorem run_x {V1 : jMem} {c : Nat} (hc : c ≤ 10) {x : Int32} (e1 : mX1_layRow x V = some V1) (e2 : V1.1 31 0 = nI c) : mX1_run x V = mX1_run_b27 2000 (nI (2 ^ c - 1) + -1) (jsI V1 35 (2 ^ c - 1) 0) := by
  have hp : (2 : Nat) ^ c ≤ 2 ^ 10 := Nat.pow_le_pow_right (by decide) hc
  have h1 : 1 ≤ 2 ^ c := Nat.one_le_two_pow
  have ea : nI (2 ^ c) - 1 = nI (2 ^ c - 1) := pk_sub (b := 1) h1
  have es : nI (2 ^ c - 1) - 1 = nI (2 ^ c - 1) + -1 := Int32.sub_eq_add_neg ..
  unfold mX1_run
  rw [e1, Option.bind_some, e2, g_one c (by omega), ea, jl_eq, g_jin (show 2 ^ c - 1 < 1024 by omega) (by omega), jg_t, jl_eq, g_cl (show 2 ^ c - 1 < 2 ^ 31 by omega), es]
theorem run_m {c : Nat} (hc : c ≤ 10) (e2 : U.1 0 13 = nI c) : mX5_findLeast U = mX5_findLeast_b20 2000 (nI (2 ^ c - 1) + -1) (jsI U 10 (2 ^ c - 1) 0) := by
  have hp : (2 : Nat) ^ c ≤ 2 ^ 10 := Nat.pow_le_pow_right (by decide) hc
  have h1 : 1 ≤ 2 ^ c := Nat.one_le_two_pow
  have ea : nI (2 ^ c) - 1 = nI (2 ^ c - 1) := pk_sub (b := 1) h1
  have es : nI (2 ^ c - 1) - 1 = nI (2 ^ c - 1) + -1 := Int32.sub_eq_add_neg ..
  unfold mX5_findLeast
  rw [e2, g_one c (by omega), ea, jl_eq, g_jin (show 2 ^ c - 1 < 1024 by omega) (by omega), jg_t, jl_eq, g_cl (show 2 ^ c - 1 < 2 ^ 31 by omega), es]
theorem dI_start {s : Nat → Int32} {W : Nat → Nat} {c : Nat} (V1 U : jMem) : dI s W c (2 ^ c - 1) (jsI V1 35 (2 ^ c - 1) 0) (jsI U 10 (2 ^ c - 1) 0) := by
  intro b hb hbc
  have e : b = 2 ^ c - 1 := by omega
  rw [s1_at, s1_at, if_pos ⟨rfl, e⟩, if_pos ⟨rfl, e⟩]
  exact ⟨isN_nI (k := 0) (Nat.zero_le _) (by omega), rfl, fun z => by omega⟩
theorem run_both {s : Nat → Int32} (w : WF s) {p : Nat → Bool} (hv : XLv V s) (hd : DW s (gAt p (gN s)) (gCt p (gN s))) (hu : SU U s (gAt p (gN s)) (gCt p (gN s))) : ∃ V' U', mX1_run (nI (gSet p (gN s))) V = some (V'.1 35 0, V') ∧ mX5_findLeast U = some (U'.1 10 0, U') ∧ dI s (gAt p (gN s)) (gCt p (gN s)) 0 V' U' ∧ SX V' s (gAt p (gN s)) (gCt p (gN s)) ∧ SU U' s (gAt p (gN s)) (gCt p (gN s)) ∧ (∀ j, (j ≤ 30 ∨ 36 ≤ j) → V'.1 j = V.1 j) ∧ V'.2 = V.2 ∧ (∀ j, j ≠ 10 → U'.1 j = U.1 j) ∧ U'.2 = U.2 := by
  obtain ⟨V1, e1, e2, e3, e4⟩ := lay_row w hv hd
  have hc := hd.1
  generalize gAt p (gN s) = W at *
  generalize gCt p (gN s) = c at *
  have hp : (2 : Nat) ^ c ≤ 2 ^ 10 := Nat.pow_le_pow_right (by decide) hc
  have h1 : 1 ≤ 2 ^ c := Nat.one_le_two_pow
  have x35 : SX (jsI V1 35 (2 ^ c - 1) 0) s W c := e2
  have x10 : SU (jsI U 10 (2 ^ c - 1) 0) s W c := hu
  obtain ⟨V', U', f1, f2, f3, f4, f5, f6, f7⟩ := dp_out w hd (2 ^ c - 1) 2000 2000 _ _ (by omega) (by omega) (Nat.le_refl _) x35 x10 (dI_start V1 U)
  rw [run_x hc e1 e2.1, run_m hc hu.2.1]
  refine ⟨V', U', f1, f2, f3, ?_, ?_, fun j hj => ?_, ?_, fun j hj => ?_, ?_⟩
  · unfold SX
    rw [f4 31 (by omega), f4 32 (by omega), f4 33 (by omega), f4 34 (by omega)]
    exact e2
  · unfold SU
    rw [f6 1 (by omega), f6 0 (by omega), f6 9 (by omega)]
    exact hu
  · rw [f4 j (by omega), s1_eq, if_neg (by omega), e3 j (by omega)]
  · rw [f5]; exact e4
  · rw [f6 j hj, s1_eq, if_neg hj]
  · rw [f7]; rfl
theorem dw_miss {s : Nat → Int32} (w : WF s) {t : Nat} (hc : gCt (pMiss s t) (gN s) ≤ 10) : DW s (gAt (pMiss s t) (gN s)) (gCt (pMiss s t) (gN s)) := by
  have hN : gN s ≤ 14 := w.1.2
  refine ⟨hc, fun k hk => (gAt_ok _ _ k hk).1, fun i j hij hj => gAt_lt hij hj, fun k hk => ?_, ?_⟩
  · obtain ⟨h1, h2⟩ := gAt_ok _ _ k hk
    have h2' : ((nn (gT s t)).testBit (gAt (pMiss s t) (gN s) k) && !pOurs s (gAt (pMiss s t) (gN s) k)) = true := h2
    rw [Bool.and_eq_true] at h2'
    have h3 : pOurs s (gAt (pMiss s t) (gN s) k) = false := by simpa using h2'.2
    unfold gOurs
    rw [gSet_bit, h3, Bool.and_false]
  · have := gCt_two (p := pOurs s) (q := pMiss s t) (n := gN s) (fun i _ a b => by
      unfold pMiss at b
      rw [a] at b
      simp at b)
    omega
theorem x_hind (h : Rel V U) {t : Nat} (ht : t < gM (U.1 1)) : mX4_hindranceOf (nI t) V = some (if gCan (U.1 1) t = true then (if gCt (pMiss (U.1 1) t) (gN (U.1 1)) ≤ 10 then 0 else -1000000007) else -1000000005) := by
  have w := h.wf
  have hv := h.xv
  have hN := h.n.2.2
  have hcl := gCt_le (pMiss (U.1 1) t) (gN (U.1 1))
  have q : (nI (gCt (pMiss (U.1 1) t) (gN (U.1 1))) ≤ 10) ↔ gCt (pMiss (U.1 1) t) (gN (U.1 1)) ≤ 10 := nI_leI (b := 10) (by omega) (by omega)
  unfold mX4_hindranceOf
  rw [x_canBe hv w ht, Option.bind_some, x_missing hv w ht, Option.bind_some, g_miss w ht, g_bcSet hN]
  simp only [q]
  by_cases z : gCan (U.1 1) t = true
  · rw [if_pos z, if_neg g_10, if_pos z]
    split <;> rfl
  · rw [if_neg z, if_pos rfl, if_neg z]
/-- what findWanted left -/
def WA (U U1 : jMem) (t : Nat) : Prop := U1.1 0 13 = nI (gCt (pMiss (U.1 1) t) (gN (U.1 1))) ∧ (∀ k, k < gCt (pMiss (U.1 1) t) (gN (U.1 1)) → U1.1 9 k = nI (gAt (pMiss (U.1 1) t) (gN (U.1 1)) k)) ∧ (∀ a, a ≠ 13 → U1.1 0 a = U.1 0 a) ∧ (∀ j, j ≠ 0 → j ≠ 9 → U1.1 j = U.1 j) ∧ U1.2 = U.2
theorem WA.rel {U1 : jMem} {t : Nat} (h : Rel V U) (wa : WA U U1 t) : Rel V U1 := Rel_scr h (fun _ _ => rfl) rfl (fun j q0 _ q9 _ => wa.2.2.2.1 j q0 q9) (fun a ha => wa.2.2.1 a (by omega)) wa.2.2.2.2
theorem least_both (h : Rel V U) {U1 : jMem} {t : Nat} (ht : t < gM (U.1 1)) (hc : gCt (pMiss (U.1 1) t) (gN (U.1 1)) ≤ 10) (wa : WA U U1 t) : ∃ V' U', mX1_run (nI (gSet (pMiss (U.1 1) t) (gN (U.1 1)))) V = some (V'.1 35 0, V') ∧ mX4_leastCost (nI t) V = some (V'.1 35 0 + gR (U.1 1) t, V') ∧ mX5_findLeast U1 = some (V'.1 35 0, U') ∧ Rel V' U' ∧ U'.1 1 = U.1 1 ∧ (∀ a, a ≠ 13 → U'.1 0 a = U.1 0 a) ∧ dI (U.1 1) (gAt (pMiss (U.1 1) t) (gN (U.1 1))) (gCt (pMiss (U.1 1) t) (gN (U.1 1))) 0 V' U' ∧ SX V' (U.1 1) (gAt (pMiss (U.1 1) t) (gN (U.1 1))) (gCt (pMiss (U.1 1) t) (gN (U.1 1))) ∧ SU U' (U.1 1) (gAt (pMiss (U.1 1) t) (gN (U.1 1))) (gCt (pMiss (U.1 1) t) (gN (U.1 1))) ∧ (∀ j, (j ≤ 30 ∨ 36 ≤ j) → V'.1 j = V.1 j) ∧ V'.2 = V.2 := by
  have w := h.wf
  have hv := h.xv
  have hm := h.m
  have hr := wa.rel h
  obtain ⟨w1, w2, w3, w4, w5⟩ := wa
  obtain ⟨V', U', e1, e2, e3, e4, e5, e6, e7, e8, e9⟩ := run_both (V := V) (U := U1) w (p := pMiss (U.1 1) t) hv (dw_miss w hc) ⟨w4 1 (by omega) (by omega), w1, w2⟩
  have e0 : U'.1 10 0 = V'.1 35 0 := (e3 0 (Nat.le_refl _) (Nat.two_pow_pos _)).2.1
  refine ⟨V', U', e1, ?_, by rw [e2, e0], ?_, ?_, fun a ha => ?_, e3, e4, e5, e6, e7⟩
  · unfold mX4_leastCost
    rw [x_missing hv w ht, Option.bind_some, g_miss w ht, e1, Option.bind_some, g_jin (show t < 6 by omega) (by omega), jg_t, g_cl (show t < 2 ^ 31 by omega), e6 10 (by omega), (hv.t ht).2]
  · exact Rel_scr hr (fun j hj => e6 j (by omega)) e7 (fun j _ _ _ q => e8 j q) (fun a _ => by rw [e8 0 (by omega)]) e9
  · rw [e8 1 (by omega), w4 1 (by omega) (by omega)]
  · rw [e8 0 (by omega), w3 a ha]
theorem op_least_ok : op_least Rel := by
  intro a1 V U h
  obtain ⟨V1, U1, e1, e2, h1⟩ := ref_of (-1000000001) 0 (by omega) (by decide) h
  obtain ⟨V5, U5, e5, e6, h5⟩ := ref_of (-1000000005) 4 (by omega) (by decide) h
  have w := h.wf
  have hm := h.m
  unfold mX4_least mX5_least
  rcases t_ix h a1 with ⟨c1, c2⟩ | ⟨t, ht, rfl, c1, c2⟩
  · rw [if_pos c1, if_pos c2, e1, e2]; exact ⟨_, V1, U1, rfl, rfl, h1⟩
  rw [c1, c2, if_neg g_10, if_neg g_10, x_hind h ht, m_canBe w ht, Option.bind_some, Option.bind_some]
  by_cases hc : gCan (U.1 1) t = true
  · obtain ⟨Uw, m1, m2, m3, m4, m5, m6⟩ := m_want w ht
    have wa : WA U Uw t := ⟨m2, m3, m4, m5, m6⟩
    have hr := wa.rel h
    have hcl := gCt_le (pMiss (U.1 1) t) (gN (U.1 1))
    have hN := h.n.2.2
    have q : (nI (gCt (pMiss (U.1 1) t) (gN (U.1 1))) ≤ 10) ↔ gCt (pMiss (U.1 1) t) (gN (U.1 1)) ≤ 10 := nI_leI (b := 10) (by omega) (by omega)
    have y : (108 : Int32) + 2 * nI t + 1 = nI (109 + 2 * t) := by
      show nI 108 + nI 2 * nI t + nI 1 = _
      rw [pk_mul, nI_add, nI_add]; congr 1; omega
    rw [if_pos hc, if_pos hc, if_neg g_10, m1, Option.bind_some, m2]
    simp only [q]
    by_cases z : gCt (pMiss (U.1 1) t) (gN (U.1 1)) ≤ 10
    · obtain ⟨V', U', f0, f1, f2, f3, f4, f5, -⟩ := least_both h ht z wa
      rw [if_pos z, if_pos z, if_pos rfl, f1, f2, Option.bind_some, Option.bind_some, y, g_jin (show 109 + 2 * t < 120 by omega) (by omega), jg_t, g_cl (show 109 + 2 * t < 2 ^ 31 by omega)]
      refine ⟨V'.1 35 0 + gR (U.1 1) t, V', U', rfl, ?_, f3⟩
      show some (V'.1 35 0 + U'.1 1 (109 + 2 * t), U') = _
      rw [f4]; rfl
    · obtain ⟨V7, U7, e7, e8, h7⟩ := ref_of (-1000000007) 6 (by omega) (by decide) hr
      rw [if_neg z, if_neg z, if_neg (by decide), e7, e8]
      exact ⟨_, V7, U7, rfl, rfl, h7⟩
  · rw [if_neg hc, if_neg hc, if_pos rfl, if_neg (by decide), e5, e6]
    exact ⟨_, V5, U5, rfl, rfl, h5⟩
theorem next_both {s : Nat → Int32} {W : Nat → Nat} {c b : Nat} (w : WF s) (hd : DW s W c) (hx : SX V s W c) (hu : SU U s W c) (hi : dI s W c 0 V U) (hb : b < 2 ^ c) (K : Int32 → Int32 → Int32 → Int32 → Int32 → jMem → Option (Int32 × jMem)) (a2 a6 : Int32) : ∀ d j n n2, j + d = c → d < n → d < n2 → (∃ i, j ≤ i ∧ i < c ∧ b.testBit i = false ∧ V.1 35 b = nI (dAsk s W c i b) + V.1 35 (b ||| 2 ^ i)) → ∃ i, i < c ∧ b.testBit i = false ∧ mX1_nextOf_b2 V n (nI b) (nI j) = some (nI i) ∧ mX5_order_b104 K n2 a2 (V.1 35 b) (nI b) (-1) a6 (nI j) U = mX5_order_b179 K a2 (nI b) (nI i) a6 U := by
  have hp : (2 : Nat) ^ c ≤ 2 ^ 10 := Nat.pow_le_pow_right (by decide) hd.1
  have hc := hd.1
  intro d
  induction d with
  | zero =>
    intro j n n2 hj hn hn2 hex
    obtain ⟨i, h1, h2, -⟩ := hex
    omega
  | succ d ih =>
    intro j n n2 hj hn hn2 hex
    obtain ⟨n, rfl⟩ : ∃ n', n = n' + 1 := ⟨n - 1, by omega⟩
    obtain ⟨n2, rfl⟩ : ∃ n', n2 = n' + 1 := ⟨n2 - 1, by omega⟩
    have hj' : j < c := by omega
    have ho := or_bit_lt hb hj'
    have qb : ((nI b >>> (nI j &&& 31)) &&& 1 = 0) ↔ b.testBit j = false := g_bit1' (by omega) (by omega)
    have u10 : U.1 10 (b ||| 2 ^ j) = V.1 35 (b ||| 2 ^ j) := (hi _ (Nat.zero_le _) ho).2.1
    have skip : (b.testBit j = true ∨ ¬ nI (dAsk s W c j b) + V.1 35 (b ||| 2 ^ j) = V.1 35 b) → ∃ i, j + 1 ≤ i ∧ i < c ∧ b.testBit i = false ∧ V.1 35 b = nI (dAsk s W c i b) + V.1 35 (b ||| 2 ^ i) := by
      intro hz
      obtain ⟨i, h1, h2, h3, h4⟩ := hex
      refine ⟨i, ?_, h2, h3, h4⟩
      rcases Nat.lt_or_ge j i with e | e
      · exact e
      · have : i = j := by omega
        subst this
        rcases hz with hz | hz
        · rw [hz] at h3; cases h3
        · exact absurd h4.symm hz
    unfold mX1_nextOf_b2 mX5_order_b104 mX1_nextOf_b35 mX5_order_b157 mX5_order_b158 mX5_order_b171
    rw [hx.1, hu.2.1, if_neg (nI_ge hj' (by omega)), if_neg (nI_ge hj' (by omega)), if_neg (show ¬ ((0 : Int32) ≤ -1) by decide), x_isIn (by omega) (by omega), x_cost hd hx hj' hb, m_cost w hd hu hj' hb, Option.bind_some, Option.bind_some, g_one j (by omega), g_or, g_jin (show b ||| 2 ^ j < 1024 by omega) (by omega), jg_t, g_jin (show b < 1024 by omega) (by omega), jg_t, g_cl (show b ||| 2 ^ j < 2 ^ 31 by omega), g_cl (show b < 2 ^ 31 by omega), nI_1, u10, if_pos rfl, if_neg g_10]
    simp only [qb]
    by_cases z : b.testBit j = true
    · rw [if_pos z, if_neg g_10, if_neg (show ¬ b.testBit j = false by rw [z]; decide)]
      exact ih (j + 1) n n2 (by omega) (by omega) (by omega) (skip (.inl z))
    · have z2 : b.testBit j = false := by simpa using z
      rw [if_neg z, if_pos rfl, if_pos z2]
      by_cases y : nI (dAsk s W c j b) + V.1 35 (b ||| 2 ^ j) = V.1 35 b
      · rw [if_pos y, if_pos y]
        refine ⟨j, hj', z2, rfl, ?_⟩
        obtain ⟨n2, rfl⟩ : ∃ n', n2 = n' + 1 := ⟨n2 - 1, by omega⟩
        unfold mX5_order_b104
        by_cases q : U.1 0 13 ≤ nI (j + 1)
        · rw [if_pos q]
        · rw [if_neg q, if_pos (nI_pos' (by omega))]
      · rw [if_neg y, if_neg y]
        exact ih (j + 1) n n2 (by omega) (by omega) (by omega) (skip (.inr y))
theorem gCt_all {p : Nat → Bool} {n : Nat} (h : ∀ i, i < n → p i = true) : gCt p n = n := by
  induction n with
  | zero => rfl
  | succ n ih => rw [gCt, ih (fun i hi => h i (by omega)), h n (by omega)]; rfl
theorem order_loop {s : Nat → Int32} {W : Nat → Nat} {c pl : Nat} (w : WF s) (hd : DW s W c) (hx : SX V s W c) (hu : SU U s W c) (hi : dI s W c 0 V U) (hpl : pl < c) : ∀ d j n n2 b lx lm, j + d = pl + 1 → d < n → d < n2 → b < 2 ^ c → gCt b.testBit c = j → (j = 0 ∨ ∃ l, l < c ∧ lx = nI l ∧ lm = nI l) → ∃ f, f < 14 ∧ mX1_fieldAt_b23 V n (nI pl) (nI b) lx (nI j) = some (nI f) ∧ mX5_order_b92 n2 (nI pl) (V.1 35 b) (nI b) lm (nI j) U = some (nI f, U) := by
  have hp : (2 : Nat) ^ c ≤ 2 ^ 10 := Nat.pow_le_pow_right (by decide) hd.1
  have hc := hd.1
  have hN : gN s ≤ 14 := w.1.2
  intro d
  induction d with
  | zero =>
    intro j n n2 b lx lm hj hn hn2 hb hg hl
    obtain ⟨n, rfl⟩ : ∃ n', n = n' + 1 := ⟨n - 1, by omega⟩
    obtain ⟨n2, rfl⟩ : ∃ n', n2 = n' + 1 := ⟨n2 - 1, by omega⟩
    rcases hl with hl | ⟨l, h1, rfl, rfl⟩
    · omega
    · have hw := hd.2.1 l h1
      refine ⟨W l, by omega, ?_, ?_⟩
      · unfold mX1_fieldAt_b23
        rw [if_pos (nI_lt (show pl < j by omega) (by omega)), g_jin (show l < 10 by omega) (by omega), jg_t, g_cl (show l < 2 ^ 31 by omega), hx.2.1 l h1]
      · unfold mX5_order_b92
        rw [if_pos (nI_lt (show pl < j by omega) (by omega)), g_jin (show l < 14 by omega) (by omega), jg_t, g_cl (show l < 2 ^ 31 by omega), hu.2.2 l h1]
  | succ d ih =>
    intro j n n2 b lx lm hj hn hn2 hb hg hl
    obtain ⟨n, rfl⟩ : ∃ n', n = n' + 1 := ⟨n - 1, by omega⟩
    obtain ⟨n2, rfl⟩ : ∃ n', n2 = n' + 1 := ⟨n2 - 1, by omega⟩
    have hlt : b < 2 ^ c - 1 := by
      rcases Nat.lt_or_ge b (2 ^ c - 1) with e | e
      · exact e
      · have : b = 2 ^ c - 1 := by omega
        have := gCt_all (p := b.testBit) (n := c) (fun i hi => by rw [this, Nat.testBit_two_pow_sub_one, decide_eq_true hi])
        omega
    obtain ⟨i0, k1, k2, k3⟩ := (hi b (Nat.zero_le _) hb).2.2 hlt
    obtain ⟨i, h1, h2, h3, h4⟩ := next_both w hd hx hu hi hb (mX5_order_b92 n2) (nI pl) (nI j) c 0 2000 2000 (by omega) (by omega) (by omega) ⟨i0, Nat.zero_le _, k1, k2, k3⟩
    have ho := or_bit_lt hb h1
    have u10 : U.1 10 (b ||| 2 ^ i) = V.1 35 (b ||| 2 ^ i) := (hi _ (Nat.zero_le _) ho).2.1
    have h3' : mX1_nextOf (nI b) V = some (nI i) := h3
    have h4' : mX5_order_b104 (mX5_order_b92 n2) 2000 (nI pl) (V.1 35 b) (nI b) (-1) (nI j) 0 U = mX5_order_b179 (mX5_order_b92 n2) (nI pl) (nI b) (nI i) (nI j) U := h4
    unfold mX1_fieldAt_b23 mX5_order_b92
    rw [if_neg (nI_nlt (show j ≤ pl by omega) (by omega)), if_neg (nI_nlt (show j ≤ pl by omega) (by omega)), h3', Option.bind_some, h4']
    unfold mX5_order_b179
    rw [g_one i (by omega), g_or, jl_eq, jl_eq, g_jin (show b ||| 2 ^ i < 1024 by omega) (by omega), jg_t, g_cl (show b ||| 2 ^ i < 2 ^ 31 by omega), u10, nI_1]
    refine ih (j + 1) n n2 (b ||| 2 ^ i) (nI i) (nI i) (by omega) (by omega) (by omega) ho ?_ (.inr ⟨i, h1, rfl, rfl⟩)
    rw [gCt_on h2 h1 (fun k _ => ?_), hg]
    rw [Nat.testBit_or, Nat.testBit_two_pow]
    congr 1
    rw [decide_eq_decide]; exact eq_comm
theorem op_order_ok : op_order Rel := by
  intro a1 a2 V U h
  obtain ⟨V1, U1, e1, e2, h1⟩ := ref_of (-1000000001) 0 (by omega) (by decide) h
  obtain ⟨V5, U5, e5, e6, h5⟩ := ref_of (-1000000005) 4 (by omega) (by decide) h
  have w := h.wf
  have hm := h.m
  unfold mX4_order mX5_order mX4_order_b21 mX5_order_b20
  rcases t_ix h a1 with ⟨c1, c2⟩ | ⟨t, ht, rfl, c1, c2⟩
  · rw [if_pos c1, if_pos c2, e1, e2]; exact ⟨_, V1, U1, rfl, rfl, h1⟩
  rw [c1, c2, if_neg g_10, if_neg g_10]
  rcases f_in a2 0 9 0 9 rfl rfl with ⟨d1, d2⟩ | ⟨d1, d2, d3, d4⟩
  · rw [d1, d2, if_pos rfl, if_pos rfl, e1, e2]; exact ⟨_, V1, U1, rfl, rfl, h1⟩
  obtain ⟨pl, -, hpl, rfl⟩ := g_rng d1 d2 0 9 rfl rfl (by omega) (by omega)
  rw [d3, d4, if_neg g_10, if_neg g_10, x_hind h ht, m_canBe w ht, Option.bind_some, Option.bind_some]
  by_cases hc : gCan (U.1 1) t = true
  · obtain ⟨Uw, m1, m2, m3, m4, m5, m6⟩ := m_want w ht
    have wa : WA U Uw t := ⟨m2, m3, m4, m5, m6⟩
    have hr := wa.rel h
    have hcl := gCt_le (pMiss (U.1 1) t) (gN (U.1 1))
    have hN := h.n.2.2
    have q : (nI (gCt (pMiss (U.1 1) t) (gN (U.1 1))) ≤ 10) ↔ gCt (pMiss (U.1 1) t) (gN (U.1 1)) ≤ 10 := nI_leI (b := 10) (by omega) (by omega)
    have q2 : (nI pl < nI (gCt (pMiss (U.1 1) t) (gN (U.1 1)))) ↔ pl < gCt (pMiss (U.1 1) t) (gN (U.1 1)) := nI_ltI (by omega) (by omega)
    rw [if_pos hc, if_pos hc, if_neg g_10, m1, Option.bind_some, m2]
    simp only [q, q2]
    by_cases z : gCt (pMiss (U.1 1) t) (gN (U.1 1)) ≤ 10
    · obtain ⟨V', U', f0, f1, f2, f3, f4, f5, f6, f7, f8, f9, f10⟩ := least_both h ht z wa
      have hrr : Rel V' Uw := Rel_scr hr (fun j hj => f9 j (by omega)) f10 (fun _ _ _ _ _ => rfl) (fun _ _ => rfl) rfl
      obtain ⟨V4, U4, e3, e4, h4⟩ := ref_of (-1000000004) 3 (by omega) (by decide) hrr
      have hdw := dw_miss w z
      rw [if_pos z, if_pos z, if_pos rfl, f2, Option.bind_some, x_missing h.xv w ht, Option.bind_some, g_miss w ht, f0, Option.bind_some]
      show ∃ r V2 U2, (mX1_fieldAt (nI pl) V').bind _ = some (r, V2) ∧ _ = some (r, U2) ∧ Rel V2 U2
      unfold mX1_fieldAt
      rw [f7.1]
      rcases x_within (nI pl) (n := gCt (pMiss (U.1 1) t) (gN (U.1 1))) (by omega) with ⟨k1, k2⟩ | ⟨j, k1, k2, k3⟩
      · have : ¬ pl < gCt (pMiss (U.1 1) t) (gN (U.1 1)) := by
          rcases k2 with k2 | k2
          · exact absurd k2 (nI_pos (by omega))
          · rw [nI_leI (by omega) (by omega)] at k2; omega
        rw [k1, if_pos rfl, if_neg this, Option.bind_some, if_neg (by decide), e3, e4]
        exact ⟨_, V4, U4, rfl, rfl, h4⟩
      · obtain rfl : pl = j := (nI_eq (by omega) (by omega)).mp k2
        rw [k3, if_neg g_10, if_pos k1]
        have hz0 : gCt (0 : Nat).testBit (gCt (pMiss (U.1 1) t) (gN (U.1 1))) = 0 := gCt_false (fun i _ => Nat.zero_testBit i)
        obtain ⟨f, hf, g1, g2⟩ := order_loop (V := V') (U := U') w hdw f7 f8 f6 k1 (pl + 1) 0 2000 2000 0 0 (-1) (by omega) (by omega) (by omega) (Nat.two_pow_pos _) hz0 (.inl rfl)
        have g1' : mX1_fieldAt_b23 V' 2000 (nI pl) 0 0 0 = some (nI f) := g1
        have g2' : mX5_order_b92 2000 (nI pl) (V'.1 35 0) 0 (-1) 0 U' = some (nI f, U') := g2
        rw [g1', g2', Option.bind_some, if_pos (nI_pos' (by omega))]
        exact ⟨nI f, V', U', rfl, rfl, f3⟩
    · obtain ⟨V7, U7, e7, e8, h7⟩ := ref_of (-1000000007) 6 (by omega) (by decide) hr
      rw [if_neg z, if_neg z, if_neg (by decide), e7, e8]
      exact ⟨_, V7, U7, rfl, rfl, h7⟩
  · rw [if_neg hc, if_neg hc, if_pos rfl, if_neg (by decide), e5, e6]
    exact ⟨_, V5, U5, rfl, rfl, h5⟩
end LE
