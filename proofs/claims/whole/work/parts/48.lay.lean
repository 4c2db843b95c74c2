/-! the order of least cost: the class lays its row -/
section LY
variable {V U V' U' : jMem}
theorem gCt_sub {p : Nat → Bool} {i n : Nat} (h : i ≤ n) : gCt p i ≤ gCt p n := by
  induction h with
  | refl => exact Nat.le_refl _
  | step _ ih => rw [gCt]; omega
theorem XLv_fr {s : Nat → Int32} (h : XLv V s) (a : ∀ j, 1 ≤ j → j ≤ 10 → V'.1 j = V.1 j) (b : V'.2 = V.2) : XLv V' s := by
  obtain ⟨sp, h⟩ := h
  refine ⟨sp, ?_⟩
  rw [a 1 (by omega) (by omega), a 2 (by omega) (by omega), a 3 (by omega) (by omega), a 4 (by omega) (by omega), a 5 (by omega) (by omega), a 6 (by omega) (by omega), a 7 (by omega) (by omega), a 8 (by omega) (by omega), a 9 (by omega) (by omega), a 10 (by omega) (by omega), b]
  exact h
theorem lay1 {s : Nat → Int32} (w : WF s) {p : Nat → Bool} (hc : gCt p (gN s) ≤ 10) : ∀ d i n (V : jMem), i + d = gN s → d < n → V.1 1 0 = nI (gN s) → V.1 31 0 = nI (gCt p i) → (∀ k, k < gCt p i → V.1 32 k = nI (gAt p (gN s) k)) → ∃ V', mX1_layRow_b7 n (nI (gSet p (gN s))) (nI i) V = mX1_layRow_b58 V' ∧ V'.1 31 0 = nI (gCt p (gN s)) ∧ (∀ k, k < gCt p (gN s) → V'.1 32 k = nI (gAt p (gN s) k)) ∧ (∀ j, j ≠ 31 → j ≠ 32 → V'.1 j = V.1 j) ∧ V'.2 = V.2 := by
  have hn : gN s ≤ 14 := w.1.2
  have hl : gSet p (gN s) < 2 ^ 14 := gSet_14 hn
  intro d
  induction d with
  | zero =>
    intro i n V hi hd h0 h1 h2
    obtain ⟨n, rfl⟩ : ∃ n', n = n' + 1 := ⟨n - 1, by omega⟩
    have hi' : i = gN s := by omega
    subst hi'
    unfold mX1_layRow_b7
    rw [if_pos ((v_le ⟨h0, hn⟩ (by omega)).mpr (Nat.le_refl _))]
    exact ⟨V, rfl, h1, h2, fun _ _ _ => rfl, rfl⟩
  | succ d ih =>
    intro i n V hi hd h0 h1 h2
    obtain ⟨n, rfl⟩ : ∃ n', n = n' + 1 := ⟨n - 1, by omega⟩
    have hs := gCt_sub (p := p) (show i ≤ gN s by omega)
    have hs1 := gCt_sub (p := p) (show i + 1 ≤ gN s by omega)
    have q10 : ((10 : Int32) ≤ nI (gCt p i)) ↔ 10 ≤ gCt p i := nI_leI (a := 10) (by omega) (by omega)
    unfold mX1_layRow_b7 mX1_layRow_b52
    rw [if_neg (fun z => by have := (v_le ⟨h0, hn⟩ (by omega)).mp z; omega), h1]
    simp only [q10]
    by_cases y : 10 ≤ gCt p i
    · rw [if_pos y]
      have e : gCt p i = gCt p (gN s) := by omega
      rw [← e]
      exact ⟨V, rfl, h1, h2, fun _ _ _ => rfl, rfl⟩
    · rw [if_neg y, x_isIn (by omega) (by omega), gSet_bit, decide_eq_true (show i < gN s by omega), Bool.true_and, nI_1, g_jin (show gCt p i < 10 by omega) (by omega), jg_t, jl_eq, jl_eq, g_cl (show gCt p i < 2 ^ 31 by omega)]
      by_cases z : p i = true
      · rw [if_pos z, if_neg g_10]
        have ce : gCt p (i + 1) = gCt p i + 1 := by rw [gCt, if_pos z]
        have hat : gAt p (gN s) (gCt p i) = i := by
          rw [gAt_mono (show i + 1 ≤ gN s by omega) (by omega), gAt_new z]
        have b1 : (jsI V 32 (gCt p i) (nI i)).1 31 0 = nI (gCt p i) := by rw [s1_at, if_neg (by omega)]; exact h1
        rw [b1, nI_1]
        obtain ⟨V', f1, f2, f3, f4, f5⟩ := ih (i + 1) n (jsI (jsI V 32 (gCt p i) (nI i)) 31 0 (nI (gCt p i + 1))) (by omega) (by omega) (by rw [s1_at, if_neg (by omega), s1_at, if_neg (by omega)]; exact h0) (by rw [s1_at, if_pos ⟨rfl, rfl⟩, ce]) (fun k hk => by
          rw [s1_at, if_neg (by omega), s1_at]
          by_cases e : k = gCt p i
          · rw [if_pos ⟨rfl, e⟩, e, hat]
          · rw [if_neg (fun q => e q.2)]; exact h2 k (by omega))
        refine ⟨V', f1, f2, f3, fun j j1 j2 => ?_, f5⟩
        rw [f4 j j1 j2, s1_eq, if_neg j1, s1_eq, if_neg j2]
      · rw [if_neg z, if_pos rfl]
        have ce : gCt p (i + 1) = gCt p i := by rw [gCt, if_neg z]; rfl
        exact ih (i + 1) n V (by omega) (by omega) h0 (by rw [ce]; exact h1) (fun k hk => h2 k (by omega))
/-- the price of the i-th, h of the row sold before it -/
def dP (s : Nat → Int32) (W : Nat → Nat) (i h : Nat) : Nat := gPr (nn (gF s (W i) 0)) (nn (gF s (W i) 1)) (nn (gF s (W i) 2)) (gHeard s (W i) (gOurs s) + h)
theorem h0_le {s : Nat → Int32} (f : Nat) : gHeard s f (gOurs s) ≤ gCt (pOurs s) (gN s) := by
  unfold gHeard
  refine gCt_mono (fun i hi h => ?_)
  unfold gOurs at h
  rw [gSet_bit, decide_eq_true hi, Bool.true_and, Bool.and_eq_true] at h
  exact h.1
theorem lay3 {s : Nat → Int32} {W : Nat → Nat} {c i : Nat} (w : WF s) (hd : DW s W c) (hi : i < c) (K : Int32 → jMem → Option jMem) : ∀ d h n (V : jMem), h + d = c → d < n → XLv V s → V.1 31 0 = nI c → V.1 32 i = nI (W i) → (∀ q, q < h → V.1 34 (10 * i + q) = nI (dP s W i q)) → ∃ V', mX1_layRow_b148 K n (nI i) (nI (gHeard s (W i) (gOurs s))) (nI h) V = K (nI (i + 1)) V' ∧ (∀ q, q < c → V'.1 34 (10 * i + q) = nI (dP s W i q)) ∧ (∀ j, j ≠ 34 → V'.1 j = V.1 j) ∧ (∀ a, (a < 10 * i ∨ 10 * i + 10 ≤ a) → V'.1 34 a = V.1 34 a) ∧ V'.2 = V.2 := by
  obtain ⟨d1, d2, d3, d4, d5⟩ := hd
  have hh := h0_le (s := s) (W i)
  intro d
  induction d with
  | zero =>
    intro h n V hh1 hn hv h1 h2 h3
    obtain ⟨n, rfl⟩ : ∃ n', n = n' + 1 := ⟨n - 1, by omega⟩
    obtain rfl : h = c := by omega
    unfold mX1_layRow_b148
    rw [h1, if_pos (nI_le (Nat.le_refl _) (by omega)), nI_1]
    exact ⟨V, rfl, h3, fun _ _ => rfl, fun _ _ => rfl, rfl⟩
  | succ d ih =>
    intro h n V hh1 hn hv h1 h2 h3
    obtain ⟨n, rfl⟩ : ∃ n', n = n' + 1 := ⟨n - 1, by omega⟩
    have e1 : nI i * 10 + nI h = nI (10 * i + h) := by
      show nI i * nI 10 + _ = _
      rw [pk_mul, nI_add, Nat.mul_comm]
    unfold mX1_layRow_b148
    rw [h1, if_neg (nI_ge (show h < c by omega) (by omega)), g_jin (show i < 10 by omega) (by omega), jg_t, g_cl (show i < 2 ^ 31 by omega), h2, nI_add, x_hearing hv w (d2 i hi) (by omega), Option.bind_some, e1, g_jin (show 10 * i + h < 100 by omega) (by omega), jg_t, jl_eq, g_cl (show 10 * i + h < 2 ^ 31 by omega), nI_1]
    obtain ⟨V', f1, f2, f3, f4, f5⟩ := ih (h + 1) n (jsI V 34 (10 * i + h) (nI (dP s W i h))) (by omega) (by omega) (XLv_fr hv (fun j j1 j2 => by rw [s1_eq, if_neg (by omega)]) rfl) h1 h2 (fun q hq => by
      rw [s1_at]
      by_cases e : q = h
      · rw [if_pos ⟨rfl, by omega⟩, e]
      · rw [if_neg (by omega)]; exact h3 q (by omega))
    refine ⟨V', f1, f2, fun j hj => ?_, fun a ha => ?_, f5⟩
    · rw [f3 j hj, s1_eq, if_neg hj]
    · rw [f4 a ha, s1_at, if_neg (by omega)]
theorem lay2 {s : Nat → Int32} {W : Nat → Nat} {c i : Nat} (w : WF s) (hd : DW s W c) (hi : i < c) (K : Int32 → jMem → Option jMem) : ∀ d k n (V : jMem), k + d = c → d < n → XLv V s → V.1 31 0 = nI c → (∀ q, q < c → V.1 32 q = nI (W q)) → V.1 33 i = nI (gSet (fun q => pTell s (W i) (W q)) k) → ∃ V', mX1_layRow_b90 K n (nI i) (nI (gSet (pTell s (W i)) (gN s))) (nI k) V = mX1_layRow_b148 K 2000 (nI i) (nI (gHeard s (W i) (gOurs s))) (nI 0) V' ∧ V'.1 33 i = nI (gSet (fun q => pTell s (W i) (W q)) c) ∧ (∀ j, j ≠ 33 → V'.1 j = V.1 j) ∧ (∀ a, a ≠ i → V'.1 33 a = V.1 33 a) ∧ V'.2 = V.2 := by
  obtain ⟨d1, d2, d3, d4, d5⟩ := hd
  have hN : gN s ≤ 14 := w.1.2
  have hT : gSet (pTell s (W i)) (gN s) < 2 ^ 14 := gSet_14 hN
  intro d
  induction d with
  | zero =>
    intro k n V hk hn hv h1 h2 h3
    obtain ⟨n, rfl⟩ : ∃ n', n = n' + 1 := ⟨n - 1, by omega⟩
    obtain rfl : k = c := by omega
    have e : gCt (fun g => pTell s (W i) g && (gOurs s).testBit g) (gN s) = gHeard s (W i) (gOurs s) := gCt_congr (fun g _ => Bool.and_comm _ _)
    unfold mX1_layRow_b90
    rw [h1, if_pos (nI_le (Nat.le_refl _) (by omega)), hv.ours, g_and, gSet_andN, g_bcSet hN, e]
    exact ⟨V, rfl, h3, fun _ _ => rfl, fun _ _ => rfl, rfl⟩
  | succ d ih =>
    intro k n V hk hn hv h1 h2 h3
    obtain ⟨n, rfl⟩ : ∃ n', n = n' + 1 := ⟨n - 1, by omega⟩
    have hwk := d2 k (by omega)
    unfold mX1_layRow_b90 mX1_layRow_b127
    rw [h1, if_neg (nI_ge (show k < c by omega) (by omega)), g_jin (show k < 10 by omega) (by omega), jg_t, g_cl (show k < 2 ^ 31 by omega), h2 k (by omega), x_isIn (by omega) (by omega), gSet_bit, decide_eq_true hwk, Bool.true_and, g_jin (show i < 10 by omega) (by omega), jg_t, jl_eq, g_cl (show i < 2 ^ 31 by omega), h3, g_one k (by omega), g_or, nI_1]
    have ce : gSet (fun q => pTell s (W i) (W q)) (k + 1) = gSet (fun q => pTell s (W i) (W q)) k ||| (if pTell s (W i) (W k) then 2 ^ k else 0) := rfl
    by_cases z : pTell s (W i) (W k) = true
    · rw [if_pos z, if_neg g_10]
      rw [if_pos z] at ce
      obtain ⟨V', f1, f2, f3, f4, f5⟩ := ih (k + 1) n (jsI V 33 i (nI (gSet (fun q => pTell s (W i) (W q)) k ||| 2 ^ k))) (by omega) (by omega) (XLv_fr hv (fun j j1 j2 => by rw [s1_eq, if_neg (by omega)]) rfl) h1 h2 (by rw [s1_at, if_pos ⟨rfl, rfl⟩, ce])
      refine ⟨V', f1, f2, fun j hj => ?_, fun a ha => ?_, f5⟩
      · rw [f3 j hj, s1_eq, if_neg hj]
      · rw [f4 a ha, s1_at, if_neg (by omega)]
    · rw [if_neg z, if_pos rfl]
      rw [if_neg z, Nat.or_zero] at ce
      exact ih (k + 1) n V (by omega) (by omega) hv h1 h2 (by rw [ce]; exact h3)
theorem lay0 {s : Nat → Int32} {W : Nat → Nat} {c : Nat} (w : WF s) (hd : DW s W c) : ∀ d i n (V : jMem), i + d = c → d < n → XLv V s → V.1 31 0 = nI c → (∀ q, q < c → V.1 32 q = nI (W q)) → (∀ a, a < i → V.1 33 a = nI (gSet (fun q => pTell s (W a) (W q)) c)) → (∀ a, a < i → ∀ h, h < c → V.1 34 (10 * a + h) = nI (dP s W a h)) → ∃ V', mX1_layRow_b60 n (nI i) V = some V' ∧ SX V' s W c ∧ (∀ j, j ≠ 33 → j ≠ 34 → V'.1 j = V.1 j) ∧ V'.2 = V.2 := by
  have d1 := hd.1
  have d2 := hd.2.1
  intro d
  induction d with
  | zero =>
    intro i n V hi hn hv h1 h2 h3 h4
    obtain ⟨n, rfl⟩ : ∃ n', n = n' + 1 := ⟨n - 1, by omega⟩
    obtain rfl : i = c := by omega
    unfold mX1_layRow_b60
    rw [h1, if_pos (nI_le (Nat.le_refl _) (by omega))]
    exact ⟨V, rfl, ⟨h1, h2, h3, h4⟩, fun _ _ _ => rfl, rfl⟩
  | succ d ih =>
    intro i n V hi hn hv h1 h2 h3 h4
    obtain ⟨n, rfl⟩ : ∃ n', n = n' + 1 := ⟨n - 1, by omega⟩
    have hi' : i < c := by omega
    have hwi := d2 i hi'
    have hN : gN s ≤ 14 := w.1.2
    unfold mX1_layRow_b60
    rw [h1, if_neg (nI_ge hi' (by omega)), g_jin (show i < 10 by omega) (by omega), jg_t, g_cl (show i < 2 ^ 31 by omega), h2 i hi', x_tellers hv w (by omega), Option.bind_some, jl_eq]
    obtain ⟨V1, f1, f2, f3, f4, f5⟩ := lay2 w hd hi' (mX1_layRow_b60 n) c 0 2000 (jsI V 33 i 0) (by omega) (by omega) (XLv_fr hv (fun j j1 j2 => by rw [s1_eq, if_neg (by omega)]) rfl) h1 h2 (by rw [s1_at, if_pos ⟨rfl, rfl⟩]; rfl)
    have g1 : ∀ j, j ≠ 33 → V1.1 j = V.1 j := fun j hj => by rw [f3 j hj, s1_eq, if_neg hj]
    obtain ⟨V2, e1, e2, e3, e4, e5⟩ := lay3 w hd hi' (mX1_layRow_b60 n) c 0 2000 V1 (by omega) (by omega) (XLv_fr hv (fun j j1 j2 => g1 j (by omega)) f5) (by rw [g1 31 (by omega)]; exact h1) (by rw [g1 32 (by omega)]; exact h2 i hi') (fun q hq => absurd hq (Nat.not_lt_zero _))
    rw [show (0 : Int32) = nI 0 from rfl, show (nI 0 : Int32) = 0 from rfl] at *
    obtain ⟨V3, k1, k2, k3, k4⟩ := ih (i + 1) n V2 (by omega) (by omega) (XLv_fr hv (fun j j1 j2 => by rw [e3 j (by omega), g1 j (by omega)]) (e5.trans f5)) (by rw [e3 31 (by omega), g1 31 (by omega)]; exact h1) (by rw [e3 32 (by omega), g1 32 (by omega)]; exact h2) (fun a ha => by
      rw [e3 33 (by omega)]
      by_cases e : a = i
      · rw [e]; exact f2
      · rw [f4 a e, s1_at, if_neg (by omega)]; exact h3 a (by omega)) (fun a ha h hh => by
      by_cases e : a = i
      · rw [e]; exact e2 h hh
      · rw [e4 _ (by omega), g1 34 (by omega)]; exact h4 a (by omega) h hh)
    refine ⟨V3, ?_, k2, fun j j1 j2 => ?_, ?_⟩
    · rw [← k1, ← e1]; exact f1
    · rw [k3 j j1 j2, e3 j j2, g1 j j1]
    · rw [k4, e5, f5]; rfl
theorem lay_row {s : Nat → Int32} (w : WF s) {p : Nat → Bool} (hv : XLv V s) (hd : DW s (gAt p (gN s)) (gCt p (gN s))) : ∃ V', mX1_layRow (nI (gSet p (gN s))) V = some V' ∧ SX V' s (gAt p (gN s)) (gCt p (gN s)) ∧ (∀ j, (j ≤ 30 ∨ 35 ≤ j) → V'.1 j = V.1 j) ∧ V'.2 = V.2 := by
  have hN : gN s ≤ 14 := w.1.2
  have hc := hd.1
  unfold mX1_layRow
  rw [jl_eq]
  obtain ⟨V1, f1, f2, f3, f4, f5⟩ := lay1 w (p := p) hd.1 (gN s) 0 2000 (jsI V 31 0 0) (by omega) (by omega) (hv.n w).1 rfl (fun k hk => absurd hk (Nat.not_lt_zero _))
  have g1 : ∀ j, j ≠ 31 → j ≠ 32 → V1.1 j = V.1 j := fun j j1 j2 => by rw [f4 j j1 j2, s1_eq, if_neg j1]
  obtain ⟨V2, e1, e2, e3, e4⟩ := lay0 w hd (gCt p (gN s)) 0 2000 V1 (by omega) (by omega) (XLv_fr hv (fun j j1 j2 => g1 j (by omega) (by omega)) f5) f2 f3 (fun a ha => absurd ha (Nat.not_lt_zero _)) (fun a ha => absurd ha (Nat.not_lt_zero _))
  refine ⟨V2, ?_, e2, fun j hj => ?_, e4.trans f5⟩
  · rw [← e1]; exact f1
  · rw [e3 j (by omega) (by omega), g1 j (by omega) (by omega)]
end LY
