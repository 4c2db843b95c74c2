/-! the class's view of a Land and the reference's view of its row, in one set of words -/
theorem g_up {P : Nat → Nat → Prop} (N : Nat) (h0 : ∀ n, P (n + 1) N) (hs : ∀ n i, i < N → P n (i + 1) → P (n + 1) i) : ∀ n i, i ≤ N → N - i < n → P n i := by
  have key : ∀ k i n, i + k = N → k < n → P n i := by
    intro k
    induction k with
    | zero =>
      intro i n hi hk
      obtain ⟨n, rfl⟩ : ∃ n', n = n' + 1 := ⟨n - 1, by omega⟩
      obtain rfl : i = N := by omega
      exact h0 n
    | succ k ih =>
      intro i n hi hk
      obtain ⟨n, rfl⟩ : ∃ n', n = n' + 1 := ⟨n - 1, by omega⟩
      exact hs n i (by omega) (ih (i + 1) n (by omega) (by omega))
  intro n i hi hn
  exact key (N - i) i n (by omega) hn
theorem g_bcSet {p : Nat → Bool} {n : Nat} (hn : n ≤ 14) : mJ6_bitCount_0f7a4 (nI (gSet p n)) = nI (gCt p n) := by
  have hl : gSet p n < 2 ^ 14 := Nat.lt_of_lt_of_le (gSet_lt p n) (Nat.pow_le_pow_right (by decide) hn)
  rw [g_bc hl, gCt_more hn (fun i h1 h2 => by rw [gSet_bit, decide_eq_false (by omega)]; rfl)]
  congr 1
  exact gCt_congr (fun i hi => by rw [gSet_bit, decide_eq_true hi, Bool.true_and])
theorem gSet_and (p q : Nat → Bool) (n : Nat) : gSet p n &&& gSet q n = gSet (fun i => p i && q i) n := by
  refine g_ext (g_and_lt _ (gSet_lt _ _)) (gSet_lt _ _) (fun i hi => ?_)
  rw [Nat.testBit_and, gSet_bit, gSet_bit, gSet_bit]
  simp [hi]
theorem gSet_andN (p : Nat → Bool) (m n : Nat) : gSet p n &&& m = gSet (fun i => p i && m.testBit i) n := by
  refine g_ext (g_and_lt _ (gSet_lt _ _)) (gSet_lt _ _) (fun i hi => ?_)
  rw [Nat.testBit_and, gSet_bit, gSet_bit]
  simp [hi]
theorem gSet_orN {p : Nat → Bool} {m n : Nat} (hm : m < 2 ^ n) : gSet p n ||| m = gSet (fun i => p i || m.testBit i) n := by
  refine g_ext (g_or_lt (gSet_lt _ _) hm) (gSet_lt _ _) (fun i hi => ?_)
  rw [Nat.testBit_or, gSet_bit, gSet_bit]
  simp [hi]
theorem gSet_14 {p : Nat → Bool} {n : Nat} (hn : n ≤ 14) : gSet p n < 2 ^ 14 := Nat.lt_of_lt_of_le (gSet_lt p n) (Nat.pow_le_pow_right (by decide) hn)
/-- the class's Land holds the row s -/
def XLv (V : jMem) (s : Nat → Int32) : Prop := ∃ sp, XL (V.1 1) (V.1 2) (V.1 3) (V.1 4) (V.1 5) (V.1 6) (V.1 7) (V.1 8) (V.1 9) (V.1 10) (V.2 1 11) s sp
theorem Rel.xv {V U : jMem} (h : Rel V U) : XLv V (U.1 1) := ⟨_, h.xl⟩
section VW
variable {V : jMem} {s : Nat → Int32}
theorem XLv.n (h : XLv V s) (w : WF s) : V.1 1 0 = nI (gN s) ∧ gN s ≤ 14 := by
  obtain ⟨sp, h⟩ := h
  exact ⟨h.1.trans w.1.1, w.1.2⟩
theorem XLv.f (h : XLv V s) {f : Nat} (hf : f < gN s) : V.1 2 f = gF s f 0 ∧ V.1 3 f = gF s f 1 ∧ V.1 4 f = gF s f 2 ∧ V.1 5 f = gF s f 3 := by
  obtain ⟨sp, h⟩ := h
  exact h.2.2.2.2.2.2.2.2.1 f hf
theorem XLv.ours (h : XLv V s) : V.1 1 5 = nI (gOurs s) := by
  obtain ⟨sp, h⟩ := h
  exact h.2.1
theorem XLv.lost (h : XLv V s) : V.1 1 6 = nI (gSet (pLost s) (gN s)) := by
  obtain ⟨sp, h⟩ := h
  exact h.2.2.1
theorem XLv.pap (h : XLv V s) : V.1 1 7 = nI (gSet (pPap s) (gN s)) := by
  obtain ⟨sp, h⟩ := h
  exact h.2.2.2.1
theorem XLv.t (h : XLv V s) {t : Nat} (ht : t < gM s) : V.1 9 t = gT s t ∧ V.1 10 t = gR s t := by
  obtain ⟨sp, h⟩ := h
  exact h.2.2.2.2.2.2.2.2.2.2.2 t ht
theorem WF.f' (h : WF s) {f : Nat} (hf : f < gN s) : wfF s f := h.2.2.2.2.2.2.2.1 f hf
theorem WF.t' (h : WF s) {t : Nat} (ht : t < gM s) : wfT s t := h.2.2.2.2.2.2.2.2 t ht
theorem gOurs_lt (w : WF s) : gOurs s < 2 ^ 14 := gSet_14 w.1.2
theorem v_le (hn : V.1 1 0 = nI (gN s) ∧ gN s ≤ 14) {i : Nat} (hi : i < 2 ^ 31) : (V.1 1 0 ≤ nI i) ↔ gN s ≤ i := by
  rw [hn.1]
  exact nI_leI (by have := hn.2; omega) hi
theorem x_tellers (h : XLv V s) (w : WF s) {f : Nat} (hf : f < 14) : mX0_tellersOf (nI f) V = some (nI (gSet (pTell s f) (gN s))) := by
  have hn := h.n w
  refine g_up (P := fun n i => mX0_tellersOf_b4 V n (nI f) (nI (gSet (pTell s f) i)) (nI i) = some (nI (gSet (pTell s f) (gN s)))) (gN s) ?_ ?_ 2000 0 (by omega) (by omega)
  · intro n
    show mX0_tellersOf_b4 V (n + 1) _ _ _ = _
    unfold mX0_tellersOf_b4
    rw [if_pos ((v_le hn (by omega)).mpr (by omega))]
  · intro n i hi this
    show mX0_tellersOf_b4 V (n + 1) _ _ _ = _
    have hw := (w.f' hi).2.2.2.1
    have ht : nn (gF s i 3) < 2 ^ 31 := by have := hw.2; omega
    have e : pTell s f i = (!decide (i = f) && (nn (gF s i 3)).testBit f) := rfl
    rw [gSet, e] at this
    unfold mX0_tellersOf_b4
    rw [if_neg (fun z => by have := (v_le hn (by omega)).mp z; omega), g_jin (show i < 14 by omega) (by omega), jg_t, g_cl (by omega), (h.f hi).2.2.2, hw.1, x_isIn ht (by omega)]
    simp only [nI_eq (show i < 2 ^ 31 by omega) (show f < 2 ^ 31 by omega), jl_eq, g_one i (by omega), g_or]
    unfold mX0_tellersOf_b36
    rw [nI_1]
    by_cases h1 : i = f
    · rw [if_pos h1]
      simp [h1] at this
      rw [h1]
      exact this
    · rw [if_neg h1]
      by_cases h3 : (nn (gF s i 3)).testBit f = true
      · rw [if_pos h3, if_neg g_10]
        simp [h1, h3] at this
        exact this
      · rw [if_neg h3, if_pos rfl]
        simp [h1, h3] at this
        exact this
theorem x_heard (h : XLv V s) (w : WF s) {f m : Nat} (hf : f < 14) : mX0_heardBy (nI f) (nI m) V = some (nI (gHeard s f m)) := by
  unfold mX0_heardBy
  rw [x_tellers h w hf, Option.bind_some, g_and, gSet_andN, g_bcSet (show gN s ≤ 14 from w.1.2)]
  congr 2
  exact gCt_congr (fun i hi => Bool.and_comm _ _)
theorem x_hearing (h : XLv V s) (w : WF s) {f k : Nat} (hf : f < gN s) (hk : k ≤ 14) : mX0_priceHearing (nI f) (nI k) V = some (nI (gPr (nn (gF s f 0)) (nn (gF s f 1)) (nn (gF s f 2)) k)) := by
  have hn := h.n w
  obtain ⟨a0, a1, a2, a3⟩ := h.f hf
  obtain ⟨b0, b1, b2, -⟩ := w.f' hf
  unfold mX0_priceHearing
  rw [g_jin (show f < 14 by omega) (by omega), jg_t, g_cl (by omega), a0, a1, a2]
  rw [b0.1, b1.1.1, b2.1, x_price b0.2 b1.1.2 b2.2 hk, ← b0.1, ← b1.1.1, ← b2.1]
theorem x_by (h : XLv V s) (w : WF s) {f m : Nat} (hf : f < gN s) : mX0_priceBy (nI f) (nI m) V = some (nI (gAsk s f m)) := by
  have hn := h.n w
  unfold mX0_priceBy
  rw [x_heard h w (by omega), Option.bind_some, x_hearing h w hf (Nat.le_trans (gHeard_le f m) hn.2)]; rfl
theorem x_now (h : XLv V s) (w : WF s) {f : Nat} (hf : f < gN s) : mX0_priceNow (nI f) V = some (nI (gNow s f)) := by
  unfold mX0_priceNow
  rw [h.ours, x_by h w hf]; rfl
end VW
section VM
variable {U : jMem}
theorem m_ware (h : WF (U.1 1)) {f m : Nat} (hf : f < gN (U.1 1)) (hm : m < 2 ^ 31) : mX5_wareBy (nI f) (nI m) U = some (nI (gWare (nn (gF (U.1 1) f 2)) (gHeard (U.1 1) f m))) := by
  have hn := h.n
  have hw := (h.f hf).2.2.1
  have hh := gHeard_le (s := U.1 1) f m
  have hy := hw.2
  have e : (nI (nn (gF (U.1 1) f 2) + gHeard (U.1 1) f m) ≤ 9) ↔ nn (gF (U.1 1) f 2) + gHeard (U.1 1) f m ≤ 9 := nI_leI (b := 9) (by omega) (by omega)
  unfold mX5_wareBy
  rw [m_has2 (by omega), Option.bind_some, m_heard h (by omega) hm, Option.bind_some, hw.1, nI_add, ← hw.1]
  simp only [e]
  unfold gWare
  by_cases h1 : nn (gF (U.1 1) f 2) + gHeard (U.1 1) f m ≤ 9
  · rw [if_pos h1]
    by_cases h2 : nn (gF (U.1 1) f 2) + gHeard (U.1 1) f m < 9
    · rw [if_pos h2]
    · rw [if_neg h2, show nn (gF (U.1 1) f 2) + gHeard (U.1 1) f m = 9 by omega]
  · rw [if_neg h1, if_neg (by omega)]; rfl
theorem m_b68 {f k w h p st t : Nat} (hf : f < 14) (hk : gF (U.1 1) f 0 = nI k) (hk5 : k ≤ 5) (hw : w ≤ 9999) (hwp : w ≤ p) (hp : p ≤ 18998) (hs : st ≤ 28997) (ht : t ≤ 9) (hh : h ≤ 14) : mX5_asksBy_b68 U (nI f) (nI w) (nI h) (nI p) (nI st) (nI t) = some (nI (gK k w h (if k = 5 then gPlain w t else p) st)) := by
  have e1 : (nI k = 1) ↔ k = 1 := nI_eq (b := 1) (by omega) (by omega)
  have e2 : (nI k = 2) ↔ k = 2 := nI_eq (b := 2) (by omega) (by omega)
  have e3 : (nI k = 3) ↔ k = 3 := nI_eq (b := 3) (by omega) (by omega)
  have e4 : (nI k = 4) ↔ k = 4 := nI_eq (b := 4) (by omega) (by omega)
  have e5 : (nI k = 5) ↔ k = 5 := nI_eq (b := 5) (by omega) (by omega)
  have d1 : nI p - (nI p - nI w) / 2 = nI (p - (p - w) / 2) := by
    rw [pk_sub hwp, show (2 : Int32) = nI 2 from rfl, pk_div (by omega) (by omega) (by omega), pk_sub (by omega)]
  have d3 : nI p + 5 * nI h = nI (p + 5 * h) := by
    rw [show (5 : Int32) = nI 5 from rfl, pk_mul, nI_add]
  have d4 : nI st + nI st / 2 = nI (st + st / 2) := by
    rw [show (2 : Int32) = nI 2 from rfl, pk_div (by omega) (by omega) (by omega), nI_add]
  have d5 : nI w + nI w * nI t / 10 + 5 * nI h = nI (gPlain w t + 5 * h) := by
    rw [g_plain hw ht, show (5 : Int32) = nI 5 from rfl, pk_mul, nI_add]
  unfold mX5_asksBy_b68 gK
  rw [m_has0 hf, Option.bind_some, hk]
  simp only [e1, e2, e3, e4, e5, d1, d3, d4, d5]
  by_cases h1 : k = 1
  · subst h1; rfl
  by_cases h2 : k = 2
  · subst h2; rfl
  by_cases h3 : k = 3
  · subst h3; rfl
  by_cases h4 : k = 4
  · subst h4; rfl
  by_cases h5 : k = 5
  · subst h5; rfl
  · simp only [if_neg h1, if_neg h2, if_neg h3, if_neg h4, if_neg h5]
theorem m_by (h : WF (U.1 1)) {f m : Nat} (hf : f < gN (U.1 1)) (hm : m < 2 ^ 31) : mX5_asksBy (nI f) (nI m) U = some (nI (gAsk (U.1 1) f m)) := by
  have hn := h.n
  obtain ⟨b0, b1, b2, -⟩ := h.f hf
  have hh := Nat.le_trans (gHeard_le (s := U.1 1) f m) hn.2
  have ha := gWare_le (nn (gF (U.1 1) f 2)) (gHeard (U.1 1) f m)
  unfold mX5_asksBy
  rw [m_has1 (by omega), Option.bind_some, m_heard h (by omega) hm, Option.bind_some, m_ware h hf hm, Option.bind_some, b1.1.1]
  unfold gAsk gPr gB
  generalize gWare (nn (gF (U.1 1) f 2)) (gHeard (U.1 1) f m) = a at *
  generalize gHeard (U.1 1) f m = q at *
  have hw := b1.1.2
  generalize nn (gF (U.1 1) f 1) = wo at *
  have hp := gPlain_le hw ha
  have e5 : (nI a < 5) ↔ a < 5 := nI_ltI (b := 5) (by omega) (by omega)
  have e9 : ((2 : Int32) * nI a ≤ 9) ↔ 2 * a ≤ 9 := by
    rw [show (2 : Int32) = nI 2 from rfl, pk_mul]; exact nI_leI (b := 9) (by omega) (by omega)
  have m2 : (2 : Int32) * nI a = nI (2 * a) := pk_mul 2 _
  have z0 : nI (gPlain wo a) + 0 = nI (gPlain wo a) := nI_add _ 0
  unfold mX5_asksBy_b47
  rw [g_plain hw ha, nI_add]
  simp only [e5, e9, z0]
  rw [m2]
  have main : ∀ st t, st = gStub wo a → t ≤ 9 → t = (if 2 * a < 9 then 2 * a else 9) → mX5_asksBy_b68 U (nI f) (nI wo) (nI q) (nI (gPlain wo a)) (nI st) (nI t) = some (nI (gK (nn (gF (U.1 1) f 0)) wo q (gPlain wo (if nn (gF (U.1 1) f 0) = 5 then (if 2 * a < 9 then 2 * a else 9) else a)) (gStub wo (if nn (gF (U.1 1) f 0) = 5 then (if 2 * a < 9 then 2 * a else 9) else a)))) := by
    intro st t h1 h2 h3
    subst h1
    rw [m_b68 (by omega) b0.1 b0.2 hw hp.1 hp.2.1 (gStub_le hw ha) h2 hh, h3]
    by_cases h5 : nn (gF (U.1 1) f 0) = 5
    · simp only [h5, gK]; rfl
    · simp only [if_neg h5]
  by_cases h9 : 2 * a ≤ 9
  · have ht : 2 * a = (if 2 * a < 9 then 2 * a else 9) := by split <;> omega
    by_cases h5 : a < 5
    · rw [if_pos h5, if_pos h9]; exact main _ _ (by unfold gStub; rw [if_pos h5]) h9 ht
    · omega
  · have ht : 9 = (if 2 * a < 9 then 2 * a else 9) := by split <;> omega
    by_cases h5 : a < 5
    · rw [if_pos h5, if_neg h9]; exact main _ 9 (by unfold gStub; rw [if_pos h5]) (by omega) ht
    · rw [if_neg h5, if_neg h9]; exact main _ 9 (by unfold gStub; rw [if_neg h5]) (by omega) ht
theorem m_now (h : WF (U.1 1)) {f : Nat} (hf : f < gN (U.1 1)) : mX5_asksNow (nI f) U = some (nI (gNow (U.1 1) f)) := by
  have := gOurs_lt h
  unfold mX5_asksNow
  rw [m_ours h, Option.bind_some, m_by h hf (by omega)]; rfl
end VM
