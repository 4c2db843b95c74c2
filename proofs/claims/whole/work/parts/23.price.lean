/-! what is HEARD, what is asked -/
def gWare (y h : Nat) : Nat := if y + h < 9 then y + h else 9
def gPlain (w a : Nat) : Nat := w + w * a / 10
def gStub (w a : Nat) : Nat := if a < 5 then gPlain w a else gPlain w a + w
def gK (k w h p st : Nat) : Nat := if k = 1 then p - (p - w) / 2 else if k = 2 then st else if k = 3 then p + 5 * h else if k = 4 then st + st / 2 else if k = 5 then p + 5 * h else p
def gB (k w h a : Nat) : Nat := gK k w h (gPlain w a) (gStub w a)
def gPr (k w y h : Nat) : Nat := gB k w h (if k = 5 then (if 2 * gWare y h < 9 then 2 * gWare y h else 9) else gWare y h)
theorem gWare_le (y h : Nat) : gWare y h ≤ 9 := by unfold gWare; split <;> omega
theorem gPlain_le {w a : Nat} (hw : w ≤ 9999) (ha : a ≤ 9) : w ≤ gPlain w a ∧ gPlain w a ≤ 18998 ∧ w * a ≤ 89991 := by
  have h : w * a ≤ 9999 * 9 := Nat.mul_le_mul hw ha
  unfold gPlain
  generalize w * a = z at *
  omega
theorem gStub_le {w a : Nat} (hw : w ≤ 9999) (ha : a ≤ 9) : gStub w a ≤ 28997 := by
  have := gPlain_le hw ha
  unfold gStub; split <;> omega
theorem gK_le {k w h p st : Nat} (hp : p ≤ 18998) (hs : st ≤ 28997) (hh : h ≤ 14) : gK k w h p st ≤ 43500 := by
  unfold gK; repeat' split
  all_goals omega
theorem gB_le {k w h a : Nat} (hw : w ≤ 9999) (ha : a ≤ 9) (hh : h ≤ 14) : gB k w h a ≤ 43500 := gK_le (gPlain_le hw ha).2.1 (gStub_le hw ha) hh
theorem gPr_le {k w y h : Nat} (hw : w ≤ 9999) (hh : h ≤ 14) : gPr k w y h ≤ 43500 := by
  have := gWare_le y h
  exact gB_le hw (by split <;> (try split) <;> omega) hh
theorem gK_eq {k w h p st : Nat} (hk : k ≤ 5) (hw : w ≤ p) (hp : p ≤ 18998) (hs : st ≤ 28997) (hh : h ≤ 14) : mX4_priceOf_b49 (nI k) (nI w) (nI h) (nI p) (nI st) = nI (gK k w h p st) := by
  have e1 : (nI k = 1) ↔ k = 1 := nI_eq (b := 1) (by omega) (by omega)
  have e2 : (nI k = 2) ↔ k = 2 := nI_eq (b := 2) (by omega) (by omega)
  have e3 : (nI k = 3) ↔ k = 3 := nI_eq (b := 3) (by omega) (by omega)
  have e4 : (nI k = 4) ↔ k = 4 := nI_eq (b := 4) (by omega) (by omega)
  have e5 : (nI k = 5) ↔ k = 5 := nI_eq (b := 5) (by omega) (by omega)
  have d1 : nI p - (nI p - nI w) / 2 = nI (p - (p - w) / 2) := by
    rw [pk_sub hw, show (2 : Int32) = nI 2 from rfl, pk_div (by omega) (by omega) (by omega), pk_sub (by omega)]
  have d3 : nI p + 5 * nI h = nI (p + 5 * h) := by
    rw [show (5 : Int32) = nI 5 from rfl, pk_mul, nI_add]
  have d4 : nI st + nI st / 2 = nI (st + st / 2) := by
    rw [show (2 : Int32) = nI 2 from rfl, pk_div (by omega) (by omega) (by omega), nI_add]
  unfold mX4_priceOf_b49 gK
  simp only [e1, e2, e3, e4, e5, d1, d3, d4]
  repeat' split
  all_goals rfl
theorem g_plain {w a : Nat} (hw : w ≤ 9999) (ha : a ≤ 9) : nI w + nI w * nI a / 10 = nI (gPlain w a) := by
  have := gPlain_le hw ha
  rw [pk_mul, show (10 : Int32) = nI 10 from rfl, pk_div (by omega) (by omega) (by omega), nI_add]; rfl
theorem gB_eq {k w h a : Nat} (hk : k ≤ 5) (hw : w ≤ 9999) (ha : a ≤ 9) (hh : h ≤ 14) : mX4_priceOf_b23 (nI k) (nI w) (nI h) (nI a) = nI (gB k w h a) := by
  have hp := gPlain_le hw ha
  have hs := gStub_le hw ha
  have e : (nI a < 5) ↔ a < 5 := nI_ltI (b := 5) (by omega) (by omega)
  have e2 : nI (gPlain w a) + nI w = nI (gPlain w a + w) := nI_add _ _
  unfold mX4_priceOf_b23 gB gStub
  unfold gStub at hs
  simp only [g_plain hw ha, e, e2]
  by_cases h5 : a < 5
  · rw [if_pos h5] at hs
    rw [if_pos h5, if_pos h5, gK_eq hk hp.1 hp.2.1 hs hh]
  · rw [if_neg h5] at hs
    rw [if_neg h5, if_neg h5, gK_eq hk hp.1 hp.2.1 hs hh]
theorem x_ware {y h : Nat} (hy : y ≤ 99) (hh : h ≤ 99) : mX4_wareOf (nI y) (nI h) = nI (gWare y h) := by
  have e : (nI (y + h) < 9) ↔ y + h < 9 := nI_ltI (b := 9) (by omega) (by omega)
  unfold mX4_wareOf gWare
  simp only [nI_add, e]
  split <;> rfl
theorem x_price {k w y h : Nat} (hk : k ≤ 5) (hw : w ≤ 9999) (hy : y ≤ 9) (hh : h ≤ 14) : mX4_priceOf (nI k) (nI w) (nI y) (nI h) = nI (gPr k w y h) := by
  have ha := gWare_le y h
  have e5 : (nI k = 5) ↔ k = 5 := nI_eq (b := 5) (by omega) (by omega)
  have m2 : (2 : Int32) * nI (gWare y h) = nI (2 * gWare y h) := pk_mul 2 _
  have e9 : (nI (2 * gWare y h) < 9) ↔ 2 * gWare y h < 9 := nI_ltI (b := 9) (by omega) (by omega)
  unfold mX4_priceOf gPr
  simp only [x_ware (show y ≤ 99 by omega) (show h ≤ 99 by omega), jl_eq, e5, m2, e9]
  by_cases h5 : k = 5
  · rw [if_pos h5, if_pos h5]
    by_cases h9 : 2 * gWare y h < 9
    · rw [if_pos h9, if_pos h9]; exact gB_eq hk hw (by omega) hh
    · rw [if_neg h9, if_neg h9]; exact gB_eq hk hw (a := 9) (by omega) hh
  · rw [if_neg h5, if_neg h5]; exact gB_eq hk hw ha hh
def pTell (s : Nat → Int32) (f g : Nat) : Bool := !decide (g = f) && (nn (gF s g 3)).testBit f
def gHeard (s : Nat → Int32) (f m : Nat) : Nat := gCt (fun g => m.testBit g && pTell s f g) (gN s)
def gAsk (s : Nat → Int32) (f m : Nat) : Nat := gPr (nn (gF s f 0)) (nn (gF s f 1)) (nn (gF s f 2)) (gHeard s f m)
def gOurs (s : Nat → Int32) : Nat := gSet (pOurs s) (gN s)
def gNow (s : Nat → Int32) (f : Nat) : Nat := gAsk s f (gOurs s)
section PR
variable {V U : jMem}
theorem WF.n (h : WF (U.1 1)) : U.1 1 0 = nI (gN (U.1 1)) ∧ gN (U.1 1) ≤ 14 := ⟨h.1.1, h.1.2⟩
theorem WF.f (h : WF (U.1 1)) {f : Nat} (hf : f < gN (U.1 1)) : wfF (U.1 1) f := h.2.2.2.2.2.2.2.1 f hf
theorem WF.t (h : WF (U.1 1)) {t : Nat} (ht : t < gM (U.1 1)) : wfT (U.1 1) t := h.2.2.2.2.2.2.2.2 t ht
theorem gHeard_le {s : Nat → Int32} (f m : Nat) : gHeard s f m ≤ gN s := gCt_le _ _
theorem gAsk_le (h : WF (U.1 1)) {f : Nat} (hf : f < gN (U.1 1)) (m : Nat) : gAsk (U.1 1) f m ≤ 43500 := gPr_le (h.f hf).2.1.1.2 (Nat.le_trans (gHeard_le f m) h.n.2)
theorem m_le {U : jMem} (hn : U.1 1 0 = nI (gN (U.1 1)) ∧ gN (U.1 1) ≤ 14) {i : Nat} (hi : i < 2 ^ 31) : (U.1 1 0 ≤ nI i) ↔ gN (U.1 1) ≤ i := by
  rw [hn.1]
  exact nI_leI (by have := hn.2; omega) hi
theorem m_ours (h : WF (U.1 1)) : mX5_ours U = some (nI (gOurs (U.1 1))) := by
  have hn := h.n
  have key : ∀ k i n, i + k = gN (U.1 1) → k < n → mX5_ours_b4 U n (nI (gSet (pOurs (U.1 1)) i)) (nI i) = some (nI (gOurs (U.1 1))) := by
    intro k
    induction k with
    | zero =>
      intro i n hi hk
      obtain ⟨n, rfl⟩ : ∃ n', n = n' + 1 := ⟨n - 1, by omega⟩
      unfold mX5_ours_b4
      rw [if_pos ((m_le hn (by omega)).mpr (by omega)), show i = gN (U.1 1) by omega]; rfl
    | succ k ih =>
      intro i n hi hk
      obtain ⟨n, rfl⟩ : ∃ n', n = n' + 1 := ⟨n - 1, by omega⟩
      have := ih (i + 1) n (by omega) (by omega)
      have e : pOurs (U.1 1) i = decide (gF (U.1 1) i 4 = 1) := rfl
      rw [gSet, e] at this
      unfold mX5_ours_b4
      rw [if_neg (fun z => by have := (m_le hn (by omega)).mp z; omega), m_has4 (by omega), Option.bind_some, g_one i (by omega)]
      unfold mX5_ours_b32
      by_cases hc : gF (U.1 1) i 4 = 1
      · rw [if_pos hc, g_or, nI_1]
        rw [decide_eq_true hc, if_pos rfl] at this
        exact this
      · rw [if_neg hc, show (0 : Int32) = nI 0 from rfl, g_or, nI_1]
        rw [decide_eq_false hc, if_neg (by decide)] at this
        exact this
  exact key (gN (U.1 1)) 0 2000 (by omega) (by omega)
theorem m_heard (h : WF (U.1 1)) {f m : Nat} (hf : f < 14) (hm : m < 2 ^ 31) : mX5_heardBy (nI f) (nI m) U = some (nI (gHeard (U.1 1) f m)) := by
  have hn := h.n
  have key : ∀ k i n, i + k = gN (U.1 1) → k < n → mX5_heardBy_b5 U n (nI f) (nI m) (nI (gCt (fun g => m.testBit g && pTell (U.1 1) f g) i)) (nI i) = some (nI (gHeard (U.1 1) f m)) := by
    intro k
    induction k with
    | zero =>
      intro i n hi hk
      obtain ⟨n, rfl⟩ : ∃ n', n = n' + 1 := ⟨n - 1, by omega⟩
      unfold mX5_heardBy_b5
      rw [if_pos ((m_le hn (by omega)).mpr (by omega)), show i = gN (U.1 1) by omega]; rfl
    | succ k ih =>
      intro i n hi hk
      obtain ⟨n, rfl⟩ : ∃ n', n = n' + 1 := ⟨n - 1, by omega⟩
      have := ih (i + 1) n (by omega) (by omega)
      have hw := (h.f (f := i) (by omega)).2.2.2.1
      have ht : nn (gF (U.1 1) i 3) < 2 ^ 31 := by have := hw.2; omega
      have e : pTell (U.1 1) f i = (!decide (i = f) && (nn (gF (U.1 1) i 3)).testBit f) := rfl
      rw [gCt, e] at this
      unfold mX5_heardBy_b5
      rw [if_neg (fun z => by have := (m_le hn (by omega)).mp z; omega), m_has3 (by omega), Option.bind_some, hw.1]
      simp only [nI_eq (show i < 2 ^ 31 by omega) (show f < 2 ^ 31 by omega), g_bit1 hm (show i < 31 by omega), g_bit1 ht (show f < 31 by omega)]
      unfold mX5_heardBy_b52 mX5_heardBy_b53
      rw [show (0 : Int32) = nI 0 from rfl, nI_1, nI_add, nI_1]
      by_cases h1 : i = f
      · rw [if_pos h1]
        simp [h1] at this
        rw [h1]
        exact this
      · rw [if_neg h1]
        by_cases h2 : m.testBit i = true
        · rw [if_pos h2]
          by_cases h3 : (nn (gF (U.1 1) i 3)).testBit f = true
          · rw [if_pos h3]
            simp [h1, h2, h3] at this
            exact this
          · rw [if_neg h3]
            simp [h1, h2, h3] at this
            exact this
        · rw [if_neg h2]
          simp [h1, h2] at this
          exact this
  exact key (gN (U.1 1)) 0 2000 (by omega) (by omega)
end PR
