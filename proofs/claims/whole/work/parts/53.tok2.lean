/-! the text: one TOKEN, on the reference's side -/
section TP
variable {V U V' U' : jMem} {bs : Nat → Nat} {z : Nat}
def TTM (U : jMem) (bs : Nat → Nat) (z : Nat) : Prop := U.1 0 8 = nI z ∧ (∀ k, k < z → U.1 5 k = nI (bs k)) ∧ ∀ i, i < 83 → U.1 11 i = V0m.1 11 i
theorem TTM_0 (tm : TTM U bs z) {k : Nat} (hk : k ≠ 8) (x : Int32) : TTM (jsI U 0 k x) bs z := by
  refine ⟨?_, fun q hq => ?_, fun i hi => ?_⟩
  · rw [s1_at, if_neg (fun h => hk h.2.symm)]; exact tm.1
  · rw [s1_eq, if_neg (by omega)]; exact tm.2.1 q hq
  · rw [s1_eq, if_neg (by omega)]; exact tm.2.2 i hi
theorem m_byte (hb : TTB bs z) (tm : TTM U bs z) {q : Nat} (hq : q ≤ 120) : mX5_byteAt (nI q) U = some (if q < z then nI (bs q) else -1) := by
  have h1 := hb.1
  have l : (nI z ≤ nI q) ↔ z ≤ q := nI_leI (by omega) (by omega)
  unfold mX5_byteAt
  rw [tm.1]
  simp only [l]
  by_cases y : q < z
  · rw [if_neg (by omega), if_pos y, g_jin (show q < 120 by omega) (by omega), jg_t, g_cl (show q < 2 ^ 31 by omega), tm.2.1 q y]
  · rw [if_pos (by omega), if_neg y]
theorem m_in {b lo hi : Nat} (hb : b < 2 ^ 31) (hlo : lo < 2 ^ 31) (hhi : hi < 2 ^ 31) : mX5_isIn (Int32.toInt64 (nI b)) (Int32.toInt64 (nI lo)) (Int32.toInt64 (nI hi)) = if lo ≤ b ∧ b ≤ hi then 1 else 0 := by
  have e1 : (nI b < nI lo) ↔ b < lo := nI_ltI hb hlo
  have e2 : (nI hi < nI b) ↔ hi < b := nI_ltI hhi hb
  unfold mX5_isIn
  simp only [lg_cmp_lt, lg_cmp_gt, g_wlt, e1, e2]
  repeat' split
  all_goals first | rfl | omega
theorem m_inN (lo hi : Nat) (h : lo < 2 ^ 31) : mX5_isIn (Int32.toInt64 (-1)) (Int32.toInt64 (nI lo)) (Int32.toInt64 (nI hi)) = 0 := by
  have e1 : (-1 : Int32) < nI lo := by
    rw [Int32.lt_iff_toInt_lt, nI_toInt h]
    have : (-1 : Int32).toInt = -1 := by decide
    omega
  unfold mX5_isIn
  simp only [lg_cmp_lt, lg_cmp_gt, g_wlt]
  rw [if_pos e1]
theorem m_isL {b : Nat} (hb : b ≤ 255) : mX5_isIn (Int32.toInt64 (nI b)) (97 : Int64) (122 : Int64) = if cL b then 1 else 0 := by
  rw [show (97 : Int64) = Int32.toInt64 (nI 97) from rfl, show (122 : Int64) = Int32.toInt64 (nI 122) from rfl, m_in (by omega) (by omega) (by omega)]
  unfold cL
  simp only [Bool.and_eq_true, decide_eq_true_eq]
theorem m_isD {b : Nat} (hb : b ≤ 255) : mX5_isIn (Int32.toInt64 (nI b)) (48 : Int64) (57 : Int64) = if cD b then 1 else 0 := by
  rw [show (48 : Int64) = Int32.toInt64 (nI 48) from rfl, show (57 : Int64) = Int32.toInt64 (nI 57) from rfl, m_in (by omega) (by omega) (by omega)]
  unfold cD
  simp only [Bool.and_eq_true, decide_eq_true_eq]
theorem m_noL : mX5_isIn (Int32.toInt64 (-1)) (97 : Int64) (122 : Int64) = 0 := m_inN 97 122 (by omega)
theorem m_noD : mX5_isIn (Int32.toInt64 (-1)) (48 : Int64) (57 : Int64) = 0 := m_inN 48 57 (by omega)
/-! a WORD among the fourteen -/
def wO (w : Nat) : Nat := [0, 6, 11, 20, 27, 32, 40, 45, 50, 54, 60, 66, 71, 77, 83].getD w 83
def wLen (w : Nat) : Nat := [5, 4, 8, 6, 4, 7, 4, 4, 3, 5, 5, 4, 5, 5].getD w 0
def wCh (w j : Nat) : Nat := nn (V0m.1 11 (wO w + j))
def sameTo (bs L : Nat → Nat) (p e : Nat) : Nat → Bool
  | 0 => true
  | j + 1 => sameTo bs L p e j && (decide (p + j < e) && decide (bs (p + j) = L j))
def eqB (bs : Nat → Nat) (p e w : Nat) : Bool := sameTo bs (wCh w) p e (wLen w) && decide (e = p + wLen w)
theorem w_tab : ∀ w, w < 14 → wO w + wLen w + 1 = wO (w + 1) ∧ V0m.1 11 (wO w + wLen w) = 0 ∧ wLen w ≤ 8 ∧ wO w + wLen w < 83 := by decide +kernel
theorem w_ch : ∀ w, w < 14 → ∀ j, j < wLen w → V0m.1 11 (wO w + j) = nI (wCh w j) ∧ wCh w j ≤ 255 ∧ ¬ V0m.1 11 (wO w + j) = 0 := by decide +kernel
theorem m_word1 (hb : TTB bs z) (tm : TTM U bs z) {p e w : Nat} (hw : w < 14) (hpe : p ≤ e) (he : e ≤ z) (h16 : U.1 0 16 = nI p) (h17 : U.1 0 17 = nI e) : ∀ d j n, j + d = wLen w → mX5_wordHere_b12 U (n + d + 1) (nI w) (nI (p + j)) (if sameTo bs (wCh w) p e j then 1 else 0) (nI (wO w + j)) = if eqB bs p e w then some (nI w) else mX5_wordHere_b12 U n (nI (w + 1)) (nI p) 1 (nI (wO (w + 1))) := by
  obtain ⟨t1, t2, t3, t4⟩ := w_tab w hw
  have h1 := hb.1
  intro d
  induction d with
  | zero =>
    intro j n hj
    obtain rfl : j = wLen w := by omega
    have q : (nI (p + wLen w) = nI e) ↔ e = p + wLen w := by
      rw [nI_eq (by omega) (by omega)]; omega
    rw [show n + 0 + 1 = n + 1 by omega, mX5_wordHere_b12]
    unfold mX5_wordHere_b43 mX5_wordHere_b92
    rw [if_neg (show ¬ ((83 : Int32) ≤ nI (wO w + wLen w)) from nI_ge (b := 83) (by omega) (by omega)), g_jin (show wO w + wLen w < 83 by omega) (by omega), jg_t, g_cl (show wO w + wLen w < 2 ^ 31 by omega), tm.2.2 _ (by omega), t2, if_pos rfl, h16, h17, nI_1, nI_1, t1]
    simp only [q]
    unfold eqB
    by_cases y : sameTo bs (wCh w) p e (wLen w) = true
    · rw [if_pos y, if_neg g_10, y, Bool.true_and]
      simp only [decide_eq_true_eq]
    · have y2 : sameTo bs (wCh w) p e (wLen w) = false := by simpa using y
      rw [if_neg y, if_pos rfl, y2, Bool.false_and]; rfl
  | succ d ih =>
    intro j n hj
    obtain ⟨c1, c2, c3⟩ := w_ch w hw j (by omega)
    have := ih (j + 1) n (by omega)
    rw [show n + (d + 1) + 1 = (n + d + 1) + 1 by omega, mX5_wordHere_b12]
    unfold mX5_wordHere_b87 mX5_wordHere_b88 mX5_wordHere_b92
    rw [← this]
    have l : (nI e ≤ nI (p + j)) ↔ e ≤ p + j := nI_leI (by omega) (by omega)
    have ts : sameTo bs (wCh w) p e (j + 1) = (sameTo bs (wCh w) p e j && (decide (p + j < e) && decide (bs (p + j) = wCh w j))) := rfl
    rw [if_neg (show ¬ ((83 : Int32) ≤ nI (wO w + j)) from nI_ge (b := 83) (by omega) (by omega)), g_jin (show wO w + j < 83 by omega) (by omega), jg_t, g_cl (show wO w + j < 2 ^ 31 by omega), tm.2.2 _ (by omega), if_neg c3, h17, nI_1, nI_1, c1, ts]
    simp only [l]
    rw [show p + j + 1 = p + (j + 1) by omega, show wO w + j + 1 = wO w + (j + 1) by omega]
    by_cases y : sameTo bs (wCh w) p e j = true
    · rw [if_pos y, if_neg g_10, y, Bool.true_and]
      by_cases y2 : e ≤ p + j
      · rw [if_pos y2, decide_eq_false (by omega), Bool.false_and]; rfl
      · rw [if_neg y2, decide_eq_true (by omega), Bool.true_and, m_byte hb tm (by omega), if_pos (by omega), Option.bind_some]
        have hbj := hb.2 (p + j) (by omega)
        have q : (nI (bs (p + j)) = nI (wCh w j)) ↔ bs (p + j) = wCh w j := nI_eq (by omega) (by omega)
        simp only [q]
        by_cases y3 : bs (p + j) = wCh w j
        · rw [if_pos y3, decide_eq_true y3]; rfl
        · rw [if_neg y3, decide_eq_false y3]; rfl
    · have y2 : sameTo bs (wCh w) p e j = false := by simpa using y
      rw [if_neg y, if_pos rfl, y2, Bool.false_and]; rfl
theorem m_words (hb : TTB bs z) (tm : TTM U bs z) {p e : Nat} (hpe : p ≤ e) (he : e ≤ z) (h16 : U.1 0 16 = nI p) (h17 : U.1 0 17 = nI e) : ∀ d w n, w + d = 14 → 10 * d < n → ∃ r, mX5_wordHere_b12 U n (nI w) (nI p) 1 (nI (wO w)) = some r ∧ ((r = -1 ∧ ∀ w', w ≤ w' → w' < 14 → eqB bs p e w' = false) ∨ ∃ w', w' < 14 ∧ r = nI w' ∧ eqB bs p e w' = true) := by
  intro d
  induction d with
  | zero =>
    intro w n hw hn
    obtain ⟨n, rfl⟩ : ∃ n', n = n' + 1 := ⟨n - 1, by omega⟩
    obtain rfl : w = 14 := by omega
    refine ⟨-1, ?_, .inl ⟨rfl, fun w' h1 h2 => by omega⟩⟩
    rw [mX5_wordHere_b12, if_pos (show (83 : Int32) ≤ nI (wO 14) by decide)]
  | succ d ih =>
    intro w n hw hn
    have hw14 : w < 14 := by omega
    obtain ⟨t1, t2, t3, t4⟩ := w_tab w hw14
    have := m_word1 hb tm hw14 hpe he h16 h17 (wLen w) 0 (n - wLen w - 1) (by omega)
    rw [show n - wLen w - 1 + wLen w + 1 = n by omega] at this
    have this' : mX5_wordHere_b12 U n (nI w) (nI p) 1 (nI (wO w)) = if eqB bs p e w then some (nI w) else mX5_wordHere_b12 U (n - wLen w - 1) (nI (w + 1)) (nI p) 1 (nI (wO (w + 1))) := this
    rw [this']
    by_cases y : eqB bs p e w = true
    · rw [if_pos y]
      exact ⟨nI w, rfl, .inr ⟨w, hw14, rfl, y⟩⟩
    · rw [if_neg y]
      obtain ⟨r, r1, r2⟩ := ih (w + 1) (n - wLen w - 1) (by omega) (by omega)
      refine ⟨r, r1, ?_⟩
      rcases r2 with ⟨r2, r3⟩ | r2
      · left
        refine ⟨r2, fun w' h1 h2 => ?_⟩
        by_cases e' : w' = w
        · rw [e']; simpa using y
        · exact r3 w' (by omega) h2
      · exact .inr r2
theorem m_wordHere (hb : TTB bs z) (tm : TTM U bs z) {p e : Nat} (hpe : p ≤ e) (he : e ≤ z) (h16 : U.1 0 16 = nI p) (h17 : U.1 0 17 = nI e) : ∃ r, mX5_wordHere U = some r ∧ ((r = -1 ∧ ∀ w', w' < 14 → eqB bs p e w' = false) ∨ ∃ w', w' < 14 ∧ r = nI w' ∧ eqB bs p e w' = true) := by
  obtain ⟨r, r1, r2⟩ := m_words hb tm hpe he h16 h17 14 0 2000 (by omega) (by omega)
  refine ⟨r, ?_, ?_⟩
  · unfold mX5_wordHere
    rw [h16]; exact r1
  · rcases r2 with ⟨r2, r3⟩ | r2
    · exact .inl ⟨r2, fun w' h => r3 w' (Nat.zero_le _) h⟩
    · exact .inr r2
theorem same_le {L : Nat → Nat} {p e : Nat} : ∀ {n : Nat}, sameTo bs L p e n = true → ∀ j, j < n → bs (p + j) = L j := by
  intro n
  induction n with
  | zero => intro _ j hj; omega
  | succ n ih =>
    intro h j hj
    rw [sameTo, Bool.and_eq_true, Bool.and_eq_true] at h
    by_cases e' : j = n
    · rw [e']; exact of_decide_eq_true h.2.2
    · exact ih h.1 j (by omega)
theorem w_diff : ∀ w, w < 14 → ∀ v, v < 14 → w = v ∨ ¬ wLen w = wLen v ∨ ∃ j, j < 8 ∧ j < wLen w ∧ ¬ wCh w j = wCh v j := by decide +kernel
theorem eqB_one {p e w v : Nat} (hw : w < 14) (hv : v < 14) (h1 : eqB bs p e w = true) (h2 : eqB bs p e v = true) : w = v := by
  unfold eqB at h1 h2
  rw [Bool.and_eq_true] at h1 h2
  have e1 := of_decide_eq_true h1.2
  have e2 := of_decide_eq_true h2.2
  rcases w_diff w hw v hv with h | h | ⟨j, -, hj, hn⟩
  · exact h
  · omega
  · have a1 := same_le h1.1 j hj
    have a2 := same_le h2.1 j (by omega)
    exact absurd (a1.symm.trans a2) hn
/-! goesOn -/
def gEnd (m : Nat) (U : jMem) : Option jMem := mX5_goesOn_b0 (m + 1) U
theorem m_skip (hb : TTB bs z) {p : Nat} (hp : p ≤ z) : ∀ d q n (U : jMem), q + d = p → d < n → TTM U bs z → U.1 0 17 = nI q → (∀ i, q ≤ i → i < p → cB (bs i) = true) → ∃ m, mX5_goesOn_b0 n U = gEnd m (jsI U 0 17 (nI p)) := by
  have h1 := hb.1
  intro d
  induction d with
  | zero =>
    intro q n U hq hn tm hv hr
    obtain ⟨n, rfl⟩ : ∃ n', n = n' + 1 := ⟨n - 1, by omega⟩
    obtain rfl : q = p := by omega
    refine ⟨n, ?_⟩
    rw [jsI_self U 0 17 hv.symm]; rfl
  | succ d ih =>
    intro q n U hq hn tm hv hr
    obtain ⟨n, rfl⟩ : ∃ n', n = n' + 1 := ⟨n - 1, by omega⟩
    have hb32 : bs q = 32 := of_decide_eq_true (hr q (Nat.le_refl _) (by omega))
    obtain ⟨m, hm⟩ := ih (q + 1) n (jsI U 0 17 (nI (q + 1))) (by omega) (by omega) (TTM_0 tm (by omega) _) (by rw [s1_at, if_pos ⟨rfl, rfl⟩]) (fun i i1 i2 => hr i (by omega) i2)
    refine ⟨m, ?_⟩
    rw [mX5_goesOn_b0, hv, m_byte hb tm (by omega), if_pos (show q < z by omega), Option.bind_some, hb32, if_pos (show nI 32 = (32 : Int32) from rfl), jl_eq, nI_1, hm, jsI_twice]
/-- what goesOn leaves -/
def MT (U U' : jMem) (p e : Nat) (t x : Int32) : Prop := U'.1 0 16 = nI p ∧ U'.1 0 17 = nI e ∧ U'.1 0 18 = t ∧ U'.1 0 19 = x ∧ (∀ a, (a < 16 ∨ 19 < a) → U'.1 0 a = U.1 0 a) ∧ (∀ j, j ≠ 0 → U'.1 j = U.1 j) ∧ U'.2 = U.2
theorem m_next0 (hb : TTB bs z) (tm : TTM U bs z) {q p : Nat} (hqp : q ≤ p) (hp : p ≤ z) (hq : U.1 0 17 = nI q) (hr : ∀ i, q ≤ i → i < p → cB (bs i) = true) (hend : p < z → cB (bs p) = false) {c : Int32} (hc : (if p < z then nI (bs p) else -1) = c) : ∃ W, W = jsI (jsI U 0 17 (nI p)) 0 16 (nI p) ∧ mX5_goesOn U = (if (0 : Int32) ≤ c then (if (mX5_isIn (Int32.toInt64 c) (97 : Int64) (122 : Int64)) = (0 : Int32) then (if (mX5_isIn (Int32.toInt64 c) (48 : Int64) (57 : Int64)) = (0 : Int32) then (if c = (59 : Int32) then (mX5_goesOn_b267 (3 : Int32) (jsI W 0 17 (nI (p + 1)))) else (mX5_goesOn_b267 (4 : Int32) (jsI W 0 17 (nI (p + 1))))) else (mX5_goesOn_b149 2000 (jsI W 0 19 0))) else (mX5_goesOn_b69 2000 W)) else (some (jsI W 0 18 0))) := by
  have h1 := hb.1
  refine ⟨_, rfl, ?_⟩
  unfold mX5_goesOn
  obtain ⟨m, hm⟩ := m_skip hb hp (p - q) q 2000 U (by omega) (by omega) tm hq hr
  rw [hm]
  have a17 : (jsI U 0 17 (nI p)).1 0 17 = nI p := by rw [s1_at, if_pos ⟨rfl, rfl⟩]
  have b17 : (jsI (jsI U 0 17 (nI p)) 0 16 (nI p)).1 0 17 = nI p := by rw [s1_at, if_neg (by omega), a17]
  have c32 : ¬ c = 32 := by
    rw [← hc]
    by_cases y : p < z
    · rw [if_pos y]
      have hbp := hb.2 p y
      have e5 : (nI (bs p) = 32) ↔ bs p = 32 := nI_eq (b := 32) (by omega) (by omega)
      exact fun k => of_decide_eq_false (hend y) (e5.mp k)
    · rw [if_neg y]; decide
  unfold gEnd
  rw [mX5_goesOn_b0, a17, m_byte hb (TTM_0 tm (by omega) _) (by omega), hc, Option.bind_some, if_neg c32, jl_eq, b17, m_byte hb (TTM_0 (TTM_0 tm (by omega) _) (by omega) _) (by omega), hc, Option.bind_some, nI_1]
  rfl
theorem m_letters (hb : TTB bs z) {e : Nat} (he : e ≤ z) (hend : e < z → cL (bs e) = false) : ∀ d q n (U : jMem), q + d = e → d < n → TTM U bs z → U.1 0 17 = nI q → (∀ i, q ≤ i → i < e → cL (bs i) = true) → mX5_goesOn_b69 n U = (mX5_wordHere (jsI U 0 17 (nI e))).bind (fun (r3 : Int32) => (jl (jsI (jsI U 0 17 (nI e)) 0 19 r3) (fun (V4 : jMem) => (if (0 : Int32) ≤ (V4.1 0 19) then (mX5_goesOn_b124 (1 : Int32) V4) else (mX5_goesOn_b124 (4 : Int32) V4))))) := by
  have h1 := hb.1
  intro d
  induction d with
  | zero =>
    intro q n U hq hn tm hv hr
    obtain ⟨n, rfl⟩ : ∃ n', n = n' + 1 := ⟨n - 1, by omega⟩
    obtain rfl : q = e := by omega
    rw [mX5_goesOn_b69, hv, m_byte hb tm (by omega), Option.bind_some, jsI_self U 0 17 hv.symm]
    have : mX5_isIn (Int32.toInt64 (if q < z then nI (bs q) else -1)) 97 122 = 0 := by
      by_cases y : q < z
      · have hbq := hb.2 q y
        rw [if_pos y, m_isL hbq, hend y]; rfl
      · rw [if_neg y]; exact m_noL
    rw [if_pos this]
  | succ d ih =>
    intro q n U hq hn tm hv hr
    obtain ⟨n, rfl⟩ : ∃ n', n = n' + 1 := ⟨n - 1, by omega⟩
    have hbq := hb.2 q (by omega)
    rw [mX5_goesOn_b69, hv, m_byte hb tm (by omega), Option.bind_some, if_pos (show q < z by omega), m_isL hbq, hr q (Nat.le_refl _) (by omega), if_pos rfl, if_neg g_10, jl_eq, nI_1]
    rw [ih (q + 1) n (jsI U 0 17 (nI (q + 1))) (by omega) (by omega) (TTM_0 tm (by omega) _) (by rw [s1_at, if_pos ⟨rfl, rfl⟩]) (fun i i1 i2 => hr i (by omega) i2), jsI_twice]
theorem m_digits (hb : TTB bs z) {p e : Nat} (hpe : p ≤ e) (he : e ≤ z) (hend : e < z → cD (bs e) = false) (hr : ∀ i, p ≤ i → i < e → cD (bs i) = true) (U0 : jMem) : ∀ d j n (U : jMem), p + j + d = e → d < n → TTM U bs z → U.1 0 16 = nI p → U.1 0 17 = nI (p + j) → U.1 0 19 = nI (numM bs p j) → (∀ a, (a < 16 ∨ 19 < a) → U.1 0 a = U0.1 0 a) → (∀ j, j ≠ 0 → U.1 j = U0.1 j) → U.2 = U0.2 → ∃ U', mX5_goesOn_b149 n U = some U' ∧ MT U0 U' p e (if numM bs p (e - p) ≤ 9999 then 2 else 4) (nI (numM bs p (e - p))) := by
  have h1 := hb.1
  intro d
  induction d with
  | zero =>
    intro j n U hj hn tm h16 h17 h19 f1 f2 f3
    obtain ⟨n, rfl⟩ : ∃ n', n = n' + 1 := ⟨n - 1, by omega⟩
    obtain rfl : e = p + j := by omega
    have hm := numM_le (bs := bs) (p := p) j (fun i hi => (cD_rng (hr (p + i) (by omega) (by omega))).2)
    have l : (nI (numM bs p j) ≤ 9999) ↔ numM bs p j ≤ 9999 := nI_leI (b := 9999) (by omega) (by omega)
    have : mX5_isIn (Int32.toInt64 (if p + j < z then nI (bs (p + j)) else -1)) 48 57 = 0 := by
      by_cases y : p + j < z
      · have hbq := hb.2 (p + j) y
        rw [if_pos y, m_isD hbq, hend y]; rfl
      · rw [if_neg y]; exact m_noD
    rw [mX5_goesOn_b149, h17, m_byte hb tm (by omega), Option.bind_some, if_pos this, h19]
    unfold mX5_goesOn_b239
    simp only [l]
    rw [show p + j - p = j by omega]
    have fin : ∀ t : Int32, MT U0 (jsI U 0 18 t) p (p + j) t (nI (numM bs p j)) := fun t => ⟨by rw [s1_at, if_neg (by omega)]; exact h16, by rw [s1_at, if_neg (by omega)]; exact h17, by rw [s1_at, if_pos ⟨rfl, rfl⟩], by rw [s1_at, if_neg (by omega)]; exact h19, fun a ha => by rw [s1_at, if_neg (by omega)]; exact f1 a ha, fun j hj => by rw [s1_eq, if_neg hj]; exact f2 j hj, f3⟩
    by_cases y : numM bs p j ≤ 9999
    · rw [if_pos y, if_pos y, jl_eq]; exact ⟨_, rfl, fin 2⟩
    · rw [if_neg y, if_neg y, jl_eq]; exact ⟨_, rfl, fin 4⟩
  | succ d ih =>
    intro j n U hj hn tm h16 h17 h19 f1 f2 f3
    obtain ⟨n, rfl⟩ : ∃ n', n = n' + 1 := ⟨n - 1, by omega⟩
    have hm := numM_le (bs := bs) (p := p) j (fun i hi => (cD_rng (hr (p + i) (by omega) (by omega))).2)
    have l : (nI (numM bs p j) ≤ 9999) ↔ numM bs p j ≤ 9999 := nI_leI (b := 9999) (by omega) (by omega)
    have hbq := hb.2 (p + j) (by omega)
    have hcd := hr (p + j) (by omega) (by omega)
    have hcr := cD_rng hcd
    have ev : (10 : Int32) * nI (numM bs p j) + nI (bs (p + j)) - 48 = nI (10 * numM bs p j + bs (p + j) - 48) := by
      show nI 10 * nI (numM bs p j) + nI (bs (p + j)) - nI 48 = _
      rw [pk_mul, nI_add, pk_sub (by omega)]
    rw [mX5_goesOn_b149, h17, m_byte hb tm (by omega), Option.bind_some, if_pos (show p + j < z by omega), m_isD hbq, hcd, if_pos rfl, if_neg g_10, h19, Option.bind_some, ev]
    unfold mX5_goesOn_b207
    simp only [l]
    have nx : (if numM bs p j ≤ 9999 then 10 * numM bs p j + bs (p + j) - 48 else numM bs p j) = numM bs p (j + 1) := rfl
    have go : ∀ v : Nat, v = numM bs p (j + 1) → ∃ U', (jl (jsI U 0 19 (nI v)) (fun (V1 : jMem) => (jl (jsI V1 0 17 ((V1.1 0 17) + (1 : Int32))) (fun (V2 : jMem) => mX5_goesOn_b149 n V2)))) = some U' ∧ MT U0 U' p e (if numM bs p (e - p) ≤ 9999 then 2 else 4) (nI (numM bs p (e - p))) := by
      intro v hv
      have a17 : (jsI U 0 19 (nI v)).1 0 17 = nI (p + j) := by rw [s1_at, if_neg (by omega)]; exact h17
      rw [jl_eq, jl_eq, a17, nI_1]
      refine ih (j + 1) n _ (by omega) (by omega) (TTM_0 (TTM_0 tm (by omega) _) (by omega) _) ?_ ?_ ?_ (fun a ha => ?_) (fun j hj => ?_) f3
      · rw [s1_at, if_neg (by omega), s1_at, if_neg (by omega)]; exact h16
      · rw [s1_at, if_pos ⟨rfl, rfl⟩]; congr 1
      · rw [s1_at, if_neg (by omega), s1_at, if_pos ⟨rfl, rfl⟩, hv]
      · rw [s1_at, if_neg (by omega), s1_at, if_neg (by omega)]; exact f1 a ha
      · rw [s1_eq, if_neg hj, s1_eq, if_neg hj]; exact f2 j hj
    by_cases y : numM bs p j ≤ 9999
    · rw [if_pos y]
      exact go _ (by rw [← nx, if_pos y])
    · rw [if_neg y]
      exact go _ (by rw [← nx, if_neg y])
end TP
