/-! the text: one TOKEN, on the class's side -/
section TO
variable {V U V' U' : jMem} {bs : Nat → Nat} {z : Nat}
def cL (b : Nat) : Bool := decide (97 ≤ b) && decide (b ≤ 122)
def cD (b : Nat) : Bool := decide (48 ≤ b) && decide (b ≤ 57)
def cB (b : Nat) : Bool := decide (b = 32)
theorem run_ex (c : Nat → Bool) (bs : Nat → Nat) (z : Nat) : ∀ d p, p + d = z → ∃ e, p ≤ e ∧ e ≤ z ∧ (∀ i, p ≤ i → i < e → c (bs i) = true) ∧ (e < z → c (bs e) = false) := by
  intro d
  induction d with
  | zero => intro p hp; exact ⟨p, Nat.le_refl _, by omega, fun i h1 h2 => by omega, fun h => by omega⟩
  | succ d ih =>
    intro p hp
    by_cases h : c (bs p) = true
    · obtain ⟨e, h1, h2, h3, h4⟩ := ih (p + 1) (by omega)
      refine ⟨e, by omega, h2, fun i i1 i2 => ?_, h4⟩
      by_cases e' : i = p
      · rw [e']; exact h
      · exact h3 i (by omega) i2
    · exact ⟨p, Nat.le_refl _, by omega, fun i h1 h2 => by omega, fun _ => by simpa using h⟩
def TTB (bs : Nat → Nat) (z : Nat) : Prop := z ≤ 120 ∧ ∀ k, k < z → bs k ≤ 255
def TTX (V : jMem) (bs : Nat → Nat) (z : Nat) : Prop := V.1 36 1 = nI z ∧ ∀ k, k < z → V.1 37 k = nI (bs k)
def tkI (b : Nat) : Int32 := if cL b then 0 else if cD b then 1 else if b = 59 then 2 else 4
theorem x_tokAt (hb : TTB bs z) (tx : TTX V bs z) {q : Nat} (hq : q ≤ 120) : mX3_tokenAt (nI q) V = some (if q < z then tkI (bs q) else 3) := by
  obtain ⟨h1, h2⟩ := hb
  obtain ⟨t1, t2⟩ := tx
  have l : (nI q < nI z) ↔ q < z := nI_ltI (by omega) (by omega)
  unfold mX3_tokenAt
  rw [t1]
  simp only [l]
  by_cases hz : q < z
  · have hb := h2 q hz
    rw [if_pos hz, if_pos hz, g_jin (show q < 120 by omega) (by omega), jg_t, g_cl (show q < 2 ^ 31 by omega), t2 q hz]
    generalize bs q = b at *
    have e1 : (nI b < 97) ↔ b < 97 := nI_ltI (b := 97) (by omega) (by omega)
    have e2 : ((122 : Int32) < nI b) ↔ 122 < b := nI_ltI (a := 122) (by omega) (by omega)
    have e3 : (nI b < 48) ↔ b < 48 := nI_ltI (b := 48) (by omega) (by omega)
    have e4 : ((57 : Int32) < nI b) ↔ 57 < b := nI_ltI (a := 57) (by omega) (by omega)
    have e5 : (nI b = 59) ↔ b = 59 := nI_eq (b := 59) (by omega) (by omega)
    unfold mX3_tokenAt_b31 mX3_tokenAt_b45 tkI cL cD
    simp only [e1, e2, e3, e4, e5, Bool.and_eq_true, decide_eq_true_eq]
    repeat' split
    all_goals first | rfl | omega
  · rw [if_neg hz, if_neg hz]
theorem jsI_twice (V : jMem) (j k : Nat) (x y : Int32) : jsI (jsI V j k x) j k y = jsI V j k y := by
  have : (jsI (jsI V j k x) j k y).1 = (jsI V j k y).1 := by
    funext a b
    rw [s1_at, s1_at, s1_at]
    by_cases e : a = j ∧ b = k
    · rw [if_pos e, if_pos e]
    · rw [if_neg e, if_neg e, if_neg e]
  exact Prod.ext this rfl
theorem TTX_36 (tx : TTX V bs z) {k : Nat} (hk : k ≠ 1) (x : Int32) : TTX (jsI V 36 k x) bs z := by
  refine ⟨?_, fun q hq => ?_⟩
  · rw [s1_at, if_neg (fun h => hk h.2.symm)]; exact tx.1
  · rw [s1_eq, if_neg (by omega)]; exact tx.2 q hq
theorem x_skip (hb : TTB bs z) {p : Nat} (hp : p ≤ z) (hend : p < z → cB (bs p) = false) : ∀ d q n (V : jMem), q + d = p → d < n → TTX V bs z → V.1 36 2 = nI q → (∀ i, q ≤ i → i < p → cB (bs i) = true) → mX3_next_b8 n V = mX3_next_b46 (jsI V 36 2 (nI p)) := by
  have h1 := hb.1
  intro d
  induction d with
  | zero =>
    intro q n V hq hn tx hv hr
    obtain ⟨n, rfl⟩ : ∃ n', n = n' + 1 := ⟨n - 1, by omega⟩
    obtain rfl : q = p := by omega
    have l : (nI z ≤ nI q) ↔ z ≤ q := nI_leI (by omega) (by omega)
    unfold mX3_next_b8
    rw [tx.1, hv, jsI_self V 36 2 hv.symm]
    simp only [l]
    by_cases e : z ≤ q
    · rw [if_pos e]
    · have hbq := hb.2 q (by omega)
      have h32 := hend (by omega)
      have e5 : (nI (bs q) = 32) ↔ bs q = 32 := nI_eq (b := 32) (by omega) (by omega)
      rw [if_neg e, g_jin (show q < 120 by omega) (by omega), jg_t, g_cl (show q < 2 ^ 31 by omega), tx.2 q (by omega), if_neg (fun y => of_decide_eq_false h32 (e5.mp y))]
  | succ d ih =>
    intro q n V hq hn tx hv hr
    obtain ⟨n, rfl⟩ : ∃ n', n = n' + 1 := ⟨n - 1, by omega⟩
    have hb32 : bs q = 32 := of_decide_eq_true (hr q (Nat.le_refl _) (by omega))
    unfold mX3_next_b8
    rw [tx.1, hv, if_neg (nI_ge (show q < z by omega) (by omega)), g_jin (show q < 120 by omega) (by omega), jg_t, g_cl (show q < 2 ^ 31 by omega), tx.2 q (by omega), hb32, if_pos (show nI 32 = (32 : Int32) from rfl), jl_eq, nI_1]
    rw [ih (q + 1) n (jsI V 36 2 (nI (q + 1))) (by omega) (by omega) (TTX_36 tx (by omega) _) (by rw [s1_at, if_pos ⟨rfl, rfl⟩]) (fun i i1 i2 => hr i (by omega) i2), jsI_twice]
theorem x_long (hb : TTB bs z) {e : Nat} (he : e ≤ z) {T : Int32} (hend : e < z → ¬ tkI (bs e) = T) : ∀ d q n (V : jMem), q + d = e → d < n → TTX V bs z → V.1 36 3 = nI q → V.1 36 4 = T → (∀ i, q ≤ i → i < e → tkI (bs i) = T) → mX3_next_b104 n 1 V = mX3_next_b147 (jsI V 36 3 (nI e)) := by
  have h1 := hb.1
  intro d
  induction d with
  | zero =>
    intro q n V hq hn tx hv ht hr
    obtain ⟨n, rfl⟩ : ∃ n', n = n' + 1 := ⟨n - 1, by omega⟩
    obtain rfl : q = e := by omega
    have l : (nI z ≤ nI q) ↔ z ≤ q := nI_leI (by omega) (by omega)
    unfold mX3_next_b104
    rw [if_neg g_10, tx.1, hv, jsI_self V 36 3 hv.symm, x_tokAt hb tx (by omega), Option.bind_some, ht]
    simp only [l]
    by_cases e : z ≤ q
    · rw [if_pos e]
    · rw [if_neg e, if_pos (show q < z by omega), if_neg (hend (by omega))]
  | succ d ih =>
    intro q n V hq hn tx hv ht hr
    obtain ⟨n, rfl⟩ : ∃ n', n = n' + 1 := ⟨n - 1, by omega⟩
    unfold mX3_next_b104
    rw [if_neg g_10, tx.1, hv, if_neg (nI_ge (show q < z by omega) (by omega)), x_tokAt hb tx (by omega), Option.bind_some, if_pos (show q < z by omega), ht, if_pos (hr q (Nat.le_refl _) (by omega)), jl_eq, nI_1]
    rw [ih (q + 1) n (jsI V 36 3 (nI (q + 1))) (by omega) (by omega) (TTX_36 tx (by omega) _) (by rw [s1_at, if_pos ⟨rfl, rfl⟩]) (by rw [s1_at, if_neg (by omega)]; exact ht) (fun i i1 i2 => hr i (by omega) i2), jsI_twice]
def numM (bs : Nat → Nat) (p : Nat) : Nat → Nat
  | 0 => 0
  | j + 1 => if numM bs p j ≤ 9999 then 10 * numM bs p j + bs (p + j) - 48 else numM bs p j
def cap (x : Nat) : Nat := if x ≤ 9999 then x else 10000
theorem numM_le {p : Nat} : ∀ j, (∀ i, i < j → bs (p + i) ≤ 57) → numM bs p j ≤ 99999
  | 0, _ => by rw [numM]; omega
  | j + 1, h => by
    have := numM_le j (fun i hi => h i (by omega))
    have := h j (by omega)
    rw [numM]; split <;> omega
theorem cD_rng {b : Nat} (h : cD b = true) : 48 ≤ b ∧ b ≤ 57 := by
  unfold cD at h
  simpa using h
theorem x_num (hb : TTB bs z) (tx : TTX V bs z) {p e : Nat} (hpe : p ≤ e) (he : e ≤ z) (hv : V.1 36 2 = nI p) (hv3 : V.1 36 3 = nI e) (hr : ∀ i, p ≤ i → i < e → cD (bs i) = true) : mX3_numberAtHand V = some (nI (cap (numM bs p (e - p)))) := by
  have h1 := hb.1
  unfold mX3_numberAtHand
  rw [hv]
  refine g_up (P := fun n j => mX3_numberAtHand_b7 V n (nI (cap (numM bs p j))) (nI (p + j)) = some (nI (cap (numM bs p (e - p))))) (e - p) ?_ ?_ 2000 0 (by omega) (by omega)
  · intro n
    show mX3_numberAtHand_b7 V (n + 1) _ _ = _
    unfold mX3_numberAtHand_b7
    rw [hv3, if_pos (nI_le (show e ≤ p + (e - p) by omega) (by omega))]
  · intro n j hj this
    show mX3_numberAtHand_b7 V (n + 1) _ _ = _
    have hc := cD_rng (hr (p + j) (by omega) (by omega))
    have hm := numM_le (bs := bs) (p := p) j (fun i hi => (cD_rng (hr (p + i) (by omega) (by omega))).2)
    have hcap : cap (numM bs p j) ≤ 10000 := by unfold cap; split <;> omega
    have ev : nI (cap (numM bs p j)) * 10 + nI (bs (p + j)) - 48 = nI (cap (numM bs p j) * 10 + bs (p + j) - 48) := by
      show nI (cap (numM bs p j)) * nI 10 + nI (bs (p + j)) - nI 48 = _
      rw [pk_mul, nI_add, pk_sub (by omega)]
    have el : (nI (cap (numM bs p j) * 10 + bs (p + j) - 48) < 10000) ↔ cap (numM bs p j) * 10 + bs (p + j) - 48 < 10000 := nI_ltI (b := 10000) (by omega) (by omega)
    have ec : cap (numM bs p (j + 1)) = if cap (numM bs p j) * 10 + bs (p + j) - 48 < 10000 then cap (numM bs p j) * 10 + bs (p + j) - 48 else 10000 := by
      rw [numM]
      generalize numM bs p j = m at *
      unfold cap
      repeat' split
      all_goals omega
    unfold mX3_numberAtHand_b7
    rw [hv3, if_neg (nI_ge (show p + j < e by omega) (by omega)), g_jin (show p + j < 120 by omega) (by omega), jg_t, jl_eq, g_cl (show p + j < 2 ^ 31 by omega), tx.2 (p + j) (by omega), ev, nI_1]
    simp only [el]
    rw [ec] at this
    by_cases y : cap (numM bs p j) * 10 + bs (p + j) - 48 < 10000
    · rw [if_pos y]; rw [if_pos y] at this; exact this
    · rw [if_neg y]; rw [if_neg y] at this; exact this
def xTok (V : jMem) (p e : Nat) (t x : Int32) : jMem := jsI (jsI (jsI (jsI V 36 2 (nI p)) 36 4 t) 36 3 (nI e)) 36 5 x
theorem x_next0 (hb : TTB bs z) (tx : TTX V bs z) {q p : Nat} (hqp : q ≤ p) (hp : p ≤ z) (hq : V.1 36 3 = nI q) (hr : ∀ i, q ≤ i → i < p → cB (bs i) = true) (hend : p < z → cB (bs p) = false) {t : Int32} (ht : (if p < z then tkI (bs p) else 3) = t) : mX3_next V = (if t = 0 then mX3_next_b73 (jsI (jsI V 36 2 (nI p)) 36 4 t) else if t = 1 then mX3_next_b73 (jsI (jsI V 36 2 (nI p)) 36 4 t) else mX3_next_b78 0 (jsI (jsI V 36 2 (nI p)) 36 4 t)) := by
  have h1 := hb.1
  unfold mX3_next
  rw [jl_eq, hq, x_skip hb hp hend (p - q) q 2000 _ (by omega) (by omega) (TTX_36 tx (by omega) _) (by rw [s1_at, if_pos ⟨rfl, rfl⟩]) hr, jsI_twice]
  unfold mX3_next_b46
  have a2 : (jsI V 36 2 (nI p)).1 36 2 = nI p := by rw [s1_at, if_pos ⟨rfl, rfl⟩]
  have a4 : (jsI (jsI V 36 2 (nI p)) 36 4 t).1 36 4 = t := by rw [s1_at, if_pos ⟨rfl, rfl⟩]
  rw [a2, x_tokAt hb (TTX_36 tx (by omega) _) (by omega), Option.bind_some, ht, jl_eq, a4]
theorem x_next1 (hb : TTB bs z) (tx : TTX V bs z) {p e : Nat} (hpe : p ≤ e) (he : e ≤ z) {t : Int32} (ht : t = 0 ∨ t = 1) (h2 : V.1 36 2 = nI p) (h4 : V.1 36 4 = t) (hr : ∀ i, p ≤ i → i < e → tkI (bs i) = t) (hend : e < z → ¬ tkI (bs e) = t) : mX3_next_b73 V = mX3_next_b147 (jsI V 36 3 (nI e)) := by
  have h1 := hb.1
  have t2 : ¬ t = 2 := by rcases ht with rfl | rfl <;> decide
  unfold mX3_next_b73 mX3_next_b78 mX3_next_b101
  rw [h4, if_neg t2, jl_eq, h2, x_long hb he hend (e - p) p 2000 _ (by omega) (by omega) (TTX_36 tx (by omega) _) (by rw [s1_at, if_pos ⟨rfl, rfl⟩]) (by rw [s1_at, if_neg (by omega)]; exact h4) hr, jsI_twice]
theorem tk_word {b : Nat} : tkI b = 0 ↔ cL b = true := by
  unfold tkI
  by_cases h : cL b = true
  · rw [if_pos h]; exact ⟨fun _ => h, fun _ => rfl⟩
  · rw [if_neg h]
    refine ⟨fun e => ?_, fun e => absurd e h⟩
    split at e
    · exact absurd e g_10
    · split at e
      · exact absurd e (by decide)
      · exact absurd e (by decide)
theorem tk_num {b : Nat} : tkI b = 1 ↔ cD b = true := by
  unfold tkI
  by_cases h : cL b = true
  · rw [if_pos h]
    refine ⟨fun e => absurd e (by decide), fun e => ?_⟩
    unfold cL cD at *
    simp at h e
    omega
  · rw [if_neg h]
    by_cases h2 : cD b = true
    · rw [if_pos h2]; exact ⟨fun _ => h2, fun _ => rfl⟩
    · rw [if_neg h2]
      refine ⟨fun e => ?_, fun e => absurd e h2⟩
      split at e
      · exact absurd e (by decide)
      · exact absurd e (by decide)
theorem x_nextW (hb : TTB bs z) (tx : TTX V bs z) {q p e : Nat} (hqp : q ≤ p) (hpe : p < e) (he : e ≤ z) (hq : V.1 36 3 = nI q) (hr : ∀ i, q ≤ i → i < p → cB (bs i) = true) (hL : ∀ i, p ≤ i → i < e → cL (bs i) = true) (hend : e < z → cL (bs e) = false) : mX3_next V = some (xTok V p e 0 0) := by
  have hp0 := hL p (Nat.le_refl _) hpe
  have ht : (if p < z then tkI (bs p) else 3) = 0 := by rw [if_pos (by omega)]; exact tk_word.mpr hp0
  have hnb : p < z → cB (bs p) = false := fun _ => by
    unfold cL at hp0; unfold cB; simp at hp0 ⊢; omega
  rw [x_next0 hb tx hqp (by omega) hq hr hnb ht, if_pos rfl, x_next1 hb (TTX_36 (TTX_36 tx (by omega) _) (by omega) _) (p := p) (e := e) (t := 0) (by omega) he (.inl rfl) (by rw [s1_at, if_neg (by omega), s1_at, if_pos ⟨rfl, rfl⟩]) (by rw [s1_at, if_pos ⟨rfl, rfl⟩]) (fun i i1 i2 => tk_word.mpr (hL i i1 i2)) (fun hz y => by have := tk_word.mp y; rw [hend hz] at this; cases this)]
  unfold mX3_next_b147 mX3_next_b164
  have a4 : (jsI (jsI (jsI V 36 2 (nI p)) 36 4 0) 36 3 (nI e)).1 36 4 = 0 := by rw [s1_at, if_neg (by omega), s1_at, if_pos ⟨rfl, rfl⟩]
  rw [a4, if_neg g_01]; rfl
theorem x_nextN (hb : TTB bs z) (tx : TTX V bs z) {q p e : Nat} (hqp : q ≤ p) (hpe : p < e) (he : e ≤ z) (hq : V.1 36 3 = nI q) (hr : ∀ i, q ≤ i → i < p → cB (bs i) = true) (hL : ∀ i, p ≤ i → i < e → cD (bs i) = true) (hend : e < z → cD (bs e) = false) : mX3_next V = some (xTok V p e 1 (nI (cap (numM bs p (e - p))))) := by
  have hp0 := hL p (Nat.le_refl _) hpe
  have ht : (if p < z then tkI (bs p) else 3) = 1 := by rw [if_pos (by omega)]; exact tk_num.mpr hp0
  have hnb : p < z → cB (bs p) = false := fun _ => by
    unfold cD at hp0; unfold cB; simp at hp0 ⊢; omega
  rw [x_next0 hb tx hqp (by omega) hq hr hnb ht, if_neg g_10, if_pos rfl, x_next1 hb (TTX_36 (TTX_36 tx (by omega) _) (by omega) _) (p := p) (e := e) (t := 1) (by omega) he (.inr rfl) (by rw [s1_at, if_neg (by omega), s1_at, if_pos ⟨rfl, rfl⟩]) (by rw [s1_at, if_pos ⟨rfl, rfl⟩]) (fun i i1 i2 => tk_num.mpr (hL i i1 i2)) (fun hz y => by have := tk_num.mp y; rw [hend hz] at this; cases this)]
  unfold mX3_next_b147 mX3_next_b164
  have a4 : (jsI (jsI (jsI V 36 2 (nI p)) 36 4 1) 36 3 (nI e)).1 36 4 = 1 := by rw [s1_at, if_neg (by omega), s1_at, if_pos ⟨rfl, rfl⟩]
  rw [a4, if_pos rfl, x_num hb (TTX_36 (TTX_36 (TTX_36 tx (by omega) _) (by omega) _) (by omega) _) (p := p) (e := e) (by omega) he (by rw [s1_at, if_neg (by omega), s1_at, if_neg (by omega), s1_at, if_pos ⟨rfl, rfl⟩]) (by rw [s1_at, if_pos ⟨rfl, rfl⟩]) hL, Option.bind_some]; rfl
/-- a sign, the end, a byte that begins no TOKEN -/
theorem x_nextS (hb : TTB bs z) (tx : TTX V bs z) {q p : Nat} (hqp : q ≤ p) (hp : p ≤ z) (hq : V.1 36 3 = nI q) (hr : ∀ i, q ≤ i → i < p → cB (bs i) = true) (hend : p < z → cB (bs p) = false) {t : Int32} (ht : (if p < z then tkI (bs p) else 3) = t) (h3 : t = 2 ∨ t = 3 ∨ t = 4) : mX3_next V = some (xTok V p (if t = 2 then p + 1 else p) t 0) := by
  have h1 := hb.1
  have t0 : ¬ t = 0 := by rcases h3 with rfl | rfl | rfl <;> decide
  have t1 : ¬ t = 1 := by rcases h3 with rfl | rfl | rfl <;> decide
  have a4 : ∀ W : jMem, (jsI W 36 4 t).1 36 4 = t := fun W => by rw [s1_at, if_pos ⟨rfl, rfl⟩]
  have a2 : (jsI (jsI V 36 2 (nI p)) 36 4 t).1 36 2 = nI p := by rw [s1_at, if_neg (by omega), s1_at, if_pos ⟨rfl, rfl⟩]
  rw [x_next0 hb tx hqp hp hq hr hend ht, if_neg t0, if_neg t1]
  unfold mX3_next_b78 mX3_next_b101
  rw [a4, a2, nI_1]
  have go : ∀ e : Nat, mX3_next_b104 2000 0 (jsI (jsI (jsI V 36 2 (nI p)) 36 4 t) 36 3 (nI e)) = some (xTok V p e t 0) := by
    intro e
    unfold mX3_next_b104 mX3_next_b147 mX3_next_b164
    have b4 : (jsI (jsI (jsI V 36 2 (nI p)) 36 4 t) 36 3 (nI e)).1 36 4 = t := by rw [s1_at, if_neg (by omega), a4]
    rw [if_pos rfl, b4, if_neg t1]; rfl
  by_cases y : t = 2
  · rw [if_pos y, if_pos y, jl_eq, go]
  · rw [if_neg y, if_neg y, jl_eq, go]
end TO
