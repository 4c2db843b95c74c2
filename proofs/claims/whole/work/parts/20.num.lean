/-! numbers, bits and sets: the words in which the class and the reference are held against each other -/
def gSet (p : Nat → Bool) : Nat → Nat
  | 0 => 0
  | n + 1 => gSet p n ||| (if p n then 2 ^ n else 0)
def gCt (p : Nat → Bool) : Nat → Nat
  | 0 => 0
  | n + 1 => gCt p n + (if p n then 1 else 0)
theorem gSet_bit (p : Nat → Bool) : ∀ n i, (gSet p n).testBit i = (decide (i < n) && p i) := by
  intro n
  induction n with
  | zero => intro i; simp [gSet]
  | succ n ih =>
    intro i
    rw [gSet, Nat.testBit_or, ih]
    by_cases hp : p n = true
    · rw [if_pos hp, Nat.testBit_two_pow]
      rcases Nat.lt_trichotomy i n with h | h | h
      · have h1 : ¬ n = i := by omega
        have h2 : i < n + 1 := by omega
        simp [h, h1, h2]
      · subst h; simp [hp]
      · have h1 : ¬ n = i := by omega
        have h2 : ¬ i < n + 1 := by omega
        have h3 : ¬ i < n := by omega
        simp [h1, h2, h3]
    · rw [if_neg hp, Nat.zero_testBit, Bool.or_false]
      have hp' : p n = false := by simpa using hp
      rcases Nat.lt_trichotomy i n with h | h | h
      · have h2 : i < n + 1 := by omega
        simp [h, h2]
      · subst h; simp [hp']
      · have h2 : ¬ i < n + 1 := by omega
        have h3 : ¬ i < n := by omega
        simp [h2, h3]
theorem gSet_lt (p : Nat → Bool) (n : Nat) : gSet p n < 2 ^ n := by
  apply Nat.lt_pow_two_of_testBit
  intro i hi
  rw [gSet_bit]
  simp; omega
theorem g_ext {a b n : Nat} (ha : a < 2 ^ n) (hb : b < 2 ^ n) (h : ∀ i, i < n → a.testBit i = b.testBit i) : a = b := by
  apply Nat.eq_of_testBit_eq
  intro i
  rcases Nat.lt_or_ge i n with z | z
  · exact h i z
  · have hle : 2 ^ n ≤ 2 ^ i := Nat.pow_le_pow_right (by decide) z
    rw [Nat.testBit_lt_two_pow (Nat.lt_of_lt_of_le ha hle), Nat.testBit_lt_two_pow (Nat.lt_of_lt_of_le hb hle)]
theorem gSet_self {a n : Nat} (h : a < 2 ^ n) : gSet a.testBit n = a := by
  refine g_ext (gSet_lt _ _) h (fun i hi => ?_)
  rw [gSet_bit]; simp [hi]
theorem gSet_congr {p q : Nat → Bool} : ∀ {n : Nat}, (∀ i, i < n → p i = q i) → gSet p n = gSet q n := by
  intro n
  induction n with
  | zero => intro _; rfl
  | succ n ih => intro h; rw [gSet, gSet, ih (fun i hi => h i (by omega)), h n (by omega)]
theorem gCt_congr {p q : Nat → Bool} : ∀ {n : Nat}, (∀ i, i < n → p i = q i) → gCt p n = gCt q n := by
  intro n
  induction n with
  | zero => intro _; rfl
  | succ n ih => intro h; rw [gCt, gCt, ih (fun i hi => h i (by omega)), h n (by omega)]
theorem gCt_le (p : Nat → Bool) : ∀ n, gCt p n ≤ n
  | 0 => Nat.le_refl _
  | n + 1 => by have := gCt_le p n; rw [gCt]; split <;> omega
theorem gCt_false {p : Nat → Bool} : ∀ {n : Nat}, (∀ i, i < n → p i = false) → gCt p n = 0 := by
  intro n
  induction n with
  | zero => intro _; rfl
  | succ n ih => intro h; rw [gCt, ih (fun i hi => h i (by omega)), h n (by omega)]; rfl
/-- past n nothing: counting further changes nothing -/
theorem gCt_more {p : Nat → Bool} {n : Nat} : ∀ {m : Nat}, n ≤ m → (∀ i, n ≤ i → i < m → p i = false) → gCt p m = gCt p n := by
  intro m hm
  induction hm with
  | refl => intro _; rfl
  | step hm ih =>
    rename_i m
    intro h
    rw [gCt, ih (fun i h1 h2 => h i h1 (by omega)), h m hm (by omega)]; rfl
def gDiff (a b : Nat) : Nat := a ^^^ (a &&& b)
theorem gDiff_bit (a b i : Nat) : (gDiff a b).testBit i = (a.testBit i && !b.testBit i) := by
  unfold gDiff
  rw [Nat.testBit_xor, Nat.testBit_and]
  cases a.testBit i <;> cases b.testBit i <;> rfl
theorem gDiff_lt {a n : Nat} (b : Nat) (h : a < 2 ^ n) : gDiff a b < 2 ^ n := by
  apply Nat.lt_pow_two_of_testBit
  intro i hi
  have hle : 2 ^ n ≤ 2 ^ i := Nat.pow_le_pow_right (by decide) hi
  rw [gDiff_bit, Nat.testBit_lt_two_pow (Nat.lt_of_lt_of_le h hle)]; rfl
theorem g_and_lt {a n : Nat} (b : Nat) (h : a < 2 ^ n) : a &&& b < 2 ^ n := Nat.lt_of_le_of_lt Nat.and_le_left h
theorem g_or_lt {a b n : Nat} (h : a < 2 ^ n) (h2 : b < 2 ^ n) : a ||| b < 2 ^ n := Nat.or_lt_two_pow h h2
/-! Int32 -/
theorem g_or (a b : Nat) : nI a ||| nI b = nI (a ||| b) := by
  apply Int32.toBitVec_inj.1
  show BitVec.ofNat 32 a ||| BitVec.ofNat 32 b = BitVec.ofNat 32 (a ||| b)
  apply BitVec.eq_of_getLsbD_eq
  intro i hi
  simp [hi]
theorem g_and (a b : Nat) : nI a &&& nI b = nI (a &&& b) := by
  apply Int32.toBitVec_inj.1
  show BitVec.ofNat 32 a &&& BitVec.ofNat 32 b = BitVec.ofNat 32 (a &&& b)
  apply BitVec.eq_of_getLsbD_eq
  intro i hi
  simp [hi]
theorem g_xor (a b : Nat) : nI a ^^^ nI b = nI (a ^^^ b) := by
  apply Int32.toBitVec_inj.1
  show BitVec.ofNat 32 a ^^^ BitVec.ofNat 32 b = BitVec.ofNat 32 (a ^^^ b)
  apply BitVec.eq_of_getLsbD_eq
  intro i hi
  simp [hi]
theorem g_m1 : (-1 : Int32) = nI (2 ^ 32 - 1) := by decide +kernel
theorem g_diff (a b : Nat) : nI a &&& (nI b ^^^ -1) = nI (gDiff a b) := by
  apply Int32.toBitVec_inj.1
  show BitVec.ofNat 32 a &&& (BitVec.ofNat 32 b ^^^ (-1 : Int32).toBitVec) = BitVec.ofNat 32 (gDiff a b)
  apply BitVec.eq_of_getLsbD_eq
  intro i hi
  have h1 : ((-1 : Int32).toBitVec).getLsbD i = true := (by decide +kernel : ∀ i, i < 32 → ((-1 : Int32).toBitVec).getLsbD i = true) i hi
  rw [BitVec.getLsbD_and, BitVec.getLsbD_xor, h1, BitVec.getLsbD_ofNat, BitVec.getLsbD_ofNat, BitVec.getLsbD_ofNat, gDiff_bit]
  simp [hi]
theorem g_smod : ∀ n, n < 32 → ((nI n &&& 31).toBitVec.smod 32).toNat = n := by decide +kernel
theorem g_umod : ∀ n, n < 32 → (((nI n).toUInt32 &&& Int32.toUInt32 31).toBitVec % 32).toNat = n := by decide +kernel
theorem g_one : ∀ n, n < 31 → (1 : Int32) <<< (nI n &&& 31) = nI (2 ^ n) := by decide +kernel
theorem g_shr {m f : Nat} (hm : m < 2 ^ 31) (hf : f < 31) : nI m >>> (nI f &&& 31) = nI (m / 2 ^ f) := pk_shrN hm _ f (g_smod f (by omega))
theorem g_ushr {m f : Nat} (hm : m < 2 ^ 31) (hf : f < 31) : ((nI m).toUInt32 >>> ((nI f).toUInt32 &&& Int32.toUInt32 31)).toInt32 = nI (m / 2 ^ f) := pk_ushrN (by omega) _ f (g_umod f (by omega))
theorem g_low (k : Nat) : nI k &&& 1 = nI (k % 2) := by
  show nI k &&& nI 1 = _
  rw [g_and, Nat.and_one_is_mod]
theorem g_bit1 {m f : Nat} (hm : m < 2 ^ 31) (hf : f < 31) : ((nI m >>> (nI f &&& 31)) &&& 1 = 1) ↔ m.testBit f = true := by
  rw [g_shr hm hf, g_low, Nat.testBit_eq_decide_div_mod_eq, decide_eq_true_iff]
  show nI _ = nI 1 ↔ _
  rw [nI_eq (by omega) (by omega)]
theorem g_bit1' {m f : Nat} (hm : m < 2 ^ 31) (hf : f < 31) : ((nI m >>> (nI f &&& 31)) &&& 1 = 0) ↔ m.testBit f = false := by
  rw [g_shr hm hf, g_low, Nat.testBit_eq_decide_div_mod_eq, decide_eq_false_iff_not]
  show nI _ = nI 0 ↔ _
  rw [nI_eq (by omega) (by omega)]
  omega
/-- the class's own test of a bit -/
theorem x_isIn {m f : Nat} (hm : m < 2 ^ 31) (hf : f < 31) : mX4_isIn (nI f) (nI m) = if m.testBit f then 1 else 0 := by
  unfold mX4_isIn
  rw [g_ushr hm hf, g_low, Nat.testBit_eq_decide_div_mod_eq]
  by_cases h : m / 2 ^ f % 2 = 1
  · rw [h, if_neg (by decide), decide_eq_true rfl]; rfl
  · have h0 : m / 2 ^ f % 2 = 0 := by omega
    rw [h0, if_pos (by decide), decide_eq_false (by decide)]; rfl
theorem g_bc1 : ∀ a, a < 128 → ∀ b, b < 128 → mJ6_bitCount_0f7a4 (nI (128 * a + b)) = nI (gCt (128 * a + b).testBit 14) := by decide +kernel
theorem g_bc {m : Nat} (h : m < 2 ^ 14) : mJ6_bitCount_0f7a4 (nI m) = nI (gCt m.testBit 14) := by
  have := g_bc1 (m / 128) (by omega) (m % 128) (by omega)
  rwa [show 128 * (m / 128) + m % 128 = m by omega] at this
theorem g_jin {n N : Nat} (h : n < N) (hN : N < 2 ^ 31) : jin (nI n) N = true := by
  unfold jin
  rw [nI_toInt (by omega)]
  apply decide_eq_true
  omega
theorem g_cl {n : Nat} (h : n < 2 ^ 31) : (nI n).toNatClampNeg = n := nI_clamp h
theorem g_10 : ¬ ((1 : Int32) = 0) := by decide
theorem g_01 : ¬ ((0 : Int32) = 1) := by decide
/-! the memory's rows -/
theorem s1_eq (V : jMem) (j k : Nat) (x : Int32) (a : Nat) : (jsI V j k x).1 a = if a = j then upd (V.1 j) k x else V.1 a := rfl
theorem s1_2 (V : jMem) (j k : Nat) (x : Int32) : (jsI V j k x).2 = V.2 := rfl
theorem s2_eq (V : jMem) (j k : Nat) (x : Int64) (a : Nat) : (jsL V j k x).2 a = if a = j then vp_updL (V.2 j) k x else V.2 a := rfl
theorem s2_1 (V : jMem) (j k : Nat) (x : Int64) : (jsL V j k x).1 = V.1 := rfl
theorem sA_eq (V : jMem) (j : Nat) (f : Nat → Int32) (a : Nat) : (jsA V j f).1 a = if a = j then f else V.1 a := rfl
theorem sA_2 (V : jMem) (j : Nat) (f : Nat → Int32) : (jsA V j f).2 = V.2 := rfl
theorem sB_eq (V : jMem) (j : Nat) (f : Nat → Int64) (a : Nat) : (jsB V j f).2 a = if a = j then f else V.2 a := rfl
theorem sB_1 (V : jMem) (j : Nat) (f : Nat → Int64) : (jsB V j f).1 = V.1 := rfl
theorem u_eq (f : Nat → Int32) (k : Nat) (x : Int32) (j : Nat) : upd f k x j = if j = k then x else f j := rfl
theorem uL_eq (f : Nat → Int64) (k : Nat) (x : Int64) (j : Nat) : vp_updL f k x j = if j = k then x else f j := rfl
theorem jl_eq {α β : Type} (x : α) (f : α → β) : jl x f = f x := rfl
