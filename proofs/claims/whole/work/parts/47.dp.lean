/-! the order of least cost: what both sides compute -/
section DP
variable {V U V' U' : jMem}
theorem gAt_mono {p : Nat → Bool} {i : Nat} : ∀ {n k : Nat}, i ≤ n → k < gCt p i → gAt p n k = gAt p i k := by
  intro n k h
  induction h with
  | refl => intro _; rfl
  | step hm ih =>
    rename_i m
    intro hk
    have : gCt p i ≤ gCt p m := by
      clear ih
      induction hm with
      | refl => exact Nat.le_refl _
      | step _ ih => rw [gCt]; omega
    rw [gAt_old (by omega)]
    exact ih hk
theorem gAt_lt {p : Nat → Bool} : ∀ {n i j : Nat}, i < j → j < gCt p n → gAt p n i < gAt p n j := by
  intro n
  induction n with
  | zero => intro i j _ hj; exact absurd hj (Nat.not_lt_zero _)
  | succ n ih =>
    intro i j hij hj
    by_cases z : j < gCt p n
    · rw [gAt_old z, gAt_old (by omega)]
      exact ih hij z
    · rw [gCt] at hj
      by_cases e : p n = true
      · rw [if_pos e] at hj
        obtain rfl : j = gCt p n := by omega
        rw [gAt_new e, gAt_old hij]
        exact (gAt_ok p n i hij).1
      · rw [if_neg e] at hj; omega
theorem gCt_two {p q : Nat → Bool} : ∀ {n : Nat}, (∀ i, i < n → p i = true → q i = true → False) → gCt p n + gCt q n ≤ n := by
  intro n
  induction n with
  | zero => intro _; exact Nat.le_refl _
  | succ n ih =>
    intro h
    have h1 := ih (fun i hi => h i (by omega))
    have h2 := h n (by omega)
    rw [gCt, gCt]
    by_cases a : p n = true
    · by_cases b : q n = true
      · exact (h2 a b).elim
      · rw [if_pos a, if_neg b]; omega
    · rw [if_neg a]; split <;> omega
theorem gCt_lt {p : Nat → Bool} {i n : Nat} (hi : i < n) (hp : p i = false) : gCt p n < n := by
  have h1 := gCt_two (p := p) (q := fun k => decide (k = i)) (n := n) (fun k _ a b => by
    have : k = i := of_decide_eq_true b
    subst this
    rw [hp] at a; cases a)
  have h2 := gCt_on (p := fun _ => false) (q := fun k => decide (k = i)) (f := i) rfl (n := n) hi (fun k _ => by simp)
  omega
/-- OURS and those of the row that are bought -/
def dMm (W' : Nat → Nat) (o b : Nat) : Nat → Nat
  | 0 => o
  | j + 1 => dMm W' o b j ||| (if b.testBit j then 2 ^ W' j else 0)
theorem dM_bit {W : Nat → Nat} {o b g : Nat} : ∀ {j : Nat}, (∀ i, i < j → W i ≠ g) → (dMm W o b j).testBit g = o.testBit g := by
  intro j
  induction j with
  | zero => intro _; rfl
  | succ j ih =>
    intro h
    rw [dMm, Nat.testBit_or, ih (fun i hi => h i (by omega))]
    have : (if b.testBit j = true then 2 ^ W j else 0).testBit g = false := by
      split
      · rw [Nat.testBit_two_pow, decide_eq_false (h j (by omega))]
      · exact Nat.zero_testBit _
    rw [this, Bool.or_false]
theorem dM_lt {W : Nat → Nat} {o b N : Nat} (ho : o < 2 ^ N) : ∀ {j : Nat}, (∀ i, i < j → W i < N) → dMm W o b j < 2 ^ N := by
  intro j
  induction j with
  | zero => intro _; exact ho
  | succ j ih =>
    intro h
    rw [dMm]
    refine g_or_lt (ih (fun i hi => h i (by omega))) ?_
    split
    · exact Nat.pow_lt_pow_right (by decide) (h j (by omega))
    · exact Nat.two_pow_pos N
theorem d_heard {s : Nat → Int32} {W : Nat → Nat} {c : Nat} (hW : ∀ k, k < c → W k < gN s) (hI : ∀ i j, i < j → j < c → W i < W j) (hO : ∀ k, k < c → (gOurs s).testBit (W k) = false) (f b : Nat) : ∀ j, j ≤ c → gHeard s f (dMm W (gOurs s) b j) = gHeard s f (gOurs s) + gCt (fun k => b.testBit k && pTell s f (W k)) j := by
  intro j
  induction j with
  | zero => intro _; rfl
  | succ j ih =>
    intro hj
    have e0 := ih (by omega)
    rw [gCt, dMm]
    have hb : (dMm W (gOurs s) b j).testBit (W j) = false := by
      rw [dM_bit (fun i hi => by have := hI i j hi (by omega); omega), hO j (by omega)]
    generalize dMm W (gOurs s) b j = m at *
    by_cases z1 : b.testBit j = true
    · rw [if_pos z1, z1, Bool.true_and]
      have hbit : ∀ g, (m ||| 2 ^ W j).testBit g = (m.testBit g || decide (g = W j)) := fun g => by
        rw [Nat.testBit_or, Nat.testBit_two_pow]
        congr 1
        rw [decide_eq_decide]; exact eq_comm
      by_cases z2 : pTell s f (W j) = true
      · rw [if_pos z2, ← Nat.add_assoc, ← e0]
        unfold gHeard
        refine gCt_on (f := W j) (by rw [hb, Bool.false_and]) (hW j (by omega)) (fun i hi => ?_)
        rw [hbit]
        by_cases e : i = W j
        · subst e; rw [hb, z2, decide_eq_true rfl]; rfl
        · rw [decide_eq_false e]; simp
      · rw [if_neg z2, Nat.add_zero, ← e0]
        unfold gHeard
        refine gCt_congr (fun i hi => ?_)
        rw [hbit]
        by_cases e : i = W j
        · subst e
          have : pTell s f (W j) = false := by simpa using z2
          rw [this, Bool.and_false, Bool.and_false]
        · rw [decide_eq_false e, Bool.or_false]
    · have z3 : b.testBit j = false := by simpa using z1
      rw [if_neg z1, Nat.or_zero, e0, z3, Bool.false_and]; rfl
/-- what the i-th of the row asks, b of the row bought -/
def dAsk (s : Nat → Int32) (W : Nat → Nat) (c i b : Nat) : Nat := gAsk s (W i) (dMm W (gOurs s) b c)
/-- a row of fields -/
def DW (s : Nat → Int32) (W : Nat → Nat) (c : Nat) : Prop := c ≤ 10 ∧ (∀ k, k < c → W k < gN s) ∧ (∀ i j, i < j → j < c → W i < W j) ∧ (∀ k, k < c → (gOurs s).testBit (W k) = false) ∧ gCt (pOurs s) (gN s) + c ≤ 14
def SX (V : jMem) (s : Nat → Int32) (W : Nat → Nat) (c : Nat) : Prop := V.1 31 0 = nI c ∧ (∀ k, k < c → V.1 32 k = nI (W k)) ∧ (∀ i, i < c → V.1 33 i = nI (gSet (fun k => pTell s (W i) (W k)) c)) ∧ (∀ i, i < c → ∀ h, h < c → V.1 34 (10 * i + h) = nI (gPr (nn (gF s (W i) 0)) (nn (gF s (W i) 1)) (nn (gF s (W i) 2)) (gHeard s (W i) (gOurs s) + h)))
def SU (U : jMem) (s : Nat → Int32) (W : Nat → Nat) (c : Nat) : Prop := U.1 1 = s ∧ U.1 0 13 = nI c ∧ (∀ k, k < c → U.1 9 k = nI (W k))
theorem or_bit_lt {b i c : Nat} (hb : b < 2 ^ c) (hi : i < c) : b ||| 2 ^ i < 2 ^ c := g_or_lt hb (Nat.pow_lt_pow_right (by decide) hi)
theorem or_bit_gt {b i : Nat} (hi : b.testBit i = false) : b < b ||| 2 ^ i := by
  have h1 : b ≤ b ||| 2 ^ i := Nat.left_le_or
  rcases Nat.lt_or_ge b (b ||| 2 ^ i) with h | h
  · exact h
  · exfalso
    have : b = b ||| 2 ^ i := by omega
    rw [this, Nat.testBit_or, Nat.testBit_two_pow, decide_eq_true rfl, Bool.or_true] at hi
    cases hi
theorem x_cost {s : Nat → Int32} {W : Nat → Nat} {c i b : Nat} (hd : DW s W c) (hs : SX V s W c) (hi : i < c) (hb : b < 2 ^ c) : mX1_costBy (nI i) (nI b) V = some (nI (dAsk s W c i b) + V.1 35 (b ||| 2 ^ i)) := by
  obtain ⟨d1, d2, d3, d4, d5⟩ := hd
  obtain ⟨s1, s2, s3, s4⟩ := hs
  have hp : (2 : Nat) ^ c ≤ 2 ^ 10 := Nat.pow_le_pow_right (by decide) d1
  have ho := or_bit_lt hb hi
  have hlt : gCt (fun k => pTell s (W i) (W k) && b.testBit k) c < c := gCt_lt hi (by unfold pTell; simp)
  have e1 : nI i * 10 + nI (gCt (fun k => pTell s (W i) (W k) && b.testBit k) c) = nI (10 * i + gCt (fun k => pTell s (W i) (W k) && b.testBit k) c) := by
    show nI i * nI 10 + _ = _
    rw [pk_mul, nI_add, Nat.mul_comm]
  unfold mX1_costBy
  rw [g_jin (show i < 10 by omega) (by omega), jg_t, g_cl (show i < 2 ^ 31 by omega), s3 i hi, g_and, gSet_andN, g_bcSet (by omega), jl_eq, e1, g_jin (show 10 * i + gCt (fun k => pTell s (W i) (W k) && b.testBit k) c < 100 by omega) (by omega), jg_t, g_cl (show 10 * i + gCt (fun k => pTell s (W i) (W k) && b.testBit k) c < 2 ^ 31 by omega), g_one i (by omega), g_or, g_jin (show b ||| 2 ^ i < 1024 by omega) (by omega), jg_t, g_cl (show b ||| 2 ^ i < 2 ^ 31 by omega), s4 i hi _ hlt]
  unfold dAsk gAsk
  rw [d_heard d2 d3 d4 (W i) b c (Nat.le_refl _)]
  have : gCt (fun k => pTell s (W i) (W k) && b.testBit k) c = gCt (fun k => b.testBit k && pTell s (W i) (W k)) c := gCt_congr (fun k _ => Bool.and_comm _ _)
  rw [this]
theorem m_cost {s : Nat → Int32} {W : Nat → Nat} {c i b : Nat} (w : WF s) (hd : DW s W c) (hs : SU U s W c) (hi : i < c) (hb : b < 2 ^ c) : mX5_asksBehind (nI i) (nI b) U = some (nI (dAsk s W c i b)) := by
  obtain ⟨d1, d2, d3, d4, d5⟩ := hd
  obtain ⟨s1, s2, s3⟩ := hs
  subst s1
  have hp : (2 : Nat) ^ c ≤ 2 ^ 10 := Nat.pow_le_pow_right (by decide) d1
  have hn := w.n
  have ho := gOurs_lt w
  have hml : dMm W (gOurs (U.1 1)) b c < 2 ^ 14 := dM_lt ho (fun k hk => by have := d2 k hk; omega)
  unfold mX5_asksBehind
  rw [m_ours w, Option.bind_some]
  refine g_up (P := fun n j => mX5_asksBehind_b8 U n (nI i) (nI b) (nI (dMm W (gOurs (U.1 1)) b j)) (nI j) = _) c ?_ ?_ 2000 0 (by omega) (by omega)
  · intro n
    show mX5_asksBehind_b8 U (n + 1) _ _ _ _ = _
    unfold mX5_asksBehind_b8
    rw [s2, if_pos (nI_le (Nat.le_refl _) (by omega)), g_jin (show i < 14 by omega) (by omega), jg_t, g_cl (show i < 2 ^ 31 by omega), s3 i hi, m_by w (d2 i hi) (by omega)]; rfl
  · intro n j hj this
    show mX5_asksBehind_b8 U (n + 1) _ _ _ _ = _
    have qb : ((nI b >>> (nI j &&& 31)) &&& 1 = 1) ↔ b.testBit j = true := g_bit1 (by omega) (by omega)
    have hwj := d2 j hj
    rw [dMm] at this
    unfold mX5_asksBehind_b8 mX5_asksBehind_b41
    rw [s2, if_neg (nI_ge hj (by omega)), g_jin (show j < 14 by omega) (by omega), jg_t, g_cl (show j < 2 ^ 31 by omega), s3 j hj, g_one (W j) (by omega), g_or, nI_1, show (0 : Int32) = nI 0 from rfl, g_or]
    simp only [qb]
    by_cases z : b.testBit j = true
    · rw [if_pos z]
      rw [if_pos z] at this
      exact this
    · rw [if_neg z]
      rw [if_neg z] at this
      exact this
/-- the least so far: none yet, or that of the i-th -/
def dR (E : Nat → Nat) (b j : Nat) (x y : Int32) : Prop := (x = 1073741824 ∧ y = -1 ∧ ∀ i, i < j → b.testBit i = true) ∨ ∃ i, i < j ∧ b.testBit i = false ∧ x = nI (E i) ∧ y = nI (E i)
theorem dp_in {s : Nat → Int32} {W : Nat → Nat} {c b : Nat} (w : WF s) (hd : DW s W c) (hx : SX V s W c) (hu : SU U s W c) (hb : b < 2 ^ c) (E : Nat → Nat) (hE : ∀ i, i < c → b.testBit i = false → E i < 2 ^ 30 ∧ nI (dAsk s W c i b) + V.1 35 (b ||| 2 ^ i) = nI (E i) ∧ nI (dAsk s W c i b) + U.1 10 (b ||| 2 ^ i) = nI (E i)) (k : Int32 → jMem → Option (Int32 × jMem)) (k2 : Int32 → jMem → Option (Int32 × jMem)) : ∀ d j n n2 x y, j + d = c → d < n → d < n2 → dR E b j x y → ∃ x' y', mX1_run_b39 k n (nI b) x (nI j) V = k (nI b + -1) (jsI V 35 b x') ∧ mX5_findLeast_b29 k2 n2 (nI b) y (nI j) U = k2 (nI b + -1) (jsI U 10 b y') ∧ dR E b c x' y' := by
  have hp : (2 : Nat) ^ c ≤ 2 ^ 10 := Nat.pow_le_pow_right (by decide) hd.1
  have hc := hd.1
  intro d
  induction d with
  | zero =>
    intro j n n2 x y hj hn hn2 hr
    obtain ⟨n, rfl⟩ : ∃ n', n = n' + 1 := ⟨n - 1, by omega⟩
    obtain ⟨n2, rfl⟩ : ∃ n', n2 = n' + 1 := ⟨n2 - 1, by omega⟩
    obtain rfl : j = c := by omega
    refine ⟨x, y, ?_, ?_, hr⟩
    · unfold mX1_run_b39
      rw [hx.1, if_pos (nI_le (Nat.le_refl _) (by omega)), g_jin (show b < 1024 by omega) (by omega), jg_t, jl_eq, g_cl (show b < 2 ^ 31 by omega)]
    · unfold mX5_findLeast_b29
      rw [hu.2.1, if_pos (nI_le (Nat.le_refl _) (by omega)), g_jin (show b < 1024 by omega) (by omega), jg_t, jl_eq, g_cl (show b < 2 ^ 31 by omega)]
  | succ d ih =>
    intro j n n2 x y hj hn hn2 hr
    obtain ⟨n, rfl⟩ : ∃ n', n = n' + 1 := ⟨n - 1, by omega⟩
    obtain ⟨n2, rfl⟩ : ∃ n', n2 = n' + 1 := ⟨n2 - 1, by omega⟩
    have hj' : j < c := by omega
    have ho := or_bit_lt hb hj'
    have qb : ((nI b >>> (nI j &&& 31)) &&& 1 = 0) ↔ b.testBit j = false := g_bit1' (by omega) (by omega)
    unfold mX1_run_b39 mX5_findLeast_b29 mX1_run_b73 mX5_findLeast_b78 mX5_findLeast_b84 mX5_findLeast_b85
    rw [hx.1, hu.2.1, if_neg (nI_ge hj' (by omega)), if_neg (nI_ge hj' (by omega)), x_isIn (by omega) (by omega), x_cost hd hx hj' hb, m_cost w hd hu hj' hb, Option.bind_some, Option.bind_some, g_one j (by omega), g_or, g_jin (show b ||| 2 ^ j < 1024 by omega) (by omega), jg_t, jl_eq, g_cl (show b ||| 2 ^ j < 2 ^ 31 by omega), nI_1]
    simp only [qb]
    by_cases z : b.testBit j = true
    · rw [if_pos z, if_neg g_10, if_neg (show ¬ b.testBit j = false by rw [z]; decide)]
      refine ih (j + 1) n n2 x y (by omega) (by omega) (by omega) ?_
      rcases hr with ⟨r1, r2, r3⟩ | ⟨i, r1, r2, r3, r4⟩
      · left
        refine ⟨r1, r2, fun i hi => ?_⟩
        by_cases e : i = j
        · rw [e]; exact z
        · exact r3 i (by omega)
      · exact .inr ⟨i, by omega, r2, r3, r4⟩
    · have z2 : b.testBit j = false := by simpa using z
      obtain ⟨E1, E2, E3⟩ := hE j hj' z2
      rw [if_neg z, if_pos rfl, if_pos z2, E2, E3]
      rcases hr with ⟨r1, r2, r3⟩ | ⟨i, r1, r2, r3, r4⟩
      · subst r1 r2
        have q : nI (E j) < (1073741824 : Int32) := nI_lt (b := 1073741824) E1 (by omega)
        rw [if_pos q, if_pos (show (-1 : Int32) < 0 by decide)]
        exact ih (j + 1) n n2 _ _ (by omega) (by omega) (by omega) (.inr ⟨j, by omega, z2, rfl, rfl⟩)
      · subst r3 r4
        obtain ⟨F1, -, -⟩ := hE i (by omega) r2
        have q1 : (nI (E j) < nI (E i)) ↔ E j < E i := nI_ltI (by omega) (by omega)
        have q2 : (nI (E i) ≤ nI (E j)) ↔ E i ≤ E j := nI_leI (by omega) (by omega)
        simp only [q1, q2]
        rw [if_neg (nI_pos (show E i < 2 ^ 31 by omega))]
        by_cases y : E j < E i
        · rw [if_pos y, if_neg (by omega)]
          exact ih (j + 1) n n2 _ _ (by omega) (by omega) (by omega) (.inr ⟨j, by omega, z2, rfl, rfl⟩)
        · rw [if_neg y, if_pos (by omega)]
          exact ih (j + 1) n n2 _ _ (by omega) (by omega) (by omega) (.inr ⟨i, by omega, r2, rfl, rfl⟩)
/-- what both tables hold, from m on -/
def dI (s : Nat → Int32) (W : Nat → Nat) (c m : Nat) (V U : jMem) : Prop := ∀ b, m ≤ b → b < 2 ^ c → isN (V.1 35 b) (43500 * (2 ^ c - 1 - b)) ∧ U.1 10 b = V.1 35 b ∧ (b < 2 ^ c - 1 → ∃ i, i < c ∧ b.testBit i = false ∧ V.1 35 b = nI (dAsk s W c i b) + V.1 35 (b ||| 2 ^ i))
theorem t_free {c b : Nat} (hb : b < 2 ^ c - 1) : ∃ i, i < c ∧ b.testBit i = false := by
  have h1 : 1 ≤ 2 ^ c := Nat.one_le_two_pow
  apply Classical.byContradiction
  intro hn
  have : b = 2 ^ c - 1 := by
    refine g_ext (n := c) (by omega) (by omega) (fun i hi => ?_)
    rw [Nat.testBit_two_pow_sub_one, decide_eq_true hi]
    by_cases e : b.testBit i = true
    · exact e
    · exact absurd ⟨i, hi, by simpa using e⟩ hn
  omega
theorem dp_out {s : Nat → Int32} {W : Nat → Nat} {c : Nat} (w : WF s) (hd : DW s W c) : ∀ m n n2 (V U : jMem), m < n → m < n2 → m ≤ 2 ^ c - 1 → SX V s W c → SU U s W c → dI s W c m V U → ∃ V' U', mX1_run_b27 n (nI m + -1) V = some (V'.1 35 0, V') ∧ mX5_findLeast_b20 n2 (nI m + -1) U = some (U'.1 10 0, U') ∧ dI s W c 0 V' U' ∧ (∀ j, j ≠ 35 → V'.1 j = V.1 j) ∧ V'.2 = V.2 ∧ (∀ j, j ≠ 10 → U'.1 j = U.1 j) ∧ U'.2 = U.2 := by
  have hc := hd.1
  have hp : (2 : Nat) ^ c ≤ 2 ^ 10 := Nat.pow_le_pow_right (by decide) hc
  have h1 : 1 ≤ 2 ^ c := Nat.one_le_two_pow
  intro m
  induction m with
  | zero =>
    intro n n2 V U hn hn2 hm hx hu hi
    obtain ⟨n, rfl⟩ : ∃ n', n = n' + 1 := ⟨n - 1, by omega⟩
    obtain ⟨n2, rfl⟩ : ∃ n', n2 = n' + 1 := ⟨n2 - 1, by omega⟩
    refine ⟨V, U, ?_, ?_, hi, fun _ _ => rfl, rfl, fun _ _ => rfl, rfl⟩
    · unfold mX1_run_b27
      rw [if_pos (by decide)]
    · unfold mX5_findLeast_b20
      rw [if_pos (by decide)]
  | succ b ih =>
    intro n n2 V U hn hn2 hm hx hu hi
    obtain ⟨n, rfl⟩ : ∃ n', n = n' + 1 := ⟨n - 1, by omega⟩
    obtain ⟨n2, rfl⟩ : ∃ n', n2 = n' + 1 := ⟨n2 - 1, by omega⟩
    have hb : b < 2 ^ c := by omega
    have eb : nI (b + 1) + -1 = nI b := by
      have : nI (b + 1) - 1 = nI (b + 1 - 1) := pk_sub (b := 1) (by omega)
      rw [Int32.sub_eq_add_neg] at this
      exact this
    rw [eb]
    unfold mX1_run_b27 mX5_findLeast_b20
    rw [if_neg (nI_pos (by omega)), if_neg (nI_pos (by omega))]
    have hE : ∀ i, i < c → b.testBit i = false → dAsk s W c i b + nn (V.1 35 (b ||| 2 ^ i)) < 2 ^ 30 ∧ nI (dAsk s W c i b) + V.1 35 (b ||| 2 ^ i) = nI (dAsk s W c i b + nn (V.1 35 (b ||| 2 ^ i))) ∧ nI (dAsk s W c i b) + U.1 10 (b ||| 2 ^ i) = nI (dAsk s W c i b + nn (V.1 35 (b ||| 2 ^ i))) := by
      intro i hi' hbi
      have g := or_bit_gt hbi
      have l := or_bit_lt hb hi'
      obtain ⟨q1, q2, -⟩ := hi (b ||| 2 ^ i) (by omega) l
      have q3 := q1.2
      have q4 : dAsk s W c i b ≤ 43500 := by
        have hu1 := hu.1
        subst hu1
        exact gAsk_le w (hd.2.1 i hi') _
      refine ⟨by omega, ?_, ?_⟩
      · rw [← nI_add, ← q1.1]
      · rw [q2, ← nI_add, ← q1.1]
    have hbound : ∀ i, i < c → b.testBit i = false → dAsk s W c i b + nn (V.1 35 (b ||| 2 ^ i)) ≤ 43500 * (2 ^ c - 1 - b) := by
      intro i hi' hbi
      have g := or_bit_gt hbi
      have l := or_bit_lt hb hi'
      obtain ⟨q1, q2, -⟩ := hi (b ||| 2 ^ i) (by omega) l
      have q3 := q1.2
      have q4 : dAsk s W c i b ≤ 43500 := by
        have hu1 := hu.1
        subst hu1
        exact gAsk_le w (hd.2.1 i hi') _
      omega
    obtain ⟨x', y', e1, e2, e3⟩ := dp_in w hd hx hu hb (fun i => dAsk s W c i b + nn (V.1 35 (b ||| 2 ^ i))) hE (mX1_run_b27 n) (mX5_findLeast_b20 n2) c 0 2000 2000 1073741824 (-1) (by omega) (by omega) (by omega) (.inl ⟨rfl, rfl, fun i hi => absurd hi (Nat.not_lt_zero _)⟩)
    rw [show (0 : Int32) = nI 0 from rfl, e1, e2]
    obtain ⟨i0, hi0, hb0⟩ := t_free (c := c) (b := b) (by omega)
    rcases e3 with ⟨-, -, r3⟩ | ⟨i, r1, r2, r3, r4⟩
    · rw [r3 i0 hi0] at hb0; cases hb0
    · subst r3 r4
      have g := or_bit_gt r2
      have hi2 : dI s W c b (jsI V 35 b (nI (dAsk s W c i b + nn (V.1 35 (b ||| 2 ^ i))))) (jsI U 10 b (nI (dAsk s W c i b + nn (V.1 35 (b ||| 2 ^ i))))) := by
        intro a ha hac
        rw [s1_at, s1_at]
        by_cases e : a = b
        · subst e
          rw [if_pos ⟨rfl, rfl⟩, if_pos ⟨rfl, rfl⟩]
          refine ⟨isN_nI (hbound i r1 r2) (by omega), rfl, fun _ => ⟨i, r1, r2, ?_⟩⟩
          rw [s1_at, if_neg (by omega)]
          exact (hE i r1 r2).2.1.symm
        · rw [if_neg (by omega), if_neg (by omega)]
          obtain ⟨q1, q2, q3⟩ := hi a (by omega) hac
          refine ⟨q1, q2, fun hl => ?_⟩
          obtain ⟨i', p1, p2, p3⟩ := q3 hl
          have g' := or_bit_gt p2
          refine ⟨i', p1, p2, ?_⟩
          rw [s1_at, if_neg (by omega)]
          exact p3
      obtain ⟨V', U', f1, f2, f3, f4, f5, f6, f7⟩ := ih n n2 _ _ (by omega) (by omega) (by omega) (show SX (jsI V 35 b _) s W c from hx) (show SU (jsI U 10 b _) s W c from hu) hi2
      refine ⟨V', U', f1, f2, f3, fun j hj => ?_, f5, fun j hj => ?_, f7⟩
      · rw [f4 j hj, s1_eq, if_neg hj]
      · rw [f6 j hj, s1_eq, if_neg hj]
end DP
