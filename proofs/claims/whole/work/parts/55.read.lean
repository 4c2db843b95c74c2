/-! the text: a number, a row of numbers -/
section TR
variable {V U V' U' : jMem} {bs : Nat → Nat} {z : Nat}
/-- the reference has found a FAULT at q, or will: nothing reads on from there -/
def FA (U : jMem) (q : Nat) : Prop := (U.1 0 16 = nI q ∧ q ≤ 120) ∧ (U.1 0 20 = 1 ∨ (U.1 0 20 = 0 ∧ U.1 0 18 = 4))
def FB (U U' : jMem) : Prop := (∀ j, j ≠ 0 → U'.1 j = U.1 j) ∧ (∀ a, a < 16 → U'.1 0 a = U.1 0 a) ∧ U'.2 = U.2
theorem FM.fb (h : FM U U') : FB U U' := ⟨h.1, fun a ha => h.2.1 a (by omega), h.2.2⟩
theorem FB.tr {U2 : jMem} (h : FB U U') (h2 : FB U' U2) : FB U U2 := ⟨fun j hj => (h2.1 j hj).trans (h.1 j hj), fun a ha => (h2.2.1 a ha).trans (h.2.1 a ha), h2.2.2.trans h.2.2⟩
theorem FM.tr {U2 : jMem} (h : FM U U') (h2 : FM U' U2) : FM U U2 := ⟨fun j hj => (h2.1 j hj).trans (h.1 j hj), fun a ha => (h2.2.1 a ha).trans (h.2.1 a ha), h2.2.2.trans h.2.2⟩
theorem FX.tr {V2 : jMem} (h : FX V V') (h2 : FX V' V2) : FX V V2 := ⟨fun j hj => (h2.1 j hj).trans (h.1 j hj), h2.2.1.trans h.2.1, h2.2.2.trans h.2.2⟩
theorem FB_bad (U : jMem) (x : Int32) : FB U (jsI U 0 20 x) := ⟨fun j hj => by rw [s1_eq, if_neg hj], fun a ha => by rw [s1_at, if_neg (by omega)], rfl⟩
theorem FA_bad {q : Nat} (h : U.1 0 16 = nI q ∧ q ≤ 120) : FA (jsI U 0 20 1) q := ⟨⟨by rw [s1_at, if_neg (by omega)]; exact h.1, h.2⟩, .inl (by rw [s1_at, if_pos ⟨rfl, rfl⟩])⟩
theorem TTX.fx (tx : TTX V bs z) (h : FX V V') : TTX V' bs z := TTX_fr tx h.2.1 (h.1 37 (by omega))
theorem TTM.fb (tm : TTM U bs z) (h : FB U U') : TTM U' bs z := TTM_fr tm (h.2.1 8 (by omega)) (h.1 5 (by omega)) (h.1 11 (by omega))
theorem num_bad {a1 a2 : Int32} (h : ¬ U.1 0 20 = 0 ∨ ¬ U.1 0 18 = 2 ∨ mX5_isIn (Int32.toInt64 (U.1 0 19)) (Int32.toInt64 a1) (Int32.toInt64 a2) = 0) : mX5_number a1 a2 U = some (0, jsI U 0 20 1) := by
  unfold mX5_number mX5_number_b30
  by_cases y1 : U.1 0 20 = 0
  · rw [if_pos y1]
    by_cases y2 : U.1 0 18 = 2
    · rw [if_pos y2]
      rcases h with h | h | h
      · exact absurd y1 h
      · exact absurd y2 h
      · rw [if_pos h, jl_eq]
    · rw [if_neg y2, jl_eq]
  · rw [if_neg y1, jl_eq]
theorem num_good {a1 a2 : Int32} (h1 : U.1 0 20 = 0) (h2 : U.1 0 18 = 2) (h3 : mX5_isIn (Int32.toInt64 (U.1 0 19)) (Int32.toInt64 a1) (Int32.toInt64 a2) = 1) (h4 : mX5_goesOn U = some U') : mX5_number a1 a2 U = some (U.1 0 19, U') := by
  unfold mX5_number
  rw [if_pos h1, if_pos h2, h3, if_neg g_10, h4]; rfl
theorem FA.num {q : Nat} (h : FA U q) (a1 a2 : Int32) : mX5_number a1 a2 U = some (0, jsI U 0 20 1) ∧ FA (jsI U 0 20 1) q := by
  refine ⟨num_bad ?_, FA_bad h.1⟩
  rcases h.2 with y | ⟨-, y⟩
  · exact .inl (by rw [y]; exact g_10)
  · exact .inr (.inl (by rw [y]; decide))
theorem FA.isWord {q : Nat} (h : FA U q) (w : Int32) : mX5_isWord w U = 0 := by
  unfold mX5_isWord
  rcases h.2 with y | ⟨y, y2⟩
  · rw [y, if_neg g_10]
  · rw [y, if_pos rfl, y2, if_neg (by decide)]
theorem FA.takes {q : Nat} (h : FA U q) (w : Int32) : mX5_takes w U = some (0, U) := by
  unfold mX5_takes
  rw [h.isWord w, if_pos rfl]
theorem TK.k0 {p k v e : Nat} (h : TK bs z V U p k v e) : U.1 0 18 = 1 ↔ k = 0 := by
  rw [h.2.2.2.2.1]
  have := h.2.2.2.2.2.2.2.2.2.2.2.1
  have : k = 0 ∨ k = 1 ∨ k = 2 ∨ k = 3 ∨ k = 4 ∨ k = 5 ∨ k = 6 := by omega
  rcases this with rfl | rfl | rfl | rfl | rfl | rfl | rfl <;> decide
theorem TK.k2 {p k v e : Nat} (h : TK bs z V U p k v e) : U.1 0 18 = 2 ↔ k = 2 := by
  rw [h.2.2.2.2.1]
  have := h.2.2.2.2.2.2.2.2.2.2.2.1
  have : k = 0 ∨ k = 1 ∨ k = 2 ∨ k = 3 ∨ k = 4 ∨ k = 5 ∨ k = 6 := by omega
  rcases this with rfl | rfl | rfl | rfl | rfl | rfl | rfl <;> decide
theorem TK.k4 {p k v e : Nat} (h : TK bs z V U p k v e) : (U.1 0 18 = 3 ↔ k = 4) ∧ (V.1 36 4 = 2 ↔ k = 4) ∧ (U.1 0 18 = 0 ↔ k = 5) ∧ (V.1 36 4 = 3 ↔ k = 5) ∧ (V.1 36 4 = 1 ↔ k = 2 ∨ k = 3) := by
  rw [h.2.2.2.2.1, h.2.2.2.1]
  have := h.2.2.2.2.2.2.2.2.2.2.2.1
  have : k = 0 ∨ k = 1 ∨ k = 2 ∨ k = 3 ∨ k = 4 ∨ k = 5 ∨ k = 6 := by omega
  rcases this with rfl | rfl | rfl | rfl | rfl | rfl | rfl <;> decide
theorem TK.takes {p k v e w : Nat} (h : TK bs z V U p k v e) (hb0 : U.1 0 20 = 0) (hw : w < 14) : (¬ (k = 0 ∧ v = w) ∧ mX5_takes (nI w) U = some (0, U)) ∨ (k = 0 ∧ v = w ∧ ∀ U', mX5_goesOn U = some U' → mX5_takes (nI w) U = some (1, U')) := by
  unfold mX5_takes mX5_isWord
  by_cases y : k = 0
  · have h19 := (h.2.2.2.2.2.2.1 y)
    have q : (nI v = nI w) ↔ v = w := nI_eq (by omega) (by omega)
    rw [if_pos hb0, if_pos (h.k0.mpr y), h19.2]
    simp only [q]
    by_cases y2 : v = w
    · right
      refine ⟨y, y2, fun U' hU' => ?_⟩
      rw [if_pos y2, if_neg g_10, hU']; rfl
    · left
      refine ⟨fun k => y2 k.2, ?_⟩
      rw [if_neg y2, if_pos rfl]
  · left
    refine ⟨fun k => y k.1, ?_⟩
    rw [if_pos hb0, if_neg (fun q => y (h.k0.mp q)), if_pos rfl]
def FP (P i : Nat) (x : Int32) (V V' : jMem) : Prop := V'.1 P = upd (V.1 P) i x ∧ (∀ j, j ≠ 36 → j ≠ P → V'.1 j = V.1 j) ∧ V'.1 36 1 = V.1 36 1 ∧ V'.2 = V.2
theorem into_ok (hb : TTB bs z) (tx : TTX V bs z) (tm : TTM U bs z) {p0 w0 e0 : Nat} (h : TK bs z V U p0 0 w0 e0) (hb0 : U.1 0 20 = 0) {P pn i lo hi : Nat} (hP : P < 36) (hi' : i < pn) (hpn : pn ≤ 14) (hlo : lo ≤ 9999) (hhi : hi ≤ 9999) : ∃ U1, mX5_goesOn U = some U1 ∧ FM U U1 ∧ ((∃ x V' U2 p k v e, lo ≤ x ∧ x ≤ hi ∧ mX4_readInto P pn (nI i) (nI lo) (nI hi) V = some (1, V') ∧ mX5_number (nI lo) (nI hi) U1 = some (nI x, U2) ∧ TK bs z V' U2 p k v e ∧ p0 < p ∧ U2.1 0 20 = 0 ∧ FM U U2 ∧ FP P i (nI x) V V') ∨ (∃ V' U2 q, mX4_readInto P pn (nI i) (nI lo) (nI hi) V = some (0, V') ∧ mX5_number (nI lo) (nI hi) U1 = some (0, U2) ∧ FA U2 q ∧ V'.1 36 2 = nI q ∧ FX V V' ∧ FB U U2)) := by
  obtain ⟨he1, he2, he3, he4⟩ := h.2.2.2.2.2.1 (.inl rfl)
  obtain ⟨V1, U1, p, k, v, e, n1, n2, tk, hqp, fx, fm⟩ := step_ok hb tx tm he2 he3 he4
  have b1 : U1.1 0 20 = 0 := by rw [fm.2.1 20 (by omega)]; exact hb0
  have fail : mX5_number (nI lo) (nI hi) U1 = some (0, jsI U1 0 20 1) → mX4_readInto P pn (nI i) (nI lo) (nI hi) V = some (0, V1) → ∃ U1, mX5_goesOn U = some U1 ∧ FM U U1 ∧ ((∃ x V' U2 p k v e, lo ≤ x ∧ x ≤ hi ∧ mX4_readInto P pn (nI i) (nI lo) (nI hi) V = some (1, V') ∧ mX5_number (nI lo) (nI hi) U1 = some (nI x, U2) ∧ TK bs z V' U2 p k v e ∧ p0 < p ∧ U2.1 0 20 = 0 ∧ FM U U2 ∧ FP P i (nI x) V V') ∨ (∃ V' U2 q, mX4_readInto P pn (nI i) (nI lo) (nI hi) V = some (0, V') ∧ mX5_number (nI lo) (nI hi) U1 = some (0, U2) ∧ FA U2 q ∧ V'.1 36 2 = nI q ∧ FX V V' ∧ FB U U2)) := fun m x => ⟨U1, n2, fm, .inr ⟨V1, jsI U1 0 20 1, p, x, m, FA_bad ⟨tk.2.2.1, Nat.le_trans tk.1 hb.1⟩, tk.2.1, fx, fm.fb.tr (FB_bad _ _)⟩⟩
  by_cases y2 : k = 2
  · obtain ⟨v1, v2, v3⟩ := tk.2.2.2.2.2.2.2.1 y2
    have hin : mX5_isIn (Int32.toInt64 (nI v)) (Int32.toInt64 (nI lo)) (Int32.toInt64 (nI hi)) = if lo ≤ v ∧ v ≤ hi then 1 else 0 := m_in (by omega) (by omega) (by omega)
    have xin : mX4_isWithin (nI v) (nI lo) (nI hi) = if lo ≤ v ∧ v ≤ hi then 1 else 0 := by
      rcases f_in (nI v) (nI lo) (nI hi) _ _ rfl rfl with ⟨a, b⟩ | ⟨-, -, a, b⟩
      · rw [a, ← hin, b]
      · rw [a, ← hin, b]
    have x1 : mX4_readInto P pn (nI i) (nI lo) (nI hi) V = (if mX4_isWithin (nI v) (nI lo) (nI hi) = 0 then some (0, V1) else (mX3_next (jsI V1 P i (nI v))).bind (fun p6 => some (1, p6))) := by
      unfold mX4_readInto
      rw [n1, Option.bind_some, if_pos (tk.k4.2.2.2.2.mpr (.inl y2)), v3, g_jin hi' (by omega), jg_t, jl_eq, g_cl (show i < 2 ^ 31 by omega)]
    by_cases yr : lo ≤ v ∧ v ≤ hi
    · rw [if_pos yr] at hin xin
      rw [xin, if_neg g_10] at x1
      obtain ⟨ee1, ee2, ee3, ee4⟩ := tk.2.2.2.2.2.1 (.inr (.inl y2))
      have txw : TTX (jsI V1 P i (nI v)) bs z := TTX_fr (tx.fx fx) (by rw [s1_at, if_neg (by omega)]) (by rw [s1_eq, if_neg (by omega)])
      obtain ⟨V2, U2, p', k', v', e', m1, m2, tk2, hqp2, fx2, fm2⟩ := step_ok (V := jsI V1 P i (nI v)) (U := U1) hb txw (tm.fb fm.fb) ee2 (by rw [s1_at, if_neg (by omega)]; exact ee3) ee4
      rw [m1, Option.bind_some] at x1
      have nm := num_good b1 (tk.k2.mpr y2) (by rw [v2]; exact hin) m2
      rw [v2] at nm
      refine ⟨U1, n2, fm, .inl ⟨v, V2, U2, p', k', v', e', yr.1, yr.2, x1, nm, tk2, by omega, by rw [fm2.2.1 20 (by omega)]; exact b1, fm.tr fm2, ?_, fun j j1 j2 => ?_, ?_, ?_⟩⟩
      · rw [fx2.1 P (by omega), s1_eq, if_pos rfl, fx.1 P (by omega)]
      · rw [fx2.1 j j1, s1_eq, if_neg j2, fx.1 j j1]
      · rw [fx2.2.1, s1_at, if_neg (by omega), fx.2.1]
      · rw [fx2.2.2]; exact fx.2.2
    · rw [if_neg yr] at hin xin
      rw [xin, if_pos rfl] at x1
      exact fail (num_bad (.inr (.inr (by rw [v2]; exact hin)))) x1
  · have nm := num_bad (a1 := nI lo) (a2 := nI hi) (U := U1) (.inr (.inl (fun q => y2 (tk.k2.mp q))))
    by_cases y3 : k = 3
    · have v3 := tk.2.2.2.2.2.2.2.2.1 y3
      refine fail nm ?_
      have xin : mX4_isWithin (10000 : Int32) (nI lo) (nI hi) = 0 := by
        unfold mX4_isWithin
        have q1 : (nI hi < (10000 : Int32)) := nI_lt (b := 10000) (by omega) (by omega)
        rw [if_pos q1]
        split <;> rfl
      unfold mX4_readInto
      rw [n1, Option.bind_some, if_pos (tk.k4.2.2.2.2.mpr (.inr y3)), v3, xin, if_pos rfl]
    · refine fail nm ?_
      unfold mX4_readInto
      rw [n1, Option.bind_some, if_neg (fun q => by have := tk.k4.2.2.2.2.mp q; omega)]
theorem m_lim {v lim : Nat} (hv : v ≤ 9999) (hl : lim ≤ 14) : mX5_isIn (Int32.toInt64 (nI v)) (Int32.toInt64 0) (Int32.toInt64 (nI lim - 1)) = if v < lim then 1 else 0 := by
  by_cases y : lim = 0
  · subst y
    have e1 : (nI 0 - 1 : Int32) = -1 := by decide
    have q1 : ((-1 : Int32) < nI v) := by
      rw [Int32.lt_iff_toInt_lt, nI_toInt (by omega)]
      have : (-1 : Int32).toInt = -1 := by decide
      omega
    rw [e1, if_neg (Nat.not_lt_zero v)]
    unfold mX5_isIn
    simp only [lg_cmp_lt, lg_cmp_gt, g_wlt]
    rw [if_neg (nI_pos (by omega)), if_pos q1]
  · rw [show nI lim - 1 = nI (lim - 1) from pk_sub (b := 1) (by omega), show (0 : Int32) = nI 0 from rfl, m_in (by omega) (by omega) (by omega)]
    by_cases y2 : v < lim
    · rw [if_pos y2, if_pos (by omega)]
    · rw [if_neg y2, if_neg (by omega)]; rfl
/-- how a reading of numbers ends -/
def SetEnd (bs : Nat → Nat) (z lim p : Nat) (V U : jMem) (X M : Option (Int32 × jMem)) : Prop := (∃ m V' U' p' k' v' e', m ≠ 0 ∧ m < 2 ^ lim ∧ X = some (nI m, V') ∧ M = some (nI m, U') ∧ TK bs z V' U' p' k' v' e' ∧ U'.1 0 20 = 0 ∧ p ≤ p' ∧ FX V V' ∧ FM U U') ∨ (∃ x V' U' q, X = some (-1, V') ∧ M = some (x, U') ∧ FA U' q ∧ V'.1 36 2 = nI q ∧ FX V V' ∧ FB U U')
theorem set_loop (hb : TTB bs z) {lim : Nat} (hl : lim ≤ 14) : ∀ d p v e i m n n2 (V U : jMem), p + d = z → d < n → d + 1 < n2 → i ≤ p → m < 2 ^ lim → TTX V bs z → TTM U bs z → TK bs z V U p 2 v e → U.1 0 20 = 0 → SetEnd bs z lim p V U (mX4_readSet_b8 n (nI lim) (nI m) (nI i) V) (mX5_numbersBelow_b4 n2 (nI lim) (nI m) 1 U) := by
  have h1 := hb.1
  have hpw : (2 : Nat) ^ lim ≤ 2 ^ 14 := Nat.pow_le_pow_right (by decide) hl
  intro d
  induction d using Nat.strongRecOn with
  | ind d ih =>
    intro p v e i m n n2 V U hp hn hn2 hip hm tx tm tk hb0
    obtain ⟨n, rfl⟩ : ∃ n', n = n' + 1 := ⟨n - 1, by omega⟩
    obtain ⟨n2, rfl⟩ : ∃ n', n2 = n' + 1 := ⟨n2 - 1, by omega⟩
    obtain ⟨v1, v2, v3⟩ := tk.2.2.2.2.2.2.2.1 rfl
    have hpz : p < z := tk.2.2.2.2.2.2.2.2.2.2.1 (by omega)
    obtain ⟨ee1, ee2, ee3, ee4⟩ := tk.2.2.2.2.2.1 (.inr (.inl rfl))
    have ql : (nI v < nI lim) ↔ v < lim := nI_ltI (by omega) (by omega)
    rw [mX4_readSet_b8, mX5_numbersBelow_b4, if_neg (show ¬ ((120 : Int32) ≤ nI i) from nI_ge (b := 120) (by omega) (by omega)), if_pos (tk.k4.2.2.2.2.mpr (.inl rfl)), v3, if_neg g_10, if_pos hb0]
    simp only [ql]
    by_cases y : v < lim
    · obtain ⟨V1, U1, p', k', v', e', m1, m2, tk2, hqp2, fx, fm⟩ := step_ok hb tx tm ee2 ee3 ee4
      have b1 : U1.1 0 20 = 0 := by rw [fm.2.1 20 (by omega)]; exact hb0
      have nm := num_good (a1 := 0) (a2 := nI lim - 1) hb0 (tk.k2.mpr rfl) (by rw [v2, m_lim v1 hl, if_pos y]) m2
      rw [v2] at nm
      have hmo : m ||| 2 ^ v < 2 ^ lim := g_or_lt hm (Nat.pow_lt_pow_right (by decide) y)
      have hp'z : p' ≤ z := tk2.1
      have hm0 : m ||| 2 ^ v ≠ 0 := by
        have q1 : 2 ^ v ≤ m ||| 2 ^ v := Nat.right_le_or
        have q2 : 1 ≤ 2 ^ v := Nat.one_le_two_pow
        omega
      rw [if_pos y, jl_eq, m1, nm, Option.bind_some, Option.bind_some, g_one v (by omega), g_or, nI_1]
      unfold mX5_numbersBelow_b41 mX5_numbersBelow_b62 mX5_numbersBelow_b63
      show SetEnd bs z lim p V U (mX4_readSet_b8 n (nI lim) (nI (m ||| 2 ^ v)) (nI (i + 1)) V1) (if U1.1 0 20 = 0 then _ else _)
      rw [if_pos b1]
      show SetEnd bs z lim p V U (mX4_readSet_b8 n (nI lim) (nI (m ||| 2 ^ v)) (nI (i + 1)) V1) (if U1.1 0 20 = 0 then (if U1.1 0 18 = 2 then mX5_numbersBelow_b4 n2 (nI lim) (nI m ||| nI (2 ^ v)) 1 U1 else mX5_numbersBelow_b4 n2 (nI lim) (nI m ||| nI (2 ^ v)) 0 U1) else _)
      rw [if_pos b1, g_or]
      obtain ⟨n2, rfl⟩ : ∃ n', n2 = n' + 1 := ⟨n2 - 1, by omega⟩
      by_cases y2 : k' = 2
      · subst y2
        rw [if_pos (tk2.k2.mpr rfl)]
        rcases ih (z - p') (by omega) p' v' e' (i + 1) (m ||| 2 ^ v) n (n2 + 1) V1 U1 (by omega) (by omega) (by omega) (by omega) hmo (tx.fx fx) (tm.fb fm.fb) tk2 b1 with ⟨m', V', U', p2, k2, w2, e2, r1, r2, r3, r4, r5, r6, r7, r8, r9⟩ | ⟨x, V', U', q, r1, r2, r3, r4, r5, r6⟩
        · exact .inl ⟨m', V', U', p2, k2, w2, e2, r1, r2, r3, r4, r5, r6, by omega, fx.tr r8, fm.tr r9⟩
        · exact .inr ⟨x, V', U', q, r1, r2, r3, r4, fx.tr r5, fm.fb.tr r6⟩
      · rw [if_neg (fun q => y2 (tk2.k2.mp q)), mX5_numbersBelow_b4, if_pos rfl]
        obtain ⟨n, rfl⟩ : ∃ n', n = n' + 1 := ⟨n - 1, by omega⟩
        rw [mX4_readSet_b8]
        have z0 : ¬ nI (m ||| 2 ^ v) = 0 := fun q => hm0 ((nI_eq (b := 0) (by omega) (by omega)).mp q)
        have b51 : mX4_readSet_b51 (nI (m ||| 2 ^ v)) V1 = some (nI (m ||| 2 ^ v), V1) := by
          unfold mX4_readSet_b51; rw [if_neg z0]
        have good : SetEnd bs z lim p V U (some (nI (m ||| 2 ^ v), V1)) (some (nI (m ||| 2 ^ v), U1)) := .inl ⟨m ||| 2 ^ v, V1, U1, p', k', v', e', hm0, hmo, rfl, rfl, tk2, b1, by omega, fx, fm⟩
        rw [b51]
        by_cases y3 : k' = 3
        · have hpz' : p' < z := tk2.2.2.2.2.2.2.2.2.2.2.1 (by omega)
          have w3 := tk2.2.2.2.2.2.2.2.2.1 y3
          rw [if_neg (show ¬ ((120 : Int32) ≤ nI (i + 1)) from nI_ge (b := 120) (by omega) (by omega)), if_pos (tk2.k4.2.2.2.2.mpr (.inr y3)), w3, if_neg (show ¬ ((10000 : Int32) < nI lim) from nI_nlt (a := 10000) (by omega) (by omega))]
          refine .inr ⟨_, V1, U1, p', rfl, rfl, ⟨⟨tk2.2.2.1, Nat.le_trans tk2.1 hb.1⟩, .inr ⟨b1, ?_⟩⟩, tk2.2.1, fx, fm.fb⟩
          rw [tk2.2.2.2.2.1, y3]; decide
        · rw [if_neg (show ¬ V1.1 36 4 = 1 from fun q => by have := tk2.k4.2.2.2.2.mp q; omega), ite_self]
          exact good
    · have nm := num_bad (a1 := 0) (a2 := nI lim - 1) (U := U) (.inr (.inr (by rw [v2, m_lim v1 hl, if_neg y])))
      have bb : (jsI U 0 20 1).1 0 20 = 1 := by rw [s1_at, if_pos ⟨rfl, rfl⟩]
      rw [if_neg y, nm, Option.bind_some]
      unfold mX5_numbersBelow_b41 mX5_numbersBelow_b62 mX5_numbersBelow_b63
      obtain ⟨n2, rfl⟩ : ∃ n', n2 = n' + 1 := ⟨n2 - 1, by omega⟩
      refine .inr ⟨nI m, V, jsI U 0 20 1, p, rfl, ?_, FA_bad ⟨tk.2.2.1, Nat.le_trans tk.1 hb.1⟩, tk.2.1, ⟨fun _ _ => rfl, rfl, rfl⟩, FB_bad _ _⟩
      show (if (jsI U 0 20 1).1 0 20 = 0 then _ else _) = _
      rw [bb, if_neg g_10]
      show (if (jsI U 0 20 1).1 0 20 = 0 then _ else _) = _
      rw [bb, if_neg g_10, mX5_numbersBelow_b4, if_pos rfl, Int32.or_zero]
theorem set_ok2 (hb : TTB bs z) (tx : TTX V bs z) (tm : TTM U bs z) {p0 w0 e0 lim : Nat} (h : TK bs z V U p0 0 w0 e0) (hb0 : U.1 0 20 = 0) (hl : lim ≤ 14) : ∃ U1, mX5_goesOn U = some U1 ∧ FM U U1 ∧ SetEnd bs z lim (p0 + 1) V U (mX4_readSet (nI lim) V) (mX5_numbersBelow (nI lim) U1) := by
  obtain ⟨he1, he2, he3, he4⟩ := h.2.2.2.2.2.1 (.inl rfl)
  obtain ⟨V1, U1, p, k, v, e, n1, n2, tk, hqp, fx, fm⟩ := step_ok hb tx tm he2 he3 he4
  have b1 : U1.1 0 20 = 0 := by rw [fm.2.1 20 (by omega)]; exact hb0
  refine ⟨U1, n2, fm, ?_⟩
  have h1 := hb.1
  unfold mX4_readSet mX5_numbersBelow
  rw [n1, Option.bind_some]
  by_cases y2 : k = 2
  · subst y2
    have := tk.1
    rcases set_loop hb hl (z - p) p v e 0 0 2000 2000 V1 U1 (by omega) (by omega) (by omega) (by omega) (Nat.two_pow_pos _) (tx.fx fx) (tm.fb fm.fb) tk b1 with ⟨m', V', U', p2, k2, w2, e2, r1, r2, r3, r4, r5, r6, r7, r8, r9⟩ | ⟨x, V', U', q, r1, r2, r3, r4, r5, r6⟩
    · exact .inl ⟨m', V', U', p2, k2, w2, e2, r1, r2, r3, r4, r5, r6, by omega, fx.tr r8, fm.tr r9⟩
    · exact .inr ⟨x, V', U', q, r1, r2, r3, r4, fx.tr r5, fm.fb.tr r6⟩
  · have nm := num_bad (a1 := 0) (a2 := nI lim - 1) (U := U1) (.inr (.inl (fun q => y2 (tk.k2.mp q))))
    have bb : (jsI U1 0 20 1).1 0 20 = 1 := by rw [s1_at, if_pos ⟨rfl, rfl⟩]
    have mm : mX5_numbersBelow_b4 2000 (nI lim) 0 1 U1 = some (0, jsI U1 0 20 1) := by
      rw [mX5_numbersBelow_b4, if_neg g_10, if_pos b1, nm, Option.bind_some]
      unfold mX5_numbersBelow_b41 mX5_numbersBelow_b62 mX5_numbersBelow_b63
      show (if (jsI U1 0 20 1).1 0 20 = 0 then _ else _) = _
      rw [bb, if_neg g_10]
      show (if (jsI U1 0 20 1).1 0 20 = 0 then _ else _) = _
      rw [bb, if_neg g_10, mX5_numbersBelow_b4, if_pos rfl]; rfl
    refine .inr ⟨0, V1, jsI U1 0 20 1, p, ?_, mm, FA_bad ⟨tk.2.2.1, Nat.le_trans tk.1 hb.1⟩, tk.2.1, fx, fm.fb.tr (FB_bad _ _)⟩
    rw [mX4_readSet_b8, if_neg (by decide)]
    by_cases y3 : k = 3
    · have v3 := tk.2.2.2.2.2.2.2.2.1 y3
      rw [if_pos (tk.k4.2.2.2.2.mpr (.inr y3)), v3, if_neg (show ¬ ((10000 : Int32) < nI lim) from nI_nlt (a := 10000) (by omega) (by omega))]
    · rw [if_neg (show ¬ V1.1 36 4 = 1 from fun q => by have := tk.k4.2.2.2.2.mp q; omega)]
      unfold mX4_readSet_b51
      rw [if_pos rfl]
end TR
