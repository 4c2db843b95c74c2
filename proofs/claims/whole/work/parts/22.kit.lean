/-! tools: indices, ranges, the reference's fields, one field changed -/
theorem g_wlt (a b : Int32) : a.toInt64 < b.toInt64 ↔ a < b := by rw [Int64.lt_iff_toInt_lt, Int32.lt_iff_toInt_lt, Int32.toInt_toInt64, Int32.toInt_toInt64]
theorem g_wle (a b : Int32) : a.toInt64 ≤ b.toInt64 ↔ a ≤ b := by rw [Int64.le_iff_toInt_le, Int32.le_iff_toInt_le, Int32.toInt_toInt64, Int32.toInt_toInt64]
theorem g_rng {a lo hi : Int32} (h1 : ¬ a < lo) (h2 : ¬ hi < a) (l k : Nat) (hl : lo = nI l) (hk : hi = nI k) (hl' : l < 2 ^ 30) (hk' : k < 2 ^ 30) : ∃ j, l ≤ j ∧ j ≤ k ∧ a = nI j := by
  subst hl hk
  rw [Int32.lt_iff_toInt_lt, nI_toInt (by omega)] at h1 h2
  have h0 : (0 : Int32).toInt = 0 := by decide
  obtain ⟨j, hj, e⟩ := nI_of2 (x := a) (M := nI k) (n := k) (nI_toInt (by omega)) (by rw [Int32.lt_iff_toInt_lt]; omega) (by rw [Int32.le_iff_toInt_le, nI_toInt (by omega)]; omega)
  subst e
  rw [nI_toInt (by omega)] at h1
  exact ⟨j, by omega, hj, rfl⟩
theorem f_in (a lo hi : Int32) (L H : Int64) (hL : L = Int32.toInt64 lo) (hH : H = Int32.toInt64 hi) : (mX4_isWithin a lo hi = 0 ∧ mX5_isIn (Int32.toInt64 a) L H = 0) ∨ (¬ a < lo ∧ ¬ hi < a ∧ mX4_isWithin a lo hi = 1 ∧ mX5_isIn (Int32.toInt64 a) L H = 1) := by
  subst hL hH
  unfold mX4_isWithin mX5_isIn
  simp only [lg_cmp_lt, lg_cmp_gt, g_wlt]
  by_cases h1 : a < lo
  · left; rw [if_pos h1]; exact ⟨rfl, rfl⟩
  · by_cases h2 : hi < a
    · left; rw [if_neg h1, if_pos h2]; exact ⟨rfl, rfl⟩
    · right; rw [if_neg h1, if_neg h2]; exact ⟨h1, h2, rfl, rfl⟩
theorem x_within (a : Int32) {n : Nat} (hn : n < 2 ^ 20) : (mX4_isWithin a 0 (nI n - 1) = 0 ∧ (a < 0 ∨ nI n ≤ a)) ∨ ∃ j, j < n ∧ a = nI j ∧ mX4_isWithin a 0 (nI n - 1) = 1 := by
  have e : (nI n - 1).toInt = (n : Int) - 1 := pk_sub_toInt (b := 1) (by omega) (by omega)
  have h0 : (0 : Int32).toInt = 0 := by decide
  unfold mX4_isWithin
  rcases pk_ix a (n := n) (by omega) with h | h | ⟨j, hj, rfl⟩
  · left; rw [if_pos h]; exact ⟨rfl, .inl h⟩
  · left
    by_cases hl : a < 0
    · rw [if_pos hl]; exact ⟨rfl, .inl hl⟩
    · rw [if_neg hl, if_pos]
      · exact ⟨rfl, .inr h⟩
      · rw [Int32.lt_iff_toInt_lt, e]
        rw [Int32.le_iff_toInt_le, nI_toInt (by omega)] at h
        omega
  · right
    refine ⟨j, hj, rfl, ?_⟩
    rw [if_neg (nI_pos (by omega)), if_neg]
    rw [Int32.lt_iff_toInt_lt, e, nI_toInt (by omega)]
    omega
theorem m_isField (a : Int32) {n : Nat} (hn : n < 2 ^ 20) {U : jMem} (hU : U.1 1 0 = nI n) : ((a < 0 ∨ nI n ≤ a) → mX5_isField (Int32.toInt64 a) U = 0) ∧ (∀ j, j < n → a = nI j → mX5_isField (Int32.toInt64 a) U = 1) := by
  have z : (0 : Int64) = Int32.toInt64 0 := rfl
  unfold mX5_isField
  rw [hU]
  simp only [lg_cmp_lt, lg_cmp_ge, z, g_wlt, g_wle]
  refine ⟨fun h => ?_, fun j hj e => ?_⟩
  · by_cases h1 : a < 0
    · rw [if_pos h1]
    · rw [if_neg h1, if_pos (h.resolve_left h1)]
  · subst e
    rw [if_neg (nI_pos (by omega)), if_neg (nI_ge hj (by omega))]
section KT
variable {V U : jMem}
theorem Rel.n (h : Rel V U) : U.1 1 0 = nI (gN (U.1 1)) ∧ V.1 1 0 = nI (gN (U.1 1)) ∧ gN (U.1 1) ≤ 14 := by
  obtain ⟨⟨h1, h2⟩, -⟩ := h
  exact ⟨h2.1.1, h1.1.trans h2.1.1, h2.1.2⟩
theorem Rel.m (h : Rel V U) : U.1 1 1 = nI (gM (U.1 1)) ∧ V.1 1 14 = nI (gM (U.1 1)) ∧ gM (U.1 1) ≤ 6 := by
  obtain ⟨⟨h1, h2⟩, -⟩ := h
  exact ⟨h2.2.1.1, h1.2.2.2.2.2.2.2.1.trans h2.2.1.1, h2.2.1.2⟩
theorem Rel.wf (h : Rel V U) : WF (U.1 1) := h.1.2
theorem Rel.xl (h : Rel V U) : XL (V.1 1) (V.1 2) (V.1 3) (V.1 4) (V.1 5) (V.1 6) (V.1 7) (V.1 8) (V.1 9) (V.1 10) (V.2 1 11) (U.1 1) (U.2 0 3) := h.1.1
theorem f_ix (h : Rel V U) (a : Int32) : (mX0_hasField a V = 0 ∧ mX5_isField (Int32.toInt64 a) U = 0) ∨ ∃ j, j < gN (U.1 1) ∧ a = nI j ∧ mX0_hasField a V = 1 ∧ mX5_isField (Int32.toInt64 a) U = 1 := by
  obtain ⟨e1, e2, e3⟩ := h.n
  have m := m_isField a (n := gN (U.1 1)) (by omega) e1
  unfold mX0_hasField
  rw [e2]
  rcases x_within a (n := gN (U.1 1)) (by omega) with ⟨h1, h2⟩ | ⟨j, h1, h2, h3⟩
  · exact .inl ⟨h1, m.1 h2⟩
  · exact .inr ⟨j, h1, h2, h3, m.2 j h1 h2⟩
theorem t_ix (h : Rel V U) (a : Int32) : (mX0_hasStrip a V = 0 ∧ mX5_isStrip a U = 0) ∨ ∃ j, j < gM (U.1 1) ∧ a = nI j ∧ mX0_hasStrip a V = 1 ∧ mX5_isStrip a U = 1 := by
  obtain ⟨e1, e2, e3⟩ := h.m
  unfold mX0_hasStrip mX5_isStrip
  rw [e2, e1]
  rcases x_within a (n := gM (U.1 1)) (by omega) with ⟨h1, h2⟩ | ⟨j, h1, h2, h3⟩
  · left
    refine ⟨h1, ?_⟩
    by_cases h4 : a < 0
    · rw [if_pos h4]
    · rw [if_neg h4, if_pos (h2.resolve_left h4)]
  · right
    refine ⟨j, h1, h2, h3, ?_⟩
    subst h2
    rw [if_neg (nI_pos (by omega)), if_neg (nI_ge h1 (by omega))]
end KT
theorem m_at {f w : Nat} {x : Int32} (hx : x = nI w) : mX5_at (nI f) x = nI (10 + 7 * f + w) := by
  subst hx
  unfold mX5_at
  show nI 10 + nI 7 * nI f + nI w = _
  rw [pk_mul, nI_add, nI_add]
theorem m_has {f w : Nat} {x : Int32} {U : jMem} (hx : x = nI w) (hf : f < 14) (hw : w < 7) : mX5_has (nI f) x U = some (gF (U.1 1) f w) := by
  subst hx
  unfold mX5_has
  have e : (10 : Int32) + (7 : Int32) * nI f + nI w = nI (10 + 7 * f + w) := m_at (w := w) rfl
  rw [e, g_jin (by omega) (by omega), jg_t, g_cl (by omega)]
  rfl
theorem m_has0 {f : Nat} {U : jMem} (hf : f < 14) : mX5_has (nI f) 0 U = some (gF (U.1 1) f 0) := m_has (w := 0) rfl hf (by omega)
theorem m_at0 (f : Nat) : mX5_at (nI f) 0 = nI (10 + 7 * f + 0) := m_at (w := 0) rfl
theorem m_has1 {f : Nat} {U : jMem} (hf : f < 14) : mX5_has (nI f) 1 U = some (gF (U.1 1) f 1) := m_has (w := 1) rfl hf (by omega)
theorem m_at1 (f : Nat) : mX5_at (nI f) 1 = nI (10 + 7 * f + 1) := m_at (w := 1) rfl
theorem m_has2 {f : Nat} {U : jMem} (hf : f < 14) : mX5_has (nI f) 2 U = some (gF (U.1 1) f 2) := m_has (w := 2) rfl hf (by omega)
theorem m_at2 (f : Nat) : mX5_at (nI f) 2 = nI (10 + 7 * f + 2) := m_at (w := 2) rfl
theorem m_has3 {f : Nat} {U : jMem} (hf : f < 14) : mX5_has (nI f) 3 U = some (gF (U.1 1) f 3) := m_has (w := 3) rfl hf (by omega)
theorem m_at3 (f : Nat) : mX5_at (nI f) 3 = nI (10 + 7 * f + 3) := m_at (w := 3) rfl
theorem m_has4 {f : Nat} {U : jMem} (hf : f < 14) : mX5_has (nI f) 4 U = some (gF (U.1 1) f 4) := m_has (w := 4) rfl hf (by omega)
theorem m_at4 (f : Nat) : mX5_at (nI f) 4 = nI (10 + 7 * f + 4) := m_at (w := 4) rfl
theorem m_has5 {f : Nat} {U : jMem} (hf : f < 14) : mX5_has (nI f) 5 U = some (gF (U.1 1) f 5) := m_has (w := 5) rfl hf (by omega)
theorem m_at5 (f : Nat) : mX5_at (nI f) 5 = nI (10 + 7 * f + 5) := m_at (w := 5) rfl
theorem m_has6 {f : Nat} {U : jMem} (hf : f < 14) : mX5_has (nI f) 6 U = some (gF (U.1 1) f 6) := m_has (w := 6) rfl hf (by omega)
theorem m_at6 (f : Nat) : mX5_at (nI f) 6 = nI (10 + 7 * f + 6) := m_at (w := 6) rfl
theorem m_setOf {t : Nat} {U : jMem} (ht : t < 6) : mX5_setOf (nI t) U = some (gT (U.1 1) t) := by
  unfold mX5_setOf
  have e : (108 : Int32) + (2 : Int32) * nI t = nI (108 + 2 * t) := by
    show nI 108 + nI 2 * nI t = _
    rw [pk_mul, nI_add]
  rw [e, g_jin (by omega) (by omega), jg_t, g_cl (by omega)]
  rfl
/-! one bit of a set changed -/
theorem gSet_on {p q : Nat → Bool} {n f : Nat} (hf : f < n) (h : ∀ i, i < n → q i = (p i || decide (i = f))) : gSet q n = gSet p n ||| 2 ^ f := by
  have h2 : (2 : Nat) ^ f < 2 ^ n := Nat.pow_lt_pow_right (by decide) hf
  refine g_ext (gSet_lt _ _) (g_or_lt (gSet_lt _ _) h2) (fun i hi => ?_)
  rw [gSet_bit, Nat.testBit_or, gSet_bit, Nat.testBit_two_pow, h i hi]
  have : decide (i = f) = decide (f = i) := by rw [decide_eq_decide]; exact eq_comm
  simp [hi, this]
theorem gSet_off {p q : Nat → Bool} {n f : Nat} (h : ∀ i, i < n → q i = (p i && !decide (i = f))) : gSet q n = gDiff (gSet p n) (2 ^ f) := by
  refine g_ext (gSet_lt _ _) (gDiff_lt _ (gSet_lt _ _)) (fun i hi => ?_)
  rw [gSet_bit, gDiff_bit, gSet_bit, Nat.testBit_two_pow, h i hi]
  have : decide (i = f) = decide (f = i) := by rw [decide_eq_decide]; exact eq_comm
  simp [hi, this]
theorem gCt_mono {p q : Nat → Bool} : ∀ {n : Nat}, (∀ i, i < n → q i = true → p i = true) → gCt q n ≤ gCt p n := by
  intro n
  induction n with
  | zero => intro _; exact Nat.le_refl _
  | succ n ih =>
    intro h
    have h1 := ih (fun i hi => h i (by omega))
    have h2 := h n (by omega)
    rw [gCt, gCt]
    by_cases e : q n = true
    · rw [if_pos e, if_pos (h2 e)]; omega
    · rw [if_neg e]; split <;> omega
theorem gCt_on {p q : Nat → Bool} {f : Nat} (hp : p f = false) : ∀ {n : Nat}, f < n → (∀ i, i < n → q i = (p i || decide (i = f))) → gCt q n = gCt p n + 1 := by
  intro n
  induction n with
  | zero => intro hf; omega
  | succ n ih =>
    intro hf h
    rw [gCt, gCt, h n (by omega)]
    by_cases e : n = f
    · subst e
      have : gCt q n = gCt p n := gCt_congr (fun i hi => by rw [h i (by omega), decide_eq_false (by omega), Bool.or_false])
      rw [this, hp, decide_eq_true rfl]; rfl
    · rw [ih (by omega) (fun i hi => h i (by omega)), decide_eq_false e, Bool.or_false]
      omega
/-! one field of the row changed -/
theorem wf_field {s s' : Nat → Int32} {f : Nat} (h : WF s) (hf : f < gN s) (he : ∀ k, (k < 10 + 7 * f ∨ 17 + 7 * f ≤ k) → s' k = s k) (hc : gCt (pPap s') (gN s) ≤ 6) (hw : wfF s' f) : WF s' := by
  obtain ⟨h1, h2, h3, h4, h5, h6, h7, h8, h9⟩ := h
  have hn : gN s' = gN s := by unfold gN; rw [he 0 (by omega)]
  have hm : gM s' = gM s := by unfold gM; rw [he 1 (by omega)]
  have hb := h1.2
  change gN s ≤ 14 at hb
  unfold WF
  rw [hn, hm, he 0 (by omega), he 1 (by omega), he 2 (by omega), he 3 (by omega), he 4 (by omega), he 5 (by omega), he 6 (by omega)]
  refine ⟨h1, h2, h3, h4, h5, h6, ⟨h7.1, hc⟩, fun g hg => ?_, fun t ht => ?_⟩
  · by_cases e : g = f
    · subst e; exact hw
    · have hg' : ∀ w, w < 7 → gF s' g w = gF s g w := fun w hw => by unfold gF; exact he _ (by omega)
      have := h8 g hg
      unfold wfF at *
      rw [hg' 0 (by omega), hg' 1 (by omega), hg' 2 (by omega), hg' 3 (by omega), hg' 4 (by omega), hg' 5 (by omega), hg' 6 (by omega)]
      exact this
  · have := h9 t ht
    unfold wfT gT gR at *
    rw [hn, he _ (by omega), he _ (by omega)]
    exact this
theorem gF_other {s s' : Nat → Int32} {f g w : Nat} (he : ∀ k, (k < 10 + 7 * f ∨ 17 + 7 * f ≤ k) → s' k = s k) (hg : g ≠ f) (hw : w < 7) : gF s' g w = gF s g w := by
  unfold gF
  exact he _ (by omega)
theorem gF_upd {s : Nat → Int32} {f g w v : Nat} {x : Int32} (hw : w < 7) (hv : v < 7) : gF (upd s (10 + 7 * f + w) x) g v = if g = f ∧ v = w then x else gF s g v := by
  unfold gF
  rw [u_eq]
  by_cases h : g = f ∧ v = w
  · rw [if_pos h, if_pos (by omega)]
  · rw [if_neg h, if_neg (by omega)]
/-- the class's Land and the reference's row, one field changed on both -/
theorem xl_field {o r1 r2 r3 r4 r5 r6 r7 r8 r9 o' r1' r2' r3' r4' r5' r6' : Nat → Int32} {sp ss sp' ss' : Int64} {s s' : Nat → Int32} {f : Nat} (h : XL o r1 r2 r3 r4 r5 r6 r7 r8 r9 sp s ss) (hb : gN s ≤ 14) (hf : f < gN s) (he : ∀ k, (k < 10 + 7 * f ∨ 17 + 7 * f ≤ k) → s' k = s k)
    (ho : o' 0 = o 0 ∧ o' 10 = o 10 ∧ o' 12 = o 12 ∧ o' 14 = o 14) (h5 : o' 5 = nI (gSet (pOurs s') (gN s))) (h6 : o' 6 = nI (gSet (pLost s') (gN s))) (h7 : o' 7 = nI (gSet (pPap s') (gN s))) (hsp : sp' = ss')
    (hr : ∀ g, g ≠ f → r1' g = r1 g ∧ r2' g = r2 g ∧ r3' g = r3 g ∧ r4' g = r4 g ∧ r5' g = r5 g ∧ r6' g = r6 g)
    (hn : r1' f = gF s' f 0 ∧ r2' f = gF s' f 1 ∧ r3' f = gF s' f 2 ∧ r4' f = gF s' f 3) (hp : ¬ gF s' f 5 < 0 → r5' f = gF s' f 5 ∧ r6' f = gF s' f 6) : XL o' r1' r2' r3' r4' r5' r6' r7 r8 r9 sp' s' ss' := by
  obtain ⟨a0, a5, a6, a7, a10, asp, a12, a14, b1, b2, b3, b4⟩ := h
  have hn' : gN s' = gN s := by unfold gN; rw [he 0 (by omega)]
  have hm : gM s' = gM s := by unfold gM; rw [he 1 (by omega)]
  obtain ⟨o0, o10, o12, o14⟩ := ho
  unfold XL
  rw [hn', hm, he 0 (by omega), he 1 (by omega), he 2 (by omega), he 3 (by omega), he 4 (by omega), he 5 (by omega), he 6 (by omega), he 7 (by omega), o0, o10, o12, o14]
  refine ⟨a0, h5, h6, h7, a10, hsp, a12, a14, fun g hg => ?_, fun g hg hp' => ?_, b3, fun t ht => ?_⟩
  · by_cases e : g = f
    · subst e; exact hn
    · obtain ⟨c1, c2, c3, c4, c5, c6⟩ := hr g e
      obtain ⟨d1, d2, d3, d4⟩ := b1 g hg
      rw [c1, c2, c3, c4, gF_other he e (by omega), gF_other he e (by omega), gF_other he e (by omega), gF_other he e (by omega)]
      exact ⟨d1, d2, d3, d4⟩
  · by_cases e : g = f
    · subst e; exact hp hp'
    · obtain ⟨c1, c2, c3, c4, c5, c6⟩ := hr g e
      rw [gF_other he e (by omega)] at hp'
      rw [c5, c6, gF_other he e (by omega), gF_other he e (by omega)]
      exact b2 g hg hp'
  · have := b4 t ht
    unfold gT gR at *
    rw [he _ (by omega), he _ (by omega)]
    exact this
