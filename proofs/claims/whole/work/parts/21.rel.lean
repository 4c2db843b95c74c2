/-! what the class's memory and the reference's say of each other between two calls -/
def nn (x : Int32) : Nat := x.toNatClampNeg
/-- a number from 0 to b -/
def isN (x : Int32) (b : Nat) : Prop := x = nI (nn x) ∧ nn x ≤ b
theorem nn_nI {k : Nat} (h : k < 2 ^ 31) : nn (nI k) = k := nI_clamp h
theorem isN_nI {k b : Nat} (h : k ≤ b) (hb : b < 2 ^ 31) : isN (nI k) b := by
  unfold isN
  rw [nn_nI (by omega)]
  exact ⟨rfl, h⟩
theorem isN_ex {x : Int32} {b : Nat} (h : isN x b) : ∃ k, k ≤ b ∧ x = nI k := ⟨_, h.2, h.1⟩
theorem isN_nneg {x : Int32} {b : Nat} (h : isN x b) (hb : b < 2 ^ 31) : ¬ x < 0 := by
  obtain ⟨k, h1, h2⟩ := isN_ex h
  rw [h2]
  exact nI_pos (by omega)
theorem isN_le {x : Int32} {a b : Nat} (h : isN x a) (hb : a ≤ b) : isN x b := ⟨h.1, Nat.le_trans h.2 hb⟩
def gF (s : Nat → Int32) (f w : Nat) : Int32 := s (10 + 7 * f + w)
def gN (s : Nat → Int32) : Nat := nn (s 0)
def gM (s : Nat → Int32) : Nat := nn (s 1)
def gT (s : Nat → Int32) (t : Nat) : Int32 := s (108 + 2 * t)
def gR (s : Nat → Int32) (t : Nat) : Int32 := s (109 + 2 * t)
def pOurs (s : Nat → Int32) (f : Nat) : Bool := decide (gF s f 4 = 1)
def pLost (s : Nat → Int32) (f : Nat) : Bool := decide (gF s f 4 = 2)
def pFree (s : Nat → Int32) (f : Nat) : Bool := decide (gF s f 4 = 0)
def pPap (s : Nat → Int32) (f : Nat) : Bool := decide (¬ gF s f 5 < 0)
def wfF (s : Nat → Int32) (f : Nat) : Prop := isN (gF s f 0) 5 ∧ (isN (gF s f 1) 9999 ∧ 1 ≤ nn (gF s f 1)) ∧ isN (gF s f 2) 9 ∧ isN (gF s f 3) 16383 ∧ isN (gF s f 4) 2 ∧ (gF s f 5 = -1 ∨ (isN (gF s f 5) 99999 ∧ gF s f 4 = 0)) ∧ isN (gF s f 6) 99
def wfT (s : Nat → Int32) (t : Nat) : Prop := isN (gT s t) (2 ^ gN s - 1) ∧ isN (gR s t) 9999
def WF (s : Nat → Int32) : Prop := isN (s 0) 14 ∧ isN (s 1) 6 ∧ isN (s 2) 99 ∧ isN (s 3) 100 ∧ isN (s 4) 9 ∧ isN (s 5) 999 ∧ (isN (s 6) 9 ∧ gCt (pPap s) (gN s) ≤ 6) ∧ (∀ f, f < gN s → wfF s f) ∧ (∀ t, t < gM s → wfT s t)
/-- a Land: its object, its nine rows, what was spent; and the reference's row, and what was spent there -/
def XL (o r1 r2 r3 r4 r5 r6 r7 r8 r9 : Nat → Int32) (sp : Int64) (s : Nat → Int32) (ss : Int64) : Prop :=
  o 0 = s 0 ∧ o 5 = nI (gSet (pOurs s) (gN s)) ∧ o 6 = nI (gSet (pLost s) (gN s)) ∧ o 7 = nI (gSet (pPap s) (gN s)) ∧ o 10 = s 2 ∧ sp = ss ∧ o 12 = s 7 ∧ o 14 = s 1
  ∧ (∀ f, f < gN s → r1 f = gF s f 0 ∧ r2 f = gF s f 1 ∧ r3 f = gF s f 2 ∧ r4 f = gF s f 3)
  ∧ (∀ f, f < gN s → ¬ gF s f 5 < 0 → r5 f = gF s f 5 ∧ r6 f = gF s f 6)
  ∧ (r7 0 = s 3 ∧ r7 1 = s 4 ∧ r7 2 = s 5 ∧ r7 3 = s 6)
  ∧ (∀ t, t < gM s → r8 t = gT s t ∧ r9 t = gR s t)
def ReL (V U : jMem) : Prop := XL (V.1 1) (V.1 2) (V.1 3) (V.1 4) (V.1 5) (V.1 6) (V.1 7) (V.1 8) (V.1 9) (V.1 10) (V.2 1 11) (U.1 1) (U.2 0 3) ∧ WF (U.1 1)
def ReK (V U : jMem) : Prop := V.1 0 7 = U.1 0 5 ∧ (U.1 0 5 = 0 ∨ U.1 0 5 = 1) ∧ (U.1 0 5 = 1 → XL (V.1 11) (V.1 12) (V.1 13) (V.1 14) (V.1 15) (V.1 16) (V.1 17) (V.1 18) (V.1 19) (V.1 20) (V.2 11 11) (U.1 2) (U.2 0 4) ∧ WF (U.1 2))
def ReT (V U : jMem) : Prop := V.1 36 1 = U.1 0 8 ∧ isN (U.1 0 8) 120 ∧ (∀ k, k < nn (U.1 0 8) → V.1 37 k = U.1 5 k ∧ isN (U.1 5 k) 255)
def ReF (V U : jMem) : Prop := (∀ i, i < 7 → V.1 47 i = U.1 4 (i + 1)) ∧ U.1 4 0 = V.1 47 0 + V.1 47 1 + V.1 47 2 + V.1 47 3 + V.1 47 4 + V.1 47 5 + V.1 47 6
def ReSo (o : Nat → Int32) (r : Nat → Int64) (b z : Int32) (g : Nat → Int64) : Prop := ((b = -1 ∧ o 0 = 0) ∨ ((b = 8 ∨ b = 16 ∨ b = 64) ∧ o 0 = b)) ∧ o 1 = z ∧ isN z 40 ∧ (∀ k, k < 40 → r k = g k)
def ReS (V U : jMem) : Prop := ∀ i, i < 4 → ReSo (V.1 (39 + 2 * i)) (V.2 (40 + 2 * i)) (U.1 6 i) (U.1 7 i) (fun k => U.2 8 (40 * i + k))
def ReW (U : jMem) : Prop := ∀ i, i < 83 → U.1 11 i = V0m.1 11 i
def Rel (V U : jMem) : Prop := ReL V U ∧ ReK V U ∧ ReT V U ∧ ReF V U ∧ ReS V U ∧ ReW U
theorem rel_0 : Rel V0x V0m := by
  have h0 : nn 0 = 0 := rfl
  have z14 : isN 0 14 := isN_nI (k := 0) (by omega) (by omega)
  refine ⟨⟨?_, ?_⟩, ?_, ?_, ?_, ?_, fun i _ => rfl⟩
  · refine ⟨rfl, rfl, rfl, rfl, rfl, rfl, rfl, rfl, ?_, ?_, ⟨rfl, rfl, rfl, rfl⟩, ?_⟩
    · intro f hf; exact absurd hf (Nat.not_lt_zero _)
    · intro f hf; exact absurd hf (Nat.not_lt_zero _)
    · intro f hf; exact absurd hf (Nat.not_lt_zero _)
  · refine ⟨z14, isN_nI (k := 0) (by omega) (by omega), isN_nI (k := 0) (by omega) (by omega), isN_nI (k := 0) (by omega) (by omega), isN_nI (k := 9) (by omega) (by omega), isN_nI (k := 150) (by omega) (by omega), ⟨isN_nI (k := 0) (by omega) (by omega), Nat.zero_le 6⟩, ?_, ?_⟩
    · intro f hf; exact absurd hf (Nat.not_lt_zero _)
    · intro f hf; exact absurd hf (Nat.not_lt_zero _)
  · exact ⟨rfl, .inl rfl, fun h => absurd h g_01⟩
  · exact ⟨rfl, isN_nI (k := 0) (by omega) (by omega), fun k hk => absurd hk (Nat.not_lt_zero _)⟩
  · exact ⟨fun i _ => rfl, by decide +kernel⟩
  · intro i hi
    have : i = 0 ∨ i = 1 ∨ i = 2 ∨ i = 3 := by omega
    rcases this with rfl | rfl | rfl | rfl <;> exact ⟨.inl ⟨rfl, rfl⟩, rfl, isN_nI (k := 0) (by omega) (by omega), fun _ _ => rfl⟩
/-! one memory changed in cells that a part doesn't speak of -/
theorem ReL_fr {V V' U U' : jMem} (h : ReL V U) (h1 : ∀ j, 1 ≤ j → j ≤ 10 → V'.1 j = V.1 j) (h2 : V'.2 1 11 = V.2 1 11) (h3 : U'.1 1 = U.1 1) (h4 : U'.2 0 3 = U.2 0 3) : ReL V' U' := by
  unfold ReL at *
  rw [h1 1 (by omega) (by omega), h1 2 (by omega) (by omega), h1 3 (by omega) (by omega), h1 4 (by omega) (by omega), h1 5 (by omega) (by omega), h1 6 (by omega) (by omega), h1 7 (by omega) (by omega), h1 8 (by omega) (by omega), h1 9 (by omega) (by omega), h1 10 (by omega) (by omega), h2, h3, h4]
  exact h
theorem ReK_fr {V V' U U' : jMem} (h : ReK V U) (h0 : V'.1 0 7 = V.1 0 7) (h1 : ∀ j, 11 ≤ j → j ≤ 20 → V'.1 j = V.1 j) (h2 : V'.2 11 11 = V.2 11 11) (h3 : U'.1 2 = U.1 2) (h4 : U'.2 0 4 = U.2 0 4) (h5 : U'.1 0 5 = U.1 0 5) : ReK V' U' := by
  unfold ReK at *
  rw [h0, h1 11 (by omega) (by omega), h1 12 (by omega) (by omega), h1 13 (by omega) (by omega), h1 14 (by omega) (by omega), h1 15 (by omega) (by omega), h1 16 (by omega) (by omega), h1 17 (by omega) (by omega), h1 18 (by omega) (by omega), h1 19 (by omega) (by omega), h1 20 (by omega) (by omega), h2, h3, h4, h5]
  exact h
theorem ReT_fr {V V' U U' : jMem} (h : ReT V U) (h0 : V'.1 36 1 = V.1 36 1) (h1 : V'.1 37 = V.1 37) (h2 : U'.1 0 8 = U.1 0 8) (h3 : U'.1 5 = U.1 5) : ReT V' U' := by
  unfold ReT at *
  rw [h0, h1, h2, h3]
  exact h
theorem ReF_fr {V V' U U' : jMem} (h : ReF V U) (h0 : V'.1 47 = V.1 47) (h1 : U'.1 4 = U.1 4) : ReF V' U' := by
  unfold ReF at *
  rw [h0, h1]
  exact h
theorem ReS_fr {V V' U U' : jMem} (h : ReS V U) (h0 : ∀ j, 39 ≤ j → j ≤ 46 → V'.1 j = V.1 j) (h1 : ∀ j, 39 ≤ j → j ≤ 47 → V'.2 j = V.2 j) (h2 : U'.1 6 = U.1 6) (h3 : U'.1 7 = U.1 7) (h4 : U'.2 8 = U.2 8) : ReS V' U' := by
  intro i hi
  have := h i hi
  rw [h0 _ (by omega) (by omega), h1 _ (by omega) (by omega), h2, h3, h4]
  exact this
theorem ReW_fr {U U' : jMem} (h : ReW U) (h1 : U'.1 11 = U.1 11) : ReW U' := by
  unfold ReW at *
  rw [h1]
  exact h
/-! a refusal, counted on both sides -/
theorem c_sum (t : Nat → Int32) (k : Nat) (hk : k < 7) : (upd t k (t k + 1)) 0 + (upd t k (t k + 1)) 1 + (upd t k (t k + 1)) 2 + (upd t k (t k + 1)) 3 + (upd t k (t k + 1)) 4 + (upd t k (t k + 1)) 5 + (upd t k (t k + 1)) 6 = t 0 + t 1 + t 2 + t 3 + t 4 + t 5 + t 6 + 1 := by
  have : k = 0 ∨ k = 1 ∨ k = 2 ∨ k = 3 ∨ k = 4 ∨ k = 5 ∨ k = 6 := by omega
  rcases this with rfl | rfl | rfl | rfl | rfl | rfl | rfl <;> simp [u_eq] <;> ac_rfl
theorem ref_of (a : Int32) (k : Nat) (hk : k < 7) (ha : (-1000000001 : Int32) - a = nI k) {V U : jMem} (h : Rel V U) : ∃ V' U', mX4_refuse a V = some (a, V') ∧ mX5_finds a U = some (a, U') ∧ Rel V' U' := by
  refine ⟨jsI V 47 k (V.1 47 k + 1), jsI (jsI U 4 0 (U.1 4 0 + 1)) 4 (k + 1) (U.1 4 (k + 1) + 1), ?_, ?_, ?_⟩
  · unfold mX4_refuse
    have hw : mX4_isWithin (nI k) 0 6 = 1 := by
      unfold mX4_isWithin
      rw [if_neg (nI_pos (by omega)), if_neg (show ¬ ((6 : Int32) < nI k) from nI_nlt (a := 6) (by omega) (by omega))]
    rw [ha, hw, if_neg g_10, g_jin (show k < 7 from hk) (by omega), jg_t, jl_eq, g_cl (by omega)]
  · unfold mX5_finds
    rw [ha, nI_1, g_jin (show k + 1 < 8 by omega) (by omega), jl_eq, jg_t, jl_eq, g_cl (by omega)]
    rw [s1_eq U 4 0 _ 4, if_pos rfl, u_eq, if_neg (by omega)]
  · obtain ⟨h1, h2, h3, h4, h5, h6⟩ := h
    refine ⟨ReL_fr h1 ?_ rfl rfl rfl, ReK_fr h2 ?_ ?_ rfl rfl rfl rfl, ReT_fr h3 rfl rfl rfl rfl, ?_, ReS_fr h5 ?_ (fun _ _ _ => rfl) rfl rfl rfl, ReW_fr h6 rfl⟩
    · intro j a1 a2; rw [s1_eq, if_neg (by omega)]
    · rw [s1_eq, if_neg (by omega)]
    · intro j a1 a2; rw [s1_eq, if_neg (by omega)]
    · obtain ⟨b1, b2⟩ := h4
      refine ⟨?_, ?_⟩
      · intro i hi
        show upd (V.1 47) k (V.1 47 k + 1) i = upd (upd (U.1 4) 0 (U.1 4 0 + 1)) (k + 1) (U.1 4 (k + 1) + 1) (i + 1)
        rw [u_eq, u_eq, u_eq]
        by_cases e : i = k
        · rw [if_pos e, if_pos (by omega), b1 k hk]
        · rw [if_neg e, if_neg (by omega), if_neg (by omega), b1 i hi]
      · show upd (upd (U.1 4) 0 (U.1 4 0 + 1)) (k + 1) (U.1 4 (k + 1) + 1) 0 = (upd (V.1 47) k (V.1 47 k + 1)) 0 + (upd (V.1 47) k (V.1 47 k + 1)) 1 + (upd (V.1 47) k (V.1 47 k + 1)) 2 + (upd (V.1 47) k (V.1 47 k + 1)) 3 + (upd (V.1 47) k (V.1 47 k + 1)) 4 + (upd (V.1 47) k (V.1 47 k + 1)) 5 + (upd (V.1 47) k (V.1 47 k + 1)) 6
        rw [c_sum (V.1 47) k hk, u_eq, u_eq, if_neg (by omega), if_pos rfl, b2]
    · intro j a1 a2; rw [s1_eq, if_neg (by omega)]
