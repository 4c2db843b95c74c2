/-! free fields, strips' sets, counts -/
section S5
variable {V : jMem} {s : Nat → Int32}
theorem wf_is {s : Nat → Int32} {f : Nat} (h : wfF s f) : gF s f 4 = 0 ∨ gF s f 4 = 1 ∨ gF s f 4 = 2 := by
  obtain ⟨k, h1, h2⟩ := isN_ex h.2.2.2.2.1
  have : k = 0 ∨ k = 1 ∨ k = 2 := by omega
  rcases this with rfl | rfl | rfl
  · exact .inl h2
  · exact .inr (.inl h2)
  · exact .inr (.inr h2)
theorem p_free {s : Nat → Int32} {f : Nat} (h : wfF s f) : pFree s f = (!pOurs s f && !pLost s f) := by
  unfold pFree pOurs pLost
  rcases wf_is h with e | e | e <;> rw [e] <;> rfl
theorem x_freeIn (h : XLv V s) (w : WF s) (m : Nat) : mX0_freeIn (nI m) V = nI (gSet (fun i => m.testBit i && pFree s i) (gN s)) := by
  have hn := h.n w
  have hp : (2 : Nat) ^ gN s ≤ 2 ^ 14 := Nat.pow_le_pow_right (by decide) hn.2
  have h1 : 1 ≤ 2 ^ gN s := Nat.one_le_two_pow
  have hs : nI (2 ^ gN s) - 1 = nI (2 ^ gN s - 1) := pk_sub (b := 1) h1
  unfold mX0_freeIn mX0_allFields
  rw [hn.1, h.ours, h.lost, g_one _ (by omega), hs, g_and, g_diff, g_diff]
  congr 1
  refine g_ext (n := gN s) ?_ (gSet_lt _ _) (fun i hi => ?_)
  · refine gDiff_lt _ (gDiff_lt _ ?_)
    rw [Nat.and_comm]
    exact g_and_lt _ (by omega)
  · unfold gOurs
    rw [gDiff_bit, gDiff_bit, Nat.testBit_and, Nat.testBit_two_pow_sub_one, gSet_bit, gSet_bit, gSet_bit, p_free (w.f' hi)]
    simp [hi]
    cases m.testBit i <;> cases pOurs s i <;> rfl
theorem t_all : ∀ i, i < 14 → (16383 : Nat).testBit i = true := by decide +kernel
theorem x_isFree (h : XLv V s) (w : WF s) {f : Nat} (hf : f < gN s) : mX0_isFree (nI f) V = if pFree s f then 1 else 0 := by
  have hn := h.n w
  unfold mX0_isFree
  rw [show (16383 : Int32) = nI 16383 from rfl, x_freeIn h w, x_isIn (Nat.lt_of_lt_of_le (gSet_14 hn.2) (by decide)) (by omega), gSet_bit, decide_eq_true hf, t_all f (by omega)]
  rfl
theorem x_pap (h : XLv V s) (w : WF s) {f : Nat} (hf : f < gN s) : mX4_isIn (nI f) (V.1 1 7) = if pPap s f then 1 else 0 := by
  have hn := h.n w
  rw [h.pap, x_isIn (Nat.lt_of_lt_of_le (gSet_14 hn.2) (by decide)) (by omega), gSet_bit, decide_eq_true hf, Bool.true_and]
theorem x_missing (h : XLv V s) (w : WF s) {t : Nat} (ht : t < gM s) : mX0_missingOf (nI t) V = some (nI (gDiff (nn (gT s t)) (gOurs s))) := by
  have hm := w.2.1.2
  change gM s ≤ 6 at hm
  unfold mX0_missingOf
  rw [g_jin (show t < 6 by omega) (by omega), jg_t, g_cl (by omega), (h.t ht).1, (w.t' ht).1.1, h.ours, g_diff, ← (w.t' ht).1.1]
theorem g_T_lt (w : WF s) {t : Nat} (ht : t < gM s) : nn (gT s t) < 2 ^ gN s := by
  have := (w.t' ht).1.2
  have h1 : 1 ≤ 2 ^ gN s := Nat.one_le_two_pow
  omega
/-- what a STRIP misses -/
def pMiss (s : Nat → Int32) (t i : Nat) : Bool := (nn (gT s t)).testBit i && !pOurs s i
theorem g_miss (w : WF s) {t : Nat} (ht : t < gM s) : gDiff (nn (gT s t)) (gOurs s) = gSet (pMiss s t) (gN s) := by
  refine g_ext (gDiff_lt _ (g_T_lt w ht)) (gSet_lt _ _) (fun i hi => ?_)
  unfold gOurs
  rw [gDiff_bit, gSet_bit, gSet_bit]
  simp [hi, pMiss]
theorem gSet_zero {p : Nat → Bool} {n : Nat} : gSet p n = 0 ↔ ∀ i, i < n → p i = false := by
  constructor
  · intro h i hi
    have := gSet_bit p n i
    rw [h, Nat.zero_testBit, decide_eq_true hi, Bool.true_and] at this
    exact this.symm
  · intro h
    refine g_ext (gSet_lt _ _) (Nat.two_pow_pos n) (fun i hi => ?_)
    rw [gSet_bit, h i hi, Nat.zero_testBit, Bool.and_false]
def gHad (s : Nat → Int32) (t : Nat) : Bool := decide (gSet (pMiss s t) (gN s) = 0)
def pThose (s : Nat → Int32) (t w : Nat) (i : Nat) : Bool := (nn (gT s t)).testBit i && decide (gF s i 4 = nI w)
def gCan (s : Nat → Int32) (t : Nat) : Bool := decide (gSet (pThose s t 2) (gN s) = 0)
theorem x_isHad (h : XLv V s) (w : WF s) {t : Nat} (ht : t < gM s) : mX0_isHad (nI t) V = some (if gHad s t then 1 else 0) := by
  have hn := h.n w
  have hl : gSet (pMiss s t) (gN s) < 2 ^ 14 := gSet_14 hn.2
  have e : (nI (gSet (pMiss s t) (gN s)) = 0) ↔ gSet (pMiss s t) (gN s) = 0 := nI_eq (b := 0) (by omega) (by omega)
  unfold mX0_isHad gHad
  rw [x_missing h w ht, Option.bind_some, g_miss w ht]
  simp only [e, decide_eq_true_eq]
  split <;> rfl
theorem g_those (s : Nat → Int32) (t : Nat) : nI 2 = 2 := rfl
theorem x_canBe (h : XLv V s) (w : WF s) {t : Nat} (ht : t < gM s) : mX0_canBe (nI t) V = some (if gCan s t then 1 else 0) := by
  have hn := h.n w
  have hm := w.2.1.2
  change gM s ≤ 6 at hm
  have hl : gSet (pThose s t 2) (gN s) < 2 ^ 14 := gSet_14 hn.2
  have e : (nI (gSet (pThose s t 2) (gN s)) = 0) ↔ gSet (pThose s t 2) (gN s) = 0 := nI_eq (b := 0) (by omega) (by omega)
  have e2 : nn (gT s t) &&& gSet (pLost s) (gN s) = gSet (pThose s t 2) (gN s) := by
    rw [Nat.and_comm, gSet_andN]
    exact gSet_congr (fun i hi => Bool.and_comm _ _)
  unfold mX0_canBe gCan
  rw [g_jin (show t < 6 by omega) (by omega), jg_t, g_cl (by omega), (h.t ht).1, (w.t' ht).1.1, h.lost, g_and, e2]
  simp only [e, decide_eq_true_eq]
  split <;> rfl
end S5
section S6
variable {U : jMem}
theorem m_isFree (h : WF (U.1 1)) {f : Nat} (hf : f < gN (U.1 1)) : mX5_isFree (nI f) U = some (if pFree (U.1 1) f then 1 else 0) := by
  have hn := h.n
  unfold mX5_isFree pFree
  rw [m_has4 (by omega), Option.bind_some]
  simp only [decide_eq_true_eq]
  split <;> rfl
theorem m_papers (h : WF (U.1 1)) : mX5_papers U = some (nI (gCt (pPap (U.1 1)) (gN (U.1 1)))) := by
  have hn := h.n
  refine g_up (P := fun n i => mX5_papers_b4 U n (nI (gCt (pPap (U.1 1)) i)) (nI i) = some (nI (gCt (pPap (U.1 1)) (gN (U.1 1))))) (gN (U.1 1)) ?_ ?_ 2000 0 (by omega) (by omega)
  · intro n
    show mX5_papers_b4 U (n + 1) _ _ = _
    unfold mX5_papers_b4
    rw [if_pos ((m_le hn (by omega)).mpr (by omega))]
  · intro n i hi this
    show mX5_papers_b4 U (n + 1) _ _ = _
    have e : pPap (U.1 1) i = decide (¬ gF (U.1 1) i 5 < 0) := rfl
    rw [gCt, e] at this
    unfold mX5_papers_b4
    rw [if_neg (fun z => by have := (m_le hn (by omega)).mp z; omega), m_has5 (by omega), Option.bind_some]
    unfold mX5_papers_b29
    by_cases hc : gF (U.1 1) i 5 < 0
    · rw [if_pos hc, show (0 : Int32) = nI 0 from rfl, nI_add, nI_1]
      rw [decide_eq_false (fun z => z hc), if_neg (by decide)] at this
      exact this
    · rw [if_neg hc, nI_1, nI_1]
      rw [decide_eq_true hc, if_pos rfl] at this
      exact this
theorem m_thatAre (h : WF (U.1 1)) (x : Int32) : mX5_thatAre x U = some (nI (gCt (fun i => decide (gF (U.1 1) i 4 = x)) (gN (U.1 1)))) := by
  have hn := h.n
  refine g_up (P := fun n i => mX5_thatAre_b4 U n x (nI (gCt (fun i => decide (gF (U.1 1) i 4 = x)) i)) (nI i) = some (nI (gCt (fun i => decide (gF (U.1 1) i 4 = x)) (gN (U.1 1))))) (gN (U.1 1)) ?_ ?_ 2000 0 (by omega) (by omega)
  · intro n
    show mX5_thatAre_b4 U (n + 1) _ _ _ = _
    unfold mX5_thatAre_b4
    rw [if_pos ((m_le hn (by omega)).mpr (by omega))]
  · intro n i hi this
    show mX5_thatAre_b4 U (n + 1) _ _ _ = _
    rw [gCt] at this
    unfold mX5_thatAre_b4
    rw [if_neg (fun z => by have := (m_le hn (by omega)).mp z; omega), m_has4 (by omega), Option.bind_some]
    unfold mX5_thatAre_b30
    by_cases hc : gF (U.1 1) i 4 = x
    · rw [if_pos hc, nI_1, nI_1]
      rw [decide_eq_true hc, if_pos rfl] at this
      exact this
    · rw [if_neg hc, show (0 : Int32) = nI 0 from rfl, nI_add, nI_1]
      rw [decide_eq_false hc, if_neg (by decide)] at this
      exact this
theorem m_those (h : WF (U.1 1)) {t w : Nat} (ht : t < gM (U.1 1)) (hw : w < 3) (x : Int32) (hx : x = nI w) : mX5_thoseOf (nI t) x U = some (nI (gSet (pThose (U.1 1) t w) (gN (U.1 1)))) := by
  subst hx
  have hn := h.n
  have hm := h.2.1.2
  change gM (U.1 1) ≤ 6 at hm
  have hT := (h.t ht).1
  have hTl := g_T_lt h ht
  have hp : (2 : Nat) ^ gN (U.1 1) ≤ 2 ^ 14 := Nat.pow_le_pow_right (by decide) hn.2
  refine g_up (P := fun n i => mX5_thoseOf_b5 U n (nI t) (nI w) (nI (gSet (pThose (U.1 1) t w) i)) (nI i) = some (nI (gSet (pThose (U.1 1) t w) (gN (U.1 1))))) (gN (U.1 1)) ?_ ?_ 2000 0 (by omega) (by omega)
  · intro n
    show mX5_thoseOf_b5 U (n + 1) _ _ _ _ = _
    unfold mX5_thoseOf_b5
    rw [if_pos ((m_le hn (by omega)).mpr (by omega))]
  · intro n i hi this
    show mX5_thoseOf_b5 U (n + 1) _ _ _ _ = _
    have e : pThose (U.1 1) t w i = ((nn (gT (U.1 1) t)).testBit i && decide (gF (U.1 1) i 4 = nI w)) := rfl
    rw [gSet, e] at this
    unfold mX5_thoseOf_b5
    rw [if_neg (fun z => by have := (m_le hn (by omega)).mp z; omega), m_setOf (by omega), Option.bind_some, m_has4 (by omega), Option.bind_some, hT.1]
    simp only [g_bit1 (show nn (gT (U.1 1) t) < 2 ^ 31 by omega) (show i < 31 by omega)]
    unfold mX5_thoseOf_b49 mX5_thoseOf_b50
    rw [g_one i (by omega), g_or, show (0 : Int32) = nI 0 from rfl, g_or, nI_1, Nat.or_zero]
    by_cases h2 : (nn (gT (U.1 1) t)).testBit i = true
    · rw [if_pos h2]
      by_cases h3 : gF (U.1 1) i 4 = nI w
      · rw [if_pos h3]
        simp [h2, h3] at this
        exact this
      · rw [if_neg h3]
        simp [h2, h3] at this
        exact this
    · rw [if_neg h2]
      simp [h2] at this
      exact this
theorem m_canBe (h : WF (U.1 1)) {t : Nat} (ht : t < gM (U.1 1)) : mX5_canBe (nI t) U = some (if gCan (U.1 1) t then 1 else 0) := by
  have hl : gSet (pThose (U.1 1) t 2) (gN (U.1 1)) < 2 ^ 14 := gSet_14 h.n.2
  have e : (nI (gSet (pThose (U.1 1) t 2) (gN (U.1 1))) = 0) ↔ gSet (pThose (U.1 1) t 2) (gN (U.1 1)) = 0 := nI_eq (b := 0) (by omega) (by omega)
  unfold mX5_canBe gCan
  rw [m_those h ht (w := 2) (by omega) 2 rfl, Option.bind_some]
  simp only [e, decide_eq_true_eq]
  split <;> rfl
theorem m_isHad (h : WF (U.1 1)) {t : Nat} (ht : t < gM (U.1 1)) : mX5_isHad (nI t) U = some (if gHad (U.1 1) t then 1 else 0) := by
  have hn := h.n
  have hm := h.2.1.2
  change gM (U.1 1) ≤ 6 at hm
  have hl : gSet (pThose (U.1 1) t 1) (gN (U.1 1)) < 2 ^ 14 := gSet_14 h.n.2
  have hT := (h.t ht).1
  have hTl := g_T_lt h ht
  have hp : (2 : Nat) ^ gN (U.1 1) ≤ 2 ^ 14 := Nat.pow_le_pow_right (by decide) hn.2
  have e : (nI (gSet (pThose (U.1 1) t 1) (gN (U.1 1))) = nI (nn (gT (U.1 1) t))) ↔ gSet (pThose (U.1 1) t 1) (gN (U.1 1)) = nn (gT (U.1 1) t) := nI_eq (by omega) (by omega)
  have e2 : gSet (pThose (U.1 1) t 1) (gN (U.1 1)) = nn (gT (U.1 1) t) ↔ gSet (pMiss (U.1 1) t) (gN (U.1 1)) = 0 := by
    rw [gSet_zero]
    constructor
    · intro z i hi
      have := gSet_bit (pThose (U.1 1) t 1) (gN (U.1 1)) i
      rw [z, decide_eq_true hi, Bool.true_and] at this
      unfold pMiss
      rw [this]
      unfold pThose pOurs
      cases (nn (gT (U.1 1) t)).testBit i <;> simp
      intro y; exact y
    · intro z
      refine g_ext (gSet_lt _ _) hTl (fun i hi => ?_)
      have := z i hi
      rw [gSet_bit]
      revert this
      unfold pThose pMiss pOurs
      cases (nn (gT (U.1 1) t)).testBit i <;> simp [hi]
      intro y; exact y
  unfold mX5_isHad gHad
  rw [m_those h ht (w := 1) (by omega) 1 rfl, Option.bind_some, m_setOf (by omega), Option.bind_some, hT.1]
  simp only [e, e2, decide_eq_true_eq]
  split <;> rfl
end S6
