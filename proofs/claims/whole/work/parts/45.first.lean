/-! first -/
section OF1
variable {V U V' U' : jMem}
def gSumI (v : Nat → Int32) (p : Nat → Bool) : Nat → Int32
  | 0 => 0
  | n + 1 => gSumI v p n + (if p n then v n else 0)
theorem gSumI_congr {v : Nat → Int32} {p q : Nat → Bool} : ∀ {n : Nat}, (∀ i, i < n → p i = q i) → gSumI v p n = gSumI v q n := by
  intro n
  induction n with
  | zero => intro _; rfl
  | succ n ih => intro h; rw [gSumI, gSumI, ih (fun i hi => h i (by omega)), h n (by omega)]
/-- the least of them, the first of the least -/
def fStep (v : Nat → Int32) (a : Int32 × Int32) (f : Nat) : Int32 × Int32 := if a.1 < 0 then (nI f, v f) else if a.2 ≤ v f then a else (nI f, v f)
theorem x_pricesIn {s : Nat → Int32} (h : XLv V s) (w : WF s) {m : Nat} (o : Nat) (hm : m < 2 ^ 14) : mX0_pricesIn (nI m) (nI o) V = some (gSumI (fun g => nI (gAsk s g o)) m.testBit (gN s)) := by
  have hn := h.n w
  refine g_up (P := fun n i => mX0_pricesIn_b5 V n (nI m) (nI o) (gSumI (fun g => nI (gAsk s g o)) m.testBit i) (nI i) = some (gSumI (fun g => nI (gAsk s g o)) m.testBit (gN s))) (gN s) ?_ ?_ 2000 0 (by omega) (by omega)
  · intro n
    show mX0_pricesIn_b5 V (n + 1) _ _ _ _ = _
    unfold mX0_pricesIn_b5
    rw [if_pos ((v_le hn (by omega)).mpr (Nat.le_refl _))]
  · intro n i hi this
    show mX0_pricesIn_b5 V (n + 1) _ _ _ _ = _
    rw [gSumI] at this
    unfold mX0_pricesIn_b5 mX0_pricesIn_b33
    rw [if_neg (fun z => by have := (v_le hn (by omega)).mp z; omega), x_isIn (by omega) (by omega), x_by h w hi, Option.bind_some, nI_1]
    by_cases z : m.testBit i = true
    · rw [if_pos z, if_neg g_10]
      rw [if_pos z] at this
      exact this
    · rw [if_neg z, if_pos rfl]
      rw [if_neg z, Int32.add_zero] at this
      exact this
theorem op_first_ok : op_first Rel := by
  intro a1 V U h
  obtain ⟨V1, U1, e1, e2, h1⟩ := ref_of (-1000000001) 0 (by omega) (by decide) h
  obtain ⟨V4, U4, e3, e4, h4⟩ := ref_of (-1000000004) 3 (by omega) (by decide) h
  have w := h.wf
  have hv := h.xv
  have hn := h.n
  have hm := h.m
  have ho := gOurs_lt w
  unfold mX4_first mX5_first
  rcases t_ix h a1 with ⟨c1, c2⟩ | ⟨t, ht, rfl, c1, c2⟩
  · rw [if_pos c1, if_pos c2, e1, e2]; exact ⟨_, V1, U1, rfl, rfl, h1⟩
  have hfr : mX0_freeIn (gT (U.1 1) t) V = nI (gSet (pThose (U.1 1) t 0) (gN (U.1 1))) := by
    rw [(w.t ht).1.1, x_freeIn hv w]; rfl
  have hml : gSet (pThose (U.1 1) t 0) (gN (U.1 1)) < 2 ^ 14 := gSet_14 hn.2.2
  rw [c1, c2, if_neg g_10, if_neg g_10, g_jin (show t < 6 by omega) (by omega), jg_t, g_cl (show t < 2 ^ 31 by omega), (hv.t ht).1, hfr, m_those w ht (w := 0) (by omega) 0 rfl, Option.bind_some]
  generalize hvv : (fun f => gSumI (fun g => nI (gAsk (U.1 1) g (gOurs (U.1 1) ||| 2 ^ f))) (fun g => !decide (g = f) && pThose (U.1 1) t 0 g) (gN (U.1 1))) = v
  have hve : ∀ f, gSumI (fun g => nI (gAsk (U.1 1) g (gOurs (U.1 1) ||| 2 ^ f))) (fun g => !decide (g = f) && pThose (U.1 1) t 0 g) (gN (U.1 1)) = v f := fun f => by rw [← hvv]
  generalize hfin : (gL (pThose (U.1 1) t 0) (gN (U.1 1))).foldl (fStep v) (-1, 0) = fin
  have xd : mX0_quietestFirst (nI (gSet (pThose (U.1 1) t 0) (gN (U.1 1)))) V = some fin.1 := by
    refine g_up (P := fun n i => mX0_quietestFirst_b7 V n (nI (gSet (pThose (U.1 1) t 0) (gN (U.1 1)))) ((gL (pThose (U.1 1) t 0) i).foldl (fStep v) (-1, 0)).1 ((gL (pThose (U.1 1) t 0) i).foldl (fStep v) (-1, 0)).2 (nI i) = some fin.1) (gN (U.1 1)) ?_ ?_ 2000 0 (by omega) (by omega)
    · intro n
      show mX0_quietestFirst_b7 V (n + 1) _ _ _ _ = _
      unfold mX0_quietestFirst_b7
      rw [if_pos ((v_le ⟨hn.2.1, hn.2.2⟩ (by omega)).mpr (Nat.le_refl _)), hfin]
    · intro n i hi this
      show mX0_quietestFirst_b7 V (n + 1) _ _ _ _ = _
      rw [gL, List.foldl_append] at this
      unfold mX0_quietestFirst_b7 mX0_quietestFirst_b66 mX0_quietestFirst_b60 mX0_quietestFirst_b66
      have e : gSumI (fun g => nI (gAsk (U.1 1) g (gOurs (U.1 1) ||| 2 ^ i))) (gDiff (gSet (pThose (U.1 1) t 0) (gN (U.1 1))) (2 ^ i)).testBit (gN (U.1 1)) = v i := by
        rw [← hve i]
        refine gSumI_congr (fun g hg => ?_)
        rw [gDiff_bit, gSet_bit, Nat.testBit_two_pow, decide_eq_true hg, Bool.true_and, Bool.and_comm]
        congr 2
        rw [decide_eq_decide]; exact eq_comm
      rw [if_neg (fun z => by have := (v_le ⟨hn.2.1, hn.2.2⟩ (by omega)).mp z; omega), x_isIn (by omega) (by omega), gSet_bit, decide_eq_true hi, Bool.true_and, g_one i (by omega), g_diff, hv.ours, g_or, x_pricesIn hv w _ (gDiff_lt _ hml), Option.bind_some, nI_1, e]
      by_cases z : pThose (U.1 1) t 0 i = true
      · rw [if_pos z, if_neg g_10]
        rw [if_pos z] at this
        change mX0_quietestFirst_b7 V n _ (fStep v ((gL (pThose (U.1 1) t 0) i).foldl (fStep v) (-1, 0)) i).1 (fStep v ((gL (pThose (U.1 1) t 0) i).foldl (fStep v) (-1, 0)) i).2 (nI (i + 1)) = _ at this
        generalize (gL (pThose (U.1 1) t 0) i).foldl (fStep v) (-1, 0) = st at *
        unfold fStep at this
        by_cases y1 : st.1 < 0
        · rw [if_pos y1]; rw [if_pos y1] at this; exact this
        · rw [if_neg y1]; rw [if_neg y1] at this
          by_cases y2 : st.2 ≤ v i
          · rw [if_pos y2]; rw [if_pos y2] at this; exact this
          · rw [if_neg y2]; rw [if_neg y2] at this; exact this
      · rw [if_neg z, if_pos rfl]
        rw [if_neg z] at this
        exact this
  rw [xd, Option.bind_some]
  have md : mX5_first_b30 2000 (nI (gSet (pThose (U.1 1) t 0) (gN (U.1 1)))) (-1) 0 0 U = (if (0 : Int32) ≤ fin.1 then some (fin.1, U) else (mX5_finds (-1000000004 : Int32) U).bind (fun (p3 : Int32 × jMem) => (some (p3.1, p3.2)))) := by
    refine g_up (P := fun n i => mX5_first_b30 n (nI (gSet (pThose (U.1 1) t 0) (gN (U.1 1)))) ((gL (pThose (U.1 1) t 0) i).foldl (fStep v) (-1, 0)).1 ((gL (pThose (U.1 1) t 0) i).foldl (fStep v) (-1, 0)).2 (nI i) U = (if (0 : Int32) ≤ fin.1 then some (fin.1, U) else (mX5_finds (-1000000004 : Int32) U).bind (fun (p3 : Int32 × jMem) => (some (p3.1, p3.2))))) (gN (U.1 1)) ?_ ?_ 2000 0 (by omega) (by omega)
    · intro n
      show mX5_first_b30 (n + 1) _ _ _ _ _ = _
      unfold mX5_first_b30
      rw [if_pos ((m_le w.n (by omega)).mpr (Nat.le_refl _)), hfin]
    · intro n i hi this
      show mX5_first_b30 (n + 1) _ _ _ _ _ = _
      rw [gL, List.foldl_append] at this
      have qb : ((nI (gSet (pThose (U.1 1) t 0) (gN (U.1 1))) >>> (nI i &&& 31)) &&& 1 = 1) ↔ pThose (U.1 1) t 0 i = true := by
        rw [g_bit1 (by omega) (by omega), gSet_bit, decide_eq_true hi, Bool.true_and]
      have inner : ∀ (k : Int32 → Int32 → Int32 → Int32 → jMem → Option (Int32 × jMem)) (a3 a4 : Int32), mX5_first_b57 k 2000 (nI (gSet (pThose (U.1 1) t 0) (gN (U.1 1)))) a3 a4 (nI i) 0 0 U = (if a3 < 0 then mX5_first_b126 k (nI (gSet (pThose (U.1 1) t 0) (gN (U.1 1)))) (nI i) (v i) U else if a4 ≤ v i then mX5_first_b133 k (nI (gSet (pThose (U.1 1) t 0) (gN (U.1 1)))) a3 a4 (nI i) U else mX5_first_b126 k (nI (gSet (pThose (U.1 1) t 0) (gN (U.1 1)))) (nI i) (v i) U) := by
        intro k a3 a4
        rw [← hve i]
        have hp := Nat.pow_lt_pow_right (show 1 < 2 by omega) (show i < 14 by omega)
        refine g_up (P := fun n g => mX5_first_b57 k n (nI (gSet (pThose (U.1 1) t 0) (gN (U.1 1)))) a3 a4 (nI i) (gSumI (fun g => nI (gAsk (U.1 1) g (gOurs (U.1 1) ||| 2 ^ i))) (fun g => !decide (g = i) && pThose (U.1 1) t 0 g) g) (nI g) U = _) (gN (U.1 1)) ?_ ?_ 2000 0 (by omega) (by omega)
        · intro n
          show mX5_first_b57 k (n + 1) _ _ _ _ _ _ _ = _
          unfold mX5_first_b57
          rw [if_pos ((m_le w.n (by omega)).mpr (Nat.le_refl _))]
        · intro n g hg this
          show mX5_first_b57 k (n + 1) _ _ _ _ _ _ _ = _
          have qg : ((nI (gSet (pThose (U.1 1) t 0) (gN (U.1 1))) >>> (nI g &&& 31)) &&& 1 = 1) ↔ pThose (U.1 1) t 0 g = true := by
            rw [g_bit1 (by omega) (by omega), gSet_bit, decide_eq_true hg, Bool.true_and]
          have qe : (nI g = nI i) ↔ g = i := nI_eq (by omega) (by omega)
          rw [gSumI] at this
          unfold mX5_first_b57 mX5_first_b105 mX5_first_b106
          rw [if_neg (fun z => by have := (m_le w.n (by omega)).mp z; omega), m_ours w, Option.bind_some, g_one i (by omega), g_or, m_by w hg (Nat.lt_of_lt_of_le (g_or_lt ho hp) (by decide)), Option.bind_some, nI_1]
          simp only [qe, qg]
          by_cases z1 : g = i
          · rw [if_pos z1]
            simp [z1] at this
            simp [z1]
            exact this
          · rw [if_neg z1]
            by_cases z2 : pThose (U.1 1) t 0 g = true
            · rw [if_pos z2]
              simp [z1, z2] at this
              exact this
            · rw [if_neg z2]
              simp [z1, z2] at this
              simp
              exact this
      unfold mX5_first_b30
      rw [if_neg (fun z => by have := (m_le w.n (by omega)).mp z; omega), inner]
      unfold mX5_first_b126 mX5_first_b133
      rw [nI_1]
      simp only [qb]
      by_cases z : pThose (U.1 1) t 0 i = true
      · rw [if_pos z]
        rw [if_pos z] at this
        change mX5_first_b30 n _ (fStep v ((gL (pThose (U.1 1) t 0) i).foldl (fStep v) (-1, 0)) i).1 (fStep v ((gL (pThose (U.1 1) t 0) i).foldl (fStep v) (-1, 0)) i).2 (nI (i + 1)) U = _ at this
        generalize (gL (pThose (U.1 1) t 0) i).foldl (fStep v) (-1, 0) = st at *
        unfold fStep at this
        by_cases y1 : st.1 < 0
        · rw [if_pos y1]; rw [if_pos y1] at this; exact this
        · rw [if_neg y1]; rw [if_neg y1] at this
          by_cases y2 : st.2 ≤ v i
          · rw [if_pos y2]; rw [if_pos y2] at this; exact this
          · rw [if_neg y2]; rw [if_neg y2] at this; exact this
      · rw [if_neg z]
        rw [if_neg z] at this
        exact this
  rw [md]
  by_cases hz : (0 : Int32) ≤ fin.1
  · rw [if_pos hz, if_pos hz]
    exact ⟨_, V, U, rfl, rfl, h⟩
  · rw [if_neg hz, if_neg hz, e3, e4]
    exact ⟨_, V4, U4, rfl, rfl, h4⟩
end OF1
