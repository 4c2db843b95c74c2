/-! last -/
section OS
variable {V U V' U' : jMem}
def lStep (v : Nat → Int32) (a : Int32 × Int32) (f : Nat) : Int32 × Int32 := if a.1 < 0 then (nI f, v f) else if v f ≤ a.2 then a else (nI f, v f)
theorem lStep_res (v : Nat → Int32) {B : Nat} (hB : B ≤ 2 ^ 31) : ∀ (l : List Nat), (∀ f ∈ l, f < B) → ∀ f0, f0 < B → ∃ f, f < B ∧ l.foldl (lStep v) (nI f0, v f0) = (nI f, v f) := by
  intro l
  induction l with
  | nil => intro _ f0 h0; exact ⟨f0, h0, rfl⟩
  | cons x l ih =>
    intro hl f0 h0
    rw [List.foldl_cons]
    have hx := hl x (List.mem_cons_self ..)
    have hr := fun f hf => hl f (List.mem_cons_of_mem _ hf)
    unfold lStep
    rw [if_neg (nI_pos (by omega))]
    by_cases z : v x ≤ v f0
    · rw [if_pos z]; exact ih hr f0 h0
    · rw [if_neg z]; exact ih hr x hx
theorem gL_mem (p : Nat → Bool) : ∀ n, ∀ f ∈ gL p n, f < n ∧ p f = true
  | 0 => fun f hf => by cases hf
  | n + 1 => fun f hf => by
    rw [gL, List.mem_append] at hf
    rcases hf with hf | hf
    · have := gL_mem p n f hf; exact ⟨by omega, this.2⟩
    · by_cases e : p n = true
      · rw [if_pos e] at hf
        have : f = n := by simpa using hf
        subst this
        exact ⟨by omega, e⟩
      · rw [if_neg e] at hf; cases hf
theorem gAsk_self (s : Nat → Int32) (f m : Nat) : gAsk s f (gDiff m (2 ^ f)) = gAsk s f m := by
  unfold gAsk gHeard
  congr 1
  refine gCt_congr (fun i hi => ?_)
  rw [gDiff_bit, Nat.testBit_two_pow]
  unfold pTell
  by_cases e : i = f
  · subst e; simp
  · have : ¬ f = i := fun z => e z.symm
    simp [this]
theorem op_last_ok : op_last Rel := by
  intro a1 a2 V U h
  obtain ⟨V1, U1, e1, e2, h1⟩ := ref_of (-1000000001) 0 (by omega) (by decide) h
  obtain ⟨V5, U5, e5, e6, h5⟩ := ref_of (-1000000005) 4 (by omega) (by decide) h
  have w := h.wf
  have hv := h.xv
  have hn := h.n
  have hm := h.m
  have ho := gOurs_lt w
  unfold mX4_last mX5_last mX4_last_b20 mX5_last_b18
  rcases t_ix h a1 with ⟨c1, c2⟩ | ⟨t, ht, rfl, c1, c2⟩
  · rw [if_pos c1, if_pos c2, e1, e2]; exact ⟨_, V1, U1, rfl, rfl, h1⟩
  rw [c1, c2, if_neg g_10, if_neg g_10]
  rcases f_in a2 0 1 0 1 rfl rfl with ⟨d1, d2⟩ | ⟨d1, d2, d3, d4⟩
  · rw [d1, d2, if_pos rfl, if_pos rfl, e1, e2]; exact ⟨_, V1, U1, rfl, rfl, h1⟩
  rw [d3, d4, if_neg g_10, if_neg g_10, x_canBe hv w ht, m_canBe w ht, Option.bind_some, Option.bind_some]
  by_cases hc : gCan (U.1 1) t = true
  · rw [if_pos hc, if_neg g_10, if_neg g_10]
    obtain ⟨U', m1, m2, m3, m4, m5, m6⟩ := m_want w ht
    have u1 : U'.1 1 = U.1 1 := m5 1 (by omega) (by omega)
    have w' : WF (U'.1 1) := by rw [u1]; exact w
    have hr : Rel V U' := Rel_scr h (fun _ _ => rfl) rfl (fun j q0 _ q9 _ => m5 j q0 q9) (fun a ha => m4 a (by omega)) m6
    obtain ⟨V4, U4, e3, e4, h4⟩ := ref_of (-1000000004) 3 (by omega) (by decide) hr
    have hcl := gCt_le (pMiss (U.1 1) t) (gN (U.1 1))
    have hT := (w.t ht).1
    have hTl := g_T_lt w ht
    have hp : (2 : Nat) ^ gN (U.1 1) ≤ 2 ^ 14 := Nat.pow_le_pow_right (by decide) hn.2.2
    have hoT : gOurs (U.1 1) ||| nn (gT (U.1 1) t) < 2 ^ 14 := g_or_lt ho (by omega)
    have last : ∀ f, f < gN (U.1 1) → mX0_priceAsLast (nI t) (nI f) V = some (nI (gAsk (U.1 1) f (gOurs (U.1 1) ||| nn (gT (U.1 1) t)))) := by
      intro f hf
      unfold mX0_priceAsLast
      rw [g_jin (show t < 6 by omega) (by omega), jg_t, g_cl (show t < 2 ^ 31 by omega), (hv.t ht).1, hv.ours, hT.1, g_or, ← hT.1, x_by hv w hf]; rfl
    have hv0 : (fun f => nI (gAsk (U.1 1) f (gOurs (U.1 1) ||| nn (gT (U.1 1) t)))) = (fun f => nI (gAsk (U.1 1) f (gOurs (U.1 1) ||| nn (gT (U.1 1) t)))) := rfl
    generalize hvv : (fun f => nI (gAsk (U.1 1) f (gOurs (U.1 1) ||| nn (gT (U.1 1) t)))) = v at hv0
    have hve : ∀ f, nI (gAsk (U.1 1) f (gOurs (U.1 1) ||| nn (gT (U.1 1) t))) = v f := fun f => by rw [← hvv]
    have xd : mX0_dearestLast (nI t) V = some ((gL (pMiss (U.1 1) t) (gN (U.1 1))).foldl (lStep v) (-1, 0)).1 := by
      refine g_up (P := fun n i => mX0_dearestLast_b7 V n (nI t) ((gL (pMiss (U.1 1) t) i).foldl (lStep v) (-1, 0)).1 ((gL (pMiss (U.1 1) t) i).foldl (lStep v) (-1, 0)).2 (nI i) = some ((gL (pMiss (U.1 1) t) (gN (U.1 1))).foldl (lStep v) (-1, 0)).1) (gN (U.1 1)) ?_ ?_ 2000 0 (by omega) (by omega)
      · intro n
        show mX0_dearestLast_b7 V (n + 1) _ _ _ _ = _
        unfold mX0_dearestLast_b7
        rw [if_pos ((v_le ⟨hn.2.1, hn.2.2⟩ (by omega)).mpr (Nat.le_refl _))]
      · intro n i hi this
        show mX0_dearestLast_b7 V (n + 1) _ _ _ _ = _
        rw [gL, List.foldl_append] at this
        have hml : gSet (pMiss (U.1 1) t) (gN (U.1 1)) < 2 ^ 14 := gSet_14 hn.2.2
        unfold mX0_dearestLast_b7 mX0_dearestLast_b48 mX0_dearestLast_b54
        rw [if_neg (fun z => by have := (v_le ⟨hn.2.1, hn.2.2⟩ (by omega)).mp z; omega), x_missing hv w ht, Option.bind_some, g_miss w ht, x_isIn (by omega) (by omega), gSet_bit, decide_eq_true hi, Bool.true_and, last i hi, Option.bind_some, nI_1, hve]
        by_cases z : pMiss (U.1 1) t i = true
        · rw [if_pos z, if_neg g_10]
          rw [if_pos z] at this
          change mX0_dearestLast_b7 V n (nI t) (lStep v ((gL (pMiss (U.1 1) t) i).foldl (lStep v) (-1, 0)) i).1 (lStep v ((gL (pMiss (U.1 1) t) i).foldl (lStep v) (-1, 0)) i).2 (nI (i + 1)) = _ at this
          generalize (gL (pMiss (U.1 1) t) i).foldl (lStep v) (-1, 0) = st at *
          unfold lStep at this
          by_cases y1 : st.1 < 0
          · rw [if_pos y1]; rw [if_pos y1] at this; exact this
          · rw [if_neg y1]; rw [if_neg y1] at this
            by_cases y2 : v i ≤ st.2
            · rw [if_pos y2]; rw [if_pos y2] at this; exact this
            · rw [if_neg y2]; rw [if_neg y2] at this; exact this
        · rw [if_neg z, if_pos rfl]
          rw [if_neg z] at this
          exact this
    rw [m1, Option.bind_some, xd, Option.bind_some, m2]
    have qz : (nI (gCt (pMiss (U.1 1) t) (gN (U.1 1))) = 0) ↔ gCt (pMiss (U.1 1) t) (gN (U.1 1)) = 0 := nI_eq (b := 0) (by omega) (by omega)
    simp only [qz]
    by_cases hz : gCt (pMiss (U.1 1) t) (gN (U.1 1)) = 0
    · have hnil : gL (pMiss (U.1 1) t) (gN (U.1 1)) = [] := List.length_eq_zero_iff.mp (by rw [gL_len]; exact hz)
      rw [hnil, if_pos hz, e3, e4, if_neg (show ¬ ((0 : Int32) ≤ (List.foldl (lStep v) (-1, 0) ([] : List Nat)).1) from (by decide : ¬ ((0 : Int32) ≤ (-1 : Int32))))]
      exact ⟨_, V4, U4, rfl, rfl, h4⟩
    · rw [if_neg hz]
      have md : ∀ k st, k ≤ gCt (pMiss (U.1 1) t) (gN (U.1 1)) → ∀ n, gCt (pMiss (U.1 1) t) (gN (U.1 1)) - k < n → mX5_last_b67 n (nI t) a2 st.1 st.2 (nI k) U' = some (if a2 = 0 then (((gL (pMiss (U.1 1) t) (gN (U.1 1))).drop k).foldl (lStep v) st).2 else (((gL (pMiss (U.1 1) t) (gN (U.1 1))).drop k).foldl (lStep v) st).1, U') := by
        intro k st hk n hkn
        revert st
        refine g_up (P := fun n k => ∀ st : Int32 × Int32, mX5_last_b67 n (nI t) a2 st.1 st.2 (nI k) U' = some (if a2 = 0 then (((gL (pMiss (U.1 1) t) (gN (U.1 1))).drop k).foldl (lStep v) st).2 else (((gL (pMiss (U.1 1) t) (gN (U.1 1))).drop k).foldl (lStep v) st).1, U')) (gCt (pMiss (U.1 1) t) (gN (U.1 1))) ?_ ?_ n k hk hkn
        · intro n st
          show mX5_last_b67 (n + 1) _ _ _ _ _ _ = _
          unfold mX5_last_b67
          rw [m2, if_pos (nI_le (Nat.le_refl _) (by omega)), ← gL_len, List.drop_length]
          split <;> rfl
        · intro n k hk this st
          show mX5_last_b67 (n + 1) _ _ _ _ _ _ = _
          have hg := (gAt_ok _ _ _ hk).1
          unfold mX5_last_b67 mX5_last_b121 mX5_last_b128
          rw [m2, if_neg (nI_ge hk (by omega)), g_jin (show k < 14 by omega) (by omega), jg_t, g_cl (show k < 2 ^ 31 by omega), m3 k hk, m_ours w', Option.bind_some, m_setOf (by omega), Option.bind_some, u1, hT.1, g_or, g_one _ (by omega), g_diff, m_by w' (by rw [u1]; exact hg) (Nat.lt_of_lt_of_le (gDiff_lt _ hoT) (by decide)), Option.bind_some, u1, gAsk_self, hve, nI_1, gL_drop hk, List.foldl_cons]
          generalize gAt (pMiss (U.1 1) t) (gN (U.1 1)) k = f at *
          have t1 := this (nI f, v f)
          have t2 := this st
          unfold lStep
          by_cases y1 : st.1 < 0
          · rw [if_pos y1, if_pos y1]; exact t1
          · rw [if_neg y1, if_neg y1]
            by_cases y2 : v f ≤ st.2
            · rw [if_pos y2, if_pos y2]; exact t2
            · rw [if_neg y2, if_neg y2]; exact t1
      have md0 := md 0 (-1, 0) (by omega) 2000 (by omega)
      rw [List.drop_zero] at md0
      have hres : ∃ f, f < gN (U.1 1) ∧ (gL (pMiss (U.1 1) t) (gN (U.1 1))).foldl (lStep v) (-1, 0) = (nI f, v f) := by
        have hmem := gL_mem (pMiss (U.1 1) t) (gN (U.1 1))
        cases hl : gL (pMiss (U.1 1) t) (gN (U.1 1)) with
        | nil => exact absurd (by rw [← gL_len, hl]; rfl) hz
        | cons x l =>
          rw [hl] at hmem
          rw [List.foldl_cons]
          exact lStep_res v (B := gN (U.1 1)) (by omega) l (fun f hf => (hmem f (List.mem_cons_of_mem _ hf)).1) x (hmem x (List.mem_cons_self ..)).1
      obtain ⟨f, hf, hfe⟩ := hres
      rw [hfe] at md0 ⊢
      have nf : (0 : Int32) ≤ nI f := nI_pos' (by omega)
      show ∃ r V' U', (if (0 : Int32) ≤ nI f then _ else _) = _ ∧ _
      rw [if_pos nf, last f hf, Option.bind_some, hve]
      refine ⟨if a2 = 0 then v f else nI f, V, U', ?_, md0, hr⟩
      split <;> rfl
  · rw [if_neg hc, if_pos rfl, if_pos rfl, e5, e6]
    exact ⟨_, V5, U5, rfl, rfl, h5⟩
end OS
