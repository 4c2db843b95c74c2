/-! rights -/
section OR
variable {V U V' U' : jMem}
theorem gL_congr {p q : Nat → Bool} : ∀ {n : Nat}, (∀ i, i < n → p i = q i) → gL p n = gL q n := by
  intro n
  induction n with
  | zero => intro _; rfl
  | succ n ih => intro h; rw [gL, gL, ih (fun i hi => h i (by omega)), h n (by omega)]
theorem gL_drop {p : Nat → Bool} {n k : Nat} (h : k < gCt p n) : (gL p n).drop k = gAt p n k :: (gL p n).drop (k + 1) := by
  have hl : k < (gL p n).length := by rw [gL_len]; exact h
  rw [List.drop_eq_getElem_cons hl]
  congr 1
  unfold gAt
  rw [List.getD_eq_getElem?_getD, List.getElem?_eq_getElem hl]; rfl
/-- nothing of it LOST: what it misses is what is FREE of it -/
theorem g_can {s : Nat → Int32} (w : WF s) {t : Nat} (hc : gCan s t = true) : ∀ i, i < gN s → pThose s t 0 i = pMiss s t i := by
  intro i hi
  have hz : gSet (pThose s t 2) (gN s) = 0 := of_decide_eq_true hc
  have := gSet_zero.mp hz i hi
  revert this
  unfold pThose pMiss pOurs
  rcases wf_is (w.f' hi) with e | e | e <;> rw [e] <;> cases (nn (gT s t)).testBit i <;> decide
def rVal (s : Nat → Int32) (a : Int32) (f : Nat) : Int32 := a + (mX5_paperFor (nI (gNow s f)) + nI (gNow s f))
theorem op_rights_ok : op_rights Rel := by
  intro a1 V U h
  obtain ⟨V1, U1, e1, e2, h1⟩ := ref_of (-1000000001) 0 (by omega) (by decide) h
  obtain ⟨V5, U5, e5, e6, h5⟩ := ref_of (-1000000005) 4 (by omega) (by decide) h
  have w := h.wf
  have hv := h.xv
  have hn := h.n
  have hm := h.m
  unfold mX4_rights mX5_rights
  rcases t_ix h a1 with ⟨c1, c2⟩ | ⟨t, ht, rfl, c1, c2⟩
  · rw [if_pos c1, if_pos c2, e1, e2]; exact ⟨_, V1, U1, rfl, rfl, h1⟩
  rw [c1, c2, if_neg g_10, if_neg g_10, x_canBe hv w ht, m_canBe w ht, Option.bind_some, Option.bind_some]
  by_cases hc : gCan (U.1 1) t = true
  · rw [if_pos hc, if_neg g_10, if_neg g_10]
    obtain ⟨U', m1, m2, m3, m4, m5, m6⟩ := m_want w ht
    have u1 : U'.1 1 = U.1 1 := m5 1 (by omega) (by omega)
    have w' : WF (U'.1 1) := by rw [u1]; exact w
    have hr : Rel V U' := Rel_scr h (fun _ _ => rfl) rfl (fun j q0 _ q9 _ => m5 j q0 q9) (fun a ha => m4 a (by omega)) m6
    have y : (108 : Int32) + 2 * nI t + 1 = nI (109 + 2 * t) := by
      show nI 108 + nI 2 * nI t + nI 1 = _
      rw [pk_mul, nI_add, nI_add]; congr 1; omega
    have hfr : mX0_freeIn (gT (U.1 1) t) V = nI (gSet (pThose (U.1 1) t 0) (gN (U.1 1))) := by
      rw [(w.t ht).1.1, x_freeIn hv w]; rfl
    have hml : gSet (pThose (U.1 1) t 0) (gN (U.1 1)) < 2 ^ 14 := gSet_14 hn.2.2
    have hcl := gCt_le (pMiss (U.1 1) t) (gN (U.1 1))
    rw [m1, Option.bind_some, g_jin (show t < 6 by omega) (by omega), jg_t, jl_eq, g_cl (show t < 2 ^ 31 by omega), (hv.t ht).1, (hv.t ht).2, hfr, y, g_jin (show 109 + 2 * t < 120 by omega) (by omega), jg_t, jl_eq, g_cl (show 109 + 2 * t < 2 ^ 31 by omega), u1]
    refine ⟨(gL (pMiss (U.1 1) t) (gN (U.1 1))).foldl (rVal (U.1 1)) (gR (U.1 1) t), V, U', ?_, ?_, hr⟩
    · rw [← gL_congr (g_can w hc)]
      refine g_up (P := fun n i => mX4_rights_b66 n (nI (gSet (pThose (U.1 1) t 0) (gN (U.1 1)))) ((gL (pThose (U.1 1) t 0) i).foldl (rVal (U.1 1)) (gR (U.1 1) t)) (nI i) V = some ((gL (pThose (U.1 1) t 0) (gN (U.1 1))).foldl (rVal (U.1 1)) (gR (U.1 1) t), V)) (gN (U.1 1)) ?_ ?_ 2000 0 (by omega) (by omega)
      · intro n
        show mX4_rights_b66 (n + 1) _ _ _ _ = _
        unfold mX4_rights_b66
        rw [if_pos ((v_le ⟨hn.2.1, hn.2.2⟩ (by omega)).mpr (Nat.le_refl _))]
      · intro n i hi this
        show mX4_rights_b66 (n + 1) _ _ _ _ = _
        have ha := gAsk_le w hi (gOurs (U.1 1))
        rw [gL, List.foldl_append] at this
        unfold mX4_rights_b66 mX4_rights_b109
        rw [if_neg (fun z => by have := (v_le ⟨hn.2.1, hn.2.2⟩ (by omega)).mp z; omega), x_isIn (by omega) (by omega), gSet_bit, decide_eq_true hi, Bool.true_and, x_now hv w hi, Option.bind_some, nI_1, g_paper (show gNow (U.1 1) i ≤ 99999 by unfold gNow; omega)]
        by_cases z : pThose (U.1 1) t 0 i = true
        · rw [if_pos z, if_neg g_10]
          rw [if_pos z] at this
          exact this
        · rw [if_neg z, if_pos rfl]
          rw [if_neg z] at this
          exact this
    · have key := g_up (P := fun n k => ∀ acc, mX5_rights_b51 n acc (nI k) U' = some (((gL (pMiss (U.1 1) t) (gN (U.1 1))).drop k).foldl (rVal (U.1 1)) acc, U')) (gCt (pMiss (U.1 1) t) (gN (U.1 1))) ?_ ?_ 2000 0 (by omega) (by omega)
      · exact key (gR (U.1 1) t)
      · intro n acc
        show mX5_rights_b51 (n + 1) _ _ _ = _
        unfold mX5_rights_b51
        rw [m2, if_pos (nI_le (Nat.le_refl _) (by omega)), ← gL_len, List.drop_length]; rfl
      · intro n k hk this acc
        show mX5_rights_b51 (n + 1) _ _ _ = _
        have hg := (gAt_ok _ _ _ hk).1
        unfold mX5_rights_b51
        rw [m2, if_neg (nI_ge hk (by omega)), g_jin (show k < 14 by omega) (by omega), jg_t, g_cl (show k < 2 ^ 31 by omega), m3 k hk, m_now w' (by rw [u1]; exact hg), Option.bind_some, nI_1, this, u1, gL_drop hk, List.foldl_cons]
        unfold rVal
        rw [Int32.add_comm (nI (gNow (U.1 1) (gAt (pMiss (U.1 1) t) (gN (U.1 1)) k)))]
  · rw [if_neg hc, if_pos rfl, if_pos rfl, e5, e6]
    exact ⟨_, V5, U5, rfl, rfl, h5⟩
end OR
