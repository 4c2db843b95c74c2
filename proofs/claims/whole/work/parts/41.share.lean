/-! share -/
section OP
variable {V U : jMem}
def gWs (s : Nat → Int32) (m : Nat) : Nat → Nat
  | 0 => 0
  | n + 1 => gWs s m n + (if m.testBit n then nn (gF s n 1) else 0)
theorem gWs_le {s : Nat → Int32} {m : Nat} : ∀ {n : Nat}, (∀ f, f < n → nn (gF s f 1) ≤ 9999) → gWs s m n ≤ 9999 * n := by
  intro n
  induction n with
  | zero => intro _; exact Nat.le_refl _
  | succ n ih =>
    intro h
    have h1 := ih (fun f hf => h f (by omega))
    have h2 := h n (by omega)
    rw [gWs]; split <;> omega
theorem gWs_ge {s : Nat → Int32} {m f : Nat} (hb : m.testBit f = true) : ∀ {n : Nat}, f < n → nn (gF s f 1) ≤ gWs s m n := by
  intro n
  induction n with
  | zero => intro h; omega
  | succ n ih =>
    intro h
    rw [gWs]
    by_cases e : f = n
    · subst e; rw [if_pos hb]; omega
    · have := ih (by omega); omega
theorem x_worths {s : Nat → Int32} (h : XLv V s) (w : WF s) {m : Nat} (hm : m < 2 ^ 31) : mX0_worthsIn (nI m) V = some (nI (gWs s m (gN s))) := by
  have hn := h.n w
  refine g_up (P := fun n i => mX0_worthsIn_b4 V n (nI m) (nI (gWs s m i)) (nI i) = some (nI (gWs s m (gN s)))) (gN s) ?_ ?_ 2000 0 (by omega) (by omega)
  · intro n
    show mX0_worthsIn_b4 V (n + 1) _ _ _ = _
    unfold mX0_worthsIn_b4
    rw [if_pos ((v_le hn (by omega)).mpr (by omega))]
  · intro n i hi this
    show mX0_worthsIn_b4 V (n + 1) _ _ _ = _
    rw [gWs] at this
    unfold mX0_worthsIn_b4 mX0_worthsIn_b29
    rw [if_neg (fun z => by have := (v_le hn (by omega)).mp z; omega), x_isIn hm (by omega), g_jin (show i < 14 by omega) (by omega), jg_t, g_cl (show i < 2 ^ 31 by omega), (h.f hi).2.1, (w.f' hi).2.1.1.1, nI_add, nI_1]
    by_cases hb : m.testBit i = true
    · rw [if_pos hb, if_neg g_10]
      rw [if_pos hb] at this
      exact this
    · rw [if_neg hb, if_pos rfl]
      rw [if_neg hb] at this
      exact this
theorem op_share_ok : op_share Rel := by
  intro a1 a2 a3 V U h
  obtain ⟨V1, U1, e1, e2, h1⟩ := ref_of (-1000000001) 0 (by omega) (by decide) h
  obtain ⟨V4, U4, e3, e4, h4⟩ := ref_of (-1000000004) 3 (by omega) (by decide) h
  obtain ⟨V5, U5, e5, e6, h5⟩ := ref_of (-1000000005) 4 (by omega) (by decide) h
  have w := h.wf
  have hv := h.xv
  have hn := h.n
  have hm := h.m
  unfold mX4_share mX5_share mX4_share_b32 mX4_share_b96 mX5_share_b29
  rcases t_ix h a1 with ⟨c1, c2⟩ | ⟨t, ht, rfl, c1, c2⟩
  · rw [if_pos c1, if_pos c2, e1, e2]; exact ⟨_, V1, U1, rfl, rfl, h1⟩
  rw [c1, c2, if_neg g_10, if_neg g_10]
  rcases f_in a2 0 9999999 0 9999999 rfl rfl with ⟨d1, d2⟩ | ⟨d1, d2, d3, d4⟩
  · rw [d1, d2, if_pos rfl, if_pos rfl, e1, e2]; exact ⟨_, V1, U1, rfl, rfl, h1⟩
  rw [d3, d4, if_neg g_10, if_neg g_10]
  obtain ⟨g, -, hg, rfl⟩ := g_rng d1 d2 0 9999999 rfl rfl (by omega) (by omega)
  rcases f_ix h a3 with ⟨c3, c4⟩ | ⟨f, hf, rfl, c3, c4⟩
  · rw [if_pos c3, if_pos c4, e1, e2]; exact ⟨_, V1, U1, rfl, rfl, h1⟩
  have hfr : mX0_freeIn (gT (U.1 1) t) V = nI (gSet (pThose (U.1 1) t 0) (gN (U.1 1))) := by
    rw [(w.t ht).1.1, x_freeIn hv w]; rfl
  have hml : gSet (pThose (U.1 1) t 0) (gN (U.1 1)) < 2 ^ 14 := gSet_14 hn.2.2
  rw [c3, c4, if_neg g_10, if_neg g_10, g_jin (show t < 6 by omega) (by omega), jg_t, g_cl (show t < 2 ^ 31 by omega), (hv.t ht).1, hfr, jl_eq, m_those w ht (w := 0) (by omega) 0 rfl, Option.bind_some]
  generalize gSet (pThose (U.1 1) t 0) (gN (U.1 1)) = m at *
  have hb0 : ((nI m >>> (nI f &&& 31)) &&& 1 = 0) ↔ m.testBit f = false := g_bit1' (by omega) (by omega)
  rw [x_isIn (by omega) (by omega), x_worths hv w (by omega), Option.bind_some, e3, e5, e6]
  have hW := gWs_le (s := U.1 1) (m := m) (n := gN (U.1 1)) (fun f hf => (w.f hf).2.1.1.2)
  have hwo := (w.f hf).2.1
  have hwo2 := hwo.1.2
  have hwo1 := hwo.2
  have hM : 9999 * gN (U.1 1) ≤ 139986 := by omega
  by_cases hb : m.testBit f = true
  · have hWge := gWs_ge (s := U.1 1) hb hf
    generalize hWW : gWs (U.1 1) m (gN (U.1 1)) = W at *
    have q1 : ¬ nI W < 1 := nI_nlt (b := 1) (by omega) (by omega)
    have q2 : (nI W ≤ nI g) ↔ W ≤ g := nI_leI (by omega) (by omega)
    rw [if_pos hb, if_neg g_10, if_neg (show ¬ ((nI m >>> (nI f &&& 31)) &&& 1 = 0) from fun z => by rw [hb0.mp z] at hb; exact absurd hb (by decide)), if_neg q1]
    have fin : ∀ n, mX5_share_b66 (n + 1) (nI g) (nI f) (nI m) (lN W) (nI (gN (U.1 1))) U = (if W ≤ g then some (nI (nn (gF (U.1 1) f 1) + (g - W) * nn (gF (U.1 1) f 1) / W), U) else some (-1000000004, U4)) := by
      intro n
      have q3 : (0 ≤ lg_cmp (Int32.toInt64 (nI g)) (lN W)) ↔ W ≤ g := by
        rw [lg_cmp_ge, nI_l (by omega)]
        exact pk_lLE (by omega) (by omega)
      have q4 : jnzl (lN W) = true := by
        unfold jnzl
        apply decide_eq_true
        intro z
        have := (pk_lEQ (b := 0) (show W < 2 ^ 63 by omega) (by omega)).mp z
        omega
      have hmul : (g - W) * nn (gF (U.1 1) f 1) ≤ 9999999 * 9999 := Nat.mul_le_mul (by omega) hwo2
      unfold mX5_share_b66
      rw [if_pos ((m_le w.n (by omega)).mpr (Nat.le_refl _)), m_has1 (by omega), Option.bind_some, q4, jg_t, e4, hwo.1.1, nI_l (show nn (gF (U.1 1) f 1) < 2 ^ 31 by omega), nI_l (show g < 2 ^ 31 by omega), ← hwo.1.1]
      rw [nI_l (show g < 2 ^ 31 by omega)] at q3
      simp only [q3]
      by_cases z : W ≤ g
      · rw [if_pos z, if_pos z, lN_sub z, lN_mul, pk_lDiv (by omega) (by omega) (by omega), lN_add, lN_i]
      · rw [if_neg z, if_neg z]; rfl
    have loop : mX5_share_b66 2000 (nI g) (nI f) (nI m) 0 0 U = (if W ≤ g then some (nI (nn (gF (U.1 1) f 1) + (g - W) * nn (gF (U.1 1) f 1) / W), U) else some (-1000000004, U4)) := by
      refine g_up (P := fun n i => mX5_share_b66 n (nI g) (nI f) (nI m) (lN (gWs (U.1 1) m i)) (nI i) U = (if W ≤ g then some (nI (nn (gF (U.1 1) f 1) + (g - W) * nn (gF (U.1 1) f 1) / W), U) else some (-1000000004, U4))) (gN (U.1 1)) ?_ ?_ 2000 0 (by omega) (by omega)
      · intro n
        show mX5_share_b66 (n + 1) _ _ _ _ _ _ = _
        rw [hWW]; exact fin n
      · intro n i hi this
        show mX5_share_b66 (n + 1) _ _ _ _ _ _ = _
        have hwi := (w.f hi).2.1.1
        have hwi2 := hwi.2
        have qb : ((nI m >>> (nI i &&& 31)) &&& 1 = 1) ↔ m.testBit i = true := g_bit1 (by omega) (by omega)
        rw [gWs] at this
        unfold mX5_share_b66 mX5_share_b102
        rw [if_neg (fun z => by have := (m_le w.n (by omega)).mp z; omega), m_has1 (show i < 14 by omega), Option.bind_some, hwi.1, nI_l (show nn (gF (U.1 1) i 1) < 2 ^ 31 by omega), lN_add, nI_1]
        simp only [qb]
        by_cases z : m.testBit i = true
        · rw [if_pos z]
          rw [if_pos z] at this
          exact this
        · rw [if_neg z, show (0 : Int64) = lN 0 from rfl, lN_add]
          rw [if_neg z] at this
          exact this
    rw [loop]
    simp only [q2]
    by_cases z : W ≤ g
    · have hmul : (g - W) * nn (gF (U.1 1) f 1) ≤ 9999999 * 9999 := Nat.mul_le_mul (by omega) hwo2
      have q4 : jnzl (Int32.toInt64 (nI W)) = true := by
        unfold jnzl
        apply decide_eq_true
        rw [nI_l (by omega)]
        intro z
        have := (pk_lEQ (b := 0) (show W < 2 ^ 63 by omega) (by omega)).mp z
        omega
      rw [if_pos z, if_pos z, g_jin (show f < 14 by omega) (by omega), jg_t, q4, jg_t, g_cl (show f < 2 ^ 31 by omega), (hv.f hf).2.1]
      refine ⟨_, V, U, ?_, rfl, h⟩
      rw [hwo.1.1, pk_sub z, nI_l (by omega), nI_l (by omega), nI_l (by omega), lN_mul, pk_lDiv (by omega) (by omega) (by omega), lN_i, nI_add, ← hwo.1.1]
    · rw [if_neg z, if_neg z]
      exact ⟨_, V4, U4, rfl, rfl, h4⟩
  · have hb' : m.testBit f = false := by simpa using hb
    rw [if_neg hb, if_pos rfl, if_pos (hb0.mpr hb')]
    exact ⟨_, V5, U5, rfl, rfl, h5⟩
end OP
