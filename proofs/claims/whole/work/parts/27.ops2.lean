/-! counts, strips' states; calls that change one number -/
section OB
variable {V U : jMem}
theorem op_stands_ok : op_stands Rel := by
  intro a1 V U h
  obtain ⟨V', U', e1, e2, h'⟩ := ref_of (-1000000001) 0 (by omega) (by decide) h
  have w := h.wf
  have hv := h.xv
  have hn := h.n
  have hx := h.xl
  unfold mX4_stands mX5_stands
  have b1 : mJ6_bitCount_0f7a4 (V.1 1 5) = nI (gCt (pOurs (U.1 1)) (gN (U.1 1))) := by rw [hv.ours]; exact g_bcSet hn.2.2
  have b2 : mJ6_bitCount_0f7a4 (V.1 1 6) = nI (gCt (pLost (U.1 1)) (gN (U.1 1))) := by rw [hv.lost]; exact g_bcSet hn.2.2
  have b3 : mJ6_bitCount_0f7a4 (mX0_freeIn 16383 V) = nI (gCt (pFree (U.1 1)) (gN (U.1 1))) := by
    rw [show (16383 : Int32) = nI 16383 from rfl, x_freeIn hv w, g_bcSet hn.2.2]
    congr 1
    exact gCt_congr (fun i hi => by rw [t_all i (by omega), Bool.true_and])
  rw [b1, b2, b3, m_thatAre w, m_thatAre w, m_thatAre w, hx.2.2.2.2.1, hx.2.2.2.2.2.1, e1, e2]
  by_cases z0 : a1 = 0
  · rw [if_pos z0, if_pos z0]; exact ⟨_, V, U, rfl, rfl, h⟩
  rw [if_neg z0, if_neg z0]
  by_cases z1 : a1 = 1
  · rw [if_pos z1, if_pos z1]; exact ⟨_, V, U, rfl, rfl, h⟩
  rw [if_neg z1, if_neg z1]
  by_cases z2 : a1 = 2
  · rw [if_pos z2, if_pos z2]; exact ⟨_, V, U, rfl, rfl, h⟩
  rw [if_neg z2, if_neg z2]
  by_cases z3 : a1 = 3
  · rw [if_pos z3, if_pos z3]; exact ⟨_, V, U, rfl, rfl, h⟩
  rw [if_neg z3, if_neg z3]
  by_cases z4 : a1 = 4
  · rw [if_pos z4, if_pos z4]; exact ⟨_, V, U, rfl, rfl, h⟩
  rw [if_neg z4, if_neg z4]
  exact ⟨_, V', U', rfl, rfl, h'⟩
def gSum (p : Nat → Int32) : Nat → Int32
  | 0 => 0
  | n + 1 => gSum p n + p n
theorem x_allWary {s : Nat → Int32} (h : XLv V s) (w : WF s) : mX0_allWary V = some (gSum (fun f => gF s f 2) (gN s)) := by
  have hn := h.n w
  refine g_up (P := fun n i => mX0_allWary_b4 V n (gSum (fun f => gF s f 2) i) (nI i) = some (gSum (fun f => gF s f 2) (gN s))) (gN s) ?_ ?_ 2000 0 (by omega) (by omega)
  · intro n
    show mX0_allWary_b4 V (n + 1) _ _ = _
    unfold mX0_allWary_b4
    rw [if_pos ((v_le hn (by omega)).mpr (by omega))]
  · intro n i hi this
    show mX0_allWary_b4 V (n + 1) _ _ = _
    unfold mX0_allWary_b4
    rw [if_neg (fun z => by have := (v_le hn (by omega)).mp z; omega), g_jin (show i < 14 by omega) (by omega), jg_t, g_cl (by omega), (h.f hi).2.2.1, nI_1]
    exact this
theorem m_allWary (w : WF (U.1 1)) : mX5_allWary U = some (gSum (fun f => gF (U.1 1) f 2) (gN (U.1 1))) := by
  have hn := w.n
  refine g_up (P := fun n i => mX5_allWary_b4 U n (gSum (fun f => gF (U.1 1) f 2) i) (nI i) = some (gSum (fun f => gF (U.1 1) f 2) (gN (U.1 1)))) (gN (U.1 1)) ?_ ?_ 2000 0 (by omega) (by omega)
  · intro n
    show mX5_allWary_b4 U (n + 1) _ _ = _
    unfold mX5_allWary_b4
    rw [if_pos ((m_le hn (by omega)).mpr (by omega))]
  · intro n i hi this
    show mX5_allWary_b4 U (n + 1) _ _ = _
    unfold mX5_allWary_b4
    rw [if_neg (fun z => by have := (m_le hn (by omega)).mp z; omega), m_has2 (by omega), Option.bind_some, nI_1]
    exact this
theorem op_count_ok : op_count Rel := by
  intro a1 V U h
  obtain ⟨V', U', e1, e2, h'⟩ := ref_of (-1000000001) 0 (by omega) (by decide) h
  have w := h.wf
  have hv := h.xv
  have hn := h.n
  have hx := h.xl
  unfold mX4_count mX5_count
  have b1 : mJ6_bitCount_0f7a4 (V.1 1 7) = nI (gCt (pPap (U.1 1)) (gN (U.1 1))) := by rw [hv.pap]; exact g_bcSet hn.2.2
  rw [b1, m_papers w, x_allWary hv w, m_allWary w, hx.1, hx.2.2.2.2.2.2.1, hx.2.2.2.2.2.2.2.1, hx.2.2.2.2.2.2.2.2.2.2.1.2.2.2, h.2.2.1.1, e1, e2]
  by_cases z0 : a1 = 0
  · rw [if_pos z0, if_pos z0]; exact ⟨_, V, U, rfl, rfl, h⟩
  rw [if_neg z0, if_neg z0]
  by_cases z1 : a1 = 1
  · rw [if_pos z1, if_pos z1]; exact ⟨_, V, U, rfl, rfl, h⟩
  rw [if_neg z1, if_neg z1]
  by_cases z2 : a1 = 2
  · rw [if_pos z2, if_pos z2]; exact ⟨_, V, U, rfl, rfl, h⟩
  rw [if_neg z2, if_neg z2]
  by_cases z3 : a1 = 3
  · rw [if_pos z3, if_pos z3]; exact ⟨_, V, U, rfl, rfl, h⟩
  rw [if_neg z3, if_neg z3]
  by_cases z4 : a1 = 4
  · rw [if_pos z4, if_pos z4]; exact ⟨_, V, U, rfl, rfl, h⟩
  rw [if_neg z4, if_neg z4]
  by_cases z5 : a1 = 5
  · rw [if_pos z5, if_pos z5]; exact ⟨_, V, U, rfl, rfl, h⟩
  rw [if_neg z5, if_neg z5]
  by_cases z6 : a1 = 6
  · rw [if_pos z6, if_pos z6]; exact ⟨_, V, U, rfl, rfl, h⟩
  rw [if_neg z6, if_neg z6]
  exact ⟨_, V', U', rfl, rfl, h'⟩
theorem op_stripOf_ok : op_stripOf Rel := by
  intro a1 a2 V U h
  obtain ⟨V', U', e1, e2, h'⟩ := ref_of (-1000000001) 0 (by omega) (by decide) h
  have w := h.wf
  have hv := h.xv
  have hm := h.m
  unfold mX4_stripOf mX5_stripOf mX5_stripOf_b20
  rcases t_ix h a1 with ⟨c1, c2⟩ | ⟨t, ht, rfl, c1, c2⟩
  · rw [if_pos c1, if_pos c2, e1, e2]; exact ⟨_, V', U', rfl, rfl, h'⟩
  · rw [c1, c2, if_neg g_10, if_neg g_10]
    rcases f_in a2 0 4 0 4 rfl rfl with ⟨d1, d2⟩ | ⟨d1, d2, d3, d4⟩
    · rw [d2, if_pos rfl, if_neg (g_out d1 (k := 0) (by decide)), if_neg (g_out d1 (k := 1) (by decide)), if_neg (g_out d1 (k := 2) (by decide)), if_neg (g_out d1 (k := 3) (by decide)), if_neg (g_out d1 (k := 4) (by decide)), e1, e2]
      exact ⟨_, V', U', rfl, rfl, h'⟩
    · rw [d4, if_neg g_10]
      obtain ⟨j, -, hj, e⟩ := g_rng d1 d2 0 4 rfl rfl (by omega) (by omega)
      obtain ⟨x0, x1⟩ := hv.t ht
      have hT := (w.t ht).1.1
      have y : ∀ k, k < 2 → (108 : Int32) + 2 * nI t + nI k = nI (108 + 2 * t + k) := by
        intro k _
        show nI 108 + nI 2 * nI t + nI k = _
        rw [pk_mul, nI_add, nI_add]
      have z4 : mX0_freeIn (gT (U.1 1) t) V = nI (gSet (pThose (U.1 1) t 0) (gN (U.1 1))) := by
        rw [hT, x_freeIn hv w]; rfl
      simp only [g_jin (show t < 6 by omega) (show 6 < 2 ^ 31 by omega), jg_t, g_cl (show t < 2 ^ 31 by omega), x0, x1, x_isHad hv w ht, m_isHad w ht, x_canBe hv w ht, m_canBe w ht, m_those w ht (w := 0) (by omega) 0 rfl, Option.bind_some, z4]
      rcases g_lits e (by omega) with rfl | rfl | rfl | rfl | rfl | rfl | rfl | rfl
      · have y0 : (108 : Int32) + 2 * nI t + 0 = nI (108 + 2 * t) := y 0 (by omega)
        rw [y0, g_jin (by omega) (by omega), jg_t, g_cl (by omega)]
        exact ⟨_, V, U, rfl, rfl, h⟩
      · have y1 : (108 : Int32) + 2 * nI t + 1 = nI (109 + 2 * t) := by rw [show (109 + 2 * t) = 108 + 2 * t + 1 by omega]; exact y 1 (by omega)
        rw [y1, g_jin (by omega) (by omega), jg_t, g_cl (by omega)]
        exact ⟨_, V, U, rfl, rfl, h⟩
      · cases gHad (U.1 1) t
        · exact ⟨_, V, U, rfl, rfl, h⟩
        · exact ⟨_, V, U, rfl, rfl, h⟩
      · cases gCan (U.1 1) t
        · exact ⟨_, V, U, rfl, rfl, h⟩
        · exact ⟨_, V, U, rfl, rfl, h⟩
      · exact ⟨_, V, U, rfl, rfl, h⟩
      all_goals exact absurd d2 (by decide)
theorem op_had_ok : op_had Rel := by
  intro V U h
  have w := h.wf
  have hv := h.xv
  obtain ⟨hm1, hm2, hm3⟩ := h.m
  refine ⟨nI (gSet (gHad (U.1 1)) (gM (U.1 1))), ?_, ?_, h⟩
  · refine g_up (P := fun n i => mX4_had_b4 V n (nI (gSet (gHad (U.1 1)) i)) (nI i) = some (nI (gSet (gHad (U.1 1)) (gM (U.1 1))))) (gM (U.1 1)) ?_ ?_ 2000 0 (by omega) (by omega)
    · intro n
      show mX4_had_b4 V (n + 1) _ _ = _
      unfold mX4_had_b4
      rw [hm2, if_pos (nI_le (by omega) (by omega))]
    · intro n i hi this
      show mX4_had_b4 V (n + 1) _ _ = _
      rw [gSet] at this
      unfold mX4_had_b4
      rw [hm2, if_neg (nI_ge hi (by omega)), x_isHad hv w hi, Option.bind_some]
      unfold mX4_had_b32
      rw [jl_eq, g_one i (by omega), g_or, nI_1]
      cases hc : gHad (U.1 1) i
      · rw [hc, if_neg (by decide), Nat.or_zero] at this
        exact this
      · rw [hc, if_pos rfl] at this
        exact this
  · refine g_up (P := fun n i => mX5_had_b4 U n (nI (gSet (gHad (U.1 1)) i)) (nI i) = some (nI (gSet (gHad (U.1 1)) (gM (U.1 1))))) (gM (U.1 1)) ?_ ?_ 2000 0 (by omega) (by omega)
    · intro n
      show mX5_had_b4 U (n + 1) _ _ = _
      unfold mX5_had_b4
      rw [hm1, if_pos (nI_le (by omega) (by omega))]
    · intro n i hi this
      show mX5_had_b4 U (n + 1) _ _ = _
      rw [gSet] at this
      unfold mX5_had_b4
      rw [hm1, if_neg (nI_ge hi (by omega)), m_isHad w hi, Option.bind_some]
      unfold mX5_had_b30
      rw [g_one i (by omega), g_or, nI_1]
      cases hc : gHad (U.1 1) i
      · rw [hc, if_neg (by decide), Nat.or_zero] at this
        rw [if_pos (by decide), show (0 : Int32) = nI 0 from rfl, g_or, Nat.or_zero]
        exact this
      · rw [hc, if_pos rfl] at this
        exact this
theorem op_status_ok : op_status Rel := by
  intro a1 V U h
  obtain ⟨V', U', e1, e2, h'⟩ := ref_of (-1000000001) 0 (by omega) (by decide) h
  obtain ⟨f1, f2⟩ := h.2.2.2.1
  unfold mX4_status mX5_status
  rcases f_in a1 (-1) 6 (-1) 6 (by decide) rfl with ⟨d1, d2⟩ | ⟨d1, d2, d3, d4⟩
  · rw [d1, d2, if_pos rfl, if_pos rfl, e1, e2]
    exact ⟨_, V', U', rfl, rfl, h'⟩
  · rw [d3, d4, if_neg g_10, if_neg g_10]
    by_cases hz : a1 < 0
    · have e : a1 = -1 := by
        rw [Int32.lt_iff_toInt_lt] at d1 hz
        apply Int32.toInt_inj.1
        have q1 : (-1 : Int32).toInt = -1 := by decide
        have q0 : (0 : Int32).toInt = 0 := by decide
        omega
      subst e
      rw [if_pos hz]
      refine ⟨U.1 4 0, V, U, ?_, rfl, h⟩
      show mX4_status_b32 (1992 + 8) 0 0 V = _
      unfold mX4_status_b32
      rw [f2, if_neg (by decide), jg_p (by decide)]
      unfold mX4_status_b32
      rw [if_neg (by decide), jg_p (by decide)]
      unfold mX4_status_b32
      rw [if_neg (by decide), jg_p (by decide)]
      unfold mX4_status_b32
      rw [if_neg (by decide), jg_p (by decide)]
      unfold mX4_status_b32
      rw [if_neg (by decide), jg_p (by decide)]
      unfold mX4_status_b32
      rw [if_neg (by decide), jg_p (by decide)]
      unfold mX4_status_b32
      rw [if_neg (by decide), jg_p (by decide)]
      unfold mX4_status_b32
      rw [if_pos (by decide), show (0 : Int32) + V.1 47 (Int32.toNatClampNeg 0) = V.1 47 0 from Int32.zero_add _]
      rfl
    · rw [if_neg hz]
      obtain ⟨j, -, hj, rfl⟩ := g_rng hz d2 0 6 rfl rfl (by omega) (by omega)
      rw [nI_1, g_jin (show j < 7 by omega) (by omega), g_jin (show j + 1 < 8 by omega) (by omega), jg_t, jg_t, g_cl (by omega), g_cl (by omega), f1 j (by omega)]
      exact ⟨_, V, U, rfl, rfl, h⟩
theorem op_wipe_ok : op_wipe Rel := by
  intro V U h
  obtain ⟨h1, h2, h3, h4, h5, h6⟩ := h
  refine ⟨U.1 0 8, jsI V 36 1 0, jsI U 0 8 0, ?_, rfl, ?_, ?_, ?_, ?_, ?_, ?_⟩
  · rw [← h3.1]; rfl
  · exact ReL_fr h1 (fun j a b => by rw [s1_eq, if_neg (by omega)]) rfl rfl rfl
  · exact ReK_fr h2 rfl (fun j a b => by rw [s1_eq, if_neg (by omega)]) rfl rfl rfl rfl
  · exact ⟨rfl, isN_nI (k := 0) (by omega) (by omega), fun k hk => absurd hk (Nat.not_lt_zero _)⟩
  · exact ReF_fr h4 rfl rfl
  · exact ReS_fr h5 (fun j a b => by rw [s1_eq, if_neg (by omega)]) (fun j a b => rfl) rfl rfl rfl
  · exact ReW_fr h6 rfl
theorem op_tear_ok : op_tear Rel := by
  intro V U h
  obtain ⟨h1, h2, h3, h4, h5, h6⟩ := h
  refine ⟨U.1 0 5, jsI V 0 7 0, jsI U 0 5 0, ?_, ?_, ?_, ?_, ?_, ?_, ?_, ?_⟩
  · unfold mX4_tear mX4_tear_b12
    rw [h2.1]
    rcases h2.2.1 with e | e <;> rw [e] <;> rfl
  · unfold mX5_tear
    rcases h2.2.1 with e | e <;> rw [e] <;> rfl
  · exact ReL_fr h1 (fun j a b => by rw [s1_eq, if_neg (by omega)]) rfl rfl rfl
  · exact ⟨rfl, .inl rfl, fun z => absurd z g_01⟩
  · exact ReT_fr h3 rfl rfl rfl rfl
  · exact ReF_fr h4 rfl rfl
  · exact ReS_fr h5 (fun j a b => by rw [s1_eq, if_neg (by omega)]) (fun j a b => rfl) rfl rfl rfl
  · exact ReW_fr h6 rfl
end OB
