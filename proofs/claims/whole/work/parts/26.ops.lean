/-! calls that answer and change nothing else -/
section OA
variable {V U : jMem}
theorem g_lits {a : Int32} {j : Nat} (e : a = nI j) (hj : j ≤ 7) : a = 0 ∨ a = 1 ∨ a = 2 ∨ a = 3 ∨ a = 4 ∨ a = 5 ∨ a = 6 ∨ a = 7 := by
  have : j = 0 ∨ j = 1 ∨ j = 2 ∨ j = 3 ∨ j = 4 ∨ j = 5 ∨ j = 6 ∨ j = 7 := by omega
  rcases this with rfl | rfl | rfl | rfl | rfl | rfl | rfl | rfl
  · exact .inl e
  · exact .inr (.inl e)
  · exact .inr (.inr (.inl e))
  · exact .inr (.inr (.inr (.inl e)))
  · exact .inr (.inr (.inr (.inr (.inl e))))
  · exact .inr (.inr (.inr (.inr (.inr (.inl e)))))
  · exact .inr (.inr (.inr (.inr (.inr (.inr (.inl e))))))
  · exact .inr (.inr (.inr (.inr (.inr (.inr (.inr e))))))
theorem g_out {a k : Int32} {lo hi : Int32} (h : mX4_isWithin a lo hi = 0) (hk : mX4_isWithin k lo hi = 1) : ¬ a = k := fun e => by
  rw [e, hk] at h; exact g_10 h
theorem x_holder (h : XLv V (U.1 1)) (w : WF (U.1 1)) {f : Nat} (hf : f < gN (U.1 1)) : mX0_holderOf (nI f) V = gF (U.1 1) f 4 := by
  have hn := h.n w
  unfold mX0_holderOf
  rw [h.ours, h.lost]
  unfold gOurs
  rw [x_isIn (Nat.lt_of_lt_of_le (gSet_14 hn.2) (by decide)) (by omega), x_isIn (Nat.lt_of_lt_of_le (gSet_14 hn.2) (by decide)) (by omega), gSet_bit, gSet_bit, decide_eq_true hf, Bool.true_and, Bool.true_and]
  unfold pOurs pLost
  rcases wf_is (w.f' hf) with e | e | e <;> rw [e] <;> decide
theorem op_of_ok : op_of Rel := by
  intro a1 a2 V U h
  obtain ⟨V', U', e1, e2, h'⟩ := ref_of (-1000000001) 0 (by omega) (by decide) h
  have w := h.wf
  have hv := h.xv
  have hn := h.n
  have ho := gOurs_lt w
  unfold mX4_of mX5_of mX5_of_b21
  rcases f_ix h a1 with ⟨c1, c2⟩ | ⟨f, hf, rfl, c1, c2⟩
  · rw [if_pos c1, if_pos c2, e1, e2]; exact ⟨_, V', U', rfl, rfl, h'⟩
  · rw [c1, c2, if_neg g_10, if_neg g_10]
    rcases f_in a2 0 7 0 7 rfl rfl with ⟨d1, d2⟩ | ⟨d1, d2, d3, d4⟩
    · rw [d2, if_pos rfl, if_neg (g_out d1 (k := 0) (by decide)), if_neg (g_out d1 (k := 1) (by decide)), if_neg (g_out d1 (k := 2) (by decide)), if_neg (g_out d1 (k := 3) (by decide)), if_neg (g_out d1 (k := 4) (by decide)), if_neg (g_out d1 (k := 5) (by decide)), if_neg (g_out d1 (k := 6) (by decide)), if_neg (g_out d1 (k := 7) (by decide)), e1, e2]
      exact ⟨_, V', U', rfl, rfl, h'⟩
    · rw [d4, if_neg g_10]
      obtain ⟨j, -, hj, e⟩ := g_rng d1 d2 0 7 rfl rfl (by omega) (by omega)
      obtain ⟨x0, x1, x2, x3⟩ := hv.f hf
      have hy := (w.f' hf).2.2.1
      have hh := gHeard_le (s := U.1 1) f (gOurs (U.1 1))
      have hyw := hy.2
      simp only [hv.ours, x_now hv w hf, x_heard hv w (show f < 14 by omega), m_now w hf, m_ours w, Option.bind_some, m_heard w (show f < 14 by omega) (show gOurs (U.1 1) < 2 ^ 31 by omega), m_ware w hf (show gOurs (U.1 1) < 2 ^ 31 by omega), x_holder hv w hf, g_jin (show f < 14 by omega) (show 14 < 2 ^ 31 by omega), jg_t, g_cl (show f < 2 ^ 31 by omega), x0, x1, x2, x3]
      rcases g_lits e hj with rfl | rfl | rfl | rfl | rfl | rfl | rfl | rfl
      · exact ⟨_, V, U, rfl, by rw [m_has0 (by omega)]; rfl, h⟩
      · exact ⟨_, V, U, rfl, by rw [m_has1 (by omega)]; rfl, h⟩
      · exact ⟨_, V, U, rfl, by rw [m_has2 (by omega)]; rfl, h⟩
      · exact ⟨_, V, U, rfl, by rw [m_has3 (by omega)]; rfl, h⟩
      · exact ⟨_, V, U, rfl, by rw [m_has4 (by omega)]; rfl, h⟩
      · exact ⟨_, V, U, rfl, rfl, h⟩
      · exact ⟨_, V, U, rfl, rfl, h⟩
      · refine ⟨nI (gWare (nn (gF (U.1 1) f 2)) (gHeard (U.1 1) f (gOurs (U.1 1)))), V, U, ?_, rfl, h⟩
        have := x_ware (y := nn (gF (U.1 1) f 2)) (h := gHeard (U.1 1) f (gOurs (U.1 1))) (by omega) (by omega)
        rw [← this, ← hy.1]; rfl
theorem op_asks_ok : op_asks Rel := by
  intro a1 a2 V U h
  obtain ⟨V', U', e1, e2, h'⟩ := ref_of (-1000000001) 0 (by omega) (by decide) h
  unfold mX4_asks mX5_asks mX4_asks_b22 mX5_asks_b30
  rcases f_ix h a1 with ⟨c1, c2⟩ | ⟨f, hf, rfl, c1, c2⟩
  · rw [if_pos c1, if_pos c2, e1, e2]; exact ⟨_, V', U', rfl, rfl, h'⟩
  · rw [c1, c2, if_neg g_10, if_neg g_10]
    rcases f_in a2 0 16383 0 16383 rfl rfl with ⟨d1, d2⟩ | ⟨d1, d2, d3, d4⟩
    · rw [d1, d2, if_pos rfl, if_pos rfl, e1, e2]
      exact ⟨_, V', U', rfl, rfl, h'⟩
    · rw [d3, d4, if_neg g_10, if_neg g_10]
      obtain ⟨j, -, hj, rfl⟩ := g_rng d1 d2 0 16383 rfl rfl (by omega) (by omega)
      rw [x_by h.xv h.wf hf, m_by h.wf hf (by omega)]
      exact ⟨_, V, U, rfl, rfl, h⟩
def gUnder (k j : Nat) : Bool := decide (k = j ∨ j = 0 ∨ (j = 2 ∧ k = 4) ∨ (j = 3 ∧ k = 5))
theorem x_kind0 (V W : jMem) : ∀ n a b c, mX4_isOfKind_b4 V n a b c = mX4_isOfKind_b4 W n a b c := by
  intro n
  induction n with
  | zero => intro a b c; rfl
  | succ n ih => intro a b c; unfold mX4_isOfKind_b4; rw [ih]
theorem x_kind1 : ∀ k, k < 6 → ∀ j, j < 6 → mX4_isOfKind_b4 (fun _ _ => 0, fun _ _ => 0) 20 (nI j) (nI k) 0 = some (if gUnder k j then 1 else 0) := by decide +kernel
theorem x_kind2 {V : jMem} : ∀ n a b c r, mX4_isOfKind_b4 V n a b c = some r → mX4_isOfKind_b4 V (n + 1) a b c = some r := by
  intro n
  induction n with
  | zero => intro a b c r h; exact absurd h (by unfold mX4_isOfKind_b4; exact fun z => nomatch z)
  | succ n ih =>
    intro a b c r h
    unfold mX4_isOfKind_b4 at h
    unfold mX4_isOfKind_b4
    split
    · rename_i z; rw [if_pos z] at h; exact h
    · rename_i z; rw [if_neg z] at h
      split
      · rename_i z; rw [if_pos z] at h; exact h
      · rename_i z; rw [if_neg z] at h
        split
        · rename_i z; rw [if_pos z] at h; exact h
        · rename_i z; rw [if_neg z] at h
          obtain ⟨h1, h2⟩ := jg_of h
          rw [jg_p h1]
          exact ih _ _ _ _ h2
theorem x_kind3 {V : jMem} {n a b c r} (m : Nat) (h : mX4_isOfKind_b4 V n a b c = some r) : mX4_isOfKind_b4 V (n + m) a b c = some r := by
  induction m with
  | zero => exact h
  | succ m ih => exact x_kind2 _ _ _ _ _ ih
theorem x_kind {V : jMem} {k j : Nat} (hk : k ≤ 5) (hj : j ≤ 5) : mX4_isOfKind (nI k) (nI j) V = some (if gUnder k j then 1 else 0) := by
  unfold mX4_isOfKind
  rw [x_kind0 V (fun _ _ => 0, fun _ _ => 0)]
  exact x_kind3 (n := 20) 1980 (x_kind1 k (by omega) j (by omega))
theorem op_as_ok : op_as Rel := by
  intro a1 a2 V U h
  obtain ⟨V', U', e1, e2, h'⟩ := ref_of (-1000000001) 0 (by omega) (by decide) h
  obtain ⟨V3, U3, e3, e4, h3⟩ := ref_of (-1000000003) 2 (by omega) (by decide) h
  have hn := h.n
  unfold mX4_as mX5_as mX4_as_b18 mX5_as_b21 mX4_isKind
  rcases f_ix h a1 with ⟨c1, c2⟩ | ⟨f, hf, rfl, c1, c2⟩
  · rw [if_pos c1, if_pos c2, e1, e2]; exact ⟨_, V', U', rfl, rfl, h'⟩
  · rw [c1, c2, if_neg g_10, if_neg g_10]
    rcases f_in a2 0 5 0 5 rfl rfl with ⟨d1, d2⟩ | ⟨d1, d2, d3, d4⟩
    · rw [d1, d2, if_pos rfl, if_pos rfl, e1, e2]
      exact ⟨_, V', U', rfl, rfl, h'⟩
    · rw [d3, d4, if_neg g_10, if_neg g_10]
      obtain ⟨j, -, hj, rfl⟩ := g_rng d1 d2 0 5 rfl rfl (by omega) (by omega)
      have hk := (h.wf.f hf).1
      have hk2 := hk.2
      rw [g_jin (show f < 14 by omega) (by omega), jg_t, g_cl (by omega), (h.xv.f hf).1, m_has0 (by omega), Option.bind_some, hk.1, x_kind hk2 hj, Option.bind_some]
      generalize nn (gF (U.1 1) f 0) = k at *
      have key : (if nI k = nI j then mX5_as_b64 (nI f) U else if nI j = 0 then mX5_as_b64 (nI f) U else if nI j = 2 then if nI k = 4 then mX5_as_b64 (nI f) U else mX5_as_b54 (nI f) (nI j) (nI k) U else mX5_as_b54 (nI f) (nI j) (nI k) U) = mX5_as_b69 (nI f) (if gUnder k j then 1 else 0) U := by
        have q : ∀ a b, a < 100 → b < 100 → (nI a = nI b ↔ a = b) := fun a b ha hb => nI_eq (by omega) (by omega)
        unfold mX5_as_b54 mX5_as_b64 mX5_as_b68 gUnder
        rw [show (0 : Int32) = nI 0 from rfl, show (2 : Int32) = nI 2 from rfl, show (3 : Int32) = nI 3 from rfl, show (4 : Int32) = nI 4 from rfl, show (5 : Int32) = nI 5 from rfl]
        simp only [q k j (by omega) (by omega), q j 0 (by omega) (by omega), q j 2 (by omega) (by omega), q j 3 (by omega) (by omega), q k 4 (by omega) (by omega), q k 5 (by omega) (by omega), decide_eq_true_eq]
        by_cases z1 : k = j
        · simp [z1]
        by_cases z2 : j = 0
        · simp [z1, z2]
        by_cases z3 : j = 2
        · by_cases z4 : k = 4
          · simp [z3, z4]
          · simp [z3, z4, show ¬ k = 2 by omega]
        by_cases z4 : j = 3
        · by_cases z5 : k = 5
          · simp [z4, z5]
          · simp [z4, z5, show ¬ k = 3 by omega]
        · simp [z1, z2, z3, z4]
      rw [key]
      unfold mX5_as_b69
      by_cases hu : gUnder k j = true
      · rw [if_pos hu, if_neg g_10, if_neg g_10, x_now h.xv h.wf hf, m_now h.wf hf]
        exact ⟨_, V, U, rfl, rfl, h⟩
      · rw [if_neg hu, if_pos rfl, if_pos rfl, e3, e4]
        exact ⟨_, V3, U3, rfl, rfl, h3⟩
theorem op_paperOf_ok : op_paperOf Rel := by
  intro a1 a2 V U h
  obtain ⟨V', U', e1, e2, h'⟩ := ref_of (-1000000001) 0 (by omega) (by decide) h
  obtain ⟨V4, U4, e3, e4, h4⟩ := ref_of (-1000000004) 3 (by omega) (by decide) h
  have hn := h.n
  unfold mX4_paperOf mX5_paperOf mX4_paperOf_b20 mX5_paperOf_b19
  rcases f_ix h a1 with ⟨c1, c2⟩ | ⟨f, hf, rfl, c1, c2⟩
  · rw [if_pos c1, if_pos c2, e1, e2]; exact ⟨_, V', U', rfl, rfl, h'⟩
  · rw [c1, c2, if_neg g_10, if_neg g_10]
    rcases f_in a2 0 1 0 1 rfl rfl with ⟨d1, d2⟩ | ⟨d1, d2, d3, d4⟩
    · rw [d1, d2, if_pos rfl, if_pos rfl, e1, e2]
      exact ⟨_, V', U', rfl, rfl, h'⟩
    · rw [d3, d4, if_neg g_10, if_neg g_10]
      obtain ⟨j, -, hj, e⟩ := g_rng d1 d2 0 1 rfl rfl (by omega) (by omega)
      have hp := (h.wf.f hf).2.2.2.2.2.1
      rw [x_pap h.xv h.wf hf, m_has5 (by omega), Option.bind_some, g_jin (show f < 14 by omega) (by omega), jg_t, jg_t, g_cl (by omega)]
      by_cases z : gF (U.1 1) f 5 < 0
      · have z2 : ¬ (0 ≤ gF (U.1 1) f 5) := by
          rw [Int32.le_iff_toInt_le]; rw [Int32.lt_iff_toInt_lt] at z; omega
        have z3 : pPap (U.1 1) f = false := decide_eq_false (fun y => y z)
        rw [z3, if_neg (by decide : ¬ (false = true)), if_pos rfl, if_neg z2, e3, e4]
        exact ⟨_, V4, U4, rfl, rfl, h4⟩
      · have z2 : (0 ≤ gF (U.1 1) f 5) := by
          rw [Int32.le_iff_toInt_le]; rw [Int32.lt_iff_toInt_lt] at z; omega
        have z3 : pPap (U.1 1) f = true := decide_eq_true z
        rw [z3, if_pos rfl, if_neg g_10, if_pos z2]
        obtain ⟨sp, hx⟩ := h.xv
        obtain ⟨y1, y2⟩ := hx.2.2.2.2.2.2.2.2.2.1 f hf z
        rw [y1, y2]
        rcases g_lits e (by omega) with rfl | rfl | rfl | rfl | rfl | rfl | rfl | rfl
        · exact ⟨_, V, U, rfl, by rw [show (5 : Int32) + 0 = 5 from rfl, m_has5 (by omega)]; rfl, h⟩
        · exact ⟨_, V, U, rfl, by rw [show (5 : Int32) + 1 = 6 from rfl, m_has6 (by omega)]; rfl, h⟩
        all_goals exact absurd d2 (by decide)
end OA
