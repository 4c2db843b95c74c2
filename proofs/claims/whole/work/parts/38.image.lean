/-! image, undo -/
section OM
variable {V U : jMem}
theorem row_eq {s s' : Nat → Int32} (h : ∀ k, k < 120 → s' k = s k) (w : WF s) : gN s' = gN s ∧ gM s' = gM s ∧ (∀ f v, f < gN s → v < 7 → gF s' f v = gF s f v) ∧ (∀ t, t < gM s → gT s' t = gT s t ∧ gR s' t = gR s t) := by
  have hn : gN s ≤ 14 := w.1.2
  have hm : gM s ≤ 6 := w.2.1.2
  refine ⟨by unfold gN; rw [h 0 (by omega)], by unfold gM; rw [h 1 (by omega)], fun f v h1 h2 => by unfold gF; exact h _ (by omega), fun t ht => ?_⟩
  unfold gT gR
  exact ⟨h _ (by omega), h _ (by omega)⟩
theorem wf_row {s s' : Nat → Int32} (h : ∀ k, k < 120 → s' k = s k) (w : WF s) : WF s' := by
  obtain ⟨e1, e2, e3, e4⟩ := row_eq h w
  obtain ⟨w0, w1, w2, w3, w4, w5, w6, w7, w8⟩ := w
  have hc : gCt (pPap s') (gN s) = gCt (pPap s) (gN s) := gCt_congr (fun i hi => by unfold pPap; rw [e3 i 5 hi (by omega)])
  unfold WF
  rw [e1, e2, hc, h 0 (by omega), h 1 (by omega), h 2 (by omega), h 3 (by omega), h 4 (by omega), h 5 (by omega), h 6 (by omega)]
  refine ⟨w0, w1, w2, w3, w4, w5, w6, fun f hf => ?_, fun t ht => ?_⟩
  · have := w7 f hf
    unfold wfF at *
    rw [e3 f 0 hf (by omega), e3 f 1 hf (by omega), e3 f 2 hf (by omega), e3 f 3 hf (by omega), e3 f 4 hf (by omega), e3 f 5 hf (by omega), e3 f 6 hf (by omega)]
    exact this
  · have := w8 t ht
    unfold wfT at *
    rw [e1, (e4 t ht).1, (e4 t ht).2]
    exact this
theorem xl_row {o r1 r2 r3 r4 r5 r6 r7 r8 r9 o' r1' r2' r3' r4' r5' r6' r7' r8' r9' : Nat → Int32} {sp ss sp' ss' : Int64} {s s' : Nat → Int32} (x : XL o r1 r2 r3 r4 r5 r6 r7 r8 r9 sp s ss) (w : WF s) (h : ∀ k, k < 120 → s' k = s k) (hs : sp' = sp) (hss : ss' = ss)
    (ho : o' 0 = o 0 ∧ o' 5 = o 5 ∧ o' 6 = o 6 ∧ o' 7 = o 7 ∧ o' 10 = o 10 ∧ o' 12 = o 12 ∧ o' 14 = o 14)
    (hr : ∀ k, k < 14 → r1' k = r1 k ∧ r2' k = r2 k ∧ r3' k = r3 k ∧ r4' k = r4 k ∧ r5' k = r5 k ∧ r6' k = r6 k) (h7 : ∀ k, k < 4 → r7' k = r7 k) (h8 : ∀ k, k < 6 → r8' k = r8 k ∧ r9' k = r9 k) : XL o' r1' r2' r3' r4' r5' r6' r7' r8' r9' sp' s' ss' := by
  obtain ⟨e1, e2, e3, e4⟩ := row_eq h w
  have hn : gN s ≤ 14 := w.1.2
  have hm : gM s ≤ 6 := w.2.1.2
  have hs3 := sets_same (s := s) (s' := s') (n := gN s) (fun i hi => ⟨e3 i 4 hi (by omega), e3 i 5 hi (by omega)⟩)
  obtain ⟨o0, o5, o6, o7, o10, o12, o14⟩ := ho
  obtain ⟨a0, a5, a6, a7, a10, asp, a12, a14, b1, b2, b3, b4⟩ := x
  unfold XL
  rw [e1, e2, hs3.1, hs3.2.1, hs3.2.2, o0, o5, o6, o7, o10, o12, o14, hs, hss, h 0 (by omega), h 1 (by omega), h 2 (by omega), h 3 (by omega), h 4 (by omega), h 5 (by omega), h 6 (by omega), h 7 (by omega), h7 0 (by omega), h7 1 (by omega), h7 2 (by omega), h7 3 (by omega)]
  refine ⟨a0, a5, a6, a7, a10, asp, a12, a14, fun f hf => ?_, fun f hf => ?_, b3, fun t ht => ?_⟩
  · obtain ⟨q1, q2, q3, q4, -, -⟩ := hr f (by omega)
    rw [q1, q2, q3, q4, e3 f 0 hf (by omega), e3 f 1 hf (by omega), e3 f 2 hf (by omega), e3 f 3 hf (by omega)]
    exact b1 f hf
  · obtain ⟨-, -, -, -, q5, q6⟩ := hr f (by omega)
    rw [q5, q6, e3 f 5 hf (by omega), e3 f 6 hf (by omega)]
    exact b2 f hf
  · rw [(h8 t (by omega)).1, (h8 t (by omega)).2, (e4 t ht).1, (e4 t ht).2]
    exact b4 t ht
theorem cpy_at (f g : Nat → Int32) (N : Int32) {n : Nat} (hN : N.toNatClampNeg = n) {k : Nat} (hk : k < n) : va_cpy f g (Int32.toNatClampNeg 0) (Int32.toNatClampNeg 0) N.toNatClampNeg k = f k := by
  subst hN
  have := pk_cpy_in (f := f) (g := g) (sp := 0) (dp := 0) (n := N.toNatClampNeg) (j := k) (Nat.zero_le _) (by omega)
  rw [show 0 + (k - 0) = k by omega] at this
  exact this
theorem m_image (U : jMem) : ∃ U', mX5_image U = some (1, U') ∧ (∀ k, k < 120 → U'.1 2 k = U.1 1 k) ∧ U'.1 0 5 = 1 ∧ (∀ a, a ≠ 5 → U'.1 0 a = U.1 0 a) ∧ (∀ j, j ≠ 0 → j ≠ 2 → U'.1 j = U.1 j) ∧ U'.2 0 4 = U.2 0 3 ∧ U'.2 0 3 = U.2 0 3 ∧ (∀ j, j ≠ 0 → U'.2 j = U.2 j) := by
  have key : ∀ d k n (W : jMem), k + d = 120 → d < n → (∀ q, q < k → W.1 2 q = U.1 1 q) → (∀ j, j ≠ 2 → W.1 j = U.1 j) → W.2 = U.2 → ∃ U', mX5_image_b2 n (nI k) W = some (1, U') ∧ (∀ k, k < 120 → U'.1 2 k = U.1 1 k) ∧ U'.1 0 5 = 1 ∧ (∀ a, a ≠ 5 → U'.1 0 a = U.1 0 a) ∧ (∀ j, j ≠ 0 → j ≠ 2 → U'.1 j = U.1 j) ∧ U'.2 0 4 = U.2 0 3 ∧ U'.2 0 3 = U.2 0 3 ∧ (∀ j, j ≠ 0 → U'.2 j = U.2 j) := by
    intro d
    induction d with
    | zero =>
      intro k n W hk hn h1 h2 h3
      obtain ⟨n, rfl⟩ : ∃ n', n = n' + 1 := ⟨n - 1, by omega⟩
      obtain rfl : k = 120 := by omega
      unfold mX5_image_b2
      rw [if_pos (show (120 : Int32) ≤ nI 120 by decide), jl_eq, jl_eq]
      refine ⟨_, rfl, fun k hk => ?_, ?_, fun a ha => ?_, fun j q1 q2 => ?_, ?_, ?_, fun j hj => ?_⟩
      · rw [s1_at, if_neg (by omega)]; exact h1 k hk
      · rw [s1_at, if_pos ⟨rfl, rfl⟩]
      · rw [s1_at, if_neg (by omega), s2_1, h2 0 (by omega)]
      · rw [s1_eq, if_neg q1, s2_1, h2 j q2]
      · rw [s1_2, s2_eq, if_pos rfl, uL_eq, if_pos rfl, h3]
      · rw [s1_2, s2_eq, if_pos rfl, uL_eq, if_neg (by omega), h3]
      · rw [s1_2, s2_eq, if_neg hj, h3]
    | succ d ih =>
      intro k n W hk hn h1 h2 h3
      obtain ⟨n, rfl⟩ : ∃ n', n = n' + 1 := ⟨n - 1, by omega⟩
      unfold mX5_image_b2
      rw [if_neg (show ¬ ((120 : Int32) ≤ nI k) from nI_ge (b := 120) (by omega) (by omega)), g_jin (show k < 120 by omega) (by omega), jg_t, jl_eq, g_cl (by omega), nI_1]
      refine ih (k + 1) n _ (by omega) (by omega) (fun q hq => ?_) (fun j hj => ?_) h3
      · rw [s1_at]
        by_cases e : q = k
        · rw [if_pos ⟨rfl, e⟩, h2 1 (by omega), e]
        · rw [if_neg (fun z => e z.2)]; exact h1 q (by omega)
      · rw [s1_eq, if_neg hj]; exact h2 j hj
  exact key 120 0 2000 U (by omega) (by omega) (fun q hq => absurd hq (Nat.not_lt_zero _)) (fun j hj => rfl) rfl
theorem m_undo (U : jMem) (hU : ¬ U.1 0 5 = 0) : ∃ U', mX5_undo U = some (U.1 2 0, U') ∧ (∀ k, k < 120 → U'.1 1 k = U.1 2 k) ∧ (∀ j, j ≠ 1 → U'.1 j = U.1 j) ∧ U'.2 0 3 = U.2 0 4 ∧ U'.2 0 4 = U.2 0 4 ∧ (∀ j, j ≠ 0 → U'.2 j = U.2 j) := by
  have key : ∀ d k n (W : jMem), k + d = 120 → d < n → (∀ q, q < k → W.1 1 q = U.1 2 q) → (∀ j, j ≠ 1 → W.1 j = U.1 j) → W.2 = U.2 → ∃ U', mX5_undo_b16 n (nI k) W = some (U.1 2 0, U') ∧ (∀ k, k < 120 → U'.1 1 k = U.1 2 k) ∧ (∀ j, j ≠ 1 → U'.1 j = U.1 j) ∧ U'.2 0 3 = U.2 0 4 ∧ U'.2 0 4 = U.2 0 4 ∧ (∀ j, j ≠ 0 → U'.2 j = U.2 j) := by
    intro d
    induction d with
    | zero =>
      intro k n W hk hn h1 h2 h3
      obtain ⟨n, rfl⟩ : ∃ n', n = n' + 1 := ⟨n - 1, by omega⟩
      obtain rfl : k = 120 := by omega
      unfold mX5_undo_b16
      rw [if_pos (show (120 : Int32) ≤ nI 120 by decide), jl_eq]
      refine ⟨jsL W 0 3 (W.2 0 4), ?_, fun k hk => ?_, fun j hj => ?_, ?_, ?_, fun j hj => ?_⟩
      · rw [s2_1, h1 0 (by omega)]
      · rw [s2_1]; exact h1 k hk
      · rw [s2_1]; exact h2 j hj
      · rw [s2_eq, if_pos rfl, uL_eq, if_pos rfl, h3]
      · rw [s2_eq, if_pos rfl, uL_eq, if_neg (by omega), h3]
      · rw [s2_eq, if_neg hj, h3]
    | succ d ih =>
      intro k n W hk hn h1 h2 h3
      obtain ⟨n, rfl⟩ : ∃ n', n = n' + 1 := ⟨n - 1, by omega⟩
      unfold mX5_undo_b16
      rw [if_neg (show ¬ ((120 : Int32) ≤ nI k) from nI_ge (b := 120) (by omega) (by omega)), g_jin (show k < 120 by omega) (by omega), jg_t, jl_eq, g_cl (by omega), nI_1]
      refine ih (k + 1) n _ (by omega) (by omega) (fun q hq => ?_) (fun j hj => ?_) h3
      · rw [s1_at]
        by_cases e : q = k
        · rw [if_pos ⟨rfl, e⟩, h2 2 (by omega), e]
        · rw [if_neg (fun z => e z.2)]; exact h1 q (by omega)
      · rw [s1_eq, if_neg hj]; exact h2 j hj
  unfold mX5_undo
  rw [if_neg hU]
  exact key 120 0 2000 U (by omega) (by omega) (fun q hq => absurd hq (Nat.not_lt_zero _)) (fun j hj => rfl) rfl
end OM
