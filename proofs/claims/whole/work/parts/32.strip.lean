/-! a new strip; the tape's bytes -/
section OG
variable {V U V' U' : jMem}
theorem g_n32 (a : Int32) : ∃ m, m < 2 ^ 32 ∧ a = nI m := ⟨a.toBitVec.toNat, a.toBitVec.isLt, by
  apply Int32.toBitVec_inj.1
  show a.toBitVec = BitVec.ofNat 32 a.toBitVec.toNat
  simp⟩
theorem g_z32 {m : Nat} (h : m < 2 ^ 32) (e : nI m = 0) : m = 0 := by
  have := pk_tn h
  rw [e] at this
  exact this.symm
theorem strip_cond (a : Int32) {n : Nat} (hn : n ≤ 14) : (∃ m, m < 2 ^ n ∧ a = nI m ∧ (a &&& (nI (2 ^ n - 1) ^^^ -1)) = 0 ∧ ¬ a < 0 ∧ ¬ nI (2 ^ n) ≤ a) ∨ (¬ (a &&& (nI (2 ^ n - 1) ^^^ -1)) = 0 ∧ (a < 0 ∨ nI (2 ^ n) ≤ a)) := by
  have hp : (2 : Nat) ^ n ≤ 2 ^ 14 := Nat.pow_le_pow_right (by decide) hn
  have back : (a &&& (nI (2 ^ n - 1) ^^^ -1)) = 0 → ∃ m, m < 2 ^ n ∧ a = nI m := by
    intro h
    obtain ⟨m, hm, rfl⟩ := g_n32 a
    rw [g_diff] at h
    have h2 := g_z32 (gDiff_lt _ hm) h
    refine ⟨m, ?_, rfl⟩
    apply Nat.lt_pow_two_of_testBit
    intro i hi
    have := gDiff_bit m (2 ^ n - 1) i
    rw [h2, Nat.zero_testBit, Nat.testBit_two_pow_sub_one, decide_eq_false (by omega)] at this
    simpa using this.symm
  rcases pk_ix a (n := 2 ^ n) (by omega) with h | h | ⟨m, hm, rfl⟩
  · right
    refine ⟨fun z => ?_, .inl h⟩
    obtain ⟨m, hm, rfl⟩ := back z
    exact nI_pos (by omega) h
  · right
    refine ⟨fun z => ?_, .inr h⟩
    obtain ⟨m, hm, rfl⟩ := back z
    exact nI_ge hm (by omega) h
  · left
    refine ⟨m, hm, rfl, ?_, nI_pos (by omega), nI_ge hm (by omega)⟩
    rw [g_diff, show (0 : Int32) = nI 0 from rfl]
    congr 1
    refine g_ext (gDiff_lt _ hm) (Nat.two_pow_pos n) (fun i hi => ?_)
    rw [gDiff_bit, Nat.testBit_two_pow_sub_one, decide_eq_true hi, Nat.zero_testBit, Bool.not_true, Bool.and_false]
theorem strip_ReL (h : ReL V U) (hm : gM (U.1 1) < 6) (se ro : Int32) (hse : isN se (2 ^ gN (U.1 1) - 1)) (hro : isN ro 9999)
    (m1 : U'.1 1 1 = nI (gM (U.1 1) + 1)) (mo : ∀ k, k ≠ 1 → k ≠ 108 + 2 * gM (U.1 1) → k ≠ 109 + 2 * gM (U.1 1) → U'.1 1 k = U.1 1 k)
    (mf : U'.1 1 (108 + 2 * gM (U.1 1)) = se ∧ U'.1 1 (109 + 2 * gM (U.1 1)) = ro) (ms : U'.2 0 3 = U.2 0 3)
    (x0 : V'.1 1 14 = nI (gM (U.1 1) + 1)) (xo : ∀ a, a ≠ 14 → V'.1 1 a = V.1 1 a) (xs : V'.2 1 11 = V.2 1 11)
    (x2 : V'.1 9 (gM (U.1 1)) = se ∧ V'.1 10 (gM (U.1 1)) = ro)
    (xf : ∀ g, g < gM (U.1 1) → V'.1 9 g = V.1 9 g ∧ V'.1 10 g = V.1 10 g)
    (xr : ∀ j, 2 ≤ j → j ≤ 8 → V'.1 j = V.1 j) : ReL V' U' := by
  obtain ⟨hx, w0, w1, w2, w3, w4, w5, w6, w7, w8⟩ := h
  have hn14 : gN (U.1 1) ≤ 14 := w0.2
  have gn : gN (U'.1 1) = gN (U.1 1) := by unfold gN; rw [mo 0 (by omega) (by omega) (by omega)]
  have gm : gM (U'.1 1) = gM (U.1 1) + 1 := by
    show nn (U'.1 1 1) = _
    rw [m1, nn_nI (by omega)]
  have gf : ∀ f v, f < gN (U.1 1) → v < 7 → gF (U'.1 1) f v = gF (U.1 1) f v := fun f v h1 h2 => by unfold gF; exact mo _ (by omega) (by omega) (by omega)
  have hs := sets_same (s := U.1 1) (s' := U'.1 1) (n := gN (U.1 1)) (fun i hi => ⟨gf i 4 hi (by omega), gf i 5 hi (by omega)⟩)
  have hc : gCt (pPap (U'.1 1)) (gN (U.1 1)) = gCt (pPap (U.1 1)) (gN (U.1 1)) := gCt_congr (fun i hi => by unfold pPap; rw [gf i 5 hi (by omega)])
  obtain ⟨a0, a5, a6, a7, a10, asp, a12, a14, b1, b2, b3, b4⟩ := hx
  refine ⟨?_, ?_⟩
  · unfold XL
    rw [gn, gm, hs.1, hs.2.1, hs.2.2, x0, m1, xs, ms, xo 0 (by omega), xo 5 (by omega), xo 6 (by omega), xo 7 (by omega), xo 10 (by omega), xo 12 (by omega), mo 0 (by omega) (by omega) (by omega), mo 2 (by omega) (by omega) (by omega), mo 7 (by omega) (by omega) (by omega), mo 3 (by omega) (by omega) (by omega), mo 4 (by omega) (by omega) (by omega), mo 5 (by omega) (by omega) (by omega), mo 6 (by omega) (by omega) (by omega), xr 2 (by omega) (by omega), xr 3 (by omega) (by omega), xr 4 (by omega) (by omega), xr 5 (by omega) (by omega), xr 6 (by omega) (by omega), xr 7 (by omega) (by omega), xr 8 (by omega) (by omega)]
    refine ⟨a0, a5, a6, a7, a10, asp, a12, rfl, ?_, ?_, b3, ?_⟩
    · intro f hf
      rw [gf f 0 hf (by omega), gf f 1 hf (by omega), gf f 2 hf (by omega), gf f 3 hf (by omega)]
      exact b1 f hf
    · intro f hf
      rw [gf f 5 hf (by omega), gf f 6 hf (by omega)]
      exact b2 f hf
    · intro t ht
      unfold gT gR
      by_cases e : t = gM (U.1 1)
      · subst e
        rw [mf.1, mf.2]; exact x2
      · have ht' : t < gM (U.1 1) := by omega
        rw [mo _ (by omega) (by omega) (by omega), mo _ (by omega) (by omega) (by omega), (xf t ht').1, (xf t ht').2]
        exact b4 t ht'
  · unfold WF
    rw [gn, gm, m1, hc, mo 0 (by omega) (by omega) (by omega), mo 2 (by omega) (by omega) (by omega), mo 3 (by omega) (by omega) (by omega), mo 4 (by omega) (by omega) (by omega), mo 5 (by omega) (by omega) (by omega), mo 6 (by omega) (by omega) (by omega)]
    refine ⟨w0, isN_nI (by omega) (by omega), w2, w3, w4, w5, w6, ?_, ?_⟩
    · intro f hf
      have := w7 f hf
      unfold wfF at *
      rw [gf f 0 hf (by omega), gf f 1 hf (by omega), gf f 2 hf (by omega), gf f 3 hf (by omega), gf f 4 hf (by omega), gf f 5 hf (by omega), gf f 6 hf (by omega)]
      exact this
    · intro t ht
      unfold wfT gT gR
      rw [gn]
      by_cases e : t = gM (U.1 1)
      · subst e
        rw [mf.1, mf.2]; exact ⟨hse, hro⟩
      · have ht' : t < gM (U.1 1) := by omega
        rw [mo _ (by omega) (by omega) (by omega), mo _ (by omega) (by omega) (by omega)]
        exact w8 t ht'
def xStr (m : Nat) (se ro : Int32) (V : jMem) : jMem := jsI (jsI (jsI V 9 m se) 10 m ro) 1 14 (V.1 1 14 + 1)
def mStr (m : Nat) (se ro : Int32) (U : jMem) : jMem := jsI (jsI (jsI U 1 (108 + 2 * m) se) 1 (109 + 2 * m) ro) 1 1 (U.1 1 1 + 1)
theorem x_str (h : ReL V U) (hm : gM (U.1 1) < 6) (se ro : Int32) : mX0_addStrip se ro V = some (nI (gM (U.1 1)), xStr (gM (U.1 1)) se ro V) := by
  have e : V.1 1 14 = nI (gM (U.1 1)) := h.1.2.2.2.2.2.2.2.1.trans h.2.2.1.1
  unfold mX0_addStrip
  rw [e, g_jin hm (by omega), jg_t, g_cl (by omega)]
  rfl
theorem m_str (h : ReL V U) (hm : gM (U.1 1) < 6) (se ro : Int32) : mX5_comesStrip se ro U = some (mStr (gM (U.1 1)) se ro U) := by
  have e : U.1 1 1 = nI (gM (U.1 1)) := h.2.2.1.1
  have y : ∀ m, (108 : Int32) + 2 * nI m = nI (108 + 2 * m) := by
    intro m
    show nI 108 + nI 2 * nI m = _
    rw [pk_mul, nI_add]
  have p1 : ∀ (W : jMem) (k : Nat) (x : Int32), 1 < k → (jsI W 1 k x).1 1 1 = W.1 1 1 := fun W k x hk => by rw [s1_at, if_neg (by omega)]
  have y2 : ∀ m, nI (108 + 2 * m) + 1 = nI (109 + 2 * m) := fun m => by rw [nI_1]; congr 1; omega
  unfold mX5_comesStrip
  rw [e, y, g_jin (show 108 + 2 * gM (U.1 1) < 120 by omega) (by omega), jg_t, jl_eq, g_cl (by omega), p1 _ _ _ (by omega), e, y, y2, g_jin (show 109 + 2 * gM (U.1 1) < 120 by omega) (by omega), jg_t, jl_eq, jl_eq, g_cl (by omega), p1 _ _ _ (by omega), p1 _ _ _ (by omega)]
  rfl
theorem str_ok (h : Rel V U) (hm : gM (U.1 1) < 6) {se ro : Nat} (hs : se < 2 ^ gN (U.1 1)) (hr : ro ≤ 9999) : Rel (xStr (gM (U.1 1)) (nI se) (nI ro) V) (mStr (gM (U.1 1)) (nI se) (nI ro) U) := by
  have e := h.m
  have hp : (2 : Nat) ^ gN (U.1 1) ≤ 2 ^ 14 := Nat.pow_le_pow_right (by decide) h.n.2.2
  refine Rel_land h (strip_ReL h.1 hm (nI se) (nI ro) (isN_nI (by omega) (by omega)) (isN_nI hr (by omega)) ?_ ?_ ⟨?_, ?_⟩ rfl ?_ ?_ rfl ⟨?_, ?_⟩ ?_ ?_) ?_ (fun j hj => rfl) ?_ rfl rfl
  · unfold mStr; rw [s1_at, if_pos ⟨rfl, rfl⟩, e.1, nI_1]
  · intro k h1 h2 h3
    unfold mStr
    rw [s1_at, if_neg (by omega), s1_at, if_neg (by omega), s1_at, if_neg (by omega)]
  · unfold mStr
    rw [s1_at, if_neg (by omega), s1_at, if_neg (by omega), s1_at, if_pos (by omega)]
  · unfold mStr
    rw [s1_at, if_neg (by omega), s1_at, if_pos (by omega)]
  · unfold xStr; rw [s1_at, if_pos ⟨rfl, rfl⟩, e.2.1, nI_1]
  · intro a ha
    unfold xStr
    rw [s1_at, if_neg (by omega), s1_at, if_neg (by omega), s1_at, if_neg (by omega)]
  · unfold xStr
    rw [s1_at, if_neg (by omega), s1_at, if_neg (by omega), s1_at, if_pos (by omega)]
  · unfold xStr
    rw [s1_at, if_neg (by omega), s1_at, if_pos (by omega)]
  · intro g hg
    unfold xStr
    rw [s1_at, if_neg (by omega), s1_at, if_neg (by omega), s1_at, if_neg (by omega), s1_at, if_neg (by omega), s1_at, if_neg (by omega), s1_at, if_neg (by omega)]
    exact ⟨rfl, rfl⟩
  · intro j h1 h2
    unfold xStr
    rw [s1_eq, if_neg (by omega), s1_eq, if_neg (by omega), s1_eq, if_neg (by omega)]
  · intro j hj
    unfold xStr
    rw [s1_eq, if_neg (by omega), s1_eq, if_neg (by omega), s1_eq, if_neg (by omega)]
  · intro j hj
    unfold mStr
    rw [s1_eq, if_neg (by omega), s1_eq, if_neg (by omega), s1_eq, if_neg (by omega)]
theorem op_strip_ok : op_strip Rel := by
  intro a1 a2 V U h
  obtain ⟨V', U', e1, e2, h'⟩ := ref_of (-1000000001) 0 (by omega) (by decide) h
  obtain ⟨V2, U2, e3, e4, h2⟩ := ref_of (-1000000002) 1 (by omega) (by decide) h
  have hn := h.n
  have hm := h.m
  have h1 : 1 ≤ 2 ^ gN (U.1 1) := Nat.one_le_two_pow
  have hs : nI (2 ^ gN (U.1 1)) - 1 = nI (2 ^ gN (U.1 1) - 1) := pk_sub (b := 1) h1
  unfold mX4_strip mX5_strip mX4_strip_b25 mX5_strip_b28 mX0_allFields
  rw [hn.1, hn.2.1, g_one _ (by omega), hs]
  rcases strip_cond a1 hn.2.2 with ⟨se, hse, rfl, c1, c2, c3⟩ | ⟨c1, c2⟩
  · rw [if_pos c1, if_neg c2, if_neg c3]
    rcases f_in a2 0 9999 0 9999 rfl rfl with ⟨d1, d2⟩ | ⟨d1, d2, d3, d4⟩
    · rw [d1, d2, if_pos rfl, if_pos rfl, e1, e2]
      exact ⟨_, V', U', rfl, rfl, h'⟩
    · rw [d3, d4, if_neg g_10, if_neg g_10]
      obtain ⟨ro, -, hro, rfl⟩ := g_rng d1 d2 0 9999 rfl rfl (by omega) (by omega)
      have q1 : (V.1 1 14 < 6) ↔ gM (U.1 1) < 6 := by rw [hm.2.1]; exact nI_ltI (b := 6) (by omega) (by omega)
      have q2 : (U.1 1 1 = 6) ↔ gM (U.1 1) = 6 := by rw [hm.1]; exact nI_eq (b := 6) (by omega) (by omega)
      simp only [q1, q2]
      by_cases hz : gM (U.1 1) < 6
      · rw [if_pos hz, if_neg (by omega), x_str h.1 hz, m_str h.1 hz]
        refine ⟨nI (gM (U.1 1)), _, _, rfl, ?_, str_ok h hz hse hro⟩
        show some (_, _) = _
        have : (mStr (gM (U.1 1)) (nI se) (nI ro) U).1 1 1 = nI (gM (U.1 1) + 1) := by
          unfold mStr; rw [s1_at, if_pos ⟨rfl, rfl⟩, hm.1, nI_1]
        rw [this, show nI (gM (U.1 1) + 1) - 1 = nI (gM (U.1 1)) from nI_pred _]
      · rw [if_neg hz, if_pos (by omega), e3, e4]
        exact ⟨_, V2, U2, rfl, rfl, h2⟩
  · rw [if_neg c1, e1, e2]
    refine ⟨_, V', U', rfl, ?_, h'⟩
    rcases c2 with c2 | c2
    · rw [if_pos c2]; rfl
    · by_cases z : a1 < 0
      · rw [if_pos z]; rfl
      · rw [if_neg z, if_pos c2]; rfl
end OG
