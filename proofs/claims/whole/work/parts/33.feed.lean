/-! the tape's bytes -/
def bt (x : Int32) (i : Nat) : Bool := x.toBitVec.getLsbD i
theorem b_ext {x y : Int32} (h : ∀ i, i < 32 → bt x i = bt y i) : x = y := Int32.toBitVec_inj.mp (BitVec.eq_of_getLsbD_eq (fun i hi => h i hi))
theorem b_and (x y : Int32) (i : Nat) : bt (x &&& y) i = (bt x i && bt y i) := by unfold bt; rw [Int32.toBitVec_and, BitVec.getLsbD_and]
theorem b_255 : ∀ i, i < 32 → bt 255 i = decide (i < 8) := by decide +kernel
theorem b_ushr (n : Nat) (hn : n < 32) (x : Int32) (i : Nat) : bt ((x.toUInt32 >>> ((nI n).toUInt32 &&& Int32.toUInt32 31)).toInt32) i = bt x (n + i) := by
  show (x.toUInt32 >>> ((nI n).toUInt32 &&& Int32.toUInt32 31)).toBitVec.getLsbD i = x.toUInt32.toBitVec.getLsbD (n + i)
  rw [UInt32.toBitVec_shiftRight]
  show (x.toUInt32.toBitVec >>> (((nI n).toUInt32 &&& Int32.toUInt32 31).toBitVec % 32).toNat).getLsbD i = _
  rw [g_umod n hn, BitVec.getLsbD_ushiftRight]
theorem b_sshr (n : Nat) (hn : n < 32) (x : Int32) {i : Nat} (hi : i < 32) : bt (x >>> (nI n &&& 31)) i = if n + i < 32 then bt x (n + i) else bt x 31 := by
  unfold bt
  rw [Int32.toBitVec_shiftRight]
  show (x.toBitVec.sshiftRight ((nI n &&& 31).toBitVec.smod 32).toNat).getLsbD i = _
  rw [g_smod n hn, BitVec.getLsbD_sshiftRight, BitVec.msb_eq_getLsbD_last]
  simp [hi]
theorem g_byte (x : Int32) {k : Nat} (hk : k < 4) : ∃ b, b ≤ 255 ∧ ((Int32.toUInt32 x >>> (Int32.toUInt32 (8 * nI k) &&& Int32.toUInt32 31)).toInt32) &&& 255 = nI b ∧ (x >>> ((8 * nI k) &&& 31)) &&& 255 = nI b := by
  have e8 : (8 : Int32) * nI k = nI (8 * k) := pk_mul 8 k
  have e : ((Int32.toUInt32 x >>> (Int32.toUInt32 (8 * nI k) &&& Int32.toUInt32 31)).toInt32) &&& 255 = (x >>> ((8 * nI k) &&& 31)) &&& 255 := by
    rw [e8]
    apply b_ext
    intro i hi
    rw [b_and, b_and, b_255 i hi]
    by_cases h : i < 8
    · rw [b_ushr _ (by omega), b_sshr _ (by omega) x hi, if_pos (by omega)]
    · rw [decide_eq_false h, Bool.and_false, Bool.and_false]
  obtain ⟨b, hb, h2⟩ := pk_andE (x >>> ((8 * nI k) &&& 31)) (m := 255) 8 (by decide)
  exact ⟨b, by omega, e.trans h2, h2⟩
section OH
variable {V U : jMem}
theorem feed_step (h : Rel V U) {b : Nat} (hs : nn (U.1 0 8) < 120) (hb : b ≤ 255) : Rel (jsI (jsI V 37 (nn (U.1 0 8)) (nI b)) 36 1 (nI (nn (U.1 0 8) + 1))) (jsI (jsI U 5 (nn (U.1 0 8)) (nI b)) 0 8 (nI (nn (U.1 0 8) + 1))) := by
  obtain ⟨h1, h2, h3, h4, h5, h6⟩ := h
  generalize hz : nn (U.1 0 8) = z at *
  refine ⟨?_, ?_, ?_, ?_, ?_, ?_⟩
  · exact ReL_fr h1 (fun j a b => by rw [s1_eq, if_neg (by omega), s1_eq, if_neg (by omega)]) rfl rfl rfl
  · exact ReK_fr h2 rfl (fun j a b => by rw [s1_eq, if_neg (by omega), s1_eq, if_neg (by omega)]) rfl rfl rfl rfl
  · have hu : (jsI (jsI U 5 z (nI b)) 0 8 (nI (z + 1))).1 0 8 = nI (z + 1) := by rw [s1_at, if_pos ⟨rfl, rfl⟩]
    refine ⟨?_, ?_, ?_⟩
    · rw [hu, s1_at, if_pos ⟨rfl, rfl⟩]
    · rw [hu]; exact isN_nI (by omega) (by omega)
    · intro k hk
      rw [hu, nn_nI (by omega)] at hk
      show upd (V.1 37) z (nI b) k = upd (U.1 5) z (nI b) k ∧ isN (upd (U.1 5) z (nI b) k) 255
      rw [u_eq, u_eq]
      by_cases e : k = z
      · rw [if_pos e, if_pos e]; exact ⟨rfl, isN_nI hb (by omega)⟩
      · rw [if_neg e, if_neg e]
        exact h3.2.2 k (by omega)
  · exact ReF_fr h4 rfl rfl
  · exact ReS_fr h5 (fun j a b => by rw [s1_eq, if_neg (by omega), s1_eq, if_neg (by omega)]) (fun j a b => rfl) rfl rfl rfl
  · exact ReW_fr h6 rfl
theorem feed_loop (x : Int32) : ∀ (k n : Nat) (V U : jMem), Rel V U → k ≤ 4 → nn (U.1 0 8) + k ≤ 120 → k < n → ∃ (r : Int32) (V' U' : jMem), mX4_feed_b41 n x (nI k - 1) V = some (r, V') ∧ mX5_feed_b41 n x (nI k - 1) U = some (r, U') ∧ Rel V' U' := by
  intro k
  induction k with
  | zero =>
    intro n V U h hk hs hn
    obtain ⟨n, rfl⟩ : ∃ n', n = n' + 1 := ⟨n - 1, by omega⟩
    have e : nI 0 - 1 < 0 := by decide
    unfold mX4_feed_b41 mX5_feed_b41
    rw [if_pos e, if_pos e, h.2.2.1.1]
    exact ⟨_, V, U, rfl, rfl, h⟩
  | succ k ih =>
    intro n V U h hk hs hn
    obtain ⟨n, rfl⟩ : ∃ n', n = n' + 1 := ⟨n - 1, by omega⟩
    have e : nI (k + 1) - 1 = nI k := nI_pred k
    have ez : U.1 0 8 = nI (nn (U.1 0 8)) := h.2.2.1.2.1.1
    have ev : V.1 36 1 = nI (nn (U.1 0 8)) := h.2.2.1.1.trans ez
    obtain ⟨b, hb, b1, b2⟩ := g_byte x (k := k) (by omega)
    have st := feed_step h (b := b) (by omega) hb
    have hz : nn ((jsI (jsI U 5 (nn (U.1 0 8)) (nI b)) 0 8 (nI (nn (U.1 0 8) + 1))).1 0 8) = nn (U.1 0 8) + 1 := by
      rw [s1_at, if_pos ⟨rfl, rfl⟩, nn_nI (by omega)]
    obtain ⟨r, V', U', r1, r2, r3⟩ := ih n _ _ st (by omega) (by rw [hz]; omega) (by omega)
    have em : nI k + -1 = nI k - 1 := by
      cases k with
      | zero => decide
      | succ k => rw [pk_m1, nI_pred]
    refine ⟨r, V', U', ?_, ?_, r3⟩
    · unfold mX4_feed_b41 mX3_add
      rw [e, if_neg (nI_pos (by omega)), b1, ev, if_neg (show ¬ ((120 : Int32) ≤ nI (nn (U.1 0 8))) from nI_ge (b := 120) (by omega) (by omega)), g_jin (show nn (U.1 0 8) < 120 by omega) (by omega), jg_t, jl_eq, g_cl (by omega), jl_eq, Option.bind_some, em, s1_eq V 37 _ _ 36, if_neg (by omega), ev, nI_1]
      exact r1
    · unfold mX5_feed_b41
      have e0 : (jsI U 5 (nn (U.1 0 8)) (nI b)).1 0 8 = nI (nn (U.1 0 8)) := ez
      rw [e, if_neg (nI_pos (by omega)), b2]
      rw [show jin (U.1 0 8) 120 = true by rw [ez]; exact g_jin (by omega) (by omega), jg_t, jl_eq, jl_eq, em, show (U.1 0 8).toNatClampNeg = nn (U.1 0 8) from rfl, e0, nI_1]
      exact r2
theorem op_feed_ok : op_feed Rel := by
  intro a1 a2 V U h
  obtain ⟨V', U', e1, e2, h'⟩ := ref_of (-1000000001) 0 (by omega) (by decide) h
  obtain ⟨V2, U2, e3, e4, h2⟩ := ref_of (-1000000002) 1 (by omega) (by decide) h
  have ez : U.1 0 8 = nI (nn (U.1 0 8)) := h.2.2.1.2.1.1
  have ez2 : nn (U.1 0 8) ≤ 120 := h.2.2.1.2.1.2
  have ev : V.1 36 1 = nI (nn (U.1 0 8)) := h.2.2.1.1.trans ez
  unfold mX4_feed mX5_feed
  rcases f_in a2 1 4 1 4 rfl rfl with ⟨d1, d2⟩ | ⟨d1, d2, d3, d4⟩
  · rw [d1, d2, if_pos rfl, if_pos rfl, e1, e2]
    exact ⟨_, V', U', rfl, rfl, h'⟩
  · rw [d3, d4, if_neg g_10, if_neg g_10]
    obtain ⟨k, hk1, hk2, rfl⟩ := g_rng d1 d2 1 4 rfl rfl (by omega) (by omega)
    have q : (V.1 36 1 + nI k ≤ 120) ↔ nn (U.1 0 8) + k ≤ 120 := by rw [ev, nI_add]; exact nI_leI (b := 120) (by omega) (by omega)
    have q2 : (U.1 0 8 + nI k ≤ 120) ↔ nn (U.1 0 8) + k ≤ 120 := by
      have e : U.1 0 8 + nI k = nI (nn (U.1 0 8) + k) := by rw [← nI_add, ← ez]
      rw [e]; exact nI_leI (b := 120) (by omega) (by omega)
    simp only [q, q2]
    by_cases hz : nn (U.1 0 8) + k ≤ 120
    · rw [if_pos hz, if_pos hz]
      exact feed_loop a1 k 2000 V U h hk2 hz (by omega)
    · rw [if_neg hz, if_neg hz, e3, e4]
      exact ⟨_, V2, U2, rfl, rfl, h2⟩
end OH
