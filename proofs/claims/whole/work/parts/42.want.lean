/-! the fields that a STRIP wants, one by one -/
section OQ
variable {V U V' U' : jMem}
theorem Rel_scr (h : Rel V U) (a : ∀ j, (j ≤ 20 ∨ 36 ≤ j) → V'.1 j = V.1 j) (b : V'.2 = V.2) (c : ∀ j, j ≠ 0 → j ≠ 3 → j ≠ 9 → j ≠ 10 → U'.1 j = U.1 j) (c0 : ∀ a, a ≤ 8 → U'.1 0 a = U.1 0 a) (d : U'.2 = U.2) : Rel V' U' := by
  obtain ⟨h1, h2, h3, h4, h5, h6⟩ := h
  exact ⟨ReL_fr h1 (fun j _ _ => a j (by omega)) (by rw [b]) (c 1 (by omega) (by omega) (by omega) (by omega)) (by rw [d]), ReK_fr h2 (by rw [a 0 (by omega)]) (fun j _ _ => a j (by omega)) (by rw [b]) (c 2 (by omega) (by omega) (by omega) (by omega)) (by rw [d]) (c0 5 (by omega)), ReT_fr h3 (by rw [a 36 (by omega)]) (a 37 (by omega)) (c0 8 (by omega)) (c 5 (by omega) (by omega) (by omega) (by omega)), ReF_fr h4 (a 47 (by omega)) (c 4 (by omega) (by omega) (by omega) (by omega)), ReS_fr h5 (fun j _ _ => a j (by omega)) (fun j _ _ => by rw [b]) (c 6 (by omega) (by omega) (by omega) (by omega)) (c 7 (by omega) (by omega) (by omega) (by omega)) (by rw [d]), ReW_fr h6 (c 11 (by omega) (by omega) (by omega) (by omega))⟩
def gL (p : Nat → Bool) : Nat → List Nat
  | 0 => []
  | n + 1 => gL p n ++ (if p n then [n] else [])
theorem gL_len (p : Nat → Bool) : ∀ n, (gL p n).length = gCt p n
  | 0 => rfl
  | n + 1 => by rw [gL, gCt, List.length_append, gL_len p n]; split <;> rfl
/-- the k-th of them -/
def gAt (p : Nat → Bool) (n k : Nat) : Nat := (gL p n).getD k 0
theorem gAt_old {p : Nat → Bool} {n k : Nat} (h : k < gCt p n) : gAt p (n + 1) k = gAt p n k := by
  unfold gAt
  rw [gL, List.getD_eq_getElem?_getD, List.getD_eq_getElem?_getD, List.getElem?_append_left (by rw [gL_len]; exact h)]
theorem gAt_new {p : Nat → Bool} {n : Nat} (h : p n = true) : gAt p (n + 1) (gCt p n) = n := by
  unfold gAt
  rw [gL, if_pos h, List.getD_eq_getElem?_getD, List.getElem?_append_right (by rw [gL_len]; exact Nat.le_refl _), gL_len, Nat.sub_self]
  rfl
theorem gAt_ok (p : Nat → Bool) : ∀ (n k : Nat), k < gCt p n → gAt p n k < n ∧ p (gAt p n k) = true := by
  intro n
  induction n with
  | zero => intro k hk; exact absurd hk (Nat.not_lt_zero _)
  | succ n ih =>
    intro k hk
    by_cases z : k < gCt p n
    · rw [gAt_old z]
      have := ih k z
      exact ⟨by omega, this.2⟩
    · rw [gCt] at hk
      by_cases e : p n = true
      · rw [if_pos e] at hk
        obtain rfl : k = gCt p n := by omega
        rw [gAt_new e]
        exact ⟨by omega, e⟩
      · rw [if_neg e] at hk; omega
theorem m_want (w : WF (U.1 1)) {t : Nat} (ht : t < gM (U.1 1)) : ∃ U', mX5_findWanted (nI t) U = some U' ∧ U'.1 0 13 = nI (gCt (pMiss (U.1 1) t) (gN (U.1 1))) ∧ (∀ k, k < gCt (pMiss (U.1 1) t) (gN (U.1 1)) → U'.1 9 k = nI (gAt (pMiss (U.1 1) t) (gN (U.1 1)) k)) ∧ (∀ a, a ≠ 13 → U'.1 0 a = U.1 0 a) ∧ (∀ j, j ≠ 0 → j ≠ 9 → U'.1 j = U.1 j) ∧ U'.2 = U.2 := by
  have hn := w.n
  have hm : gM (U.1 1) ≤ 6 := w.2.1.2
  have hT := (w.t ht).1
  have hTl := g_T_lt w ht
  have hp : (2 : Nat) ^ gN (U.1 1) ≤ 2 ^ 14 := Nat.pow_le_pow_right (by decide) hn.2
  have key : ∀ d i n (W : jMem), i + d = gN (U.1 1) → d < n → W.1 0 13 = nI (gCt (pMiss (U.1 1) t) i) → (∀ k, k < gCt (pMiss (U.1 1) t) i → W.1 9 k = nI (gAt (pMiss (U.1 1) t) i k)) → (∀ a, a ≠ 13 → W.1 0 a = U.1 0 a) → (∀ j, j ≠ 0 → j ≠ 9 → W.1 j = U.1 j) → W.2 = U.2 → ∃ U', mX5_findWanted_b7 n (nI t) (nI i) W = some U' ∧ U'.1 0 13 = nI (gCt (pMiss (U.1 1) t) (gN (U.1 1))) ∧ (∀ k, k < gCt (pMiss (U.1 1) t) (gN (U.1 1)) → U'.1 9 k = nI (gAt (pMiss (U.1 1) t) (gN (U.1 1)) k)) ∧ (∀ a, a ≠ 13 → U'.1 0 a = U.1 0 a) ∧ (∀ j, j ≠ 0 → j ≠ 9 → U'.1 j = U.1 j) ∧ U'.2 = U.2 := by
    intro d
    induction d with
    | zero =>
      intro i n W hi hd h1 h2 h3 h4 h5
      obtain ⟨n, rfl⟩ : ∃ n', n = n' + 1 := ⟨n - 1, by omega⟩
      obtain rfl : i = gN (U.1 1) := by omega
      unfold mX5_findWanted_b7
      rw [h4 1 (by omega) (by omega), if_pos ((m_le hn (by omega)).mpr (Nat.le_refl _))]
      exact ⟨W, rfl, h1, h2, h3, h4, h5⟩
    | succ d ih =>
      intro i n W hi hd h1 h2 h3 h4 h5
      obtain ⟨n, rfl⟩ : ∃ n', n = n' + 1 := ⟨n - 1, by omega⟩
      have hc := gCt_le (pMiss (U.1 1) t) i
      have w1 : W.1 1 = U.1 1 := h4 1 (by omega) (by omega)
      have qb : ((nI (nn (gT (U.1 1) t)) >>> (nI i &&& 31)) &&& 1 = 1) ↔ (nn (gT (U.1 1) t)).testBit i = true := g_bit1 (by omega) (by omega)
      have e : pMiss (U.1 1) t i = ((nn (gT (U.1 1) t)).testBit i && !decide (gF (U.1 1) i 4 = 1)) := rfl
      have skip : pMiss (U.1 1) t i = false → ∃ U', mX5_findWanted_b7 n (nI t) (nI (i + 1)) W = some U' ∧ U'.1 0 13 = nI (gCt (pMiss (U.1 1) t) (gN (U.1 1))) ∧ (∀ k, k < gCt (pMiss (U.1 1) t) (gN (U.1 1)) → U'.1 9 k = nI (gAt (pMiss (U.1 1) t) (gN (U.1 1)) k)) ∧ (∀ a, a ≠ 13 → U'.1 0 a = U.1 0 a) ∧ (∀ j, j ≠ 0 → j ≠ 9 → U'.1 j = U.1 j) ∧ U'.2 = U.2 := by
        intro hf
        have ce : gCt (pMiss (U.1 1) t) (i + 1) = gCt (pMiss (U.1 1) t) i := by rw [gCt, hf]; rfl
        refine ih (i + 1) n W (by omega) (by omega) (by rw [ce]; exact h1) (fun k hk => ?_) h3 h4 h5
        rw [ce] at hk
        rw [gAt_old hk]; exact h2 k hk
      unfold mX5_findWanted_b7 mX5_findWanted_b60
      rw [w1, if_neg (fun z => by have := (m_le hn (by omega)).mp z; omega), m_setOf (by omega), Option.bind_some, m_has4 (by omega), Option.bind_some, w1, hT.1]
      simp only [qb]
      rw [nI_1, h1, g_jin (show gCt (pMiss (U.1 1) t) i < 14 by omega) (by omega), jg_t, jl_eq, jl_eq, g_cl (show gCt (pMiss (U.1 1) t) i < 2 ^ 31 by omega)]
      by_cases z1 : (nn (gT (U.1 1) t)).testBit i = true
      · by_cases z2 : gF (U.1 1) i 4 = 1
        · rw [if_pos z1, if_pos z2]
          exact skip (by rw [e, decide_eq_true z2, Bool.not_true, Bool.and_false])
        · rw [if_pos z1, if_neg z2]
          have ht' : pMiss (U.1 1) t i = true := by rw [e, z1, decide_eq_false z2]; rfl
          have ce : gCt (pMiss (U.1 1) t) (i + 1) = gCt (pMiss (U.1 1) t) i + 1 := by rw [gCt, ht']; rfl
          refine ih (i + 1) n _ (by omega) (by omega) ?_ (fun k hk => ?_) (fun a ha => ?_) (fun j q1 q2 => ?_) h5
          · rw [s1_at, if_pos ⟨rfl, rfl⟩, s1_at, if_neg (by omega), h1, nI_1, ce]
          · rw [s1_at, if_neg (by omega), s1_at]
            by_cases q : k = gCt (pMiss (U.1 1) t) i
            · rw [if_pos ⟨rfl, q⟩, q, gAt_new ht']
            · rw [if_neg (fun y => q y.2), gAt_old (by omega)]
              exact h2 k (by omega)
          · rw [s1_at, if_neg (by omega), s1_at, if_neg (by omega)]; exact h3 a ha
          · rw [s1_eq, if_neg q1, s1_eq, if_neg q2]; exact h4 j q1 q2
      · rw [if_neg z1]
        exact skip (by rw [e, show (nn (gT (U.1 1) t)).testBit i = false by simpa using z1, Bool.false_and])
  unfold mX5_findWanted
  rw [jl_eq]
  exact key (gN (U.1 1)) 0 2000 (jsI U 0 13 0) (by omega) (by omega) rfl (fun k hk => absurd hk (Nat.not_lt_zero _)) (fun a ha => by rw [s1_at, if_neg (by omega)]) (fun j q1 q2 => by rw [s1_eq, if_neg q1]) rfl
end OQ
