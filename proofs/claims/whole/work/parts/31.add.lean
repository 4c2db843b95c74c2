/-! a new field, a new strip -/
section OF
variable {V U V' U' : jMem}
theorem add_ReL (h : ReL V U) (hn : gN (U.1 1) < 14) (kd wo wa te : Int32) (hkd : isN kd 5) (hwo : isN wo 9999) (hwo1 : 1 ≤ nn wo) (hwa : isN wa 9) (hte : isN te 16383)
    (m0 : U'.1 1 0 = nI (gN (U.1 1) + 1)) (mo : ∀ k, 0 < k → (k < 10 + 7 * gN (U.1 1) ∨ 17 + 7 * gN (U.1 1) ≤ k) → U'.1 1 k = U.1 1 k)
    (mf : gF (U'.1 1) (gN (U.1 1)) 0 = kd ∧ gF (U'.1 1) (gN (U.1 1)) 1 = wo ∧ gF (U'.1 1) (gN (U.1 1)) 2 = wa ∧ gF (U'.1 1) (gN (U.1 1)) 3 = te ∧ gF (U'.1 1) (gN (U.1 1)) 4 = 0 ∧ gF (U'.1 1) (gN (U.1 1)) 5 = -1 ∧ gF (U'.1 1) (gN (U.1 1)) 6 = 0) (ms : U'.2 0 3 = U.2 0 3)
    (x0 : V'.1 1 0 = nI (gN (U.1 1) + 1)) (xo : ∀ a, a ≠ 0 → V'.1 1 a = V.1 1 a) (xs : V'.2 1 11 = V.2 1 11)
    (x2 : V'.1 2 (gN (U.1 1)) = kd ∧ V'.1 3 (gN (U.1 1)) = wo ∧ V'.1 4 (gN (U.1 1)) = wa ∧ V'.1 5 (gN (U.1 1)) = te)
    (xf : ∀ g, g < gN (U.1 1) → V'.1 2 g = V.1 2 g ∧ V'.1 3 g = V.1 3 g ∧ V'.1 4 g = V.1 4 g ∧ V'.1 5 g = V.1 5 g)
    (xr : ∀ j, 6 ≤ j → j ≤ 10 → V'.1 j = V.1 j) : ReL V' U' := by
  obtain ⟨hx, w0, w1, w2, w3, w4, w5, w6, w7, w8⟩ := h
  generalize hnn : gN (U.1 1) = n at *
  have gn : gN (U'.1 1) = n + 1 := by unfold gN; rw [m0, nn_nI (by omega)]
  have gm : gM (U'.1 1) = gM (U.1 1) := by unfold gM; rw [mo 1 (by omega) (by omega)]
  have go : ∀ g v, g < n → v < 7 → gF (U'.1 1) g v = gF (U.1 1) g v := fun g v hg hv => by unfold gF; exact mo _ (by omega) (by omega)
  obtain ⟨f0, f1, f2, f3, f4, f5, f6⟩ := mf
  have q1 : pOurs (U'.1 1) n = false := by unfold pOurs; rw [f4]; decide
  have q2 : pLost (U'.1 1) n = false := by unfold pLost; rw [f4]; decide
  have q3 : pPap (U'.1 1) n = false := by unfold pPap; rw [f5]; decide
  have s1 : gSet (pOurs (U'.1 1)) (n + 1) = gSet (pOurs (U.1 1)) n := by
    rw [gSet, q1, if_neg (by decide), Nat.or_zero]
    exact gSet_congr (fun i hi => by unfold pOurs; rw [go i 4 hi (by omega)])
  have s2 : gSet (pLost (U'.1 1)) (n + 1) = gSet (pLost (U.1 1)) n := by
    rw [gSet, q2, if_neg (by decide), Nat.or_zero]
    exact gSet_congr (fun i hi => by unfold pLost; rw [go i 4 hi (by omega)])
  have s3 : gSet (pPap (U'.1 1)) (n + 1) = gSet (pPap (U.1 1)) n := by
    rw [gSet, q3, if_neg (by decide), Nat.or_zero]
    exact gSet_congr (fun i hi => by unfold pPap; rw [go i 5 hi (by omega)])
  have s4 : gCt (pPap (U'.1 1)) (n + 1) = gCt (pPap (U.1 1)) n := by
    rw [gCt, q3, if_neg (by decide)]
    exact gCt_congr (fun i hi => by unfold pPap; rw [go i 5 hi (by omega)])
  obtain ⟨a0, a5, a6, a7, a10, asp, a12, a14, b1, b2, b3, b4⟩ := hx
  rw [hnn] at a5 a6 a7 b1 b2
  have w6' : gCt (pPap (U.1 1)) n ≤ 6 := w6.2
  refine ⟨?_, ?_⟩
  · unfold XL
    rw [gn, gm, s1, s2, s3, x0, m0, xs, ms, xo 5 (by omega), xo 6 (by omega), xo 7 (by omega), xo 10 (by omega), xo 12 (by omega), xo 14 (by omega), mo 2 (by omega) (by omega), mo 7 (by omega) (by omega), mo 1 (by omega) (by omega), mo 3 (by omega) (by omega), mo 4 (by omega) (by omega), mo 5 (by omega) (by omega), mo 6 (by omega) (by omega), xr 6 (by omega) (by omega), xr 7 (by omega) (by omega), xr 8 (by omega) (by omega), xr 9 (by omega) (by omega), xr 10 (by omega) (by omega)]
    refine ⟨rfl, a5, a6, a7, a10, asp, a12, a14, ?_, ?_, b3, ?_⟩
    · intro f hf
      by_cases e : f = n
      · subst e
        rw [f0, f1, f2, f3]; exact x2
      · have hf' : f < n := by omega
        obtain ⟨c1, c2, c3, c4⟩ := xf f hf'
        rw [c1, c2, c3, c4, go f 0 hf' (by omega), go f 1 hf' (by omega), go f 2 hf' (by omega), go f 3 hf' (by omega)]
        exact b1 f hf'
    · intro f hf
      by_cases e : f = n
      · subst e
        rw [f5]; intro z; exact absurd (by decide) z
      · have hf' : f < n := by omega
        rw [go f 5 hf' (by omega), go f 6 hf' (by omega)]
        exact b2 f hf'
    · intro t ht
      unfold gT gR
      have : gM (U.1 1) ≤ 6 := w1.2
      rw [mo _ (by omega) (by omega), mo _ (by omega) (by omega)]
      exact b4 t ht
  · unfold WF
    rw [gn, gm, s4, m0, mo 2 (by omega) (by omega), mo 1 (by omega) (by omega), mo 3 (by omega) (by omega), mo 4 (by omega) (by omega), mo 5 (by omega) (by omega), mo 6 (by omega) (by omega)]
    refine ⟨isN_nI (by omega) (by omega), w1, w2, w3, w4, w5, ⟨w6.1, w6'⟩, ?_, ?_⟩
    · intro f hf
      by_cases e : f = n
      · subst e
        unfold wfF
        rw [f0, f1, f2, f3, f4, f5, f6]
        exact ⟨hkd, ⟨hwo, hwo1⟩, hwa, hte, isN_nI (k := 0) (by omega) (by omega), .inl rfl, isN_nI (k := 0) (by omega) (by omega)⟩
      · have hf' : f < n := by omega
        have := w7 f hf'
        unfold wfF at *
        rw [go f 0 hf' (by omega), go f 1 hf' (by omega), go f 2 hf' (by omega), go f 3 hf' (by omega), go f 4 hf' (by omega), go f 5 hf' (by omega), go f 6 hf' (by omega)]
        exact this
    · intro t ht
      have := w8 t ht
      have h6 : gM (U.1 1) ≤ 6 := w1.2
      unfold wfT gT gR at *
      rw [mo _ (by omega) (by omega), mo _ (by omega) (by omega), gn]
      rw [hnn] at this
      have : (2 : Nat) ^ n ≤ 2 ^ (n + 1) := Nat.pow_le_pow_right (by decide) (by omega)
      exact ⟨isN_le (by assumption : isN _ (2 ^ n - 1) ∧ isN _ 9999).1 (by omega), (by assumption : isN _ (2 ^ n - 1) ∧ isN _ 9999).2⟩
def xAdd (n : Nat) (kd wo : Int32) (V : jMem) : jMem := jsI (jsI (jsI (jsI (jsI V 2 n kd) 3 n wo) 4 n 0) 5 n 0) 1 0 (V.1 1 0 + 1)
theorem x_add (h : ReL V U) (hn : gN (U.1 1) < 14) (kd wo : Int32) : mX0_addField kd wo V = some (nI (gN (U.1 1)), xAdd (gN (U.1 1)) kd wo V) := by
  have e : V.1 1 0 = nI (gN (U.1 1)) := h.1.1.trans h.2.1.1
  unfold mX0_addField
  rw [e, g_jin hn (by omega), jg_t, g_cl (by omega)]
  rfl
def mAdd (n : Nat) (kd wo : Int32) (U : jMem) : jMem := jsI (jsI (jsI (jsI (jsI (jsI (jsI (jsI U 1 (10 + 7 * n + 0) kd) 1 (10 + 7 * n + 1) wo) 1 (10 + 7 * n + 2) 0) 1 (10 + 7 * n + 3) 0) 1 (10 + 7 * n + 4) 0) 1 (10 + 7 * n + 5) (-1)) 1 (10 + 7 * n + 6) 0) 1 0 (U.1 1 0 + 1)
theorem m_add (h : ReL V U) (hn : gN (U.1 1) < 14) (kd wo : Int32) : mX5_comes kd wo U = some (mAdd (gN (U.1 1)) kd wo U) := by
  have e : U.1 1 0 = nI (gN (U.1 1)) := h.2.1.1
  have z : ∀ n, n < 14 → ∀ w, w < 7 → jin (nI (10 + 7 * n + w)) 120 = true := fun n h1 w h2 => g_jin (by omega) (by omega)
  unfold mX5_comes
  rw [e, m_at0, m_at1, m_at2, m_at3, m_at4, m_at5, m_at6]
  simp only [jl_eq, z _ hn 0 (by omega), z _ hn 1 (by omega), z _ hn 2 (by omega), z _ hn 3 (by omega), z _ hn 4 (by omega), z _ hn 5 (by omega), z _ hn 6 (by omega), jg_t, g_cl (show 10 + 7 * gN (U.1 1) + 0 < 2 ^ 31 by omega), g_cl (show 10 + 7 * gN (U.1 1) + 1 < 2 ^ 31 by omega), g_cl (show 10 + 7 * gN (U.1 1) + 2 < 2 ^ 31 by omega), g_cl (show 10 + 7 * gN (U.1 1) + 3 < 2 ^ 31 by omega), g_cl (show 10 + 7 * gN (U.1 1) + 4 < 2 ^ 31 by omega), g_cl (show 10 + 7 * gN (U.1 1) + 5 < 2 ^ 31 by omega), g_cl (show 10 + 7 * gN (U.1 1) + 6 < 2 ^ 31 by omega)]
  unfold mAdd
  have p0 : ∀ (W : jMem) (k : Nat) (x : Int32), 0 < k → (jsI W 1 k x).1 1 0 = W.1 1 0 := fun W k x hk => by rw [s1_at, if_neg (by omega)]
  rw [p0 _ _ _ (by omega), p0 _ _ _ (by omega), p0 _ _ _ (by omega), p0 _ _ _ (by omega), p0 _ _ _ (by omega), p0 _ _ _ (by omega), p0 _ _ _ (by omega)]
theorem mAdd_at (n : Nat) (kd wo : Int32) (U : jMem) (k : Nat) : (mAdd n kd wo U).1 1 k = if k = 0 then U.1 1 0 + 1 else if k = 16 + 7 * n then 0 else if k = 15 + 7 * n then -1 else if k = 14 + 7 * n then 0 else if k = 13 + 7 * n then 0 else if k = 12 + 7 * n then 0 else if k = 11 + 7 * n then wo else if k = 10 + 7 * n then kd else U.1 1 k := by
  unfold mAdd
  simp only [s1_at, true_and]
  simp only [show 10 + 7 * n + 0 = 10 + 7 * n by omega, show 10 + 7 * n + 1 = 11 + 7 * n by omega, show 10 + 7 * n + 2 = 12 + 7 * n by omega, show 10 + 7 * n + 3 = 13 + 7 * n by omega, show 10 + 7 * n + 4 = 14 + 7 * n by omega, show 10 + 7 * n + 5 = 15 + 7 * n by omega, show 10 + 7 * n + 6 = 16 + 7 * n by omega]
theorem mAdd_far (n : Nat) (kd wo : Int32) (U : jMem) {j : Nat} (hj : j ≠ 1) : (mAdd n kd wo U).1 j = U.1 j := by
  unfold mAdd
  simp only [s1_eq, if_neg hj]
theorem mAdd_F (n : Nat) (kd wo : Int32) (U : jMem) : gF ((mAdd n kd wo U).1 1) n 0 = kd ∧ gF ((mAdd n kd wo U).1 1) n 1 = wo ∧ gF ((mAdd n kd wo U).1 1) n 2 = 0 ∧ gF ((mAdd n kd wo U).1 1) n 3 = 0 ∧ gF ((mAdd n kd wo U).1 1) n 4 = 0 ∧ gF ((mAdd n kd wo U).1 1) n 5 = -1 ∧ gF ((mAdd n kd wo U).1 1) n 6 = 0 := by
  unfold gF
  refine ⟨?_, ?_, ?_, ?_, ?_, ?_, ?_⟩ <;> rw [mAdd_at]
  · rw [if_neg (by omega), if_neg (by omega), if_neg (by omega), if_neg (by omega), if_neg (by omega), if_neg (by omega), if_neg (by omega), if_pos (by omega)]
  · rw [if_neg (by omega), if_neg (by omega), if_neg (by omega), if_neg (by omega), if_neg (by omega), if_neg (by omega), if_pos (by omega)]
  · rw [if_neg (by omega), if_neg (by omega), if_neg (by omega), if_neg (by omega), if_neg (by omega), if_pos (by omega)]
  · rw [if_neg (by omega), if_neg (by omega), if_neg (by omega), if_neg (by omega), if_pos (by omega)]
  · rw [if_neg (by omega), if_neg (by omega), if_neg (by omega), if_pos (by omega)]
  · rw [if_neg (by omega), if_neg (by omega), if_pos (by omega)]
  · rw [if_neg (by omega), if_pos (by omega)]
theorem add_ok (h : Rel V U) (hn : gN (U.1 1) < 14) {kd wo : Nat} (hk : kd ≤ 5) (hw1 : 1 ≤ wo) (hw2 : wo ≤ 9999) : Rel (xAdd (gN (U.1 1)) (nI kd) (nI wo) V) (mAdd (gN (U.1 1)) (nI kd) (nI wo) U) := by
  have e := h.n
  refine Rel_land h (add_ReL h.1 hn (nI kd) (nI wo) 0 0 (isN_nI hk (by omega)) (isN_nI hw2 (by omega)) (by rw [nn_nI (by omega)]; exact hw1) (isN_nI (k := 0) (by omega) (by omega)) (isN_nI (k := 0) (by omega) (by omega)) ?_ ?_ (mAdd_F _ _ _ _) rfl ?_ ?_ rfl ?_ ?_ ?_) ?_ (fun j hj => rfl) (fun j hj => mAdd_far _ _ _ _ hj) rfl rfl
  · rw [mAdd_at, if_pos rfl, e.1, nI_1]
  · intro k h1 h2
    rw [mAdd_at, if_neg (by omega), if_neg (by omega), if_neg (by omega), if_neg (by omega), if_neg (by omega), if_neg (by omega), if_neg (by omega), if_neg (by omega)]
  · show upd (V.1 1) 0 (V.1 1 0 + 1) 0 = _
    rw [u_eq, if_pos rfl, e.2.1, nI_1]
  · intro a ha
    show upd (V.1 1) 0 (V.1 1 0 + 1) a = _
    rw [u_eq, if_neg ha]
  · refine ⟨?_, ?_, ?_, ?_⟩
    · show upd (V.1 2) (gN (U.1 1)) (nI kd) (gN (U.1 1)) = _
      rw [u_eq, if_pos rfl]
    · show upd (V.1 3) (gN (U.1 1)) (nI wo) (gN (U.1 1)) = _
      rw [u_eq, if_pos rfl]
    · show upd (V.1 4) (gN (U.1 1)) 0 (gN (U.1 1)) = _
      rw [u_eq, if_pos rfl]
    · show upd (V.1 5) (gN (U.1 1)) 0 (gN (U.1 1)) = _
      rw [u_eq, if_pos rfl]
  · intro g hg
    refine ⟨?_, ?_, ?_, ?_⟩
    · show upd (V.1 2) (gN (U.1 1)) (nI kd) g = _
      rw [u_eq, if_neg (by omega)]
    · show upd (V.1 3) (gN (U.1 1)) (nI wo) g = _
      rw [u_eq, if_neg (by omega)]
    · show upd (V.1 4) (gN (U.1 1)) 0 g = _
      rw [u_eq, if_neg (by omega)]
    · show upd (V.1 5) (gN (U.1 1)) 0 g = _
      rw [u_eq, if_neg (by omega)]
  · intro j h1 h2
    unfold xAdd
    rw [s1_eq, if_neg (by omega), s1_eq, if_neg (by omega), s1_eq, if_neg (by omega), s1_eq, if_neg (by omega), s1_eq, if_neg (by omega)]
  · intro j hj
    unfold xAdd
    rw [s1_eq, if_neg (by omega), s1_eq, if_neg (by omega), s1_eq, if_neg (by omega), s1_eq, if_neg (by omega), s1_eq, if_neg (by omega)]
theorem op_field_ok : op_field Rel := by
  intro a1 a2 V U h
  obtain ⟨V', U', e1, e2, h'⟩ := ref_of (-1000000001) 0 (by omega) (by decide) h
  obtain ⟨V2, U2, e3, e4, h2⟩ := ref_of (-1000000002) 1 (by omega) (by decide) h
  have hn := h.n
  unfold mX4_field mX5_field mX4_field_b18 mX5_field_b24 mX4_isKind
  rcases f_in a1 0 5 0 5 rfl rfl with ⟨d1, d2⟩ | ⟨d1, d2, d3, d4⟩
  · rw [d1, d2, if_pos rfl, if_pos rfl, e1, e2]
    exact ⟨_, V', U', rfl, rfl, h'⟩
  · rw [d3, d4, if_neg g_10, if_neg g_10]
    obtain ⟨kd, -, hk, rfl⟩ := g_rng d1 d2 0 5 rfl rfl (by omega) (by omega)
    rcases f_in a2 1 9999 1 9999 rfl rfl with ⟨b1, b2⟩ | ⟨b1, b2, b3, b4⟩
    · rw [b1, b2, if_pos rfl, if_pos rfl, e1, e2]
      exact ⟨_, V', U', rfl, rfl, h'⟩
    · rw [b3, b4, if_neg g_10, if_neg g_10]
      obtain ⟨wo, hw1, hw2, rfl⟩ := g_rng b1 b2 1 9999 rfl rfl (by omega) (by omega)
      have q1 : (V.1 1 0 < 14) ↔ gN (U.1 1) < 14 := by rw [hn.2.1]; exact nI_ltI (b := 14) (by omega) (by omega)
      have q2 : (U.1 1 0 = 14) ↔ gN (U.1 1) = 14 := by rw [hn.1]; exact nI_eq (b := 14) (by omega) (by omega)
      simp only [q1, q2]
      by_cases hz : gN (U.1 1) < 14
      · rw [if_pos hz, if_neg (by omega), x_add h.1 hz, m_add h.1 hz]
        refine ⟨nI (gN (U.1 1)), _, _, rfl, ?_, add_ok h hz hk hw1 hw2⟩
        show some (_, _) = _
        rw [mAdd_at, if_pos rfl, hn.1, nI_1, show nI (gN (U.1 1) + 1) - 1 = nI (gN (U.1 1)) from nI_pred _]
      · rw [if_neg hz, if_pos (by omega), e3, e4]
        exact ⟨_, V2, U2, rfl, rfl, h2⟩
end OF
