/-! calls that change one field, or one rule -/
section OC
variable {V U V' U' : jMem}
theorem Rel_land (h : Rel V U) (h1 : ReL V' U') (a : ∀ j, (j = 0 ∨ 11 ≤ j) → V'.1 j = V.1 j) (b : ∀ j, j ≠ 1 → V'.2 j = V.2 j) (c : ∀ j, j ≠ 1 → U'.1 j = U.1 j) (d : U'.2 8 = U.2 8) (e : U'.2 0 4 = U.2 0 4) : Rel V' U' := by
  obtain ⟨-, h2, h3, h4, h5, h6⟩ := h
  have a0 : V'.1 0 = V.1 0 := a 0 (.inl rfl)
  have c0 : U'.1 0 = U.1 0 := c 0 (by omega)
  refine ⟨h1, ReK_fr h2 (by rw [a0]) (fun j _ _ => a j (by omega)) (by rw [b 11 (by omega)]) (c 2 (by omega)) e (by rw [c0]), ReT_fr h3 (by rw [a 36 (by omega)]) (a 37 (by omega)) (by rw [c0]) (c 5 (by omega)), ReF_fr h4 (a 47 (by omega)) (c 4 (by omega)), ReS_fr h5 (fun j _ _ => a j (by omega)) (fun j _ _ => b j (by omega)) (c 6 (by omega)) (c 7 (by omega)) d, ReW_fr h6 (c 11 (by omega))⟩
theorem s1_at (V : jMem) (j k : Nat) (x : Int32) (a b : Nat) : (jsI V j k x).1 a b = if a = j ∧ b = k then x else V.1 a b := by
  rw [s1_eq]
  by_cases h : a = j
  · subst h
    rw [if_pos rfl, u_eq]
    by_cases h2 : b = k
    · rw [if_pos h2, if_pos ⟨rfl, h2⟩]
    · rw [if_neg h2, if_neg (fun z => h2 z.2)]
  · rw [if_neg h, if_neg (fun z => h z.1)]
theorem sets_same {s s' : Nat → Int32} {n : Nat} (h : ∀ i, i < n → gF s' i 4 = gF s i 4 ∧ gF s' i 5 = gF s i 5) : gSet (pOurs s') n = gSet (pOurs s) n ∧ gSet (pLost s') n = gSet (pLost s) n ∧ gSet (pPap s') n = gSet (pPap s) n := by
  refine ⟨gSet_congr (fun i hi => ?_), gSet_congr (fun i hi => ?_), gSet_congr (fun i hi => ?_)⟩
  · unfold pOurs; rw [(h i hi).1]
  · unfold pLost; rw [(h i hi).1]
  · unfold pPap; rw [(h i hi).2]
theorem upd_far {s : Nat → Int32} {f w : Nat} {x : Int32} (hw : w < 7) : ∀ k, (k < 10 + 7 * f ∨ 17 + 7 * f ≤ k) → upd s (10 + 7 * f + w) x k = s k := fun k hk => by rw [u_eq, if_neg (by omega)]
theorem q11 : ((1 : Int32) = 1) = True := eq_true rfl
theorem q22 : ((2 : Int32) = 2) = True := eq_true rfl
theorem q33 : ((3 : Int32) = 3) = True := eq_true rfl
theorem q21 : ((2 : Int32) = 1) = False := eq_false (by decide)
theorem q31 : ((3 : Int32) = 1) = False := eq_false (by decide)
theorem q32 : ((3 : Int32) = 2) = False := eq_false (by decide)
/-- WORTH, WARY or TELLS of a field -/
theorem set_ok (h : Rel V U) {f w : Nat} (hf : f < gN (U.1 1)) (hw : w = 1 ∨ w = 2 ∨ w = 3) {v : Int32} (hwf : wfF (upd (U.1 1) (10 + 7 * f + w) v) f) : Rel (jsI V (2 + w) f v) (jsI U 1 (10 + 7 * f + w) v) := by
  have w7 : w < 7 := by omega
  have hcn : gCt (pPap (upd (U.1 1) (10 + 7 * f + w) v)) (gN (U.1 1)) ≤ 6 := by
    have := h.wf.2.2.2.2.2.2.1.2
    rw [gCt_congr (q := pPap (U.1 1)) (fun i hi => by unfold pPap; rw [gF_upd w7 (by omega), if_neg (by omega)])]
    exact this
  refine Rel_land h ⟨?_, wf_field h.wf hf (upd_far w7) hcn hwf⟩ (fun j hj => by rw [s1_eq, if_neg (by omega)]) (fun j hj => rfl) (fun j hj => by rw [s1_eq, if_neg hj]) rfl rfl
  have hx := h.xl
  have b1 := hx.2.2.2.2.2.2.2.2.1 f hf
  have b2 := hx.2.2.2.2.2.2.2.2.2.1 f hf
  have hs := sets_same (s := U.1 1) (s' := upd (U.1 1) (10 + 7 * f + w) v) (n := gN (U.1 1)) (fun i hi => by rw [gF_upd w7 (by omega), gF_upd w7 (by omega), if_neg (by omega), if_neg (by omega)]; exact ⟨rfl, rfl⟩)
  have q0 : gF (upd (U.1 1) (10 + 7 * f + w) v) f 0 = gF (U.1 1) f 0 := by rw [gF_upd w7 (by omega), if_neg (by omega)]
  have q5 : gF (upd (U.1 1) (10 + 7 * f + w) v) f 5 = gF (U.1 1) f 5 := by rw [gF_upd w7 (by omega), if_neg (by omega)]
  have q6 : gF (upd (U.1 1) (10 + 7 * f + w) v) f 6 = gF (U.1 1) f 6 := by rw [gF_upd w7 (by omega), if_neg (by omega)]
  have hk : ∀ k, k < 4 → gF (upd (U.1 1) (10 + 7 * f + w) v) f k = if k = w then v else gF (U.1 1) f k := by
    intro k hk
    rw [gF_upd w7 (by omega)]
    by_cases e : k = w
    · rw [if_pos ⟨rfl, e⟩, if_pos e]
    · rw [if_neg (fun z => e z.2), if_neg e]
  have ce : ∀ j, (j = 1 ∨ 6 ≤ j) → (jsI V (2 + w) f v).1 j = V.1 j := fun j hj => by rw [s1_eq, if_neg (by omega)]
  show XL ((jsI V (2 + w) f v).1 1) ((jsI V (2 + w) f v).1 2) ((jsI V (2 + w) f v).1 3) ((jsI V (2 + w) f v).1 4) ((jsI V (2 + w) f v).1 5) ((jsI V (2 + w) f v).1 6) ((jsI V (2 + w) f v).1 7) ((jsI V (2 + w) f v).1 8) ((jsI V (2 + w) f v).1 9) ((jsI V (2 + w) f v).1 10) (V.2 1 11) (upd (U.1 1) (10 + 7 * f + w) v) (U.2 0 3)
  rw [ce 8 (by omega), ce 9 (by omega), ce 10 (by omega), ce 1 (by omega)]
  refine xl_field hx h.n.2.2 hf (upd_far w7) ⟨rfl, rfl, rfl, rfl⟩ ?_ ?_ ?_ hx.2.2.2.2.2.1 ?_ ?_ ?_
  · exact hx.2.1.trans (by rw [hs.1])
  · exact hx.2.2.1.trans (by rw [hs.2.1])
  · exact hx.2.2.2.1.trans (by rw [hs.2.2])
  · intro g hg
    have : ∀ j, (jsI V (2 + w) f v).1 j g = V.1 j g := fun j => by
      rw [s1_eq]
      split
      · rename_i e; subst e; rw [u_eq, if_neg hg]
      · rfl
    exact ⟨this 2, this 3, this 4, this 5, this 6, this 7⟩
  · rw [hk 0 (by omega), hk 1 (by omega), hk 2 (by omega), hk 3 (by omega)]
    have : ∀ j, (jsI V (2 + w) f v).1 (2 + j) f = if j = w then v else V.1 (2 + j) f := fun j => by
      rw [s1_eq]
      by_cases e : j = w
      · rw [if_pos (by omega), if_pos e, u_eq, if_pos rfl]
      · rw [if_neg (by omega), if_neg e]
    have t0 := this 0
    have t1 := this 1
    have t2 := this 2
    have t3 := this 3
    rw [if_neg (by omega)] at t0
    rw [if_neg (show ¬ 0 = w by omega)]
    refine ⟨t0.trans b1.1, t1.trans ?_, t2.trans ?_, t3.trans ?_⟩
    · split
      · rfl
      · exact b1.2.1
    · split
      · rfl
      · exact b1.2.2.1
    · split
      · rfl
      · exact b1.2.2.2
  · intro hp
    rw [q5] at hp
    rw [q5, q6, s1_eq, s1_eq, if_neg (by omega), if_neg (by omega)]
    exact b2 hp
theorem op_set_ok : op_set Rel := by
  intro a1 a2 a3 V U h
  obtain ⟨V', U', e1, e2, h'⟩ := ref_of (-1000000001) 0 (by omega) (by decide) h
  have hn := h.n
  unfold mX4_set mX5_set mX5_set_b33 mX5_set_b58 mX5_set_b64
  rcases f_ix h a1 with ⟨c1, c2⟩ | ⟨f, hf, rfl, c1, c2⟩
  · rw [if_pos c1, if_pos c2, e1, e2]; exact ⟨_, V', U', rfl, rfl, h'⟩
  · rw [c1, c2, if_neg g_10, if_neg g_10]
    have hw := h.wf.f hf
    unfold mX4_swap
    have hj : jin (nI f) 14 = true := g_jin (by omega) (by omega)
    have hc : (nI f).toNatClampNeg = f := g_cl (by omega)
    obtain ⟨x0, x1, x2, x3⟩ := h.xv.f hf
    unfold mX5_becomes
    have fin : ∀ (w : Nat) (v : Int32), (w = 1 ∨ w = 2 ∨ w = 3) → wfF (upd (U.1 1) (10 + 7 * f + w) v) f → V.1 (2 + w) f = gF (U.1 1) f w → ∃ r V' U', (jg (jin (nI f) 14) (jl (jsI V (2 + w) (nI f).toNatClampNeg v) fun V2 => some (V.1 (2 + w) (nI f).toNatClampNeg, V2))) = some (r, V') ∧ (jg (jin (mX5_at (nI f) (nI w)) 120) (jl (jsI U 1 (mX5_at (nI f) (nI w)).toNatClampNeg v) fun V2 => some (U.1 1 (mX5_at (nI f) (nI w)).toNatClampNeg, V2))) = some (r, U') ∧ Rel V' U' := by
      intro w v hw3 hwf hx
      refine ⟨gF (U.1 1) f w, _, _, ?_, ?_, set_ok h hf hw3 hwf⟩
      · rw [hj, jg_t, jl_eq, hc, hx]
      · rw [m_at rfl, g_jin (by omega) (by omega), jg_t, jl_eq, g_cl (by omega)]; rfl
    have upw : ∀ (w : Nat) (v : Int32) (k : Nat), w < 7 → k < 7 → gF (upd (U.1 1) (10 + 7 * f + w) v) f k = if k = w then v else gF (U.1 1) f k := by
      intro w v k h1 h2
      rw [gF_upd h1 h2]
      by_cases e : k = w
      · rw [if_pos ⟨rfl, e⟩, if_pos e]
      · rw [if_neg (fun z => e z.2), if_neg e]
    rcases f_in a2 1 3 1 3 rfl rfl with ⟨d1, d2⟩ | ⟨d1, d2, d3, d4⟩
    · rw [d2, if_pos rfl, if_neg (g_out d1 (k := 1) (by decide)), if_neg (g_out d1 (k := 2) (by decide)), if_neg (g_out d1 (k := 3) (by decide)), e1, e2]
      exact ⟨_, V', U', rfl, rfl, h'⟩
    · rw [d4, if_neg g_10]
      obtain ⟨j, hj1, hj2, e⟩ := g_rng d1 d2 1 3 rfl rfl (by omega) (by omega)
      have : j = 1 ∨ j = 2 ∨ j = 3 := by omega
      rcases this with rfl | rfl | rfl
      · have e' : a2 = 1 := e
        subst e'
        simp only [q11, ite_true]
        rcases f_in a3 1 9999 1 9999 rfl rfl with ⟨b1, b2⟩ | ⟨b1, b2, b3, b4⟩
        · rw [b1, b2, if_pos rfl, if_pos rfl, e1, e2]
          exact ⟨_, V', U', rfl, rfl, h'⟩
        · rw [b3, b4, if_neg g_10, if_neg g_10]
          obtain ⟨v, hv1, hv2, rfl⟩ := g_rng b1 b2 1 9999 rfl rfl (by omega) (by omega)
          obtain ⟨r, V2, U2, y1, y2, y3⟩ := fin 1 (nI v) (.inl rfl) (by
            unfold wfF
            rw [upw 1 _ 0 (by omega) (by omega), upw 1 _ 1 (by omega) (by omega), upw 1 _ 2 (by omega) (by omega), upw 1 _ 3 (by omega) (by omega), upw 1 _ 4 (by omega) (by omega), upw 1 _ 5 (by omega) (by omega), upw 1 _ 6 (by omega) (by omega)]
            exact ⟨hw.1, ⟨isN_nI hv2 (by omega), by rw [if_pos rfl, nn_nI (by omega)]; exact hv1⟩, hw.2.2⟩) x1
          refine ⟨r, V2, U2, ?_, ?_, y3⟩
          · rw [show (jg (jin (nI f) 14) (jl (jsI V 3 (nI f).toNatClampNeg (nI v)) fun V2 => some (V.1 3 (nI f).toNatClampNeg, V2))) = some (r, V2) from y1]; rfl
          · rw [show (jg (jin (mX5_at (nI f) 1) 120) (jl (jsI U 1 (mX5_at (nI f) 1).toNatClampNeg (nI v)) fun V2 => some (U.1 1 (mX5_at (nI f) 1).toNatClampNeg, V2))) = some (r, U2) from y2]; rfl
      · have e' : a2 = 2 := e
        subst e'
        simp only [q21, q22, ite_true, ite_false]
        rcases f_in a3 0 9 0 9 rfl rfl with ⟨b1, b2⟩ | ⟨b1, b2, b3, b4⟩
        · rw [b1, b2, if_pos rfl, if_pos rfl, e1, e2]
          exact ⟨_, V', U', rfl, rfl, h'⟩
        · rw [b3, b4, if_neg g_10, if_neg g_10]
          obtain ⟨v, hv1, hv2, rfl⟩ := g_rng b1 b2 0 9 rfl rfl (by omega) (by omega)
          obtain ⟨r, V2, U2, y1, y2, y3⟩ := fin 2 (nI v) (.inr (.inl rfl)) (by
            unfold wfF
            rw [upw 2 _ 0 (by omega) (by omega), upw 2 _ 1 (by omega) (by omega), upw 2 _ 2 (by omega) (by omega), upw 2 _ 3 (by omega) (by omega), upw 2 _ 4 (by omega) (by omega), upw 2 _ 5 (by omega) (by omega), upw 2 _ 6 (by omega) (by omega)]
            exact ⟨hw.1, hw.2.1, isN_nI hv2 (by omega), hw.2.2.2⟩) x2
          refine ⟨r, V2, U2, ?_, ?_, y3⟩
          · rw [show (jg (jin (nI f) 14) (jl (jsI V 4 (nI f).toNatClampNeg (nI v)) fun V2 => some (V.1 4 (nI f).toNatClampNeg, V2))) = some (r, V2) from y1]; rfl
          · rw [show (jg (jin (mX5_at (nI f) 2) 120) (jl (jsI U 1 (mX5_at (nI f) 2).toNatClampNeg (nI v)) fun V2 => some (U.1 1 (mX5_at (nI f) 2).toNatClampNeg, V2))) = some (r, U2) from y2]; rfl
      · have e' : a2 = 3 := e
        subst e'
        simp only [q31, q32, q33, ite_true, ite_false]
        rcases f_in a3 0 16383 0 16383 rfl rfl with ⟨b1, b2⟩ | ⟨b1, b2, b3, b4⟩
        · rw [b1, b2, if_pos rfl, if_pos rfl, e1, e2]
          exact ⟨_, V', U', rfl, rfl, h'⟩
        · rw [b3, b4, if_neg g_10, if_neg g_10]
          obtain ⟨v, hv1, hv2, rfl⟩ := g_rng b1 b2 0 16383 rfl rfl (by omega) (by omega)
          obtain ⟨r, V2, U2, y1, y2, y3⟩ := fin 3 (nI v) (.inr (.inr rfl)) (by
            unfold wfF
            rw [upw 3 _ 0 (by omega) (by omega), upw 3 _ 1 (by omega) (by omega), upw 3 _ 2 (by omega) (by omega), upw 3 _ 3 (by omega) (by omega), upw 3 _ 4 (by omega) (by omega), upw 3 _ 5 (by omega) (by omega), upw 3 _ 6 (by omega) (by omega)]
            exact ⟨hw.1, hw.2.1, hw.2.2.1, isN_nI hv2 (by omega), hw.2.2.2.2⟩) x3
          refine ⟨r, V2, U2, ?_, ?_, y3⟩
          · rw [show (jg (jin (nI f) 14) (jl (jsI V 5 (nI f).toNatClampNeg (nI v)) fun V2 => some (V.1 5 (nI f).toNatClampNeg, V2))) = some (r, V2) from y1]; rfl
          · rw [show (jg (jin (mX5_at (nI f) 3) 120) (jl (jsI U 1 (mX5_at (nI f) 3).toNatClampNeg (nI v)) fun V2 => some (U.1 1 (mX5_at (nI f) 3).toNatClampNeg, V2))) = some (r, U2) from y2]; rfl
/-- a number of the row that is no field's and no strip's: month, rules, the rival's number -/
theorem row_ok (h : Rel V U) {k : Nat} {x : Int32} (hk : 2 ≤ k) (hk2 : k ≤ 7) (hl : (k = 2 → isN x 99) ∧ (k = 3 → isN x 100) ∧ (k = 4 → isN x 9) ∧ (k = 5 → isN x 999) ∧ (k = 6 → isN x 9)) (c p : Nat) (hcp : (k = 2 ∧ c = 1 ∧ p = 10) ∨ (k = 7 ∧ c = 1 ∧ p = 12) ∨ (3 ≤ k ∧ k ≤ 6 ∧ c = 8 ∧ p = k - 3)) : Rel (jsI V c p x) (jsI U 1 k x) := by
  have hx := h.xl
  have w := h.wf
  refine Rel_land h ⟨?_, ?_⟩ (fun j hj => by rw [s1_eq, if_neg (by omega)]) (fun j hj => rfl) (fun j hj => by rw [s1_eq, if_neg hj]) rfl rfl
  · show XL _ _ _ _ _ _ _ _ _ _ _ (upd (U.1 1) k x) _
    have g0 : gN (upd (U.1 1) k x) = gN (U.1 1) := by unfold gN; rw [u_eq, if_neg (by omega)]
    have g1 : gM (upd (U.1 1) k x) = gM (U.1 1) := by unfold gM; rw [u_eq, if_neg (by omega)]
    have gf : ∀ f v, gF (upd (U.1 1) k x) f v = gF (U.1 1) f v := fun f v => by unfold gF; rw [u_eq, if_neg (by omega)]
    have gt : ∀ t, gT (upd (U.1 1) k x) t = gT (U.1 1) t := fun t => by unfold gT; rw [u_eq, if_neg (by omega)]
    have gr : ∀ t, gR (upd (U.1 1) k x) t = gR (U.1 1) t := fun t => by unfold gR; rw [u_eq, if_neg (by omega)]
    have hs := sets_same (s := U.1 1) (s' := upd (U.1 1) k x) (n := gN (U.1 1)) (fun i hi => by rw [gf, gf]; exact ⟨rfl, rfl⟩)
    obtain ⟨a0, a5, a6, a7, a10, asp, a12, a14, b1, b2, b3, b4⟩ := hx
    have ro : ∀ j, j ≠ 10 → j ≠ 12 → (jsI V c p x).1 1 j = V.1 1 j := fun j q1 q2 => by
      rw [s1_at, if_neg (by omega)]
    unfold XL
    rw [g0, g1, hs.1, hs.2.1, hs.2.2, ro 0 (by omega) (by omega), ro 5 (by omega) (by omega), ro 6 (by omega) (by omega), ro 7 (by omega) (by omega), ro 14 (by omega) (by omega)]
    refine ⟨?_, a5, a6, a7, ?_, asp, ?_, ?_, ?_, ?_, ?_, ?_⟩
    · rw [u_eq, if_neg (by omega)]; exact a0
    · rw [s1_at, u_eq]
      by_cases e : k = 2
      · rw [if_pos e.symm, if_pos (by omega)]
      · rw [if_neg (by omega), if_neg (by omega)]; exact a10
    · rw [s1_at, u_eq]
      by_cases e : k = 7
      · rw [if_pos e.symm, if_pos (by omega)]
      · rw [if_neg (by omega), if_neg (by omega)]; exact a12
    · rw [u_eq, if_neg (by omega)]; exact a14
    · intro f hf
      rw [gf, gf, gf, gf, s1_eq, s1_eq, s1_eq, s1_eq, if_neg (by omega), if_neg (by omega), if_neg (by omega), if_neg (by omega)]
      exact b1 f hf
    · intro f hf
      rw [gf, gf, s1_eq, s1_eq, if_neg (by omega), if_neg (by omega)]
      exact b2 f hf
    · have : ∀ i, i < 4 → V.1 8 i = U.1 1 (3 + i) → (jsI V c p x).1 8 i = upd (U.1 1) k x (3 + i) := by
        intro i hi hq
        rw [s1_at, u_eq]
        by_cases e : k = 3 + i
        · rw [if_pos e.symm, if_pos (by omega)]
        · rw [if_neg (by omega), if_neg (by omega)]; exact hq
      exact ⟨this 0 (by omega) b3.1, this 1 (by omega) b3.2.1, this 2 (by omega) b3.2.2.1, this 3 (by omega) b3.2.2.2⟩
    · intro t ht
      rw [gt, gr, s1_eq, s1_eq, if_neg (by omega), if_neg (by omega)]
      exact b4 t ht
  · show WF (upd (U.1 1) k x)
    have g0 : gN (upd (U.1 1) k x) = gN (U.1 1) := by unfold gN; rw [u_eq, if_neg (by omega)]
    have g1 : gM (upd (U.1 1) k x) = gM (U.1 1) := by unfold gM; rw [u_eq, if_neg (by omega)]
    have gf : ∀ f v, gF (upd (U.1 1) k x) f v = gF (U.1 1) f v := fun f v => by unfold gF; rw [u_eq, if_neg (by omega)]
    have gt : ∀ t, gT (upd (U.1 1) k x) t = gT (U.1 1) t := fun t => by unfold gT; rw [u_eq, if_neg (by omega)]
    have gr : ∀ t, gR (upd (U.1 1) k x) t = gR (U.1 1) t := fun t => by unfold gR; rw [u_eq, if_neg (by omega)]
    obtain ⟨w0, w1, w2, w3, w4, w5, w6, w7, w8⟩ := w
    unfold WF
    rw [g0, g1]
    refine ⟨by rw [u_eq, if_neg (by omega)]; exact w0, by rw [u_eq, if_neg (by omega)]; exact w1, ?_, ?_, ?_, ?_, ?_, ?_, ?_⟩
    · rw [u_eq]; split
      · rename_i e; exact hl.1 e.symm
      · exact w2
    · rw [u_eq]; split
      · rename_i e; exact hl.2.1 e.symm
      · exact w3
    · rw [u_eq]; split
      · rename_i e; exact hl.2.2.1 e.symm
      · exact w4
    · rw [u_eq]; split
      · rename_i e; exact hl.2.2.2.1 e.symm
      · exact w5
    · refine ⟨?_, ?_⟩
      · rw [u_eq]; split
        · rename_i e; exact hl.2.2.2.2 e.symm
        · exact w6.1
      · rw [gCt_congr (q := pPap (U.1 1)) (fun i hi => by unfold pPap; rw [gf])]
        exact w6.2
    · intro f hf
      unfold wfF
      rw [gf, gf, gf, gf, gf, gf, gf]
      exact w7 f hf
    · intro t ht
      unfold wfT
      rw [gt, gr, g0]
      exact w8 t ht
theorem op_seed_ok : op_seed Rel := by
  intro a1 V U h
  have hr := row_ok h (k := 7) (x := a1) (by omega) (by omega) ⟨fun z => by omega, fun z => by omega, fun z => by omega, fun z => by omega, fun z => by omega⟩ 1 12 (.inr (.inl ⟨rfl, rfl, rfl⟩))
  refine ⟨U.1 1 7, jsI V 1 12 a1, jsI U 1 7 a1, ?_, ?_, hr⟩
  · rw [← h.xl.2.2.2.2.2.2.1]; rfl
  · rfl
end OC
