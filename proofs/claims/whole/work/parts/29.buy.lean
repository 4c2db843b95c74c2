/-! rule, offer, claim, county, paper -/
section OD
variable {V U V' U' : jMem}
theorem op_rule_ok : op_rule Rel := by
  intro a1 a2 V U h
  obtain ⟨V', U', e1, e2, h'⟩ := ref_of (-1000000001) 0 (by omega) (by decide) h
  have b3 := h.xl.2.2.2.2.2.2.2.2.2.2.1
  unfold mX4_rule mX5_rule mX4_rule_b22 mX5_rule_b37
  rcases f_in a1 0 3 0 3 rfl rfl with ⟨d1, d2⟩ | ⟨d1, d2, d3, d4⟩
  · rw [d1, d2, if_pos rfl, if_pos rfl, e1, e2]
    exact ⟨_, V', U', rfl, rfl, h'⟩
  · rw [d3, d4, if_neg g_10, if_neg g_10]
    obtain ⟨i, -, hi, rfl⟩ := g_rng d1 d2 0 3 rfl rfl (by omega) (by omega)
    have fin : ∀ (lim : Nat), lim ≤ 999 → jLims i = nI lim → mX5_mostOf (nI i) = nI lim → V.1 8 i = U.1 1 (3 + i) → (∀ v, v ≤ lim → (3 + i = 2 → isN (nI v) 99) ∧ (3 + i = 3 → isN (nI v) 100) ∧ (3 + i = 4 → isN (nI v) 9) ∧ (3 + i = 5 → isN (nI v) 999) ∧ (3 + i = 6 → isN (nI v) 9)) → ∃ (r : Int32) (V' U' : jMem), jg (jin (nI i) 4) (if (mX4_isWithin a2 0 (jLims (nI i).toNatClampNeg)) = 0 then ((mX4_refuse (-1000000001) V).bind (fun p1 => some (p1.1, p1.2))) else ((mX4_swap 8 4 (nI i) a2 V).bind (fun p4 => some (p4.1, p4.2)))) = some (r, V') ∧ (if (mX5_isIn (Int32.toInt64 a2) 0 (Int32.toInt64 (mX5_mostOf (nI i)))) = 0 then ((mX5_finds (-1000000001) U).bind (fun p1 => some (p1.1, p1.2))) else ((mX5_becomes (3 + nI i) a2 U).bind (fun p3 => some (p3.1, p3.2)))) = some (r, U') ∧ Rel V' U' := by
      intro lim hlim hj hmo hx hv
      rw [g_jin (show i < 4 by omega) (by omega), jg_t, g_cl (by omega), hj, hmo]
      rcases f_in a2 0 (nI lim) 0 (Int32.toInt64 (nI lim)) rfl rfl with ⟨b1, b2⟩ | ⟨b1, b2, b3, b4⟩
      · rw [b1, b2, if_pos rfl, if_pos rfl, e1, e2]
        exact ⟨_, V', U', rfl, rfl, h'⟩
      · rw [b3, b4, if_neg g_10, if_neg g_10]
        obtain ⟨v, -, hv2, rfl⟩ := g_rng b1 b2 0 lim rfl rfl (by omega) (by omega)
        have hr := row_ok h (k := 3 + i) (x := nI v) (by omega) (by omega) (hv v hv2) 8 i (.inr (.inr ⟨by omega, by omega, rfl, by omega⟩))
        refine ⟨U.1 1 (3 + i), _, _, ?_, ?_, hr⟩
        · unfold mX4_swap
          rw [g_jin (show i < 4 by omega) (by omega), jg_t, jl_eq, g_cl (by omega), hx]; rfl
        · unfold mX5_becomes
          have e3 : (3 : Int32) + nI i = nI (3 + i) := nI_add 3 i
          rw [e3, g_jin (show 3 + i < 120 by omega) (by omega), jg_t, jl_eq, g_cl (by omega)]; rfl
    have : i = 0 ∨ i = 1 ∨ i = 2 ∨ i = 3 := by omega
    rcases this with rfl | rfl | rfl | rfl
    · exact fin 100 (by omega) rfl rfl b3.1 (fun v hv => ⟨fun z => by omega, fun z => isN_nI hv (by omega), fun z => by omega, fun z => by omega, fun z => by omega⟩)
    · exact fin 9 (by omega) rfl rfl b3.2.1 (fun v hv => ⟨fun z => by omega, fun z => by omega, fun z => isN_nI hv (by omega), fun z => by omega, fun z => by omega⟩)
    · exact fin 999 (by omega) rfl rfl b3.2.2.1 (fun v hv => ⟨fun z => by omega, fun z => by omega, fun z => by omega, fun z => isN_nI hv (by omega), fun z => by omega⟩)
    · exact fin 9 (by omega) rfl rfl b3.2.2.2 (fun v hv => ⟨fun z => by omega, fun z => by omega, fun z => by omega, fun z => by omega, fun z => isN_nI hv (by omega)⟩)
def xBuy (f : Nat) (p : Int32) (V : jMem) : jMem := jsL (jsI (jsI V 1 5 (V.1 1 5 ||| nI (2 ^ f))) 1 7 (V.1 1 7 &&& (nI (2 ^ f) ^^^ -1))) 1 11 (V.2 1 11 + Int32.toInt64 p)
theorem x_buy {f : Nat} (hf : f < 31) (p : Int32) (V : jMem) : mX0_buy (nI f) p V = some (xBuy f p V) := by
  unfold mX0_buy mX0_dropPaper
  rw [g_one f hf]; rfl
theorem buy_ok (h : Rel V U) {f : Nat} (hf : f < gN (U.1 1)) (hfree : gF (U.1 1) f 4 = 0) (p : Int32) (hr : ∀ k, U'.1 1 k = if k = 10 + 7 * f + 4 then 1 else if k = 10 + 7 * f + 5 then -1 else U.1 1 k) (ho : ∀ j, j ≠ 1 → U'.1 j = U.1 j) (hs : U'.2 0 3 = U.2 0 3 + Int32.toInt64 p) (hs4 : U'.2 0 4 = U.2 0 4) (hs8 : U'.2 8 = U.2 8) : Rel (xBuy f p V) U' := by
  have hx := h.xl
  have hn := h.n
  have he : ∀ k, (k < 10 + 7 * f ∨ 17 + 7 * f ≤ k) → U'.1 1 k = U.1 1 k := fun k hk => by rw [hr, if_neg (by omega), if_neg (by omega)]
  have gf : ∀ g v, v < 7 → gF (U'.1 1) g v = if g = f ∧ v = 4 then 1 else if g = f ∧ v = 5 then -1 else gF (U.1 1) g v := by
    intro g v hv
    unfold gF
    rw [hr]
    by_cases z1 : g = f ∧ v = 4
    · rw [if_pos z1, if_pos (by omega)]
    · rw [if_neg z1, if_neg (by omega)]
      by_cases z2 : g = f ∧ v = 5
      · rw [if_pos z2, if_pos (by omega)]
      · rw [if_neg z2, if_neg (by omega)]
  have hw := h.wf.f hf
  have f0 : gF (U'.1 1) f 0 = gF (U.1 1) f 0 := by rw [gf f 0 (by omega), if_neg (by omega), if_neg (by omega)]
  have f1 : gF (U'.1 1) f 1 = gF (U.1 1) f 1 := by rw [gf f 1 (by omega), if_neg (by omega), if_neg (by omega)]
  have f2 : gF (U'.1 1) f 2 = gF (U.1 1) f 2 := by rw [gf f 2 (by omega), if_neg (by omega), if_neg (by omega)]
  have f3 : gF (U'.1 1) f 3 = gF (U.1 1) f 3 := by rw [gf f 3 (by omega), if_neg (by omega), if_neg (by omega)]
  have f4 : gF (U'.1 1) f 4 = 1 := by rw [gf f 4 (by omega), if_pos ⟨rfl, rfl⟩]
  have f5 : gF (U'.1 1) f 5 = -1 := by rw [gf f 5 (by omega), if_neg (by omega), if_pos ⟨rfl, rfl⟩]
  have f6 : gF (U'.1 1) f 6 = gF (U.1 1) f 6 := by rw [gf f 6 (by omega), if_neg (by omega), if_neg (by omega)]
  have o4 : ∀ g, g ≠ f → gF (U'.1 1) g 4 = gF (U.1 1) g 4 := fun g hg => by rw [gf g 4 (by omega), if_neg (by omega), if_neg (by omega)]
  have o5 : ∀ g, g ≠ f → gF (U'.1 1) g 5 = gF (U.1 1) g 5 := fun g hg => by rw [gf g 5 (by omega), if_neg (by omega), if_neg (by omega)]
  have hcn : gCt (pPap (U'.1 1)) (gN (U.1 1)) ≤ 6 := by
    refine Nat.le_trans (gCt_mono (fun i hi => ?_)) h.wf.2.2.2.2.2.2.1.2
    unfold pPap
    by_cases e : i = f
    · subst e; rw [f5]; intro z; exact absurd z (by decide)
    · rw [o5 i e]; exact id
  refine Rel_land h ⟨?_, wf_field h.wf hf he hcn ?_⟩ (fun j hj => ?_) (fun j hj => ?_) ho hs8 hs4
  · refine xl_field hx hn.2.2 hf he ⟨rfl, rfl, rfl, rfl⟩ ?_ ?_ ?_ ?_ (fun g hg => ⟨rfl, rfl, rfl, rfl, rfl, rfl⟩) ?_ ?_
    · show V.1 1 5 ||| nI (2 ^ f) = _
      rw [hx.2.1, g_or]
      congr 1
      refine (gSet_on hf (fun i hi => ?_)).symm
      unfold pOurs
      by_cases e : i = f
      · subst e; rw [f4]; simp
      · rw [o4 i e]; simp [e]
    · refine hx.2.2.1.trans ?_
      congr 1
      refine gSet_congr (fun i hi => ?_)
      unfold pLost
      by_cases e : i = f
      · subst e; rw [f4, hfree]; decide
      · rw [o4 i e]
    · show V.1 1 7 &&& (nI (2 ^ f) ^^^ -1) = _
      rw [hx.2.2.2.1, g_diff]
      congr 1
      refine (gSet_off (fun i hi => ?_)).symm
      unfold pPap
      by_cases e : i = f
      · subst e; rw [f5]; simp
      · rw [o5 i e]; simp [e]
    · show V.2 1 11 + _ = _
      rw [hs, hx.2.2.2.2.2.1]
    · rw [f0, f1, f2, f3]; exact hx.2.2.2.2.2.2.2.2.1 f hf
    · intro hp; rw [f5] at hp; exact absurd (by decide) hp
  · unfold wfF
    rw [f0, f1, f2, f3, f4, f5, f6]
    exact ⟨hw.1, hw.2.1, hw.2.2.1, hw.2.2.2.1, isN_nI (k := 1) (by omega) (by omega), .inl rfl, hw.2.2.2.2.2.2⟩
  · show (jsI (jsI V 1 5 _) 1 7 _).1 j = V.1 j
    rw [s1_eq, if_neg (by omega), s1_eq, if_neg (by omega)]
  · show (jsL _ 1 11 _).2 j = V.2 j
    rw [s2_eq, if_neg hj]; rfl
theorem p_free0 {s : Nat → Int32} {f : Nat} (h : pFree s f = true) : gF s f 4 = 0 := of_decide_eq_true h
/-- a bid, on a FREE field -/
theorem bid_ok (h : Rel V U) {f p : Nat} (hf : f < gN (U.1 1)) (hfree : pFree (U.1 1) f = true) (hp : p ≤ 99999) : ∃ (r : Int32) (V' U' : jMem), (r = 0 ∨ r = 1) ∧ mX0_bid (nI f) (nI p) V = some (r, V') ∧ mX5_offered (nI f) (nI p) U = some (r, U') ∧ Rel V' U' := by
  have hn := h.n
  have ha := gAsk_le h.wf hf (gOurs (U.1 1))
  have hw := h.wf.f hf
  have hy := hw.2.2.1
  have hy2 := hy.2
  have e : (nI p < nI (gNow (U.1 1) f)) ↔ p < gNow (U.1 1) f := nI_ltI (by omega) (by unfold gNow; omega)
  unfold mX0_bid mX5_offered
  rw [x_now h.xv h.wf hf, m_now h.wf hf, Option.bind_some, Option.bind_some]
  simp only [e]
  by_cases hlt : p < gNow (U.1 1) f
  · rw [if_pos hlt, if_pos hlt, g_jin (show f < 14 by omega) (by omega), jg_t, jl_eq, g_cl (by omega), (h.xv.f hf).2.2.1, m_has2 (by omega), Option.bind_some]
    have hv : mX4_wareOf (gF (U.1 1) f 2) 1 = nI (gWare (nn (gF (U.1 1) f 2)) 1) := by
      have := x_ware (y := nn (gF (U.1 1) f 2)) (h := 1) (by omega) (by omega)
      rw [← hy.1] at this
      exact this
    have hm : (if (9 : Int32) ≤ gF (U.1 1) f 2 then mX5_offered_b77 9 (mX5_at (nI f) 2) U else mX5_offered_b77 (gF (U.1 1) f 2 + 1) (mX5_at (nI f) 2) U) = some (0, jsI U 1 (10 + 7 * f + 2) (nI (gWare (nn (gF (U.1 1) f 2)) 1))) := by
      have q : ((9 : Int32) ≤ nI (nn (gF (U.1 1) f 2))) ↔ 9 ≤ nn (gF (U.1 1) f 2) := nI_leI (a := 9) (by omega) (by omega)
      unfold mX5_offered_b77
      rw [m_at2, g_jin (show 10 + 7 * f + 2 < 120 by omega) (by omega), jg_t, jg_t, jl_eq, jl_eq, g_cl (by omega), hy.1]
      simp only [q, nI_1]
      rw [← hy.1]
      unfold gWare
      by_cases z : 9 ≤ nn (gF (U.1 1) f 2)
      · rw [if_pos z, if_neg (by omega)]; rfl
      · rw [if_neg z]
        by_cases z2 : nn (gF (U.1 1) f 2) + 1 < 9
        · rw [if_pos z2]
        · rw [if_neg z2, show nn (gF (U.1 1) f 2) + 1 = 9 by omega]
    rw [hm, hv]
    refine ⟨0, _, _, .inl rfl, rfl, rfl, set_ok h hf (.inr (.inl rfl)) ?_⟩
    have upw : ∀ (k : Nat), k < 7 → gF (upd (U.1 1) (10 + 7 * f + 2) (nI (gWare (nn (gF (U.1 1) f 2)) 1))) f k = if k = 2 then nI (gWare (nn (gF (U.1 1) f 2)) 1) else gF (U.1 1) f k := by
      intro k h2
      rw [gF_upd (by omega) h2]
      by_cases e : k = 2
      · rw [if_pos ⟨rfl, e⟩, if_pos e]
      · rw [if_neg (fun z => e z.2), if_neg e]
    unfold wfF
    rw [upw 0 (by omega), upw 1 (by omega), upw 2 (by omega), upw 3 (by omega), upw 4 (by omega), upw 5 (by omega), upw 6 (by omega)]
    exact ⟨hw.1, hw.2.1, isN_nI (gWare_le _ _) (by omega), hw.2.2.2⟩
  · rw [if_neg hlt, if_neg hlt, x_buy (by omega), m_at4, m_at5, g_jin (show 10 + 7 * f + 4 < 120 by omega) (by omega), jg_t, jl_eq, g_jin (show 10 + 7 * f + 5 < 120 by omega) (by omega), jg_t, jl_eq, jl_eq, g_cl (by omega), g_cl (by omega)]
    refine ⟨1, _, _, .inr rfl, rfl, rfl, buy_ok h hf (p_free0 hfree) (nI p) ?_ ?_ rfl rfl rfl⟩
    · intro k
      show (jsI (jsI U 1 (10 + 7 * f + 4) 1) 1 (10 + 7 * f + 5) (-1)).1 1 k = _
      rw [s1_at, s1_at]
      by_cases z1 : k = 10 + 7 * f + 4
      · rw [if_neg (by omega), if_pos ⟨rfl, z1⟩, if_pos z1]
      · rw [if_neg z1]
        by_cases z2 : k = 10 + 7 * f + 5
        · rw [if_pos ⟨rfl, z2⟩, if_pos z2]
        · rw [if_neg (fun y => z2 y.2), if_neg (fun y => z1 y.2), if_neg z2]
    · intro j hj
      show (jsI (jsI U 1 (10 + 7 * f + 4) 1) 1 (10 + 7 * f + 5) (-1)).1 j = _
      rw [s1_eq, if_neg hj, s1_eq, if_neg hj]
theorem op_offer_ok : op_offer Rel := by
  intro a1 a2 V U h
  obtain ⟨V', U', e1, e2, h'⟩ := ref_of (-1000000001) 0 (by omega) (by decide) h
  obtain ⟨V5, U5, e3, e4, h5⟩ := ref_of (-1000000005) 4 (by omega) (by decide) h
  unfold mX4_offer mX5_offer mX4_offer_b21 mX5_offer_b21
  rcases f_ix h a1 with ⟨c1, c2⟩ | ⟨f, hf, rfl, c1, c2⟩
  · rw [if_pos c1, if_pos c2, e1, e2]; exact ⟨_, V', U', rfl, rfl, h'⟩
  · rw [c1, c2, if_neg g_10, if_neg g_10]
    rcases f_in a2 0 99999 0 99999 rfl rfl with ⟨d1, d2⟩ | ⟨d1, d2, d3, d4⟩
    · rw [d1, d2, if_pos rfl, if_pos rfl, e1, e2]
      exact ⟨_, V', U', rfl, rfl, h'⟩
    · rw [d3, d4, if_neg g_10, if_neg g_10]
      obtain ⟨p, -, hp, rfl⟩ := g_rng d1 d2 0 99999 rfl rfl (by omega) (by omega)
      rw [x_isFree h.xv h.wf hf, m_isFree h.wf hf, Option.bind_some]
      by_cases hfree : pFree (U.1 1) f = true
      · rw [if_pos hfree, if_neg g_10, if_neg g_10]
        obtain ⟨r, V2, U2, hr, b1, b2, b3⟩ := bid_ok h hf hfree hp
        rw [b1, b2]
        rcases hr with rfl | rfl
        · exact ⟨0, V2, U2, rfl, rfl, b3⟩
        · exact ⟨1, V2, U2, rfl, rfl, b3⟩
      · rw [if_neg hfree, if_pos rfl, if_pos rfl, e3, e4]
        exact ⟨_, V5, U5, rfl, rfl, h5⟩
end OD
