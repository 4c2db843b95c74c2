/-! claim, county, paper -/
section OE
variable {V U V' U' : jMem}
theorem p_pap1 {s : Nat → Int32} {f : Nat} (h : wfF s f) (hp : pPap s f = true) : isN (gF s f 5) 99999 ∧ gF s f 4 = 0 := by
  have hz : ¬ gF s f 5 < 0 := of_decide_eq_true hp
  rcases h.2.2.2.2.2.1 with e | e
  · rw [e] at hz; exact absurd (by decide) hz
  · exact e
theorem op_claim_ok : op_claim Rel := by
  intro a1 V U h
  obtain ⟨V', U', e1, e2, h'⟩ := ref_of (-1000000001) 0 (by omega) (by decide) h
  obtain ⟨V4, U4, e3, e4, h4⟩ := ref_of (-1000000004) 3 (by omega) (by decide) h
  have hn := h.n
  unfold mX4_claim mX5_claim
  rcases f_ix h a1 with ⟨c1, c2⟩ | ⟨f, hf, rfl, c1, c2⟩
  · rw [if_pos c1, if_pos c2, e1, e2]; exact ⟨_, V', U', rfl, rfl, h'⟩
  · rw [c1, c2, if_neg g_10, if_neg g_10]
    have hw := h.wf.f hf
    rw [x_pap h.xv h.wf hf, m_has5 (by omega), Option.bind_some, g_jin (show f < 14 by omega) (by omega), jg_t, g_cl (by omega)]
    by_cases z : gF (U.1 1) f 5 < 0
    · have z2 : ¬ (0 ≤ gF (U.1 1) f 5) := by
        rw [Int32.le_iff_toInt_le]; rw [Int32.lt_iff_toInt_lt] at z; omega
      have z3 : pPap (U.1 1) f = false := decide_eq_false (fun y => y z)
      rw [z3, if_neg (by decide : ¬ (false = true)), if_pos rfl, if_neg z2, e3, e4]
      exact ⟨_, V4, U4, rfl, rfl, h4⟩
    · have z2 : (0 ≤ gF (U.1 1) f 5) := by
        rw [Int32.le_iff_toInt_le]; rw [Int32.lt_iff_toInt_lt] at z; omega
      have z3 : pPap (U.1 1) f = true := decide_eq_true z
      obtain ⟨y1, y2⟩ := h.xl.2.2.2.2.2.2.2.2.2.1 f hf z
      rw [z3, if_pos rfl, if_neg g_10, if_pos z2, y1, x_buy (by omega), Option.bind_some, m_at4, m_at5, g_jin (show 10 + 7 * f + 5 < 120 by omega) (by omega), jg_t, jl_eq, g_jin (show 10 + 7 * f + 4 < 120 by omega) (by omega), jg_t, jl_eq, jl_eq, g_cl (by omega), g_cl (by omega)]
      refine ⟨gF (U.1 1) f 5, _, _, ?_, rfl, buy_ok h hf (p_pap1 hw z3).2 (gF (U.1 1) f 5) ?_ ?_ rfl rfl rfl⟩
      · rw [← y1]; rfl
      · intro k
        show (jsI (jsI U 1 (10 + 7 * f + 5) (-1)) 1 (10 + 7 * f + 4) 1).1 1 k = _
        rw [s1_at, s1_at]
        by_cases z1 : k = 10 + 7 * f + 4
        · rw [if_pos ⟨rfl, z1⟩, if_pos z1]
        · rw [if_neg (fun y => z1 y.2), if_neg z1]
          by_cases z2 : k = 10 + 7 * f + 5
          · rw [if_pos ⟨rfl, z2⟩, if_pos z2]
          · rw [if_neg (fun y => z2 y.2), if_neg z2]
      · intro j hj
        show (jsI (jsI U 1 (10 + 7 * f + 5) (-1)) 1 (10 + 7 * f + 4) 1).1 j = _
        rw [s1_eq, if_neg hj, s1_eq, if_neg hj]
theorem op_county_ok : op_county Rel := by
  intro a1 V U h
  obtain ⟨V', U', e1, e2, h'⟩ := ref_of (-1000000001) 0 (by omega) (by decide) h
  obtain ⟨V4, U4, e3, e4, h4⟩ := ref_of (-1000000004) 3 (by omega) (by decide) h
  obtain ⟨V5, U5, e5, e6, h5⟩ := ref_of (-1000000005) 4 (by omega) (by decide) h
  have hn := h.n
  have b3 := h.xl.2.2.2.2.2.2.2.2.2.2.1
  unfold mX4_county mX5_county
  rcases f_ix h a1 with ⟨c1, c2⟩ | ⟨f, hf, rfl, c1, c2⟩
  · rw [if_pos c1, if_pos c2, e1, e2]; exact ⟨_, V', U', rfl, rfl, h'⟩
  · rw [c1, c2, if_neg g_10, if_neg g_10]
    rw [x_isFree h.xv h.wf hf, m_isFree h.wf hf, Option.bind_some]
    by_cases hfree : pFree (U.1 1) f = true
    · rw [if_pos hfree, if_neg g_10, if_neg g_10, b3.2.2.2, b3.2.2.1]
      by_cases hz : U.1 1 6 = 0
      · rw [if_pos hz, if_pos hz, e3, e4]
        exact ⟨_, V4, U4, rfl, rfl, h4⟩
      · rw [if_neg hz, if_neg hz, g_jin (show f < 14 by omega) (by omega), jg_t, g_cl (by omega), (h.xv.f hf).2.1, m_has1 (by omega), Option.bind_some, jl_eq, jl_eq, jl_eq]
        have h6 := h.wf.2.2.2.2.2.2.1.1
        have hr := row_ok h (k := 6) (x := U.1 1 6 - 1) (by omega) (by omega) ⟨fun z => by omega, fun z => by omega, fun z => by omega, fun z => by omega, fun z => by
          obtain ⟨k, hk, e⟩ := isN_ex h6
          rw [e]
          have : k ≠ 0 := fun z => hz (by rw [e, z]; rfl)
          have e1 : nI k - 1 = nI (k - 1) := pk_sub (b := 1) (by omega)
          rw [e1]
          exact isN_nI (by omega) (by omega)⟩ 8 3 (.inr (.inr ⟨by omega, by omega, rfl, rfl⟩))
        have hN : gN ((jsI U 1 6 (U.1 1 6 - 1)).1 1) = gN (U.1 1) := rfl
        have hG : ∀ w, gF ((jsI U 1 6 (U.1 1 6 - 1)).1 1) f w = gF (U.1 1) f w := fun w => by
          unfold gF; rw [s1_at, if_neg (by omega)]
        generalize hv : (gF (U.1 1) f 1 * U.1 1 5) / 100 = pr
        rw [x_buy (by omega), Option.bind_some, m_at4, m_at5, g_jin (show 10 + 7 * f + 4 < 120 by omega) (by omega), jg_t, jl_eq, g_jin (show 10 + 7 * f + 5 < 120 by omega) (by omega), jg_t, jl_eq, jl_eq, g_cl (by omega), g_cl (by omega)]
        refine ⟨pr, _, _, rfl, rfl, buy_ok hr (by rw [hN]; exact hf) (by rw [hG]; exact p_free0 hfree) pr ?_ ?_ rfl rfl rfl⟩
        · intro k
          show (jsI (jsI (jsI U 1 6 (U.1 1 6 - 1)) 1 (10 + 7 * f + 4) 1) 1 (10 + 7 * f + 5) (-1)).1 1 k = _
          rw [s1_at, s1_at]
          by_cases z1 : k = 10 + 7 * f + 4
          · rw [if_neg (by omega), if_pos ⟨rfl, z1⟩, if_pos z1]
          · rw [if_neg z1]
            by_cases z2 : k = 10 + 7 * f + 5
            · rw [if_pos ⟨rfl, z2⟩, if_pos z2]
            · rw [if_neg (fun y => z2 y.2), if_neg (fun y => z1 y.2), if_neg z2]
        · intro j hj
          show (jsI (jsI (jsI U 1 6 (U.1 1 6 - 1)) 1 (10 + 7 * f + 4) 1) 1 (10 + 7 * f + 5) (-1)).1 j = (jsI U 1 6 (U.1 1 6 - 1)).1 j
          rw [s1_eq, if_neg hj, s1_eq, if_neg hj]
    · rw [if_neg hfree, if_pos rfl, if_pos rfl, e5, e6]
      exact ⟨_, V5, U5, rfl, rfl, h5⟩
theorem g_paper {p : Nat} (hp : p ≤ 99999) : mX4_paperCost (nI p) = mX5_paperFor (nI p) := by
  have d : nI p / 10 = nI (p / 10) := pk_div (d := 10) (by omega) (by omega) (by omega)
  have q1 : ((1 : Int32) < nI (p / 10)) ↔ 1 < p / 10 := nI_ltI (a := 1) (by omega) (by omega)
  have q2 : ((10 : Int32) ≤ nI p) ↔ 10 ≤ p := nI_leI (a := 10) (by omega) (by omega)
  unfold mX4_paperCost mX5_paperFor
  rw [d]
  simp only [q1, q2]
  by_cases h1 : 1 < p / 10
  · rw [if_pos h1, if_pos (by omega)]
  · rw [if_neg h1]
    by_cases h2 : 10 ≤ p
    · rw [if_pos h2, show p / 10 = 1 by omega]; rfl
    · rw [if_neg h2]
def mPap (f : Nat) (pr ti co : Int32) (U : jMem) : jMem := jsL (jsI (jsI U 1 (10 + 7 * f + 5) pr) 1 (10 + 7 * f + 6) ti) 0 3 (U.2 0 3 + Int32.toInt64 co)
def xPap (f : Nat) (pr ti co : Int32) (V : jMem) : jMem := jsL (jsI (jsI (jsI V 1 7 (V.1 1 7 ||| nI (2 ^ f))) 6 f pr) 7 f ti) 1 11 (V.2 1 11 + Int32.toInt64 co)
theorem paper_ok (h : Rel V U) {f pr ti : Nat} (hf : f < gN (U.1 1)) (hfree : gF (U.1 1) f 4 = 0) (hz : gF (U.1 1) f 5 < 0) (hpr : pr ≤ 99999) (hti : ti ≤ 99) (hc : gCt (pPap (U.1 1)) (gN (U.1 1)) < 6) (co : Int32) : Rel (xPap f (nI pr) (nI ti) co V) (mPap f (nI pr) (nI ti) co U) := by
  have hx := h.xl
  have hn := h.n
  have hw := h.wf.f hf
  have hr : ∀ k, (mPap f (nI pr) (nI ti) co U).1 1 k = if k = 10 + 7 * f + 5 then nI pr else if k = 10 + 7 * f + 6 then nI ti else U.1 1 k := by
    intro k
    show (jsI (jsI U 1 (10 + 7 * f + 5) (nI pr)) 1 (10 + 7 * f + 6) (nI ti)).1 1 k = _
    rw [s1_at, s1_at]
    by_cases z1 : k = 10 + 7 * f + 5
    · rw [if_neg (by omega), if_pos ⟨rfl, z1⟩, if_pos z1]
    · rw [if_neg z1]
      by_cases z2 : k = 10 + 7 * f + 6
      · rw [if_pos ⟨rfl, z2⟩, if_pos z2]
      · rw [if_neg (fun y => z2 y.2), if_neg (fun y => z1 y.2), if_neg z2]
  have he : ∀ k, (k < 10 + 7 * f ∨ 17 + 7 * f ≤ k) → (mPap f (nI pr) (nI ti) co U).1 1 k = U.1 1 k := fun k hk => by rw [hr, if_neg (by omega), if_neg (by omega)]
  have gf : ∀ g v, v < 7 → gF ((mPap f (nI pr) (nI ti) co U).1 1) g v = if g = f ∧ v = 5 then nI pr else if g = f ∧ v = 6 then nI ti else gF (U.1 1) g v := by
    intro g v hv
    unfold gF
    rw [hr]
    by_cases z1 : g = f ∧ v = 5
    · rw [if_pos z1, if_pos (by omega)]
    · rw [if_neg z1, if_neg (by omega)]
      by_cases z2 : g = f ∧ v = 6
      · rw [if_pos z2, if_pos (by omega)]
      · rw [if_neg z2, if_neg (by omega)]
  generalize hU' : mPap f (nI pr) (nI ti) co U = U' at *
  have f0 : gF (U'.1 1) f 0 = gF (U.1 1) f 0 := by rw [gf f 0 (by omega), if_neg (by omega), if_neg (by omega)]
  have f1 : gF (U'.1 1) f 1 = gF (U.1 1) f 1 := by rw [gf f 1 (by omega), if_neg (by omega), if_neg (by omega)]
  have f2 : gF (U'.1 1) f 2 = gF (U.1 1) f 2 := by rw [gf f 2 (by omega), if_neg (by omega), if_neg (by omega)]
  have f3 : gF (U'.1 1) f 3 = gF (U.1 1) f 3 := by rw [gf f 3 (by omega), if_neg (by omega), if_neg (by omega)]
  have f4 : gF (U'.1 1) f 4 = gF (U.1 1) f 4 := by rw [gf f 4 (by omega), if_neg (by omega), if_neg (by omega)]
  have f5 : gF (U'.1 1) f 5 = nI pr := by rw [gf f 5 (by omega), if_pos ⟨rfl, rfl⟩]
  have f6 : gF (U'.1 1) f 6 = nI ti := by rw [gf f 6 (by omega), if_neg (by omega), if_pos ⟨rfl, rfl⟩]
  have o4 : ∀ g, gF (U'.1 1) g 4 = gF (U.1 1) g 4 := fun g => by rw [gf g 4 (by omega), if_neg (by omega), if_neg (by omega)]
  have o5 : ∀ g, g ≠ f → gF (U'.1 1) g 5 = gF (U.1 1) g 5 := fun g hg => by rw [gf g 5 (by omega), if_neg (by omega), if_neg (by omega)]
  have pp : ∀ i, pPap (U'.1 1) i = (pPap (U.1 1) i || decide (i = f)) := by
    intro i
    unfold pPap
    by_cases e : i = f
    · subst e
      rw [f5, decide_eq_true (nI_pos (by omega)), decide_eq_true rfl, Bool.or_true]
    · rw [o5 i e, decide_eq_false e, Bool.or_false]
  have pf : pPap (U.1 1) f = false := decide_eq_false (fun y => y hz)
  have hcn : gCt (pPap (U'.1 1)) (gN (U.1 1)) ≤ 6 := by
    rw [gCt_on pf hf (fun i _ => pp i)]; omega
  have ho : ∀ j, j ≠ 1 → U'.1 j = U.1 j := fun j hj => by
    rw [← hU']
    show (jsI (jsI U 1 _ _) 1 _ _).1 j = _
    rw [s1_eq, if_neg hj, s1_eq, if_neg hj]
  refine Rel_land h ⟨?_, wf_field h.wf hf he hcn ?_⟩ (fun j hj => ?_) (fun j hj => ?_) ho (by rw [← hU']; rfl) (by rw [← hU']; rfl)
  · refine xl_field hx hn.2.2 hf he ⟨rfl, rfl, rfl, rfl⟩ ?_ ?_ ?_ ?_ (fun g hg => ⟨rfl, rfl, rfl, rfl, ?_, ?_⟩) ?_ ?_
    · refine hx.2.1.trans ?_
      congr 1
      exact gSet_congr (fun i hi => by unfold pOurs; rw [o4])
    · refine hx.2.2.1.trans ?_
      congr 1
      exact gSet_congr (fun i hi => by unfold pLost; rw [o4])
    · show V.1 1 7 ||| nI (2 ^ f) = _
      rw [hx.2.2.2.1, g_or]
      congr 1
      exact (gSet_on hf (fun i hi => pp i)).symm
    · rw [← hU']
      show V.2 1 11 + _ = U.2 0 3 + _
      rw [hx.2.2.2.2.2.1]
    · show upd (V.1 6) f (nI pr) g = _
      rw [u_eq, if_neg hg]
    · show upd (V.1 7) f (nI ti) g = _
      rw [u_eq, if_neg hg]
    · rw [f0, f1, f2, f3]; exact hx.2.2.2.2.2.2.2.2.1 f hf
    · intro hp
      rw [f5, f6]
      refine ⟨?_, ?_⟩
      · show upd (V.1 6) f (nI pr) f = _
        rw [u_eq, if_pos rfl]
      · show upd (V.1 7) f (nI ti) f = _
        rw [u_eq, if_pos rfl]
  · unfold wfF
    rw [f0, f1, f2, f3, f4, f5, f6]
    exact ⟨hw.1, hw.2.1, hw.2.2.1, hw.2.2.2.1, hw.2.2.2.2.1, .inr ⟨isN_nI hpr (by omega), hfree⟩, isN_nI hti (by omega)⟩
  · show (jsI (jsI (jsI V 1 7 _) 6 f _) 7 f _).1 j = V.1 j
    rw [s1_eq, if_neg (by omega), s1_eq, if_neg (by omega), s1_eq, if_neg (by omega)]
  · show (jsL _ 1 11 _).2 j = V.2 j
    rw [s2_eq, if_neg hj]; rfl
theorem op_paper_ok : op_paper Rel := by
  intro a1 a2 V U h
  obtain ⟨V', U', e1, e2, h'⟩ := ref_of (-1000000001) 0 (by omega) (by decide) h
  obtain ⟨V2, U2, e3, e4, h2⟩ := ref_of (-1000000002) 1 (by omega) (by decide) h
  obtain ⟨V5, U5, e5, e6, h5⟩ := ref_of (-1000000005) 4 (by omega) (by decide) h
  have hn := h.n
  have hx := h.xl
  have hmo := h.wf.2.2.1
  have hmo2 := hmo.2
  unfold mX4_paper mX5_paper mX4_paper_b27 mX4_paper_b59 mX5_paper_b27 mX5_paper_b51
  rcases f_ix h a1 with ⟨c1, c2⟩ | ⟨f, hf, rfl, c1, c2⟩
  · rw [if_pos c1, if_pos c2, e1, e2]; exact ⟨_, V', U', rfl, rfl, h'⟩
  · rw [c1, c2, if_neg g_10, if_neg g_10, hx.2.2.2.2.1]
    rcases f_in a2 (U.1 1 2) 99 (Int32.toInt64 (U.1 1 2)) 99 rfl rfl with ⟨d1, d2⟩ | ⟨d1, d2, d3, d4⟩
    · rw [d1, d2, if_pos rfl, if_pos rfl, e1, e2]
      exact ⟨_, V', U', rfl, rfl, h'⟩
    · rw [d3, d4, if_neg g_10, if_neg g_10]
      obtain ⟨ti, -, hti, rfl⟩ := g_rng d1 d2 (nn (U.1 1 2)) 99 hmo.1 rfl (by omega) (by omega)
      have hw := h.wf.f hf
      rw [x_isFree h.xv h.wf hf, m_isFree h.wf hf, Option.bind_some, x_pap h.xv h.wf hf, m_has5 (by omega), Option.bind_some, h.xv.pap, g_bcSet hn.2.2, m_papers h.wf, Option.bind_some]
      by_cases hfree : pFree (U.1 1) f = true
      · rw [if_pos hfree, if_neg g_10, if_neg g_10]
        by_cases z : gF (U.1 1) f 5 < 0
        · have z3 : pPap (U.1 1) f = false := decide_eq_false (fun y => y z)
          rw [z3, if_neg (by decide : ¬ (false = true)), if_pos rfl, if_pos z]
          have hc6 := h.wf.2.2.2.2.2.2.1.2
          have q6 : (nI (gCt (pPap (U.1 1)) (gN (U.1 1))) = 6) ↔ gCt (pPap (U.1 1)) (gN (U.1 1)) = 6 := nI_eq (b := 6) (by omega) (by omega)
          have q7 : (nI (gCt (pPap (U.1 1)) (gN (U.1 1))) < 6) ↔ gCt (pPap (U.1 1)) (gN (U.1 1)) < 6 := nI_ltI (b := 6) (by omega) (by omega)
          simp only [q6, q7]
          by_cases hfull : gCt (pPap (U.1 1)) (gN (U.1 1)) = 6
          · rw [if_neg (by omega), if_pos hfull, e3, e4]
            exact ⟨_, V2, U2, rfl, rfl, h2⟩
          · rw [if_pos (by omega), if_neg hfull, m_now h.wf hf, Option.bind_some]
            unfold mX0_takePaper
            have ha := gAsk_le h.wf hf (gOurs (U.1 1))
            rw [x_now h.xv h.wf hf, Option.bind_some, jl_eq, g_jin (show f < 14 by omega) (by omega), jg_t, jl_eq, jl_eq, jl_eq, m_at5, m_at6, g_jin (show 10 + 7 * f + 5 < 120 by omega) (by omega), jg_t, jl_eq, g_jin (show 10 + 7 * f + 6 < 120 by omega) (by omega), jg_t, jl_eq, jl_eq, g_cl (by omega), g_cl (by omega), g_cl (by omega), g_paper (show gNow (U.1 1) f ≤ 99999 by unfold gNow; omega), g_one f (by omega)]
            refine ⟨mX5_paperFor (nI (gNow (U.1 1) f)), _, _, rfl, rfl, paper_ok h hf (p_free0 hfree) z (by unfold gNow; omega) hti (by omega) _⟩
        · have z3 : pPap (U.1 1) f = true := decide_eq_true z
          rw [z3, if_pos rfl, if_neg g_10, if_neg z, e5, e6]
          exact ⟨_, V5, U5, rfl, rfl, h5⟩
      · rw [if_neg hfree, if_pos rfl, if_pos rfl, e5, e6]
        exact ⟨_, V5, U5, rfl, rfl, h5⟩
end OE
