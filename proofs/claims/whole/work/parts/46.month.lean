/-! month -/
section OMo
variable {V U V' U' : jMem}
theorem jsI_self (V : jMem) (j k : Nat) {x : Int32} (hx : x = V.1 j k) : jsI V j k x = V := by
  subst hx
  have : (jsI V j k (V.1 j k)).1 = V.1 := by
    funext a b
    rw [s1_at]
    by_cases e : a = j ∧ b = k
    · rw [if_pos e, e.1, e.2]
    · rw [if_neg e]
  exact Prod.ext this rfl
theorem fld_ok (h : Rel V U) {f c w : Nat} {y v : Int32} (hf : f < gN (U.1 1)) (hc : c = 5 ∨ c = 6 ∨ c = 7) (hw : w = 4 ∨ w = 5)
    (h5 : upd (V.1 1) c y 5 = nI (gSet (pOurs (upd (U.1 1) (10 + 7 * f + w) v)) (gN (U.1 1)))) (h6 : upd (V.1 1) c y 6 = nI (gSet (pLost (upd (U.1 1) (10 + 7 * f + w) v)) (gN (U.1 1)))) (h7 : upd (V.1 1) c y 7 = nI (gSet (pPap (upd (U.1 1) (10 + 7 * f + w) v)) (gN (U.1 1))))
    (hcn : gCt (pPap (upd (U.1 1) (10 + 7 * f + w) v)) (gN (U.1 1)) ≤ 6) (hwf : wfF (upd (U.1 1) (10 + 7 * f + w) v) f) (hp : ¬ gF (upd (U.1 1) (10 + 7 * f + w) v) f 5 < 0 → gF (upd (U.1 1) (10 + 7 * f + w) v) f 5 = gF (U.1 1) f 5) : Rel (jsI V 1 c y) (jsI U 1 (10 + 7 * f + w) v) := by
  have w7 : w < 7 := by omega
  have hx := h.xl
  refine Rel_land h ⟨?_, wf_field h.wf hf (upd_far w7) hcn hwf⟩ (fun j hj => by rw [s1_eq, if_neg (by omega)]) (fun j hj => rfl) (fun j hj => by rw [s1_eq, if_neg hj]) rfl rfl
  have b1 := hx.2.2.2.2.2.2.2.2.1 f hf
  have b2 := hx.2.2.2.2.2.2.2.2.2.1 f hf
  have hk : ∀ k, k < 7 → k ≠ w → gF (upd (U.1 1) (10 + 7 * f + w) v) f k = gF (U.1 1) f k := by
    intro k hk hkw
    rw [gF_upd w7 hk, if_neg (fun z => hkw z.2)]
  show XL (upd (V.1 1) c y) (V.1 2) (V.1 3) (V.1 4) (V.1 5) (V.1 6) (V.1 7) (V.1 8) (V.1 9) (V.1 10) (V.2 1 11) (upd (U.1 1) (10 + 7 * f + w) v) (U.2 0 3)
  refine xl_field hx h.n.2.2 hf (upd_far w7) ⟨?_, ?_, ?_, ?_⟩ h5 h6 h7 hx.2.2.2.2.2.1 (fun g hg => ⟨rfl, rfl, rfl, rfl, rfl, rfl⟩) ?_ ?_
  · rw [u_eq, if_neg (by omega)]
  · rw [u_eq, if_neg (by omega)]
  · rw [u_eq, if_neg (by omega)]
  · rw [u_eq, if_neg (by omega)]
  · rw [hk 0 (by omega) (by omega), hk 1 (by omega) (by omega), hk 2 (by omega) (by omega), hk 3 (by omega) (by omega)]
    exact b1
  · intro z
    have e := hp z
    rw [e] at z
    rw [e, hk 6 (by omega) (by omega)]
    exact b2 z
theorem drop_ok (h : Rel V U) {f : Nat} (hf : f < gN (U.1 1)) : Rel (jsI V 1 7 (V.1 1 7 &&& (nI (2 ^ f) ^^^ -1))) (jsI U 1 (10 + 7 * f + 5) (-1)) := by
  have hx := h.xl
  have hw := h.wf.f hf
  have gf : ∀ g k, k < 7 → gF (upd (U.1 1) (10 + 7 * f + 5) (-1)) g k = if g = f ∧ k = 5 then -1 else gF (U.1 1) g k := fun g k hk => gF_upd (by omega) hk
  have f5 : gF (upd (U.1 1) (10 + 7 * f + 5) (-1)) f 5 = -1 := by rw [gf f 5 (by omega), if_pos ⟨rfl, rfl⟩]
  have o4 : ∀ g, gF (upd (U.1 1) (10 + 7 * f + 5) (-1)) g 4 = gF (U.1 1) g 4 := fun g => by rw [gf g 4 (by omega), if_neg (by omega)]
  have pp : ∀ i, pPap (upd (U.1 1) (10 + 7 * f + 5) (-1)) i = (pPap (U.1 1) i && !decide (i = f)) := by
    intro i
    unfold pPap
    rw [gf i 5 (by omega)]
    by_cases e : i = f
    · subst e; rw [if_pos ⟨rfl, rfl⟩]; simp
    · rw [if_neg (fun z => e z.1)]; simp [e]
  refine fld_ok h hf (.inr (.inr rfl)) (.inr rfl) ?_ ?_ ?_ ?_ ?_ ?_
  · rw [u_eq, if_neg (by omega), hx.2.1]
    congr 1
    exact gSet_congr (fun i hi => by unfold pOurs; rw [o4])
  · rw [u_eq, if_neg (by omega), hx.2.2.1]
    congr 1
    exact gSet_congr (fun i hi => by unfold pLost; rw [o4])
  · rw [u_eq, if_pos rfl, hx.2.2.2.1, g_diff]
    congr 1
    exact (gSet_off (fun i hi => pp i)).symm
  · refine Nat.le_trans (gCt_mono (fun i hi => ?_)) h.wf.2.2.2.2.2.2.1.2
    rw [pp i]
    cases pPap (U.1 1) i <;> simp
  · unfold wfF
    rw [gf f 0 (by omega), gf f 1 (by omega), gf f 2 (by omega), gf f 3 (by omega), gf f 4 (by omega), gf f 6 (by omega), f5, if_neg (by omega), if_neg (by omega), if_neg (by omega), if_neg (by omega), if_neg (by omega), if_neg (by omega)]
    exact ⟨hw.1, hw.2.1, hw.2.2.1, hw.2.2.2.1, hw.2.2.2.2.1, .inl rfl, hw.2.2.2.2.2.2⟩
  · intro z
    rw [f5] at z
    exact absurd (by decide) z
theorem lose_ok (h : Rel V U) {f : Nat} (hf : f < gN (U.1 1)) (hfr : gF (U.1 1) f 4 = 0) (hp : pPap (U.1 1) f = false) : Rel (jsI V 1 6 (V.1 1 6 ||| nI (2 ^ f))) (jsI U 1 (10 + 7 * f + 4) 2) := by
  have hx := h.xl
  have hw := h.wf.f hf
  have gf : ∀ g k, k < 7 → gF (upd (U.1 1) (10 + 7 * f + 4) 2) g k = if g = f ∧ k = 4 then 2 else gF (U.1 1) g k := fun g k hk => gF_upd (by omega) hk
  have f4 : gF (upd (U.1 1) (10 + 7 * f + 4) 2) f 4 = 2 := by rw [gf f 4 (by omega), if_pos ⟨rfl, rfl⟩]
  have o5 : ∀ g, gF (upd (U.1 1) (10 + 7 * f + 4) 2) g 5 = gF (U.1 1) g 5 := fun g => by rw [gf g 5 (by omega), if_neg (by omega)]
  have hneg : gF (U.1 1) f 5 = -1 := by
    rcases hw.2.2.2.2.2.1 with e | e
    · exact e
    · have : ¬ gF (U.1 1) f 5 < 0 := isN_nneg e.1 (by omega)
      unfold pPap at hp
      rw [decide_eq_true this] at hp
      cases hp
  refine fld_ok h hf (.inr (.inl rfl)) (.inl rfl) ?_ ?_ ?_ ?_ ?_ ?_
  · rw [u_eq, if_neg (by omega), hx.2.1]
    congr 1
    refine gSet_congr (fun i hi => ?_)
    unfold pOurs
    rw [gf i 4 (by omega)]
    by_cases e : i = f
    · subst e; rw [if_pos ⟨rfl, rfl⟩, hfr]; rfl
    · rw [if_neg (fun z => e z.1)]
  · rw [u_eq, if_pos rfl, hx.2.2.1, g_or]
    congr 1
    refine (gSet_on hf (fun i hi => ?_)).symm
    unfold pLost
    rw [gf i 4 (by omega)]
    by_cases e : i = f
    · subst e; rw [if_pos ⟨rfl, rfl⟩]; simp
    · rw [if_neg (fun z => e z.1)]; simp [e]
  · rw [u_eq, if_neg (by omega), hx.2.2.2.1]
    congr 1
    exact gSet_congr (fun i hi => by unfold pPap; rw [o5])
  · rw [gCt_congr (q := pPap (U.1 1)) (fun i hi => by unfold pPap; rw [o5])]
    exact h.wf.2.2.2.2.2.2.1.2
  · unfold wfF
    rw [gf f 0 (by omega), gf f 1 (by omega), gf f 2 (by omega), gf f 3 (by omega), gf f 6 (by omega), o5, f4, if_neg (by omega), if_neg (by omega), if_neg (by omega), if_neg (by omega), if_neg (by omega)]
    exact ⟨hw.1, hw.2.1, hw.2.2.1, hw.2.2.2.1, isN_nI (k := 2) (by omega) (by omega), .inl hneg, hw.2.2.2.2.2.2⟩
  · intro _
    exact o5 f
theorem calm_ok (h : Rel V U) {f : Nat} (hf : f < gN (U.1 1)) (hc : ¬ gF (U.1 1) f 2 ≤ U.1 1 4) : Rel (jsI V 4 f (gF (U.1 1) f 2 - 1)) (jsI U 1 (10 + 7 * f + 2) (gF (U.1 1) f 2 - 1)) := by
  have hw := h.wf.f hf
  refine set_ok h hf (.inr (.inl rfl)) ?_
  have upw : ∀ (k : Nat), k < 7 → gF (upd (U.1 1) (10 + 7 * f + 2) (gF (U.1 1) f 2 - 1)) f k = if k = 2 then gF (U.1 1) f 2 - 1 else gF (U.1 1) f k := by
    intro k h2
    rw [gF_upd (by omega) h2]
    by_cases e : k = 2
    · rw [if_pos ⟨rfl, e⟩, if_pos e]
    · rw [if_neg (fun z => e z.2), if_neg e]
  have h4 := h.wf.2.2.2.2.1
  obtain ⟨a, ha, ea⟩ := isN_ex hw.2.2.1
  obtain ⟨b, hb, eb⟩ := isN_ex h4
  rw [ea, eb, nI_leI (by omega) (by omega)] at hc
  unfold wfF
  rw [upw 0 (by omega), upw 1 (by omega), upw 2 (by omega), upw 3 (by omega), upw 4 (by omega), upw 5 (by omega), upw 6 (by omega), if_pos rfl, ea, show nI a - 1 = nI (a - 1) from pk_sub (b := 1) (by omega)]
  exact ⟨hw.1, hw.2.1, isN_nI (by omega) (by omega), hw.2.2.2⟩
def mEnd (N m : Nat) (U : jMem) : Option (Int32 × jMem) := mX5_month_b30 (m + 1) (nI N) U
theorem drop_loop (N : Nat) : ∀ d i n n2 (V U : jMem), i + d = N → d < n → d < n2 → Rel V U → gN (U.1 1) = N → ∃ V' U' m, mX0_dropPastPapers_b2 n (nI i) V = some V' ∧ mX5_month_b30 n2 (nI i) U = mEnd N m U' ∧ Rel V' U' ∧ gN (U'.1 1) = N := by
  intro d
  induction d with
  | zero =>
    intro i n n2 V U hi hn hn2 h hN
    obtain ⟨n, rfl⟩ : ∃ n', n = n' + 1 := ⟨n - 1, by omega⟩
    obtain ⟨n2, rfl⟩ : ∃ n', n2 = n' + 1 := ⟨n2 - 1, by omega⟩
    obtain rfl : i = N := by omega
    refine ⟨V, U, n2, ?_, rfl, h, hN⟩
    unfold mX0_dropPastPapers_b2
    rw [if_pos ((v_le (h.xv.n h.wf) (by have := h.n.2.2; omega)).mpr (by omega))]
  | succ d ih =>
    intro i n n2 V U hi hn hn2 h hN
    obtain ⟨n, rfl⟩ : ∃ n', n = n' + 1 := ⟨n - 1, by omega⟩
    obtain ⟨n2, rfl⟩ : ∃ n', n2 = n' + 1 := ⟨n2 - 1, by omega⟩
    have hn' := h.n
    have hx := h.xl
    have hf : i < gN (U.1 1) := by omega
    have hw := h.wf.f hf
    have big : gN (U.1 1) ≤ 14 := hn'.2.2
    have gd : ∀ x : Int32, gN ((jsI U 1 (10 + 7 * i + 5) x).1 1) = N := fun x => by
      rw [← hN]; unfold gN; rw [s1_at, if_neg (by omega)]
    have same : jsI U 1 (10 + 7 * i + 5) (gF (U.1 1) i 5) = U := jsI_self U 1 _ rfl
    have r10 : V.1 1 10 = U.1 1 2 := hx.2.2.2.2.1
    unfold mX0_dropPastPapers_b2 mX5_month_b30 mX0_dropPastPapers_b28 mX5_month_b69 mX5_month_b70 mX5_month_b95 mX0_dropPaper
    rw [if_neg (fun z => by have := (v_le (h.xv.n h.wf) (by omega)).mp z; omega), if_neg (show ¬ U.1 1 0 ≤ nI i from fun z => by have := (m_le h.wf.n (by omega)).mp z; omega), g_jin (show i < 14 by omega) (by omega), jg_t, g_cl (show i < 2 ^ 31 by omega), m_has5 (by omega), Option.bind_some, m_has6 (by omega), Option.bind_some, Option.bind_some, m_at5, g_jin (show 10 + 7 * i + 5 < 120 by omega) (by omega), jg_t, jl_eq, g_cl (show 10 + 7 * i + 5 < 2 ^ 31 by omega), nI_1, if_pos rfl, same, if_neg g_10, jg_t, jl_eq, jl_eq, Option.bind_some, g_one i (by omega), r10]
    by_cases z : gF (U.1 1) i 5 < 0
    · rw [if_pos z]
      have e1 : gF (U.1 1) i 5 = -1 := by
        rcases hw.2.2.2.2.2.1 with e | e
        · exact e
        · exact absurd z (isN_nneg e.1 (by omega))
      by_cases y : U.1 1 2 ≤ V.1 7 i
      · rw [if_pos y]
        exact ih (i + 1) n n2 V U (by omega) (by omega) (by omega) h hN
      · rw [if_neg y]
        have h' := drop_ok h hf
        rw [show jsI U 1 (10 + 7 * i + 5) (-1) = U by rw [← e1]; exact same] at h'
        exact ih (i + 1) n n2 _ U (by omega) (by omega) (by omega) h' hN
    · rw [if_neg z, (hx.2.2.2.2.2.2.2.2.2.1 i hf z).2]
      by_cases y : U.1 1 2 ≤ gF (U.1 1) i 6
      · rw [if_pos y, if_pos y]
        exact ih (i + 1) n n2 V U (by omega) (by omega) (by omega) h hN
      · rw [if_neg y, if_neg y]
        exact ih (i + 1) n n2 _ _ (by omega) (by omega) (by omega) (drop_ok h hf) (gd _)
theorem calm_loop (N : Nat) (a : Int32) : ∀ d i n n2 (V U : jMem), i + d = N → d < n → d < n2 → Rel V U → gN (U.1 1) = N → ∃ V' U', mX0_calmDown_b2 n (nI i) V = some V' ∧ mX5_month_b233 n2 a (nI i) U = some (a, U') ∧ Rel V' U' := by
  intro d
  induction d with
  | zero =>
    intro i n n2 V U hi hn hn2 h hN
    obtain ⟨n, rfl⟩ : ∃ n', n = n' + 1 := ⟨n - 1, by omega⟩
    obtain ⟨n2, rfl⟩ : ∃ n', n2 = n' + 1 := ⟨n2 - 1, by omega⟩
    have hn' := h.n
    refine ⟨V, U, ?_, ?_, h⟩
    · unfold mX0_calmDown_b2
      rw [if_pos ((v_le (h.xv.n h.wf) (by omega)).mpr (by omega))]
    · unfold mX5_month_b233
      rw [if_pos ((m_le h.wf.n (by omega)).mpr (by omega))]
  | succ d ih =>
    intro i n n2 V U hi hn hn2 h hN
    obtain ⟨n, rfl⟩ : ∃ n', n = n' + 1 := ⟨n - 1, by omega⟩
    obtain ⟨n2, rfl⟩ : ∃ n', n2 = n' + 1 := ⟨n2 - 1, by omega⟩
    have hn' := h.n
    have hx := h.xl
    have hf : i < gN (U.1 1) := by omega
    have gd : ∀ x : Int32, gN ((jsI U 1 (10 + 7 * i + 2) x).1 1) = N := fun x => by
      rw [← hN]; unfold gN; rw [s1_at, if_neg (by omega)]
    have r4 : V.1 4 i = gF (U.1 1) i 2 := (h.xv.f hf).2.2.1
    have r8 : V.1 8 1 = U.1 1 4 := hx.2.2.2.2.2.2.2.2.2.2.1.2.1
    have same : jsI U 1 (10 + 7 * i + 2) (U.1 1 (10 + 7 * i + 2) - 0) = U := jsI_self U 1 _ (Int32.sub_zero _)
    unfold mX0_calmDown_b2 mX5_month_b233 mX0_calmDown_b35 mX5_month_b275
    rw [if_neg (fun z => by have := (v_le (h.xv.n h.wf) (by omega)).mp z; omega), if_neg (show ¬ U.1 1 0 ≤ nI i from fun z => by have := (m_le h.wf.n (by omega)).mp z; omega), g_jin (show i < 14 by omega) (by omega), jg_t, g_cl (show i < 2 ^ 31 by omega), m_at2, g_jin (show 10 + 7 * i + 2 < 120 by omega) (by omega), jg_t, jg_t, jl_eq, jl_eq, jg_t, jl_eq, g_cl (show 10 + 7 * i + 2 < 2 ^ 31 by omega), m_has2 (by omega), Option.bind_some, nI_1, r4, r8, same]
    by_cases y : gF (U.1 1) i 2 ≤ U.1 1 4
    · rw [if_pos y, if_pos y]
      exact ih (i + 1) n n2 V U (by omega) (by omega) (by omega) h hN
    · rw [if_neg y, if_neg y]
      exact ih (i + 1) n n2 _ _ (by omega) (by omega) (by omega) (calm_ok h hf y) (gd _)
def pTake (s : Nat → Int32) (f : Nat) : Bool := pFree s f && !pPap s f
theorem fStep_inv (v : Nat → Int32) (p : Nat → Bool) : ∀ n, n < 2 ^ 31 → (gL p n).foldl (fStep v) (-1, 0) = (-1, 0) ∨ ∃ f, f < n ∧ p f = true ∧ (gL p n).foldl (fStep v) (-1, 0) = (nI f, v f) := by
  intro n
  induction n with
  | zero => intro _; exact .inl rfl
  | succ n ih =>
    intro hn
    rw [gL, List.foldl_append]
    by_cases z : p n = true
    · rw [if_pos z]
      show fStep v ((gL p n).foldl (fStep v) (-1, 0)) n = _ ∨ ∃ f, _ ∧ _ ∧ fStep v ((gL p n).foldl (fStep v) (-1, 0)) n = _
      right
      rcases ih (by omega) with e | ⟨f, h1, h2, e⟩
      · rw [e]
        exact ⟨n, by omega, z, rfl⟩
      · rw [e]
        unfold fStep
        rw [if_neg (nI_pos (by omega))]
        by_cases y : v f ≤ v n
        · rw [if_pos y]; exact ⟨f, by omega, h2, rfl⟩
        · rw [if_neg y]; exact ⟨n, by omega, z, rfl⟩
    · rw [if_neg z]
      rcases ih (by omega) with e | ⟨f, h1, h2, e⟩
      · exact .inl e
      · exact .inr ⟨f, by omega, h2, e⟩
theorem take_loop (h : Rel V U) : ∃ (r : Int32) (V' U' : jMem), mX0_rivalTakes_b42 2000 (-1) 0 0 V = some (r, V') ∧ mX5_month_b149 2000 (-1) 0 U = mX5_month_b231 r U' ∧ Rel V' U' ∧ gN (U'.1 1) = gN (U.1 1) := by
  have w := h.wf
  have hv := h.xv
  have hn := h.n
  have key : ∀ g : Int32 × Int32, (gL (pTake (U.1 1)) (gN (U.1 1))).foldl (fStep (fun f => nI (gNow (U.1 1) f))) (-1, 0) = g → mX0_rivalTakes_b42 2000 (-1) 0 0 V = (if g.1 < 0 then some (g.1, V) else some (g.1, jsI V 1 6 (V.1 1 6 ||| ((1 : Int32) <<< (g.1 &&& (31 : Int32)))))) ∧ mX5_month_b149 2000 (-1) 0 U = (if g.1 < 0 then mX5_month_b231 g.1 U else jg (jin (mX5_at g.1 4) 120) (mX5_month_b231 g.1 (jsI U 1 (mX5_at g.1 4).toNatClampNeg 2))) := by
    intro g hg
    generalize hvv : (fun f => nI (gNow (U.1 1) f)) = v at *
    have hve : ∀ f, nI (gNow (U.1 1) f) = v f := fun f => by rw [← hvv]
    constructor
    · refine g_up (P := fun n i => mX0_rivalTakes_b42 n ((gL (pTake (U.1 1)) i).foldl (fStep v) (-1, 0)).1 ((gL (pTake (U.1 1)) i).foldl (fStep v) (-1, 0)).2 (nI i) V = _) (gN (U.1 1)) ?_ ?_ 2000 0 (by omega) (by omega)
      · intro n
        show mX0_rivalTakes_b42 (n + 1) _ _ _ _ = _
        unfold mX0_rivalTakes_b42
        rw [if_pos ((v_le (hv.n w) (by omega)).mpr (Nat.le_refl _)), hg, jl_eq]
      · intro n i hi this
        show mX0_rivalTakes_b42 (n + 1) _ _ _ _ = _
        rw [gL, List.foldl_append] at this
        unfold mX0_rivalTakes_b42 mX0_rivalTakes_b91 mX0_rivalTakes_b86 mX0_rivalTakes_b91
        rw [if_neg (fun z => by have := (v_le (hv.n w) (by omega)).mp z; omega), x_isFree hv w hi, x_pap hv w hi, x_now hv w hi, Option.bind_some, nI_1, hve]
        have e : pTake (U.1 1) i = (pFree (U.1 1) i && !pPap (U.1 1) i) := rfl
        by_cases z1 : pFree (U.1 1) i = true
        · rw [if_pos z1, if_neg g_10]
          by_cases z2 : pPap (U.1 1) i = true
          · rw [if_pos z2, if_neg g_10]
            rw [e, z1, z2] at this
            exact this
          · rw [if_neg z2, if_pos rfl]
            have z3 : pPap (U.1 1) i = false := by simpa using z2
            rw [e, z1, z3] at this
            change mX0_rivalTakes_b42 n (fStep v ((gL (pTake (U.1 1)) i).foldl (fStep v) (-1, 0)) i).1 (fStep v ((gL (pTake (U.1 1)) i).foldl (fStep v) (-1, 0)) i).2 (nI (i + 1)) V = _ at this
            generalize (gL (pTake (U.1 1)) i).foldl (fStep v) (-1, 0) = st at *
            unfold fStep at this
            by_cases y1 : st.1 < 0
            · rw [if_pos y1]; rw [if_pos y1] at this; exact this
            · rw [if_neg y1]; rw [if_neg y1] at this
              by_cases y2 : st.2 ≤ v i
              · rw [if_pos y2]; rw [if_pos y2] at this; exact this
              · rw [if_neg y2]; rw [if_neg y2] at this; exact this
        · rw [if_neg z1, if_pos rfl]
          have z3 : pFree (U.1 1) i = false := by simpa using z1
          rw [e, z3] at this
          exact this
    · refine g_up (P := fun n i => mX5_month_b149 n ((gL (pTake (U.1 1)) i).foldl (fStep v) (-1, 0)).1 (nI i) U = _) (gN (U.1 1)) ?_ ?_ 2000 0 (by omega) (by omega)
      · intro n
        show mX5_month_b149 (n + 1) _ _ _ = _
        unfold mX5_month_b149
        rw [if_pos ((m_le w.n (by omega)).mpr (Nat.le_refl _)), hg, jl_eq]
      · intro n i hi this
        show mX5_month_b149 (n + 1) _ _ _ = _
        rw [gL, List.foldl_append] at this
        have inv := fStep_inv v (pTake (U.1 1)) i (by omega)
        have e : pTake (U.1 1) i = (pFree (U.1 1) i && !pPap (U.1 1) i) := rfl
        have e5 : pPap (U.1 1) i = decide (¬ gF (U.1 1) i 5 < 0) := rfl
        unfold mX5_month_b149 mX5_month_b180 mX5_month_b181 mX5_month_b203 mX5_month_b207 mX5_month_b208
        rw [if_neg (fun z => by have := (m_le w.n (by omega)).mp z; omega), m_isFree w hi, Option.bind_some, m_has5 (by omega), Option.bind_some, nI_1, m_now w hi, Option.bind_some, hve, if_pos rfl, if_neg g_10]
        by_cases z1 : pFree (U.1 1) i = true
        · rw [if_pos z1, if_neg g_10]
          by_cases z2 : gF (U.1 1) i 5 < 0
          · have z4 : ¬ (0 ≤ gF (U.1 1) i 5) := by
              rw [Int32.le_iff_toInt_le]; rw [Int32.lt_iff_toInt_lt] at z2; omega
            rw [if_neg z4]
            rw [e, z1, e5, decide_eq_false (fun y => y z2)] at this
            change mX5_month_b149 n (fStep v ((gL (pTake (U.1 1)) i).foldl (fStep v) (-1, 0)) i).1 (nI (i + 1)) U = _ at this
            rcases inv with q | ⟨f, q1, q2, q⟩
            · rw [q] at this ⊢
              rw [if_pos (show ((-1 : Int32), (0 : Int32)).1 < 0 by decide)]
              exact this
            · rw [q] at this ⊢
              have np : ¬ (nI f, v f).1 < 0 := nI_pos (by omega)
              unfold fStep at this
              rw [if_neg np] at this
              rw [if_neg np, show mX5_asksNow (nI f, v f).1 U = some (v f) by rw [← hve]; exact m_now w (by omega), Option.bind_some]
              by_cases y2 : v f ≤ v i
              · rw [if_pos y2]
                rw [show (nI f, v f).2 = v f from rfl, if_pos y2] at this
                exact this
              · rw [if_neg y2]
                rw [show (nI f, v f).2 = v f from rfl, if_neg y2] at this
                exact this
          · have z4 : (0 ≤ gF (U.1 1) i 5) := by
              rw [Int32.le_iff_toInt_le]; rw [Int32.lt_iff_toInt_lt] at z2; omega
            rw [if_pos z4]
            rw [e, z1, e5, decide_eq_true z2] at this
            exact this
        · rw [if_neg z1, if_pos rfl]
          have z3 : pFree (U.1 1) i = false := by simpa using z1
          rw [e, z3] at this
          exact this
  obtain ⟨k1, k2⟩ := key _ rfl
  rw [k1, k2]
  rcases fStep_inv (fun f => nI (gNow (U.1 1) f)) (pTake (U.1 1)) (gN (U.1 1)) (by omega) with q | ⟨f, q1, q2, q⟩
  · rw [q, if_pos (show ((-1 : Int32), (0 : Int32)).1 < 0 by decide), if_pos (show ((-1 : Int32), (0 : Int32)).1 < 0 by decide)]
    exact ⟨-1, V, U, rfl, rfl, h, rfl⟩
  · have np : ∀ x : Int32, ¬ (nI f, x).1 < 0 := fun x => nI_pos (by omega)
    have q3 : pFree (U.1 1) f = true ∧ pPap (U.1 1) f = false := by
      unfold pTake at q2
      simpa using q2
    rw [q, if_neg (np _), if_neg (np _)]
    show ∃ (r : Int32) (V' U' : jMem), some (nI f, jsI V 1 6 (V.1 1 6 ||| ((1 : Int32) <<< (nI f &&& (31 : Int32))))) = some (r, V') ∧ jg (jin (mX5_at (nI f) 4) 120) (mX5_month_b231 (nI f) (jsI U 1 (mX5_at (nI f) 4).toNatClampNeg 2)) = mX5_month_b231 r U' ∧ _ ∧ _
    rw [m_at4, g_jin (show 10 + 7 * f + 4 < 120 by omega) (by omega), jg_t, g_cl (show 10 + 7 * f + 4 < 2 ^ 31 by omega), g_one f (by omega)]
    refine ⟨nI f, _, _, rfl, rfl, lose_ok h q1 (p_free0 q3.1) q3.2, ?_⟩
    unfold gN
    rw [s1_at, if_neg (by omega)]
theorem op_month_ok : op_month Rel := by
  intro V U h
  obtain ⟨V5, U5, e5, e6, h5⟩ := ref_of (-1000000005) 4 (by omega) (by decide) h
  have hx := h.xl
  have hn := h.n
  obtain ⟨mo, hmo, emo⟩ := isN_ex h.wf.2.2.1
  have r10 : V.1 1 10 = U.1 1 2 := hx.2.2.2.2.1
  have q1 : (nI mo < 99) ↔ mo < 99 := nI_ltI (b := 99) (by omega) (by omega)
  have q2 : (nI mo = 99) ↔ mo = 99 := nI_eq (b := 99) (by omega) (by omega)
  unfold mX4_month mX5_month
  rw [r10, emo]
  simp only [q1, q2, nI_1]
  by_cases z : mo = 99
  · rw [if_neg (by omega), if_pos z, e5, e6]
    exact ⟨_, V5, U5, rfl, rfl, h5⟩
  · rw [if_pos (by omega), if_neg z, jl_eq, jl_eq]
    have r1 := row_ok h (k := 2) (x := nI (mo + 1)) (by omega) (by omega) ⟨fun _ => isN_nI (by omega) (by omega), fun z => by omega, fun z => by omega, fun z => by omega, fun z => by omega⟩ 1 10 (.inl ⟨rfl, rfl, rfl⟩)
    have g1 : gN ((jsI U 1 2 (nI (mo + 1))).1 1) = gN (U.1 1) := by
      unfold gN; rw [s1_at, if_neg (by omega)]
    obtain ⟨V2, U2, m, d1, d2, h2, g2⟩ := drop_loop (gN (U.1 1)) (gN (U.1 1)) 0 2000 2000 _ _ (by omega) (by omega) (by omega) r1 g1
    have d1' : mX0_dropPastPapers (jsI V 1 10 (nI (mo + 1))) = some V2 := d1
    have d2' : mX5_month_b30 2000 0 (jsI U 1 2 (nI (mo + 1))) = mX5_month_b30 (m + 1) (nI (gN (U.1 1))) U2 := d2
    rw [d1', d2', Option.bind_some]
    have n2 := h2.n
    have z12 : V2.1 1 12 = U2.1 1 7 := h2.xl.2.2.2.2.2.2.1
    have r3 := row_ok h2 (k := 7) (x := U2.1 1 7 * 1103515245 + 12345) (by omega) (by omega) ⟨fun z => by omega, fun z => by omega, fun z => by omega, fun z => by omega, fun z => by omega⟩ 1 12 (.inr (.inl ⟨rfl, rfl, rfl⟩))
    have g3 : gN ((jsI U2 1 7 (U2.1 1 7 * 1103515245 + 12345)).1 1) = gN (U.1 1) := by
      rw [← g2]; unfold gN; rw [s1_at, if_neg (by omega)]
    have zz : V2.1 8 0 = U2.1 1 3 := h2.xl.2.2.2.2.2.2.2.2.2.2.1.1
    have c1 : (jsI V2 1 12 (U2.1 1 7 * 1103515245 + 12345)).1 1 12 = U2.1 1 7 * 1103515245 + 12345 := by rw [s1_at, if_pos ⟨rfl, rfl⟩]
    have c2 : (jsI U2 1 7 (U2.1 1 7 * 1103515245 + 12345)).1 1 7 = U2.1 1 7 * 1103515245 + 12345 := by rw [s1_at, if_pos ⟨rfl, rfl⟩]
    have c3 : (jsI V2 1 12 (U2.1 1 7 * 1103515245 + 12345)).1 8 0 = U2.1 1 3 := by rw [s1_at, if_neg (by omega), zz]
    have c4 : (jsI U2 1 7 (U2.1 1 7 * 1103515245 + 12345)).1 1 3 = U2.1 1 3 := by rw [s1_at, if_neg (by omega)]
    unfold mX5_month_b30 mX0_rivalTakes
    rw [if_pos (show U2.1 1 0 ≤ nI (gN (U.1 1)) from (m_le h2.wf.n (by omega)).mpr (by omega)), jl_eq, jl_eq, z12]
    rw [c1, c2, c3, c4]
    generalize hA : jsI V2 1 12 (U2.1 1 7 * 1103515245 + 12345) = A at *
    generalize hB : jsI U2 1 7 (U2.1 1 7 * 1103515245 + 12345) = B at *
    generalize ((U2.1 1 7 * 1103515245 + 12345).toUInt32 >>> (Int32.toUInt32 (8 : Int32) &&& Int32.toUInt32 31)).toInt32 = q
    generalize q - q / 100 * 100 = rem
    have fin : ∀ (r : Int32) (A' B' : jMem), Rel A' B' → gN (B'.1 1) = gN (U.1 1) → ∃ V' U', mX0_calmDown A' = some V' ∧ mX5_month_b231 r B' = some (r, U') ∧ Rel V' U' := by
      intro r A' B' hr hg
      exact calm_loop (gN (U.1 1)) r (gN (U.1 1)) 0 2000 2000 A' B' (by omega) (by omega) (by omega) hr hg
    by_cases y : rem < U2.1 1 3
    · have y2 : ¬ U2.1 1 3 ≤ rem := by
        rw [Int32.le_iff_toInt_le]; rw [Int32.lt_iff_toInt_lt] at y; omega
      obtain ⟨r, A', B', t1, t2, t3, t4⟩ := take_loop r3
      rw [if_pos y, if_neg y2, t1, t2, Option.bind_some]
      obtain ⟨V', U', f1, f2, f3⟩ := fin r A' B' t3 (t4.trans g3)
      show ∃ r V' U', (mX0_calmDown A').bind _ = _ ∧ _
      rw [f1, f2]
      exact ⟨r, V', U', rfl, rfl, f3⟩
    · have y2 : U2.1 1 3 ≤ rem := by
        rw [Int32.le_iff_toInt_le]; rw [Int32.lt_iff_toInt_lt] at y; omega
      rw [if_neg y, if_pos y2, Option.bind_some]
      obtain ⟨V', U', f1, f2, f3⟩ := fin (-1) A B r3 g3
      show ∃ r V' U', (mX0_calmDown A).bind _ = _ ∧ _
      rw [f1, f2]
      exact ⟨-1, V', U', rfl, rfl, f3⟩
end OMo
