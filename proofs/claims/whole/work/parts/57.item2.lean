/-! the text: a strip's ITEM, a rule's, any ITEM -/
section TJ
variable {V U V' U' V0 U0 : jMem} {bs : Nat → Nat} {z : Nat}
def SV (V0 V : jMem) (m : Nat) (se ro : Int32) : Prop := V.1 1 14 = nI (m + 1) ∧ (∀ a, a ≠ 14 → V.1 1 a = V0.1 1 a) ∧ (V.1 9 m = se ∧ V.1 10 m = ro) ∧ (∀ g, g < m → V.1 9 g = V0.1 9 g ∧ V.1 10 g = V0.1 10 g) ∧ (∀ j, 2 ≤ j → j ≤ 8 → V.1 j = V0.1 j)
theorem SV_0 {V1 : jMem} (fx : FX V0 V1) (m : Nat) (se : Int32) (hm : V0.1 1 14 = nI m) : SV V0 (xStr m se 0 V1) m se 0 := by
  unfold SV xStr
  have e1 : V1.1 1 = V0.1 1 := fx.1 1 (by omega)
  refine ⟨?_, fun a ha => ?_, ⟨?_, ?_⟩, fun g hg => ⟨?_, ?_⟩, fun j h1 h2 => ?_⟩
  · rw [s1_at, if_pos ⟨rfl, rfl⟩, e1, hm, nI_1]
  · rw [s1_at, if_neg (by omega), s1_at, if_neg (by omega), s1_at, if_neg (by omega), e1]
  · rw [s1_at, if_neg (by omega), s1_at, if_neg (by omega), s1_at, if_pos ⟨rfl, rfl⟩]
  · rw [s1_at, if_neg (by omega), s1_at, if_pos ⟨rfl, rfl⟩]
  · rw [s1_at, if_neg (by omega), s1_at, if_neg (by omega), s1_at, if_neg (by omega), fx.1 9 (by omega)]
  · rw [s1_at, if_neg (by omega), s1_at, if_neg (by omega), s1_at, if_neg (by omega), fx.1 10 (by omega)]
  · rw [s1_eq, if_neg (by omega), s1_eq, if_neg (by omega), s1_eq, if_neg (by omega), fx.1 j (by omega)]
theorem SV_10 {m : Nat} {se ro x : Int32} (h : SV V0 V m se ro) (fp : FP 10 m x V V') : SV V0 V' m se x := by
  obtain ⟨p1, p2, -, -⟩ := fp
  unfold SV at *
  rw [p1, p2 1 (by omega) (by omega), p2 9 (by omega) (by omega)]
  refine ⟨h.1, h.2.1, ⟨h.2.2.1.1, by rw [u_eq, if_pos rfl]⟩, fun g hg => ⟨(h.2.2.2.1 g hg).1, by rw [u_eq, if_neg (by omega)]; exact (h.2.2.2.1 g hg).2⟩, fun j h1 h2 => by rw [p2 j (by omega) (by omega)]; exact h.2.2.2.2 j h1 h2⟩
theorem mStr_far (m : Nat) (se ro : Int32) (U : jMem) {j : Nat} (hj : j ≠ 1) : (mStr m se ro U).1 j = U.1 j := by
  unfold mStr
  rw [s1_eq, if_neg hj, s1_eq, if_neg hj, s1_eq, if_neg hj]
theorem m_53 (h : ReL V0 U0) (hm : gM (U0.1 1) < 6) (u1 : U.1 1 = U0.1 1) (u2 : U.2 = U0.2) (se ro : Int32) : mX5_stripItem_b53 se ro U = some (if U.1 0 20 = 0 then mStr (gM (U0.1 1)) se ro U else U) := by
  have hl : ReL V0 U := ReL_fr h (fun _ _ _ => rfl) rfl u1 (by rw [u2])
  unfold mX5_stripItem_b53
  by_cases y : U.1 0 20 = 0
  · rw [if_pos y, if_pos y, m_str hl (by rw [u1]; exact hm), Option.bind_some, u1]
  · rw [if_neg y, if_neg y]
theorem m_53F (h : ReL V0 U0) (hm : gM (U0.1 1) < 6) (u1 : U.1 1 = U0.1 1) (u2 : U.2 = U0.2) (se ro : Int32) {q : Nat} (hf : FA U q) : ∃ U', mX5_stripItem_b53 se ro U = some U' ∧ FA U' q ∧ LM U U' := by
  rw [m_53 h hm u1 u2]
  by_cases y : U.1 0 20 = 0
  · rw [if_pos y]
    exact ⟨_, rfl, hf.land (mStr_far _ _ _ _ (by omega)), fun j hj => mStr_far _ _ _ _ (by omega), fun a ha => by rw [mStr_far _ _ _ _ (by omega)], rfl⟩
  · rw [if_neg y]
    exact ⟨U, rfl, hf, fun _ _ => rfl, fun _ _ => rfl, rfl⟩
theorem strI_ok (h0 : Rel V U) (hb : TTB bs z) (tx : TTX V bs z) (tm : TTM U bs z) {p w e : Nat} (tk : TK bs z V U p 0 w e) (b0 : U.1 0 20 = 0) : IR bs z p V U (mX4_readStrip V) (mX5_stripItem U) := by
  have hN := h0.n
  have hM := h0.m
  have q1 : (V.1 1 14 < 6) ↔ gM (U.1 1) < 6 := by rw [hM.2.1]; exact nI_ltI (b := 6) (by omega) (by omega)
  have q2 : (U.1 1 1 = 6) ↔ gM (U.1 1) = 6 := by rw [hM.1]; exact nI_eq (b := 6) (by omega) (by omega)
  have hpw : (2 : Nat) ^ gN (U.1 1) ≤ 2 ^ 14 := Nat.pow_le_pow_right (by decide) hN.2.2
  have done : ∀ (V' U' : jMem) (p' k' v' e' se ro : Nat), se < 2 ^ gN (U.1 1) → ro ≤ 9999 → gM (U.1 1) < 6 → SV V V' (gM (U.1 1)) (nI se) (nI ro) → TK bs z V' U' p' k' v' e' → p < p' → U'.1 0 20 = 0 → LX V V' → U'.1 1 = U.1 1 → LM U U' → IR bs z p V U (some (1, V')) (mX5_stripItem_b53 (nI se) (nI ro) U') := by
    intro V' U' p' k' v' e' se ro hse hro hm sv tk' hp' b0' lx' u1' lm'
    rw [m_53 h0.1 hm u1' lm'.2.2, if_pos b0']
    have f0 : (mStr (gM (U.1 1)) (nI se) (nI ro) U').1 0 = U'.1 0 := mStr_far _ _ _ _ (by omega)
    have lmn : LM U' (mStr (gM (U.1 1)) (nI se) (nI ro) U') := ⟨fun j hj => mStr_far _ _ _ _ (by omega), fun a ha => by rw [f0], rfl⟩
    have rl : ReL V' (mStr (gM (U.1 1)) (nI se) (nI ro) U') := by
      refine strip_ReL h0.1 hm (nI se) (nI ro) (isN_nI (by omega) (by omega)) (isN_nI hro (by omega)) ?_ ?_ ⟨?_, ?_⟩ ?_ sv.1 sv.2.1 (by rw [lx'.2.2]) sv.2.2.1 sv.2.2.2.1 sv.2.2.2.2
      · unfold mStr
        rw [s1_at, if_pos ⟨rfl, rfl⟩, u1', hM.1, nI_1]
      · intro k k1 k2 k3
        unfold mStr
        rw [s1_at, if_neg (by omega), s1_at, if_neg (by omega), s1_at, if_neg (by omega), u1']
      · unfold mStr
        rw [s1_at, if_neg (by omega), s1_at, if_neg (by omega), s1_at, if_pos (by omega)]
      · unfold mStr
        rw [s1_at, if_neg (by omega), s1_at, if_pos (by omega)]
      · show U'.2 0 3 = U.2 0 3
        rw [lm'.2.2]
    exact .inl ⟨V', _, p', k', v', e', rfl, rfl, Rel_plan h0 rl lx' (lm'.tr lmn), TK_land tk' rfl rfl f0, hp', by rw [f0]; exact b0', lx', lm'.tr lmn⟩
  unfold mX4_readStrip mX5_stripItem
  simp only [q1, q2]
  by_cases hm : gM (U.1 1) < 6
  · rw [if_pos hm, if_neg (by omega)]
    obtain ⟨U1, n1, fm1, se⟩ := set_ok2 hb tx tm tk b0 (lim := gN (U.1 1)) hN.2.2
    have u11 : U1.1 1 = U.1 1 := fm1.1 1 (by omega)
    rw [n1, Option.bind_some, hN.2.1, u11, hN.1]
    rcases se with ⟨m, V2, U2, p2, k2, v2, e2, r0, r1, r2, r3, tk2, b2, hp2, fx2, fm2⟩ | ⟨x, V2, U2, q, r2, r3, r4, r5, r6, r7⟩
    · have u21 : U2.1 1 = U.1 1 := fm2.1 1 (by omega)
      have rl2 : ReL V2 U := ReL_fr h0.1 (fun j _ _ => fx2.1 j (by omega)) (by rw [fx2.2.2]) rfl rfl
      rw [r2, r3, Option.bind_some, Option.bind_some]
      show IR bs z p V U (if (0 : Int32) ≤ nI m then (mX0_addStrip (nI m) 0 V2).bind (fun p4 => (mX3_isWord 1 p4.2).bind (fun r5 => if r5 = 0 then some (1, p4.2) else (mX4_readInto 10 6 p4.1 0 9999 p4.2).bind (fun p7 => if p7.1 = 0 then some (0, p7.2) else some (1, p7.2)))) else some (0, V2)) ((mX5_takes 13 U2).bind (fun p4 => if p4.1 = 0 then mX5_stripItem_b53 (nI m) 0 p4.2 else (mX5_number 0 9999 p4.2).bind (fun p6 => mX5_stripItem_b53 (nI m) p6.1 p6.2)))
      have fs : ∀ j, (j = 0 ∨ 11 ≤ j) → (xStr (gM (U.1 1)) (nI m) 0 V2).1 j = V2.1 j := fun j hj => by
        unfold xStr
        rw [s1_eq, if_neg (by omega), s1_eq, if_neg (by omega), s1_eq, if_neg (by omega)]
      have lxs : LX V (xStr (gM (U.1 1)) (nI m) 0 V2) := fx2.lx.tr ⟨fun j hj => fs j (by omega), by rw [fs 36 (by omega)], rfl⟩
      have tks : TK bs z (xStr (gM (U.1 1)) (nI m) 0 V2) U2 p2 k2 v2 e2 := TK_land tk2 (fs 36 (by omega)) (fs 37 (by omega)) rfl
      have svs : SV V (xStr (gM (U.1 1)) (nI m) 0 V2) (gM (U.1 1)) (nI m) 0 := SV_0 fx2 _ _ hM.2.1
      have iw := tks.2.2.2.2.2.2.2.2.2.2.2.2 1 (by omega) (by omega)
      rw [if_pos (nI_pos' (by omega)), x_str rl2 hm, Option.bind_some]
      show IR bs z p V U ((mX3_isWord 1 (xStr (gM (U.1 1)) (nI m) 0 V2)).bind (fun r5 => if r5 = 0 then some (1, xStr (gM (U.1 1)) (nI m) 0 V2) else (mX4_readInto 10 6 (nI (gM (U.1 1))) (nI 0) (nI 9999) (xStr (gM (U.1 1)) (nI m) 0 V2)).bind (fun p7 => if p7.1 = 0 then some (0, p7.2) else some (1, p7.2)))) ((mX5_takes (nI 13) U2).bind (fun p4 => if p4.1 = 0 then mX5_stripItem_b53 (nI m) 0 p4.2 else (mX5_number (nI 0) (nI 9999) p4.2).bind (fun p6 => mX5_stripItem_b53 (nI m) p6.1 p6.2)))
      rw [iw, Option.bind_some]
      rcases tks.takes b2 (w := 13) (by omega) with ⟨y, t1⟩ | ⟨y, y2, t1⟩
      · rw [t1, Option.bind_some, if_neg (show ¬ (k2 = 0 ∧ wOf 1 = v2) from fun q => y ⟨q.1, q.2.symm⟩), if_pos rfl]
        exact done _ U2 p2 k2 v2 e2 m 0 r1 (by omega) hm svs tks (by omega) b2 lxs u21 fm2.lm
      · subst y y2
        obtain ⟨U3, n3, fm3, io3⟩ := into_ok hb (TTX_fr tx lxs.2.1 (lxs.1 37 (by omega))) (tm.fb fm2.fb) tks b2 (P := 10) (pn := 6) (i := gM (U.1 1)) (lo := 0) (hi := 9999) (by omega) hm (by omega) (by omega) (by omega)
        rw [t1 U3 n3, Option.bind_some, if_pos (show (0 = 0 ∧ wOf 1 = 13) from ⟨rfl, rfl⟩), if_neg g_10]
        show IR bs z p V U _ (if (1 : Int32) = 0 then _ else (mX5_number (nI 0) (nI 9999) U3).bind (fun p6 => mX5_stripItem_b53 (nI m) p6.1 p6.2))
        rw [if_neg g_10]
        rcases io3 with ⟨ro, V4, U4, p4, k4, v4, e4, x1, x2, r1', r2', tk4, hp4, b4, fm4, fp4⟩ | ⟨V4, U4, q, r1', r2', r3', r4', r5', r6'⟩
        · rw [r1', r2', Option.bind_some, Option.bind_some]
          show IR bs z p V U (if (1 : Int32) = 0 then _ else some (1, V4)) (mX5_stripItem_b53 (nI m) (nI ro) U4)
          rw [if_neg g_10]
          have lx4 : LX (xStr (gM (U.1 1)) (nI m) 0 V2) V4 := ⟨fun j hj => fp4.2.1 j (by omega) (by omega), fp4.2.2.1, fp4.2.2.2⟩
          exact done V4 U4 p4 k4 v4 e4 m ro r1 x2 hm (SV_10 svs fp4) tk4 (by omega) b4 (lxs.tr lx4) (by rw [fm4.1 1 (by omega)]; exact u21) (fm2.tr fm4).lm
        · rw [r1', r2', Option.bind_some, Option.bind_some]
          show IR bs z p V U (if (0 : Int32) = 0 then some (0, V4) else _) (mX5_stripItem_b53 (nI m) 0 U4)
          rw [if_pos rfl]
          obtain ⟨U5, s1, s2, s3⟩ := m_53F h0.1 hm (U := U4) (by rw [r6'.1 1 (by omega)]; exact u21) (by rw [r6'.2.2, fm2.2.2]) (nI m) 0 r3'
          exact .inr ⟨V4, U5, q, rfl, s1, s2, r4', lxs.tr r5'.lx, (fm2.lm.tr r6'.lm).tr s3⟩
    · rw [r2, r3, Option.bind_some, Option.bind_some]
      show IR bs z p V U (if (0 : Int32) ≤ -1 then _ else some (0, V2)) ((mX5_takes 13 U2).bind (fun p4 => if p4.1 = 0 then mX5_stripItem_b53 x 0 p4.2 else (mX5_number 0 9999 p4.2).bind (fun p6 => mX5_stripItem_b53 x p6.1 p6.2)))
      rw [if_neg (by decide), r4.takes, Option.bind_some]
      show IR bs z p V U _ (if (0 : Int32) = 0 then mX5_stripItem_b53 x 0 U2 else _)
      rw [if_pos rfl]
      obtain ⟨U5, s1, s2, s3⟩ := m_53F h0.1 hm (U := U2) (r7.1 1 (by omega)) r7.2.2 x 0 r4
      exact .inr ⟨V2, U5, q, rfl, s1, s2, r5, r6.lx, r7.lm.tr s3⟩
  · rw [if_neg hm, if_pos (by omega), jl_eq]
    exact .inr ⟨V, _, p, rfl, rfl, FA_bad ⟨tk.2.2.1, Nat.le_trans tk.1 hb.1⟩, tk.2.1, ⟨fun _ _ => rfl, rfl, rfl⟩, (FB_bad _ _).lm⟩
def limOf (i : Nat) : Nat := if i = 0 then 100 else if i = 2 then 999 else 9
theorem lim_ok : ∀ i, i < 4 → jLims i = nI (limOf i) ∧ mX5_mostOf (nI (6 + i) - 6) = nI (limOf i) ∧ limOf i ≤ 999 ∧ (3 : Int32) + nI (6 + i) - 6 = nI (3 + i) := by decide +kernel
theorem rule_ok2 (h0 : Rel V U) (hb : TTB bs z) (tx : TTX V bs z) (tm : TTM U bs z) {p i e : Nat} (hi : i < 4) (tk : TK bs z V U p 0 (6 + i) e) (b0 : U.1 0 20 = 0) : IR bs z p V U ((mX4_readInto 8 4 (nI i) 0 (jLims i) V).bind (fun p5 => jg (jzb p5.1) (some (p5.1, p5.2)))) ((mX5_goesOn U).bind (fun p5 => (mX5_number 0 (mX5_mostOf (nI (6 + i) - 6)) p5).bind (fun p6 => jg (jin ((3 : Int32) + nI (6 + i) - 6) 120) (jl (jsI p6.2 1 (Int32.toNatClampNeg ((3 : Int32) + nI (6 + i) - 6)) p6.1) (fun V8 => some V8))))) := by
  obtain ⟨l1, l2, l3, l4⟩ := lim_ok i hi
  obtain ⟨U1, n1, fm1, io⟩ := into_ok hb tx tm tk b0 (P := 8) (pn := 4) (i := i) (lo := 0) (hi := limOf i) (by omega) hi (by omega) (by omega) (by omega)
  rw [l1, l2, l4, n1, Option.bind_some, show (0 : Int32) = nI 0 from rfl]
  rcases io with ⟨x, V2, U2, p2, k2, v2, e2, w1, w2, r1, r2, tk2, hp2, b2, fm2, fp2⟩ | ⟨V2, U2, q, r1, r2, r3, r4, r5, r6⟩
  · rw [r1, r2, Option.bind_some, Option.bind_some, g_jin (show 3 + i < 120 by omega) (by omega), jg_t, jl_eq, g_cl (show 3 + i < 2 ^ 31 by omega)]
    show IR bs z p V U (jg (jzb 1) (some (1, V2))) (some (jsI U2 1 (3 + i) (nI x)))
    rw [show jzb 1 = true by decide, jg_t]
    have rr := row_ok h0 (k := 3 + i) (x := nI x) (by omega) (by omega) ⟨fun y => by omega, fun y => isN_nI (by unfold limOf at w2; split at w2 <;> omega) (by omega), fun y => isN_nI (by unfold limOf at w2; rw [if_neg (by omega), if_neg (by omega)] at w2; exact w2) (by omega), fun y => isN_nI (by omega) (by omega), fun y => isN_nI (by unfold limOf at w2; rw [if_neg (by omega), if_neg (by omega)] at w2; exact w2) (by omega)⟩ 8 i (.inr (.inr ⟨by omega, by omega, rfl, by omega⟩))
    have lx2 : LX V V2 := ⟨fun j hj => fp2.2.1 j (by omega) (by omega), fp2.2.2.1, fp2.2.2.2⟩
    have lmw : LM U2 (jsI U2 1 (3 + i) (nI x)) := ⟨fun j hj => by rw [s1_eq, if_neg (by omega)], fun a ha => by rw [s1_at, if_neg (by omega)], rfl⟩
    have rl : ReL V2 (jsI U2 1 (3 + i) (nI x)) := by
      refine ReL_fr rr.1 (fun j j1 j2 => ?_) (by rw [fp2.2.2.2]; rfl) ?_ (by show U2.2 0 3 = U.2 0 3; rw [fm2.2.2])
      · rw [s1_eq]
        by_cases y : j = 8
        · subst y; rw [if_pos rfl]; exact fp2.1
        · rw [if_neg y]; exact fp2.2.1 j (by omega) y
      · rw [s1_eq, if_pos rfl, s1_eq, if_pos rfl, fm2.1 1 (by omega)]
    have f0 : (jsI U2 1 (3 + i) (nI x)).1 0 = U2.1 0 := by rw [s1_eq, if_neg (by omega)]
    exact .inl ⟨V2, _, p2, k2, v2, e2, rfl, rfl, Rel_plan h0 rl lx2 (fm2.lm.tr lmw), TK_land tk2 rfl rfl f0, hp2, by rw [f0]; exact b2, lx2, fm2.lm.tr lmw⟩
  · rw [r1, r2, Option.bind_some, Option.bind_some, g_jin (show 3 + i < 120 by omega) (by omega), jg_t, jl_eq, g_cl (show 3 + i < 2 ^ 31 by omega)]
    show IR bs z p V U (jg (jzb 0) (some (0, V2))) (some (jsI U2 1 (3 + i) 0))
    rw [show jzb 0 = true by decide, jg_t]
    exact .inr ⟨V2, _, q, rfl, rfl, r3.land (by rw [s1_eq, if_neg (by omega)]), r4, r5.lx, r6.lm.tr ⟨fun j hj => by rw [s1_eq, if_neg (by omega)], fun a ha => by rw [s1_at, if_neg (by omega)], rfl⟩⟩
theorem kn_ok : ∀ i, i < 6 → mX4_kindName (nI i) = i + 2 ∧ wOf (i + 2) = i := by decide +kernel
theorem rn_ok : ∀ i, i < 4 → mX4_ruleName (nI i) = i + 11 ∧ wOf (i + 11) = i + 6 := by decide +kernel
theorem IR_zb {p : Nat} {X : Option (Int32 × jMem)} {M : Option jMem} (h : IR bs z p V U X M) : IR bs z p V U (X.bind (fun p4 => jg (jzb p4.1) (some (p4.1, p4.2)))) (M.bind (fun p9 => some p9)) := by
  rcases h with ⟨V', U', p', k', v', e', rfl, rfl, r⟩ | ⟨V', U', q, rfl, rfl, r⟩
  · exact .inl ⟨V', U', p', k', v', e', rfl, rfl, r⟩
  · exact .inr ⟨V', U', q, rfl, rfl, r⟩
theorem m_item_no (hk : ¬ U.1 0 18 = 1) : mX5_item U = some (jsI U 0 20 1) := by
  unfold mX5_item mX5_item_b16 mX5_item_b27
  rw [if_neg hk, if_pos (by decide), jl_eq]
theorem item_ok (h0 : Rel V U) (hb : TTB bs z) (tx : TTX V bs z) (tm : TTM U bs z) {p k v e : Nat} (tk : TK bs z V U p k v e) (b0 : U.1 0 20 = 0) : IR bs z p V U (mX4_readItem V) (mX5_item U) := by
  have iw := tk.2.2.2.2.2.2.2.2.2.2.2.2
  have bad : mX4_readItem V = some (0, V) → mX5_item U = some (jsI U 0 20 1) → IR bs z p V U (mX4_readItem V) (mX5_item U) := fun a b => .inr ⟨V, _, p, a, b, FA_bad ⟨tk.2.2.1, Nat.le_trans tk.1 hb.1⟩, tk.2.1, ⟨fun _ _ => rfl, rfl, rfl⟩, (FB_bad _ _).lm⟩
  have kinds : (¬ k = 0 ∨ 6 ≤ v) → mX4_readItem_b18 2000 0 V = mX4_readItem_b50 2000 0 V := by
    intro hk
    refine g_up (P := fun n i => mX4_readItem_b18 n (nI i) V = mX4_readItem_b50 2000 0 V) 6 ?_ ?_ 2000 0 (by omega) (by omega)
    · intro n
      show mX4_readItem_b18 (n + 1) _ _ = _
      rw [mX4_readItem_b18, if_pos (show (6 : Int32) ≤ nI 6 by decide)]
    · intro n i hi this
      show mX4_readItem_b18 (n + 1) _ _ = _
      obtain ⟨k1, k2⟩ := kn_ok i hi
      rw [mX4_readItem_b18, if_neg (show ¬ ((6 : Int32) ≤ nI i) from nI_ge (b := 6) (by omega) (by omega)), k1, iw (i + 2) (by omega) (by omega), Option.bind_some, if_neg (show ¬ (k = 0 ∧ wOf (i + 2) = v) from fun q => by rw [k2] at q; omega), if_pos rfl, nI_1]
      exact this
  have rules : (¬ k = 0 ∨ v < 6 ∨ 10 ≤ v) → mX4_readItem_b50 2000 0 V = some (0, V) := by
    intro hk
    refine g_up (P := fun n i => mX4_readItem_b50 n (nI i) V = some (0, V)) 4 ?_ ?_ 2000 0 (by omega) (by omega)
    · intro n
      show mX4_readItem_b50 (n + 1) _ _ = _
      rw [mX4_readItem_b50, if_pos (show (4 : Int32) ≤ nI 4 by decide)]
    · intro n i hi this
      show mX4_readItem_b50 (n + 1) _ _ = _
      obtain ⟨k1, k2⟩ := rn_ok i hi
      rw [mX4_readItem_b50, if_neg (show ¬ ((4 : Int32) ≤ nI i) from nI_ge (b := 4) (by omega) (by omega)), k1, iw (i + 11) (by omega) (by omega), Option.bind_some, if_neg (show ¬ (k = 0 ∧ wOf (i + 11) = v) from fun q => by rw [k2] at q; omega), if_pos rfl, nI_1]
      exact this
  have x0 : ¬ (k = 0 ∧ v = 10) → mX4_readItem V = mX4_readItem_b18 2000 0 V := by
    intro hk
    unfold mX4_readItem
    rw [iw 0 (by omega) (by omega), Option.bind_some, if_neg (show ¬ (k = 0 ∧ wOf 0 = v) from fun q => hk ⟨q.1, q.2.symm⟩), if_pos rfl]
  by_cases hk : k = 0
  · subst hk
    obtain ⟨v14, u19⟩ := tk.2.2.2.2.2.2.1 rfl
    have ms : mX5_item U = mX5_item_b16 (nI v) U := by
      unfold mX5_item
      rw [if_pos (tk.k0.mpr rfl), u19]
    have l10 : (nI v ≤ 10) ↔ v ≤ 10 := nI_leI (b := 10) (by omega) (by omega)
    have l6 : ((6 : Int32) ≤ nI v) ↔ 6 ≤ v := nI_leI (a := 6) (by omega) (by omega)
    have e10 : (nI v = 10) ↔ v = 10 := nI_eq (b := 10) (by omega) (by omega)
    by_cases y10 : v = 10
    · subst y10
      have xs : mX4_readItem V = (mX4_readStrip V).bind (fun p3 => jg (jzb p3.1) (some (p3.1, p3.2))) := by
        unfold mX4_readItem
        rw [iw 0 (by omega) (by omega), Option.bind_some, if_pos (show (0 = 0 ∧ wOf 0 = 10) from ⟨rfl, rfl⟩), if_neg g_10]
      have mm : mX5_item U = (mX5_stripItem U).bind (fun p9 => some p9) := by
        rw [ms]
        unfold mX5_item_b16
        rw [if_neg (nI_pos (by omega)), if_pos (l10.mpr (by omega)), if_pos (l6.mpr (by omega)), if_pos (e10.mpr rfl)]
      rw [xs, mm]
      exact IR_zb (strI_ok h0 hb tx tm tk b0)
    · have x1 := x0 (fun q => y10 q.2)
      by_cases y6 : v < 6
      · have xk : mX4_readItem_b18 2000 0 V = (mX4_readField (nI v) V).bind (fun p4 => jg (jzb p4.1) (some (p4.1, p4.2))) := by
          refine g_up (P := fun n i => mX4_readItem_b18 n (nI i) V = _) v ?_ ?_ 2000 0 (by omega) (by omega)
          · intro n
            show mX4_readItem_b18 (n + 1) _ _ = _
            obtain ⟨k1, k2⟩ := kn_ok v y6
            rw [mX4_readItem_b18, if_neg (show ¬ ((6 : Int32) ≤ nI v) from fun q => by have := l6.mp q; omega), k1, iw (v + 2) (by omega) (by omega), Option.bind_some, if_pos (show (0 = 0 ∧ wOf (v + 2) = v) from ⟨rfl, k2⟩), if_neg g_10]
          · intro n i hi this
            show mX4_readItem_b18 (n + 1) _ _ = _
            obtain ⟨k1, k2⟩ := kn_ok i (by omega)
            rw [mX4_readItem_b18, if_neg (show ¬ ((6 : Int32) ≤ nI i) from nI_ge (b := 6) (by omega) (by omega)), k1, iw (i + 2) (by omega) (by omega), Option.bind_some, if_neg (show ¬ (0 = 0 ∧ wOf (i + 2) = v) from fun q => by rw [k2] at q; omega), if_pos rfl, nI_1]
            exact this
        have mm : mX5_item U = (mX5_fieldItem (nI v) U).bind (fun p9 => some p9) := by
          rw [ms]
          unfold mX5_item_b16
          rw [if_neg (nI_pos (by omega)), if_pos (l10.mpr (by omega)), if_neg (show ¬ ((6 : Int32) ≤ nI v) from fun q => by have := l6.mp q; omega)]
        rw [x1, xk, mm]
        exact IR_zb (field_ok h0 hb tx tm tk b0 (by omega))
      · have xk := kinds (.inr (by omega))
        by_cases y9 : v < 10
        · obtain ⟨i, hi, rfl⟩ : ∃ i, i < 4 ∧ v = 6 + i := ⟨v - 6, by omega, by omega⟩
          have xr : mX4_readItem_b50 2000 0 V = (mX4_readInto 8 4 (nI i) 0 (jLims i) V).bind (fun p5 => jg (jzb p5.1) (some (p5.1, p5.2))) := by
            refine g_up (P := fun n j => mX4_readItem_b50 n (nI j) V = _) i ?_ ?_ 2000 0 (by omega) (by omega)
            · intro n
              show mX4_readItem_b50 (n + 1) _ _ = _
              obtain ⟨k1, k2⟩ := rn_ok i hi
              rw [mX4_readItem_b50, if_neg (show ¬ ((4 : Int32) ≤ nI i) from nI_ge (b := 4) (by omega) (by omega)), k1, iw (i + 11) (by omega) (by omega), Option.bind_some, if_pos (show (0 = 0 ∧ wOf (i + 11) = 6 + i) from ⟨rfl, by omega⟩), if_neg g_10, g_jin hi (by omega), jg_t, g_cl (show i < 2 ^ 31 by omega)]
            · intro n j hj this
              show mX4_readItem_b50 (n + 1) _ _ = _
              obtain ⟨k1, k2⟩ := rn_ok j (by omega)
              rw [mX4_readItem_b50, if_neg (show ¬ ((4 : Int32) ≤ nI j) from nI_ge (b := 4) (by omega) (by omega)), k1, iw (j + 11) (by omega) (by omega), Option.bind_some, if_neg (show ¬ (0 = 0 ∧ wOf (j + 11) = 6 + i) from fun q => by rw [k2] at q; omega), if_pos rfl, nI_1]
              exact this
          have mm : mX5_item U = (mX5_goesOn U).bind (fun p5 => (mX5_number 0 (mX5_mostOf (nI (6 + i) - 6)) p5).bind (fun p6 => jg (jin ((3 : Int32) + nI (6 + i) - 6) 120) (jl (jsI p6.2 1 (Int32.toNatClampNeg ((3 : Int32) + nI (6 + i) - 6)) p6.1) (fun V8 => some V8)))) := by
            rw [ms]
            unfold mX5_item_b16
            rw [if_neg (nI_pos (by omega)), if_pos (l10.mpr (by omega)), if_pos (l6.mpr (by omega)), if_neg (show ¬ nI (6 + i) = 10 from fun q => by have := e10.mp q; omega)]
          rw [x1, xk, xr, mm]
          exact rule_ok2 h0 hb tx tm hi tk b0
        · refine bad (by rw [x1, xk]; exact rules (.inr (.inr (by omega)))) ?_
          rw [ms]
          unfold mX5_item_b16 mX5_item_b27
          rw [if_neg (nI_pos (by omega)), if_neg (show ¬ nI v ≤ 10 from fun q => by have := l10.mp q; omega), jl_eq]
  · exact bad (by rw [x0 (fun q => hk q.1), kinds (.inl hk)]; exact rules (.inl hk)) (m_item_no (fun q => hk (tk.k0.mp q)))
end TJ
