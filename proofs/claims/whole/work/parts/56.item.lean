/-! the text: a field's ITEM -/
section TI
variable {V U V' U' V0 U0 : jMem} {bs : Nat → Nat} {z : Nat}
def LX (V V' : jMem) : Prop := (∀ j, (j = 0 ∨ (11 ≤ j ∧ j ≠ 36)) → V'.1 j = V.1 j) ∧ V'.1 36 1 = V.1 36 1 ∧ V'.2 = V.2
def LM (U U' : jMem) : Prop := (∀ j, 2 ≤ j → U'.1 j = U.1 j) ∧ (∀ a, a < 16 → U'.1 0 a = U.1 0 a) ∧ U'.2 = U.2
theorem LX.tr {V2 : jMem} (h : LX V V') (h2 : LX V' V2) : LX V V2 := ⟨fun j hj => (h2.1 j hj).trans (h.1 j hj), h2.2.1.trans h.2.1, h2.2.2.trans h.2.2⟩
theorem LM.tr {U2 : jMem} (h : LM U U') (h2 : LM U' U2) : LM U U2 := ⟨fun j hj => (h2.1 j hj).trans (h.1 j hj), fun a ha => (h2.2.1 a ha).trans (h.2.1 a ha), h2.2.2.trans h.2.2⟩
theorem FX.lx (h : FX V V') : LX V V' := ⟨fun j hj => h.1 j (by omega), h.2.1, h.2.2⟩
theorem FB.lm (h : FB U U') : LM U U' := ⟨fun j hj => h.1 j (by omega), h.2.1, h.2.2⟩
theorem FM.lm (h : FM U U') : LM U U' := h.fb.lm
theorem Rel_plan (h : Rel V U) (h1 : ReL V' U') (lx : LX V V') (lm : LM U U') : Rel V' U' := by
  obtain ⟨-, h2, h3, h4, h5, h6⟩ := h
  obtain ⟨a, b, c⟩ := lx
  obtain ⟨d, e, f⟩ := lm
  exact ⟨h1, ReK_fr h2 (by rw [a 0 (by omega)]) (fun j _ _ => a j (by omega)) (by rw [c]) (d 2 (by omega)) (by rw [f]) (e 5 (by omega)), ReT_fr h3 b (a 37 (by omega)) (e 8 (by omega)) (d 5 (by omega)), ReF_fr h4 (a 47 (by omega)) (d 4 (by omega)), ReS_fr h5 (fun j _ _ => a j (by omega)) (fun j _ _ => by rw [c]) (d 6 (by omega)) (d 7 (by omega)) (by rw [f]), ReW_fr h6 (d 11 (by omega))⟩
theorem Rel_tok (h : Rel V U) (fx : FX V V') (fb : FB U U') : Rel V' U' := Rel_plan h (ReL_fr h.1 (fun j _ _ => fx.1 j (by omega)) (by rw [fx.2.2]) (fb.1 1 (by omega)) (by rw [fb.2.2])) fx.lx fb.lm
theorem FA.land {q : Nat} (h : FA U q) (e : U'.1 0 = U.1 0) : FA U' q := by
  unfold FA; rw [e]; exact h
/-- how an ITEM ends -/
def IR (bs : Nat → Nat) (z p : Nat) (V U : jMem) (X : Option (Int32 × jMem)) (M : Option jMem) : Prop := (∃ V' U' p' k' v' e', X = some (1, V') ∧ M = some U' ∧ Rel V' U' ∧ TK bs z V' U' p' k' v' e' ∧ p < p' ∧ U'.1 0 20 = 0 ∧ LX V V' ∧ LM U U') ∨ (∃ V' U' q, X = some (0, V') ∧ M = some U' ∧ FA U' q ∧ V'.1 36 2 = nI q ∧ LX V V' ∧ LM U U')
/-- the class's Land with a new field whose parts are read so far -/
def FV (V0 V : jMem) (n : Nat) (kd wo wa te : Int32) : Prop := V.1 1 0 = nI (n + 1) ∧ (∀ a, a ≠ 0 → V.1 1 a = V0.1 1 a) ∧ (V.1 2 n = kd ∧ V.1 3 n = wo ∧ V.1 4 n = wa ∧ V.1 5 n = te) ∧ (∀ g, g < n → V.1 2 g = V0.1 2 g ∧ V.1 3 g = V0.1 3 g ∧ V.1 4 g = V0.1 4 g ∧ V.1 5 g = V0.1 5 g) ∧ (∀ j, 6 ≤ j → j ≤ 10 → V.1 j = V0.1 j)
theorem FV_fx {n : Nat} {kd wo wa te : Int32} (h : FV V0 V n kd wo wa te) (fx : FX V V') : FV V0 V' n kd wo wa te := by
  unfold FV at *
  rw [fx.1 1 (by omega), fx.1 2 (by omega), fx.1 3 (by omega), fx.1 4 (by omega), fx.1 5 (by omega)]
  exact ⟨h.1, h.2.1, h.2.2.1, h.2.2.2.1, fun j h1 h2 => by rw [fx.1 j (by omega)]; exact h.2.2.2.2 j h1 h2⟩
theorem FV_3 {n : Nat} {kd wo wa te x : Int32} (h : FV V0 V n kd wo wa te) (fp : FP 3 n x V V') : FV V0 V' n kd x wa te := by
  obtain ⟨p1, p2, -, -⟩ := fp
  unfold FV at *
  rw [p1, p2 1 (by omega) (by omega), p2 2 (by omega) (by omega), p2 4 (by omega) (by omega), p2 5 (by omega) (by omega)]
  refine ⟨h.1, h.2.1, ⟨h.2.2.1.1, by rw [u_eq, if_pos rfl], h.2.2.1.2.2⟩, fun g hg => ?_, fun j h1 h2 => by rw [p2 j (by omega) (by omega)]; exact h.2.2.2.2 j h1 h2⟩
  obtain ⟨q1, q2, q3, q4⟩ := h.2.2.2.1 g hg
  exact ⟨q1, by rw [u_eq, if_neg (by omega)]; exact q2, q3, q4⟩
theorem FV_4 {n : Nat} {kd wo wa te x : Int32} (h : FV V0 V n kd wo wa te) (fp : FP 4 n x V V') : FV V0 V' n kd wo x te := by
  obtain ⟨p1, p2, -, -⟩ := fp
  unfold FV at *
  rw [p1, p2 1 (by omega) (by omega), p2 2 (by omega) (by omega), p2 3 (by omega) (by omega), p2 5 (by omega) (by omega)]
  refine ⟨h.1, h.2.1, ⟨h.2.2.1.1, h.2.2.1.2.1, by rw [u_eq, if_pos rfl], h.2.2.1.2.2.2⟩, fun g hg => ?_, fun j h1 h2 => by rw [p2 j (by omega) (by omega)]; exact h.2.2.2.2 j h1 h2⟩
  obtain ⟨q1, q2, q3, q4⟩ := h.2.2.2.1 g hg
  exact ⟨q1, q2, by rw [u_eq, if_neg (by omega)]; exact q3, q4⟩
theorem FV_5 {n : Nat} {kd wo wa te : Int32} (h : FV V0 V n kd wo wa te) (x : Int32) : FV V0 (jsI V 5 n x) n kd wo wa x := by
  unfold FV at *
  have e : ∀ j, j ≠ 5 → (jsI V 5 n x).1 j = V.1 j := fun j hj => by rw [s1_eq, if_neg hj]
  rw [e 1 (by omega), e 2 (by omega), e 3 (by omega), e 4 (by omega)]
  refine ⟨h.1, h.2.1, ⟨h.2.2.1.1, h.2.2.1.2.1, h.2.2.1.2.2.1, by rw [s1_at, if_pos ⟨rfl, rfl⟩]⟩, fun g hg => ?_, fun j h1 h2 => by rw [e j (by omega)]; exact h.2.2.2.2 j h1 h2⟩
  obtain ⟨q1, q2, q3, q4⟩ := h.2.2.2.1 g hg
  exact ⟨q1, q2, q3, by rw [s1_at, if_neg (by omega)]; exact q4⟩
theorem FV_0 (n : Nat) (kd : Int32) (hn : V0.1 1 0 = nI n) : FV V0 (xAdd n kd 1 V0) n kd 1 0 0 := by
  unfold FV xAdd
  refine ⟨?_, fun a ha => ?_, ⟨?_, ?_, ?_, ?_⟩, fun g hg => ⟨?_, ?_, ?_, ?_⟩, fun j h1 h2 => ?_⟩
  · rw [s1_at, if_pos ⟨rfl, rfl⟩, hn, nI_1]
  · rw [s1_at, if_neg (by omega), s1_at, if_neg (by omega), s1_at, if_neg (by omega), s1_at, if_neg (by omega), s1_at, if_neg (by omega)]
  · rw [s1_at, if_neg (by omega), s1_at, if_neg (by omega), s1_at, if_neg (by omega), s1_at, if_neg (by omega), s1_at, if_pos ⟨rfl, rfl⟩]
  · rw [s1_at, if_neg (by omega), s1_at, if_neg (by omega), s1_at, if_neg (by omega), s1_at, if_pos ⟨rfl, rfl⟩]
  · rw [s1_at, if_neg (by omega), s1_at, if_neg (by omega), s1_at, if_pos ⟨rfl, rfl⟩]
  · rw [s1_at, if_neg (by omega), s1_at, if_pos ⟨rfl, rfl⟩]
  · rw [s1_at, if_neg (by omega), s1_at, if_neg (by omega), s1_at, if_neg (by omega), s1_at, if_neg (by omega), s1_at, if_neg (by omega)]
  · rw [s1_at, if_neg (by omega), s1_at, if_neg (by omega), s1_at, if_neg (by omega), s1_at, if_neg (by omega), s1_at, if_neg (by omega)]
  · rw [s1_at, if_neg (by omega), s1_at, if_neg (by omega), s1_at, if_neg (by omega), s1_at, if_neg (by omega), s1_at, if_neg (by omega)]
  · rw [s1_at, if_neg (by omega), s1_at, if_neg (by omega), s1_at, if_neg (by omega), s1_at, if_neg (by omega), s1_at, if_neg (by omega)]
  · rw [s1_eq, if_neg (by omega), s1_eq, if_neg (by omega), s1_eq, if_neg (by omega), s1_eq, if_neg (by omega), s1_eq, if_neg (by omega)]
/-- the reference's row with a new field -/
def mNew (n : Nat) (kd wo wa te : Int32) (U : jMem) : jMem := jsI (jsI (mAdd n kd wo U) 1 (10 + 7 * n + 2) wa) 1 (10 + 7 * n + 3) te
theorem mNew_far (n : Nat) (kd wo wa te : Int32) (U : jMem) {j : Nat} (hj : j ≠ 1) : (mNew n kd wo wa te U).1 j = U.1 j := by
  unfold mNew
  rw [s1_eq, if_neg hj, s1_eq, if_neg hj, mAdd_far _ _ _ _ hj]
theorem new_ReL (h : ReL V0 U0) (hn : gN (U0.1 1) < 14) {kd wo wa te : Nat} (hkd : kd ≤ 5) (hwo1 : 1 ≤ wo) (hwo : wo ≤ 9999) (hwa : wa ≤ 9) (hte : te ≤ 16383) (fv : FV V0 V (gN (U0.1 1)) (nI kd) (nI wo) (nI wa) (nI te)) (v2 : V.2 = V0.2) (u1 : U.1 1 = U0.1 1) (u2 : U.2 = U0.2) : ReL V (mNew (gN (U0.1 1)) (nI kd) (nI wo) (nI wa) (nI te) U) := by
  have un : U.1 1 0 = nI (gN (U0.1 1)) := by rw [u1]; exact h.2.1.1
  obtain ⟨g0, g1, g2, g3, g4, g5, g6⟩ := mAdd_F (gN (U0.1 1)) (nI kd) (nI wo) U
  have gf : ∀ w, w < 7 → gF ((mNew (gN (U0.1 1)) (nI kd) (nI wo) (nI wa) (nI te) U).1 1) (gN (U0.1 1)) w = if w = 3 then nI te else if w = 2 then nI wa else gF ((mAdd (gN (U0.1 1)) (nI kd) (nI wo) U).1 1) (gN (U0.1 1)) w := by
    intro w hw
    unfold gF mNew
    rw [s1_at, s1_at]
    by_cases y3 : w = 3
    · rw [if_pos (by omega), if_pos y3]
    · rw [if_neg (by omega), if_neg y3]
      by_cases y2 : w = 2
      · rw [if_pos (by omega), if_pos y2]
      · rw [if_neg (by omega), if_neg y2]
  refine add_ReL h hn (nI kd) (nI wo) (nI wa) (nI te) (isN_nI hkd (by omega)) (isN_nI hwo (by omega)) (by rw [nn_nI (by omega)]; exact hwo1) (isN_nI hwa (by omega)) (isN_nI hte (by omega)) ?_ ?_ ⟨?_, ?_, ?_, ?_, ?_, ?_, ?_⟩ ?_ fv.1 fv.2.1 (by rw [v2]) fv.2.2.1 fv.2.2.2.1 fv.2.2.2.2
  · unfold mNew
    rw [s1_at, if_neg (by omega), s1_at, if_neg (by omega), mAdd_at, if_pos rfl, un, nI_1]
  · intro k k1 k2
    unfold mNew
    rw [s1_at, if_neg (by omega), s1_at, if_neg (by omega), mAdd_at, if_neg (by omega), if_neg (by omega), if_neg (by omega), if_neg (by omega), if_neg (by omega), if_neg (by omega), if_neg (by omega), if_neg (by omega), u1]
  · rw [gf 0 (by omega), if_neg (by omega), if_neg (by omega)]; exact g0
  · rw [gf 1 (by omega), if_neg (by omega), if_neg (by omega)]; exact g1
  · rw [gf 2 (by omega), if_neg (by omega), if_pos rfl]
  · rw [gf 3 (by omega), if_pos rfl]
  · rw [gf 4 (by omega), if_neg (by omega), if_neg (by omega)]; exact g4
  · rw [gf 5 (by omega), if_neg (by omega), if_neg (by omega)]; exact g5
  · rw [gf 6 (by omega), if_neg (by omega), if_neg (by omega)]; exact g6
  · show U.2 0 3 = U0.2 0 3
    rw [u2]
theorem m_70 (h : ReL V0 U0) (hn : gN (U0.1 1) < 14) (u1 : U.1 1 = U0.1 1) (u2 : U.2 = U0.2) (kd wo wa te : Int32) : mX5_fieldItem_b70 kd wo wa te U = some (if U.1 0 20 = 0 then mNew (gN (U0.1 1)) kd wo wa te U else U) := by
  have hl : ReL V0 U := ReL_fr h (fun _ _ _ => rfl) rfl u1 (by rw [u2])
  have hg : gN (U.1 1) = gN (U0.1 1) := by rw [u1]
  unfold mX5_fieldItem_b70
  by_cases y : U.1 0 20 = 0
  · have un : U.1 1 0 = nI (gN (U0.1 1)) := by rw [u1]; exact h.2.1.1
    have c0 : (mAdd (gN (U0.1 1)) kd wo U).1 1 0 - 1 = nI (gN (U0.1 1)) := by
      rw [mAdd_at, if_pos rfl, un, nI_1, nI_pred]
    have c1 : ∀ x : Int32, (jsI (mAdd (gN (U0.1 1)) kd wo U) 1 (10 + 7 * gN (U0.1 1) + 2) x).1 1 0 - 1 = nI (gN (U0.1 1)) := fun x => by
      rw [s1_at, if_neg (by omega)]; exact c0
    rw [if_pos y, if_pos y, m_add hl (by rw [hg]; exact hn), Option.bind_some, hg, c0, m_at2, g_jin (show 10 + 7 * gN (U0.1 1) + 2 < 120 by omega) (by omega), jg_t, jl_eq, g_cl (show 10 + 7 * gN (U0.1 1) + 2 < 2 ^ 31 by omega), c1, m_at3, g_jin (show 10 + 7 * gN (U0.1 1) + 3 < 120 by omega) (by omega), jg_t, jl_eq, g_cl (show 10 + 7 * gN (U0.1 1) + 3 < 2 ^ 31 by omega)]
    rfl
  · rw [if_neg y, if_neg y]
theorem m_70F (h : ReL V0 U0) (hn : gN (U0.1 1) < 14) (u1 : U.1 1 = U0.1 1) (u2 : U.2 = U0.2) (kd wo wa te : Int32) {q : Nat} (hf : FA U q) : ∃ U', mX5_fieldItem_b70 kd wo wa te U = some U' ∧ FA U' q ∧ LM U U' := by
  rw [m_70 h hn u1 u2]
  by_cases y : U.1 0 20 = 0
  · rw [if_pos y]
    exact ⟨_, rfl, hf.land (mNew_far _ _ _ _ _ _ (by omega)), fun j hj => mNew_far _ _ _ _ _ _ (by omega), fun a ha => by rw [mNew_far _ _ _ _ _ _ (by omega)], rfl⟩
  · rw [if_neg y]
    exact ⟨U, rfl, hf, fun _ _ => rfl, fun _ _ => rfl, rfl⟩
theorem m_50F (h : ReL V0 U0) (hn : gN (U0.1 1) < 14) (u1 : U.1 1 = U0.1 1) (u2 : U.2 = U0.2) (kd wo wa : Int32) {q : Nat} (hf : FA U q) : ∃ U', mX5_fieldItem_b50 kd wo wa U = some U' ∧ FA U' q ∧ LM U U' := by
  unfold mX5_fieldItem_b50
  rw [hf.takes, Option.bind_some, if_pos rfl]
  exact m_70F h hn u1 u2 kd wo wa 0 hf
/-- behind WORTH and WARY -/
theorem tells_ok (h0 : Rel V0 U0) (hn : gN (U0.1 1) < 14) (hb : TTB bs z) (tx : TTX V bs z) (tm : TTM U bs z) {p0 p k v e kd wo wa : Nat} (tk : TK bs z V U p k v e) (hp : p0 < p) (b0 : U.1 0 20 = 0) (hkd : kd ≤ 5) (hwo1 : 1 ≤ wo) (hwo : wo ≤ 9999) (hwa : wa ≤ 9) (fv : FV V0 V (gN (U0.1 1)) (nI kd) (nI wo) (nI wa) 0) (lx : LX V0 V) (u1 : U.1 1 = U0.1 1) (lm : LM U0 U) : IR bs z p0 V0 U0 (mX4_readField_b63 (nI (gN (U0.1 1))) V) (mX5_fieldItem_b50 (nI kd) (nI wo) (nI wa) U) := by
  have done : ∀ (V' U' : jMem) (p' k' v' e' te : Nat), te ≤ 16383 → FV V0 V' (gN (U0.1 1)) (nI kd) (nI wo) (nI wa) (nI te) → TK bs z V' U' p' k' v' e' → p0 < p' → U'.1 0 20 = 0 → LX V0 V' → U'.1 1 = U0.1 1 → LM U0 U' → IR bs z p0 V0 U0 (some (1, V')) (mX5_fieldItem_b70 (nI kd) (nI wo) (nI wa) (nI te) U') := by
    intro V' U' p' k' v' e' te hte fv' tk' hp' b0' lx' u1' lm'
    rw [m_70 h0.1 hn u1' lm'.2.2, if_pos b0']
    have f0 : (mNew (gN (U0.1 1)) (nI kd) (nI wo) (nI wa) (nI te) U').1 0 = U'.1 0 := mNew_far _ _ _ _ _ _ (by omega)
    have lmn : LM U' (mNew (gN (U0.1 1)) (nI kd) (nI wo) (nI wa) (nI te) U') := ⟨fun j hj => mNew_far _ _ _ _ _ _ (by omega), fun a ha => by rw [f0], rfl⟩
    exact .inl ⟨V', _, p', k', v', e', rfl, rfl, Rel_plan h0 (new_ReL h0.1 hn hkd hwo1 hwo hwa hte fv' lx'.2.2 u1' lm'.2.2) lx' (lm'.tr lmn), TK_land tk' rfl rfl f0, hp', by rw [f0]; exact b0', lx', lm'.tr lmn⟩
  have iw := tk.2.2.2.2.2.2.2.2.2.2.2.2 10 (by omega) (by omega)
  unfold mX4_readField_b63 mX5_fieldItem_b50
  rw [iw, Option.bind_some]
  rcases tk.takes b0 (w := 12) (by omega) with ⟨y, t1⟩ | ⟨y, y2, t1⟩
  · rw [show (12 : Int32) = nI 12 from rfl, t1, Option.bind_some, if_pos rfl, if_neg (show ¬ (k = 0 ∧ wOf 10 = v) from fun q => y ⟨q.1, q.2.symm⟩), if_pos rfl]
    exact done V U p k v e 0 (by omega) fv tk hp b0 lx u1 lm
  · subst y y2
    obtain ⟨U1, n1, fm, se⟩ := set_ok2 hb tx tm tk b0 (lim := 14) (by omega)
    rw [show (12 : Int32) = nI 12 from rfl, t1 U1 n1, Option.bind_some, if_neg g_10, if_pos (show (0 = 0 ∧ wOf 10 = 12) from ⟨rfl, rfl⟩), if_neg g_10]
    rcases se with ⟨m, V', U', p', k', v', e', r0, r1, r2, r3, r4, r5, r6, r7, r8⟩ | ⟨x, V', U', q, r2, r3, r4, r5, r6, r7⟩
    · rw [show (14 : Int32) = nI 14 from rfl, r2, r3, Option.bind_some, Option.bind_some]
      show IR bs z p0 V0 U0 (if (0 : Int32) ≤ nI m then jg (jin (nI (gN (U0.1 1))) 14) (jl (jsI V' 5 (nI (gN (U0.1 1))).toNatClampNeg (nI m)) fun V6 => some (1, V6)) else some (0, V')) (mX5_fieldItem_b70 (nI kd) (nI wo) (nI wa) (nI m) U')
      rw [if_pos (nI_pos' (by omega)), g_jin hn (by omega), jg_t, jl_eq, g_cl (show gN (U0.1 1) < 2 ^ 31 by omega)]
      have lx5 : LX V' (jsI V' 5 (gN (U0.1 1)) (nI m)) := ⟨fun j hj => by rw [s1_eq, if_neg (by omega)], by rw [s1_at, if_neg (by omega)], rfl⟩
      exact done _ U' p' k' v' e' m (by omega) (FV_5 (FV_fx fv r7) _) (TK_land r4 rfl rfl rfl) (by omega) r5 ((lx.tr r7.lx).tr lx5) (by rw [r8.1 1 (by omega)]; exact u1) (lm.tr r8.lm)
    · rw [show (14 : Int32) = nI 14 from rfl, r2, r3, Option.bind_some, Option.bind_some]
      show IR bs z p0 V0 U0 (if (0 : Int32) ≤ -1 then _ else some (0, V')) (mX5_fieldItem_b70 (nI kd) (nI wo) (nI wa) x U')
      rw [if_neg (by decide)]
      obtain ⟨U2, s1, s2, s3⟩ := m_70F h0.1 hn (U := U') (by rw [r7.1 1 (by omega)]; exact u1) (by rw [r7.2.2]; exact lm.2.2) (nI kd) (nI wo) (nI wa) x r4
      exact .inr ⟨V', U2, q, rfl, s1, s2, r5, lx.tr r6.lx, (lm.tr r7.lm).tr s3⟩
theorem field_ok (h0 : Rel V U) (hb : TTB bs z) (tx : TTX V bs z) (tm : TTM U bs z) {p kd e : Nat} (tk : TK bs z V U p 0 kd e) (b0 : U.1 0 20 = 0) (hkd : kd ≤ 5) : IR bs z p V U (mX4_readField (nI kd) V) (mX5_fieldItem (nI kd) U) := by
  have hN := h0.n
  have q1 : (V.1 1 0 < 14) ↔ gN (U.1 1) < 14 := by rw [hN.2.1]; exact nI_ltI (b := 14) (by omega) (by omega)
  have q2 : (U.1 1 0 = 14) ↔ gN (U.1 1) = 14 := by rw [hN.1]; exact nI_eq (b := 14) (by omega) (by omega)
  unfold mX4_readField mX5_fieldItem
  simp only [q1, q2]
  by_cases hn : gN (U.1 1) < 14
  · rw [if_pos hn, if_neg (by omega), x_add h0.1 hn, Option.bind_some]
    have fx0 : ∀ j, (j = 0 ∨ 11 ≤ j) → (xAdd (gN (U.1 1)) (nI kd) 1 V).1 j = V.1 j := fun j hj => by
      unfold xAdd
      rw [s1_eq, if_neg (by omega), s1_eq, if_neg (by omega), s1_eq, if_neg (by omega), s1_eq, if_neg (by omega), s1_eq, if_neg (by omega)]
    have lx0 : LX V (xAdd (gN (U.1 1)) (nI kd) 1 V) := ⟨fun j hj => fx0 j (by omega), by rw [fx0 36 (by omega)], rfl⟩
    have tk1 : TK bs z (xAdd (gN (U.1 1)) (nI kd) 1 V) U p 0 kd e := TK_land tk (fx0 36 (by omega)) (fx0 37 (by omega)) rfl
    have tx1 : TTX (xAdd (gN (U.1 1)) (nI kd) 1 V) bs z := TTX_fr tx (by rw [fx0 36 (by omega)]) (fx0 37 (by omega))
    have fv0 : FV V (xAdd (gN (U.1 1)) (nI kd) 1 V) (gN (U.1 1)) (nI kd) 1 0 0 := FV_0 _ _ hN.2.1
    obtain ⟨U1, n1, fm1, io⟩ := into_ok hb tx1 tm tk1 b0 (P := 3) (pn := 14) (i := gN (U.1 1)) (lo := 1) (hi := 9999) (by omega) hn (by omega) (by omega) (by omega)
    rw [n1, Option.bind_some]
    show IR bs z p V U ((mX4_readInto 3 14 (nI (gN (U.1 1))) (nI 1) (nI 9999) (xAdd (gN (U.1 1)) (nI kd) 1 V)).bind _) ((mX5_number (nI 1) (nI 9999) U1).bind _)
    rcases io with ⟨wo, V2, U2, p2, k2, v2, e2, w1, w2, r1, r2, tk2, hp2, b2, fm2, fp2⟩ | ⟨V2, U2, q, r1, r2, r3, r4, r5, r6⟩
    · rw [r1, r2, Option.bind_some, Option.bind_some]
      have fv2 := FV_3 fv0 fp2
      have lx2 : LX (xAdd (gN (U.1 1)) (nI kd) 1 V) V2 := ⟨fun j hj => fp2.2.1 j (by omega) (by omega), fp2.2.2.1, fp2.2.2.2⟩
      have tx2 : TTX V2 bs z := TTX_fr tx1 lx2.2.1 (lx2.1 37 (by omega))
      have tm2 := tm.fb fm2.fb
      have u21 : U2.1 1 = U.1 1 := fm2.1 1 (by omega)
      have iw := tk2.2.2.2.2.2.2.2.2.2.2.2.2 9 (by omega) (by omega)
      show IR bs z p V U (if (1 : Int32) = 0 then _ else (mX3_isWord 9 V2).bind (fun r5 => if r5 = 0 then mX4_readField_b63 (nI (gN (U.1 1))) V2 else (mX4_readInto 4 14 (nI (gN (U.1 1))) (nI 0) (nI 9) V2).bind (fun p7 => if p7.1 = 0 then some (0, p7.2) else mX4_readField_b63 (nI (gN (U.1 1))) p7.2))) ((mX5_takes (nI 11) U2).bind (fun p4 => if p4.1 = 0 then mX5_fieldItem_b50 (nI kd) (nI wo) 0 p4.2 else (mX5_number (nI 0) (nI 9) p4.2).bind (fun p6 => mX5_fieldItem_b50 (nI kd) (nI wo) p6.1 p6.2)))
      rw [if_neg g_10, iw, Option.bind_some]
      rcases tk2.takes b2 (w := 11) (by omega) with ⟨y, t1⟩ | ⟨y, y2, t1⟩
      · rw [t1, Option.bind_some, if_neg (show ¬ (k2 = 0 ∧ wOf 9 = v2) from fun q => y ⟨q.1, q.2.symm⟩), if_pos rfl]
        exact tells_ok h0 hn hb tx2 tm2 tk2 hp2 b2 hkd w1 w2 (wa := 0) (by omega) fv2 (lx0.tr lx2) u21 fm2.lm
      · subst y y2
        obtain ⟨U3, n3, fm3, io3⟩ := into_ok hb tx2 tm2 tk2 b2 (P := 4) (pn := 14) (i := gN (U.1 1)) (lo := 0) (hi := 9) (by omega) hn (by omega) (by omega) (by omega)
        rw [t1 U3 n3, Option.bind_some, if_pos (show (0 = 0 ∧ wOf 9 = 11) from ⟨rfl, rfl⟩), if_neg g_10]
        show IR bs z p V U _ (if (1 : Int32) = 0 then _ else (mX5_number (nI 0) (nI 9) U3).bind (fun p6 => mX5_fieldItem_b50 (nI kd) (nI wo) p6.1 p6.2))
        rw [if_neg g_10]
        rcases io3 with ⟨wa, V4, U4, p4, k4, v4, e4, x1, x2, r1, r2, tk4, hp4, b4, fm4, fp4⟩ | ⟨V4, U4, q, r1, r2, r3, r4, r5, r6⟩
        · rw [r1, r2, Option.bind_some, Option.bind_some]
          show IR bs z p V U (if (1 : Int32) = 0 then _ else mX4_readField_b63 (nI (gN (U.1 1))) V4) (mX5_fieldItem_b50 (nI kd) (nI wo) (nI wa) U4)
          rw [if_neg g_10]
          have lx4 : LX V2 V4 := ⟨fun j hj => fp4.2.1 j (by omega) (by omega), fp4.2.2.1, fp4.2.2.2⟩
          exact tells_ok h0 hn hb (TTX_fr tx2 lx4.2.1 (lx4.1 37 (by omega))) (tm2.fb fm4.fb) tk4 (by omega) b4 hkd w1 w2 x2 (FV_4 fv2 fp4) ((lx0.tr lx2).tr lx4) (by rw [fm4.1 1 (by omega)]; exact u21) (fm2.tr fm4).lm
        · rw [r1, r2, Option.bind_some, Option.bind_some]
          show IR bs z p V U (if (0 : Int32) = 0 then some (0, V4) else _) (mX5_fieldItem_b50 (nI kd) (nI wo) 0 U4)
          rw [if_pos rfl]
          obtain ⟨U5, s1, s2, s3⟩ := m_50F h0.1 hn (U := U4) (by rw [r6.1 1 (by omega)]; exact u21) (by rw [r6.2.2, fm2.2.2]) (nI kd) (nI wo) 0 r3
          exact .inr ⟨V4, U5, q, rfl, s1, s2, r4, (lx0.tr lx2).tr r5.lx, (fm2.lm.tr r6.lm).tr s3⟩
    · rw [r1, r2, Option.bind_some, Option.bind_some]
      show IR bs z p V U (if (0 : Int32) = 0 then some (0, V2) else _) ((mX5_takes (nI 11) U2).bind (fun p4 => if p4.1 = 0 then mX5_fieldItem_b50 (nI kd) 0 0 p4.2 else (mX5_number (nI 0) (nI 9) p4.2).bind (fun p6 => mX5_fieldItem_b50 (nI kd) 0 p6.1 p6.2)))
      rw [if_pos rfl, r3.takes, Option.bind_some]
      show IR bs z p V U _ (if (0 : Int32) = 0 then mX5_fieldItem_b50 (nI kd) 0 0 U2 else _)
      rw [if_pos rfl]
      obtain ⟨U5, s1, s2, s3⟩ := m_50F h0.1 hn (U := U2) (r6.1 1 (by omega)) r6.2.2 (nI kd) 0 0 r3
      exact .inr ⟨V2, U5, q, rfl, s1, s2, r4, lx0.tr r5.lx, r6.lm.tr s3⟩
  · rw [if_neg hn, if_pos (by omega), jl_eq]
    exact .inr ⟨V, _, p, rfl, rfl, FA_bad ⟨tk.2.2.1, Nat.le_trans tk.1 hb.1⟩, tk.2.1, ⟨fun _ _ => rfl, rfl, rfl⟩, (FB_bad _ _).lm⟩
end TI
