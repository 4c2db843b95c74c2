/-! the text: both sides, one TOKEN on -/
section TQ
variable {V U V' U' : jMem} {bs : Nat → Nat} {z : Nat}
def wOf (c : Nat) : Nat := if c = 0 then 10 else if c = 1 then 13 else if c < 8 then c - 2 else if c = 9 then 11 else if c = 10 then 12 else c - 5
theorem c_len : ∀ c, c < 15 → c ≠ 8 → mJ0_length_8abf5 c = nI (wLen (wOf c)) ∧ wOf c < 14 := by decide +kernel
theorem c_ch : ∀ c, c < 15 → c ≠ 8 → ∀ j, j < wLen (wOf c) → mJ0_charAt_5068e c (nI j) = some (nI (wCh (wOf c) j)) := by decide +kernel
theorem x_isWord (hb : TTB bs z) (tx : TTX V bs z) {p e c : Nat} (hc : c < 15) (hc8 : c ≠ 8) (hpe : p < e) (he : e ≤ z) (h2 : V.1 36 2 = nI p) (h3 : V.1 36 3 = nI e) (h4 : V.1 36 4 = 0) : mX3_isWord c V = some (if eqB bs p e (wOf c) then 1 else 0) := by
  obtain ⟨l1, l2⟩ := c_len c hc hc8
  obtain ⟨t1, t2, t3, t4⟩ := w_tab (wOf c) l2
  have h1 := hb.1
  have q : (nI (e - p) = nI (wLen (wOf c))) ↔ e = p + wLen (wOf c) := by
    rw [nI_eq (by omega) (by omega)]; omega
  unfold mX3_isWord
  rw [if_pos h4, h3, h2, pk_sub (by omega), l1]
  simp only [q]
  unfold eqB
  by_cases y : e = p + wLen (wOf c)
  · rw [if_pos y, decide_eq_true y, Bool.and_true]
    have key := g_up (P := fun n j => sameTo bs (wCh (wOf c)) p e j = true → mX3_isWord_b27 c V n (nI j) = some (if sameTo bs (wCh (wOf c)) p e (wLen (wOf c)) then 1 else 0)) (wLen (wOf c)) ?_ ?_ 2000 0 (by omega) (by omega)
    · exact key rfl
    · intro n hs
      show mX3_isWord_b27 c V (n + 1) _ = _
      rw [mX3_isWord_b27, l1, if_pos (nI_le (Nat.le_refl _) (by omega)), hs]; rfl
    · intro n j hj this hs
      show mX3_isWord_b27 c V (n + 1) _ = _
      have hw := w_ch (wOf c) l2 j hj
      have hbj := hb.2 (p + j) (by omega)
      have q2 : (nI (bs (p + j)) = nI (wCh (wOf c) j)) ↔ bs (p + j) = wCh (wOf c) j := nI_eq (by omega) (by omega)
      rw [mX3_isWord_b27, l1, if_neg (nI_ge hj (by omega)), h2, nI_add, g_jin (show p + j < 120 by omega) (by omega), jg_t, c_ch c hc hc8 j hj, Option.bind_some, g_cl (show p + j < 2 ^ 31 by omega), tx.2 (p + j) (by omega), nI_1]
      simp only [q2]
      by_cases y2 : bs (p + j) = wCh (wOf c) j
      · rw [if_pos y2]
        refine this ?_
        rw [sameTo, hs, decide_eq_true y2, decide_eq_true (show p + j < e by omega)]; rfl
      · rw [if_neg y2]
        have : sameTo bs (wCh (wOf c)) p e (wLen (wOf c)) = false := by
          by_cases y3 : sameTo bs (wCh (wOf c)) p e (wLen (wOf c)) = true
          · exact absurd (same_le y3 j hj) y2
          · simpa using y3
        rw [this]; rfl
  · rw [if_neg y, decide_eq_false y, Bool.and_false]; rfl
theorem isWord_no {c : Nat} (h : ¬ V.1 36 4 = 0) : mX3_isWord c V = some 0 := by
  unfold mX3_isWord
  rw [if_neg h]
theorem isWord_b_fr {c : Nat} (h1 : V'.1 36 = V.1 36) (h2 : V'.1 37 = V.1 37) : ∀ n a, mX3_isWord_b27 c V' n a = mX3_isWord_b27 c V n a := by
  intro n
  induction n with
  | zero => intro a; rfl
  | succ n ih =>
    intro a
    rw [mX3_isWord_b27, mX3_isWord_b27, h1, h2]
    simp only [ih]
theorem isWord_fr {c : Nat} (h1 : V'.1 36 = V.1 36) (h2 : V'.1 37 = V.1 37) : mX3_isWord c V' = mX3_isWord c V := by
  unfold mX3_isWord
  rw [isWord_b_fr h1 h2, h1]
def tX (k : Nat) : Int32 := if k = 0 ∨ k = 1 then 0 else if k = 2 ∨ k = 3 then 1 else if k = 4 then 2 else if k = 5 then 3 else 4
def tMk (k : Nat) : Int32 := if k = 0 then 1 else if k = 2 then 2 else if k = 4 then 3 else if k = 5 then 0 else 4
/-- both sides stand at the TOKEN at p: k 0 a WORD of the fourteen (v), 1 another, 2 a NUMBER (v), 3 one too great, 4 a SIGN, 5 the end, 6 none -/
def TK (bs : Nat → Nat) (z : Nat) (V U : jMem) (p k v e : Nat) : Prop := p ≤ z ∧ V.1 36 2 = nI p ∧ U.1 0 16 = nI p ∧ V.1 36 4 = tX k ∧ U.1 0 18 = tMk k ∧ (k = 0 ∨ k = 2 ∨ k = 4 → p < e ∧ e ≤ z ∧ V.1 36 3 = nI e ∧ U.1 0 17 = nI e) ∧ (k = 0 → v < 14 ∧ U.1 0 19 = nI v) ∧ (k = 2 → v ≤ 9999 ∧ U.1 0 19 = nI v ∧ V.1 36 5 = nI v) ∧ (k = 3 → V.1 36 5 = 10000) ∧ (k = 5 → p = z) ∧ (¬ k = 5 → p < z) ∧ k ≤ 6 ∧ (∀ c, c < 15 → c ≠ 8 → mX3_isWord c V = some (if k = 0 ∧ wOf c = v then 1 else 0))
theorem TK_land {p k v e : Nat} (h : TK bs z V U p k v e) (h1 : V'.1 36 = V.1 36) (h2 : V'.1 37 = V.1 37) (h3 : U'.1 0 = U.1 0) : TK bs z V' U' p k v e := by
  obtain ⟨a1, a2, a3, a4, a5, a6, a7, a8, a9, a10, a11, a12, a13⟩ := h
  unfold TK
  rw [h1, h3]
  exact ⟨a1, a2, a3, a4, a5, a6, a7, a8, a9, a10, a11, a12, fun c c1 c2 => by rw [isWord_fr h1 h2]; exact a13 c c1 c2⟩
def FX (V V' : jMem) : Prop := (∀ j, j ≠ 36 → V'.1 j = V.1 j) ∧ V'.1 36 1 = V.1 36 1 ∧ V'.2 = V.2
def FM (U U' : jMem) : Prop := (∀ j, j ≠ 0 → U'.1 j = U.1 j) ∧ (∀ a, (a < 16 ∨ 19 < a) → U'.1 0 a = U.1 0 a) ∧ U'.2 = U.2
theorem xTok_at (V : jMem) (p e : Nat) (t x : Int32) : (xTok V p e t x).1 36 2 = nI p ∧ (xTok V p e t x).1 36 3 = nI e ∧ (xTok V p e t x).1 36 4 = t ∧ (xTok V p e t x).1 36 5 = x ∧ FX V (xTok V p e t x) := by
  unfold xTok
  refine ⟨?_, ?_, ?_, ?_, fun j hj => ?_, ?_, rfl⟩
  · rw [s1_at, if_neg (by omega), s1_at, if_neg (by omega), s1_at, if_neg (by omega), s1_at, if_pos ⟨rfl, rfl⟩]
  · rw [s1_at, if_neg (by omega), s1_at, if_pos ⟨rfl, rfl⟩]
  · rw [s1_at, if_neg (by omega), s1_at, if_neg (by omega), s1_at, if_pos ⟨rfl, rfl⟩]
  · rw [s1_at, if_pos ⟨rfl, rfl⟩]
  · rw [s1_eq, if_neg hj, s1_eq, if_neg hj, s1_eq, if_neg hj, s1_eq, if_neg hj]
  · rw [s1_at, if_neg (by omega), s1_at, if_neg (by omega), s1_at, if_neg (by omega), s1_at, if_neg (by omega)]
theorem MT.fm {p e : Nat} {t x : Int32} (h : MT U U' p e t x) : FM U U' := ⟨h.2.2.2.2.2.1, h.2.2.2.2.1, h.2.2.2.2.2.2⟩
theorem TTX_fr (tx : TTX V bs z) (h : V'.1 36 1 = V.1 36 1) (h2 : V'.1 37 = V.1 37) : TTX V' bs z := by
  unfold TTX; rw [h, h2]; exact tx
theorem TTM_fr (tm : TTM U bs z) (h : U'.1 0 8 = U.1 0 8) (h2 : U'.1 5 = U.1 5) (h3 : U'.1 11 = U.1 11) : TTM U' bs z := by
  unfold TTM; rw [h, h2, h3]; exact tm
theorem mt_of {p e : Nat} {t : Int32} (W : jMem) (hW : W = jsI (jsI U 0 17 (nI p)) 0 16 (nI p)) (x : Int32) : MT U (jsI (jsI (jsI W 0 17 (nI e)) 0 19 x) 0 18 t) p e t x := by
  subst hW
  refine ⟨?_, ?_, ?_, ?_, fun a ha => ?_, fun j hj => ?_, rfl⟩
  · rw [s1_at, if_neg (by omega), s1_at, if_neg (by omega), s1_at, if_neg (by omega), s1_at, if_pos ⟨rfl, rfl⟩]
  · rw [s1_at, if_neg (by omega), s1_at, if_neg (by omega), s1_at, if_pos ⟨rfl, rfl⟩]
  · rw [s1_at, if_pos ⟨rfl, rfl⟩]
  · rw [s1_at, if_neg (by omega), s1_at, if_pos ⟨rfl, rfl⟩]
  · rw [s1_at, if_neg (by omega), s1_at, if_neg (by omega), s1_at, if_neg (by omega), s1_at, if_neg (by omega), s1_at, if_neg (by omega)]
  · rw [s1_eq, if_neg hj, s1_eq, if_neg hj, s1_eq, if_neg hj, s1_eq, if_neg hj, s1_eq, if_neg hj]
theorem mt_of2 {p e : Nat} {t : Int32} (W : jMem) (hW : W = jsI (jsI U 0 17 (nI p)) 0 16 (nI p)) : MT U (jsI (jsI W 0 17 (nI e)) 0 18 t) p e t (U.1 0 19) := by
  subst hW
  refine ⟨?_, ?_, ?_, ?_, fun a ha => ?_, fun j hj => ?_, rfl⟩
  · rw [s1_at, if_neg (by omega), s1_at, if_neg (by omega), s1_at, if_pos ⟨rfl, rfl⟩]
  · rw [s1_at, if_neg (by omega), s1_at, if_pos ⟨rfl, rfl⟩]
  · rw [s1_at, if_pos ⟨rfl, rfl⟩]
  · rw [s1_at, if_neg (by omega), s1_at, if_neg (by omega), s1_at, if_neg (by omega), s1_at, if_neg (by omega)]
  · rw [s1_at, if_neg (by omega), s1_at, if_neg (by omega), s1_at, if_neg (by omega), s1_at, if_neg (by omega)]
  · rw [s1_eq, if_neg hj, s1_eq, if_neg hj, s1_eq, if_neg hj, s1_eq, if_neg hj]
theorem step_ok (hb : TTB bs z) (tx : TTX V bs z) (tm : TTM U bs z) {q : Nat} (hqz : q ≤ z) (hx : V.1 36 3 = nI q) (hm : U.1 0 17 = nI q) : ∃ V' U' p k v e, mX3_next V = some V' ∧ mX5_goesOn U = some U' ∧ TK bs z V' U' p k v e ∧ q ≤ p ∧ FX V V' ∧ FM U U' := by
  have h1 := hb.1
  obtain ⟨p, hqp, hp, hr, hend⟩ := run_ex cB bs z (z - q) q (by omega)
  have noW : ∀ (k v : Nat) (W : jMem) (t : Int32), W.1 36 4 = t → ¬ t = 0 → ¬ k = 0 → ∀ c, c < 15 → c ≠ 8 → mX3_isWord c W = some (if k = 0 ∧ wOf c = v then 1 else 0) := fun k v W t h4 ht hk c _ _ => by
    rw [isWord_no (by rw [h4]; exact ht), if_neg (fun y => hk y.1)]
  by_cases pz : p < z
  · have hbp := hb.2 p pz
    have c0 : (0 : Int32) ≤ nI (bs p) := nI_pos' (by omega)
    obtain ⟨W, hW, g1⟩ := m_next0 hb tm hqp hp hm hr hend (c := nI (bs p)) (by rw [if_pos pz])
    rw [if_pos c0, m_isL hbp, m_isD hbp] at g1
    by_cases yL : cL (bs p) = true
    · -- a word
      rw [if_pos yL, if_neg g_10] at g1
      obtain ⟨e, e1, e2, e3, e4⟩ := run_ex cL bs z (z - p) p (by omega)
      have hpe : p < e := by
        rcases Nat.lt_or_ge p e with y | y
        · exact y
        · have : e = p := by omega
          subst this
          rw [e4 pz] at yL; cases yL
      have wtm : TTM W bs z := by rw [hW]; exact TTM_0 (TTM_0 tm (by omega) _) (by omega) _
      have w17 : W.1 0 17 = nI p := by rw [hW, s1_at, if_neg (by omega), s1_at, if_pos ⟨rfl, rfl⟩]
      have w16 : W.1 0 16 = nI p := by rw [hW, s1_at, if_pos ⟨rfl, rfl⟩]
      obtain ⟨r, r1, r2⟩ := m_wordHere (U := jsI W 0 17 (nI e)) hb (TTM_0 wtm (by omega) _) e1 e2 (by rw [s1_at, if_neg (by omega)]; exact w16) (by rw [s1_at, if_pos ⟨rfl, rfl⟩])
      rw [m_letters hb e2 e4 (e - p) p 2000 W (by omega) (by omega) wtm w17 e3, r1, Option.bind_some, jl_eq] at g1
      have a19 : (jsI (jsI W 0 17 (nI e)) 0 19 r).1 0 19 = r := by rw [s1_at, if_pos ⟨rfl, rfl⟩]
      rw [a19] at g1
      unfold mX5_goesOn_b124 at g1
      obtain ⟨x2, x3, x4, x5, x6⟩ := xTok_at V p e 0 0
      have nx := x_nextW hb tx hqp hpe e2 hx hr e3 e4
      have txx : TTX (xTok V p e 0 0) bs z := TTX_fr tx x6.2.1 (x6.1 37 (by omega))
      have iw : ∀ c, c < 15 → c ≠ 8 → mX3_isWord c (xTok V p e 0 0) = some (if eqB bs p e (wOf c) then 1 else 0) := fun c c1 c2 => x_isWord hb txx c1 c2 hpe e2 x2 x3 x4
      rcases r2 with ⟨rfl, r3⟩ | ⟨w, hw, rfl, r3⟩
      · rw [if_neg (by decide), jl_eq] at g1
        have mt : MT U _ p e 4 (-1) := mt_of (t := 4) W hW (-1)
        refine ⟨_, _, p, 1, 0, e, nx, g1, ⟨hp, x2, mt.1, x4, mt.2.2.1, fun y => by omega, fun y => by omega, fun y => by omega, fun y => by omega, fun y => by omega, fun _ => pz, by omega, fun c c1 c2 => ?_⟩, hqp, x6, mt.fm⟩
        rw [iw c c1 c2, r3 _ (c_len c c1 c2).2, if_neg (show ¬ (1 = 0 ∧ wOf c = 0) by omega)]; rfl
      · rw [if_pos (nI_pos' (by omega)), jl_eq] at g1
        have mt : MT U _ p e 1 (nI w) := mt_of (t := 1) W hW (nI w)
        refine ⟨_, _, p, 0, w, e, nx, g1, ⟨hp, x2, mt.1, x4, mt.2.2.1, fun _ => ⟨hpe, e2, x3, mt.2.1⟩, fun _ => ⟨hw, mt.2.2.2.1⟩, fun y => by omega, fun y => by omega, fun y => by omega, fun _ => pz, by omega, fun c c1 c2 => ?_⟩, hqp, x6, mt.fm⟩
        rw [iw c c1 c2]
        by_cases y : wOf c = w
        · rw [y, r3, if_pos rfl, if_pos ⟨rfl, rfl⟩]
        · rw [if_neg (show ¬ (eqB bs p e (wOf c) = true) from fun q => y (eqB_one (c_len c c1 c2).2 hw q r3)), if_neg (show ¬ (0 = 0 ∧ wOf c = w) from fun q => y q.2)]
    · rw [if_neg yL, if_pos rfl] at g1
      have yL' : cL (bs p) = false := by simpa using yL
      by_cases yD : cD (bs p) = true
      · -- a number
        rw [if_pos yD, if_neg g_10] at g1
        obtain ⟨e, e1, e2, e3, e4⟩ := run_ex cD bs z (z - p) p (by omega)
        have hpe : p < e := by
          rcases Nat.lt_or_ge p e with y | y
          · exact y
          · have : e = p := by omega
            subst this
            rw [e4 pz] at yD; cases yD
        have wtm : TTM (jsI W 0 19 0) bs z := by rw [hW]; exact TTM_0 (TTM_0 (TTM_0 tm (by omega) _) (by omega) _) (by omega) _
        obtain ⟨U', d1, mt⟩ := m_digits hb e1 e2 e4 e3 U (e - p) 0 2000 (jsI W 0 19 0) (by omega) (by omega) wtm (by rw [s1_at, if_neg (by omega), hW, s1_at, if_pos ⟨rfl, rfl⟩]) (by rw [s1_at, if_neg (by omega), hW, s1_at, if_neg (by omega), s1_at, if_pos ⟨rfl, rfl⟩]; rfl) (by rw [s1_at, if_pos ⟨rfl, rfl⟩]; rfl) (fun a ha => by rw [s1_at, if_neg (by omega), hW, s1_at, if_neg (by omega), s1_at, if_neg (by omega)]) (fun j hj => by rw [s1_eq, if_neg hj, hW, s1_eq, if_neg hj, s1_eq, if_neg hj]) (by rw [hW]; rfl)
        rw [d1] at g1
        have nx := x_nextN hb tx hqp hpe e2 hx hr e3 e4
        obtain ⟨x2, x3, x4, x5, x6⟩ := xTok_at V p e 1 (nI (cap (numM bs p (e - p))))
        by_cases y : numM bs p (e - p) ≤ 9999
        · rw [if_pos y] at mt
          have hcap : cap (numM bs p (e - p)) = numM bs p (e - p) := by unfold cap; rw [if_pos y]
          refine ⟨_, _, p, 2, numM bs p (e - p), e, nx, g1, ⟨hp, x2, mt.1, x4, mt.2.2.1, fun _ => ⟨hpe, e2, x3, mt.2.1⟩, fun y => by omega, fun _ => ⟨y, mt.2.2.2.1, by rw [x5, hcap]⟩, fun y => by omega, fun y => by omega, fun _ => pz, by omega, noW 2 _ _ _ x4 g_10 (by omega)⟩, hqp, x6, mt.fm⟩
        · rw [if_neg y] at mt
          have hcap : cap (numM bs p (e - p)) = 10000 := by unfold cap; rw [if_neg y]
          refine ⟨_, _, p, 3, 0, e, nx, g1, ⟨hp, x2, mt.1, x4, mt.2.2.1, fun y => by omega, fun y => by omega, fun y => by omega, fun _ => (by rw [x5, hcap]; rfl), fun y => by omega, fun _ => pz, by omega, noW 3 _ _ _ x4 g_10 (by omega)⟩, hqp, x6, mt.fm⟩
      · rw [if_neg yD, if_pos rfl] at g1
        have yD' : cD (bs p) = false := by simpa using yD
        have e5 : (nI (bs p) = 59) ↔ bs p = 59 := nI_eq (b := 59) (by omega) (by omega)
        simp only [e5] at g1
        unfold mX5_goesOn_b267 at g1
        by_cases y : bs p = 59
        · rw [if_pos y, jl_eq] at g1
          have ht : (if p < z then tkI (bs p) else 3) = 2 := by
            rw [if_pos pz]; unfold tkI; rw [yL', yD', if_neg (by decide), if_neg (by decide), if_pos y]
          have nx := x_nextS hb tx hqp hp hx hr hend ht (.inl rfl)
          rw [if_pos rfl] at nx
          obtain ⟨x2, x3, x4, x5, x6⟩ := xTok_at V p (p + 1) 2 0
          have mt : MT U _ p (p + 1) 3 _ := mt_of2 (t := 3) W hW
          exact ⟨_, _, p, 4, 0, p + 1, nx, g1, ⟨hp, x2, mt.1, x4, mt.2.2.1, fun _ => ⟨by omega, by omega, x3, mt.2.1⟩, fun y => by omega, fun y => by omega, fun y => by omega, fun y => by omega, fun _ => pz, by omega, noW 4 _ _ _ x4 (by decide) (by omega)⟩, hqp, x6, mt.fm⟩
        · rw [if_neg y, jl_eq] at g1
          have ht : (if p < z then tkI (bs p) else 3) = 4 := by
            rw [if_pos pz]; unfold tkI; rw [yL', yD', if_neg (by decide), if_neg (by decide), if_neg y]
          have nx := x_nextS hb tx hqp hp hx hr hend ht (.inr (.inr rfl))
          rw [if_neg (by decide)] at nx
          obtain ⟨x2, x3, x4, x5, x6⟩ := xTok_at V p p 4 0
          have mt : MT U _ p (p + 1) 4 _ := mt_of2 (t := 4) W hW
          exact ⟨_, _, p, 6, 0, p, nx, g1, ⟨hp, x2, mt.1, x4, mt.2.2.1, fun y => by omega, fun y => by omega, fun y => by omega, fun y => by omega, fun y => by omega, fun _ => pz, by omega, noW 6 _ _ _ x4 (by decide) (by omega)⟩, hqp, x6, mt.fm⟩
  · obtain ⟨W, hW, g1⟩ := m_next0 hb tm hqp hp hm hr hend (c := -1) (by rw [if_neg pz])
    rw [if_neg (by decide)] at g1
    have ht : (if p < z then tkI (bs p) else 3) = 3 := by rw [if_neg pz]
    have nx := x_nextS hb tx hqp hp hx hr hend ht (.inr (.inl rfl))
    rw [if_neg (by decide)] at nx
    obtain ⟨x2, x3, x4, x5, x6⟩ := xTok_at V p p 3 0
    refine ⟨_, _, p, 5, 0, p, nx, g1, ⟨hp, x2, ?_, x4, ?_, fun y => by omega, fun y => by omega, fun y => by omega, fun y => by omega, fun _ => by omega, fun y => absurd rfl y, by omega, noW 5 _ _ _ x4 (by decide) (by omega)⟩, hqp, x6, ?_, ?_, ?_⟩
    · rw [s1_at, if_neg (by omega), hW, s1_at, if_pos ⟨rfl, rfl⟩]
    · rw [s1_at, if_pos ⟨rfl, rfl⟩]; rfl
    · intro j hj; rw [s1_eq, if_neg hj, hW, s1_eq, if_neg hj, s1_eq, if_neg hj]
    · intro a ha; rw [s1_at, if_neg (by omega), hW, s1_at, if_neg (by omega), s1_at, if_neg (by omega)]
    · rw [hW]; rfl
end TQ
