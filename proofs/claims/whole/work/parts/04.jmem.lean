/-! ===== fields ===== -/
/-- what the tables say of a field instruction: in class own, constant idx names field k (of type ty) of the class at place ci -/
def jF (own : String) (idx ci k : Nat) (ty : FieldType) (fin : Bool) : Prop := ∃ (C : String) (T : u_T) (N : Nat) (ty0 : Nat → FieldType), vwCl[ci]? = some (C, T, N) ∧ k < N ∧ (∀ w ∈ u_ws C T N, w ∈ jT) ∧ (∀ k, k < N → parseFieldDescriptor (T k).2.2.1 = some (ty0 k)) ∧ (∀ a, a < N → ∀ b, b < N → a ≠ b → (T a).2.1 ≠ (T b).2.1) ∧ (T k).1 = C ∧ (T k).2.2.2 = fin ∧ ty0 k = ty ∧ (Cond.fieldLink own idx C (T k).2.1 (T k).2.2.1 ∈ jT ∨ ∃ h : String, Cond.fieldLinkNest own idx C (T k).2.1 (T k).2.2.1 h ∈ jNest)
section JM
variable {l : Launch} {Z : jZ} {own nm : String} {cc : ByteArray} {nL : Nat} {rt : Option FieldType} {d MC MS : Nat} {Q : Option Value → va_W → Prop} {pc n : Nat} {L : List (Nat × Value)} {S : List Value} {ws : va_W} {kc ks : Nat}
theorem j_get {idx ci k p0 a : Nat} {ty : FieldType} {fin : Bool} {fs : List Value} {v : Value} (hF : jF own idx ci k ty fin) (hdg : decode cc pc = .ok (.getfield idx, 3)) (hn : pc + 3 = n) (he : ws[p0]? = some (a, .inr (ci, fs))) (hv : fs[k]? = some v)
    (kk : J l Z own nm cc nL rt d MC MS Q n L (v :: S) ws kc ks) : J l Z own nm cc nL rt d MC MS Q pc L (.ref a :: S) ws kc ks := by
  subst hn
  obtain ⟨C, T, N, ty0, hc, hk, hin, hty, hnm, h1, h2, h3, hl⟩ := hF
  intro p e R s m args below meth c A QQ H locs ls hC hB hP hD hS hl'
  have go := kk p e R s m args below meth c A QQ H locs ls hC hB hP hD hS hl'
  obtain ⟨hx, hb, hml, hown, hts, hR, hA, hE, hN, hnm'⟩ := hC
  rcases hl with hl | ⟨h, hl⟩
  · exact va_get hx hb hts hin hown hE.1 hP p0 he hc k hk (hts _ hl) (fun x h => by rw [h1] at h; exact h) hv hdg go
  · exact va_getN hx hb hts hin hown hE.1 hP p0 he hc k hk (va_Nw.use rfl (hN.1 _ hl)) (fun x h => by rw [h1] at h; exact h) hv hdg go
theorem j_put {idx ci k p0 a : Nat} {ty : FieldType} {fs : List Value} {v : Value} (hF : jF own idx ci k ty false) (hdg : decode cc pc = .ok (.putfield idx, 3)) (hn : pc + 3 = n) (he : ws[p0]? = some (a, .inr (ci, fs))) (hl : k < fs.length) (hnv : narrow ty v = v) (hfit : fits ty v = true)
    (kk : J l Z own nm cc nL rt d MC MS Q n L S (ws.set p0 (a, .inr (ci, fs.set k v))) kc ks) : J l Z own nm cc nL rt d MC MS Q pc L (v :: .ref a :: S) ws kc ks := by
  subst hn
  obtain ⟨C, T, N, ty0, hc, hk, hin, hty, hnm, h1, h2, h3, hlk⟩ := hF
  subst h3
  intro p e R s m args below meth c A QQ H locs ls hC hB hP hD hS hl'
  have go := fun (H1 : Heap) (locs1 : List Loc) (x1 : va_P Z.1 vwCl (ws.set p0 (a, .inr (ci, fs.set k v))) H1) (x2 : va_D A (ws.set p0 (a, .inr (ci, fs.set k v)))) (x3 : va_S A s.heap H1 locs1) => kk p e R s m args below meth c A QQ H1 locs1 ls hC hB x1 x2 x3 hl'
  obtain ⟨hx, hb, hml, hown, hts, hR, hA, hE, hN, hnm'⟩ := hC
  rcases hlk with hlk | ⟨h, hlk⟩
  · exact va_put hx hb hts hin ty0 hty hnm hown hE.1 hP hD hS p0 he hc k hk (hts _ hlk) (fun x h => by rw [h1] at h; exact h) h2 (hty k hk) hnv hfit hl hdg go
  · exact va_putN hx hb hts hin ty0 hty hnm hown hE.1 hP hD hS p0 he hc k hk (va_Nw.use rfl (hN.1 _ hlk)) (fun x h => by rw [h1] at h; exact h) h2 (hty k hk) hnv hfit hl hdg go
/-- a final field, in a constructor of its class -/
theorem j_putF {idx ci k p0 a : Nat} {ty : FieldType} {fs : List Value} {v : Value} (hF : jF own idx ci k ty true) (hnest : ∀ (h x y z : String), Cond.fieldLinkNest own idx x y z h ∉ jNest) (hinit : nm = "<init>") (hown0 : ∀ q : vw_C, vwCl[ci]? = some q → q.1 = own) (hdg : decode cc pc = .ok (.putfield idx, 3)) (hn : pc + 3 = n) (he : ws[p0]? = some (a, .inr (ci, fs))) (hl : k < fs.length) (hnv : narrow ty v = v) (hfit : fits ty v = true)
    (kk : J l Z own nm cc nL rt d MC MS Q n L S (ws.set p0 (a, .inr (ci, fs.set k v))) kc ks) : J l Z own nm cc nL rt d MC MS Q pc L (v :: .ref a :: S) ws kc ks := by
  subst hn
  obtain ⟨C, T, N, ty0, hc, hk, hin, hty, hnm, h1, h2, h3, hlk⟩ := hF
  subst h3
  have hCo : C = own := hown0 _ hc
  intro p e R s m args below meth c A QQ H locs ls hC hB hP hD hS hl'
  have go := fun (H1 : Heap) (locs1 : List Loc) (x1 : va_P Z.1 vwCl (ws.set p0 (a, .inr (ci, fs.set k v))) H1) (x2 : va_D A (ws.set p0 (a, .inr (ci, fs.set k v)))) (x3 : va_S A s.heap H1 locs1) => kk p e R s m args below meth c A QQ H1 locs1 ls hC hB x1 x2 x3 hl'
  obtain ⟨hx, hb, hml, hown, hts, hR, hA, hE, hN, hnm'⟩ := hC
  rcases hlk with hlk | ⟨h, hlk⟩
  · exact va_putF hx hb hts hin ty0 hty hnm hown hE.1 hP hD hS p0 he hc k hk (hts _ hlk) (fun x h => by rw [h1] at h; exact h) h2 (hnm'.trans hinit) (h1.trans hCo) (hty k hk) hnv hfit hl hdg go
  · exact absurd hlk (hnest _ _ _ _)
theorem j_iald {p0 a N : Nat} {f : Nat → Int32} {i : Int32} (hdg : decode cc pc = .ok (.iaload, 1)) (hn : pc + 1 = n) (he : ws[p0]? = some (a, .inl (Z.2.1 0, N, .inl f))) (hin : vp_in i N) (k : J l Z own nm cc nL rt d MC MS Q n L (.int (f i.toNatClampNeg) :: S) ws kc ks) : J l Z own nm cc nL rt d MC MS Q pc L (.int i :: .ref a :: S) ws kc ks := by
  subst hn
  intro p e R s m args below meth c A QQ H locs ls hC hB hP hD hS hl
  exact va_iald hC.1 hC.2.1 hC.2.2.2.2.2.2.2.1.1 hP p0 0 he rfl hin hdg (k p e R s m args below meth c A QQ H locs ls hC hB hP hD hS hl)
theorem j_iast {p0 a N : Nat} {f : Nat → Int32} {i : Int32} {x : Int32} (hdg : decode cc pc = .ok (.iastore, 1)) (hn : pc + 1 = n) (he : ws[p0]? = some (a, .inl (Z.2.1 0, N, .inl f))) (hin : vp_in i N) (k : J l Z own nm cc nL rt d MC MS Q n L S (ws.set p0 (a, .inl (Z.2.1 0, N, .inl (upd f i.toNatClampNeg x)))) kc ks) : J l Z own nm cc nL rt d MC MS Q pc L (.int x :: .int i :: .ref a :: S) ws kc ks := by
  subst hn
  intro p e R s m args below meth c A QQ H locs ls hC hB hP hD hS hl
  exact va_iast hC.1 hC.2.1 hC.2.2.2.2.2.2.2.1.1 hP hD hS p0 0 he rfl hin hdg (fun H locs hP hD hS => k p e R s m args below meth c A QQ H locs ls hC hB hP hD hS hl)
theorem j_lald {p0 a N : Nat} {f : Nat → Int64} {i : Int32} (hdg : decode cc pc = .ok (.laload, 1)) (hn : pc + 1 = n) (he : ws[p0]? = some (a, .inl (Z.2.1 1, N, .inr (.inl f)))) (hin : vp_in i N) (k : J l Z own nm cc nL rt d MC MS Q n L (.long (f i.toNatClampNeg) :: S) ws kc ks) : J l Z own nm cc nL rt d MC MS Q pc L (.int i :: .ref a :: S) ws kc ks := by
  subst hn
  intro p e R s m args below meth c A QQ H locs ls hC hB hP hD hS hl
  exact va_lald hC.1 hC.2.1 hC.2.2.2.2.2.2.2.1.1 hP p0 1 he rfl hin hdg (k p e R s m args below meth c A QQ H locs ls hC hB hP hD hS hl)
theorem j_last {p0 a N : Nat} {f : Nat → Int64} {i : Int32} {x : Int64} (hdg : decode cc pc = .ok (.lastore, 1)) (hn : pc + 1 = n) (he : ws[p0]? = some (a, .inl (Z.2.1 1, N, .inr (.inl f)))) (hin : vp_in i N) (k : J l Z own nm cc nL rt d MC MS Q n L S (ws.set p0 (a, .inl (Z.2.1 1, N, .inr (.inl (vp_updL f i.toNatClampNeg x))))) kc ks) : J l Z own nm cc nL rt d MC MS Q pc L (.long x :: .int i :: .ref a :: S) ws kc ks := by
  subst hn
  intro p e R s m args below meth c A QQ H locs ls hC hB hP hD hS hl
  exact va_last hC.1 hC.2.1 hC.2.2.2.2.2.2.2.1.1 hP hD hS p0 1 he rfl hin hdg (fun H locs hP hD hS => k p e R s m args below meth c A QQ H locs ls hC hB hP hD hS hl)
theorem j_aald {p0 a N : Nat} {f : Nat → Option Nat} {i : Int32} (hdg : decode cc pc = .ok (.aaload, 1)) (hn : pc + 1 = n) (he : ws[p0]? = some (a, .inl (Z.2.1 2, N, .inr (.inr (.inr (.inr f)))))) (hin : vp_in i N) (k : J l Z own nm cc nL rt d MC MS Q n L (va_rf (f i.toNatClampNeg) :: S) ws kc ks) : J l Z own nm cc nL rt d MC MS Q pc L (.int i :: .ref a :: S) ws kc ks := by
  subst hn
  intro p e R s m args below meth c A QQ H locs ls hC hB hP hD hS hl
  exact va_aldq hC.1 hC.2.1 hC.2.2.2.2.2.2.2.1.1 hP p0 2 he rfl hin hdg (k p e R s m args below meth c A QQ H locs ls hC hB hP hD hS hl)
theorem j_getU {idx : Nat} (hw : Cond.fieldLink own idx RX4 "UNDER" "[I" ∈ jT) (hdg : decode cc pc = .ok (.getstatic idx, 3)) (hn : pc + 3 = n) (k : J l Z own nm cc nL rt d MC MS Q n L (.ref (Z.2.1 3) :: S) ws kc ks) : J l Z own nm cc nL rt d MC MS Q pc L S ws kc ks := by
  subst hn
  intro p e R s m args below meth c A QQ H locs ls hC hB hP hD hS hl
  exact va_gets hC.1 hC.2.1 hC.2.2.2.2.2.2.2.1.2.1 hS hC.2.2.2.1 (hC.2.2.2.2.1 _ hw) (fun _ h => h) hdg (k p e R s m args below meth c A QQ H locs ls hC hB hP hD hS hl)
theorem j_ldU {i : Int32} (hdg : decode cc pc = .ok (.iaload, 1)) (hn : pc + 1 = n) (hin : vp_in i 6) (k : J l Z own nm cc nL rt d MC MS Q n L (.int (jUnder i.toNatClampNeg) :: S) ws kc ks) : J l Z own nm cc nL rt d MC MS Q pc L (.int i :: .ref (Z.2.1 3) :: S) ws kc ks := by
  subst hn
  intro p e R s m args below meth c A QQ H locs ls hC hB hP hD hS hl
  exact va_ti hC.1 hC.2.1 hC.2.2.2.2.2.2.2.1.2.2.1 hS hin rfl hdg (k p e R s m args below meth c A QQ H locs ls hC hB hP hD hS hl)
theorem j_getR {idx : Nat} (hw : Cond.fieldLink own idx RX4 "RULE_LIMITS" "[I" ∈ jT) (hdg : decode cc pc = .ok (.getstatic idx, 3)) (hn : pc + 3 = n) (k : J l Z own nm cc nL rt d MC MS Q n L (.ref (Z.2.1 4) :: S) ws kc ks) : J l Z own nm cc nL rt d MC MS Q pc L S ws kc ks := by
  subst hn
  intro p e R s m args below meth c A QQ H locs ls hC hB hP hD hS hl
  exact va_gets hC.1 hC.2.1 hC.2.2.2.2.2.2.2.1.2.2.2.1 hS hC.2.2.2.1 (hC.2.2.2.2.1 _ hw) (fun _ h => h) hdg (k p e R s m args below meth c A QQ H locs ls hC hB hP hD hS hl)
theorem j_ldR {i : Int32} (hdg : decode cc pc = .ok (.iaload, 1)) (hn : pc + 1 = n) (hin : vp_in i 4) (k : J l Z own nm cc nL rt d MC MS Q n L (.int (jLims i.toNatClampNeg) :: S) ws kc ks) : J l Z own nm cc nL rt d MC MS Q pc L (.int i :: .ref (Z.2.1 4) :: S) ws kc ks := by
  subst hn
  intro p e R s m args below meth c A QQ H locs ls hC hB hP hD hS hl
  exact va_ti hC.1 hC.2.1 hC.2.2.2.2.2.2.2.1.2.2.2.2.1 hS hin rfl hdg (k p e R s m args below meth c A QQ H locs ls hC hB hP hD hS hl)
theorem j_sld {i : Int32} (hdg : decode cc pc = .ok (.iaload, 1)) (hn : pc + 1 = n) (hin : vp_in i (Z.2.1 6)) (k : J l Z own nm cc nL rt d MC MS Q n L (.int (Z.2.2.2.2 i.toNatClampNeg) :: S) ws kc ks) : J l Z own nm cc nL rt d MC MS Q pc L (.int i :: .ref (Z.2.1 5) :: S) ws kc ks := by
  subst hn
  intro p e R s m args below meth c A QQ H locs ls hC hB hP hD hS hl
  obtain ⟨x1, x2, x3, -⟩ := hC.2.2.2.2.2.2.2.1.2.2.2.2.2.2.2.2
  exact va_sld hC.1 hC.2.1 x1 x2 x3 hS hin hdg (k p e R s m args below meth c A QQ H locs ls hC hB hP hD hS hl)
theorem j_slen (hdg : decode cc pc = .ok (.arraylength, 1)) (hn : pc + 1 = n) (k : J l Z own nm cc nL rt d MC MS Q n L (.int (nI (Z.2.1 6)) :: S) ws kc ks) : J l Z own nm cc nL rt d MC MS Q pc L (.ref (Z.2.1 5) :: S) ws kc ks := by
  subst hn
  intro p e R s m args below meth c A QQ H locs ls hC hB hP hD hS hl
  obtain ⟨x1, x2, x3, -⟩ := hC.2.2.2.2.2.2.2.1.2.2.2.2.2.2.2.2
  exact va_slen hC.1 hC.2.1 x1 x2 x3 hS hdg (k p e R s m args below meth c A QQ H locs ls hC hB hP hD hS hl)
theorem j_ldcS {i idx : Nat} (hi : i < 15) (hix : jIdx.getD i 0 = idx) (ho : own = RX4) (hdg : decode cc pc = .ok (.ldc idx, 2)) (hn : pc + 2 = n) (k : J l Z own nm cc nL rt d MC MS Q n L (.ref (Z.2.2.1 i) :: S) ws kc ks) : J l Z own nm cc nL rt d MC MS Q pc L S ws kc ks := by
  subst hn
  subst hix
  subst ho
  intro p e R s m args below meth c A QQ H locs ls hC hB hP hD hS hl
  exact va_ldcS hC.1 hC.2.1 hC.2.2.2.1 (hC.2.2.2.2.2.2.2.2.1.2 i hi) hdg (k p e R s m args below meth c A QQ H locs ls hC hB hP hD hS hl)
/-! ===== calls ===== -/
def jM (own : String) (idx : Nat) (y : MethodName) (cc : ByteArray) (nL : Nat) (rt : Option FieldType) (na : Nat) : Prop := Cond.code y cc nL rt ∈ jT ∧ Cond.initialized y.cls ∈ jT ∧ (y.cls ≠ "java/lang/invoke/MethodHandle" ∧ y.cls ≠ "java/lang/invoke/VarHandle") ∧ (parseMethodDescriptor y.desc).map (fun d => d.parameters.length) = some na ∧ nL ≤ 17 ∧ (Cond.methodLink own idx y ∈ jT ∨ ∃ h : String, Cond.methodLinkNest own idx y h ∈ jNest)
abbrev jRm (d MC MS : Nat) : Room := { frames := d, cells := MC, slots := MS, locals := 36 * d }
abbrev jPc (Z : jZ) (av : List Value) (ws : va_W) (sz : Nat) : Array Value → State → Prop := va_Pc av (fun U => U.heap.size = sz ∧ va_P Z.1 vwCl ws U.heap ∧ va_D (fun _ => True) ws ∧ jE Z (va_A ws sz) U U.heap ∧ jN Z U)
abbrev jQc (Z : jZ) (ws : va_W) (sz : Nat) (Q : Option Value → va_W → Prop) : Array Value → State → Outcome → State → Prop := fun _ st oc t => (∃ (r : Option Value) (ws' : va_W), oc = .returned r ∧ Q r ws' ∧ va_P Z.1 vwCl ws' t.heap ∧ va_D (va_A ws sz) ws') ∧ va_F (va_A ws sz) st t
theorem jPc_blind {av : List Value} {sz : Nat} : FrameBlind (jPc Z av ws sz) := fun a U g mk h => by
  obtain ⟨h1, h2, h3, h4, h5, h6⟩ := h
  exact ⟨h1, h2, h3, h4, h5.calling g mk a, h6.calling g mk a⟩
theorem jA_sub {A : Nat → Prop} {s : State} {H : Heap} {locs : List Loc} (hD : va_D A ws) (hS : va_S A s.heap H locs) (hA : ∀ q, s.heap.size ≤ q → A q) : ∀ q, va_A ws H.size q → A q := fun q h => by
  rcases h with ⟨k, e, h⟩ | h
  · exact hD.2 k (q, e) h
  · exact hA q (Nat.le_trans hS.1 h)
theorem jPc_at {av : List Value} {A : Nat → Prop} {s U : State} {H : Heap} {locs : List Loc} (hP : va_P Z.1 vwCl ws H) (hD : va_D A ws) (hS : va_S A s.heap H locs) (hA : ∀ q, s.heap.size ≤ q → A q) (hE : jE Z A s s.heap) (hN : jN Z s) (hU : U.heap = H) (hW : s.WarmedH U.vm) : jPc Z av ws H.size av.toArray U :=
  ⟨rfl, by rw [hU], by rw [hU]; exact hP, hD.weaken (fun _ _ _ _ => trivial), hE.next hS hU hW (jA_sub hD hS hA), hN.next hW⟩
theorem j_run {p : Program} {e : Env} {R : Room} {s : State} {m : MethodId} {args : Array Value} {below : List Frame} {meth : Method} {c : Code} {A : Nat → Prop} {QQ : State → Prop} {H : Heap} {locs : List Loc} {ls : Array Slot} {MC' MS' : Nat} {av rest : List Value} {Q' : Option Value → va_W → Prop}
    (hr : va_Run p l e R s m args below meth c H locs kc ks MC' MS' (F0 m pc ls S) rest (jQc Z ws H.size Q' av.toArray) (va_A ws H.size)) (hD : va_D A ws) (hS : va_S A s.heap H locs) (hA : ∀ q, s.heap.size ≤ q → A q)
    (kk : ∀ (r : Option Value) (ws' : va_W) (H1 : Heap) (locs1 : List Loc), Q' r ws' → va_P Z.1 vwCl ws' H1 → va_D A ws' → va_S A s.heap H1 locs1 → W p l e R s m args below meth c H1 locs1 (kc + MC') (ks + MS') QQ (F0 m (pc + 3) ls (r.toList ++ rest))) : W p l e R s m args below meth c H locs kc ks QQ (F0 m pc ls S) := by
  intro T hT X
  obtain ⟨v, st₀, t, T', L, h0, X', hL, e1, e2, ⟨⟨r, ws', hv, hq, hP', hD'⟩, hz, hk⟩, st⟩ := hr T hT X
  cases hv
  rw [h0] at hz hk
  have hsub := jA_sub hD hS hA
  obtain ⟨t2, a1, b1⟩ := kk v ws' T'.heap (locs ++ L) hq (by rw [e1]; exact hP') (hD'.weaken (fun _ q _ h => hsub q.1 h))
    ⟨Nat.le_trans hS.1 (by rw [e1]; exact hz), fun q h1 h2 => by rw [e1, hk q (Nat.lt_of_lt_of_le h1 hS.1) (fun z => h2 (hsub q z))]; exact hS.2.1 q h1 h2, fun q hq => by
      rcases List.mem_append.mp hq with h | h
      · exact hS.2.2 q h
      · exact hsub _ (hL q h)⟩ T' rfl X'
  exact ⟨t2, st t2 a1, b1⟩
theorem jT_good {y : MethodName} {cc' : ByteArray} {nL' : Nat} {rt' : Option FieldType} (hc : Cond.code y cc' nL' rt' ∈ jT) : GoodIn jT (.code y cc' nL' rt' :: jT) := fun w hw => by
  have h : w ∈ jT := by
    rcases List.mem_cons.mp hw with rfl | h
    · exact hc
    · exact h
  exact ⟨h, good_of_word (List.mem_filter.mp h).2⟩
theorem j_callS {idx : Nat} {y : MethodName} {cc' : ByteArray} {nL' : Nat} {rt' : Option FieldType} {na d' MC' MS' : Nat} {As rest : List Value} {Q' : Option Value → va_W → Prop} (hM : jM own idx y cc' nL' rt' na) (hst : Cond.static y ∈ jT) (hdg : decode cc pc = .ok (.invokestatic idx, 3)) (hn : pc + 3 = n) (hCt : Ct l Z y cc' nL' rt' d' MC' MS' As ws Q')
    (hna : As.length = na) (hS0 : S = As.reverse ++ rest) (hcat : (rest.map fun v => v.category).sum ≤ 8) (hd : d' + 1 ≤ d) (hcc : kc + MC' ≤ MC ∧ ks + MS' ≤ MS) (kk : ∀ (r : Option Value) (ws' : va_W), Q' r ws' → J l Z own nm cc nL rt d MC MS Q n L (r.toList ++ rest) ws' (kc + MC') (ks + MS')) : J l Z own nm cc nL rt d MC MS Q pc L S ws kc ks := by
  subst hn
  obtain ⟨hc, hi, hy, hdl, hnl, hlk⟩ := hM
  intro p e R s m args below meth c A QQ H locs ls hC hB hP hD hS hl
  have go := fun (r : Option Value) (ws' : va_W) (H1 : Heap) (locs1 : List Loc) (x0 : Q' r ws') (x1 : va_P Z.1 vwCl ws' H1) (x2 : va_D A ws') (x3 : va_S A s.heap H1 locs1) => kk r ws' x0 p e R s m args below meth c A QQ H1 locs1 ls hC hB x1 x2 x3 hl
  obtain ⟨hx, hb, hml, hown, hts, hR, hA, hE, hN, hnm'⟩ := hC
  obtain ⟨hR1, hR2, hR3, hR4⟩ := hR
  have hpre : PreS s H (jPc Z As ws H.size) As := ⟨jPc_blind, fun U hU hW => jPc_at hP hD hS hA hE hN hU hW⟩
  have hroom : (jRm d' MC' MS').frames + 1 ≤ R.frames ∧ 8 + (nL' + 11) + (jRm d' MC' MS').locals ≤ R.locals := ⟨Nat.le_trans hd hR1, by show 8 + (nL' + 11) + 36 * d' ≤ R.locals; omega⟩
  have hcc' : kc + MC' ≤ R.cells ∧ ks + MS' ≤ R.slots := ⟨Nat.le_trans hcc.1 hR3, Nat.le_trans hcc.2 hR4⟩
  refine j_run (av := As) (rest := rest) (Q' := Q') ?_ hD hS hA go
  rcases hlk with hlk | ⟨h, hlk⟩
  · exact va_runS (Ts := jT) ⟨hx, hb, hml, hown, hts⟩ (hCt H.size) ⟨callB_of na hts (jT_good hc) rfl rfl rfl (hts _ hi) (hts _ hlk) ⟨hy.1, hy.2, hdl⟩ hroom, hts _ hst⟩ hpre rfl hna hl.1 hS0 (lv_room (m := m) (pc := pc) (ls := ls) (rest := S) hcat) hdg hcc'
  · exact va_runSN (Ts := jT) ⟨hx, hb, hml, hown, hts⟩ (hCt H.size) ⟨va_cnB na hts (jT_good hc) rfl rfl rfl (hN.1 _ hlk) (hts _ hi) ⟨hy.1, hy.2, hdl⟩ hroom, hts _ hst, trivial⟩ hpre rfl hna hl.1 hS0 (lv_room (m := m) (pc := pc) (ls := ls) (rest := S) hcat) hdg hcc'
/-- the receiver: an object of the class -/
def jRecv (Z : jZ) (ws : va_W) (b : Nat) (C : String) : Prop := ∀ (s : State) (H : Heap) (locs : List Loc) (A : Nat → Prop), jE Z A s s.heap → va_P Z.1 vwCl ws H → va_S A s.heap H locs → ∃ cell : Cell, H[b]? = some cell ∧ cell.vm.isStatics = false ∧ s.vm.findClass C = some cell.cls
theorem jRecv_obj {b p0 ci : Nat} {C : String} {r : vw_C} {fs : List Value} (he : ws[p0]? = some (b, .inr (ci, fs))) (hc : vwCl[ci]? = some r) (hC : r.1 = C) : jRecv Z ws b C := fun s H locs A hE hP hS => by subst hC; exact va_recv hE.1 hP hc he
theorem jRecv_str {i : Nat} (hi : i < 15) : jRecv Z ws (Z.2.2.1 i) "java/lang/String" := fun s H locs A hE hP hS => vk_recv hE.2.2.2.2.2.2.2.1 hi hS
theorem j_callV {idx : Nat} {y : MethodName} {cc' : ByteArray} {nL' : Nat} {rt' : Option FieldType} {na d' MC' MS' b : Nat} {As rest : List Value} {Q' : Option Value → va_W → Prop} (hM : jM own idx y cc' nL' rt' na) (hin : Cond.instanceMethod y ∈ jT) (hse : Cond.selects y.cls y y ∈ jT) (hdg : decode cc pc = .ok (.invokevirtual idx, 3)) (hn : pc + 3 = n) (hCt : Ct l Z y cc' nL' rt' d' MC' MS' (.ref b :: As) ws Q') (hrv : jRecv Z ws b y.cls)
    (hna : As.length = na) (hS0 : S = As.reverse ++ .ref b :: rest) (hcat : (rest.map fun v => v.category).sum ≤ 8) (hd : d' + 1 ≤ d) (hcc : kc + MC' ≤ MC ∧ ks + MS' ≤ MS) (kk : ∀ (r : Option Value) (ws' : va_W), Q' r ws' → J l Z own nm cc nL rt d MC MS Q n L (r.toList ++ rest) ws' (kc + MC') (ks + MS')) : J l Z own nm cc nL rt d MC MS Q pc L S ws kc ks := by
  subst hn
  obtain ⟨hc, hi, hy, hdl, hnl, hlk⟩ := hM
  intro p e R s m args below meth c A QQ H locs ls hC hB hP hD hS hl
  have go := fun (r : Option Value) (ws' : va_W) (H1 : Heap) (locs1 : List Loc) (x0 : Q' r ws') (x1 : va_P Z.1 vwCl ws' H1) (x2 : va_D A ws') (x3 : va_S A s.heap H1 locs1) => kk r ws' x0 p e R s m args below meth c A QQ H1 locs1 ls hC hB x1 x2 x3 hl
  obtain ⟨hx, hb, hml, hown, hts, hR, hA, hE, hN, hnm'⟩ := hC
  obtain ⟨hR1, hR2, hR3, hR4⟩ := hR
  have hpre : PreV s H y.cls b (jPc Z (.ref b :: As) ws H.size) As := ⟨jPc_blind, hrv s H locs A hE hP hS, fun U hU hW => jPc_at hP hD hS hA hE hN hU hW⟩
  have hroom : (jRm d' MC' MS').frames + 1 ≤ R.frames ∧ 8 + (nL' + 11) + (jRm d' MC' MS').locals ≤ R.locals := ⟨Nat.le_trans hd hR1, by show 8 + (nL' + 11) + 36 * d' ≤ R.locals; omega⟩
  have hcc' : kc + MC' ≤ R.cells ∧ ks + MS' ≤ R.slots := ⟨Nat.le_trans hcc.1 hR3, Nat.le_trans hcc.2 hR4⟩
  refine j_run (av := .ref b :: As) (rest := rest) (Q' := Q') ?_ hD hS hA go
  rcases hlk with hlk | ⟨h, hlk⟩
  · exact va_runV (Ts := jT) ⟨hx, hb, hml, hown, hts⟩ (hCt H.size) ⟨callB_of na hts (jT_good hc) rfl rfl rfl (hts _ hi) (hts _ hlk) ⟨hy.1, hy.2, hdl⟩ hroom, hts _ hin, hts _ hse⟩ hpre rfl hna hl.1 hS0 (lv_room (m := m) (pc := pc) (ls := ls) (rest := S) hcat) hdg hcc'
  · exact va_runVN (Ts := jT) ⟨hx, hb, hml, hown, hts⟩ (hCt H.size) ⟨va_cnB na hts (jT_good hc) rfl rfl rfl (hN.1 _ hlk) (hts _ hi) ⟨hy.1, hy.2, hdl⟩ hroom, hts _ hin, hts _ hse⟩ hpre rfl hna hl.1 hS0 (lv_room (m := m) (pc := pc) (ls := ls) (rest := S) hcat) hdg hcc'
theorem j_callI {idx : Nat} {y : MethodName} {cc' : ByteArray} {nL' : Nat} {na d' MC' MS' b : Nat} {As rest : List Value} {Q' : Option Value → va_W → Prop} (hM : jM own idx y cc' nL' none na) (hin : Cond.instanceMethod y ∈ jT) (hy1 : y.name = "<init>") (hdg : decode cc pc = .ok (.invokespecial idx, 3)) (hn : pc + 3 = n) (hCt : Ct l Z y cc' nL' none d' MC' MS' (.ref b :: As) ws Q')
    (hna : As.length = na) (hS0 : S = As.reverse ++ .ref b :: rest) (hcat : (rest.map fun v => v.category).sum ≤ 8) (hd : d' + 1 ≤ d) (hcc : kc + MC' ≤ MC ∧ ks + MS' ≤ MS) (kk : ∀ (r : Option Value) (ws' : va_W), Q' r ws' → J l Z own nm cc nL rt d MC MS Q n L (r.toList ++ rest) ws' (kc + MC') (ks + MS')) : J l Z own nm cc nL rt d MC MS Q pc L S ws kc ks := by
  subst hn
  obtain ⟨hc, hi, hy, hdl, hnl, hlk⟩ := hM
  intro p e R s m args below meth c A QQ H locs ls hC hB hP hD hS hl
  have go := fun (r : Option Value) (ws' : va_W) (H1 : Heap) (locs1 : List Loc) (x0 : Q' r ws') (x1 : va_P Z.1 vwCl ws' H1) (x2 : va_D A ws') (x3 : va_S A s.heap H1 locs1) => kk r ws' x0 p e R s m args below meth c A QQ H1 locs1 ls hC hB x1 x2 x3 hl
  obtain ⟨hx, hb, hml, hown, hts, hR, hA, hE, hN, hnm'⟩ := hC
  obtain ⟨hR1, hR2, hR3, hR4⟩ := hR
  have hpre : PreS s H (jPc Z (.ref b :: As) ws H.size) (.ref b :: As) := ⟨jPc_blind, fun U hU hW => jPc_at hP hD hS hA hE hN hU hW⟩
  have hroom : (jRm d' MC' MS').frames + 1 ≤ R.frames ∧ 8 + (nL' + 11) + (jRm d' MC' MS').locals ≤ R.locals := ⟨Nat.le_trans hd hR1, by show 8 + (nL' + 11) + 36 * d' ≤ R.locals; omega⟩
  have hcc' : kc + MC' ≤ R.cells ∧ ks + MS' ≤ R.slots := ⟨Nat.le_trans hcc.1 hR3, Nat.le_trans hcc.2 hR4⟩
  refine j_run (av := .ref b :: As) (rest := rest) (Q' := Q') ?_ hD hS hA go
  rcases hlk with hlk | ⟨h, hlk⟩
  · exact va_runI (Ts := jT) ⟨hx, hb, hml, hown, hts⟩ (hCt H.size) ⟨callB_of na hts (jT_good hc) rfl rfl rfl (hts _ hi) (hts _ hlk) ⟨hy.1, hy.2, hdl⟩ hroom, hy1, hts _ hin⟩ hpre rfl hna hl.1 hS0 (lv_room (m := m) (pc := pc) (ls := ls) (rest := S) hcat) hdg hcc'
  · exact va_runIN (Ts := jT) ⟨hx, hb, hml, hown, hts⟩ (hCt H.size) ⟨va_cnB na hts (jT_good hc) rfl rfl rfl (hN.1 _ hlk) (hts _ hi) ⟨hy.1, hy.2, hdl⟩ hroom, hy1, hts _ hin⟩ hpre rfl hna hl.1 hS0 (lv_room (m := m) (pc := pc) (ls := ls) (rest := S) hcat) hdg hcc'
/-- Object() -/
theorem j_obj {idx a : Nat} (hw : Cond.methodLink own idx objectInit ∈ jT) (hw2 : Cond.instanceMethod objectInit ∈ jT) (hw3 : Cond.code objectInit ⟨#[0xb1]⟩ 1 none ∈ jT) (hdg : decode cc pc = .ok (.invokespecial idx, 3)) (hn : pc + 3 = n) (hd : 1 ≤ d) (hcat : (S.map fun v => v.category).sum ≤ 8) (k : J l Z own nm cc nL rt d MC MS Q n L S ws kc ks) : J l Z own nm cc nL rt d MC MS Q pc L (.ref a :: S) ws kc ks := by
  subst hn
  intro p e R s m args below meth c A QQ H locs ls hC hB hP hD hS hl
  have go := k p e R s m args below meth c A QQ H locs ls hC hB hP hD hS hl
  obtain ⟨hx, hb, hml, hown, hts, hR, hA, hE, hN, hnm'⟩ := hC
  obtain ⟨hR1, hR2, hR3, hR4⟩ := hR
  exact W.objInit hx hb hown (hts _ hw) (hts _ hw2) (hts _ hw3) rfl (by rw [hml]; exact hl.1) rfl hdg (Nat.le_trans hd hR1) (by show 2 * 0 + _ + 12 ≤ _; omega) go
theorem j_min {idx : Nat} {x y : Int32} (hw : Cond.methodLink own idx Lib.Math.min.name ∈ jT) (hw2 : Cond.static Lib.Math.min.name ∈ jT) (hw3 : Cond.initialized "java/lang/Math" ∈ jT) (hw4 : Cond.code Lib.Math.min.name Lib.Math.min.code 2 (some .int) ∈ jT) (hdg : decode cc pc = .ok (.invokestatic idx, 3)) (hn : pc + 3 = n) (hd : 1 ≤ d) (hcat : (S.map fun v => v.category).sum ≤ 8) (hc : kc ≤ MC ∧ ks ≤ MS)
    (k : J l Z own nm cc nL rt d MC MS Q n L (.int (if y < x then y else x) :: S) ws kc ks) : J l Z own nm cc nL rt d MC MS Q pc L (.int y :: .int x :: S) ws kc ks := by
  subst hn
  intro p e R s m args below meth c A QQ H locs ls hC hB hP hD hS hl
  have go := k p e R s m args below meth c A QQ H locs ls hC hB hP hD hS hl
  obtain ⟨hx, hb, hml, hown, hts, hR, hA, hE, hN, hnm'⟩ := hC
  obtain ⟨hR1, hR2, hR3, hR4⟩ := hR
  exact va_mmin hx hb (by rw [hml]; exact hl.1.symm) hown (hts _ hw) (hts _ hw2) (hts _ hw3) (hts _ hw4) (Nat.le_trans hd hR1) (by omega) (Nat.le_trans hc.1 hR3) (Nat.le_trans hc.2 hR4) hdg go
theorem j_max {idx : Nat} {x y : Int32} (hw : Cond.methodLink own idx Lib.Math.max.name ∈ jT) (hw2 : Cond.static Lib.Math.max.name ∈ jT) (hw3 : Cond.initialized "java/lang/Math" ∈ jT) (hw4 : Cond.code Lib.Math.max.name Lib.Math.max.code 2 (some .int) ∈ jT) (hdg : decode cc pc = .ok (.invokestatic idx, 3)) (hn : pc + 3 = n) (hd : 1 ≤ d) (hcat : (S.map fun v => v.category).sum ≤ 8) (hc : kc ≤ MC ∧ ks ≤ MS)
    (k : J l Z own nm cc nL rt d MC MS Q n L (.int (if x < y then y else x) :: S) ws kc ks) : J l Z own nm cc nL rt d MC MS Q pc L (.int y :: .int x :: S) ws kc ks := by
  subst hn
  intro p e R s m args below meth c A QQ H locs ls hC hB hP hD hS hl
  have go := k p e R s m args below meth c A QQ H locs ls hC hB hP hD hS hl
  obtain ⟨hx, hb, hml, hown, hts, hR, hA, hE, hN, hnm'⟩ := hC
  obtain ⟨hR1, hR2, hR3, hR4⟩ := hR
  exact va_mmax hx hb (by rw [hml]; exact hl.1.symm) hown (hts _ hw) (hts _ hw2) (hts _ hw3) (hts _ hw4) (Nat.le_trans hd hR1) (by omega) (Nat.le_trans hc.1 hR3) (Nat.le_trans hc.2 hR4) hdg go
theorem j_copyi {idx q0 q1 a0 a1 n0 n1 : Nat} {f g : Nat → Int32} {sp dp z : Int32} (hw : Cond.methodLink own idx arraycopyName ∈ jT) (hw1 : Cond.native arraycopyName ∈ jT) (hw2 : Cond.static arraycopyName ∈ jT) (hw3 : Cond.initialized "java/lang/System" ∈ jT) (hdg : decode cc pc = .ok (.invokestatic idx, 3)) (hn : pc + 3 = n) (he0 : ws[q0]? = some (a0, .inl (Z.2.1 0, n0, .inl f))) (he1 : ws[q1]? = some (a1, .inl (Z.2.1 0, n1, .inl g)))
    (h1 : ¬ sp < 0) (h2 : ¬ dp < 0) (h3 : ¬ z < 0) (h4 : sp.toNatClampNeg + z.toNatClampNeg ≤ n0) (h5 : dp.toNatClampNeg + z.toNatClampNeg ≤ n1) (hd : 1 ≤ d) (hcat : (S.map fun v => v.category).sum ≤ 8)
    (k : J l Z own nm cc nL rt d MC MS Q n L S (ws.set q1 (a1, .inl (Z.2.1 0, n1, .inl (va_cpy f g sp.toNatClampNeg dp.toNatClampNeg z.toNatClampNeg)))) kc ks) : J l Z own nm cc nL rt d MC MS Q pc L (.int z :: .int dp :: .ref a1 :: .int sp :: .ref a0 :: S) ws kc ks := by
  subst hn
  intro p e R s m args below meth c A QQ H locs ls hC hB hP hD hS hl
  have go := fun (H1 : Heap) (locs1 : List Loc) (x1 : va_P Z.1 vwCl _ H1) (x2 : va_D A _) (x3 : va_S A s.heap H1 locs1) => k p e R s m args below meth c A QQ H1 locs1 ls hC hB x1 x2 x3 hl
  obtain ⟨hx, hb, hml, hown, hts, hR, hA, hE, hN, hnm'⟩ := hC
  obtain ⟨hR1, hR2, hR3, hR4⟩ := hR
  have h9 : nativeFrameWords "java/lang/System" "arraycopy" 5 + 11 ≤ 28 := by decide +kernel
  have hroomC : (S.map fun v => v.category).sum + (nativeFrameWords "java/lang/System" "arraycopy" 5 + 11) ≤ R.locals := by omega
  exact va_copyi hx hb (by rw [hml]; exact hl.1.symm) hown (hts _ hw) (hts _ hw1) (hts _ hw2) (hts _ hw3) hE.1 hP hD hS q0 q1 0 0 he0 he1 rfl rfl rfl h1 h2 h3 h4 h5 (fun _ _ => rfl) (Nat.le_trans hd hR1) hroomC hdg go
theorem j_copyl {idx q0 q1 a0 a1 n0 n1 : Nat} {f g : Nat → Int64} {sp dp z : Int32} (hw : Cond.methodLink own idx arraycopyName ∈ jT) (hw1 : Cond.native arraycopyName ∈ jT) (hw2 : Cond.static arraycopyName ∈ jT) (hw3 : Cond.initialized "java/lang/System" ∈ jT) (hdg : decode cc pc = .ok (.invokestatic idx, 3)) (hn : pc + 3 = n) (he0 : ws[q0]? = some (a0, .inl (Z.2.1 1, n0, .inr (.inl f)))) (he1 : ws[q1]? = some (a1, .inl (Z.2.1 1, n1, .inr (.inl g))))
    (h1 : ¬ sp < 0) (h2 : ¬ dp < 0) (h3 : ¬ z < 0) (h4 : sp.toNatClampNeg + z.toNatClampNeg ≤ n0) (h5 : dp.toNatClampNeg + z.toNatClampNeg ≤ n1) (hd : 1 ≤ d) (hcat : (S.map fun v => v.category).sum ≤ 8)
    (k : J l Z own nm cc nL rt d MC MS Q n L S (ws.set q1 (a1, .inl (Z.2.1 1, n1, .inr (.inl (va_cpy f g sp.toNatClampNeg dp.toNatClampNeg z.toNatClampNeg))))) kc ks) : J l Z own nm cc nL rt d MC MS Q pc L (.int z :: .int dp :: .ref a1 :: .int sp :: .ref a0 :: S) ws kc ks := by
  subst hn
  intro p e R s m args below meth c A QQ H locs ls hC hB hP hD hS hl
  have go := fun (H1 : Heap) (locs1 : List Loc) (x1 : va_P Z.1 vwCl _ H1) (x2 : va_D A _) (x3 : va_S A s.heap H1 locs1) => k p e R s m args below meth c A QQ H1 locs1 ls hC hB x1 x2 x3 hl
  obtain ⟨hx, hb, hml, hown, hts, hR, hA, hE, hN, hnm'⟩ := hC
  obtain ⟨hR1, hR2, hR3, hR4⟩ := hR
  have h9 : nativeFrameWords "java/lang/System" "arraycopy" 5 + 11 ≤ 28 := by decide +kernel
  have hroomC : (S.map fun v => v.category).sum + (nativeFrameWords "java/lang/System" "arraycopy" 5 + 11) ≤ R.locals := by omega
  exact va_copyl hx hb (by rw [hml]; exact hl.1.symm) hown (hts _ hw) (hts _ hw1) (hts _ hw2) (hts _ hw3) hE.1 hP hD hS q0 q1 1 1 he0 he1 rfl rfl rfl h1 h2 h3 h4 h5 (fun _ _ => rfl) (Nat.le_trans hd hR1) hroomC hdg go
end JM
/-! ===== worlds as memories ===== -/
/-- V.1 j k: the int at place k of cell j (a field or an element), V.2 j k the long -/
abbrev jMem : Type := (Nat → Nat → Int32) × (Nat → Nat → Int64)
/-- a cell: an object (its class, its fields: 0 an int, 1 a long, 2 null, r + 3 the cell r); or a row (0 of ints, 1 of longs, b + 2 of the cells b, b + 2, b + 4 ..) and its length -/
abbrev jD : Type := (Nat × List Nat) ⊕ (Nat × Nat)
def jval (q : Nat → Nat) (V : jMem) (j k : Nat) : Nat → Value
  | 0 => .int (V.1 j k)
  | 1 => .long (V.2 j k)
  | 2 => .null
  | r + 3 => .ref (q r)
def jfl (q : Nat → Nat) (V : jMem) (j : Nat) : Nat → List Nat → List Value
  | _, [] => []
  | k, f :: r => jval q V j k f :: jfl q V j (k + 1) r
def jrow (Z : jZ) (q : Nat → Nat) (V : jMem) (j n : Nat) : Nat → va_E
  | 0 => .inl (Z.2.1 0, n, .inl (V.1 j))
  | 1 => .inl (Z.2.1 1, n, .inr (.inl (V.2 j)))
  | b + 2 => .inl (Z.2.1 2, n, .inr (.inr (.inr (.inr (fun i => some (q (b + 2 * i)))))))
def jcell (Z : jZ) (q : Nat → Nat) (V : jMem) (j : Nat) : jD → va_E
  | .inl o => .inr (o.1, jfl q V j 0 o.2)
  | .inr a => jrow Z q V j a.2 a.1
def jwF (Z : jZ) (q : Nat → Nat) (V : jMem) : Nat → List jD → va_W
  | _, [] => []
  | j, c :: r => (q j, jcell Z q V j c) :: jwF Z q V (j + 1) r
def jw (Z : jZ) (q : Nat → Nat) (V : jMem) (ds : List jD) : va_W := jwF Z q V 0 ds
theorem jfl_at (q : Nat → Nat) (V : jMem) (j : Nat) : ∀ (fs : List Nat) (k i : Nat), (jfl q V j k fs)[i]? = (fs[i]?).map (jval q V j (k + i))
  | [], k, i => by simp [jfl]
  | f :: r, k, 0 => by simp [jfl]
  | f :: r, k, i + 1 => by
    have h := jfl_at q V j r (k + 1) i
    simp only [jfl, List.getElem?_cons_succ, h]
    rw [show k + 1 + i = k + (i + 1) by omega]
theorem jfl_len (q : Nat → Nat) (V : jMem) (j : Nat) : ∀ (fs : List Nat) (k : Nat), (jfl q V j k fs).length = fs.length
  | [], k => rfl
  | f :: r, k => by simp [jfl, jfl_len q V j r (k + 1)]
theorem jwF_at (Z : jZ) (q : Nat → Nat) (V : jMem) : ∀ (ds : List jD) (j i : Nat), (jwF Z q V j ds)[i]? = (ds[i]?).map (fun c => (q (j + i), jcell Z q V (j + i) c))
  | [], j, i => by simp [jwF]
  | c :: r, j, 0 => by simp [jwF]
  | c :: r, j, i + 1 => by
    have h := jwF_at Z q V r (j + 1) i
    simp only [jwF, List.getElem?_cons_succ, h]
    rw [show j + 1 + i = j + (i + 1) by omega]
theorem jw_at {Z : jZ} {q : Nat → Nat} {V : jMem} {ds : List jD} {i : Nat} {c : jD} (h : ds[i]? = some c) : (jw Z q V ds)[i]? = some (q i, jcell Z q V i c) := by
  unfold jw
  rw [jwF_at, h]
  simp
/-- one int, one long, a whole row is written -/
def jsI (V : jMem) (j k : Nat) (x : Int32) : jMem := (fun a => if a = j then upd (V.1 j) k x else V.1 a, V.2)
def jsL (V : jMem) (j k : Nat) (x : Int64) : jMem := (V.1, fun a => if a = j then vp_updL (V.2 j) k x else V.2 a)
def jsA (V : jMem) (j : Nat) (f : Nat → Int32) : jMem := (fun a => if a = j then f else V.1 a, V.2)
def jsB (V : jMem) (j : Nat) (f : Nat → Int64) : jMem := (V.1, fun a => if a = j then f else V.2 a)
theorem jcell_off {Z : jZ} {q : Nat → Nat} {V V' : jMem} {j : Nat} (h1 : V'.1 j = V.1 j) (h2 : V'.2 j = V.2 j) (c : jD) : jcell Z q V' j c = jcell Z q V j c := by
  have hv : ∀ k f, jval q V' j k f = jval q V j k f := by
    intro k f
    match f with
    | 0 => simp [jval, h1]
    | 1 => simp [jval, h2]
    | 2 => rfl
    | r + 3 => rfl
  have hf : ∀ (fs : List Nat) (k : Nat), jfl q V' j k fs = jfl q V j k fs := by
    intro fs
    induction fs with
    | nil => intro k; rfl
    | cons f r ih => intro k; simp [jfl, hv, ih]
  match c with
  | .inl o => simp [jcell, hf]
  | .inr (0, n) => simp [jcell, jrow, h1]
  | .inr (1, n) => simp [jcell, jrow, h2]
  | .inr (b + 2, n) => rfl
theorem jw_set {Z : jZ} {q : Nat → Nat} {V V' : jMem} {ds : List jD} {j : Nat} {c : jD} {e : va_E} (h : ds[j]? = some c) (h1 : ∀ a, a ≠ j → V'.1 a = V.1 a) (h2 : ∀ a, a ≠ j → V'.2 a = V.2 a) (he : e = jcell Z q V' j c) : (jw Z q V ds).set j (q j, e) = jw Z q V' ds := by
  subst he
  apply List.ext_getElem?
  intro i
  have hlen : (jw Z q V ds).length = ds.length := by
    have key : ∀ (ds : List jD) (j : Nat), (jwF Z q V j ds).length = ds.length := by
      intro ds
      induction ds with
      | nil => intro j; rfl
      | cons c r ih => intro j; simp [jwF, ih]
    exact key ds 0
  have hj : j < ds.length := (List.getElem?_eq_some_iff.mp h).1
  rw [List.getElem?_set]
  by_cases hij : j = i
  · subst hij
    rw [if_pos rfl, if_pos (by rw [hlen]; exact hj), jw_at h]
  · rw [if_neg hij]
    cases hi : ds[i]? with
    | none =>
      unfold jw
      rw [jwF_at, jwF_at, hi]
      rfl
    | some c' => rw [jw_at hi, jw_at hi, jcell_off (h1 i (fun z => hij z.symm)) (h2 i (fun z => hij z.symm))]
theorem jfl_set {q : Nat → Nat} {V V' : jMem} {j k : Nat} {fs : List Nat} {v : Value} {f : Nat} (hf : fs[k]? = some f) (hv : v = jval q V' j k f) (h : ∀ i g, i ≠ k → jval q V' j i g = jval q V j i g) : (jfl q V j 0 fs).set k v = jfl q V' j 0 fs := by
  apply List.ext_getElem?
  intro i
  have hk : k < fs.length := (List.getElem?_eq_some_iff.mp hf).1
  rw [List.getElem?_set]
  by_cases hik : k = i
  · subst hik
    rw [if_pos rfl, if_pos (by rw [jfl_len]; exact hk), jfl_at, hf, hv]
    simp
  · rw [if_neg hik, jfl_at, jfl_at]
    cases hi : fs[i]? with
    | none => rfl
    | some g => simp [h i g (fun z => hik z.symm)]
section JW
variable {l : Launch} {Z : jZ} {own nm : String} {cc : ByteArray} {nL : Nat} {rt : Option FieldType} {d MC MS : Nat} {Q : Option Value → va_W → Prop} {pc n : Nat} {L : List (Nat × Value)} {S : List Value} {q : Nat → Nat} {V : jMem} {ds : List jD} {kc ks : Nat}
theorem m_geti {idx ci k j : Nat} {ty : FieldType} {fin : Bool} {fs : List Nat} (hF : jF own idx ci k ty fin) (hdg : decode cc pc = .ok (.getfield idx, 3)) (hn : pc + 3 = n) (hd : ds[j]? = some (.inl (ci, fs))) (hf : fs[k]? = some 0) (kk : J l Z own nm cc nL rt d MC MS Q n L (.int (V.1 j k) :: S) (jw Z q V ds) kc ks) : J l Z own nm cc nL rt d MC MS Q pc L (.ref (q j) :: S) (jw Z q V ds) kc ks :=
  j_get hF hdg hn (jw_at hd) (v := .int (V.1 j k)) (by rw [jfl_at, hf]; simp [jval]) kk
theorem m_getl {idx ci k j : Nat} {ty : FieldType} {fin : Bool} {fs : List Nat} (hF : jF own idx ci k ty fin) (hdg : decode cc pc = .ok (.getfield idx, 3)) (hn : pc + 3 = n) (hd : ds[j]? = some (.inl (ci, fs))) (hf : fs[k]? = some 1) (kk : J l Z own nm cc nL rt d MC MS Q n L (.long (V.2 j k) :: S) (jw Z q V ds) kc ks) : J l Z own nm cc nL rt d MC MS Q pc L (.ref (q j) :: S) (jw Z q V ds) kc ks :=
  j_get hF hdg hn (jw_at hd) (v := .long (V.2 j k)) (by rw [jfl_at, hf]; simp [jval]) kk
theorem m_getr {idx ci k j r : Nat} {ty : FieldType} {fin : Bool} {fs : List Nat} (hF : jF own idx ci k ty fin) (hdg : decode cc pc = .ok (.getfield idx, 3)) (hn : pc + 3 = n) (hd : ds[j]? = some (.inl (ci, fs))) (hf : fs[k]? = some (r + 3)) (kk : J l Z own nm cc nL rt d MC MS Q n L (.ref (q r) :: S) (jw Z q V ds) kc ks) : J l Z own nm cc nL rt d MC MS Q pc L (.ref (q j) :: S) (jw Z q V ds) kc ks :=
  j_get hF hdg hn (jw_at hd) (v := .ref (q r)) (by rw [jfl_at, hf]; simp [jval]) kk
theorem jsI_cell {j k ci : Nat} {x : Int32} {fs : List Nat} (hf : fs[k]? = some 0) : (.inr (ci, (jfl q V j 0 fs).set k (.int x)) : va_E) = jcell Z q (jsI V j k x) j (.inl (ci, fs)) := by
  show (.inr (ci, (jfl q V j 0 fs).set k (.int x)) : va_E) = .inr (ci, jfl q (jsI V j k x) j 0 fs)
  rw [jfl_set hf (V' := jsI V j k x) (by simp [jval, jsI, upd]) (fun i g hi => by
    match g with
    | 0 => simp [jval, jsI, upd, hi]
    | 1 => rfl
    | 2 => rfl
    | r + 3 => rfl)]
theorem jsL_cell {j k ci : Nat} {x : Int64} {fs : List Nat} (hf : fs[k]? = some 1) : (.inr (ci, (jfl q V j 0 fs).set k (.long x)) : va_E) = jcell Z q (jsL V j k x) j (.inl (ci, fs)) := by
  show (.inr (ci, (jfl q V j 0 fs).set k (.long x)) : va_E) = .inr (ci, jfl q (jsL V j k x) j 0 fs)
  rw [jfl_set hf (V' := jsL V j k x) (by simp [jval, jsL, vp_updL]) (fun i g hi => by
    match g with
    | 0 => rfl
    | 1 => simp [jval, jsL, vp_updL, hi]
    | 2 => rfl
    | r + 3 => rfl)]
theorem m_puti {idx ci k j : Nat} {fs : List Nat} {x : Int32} (hF : jF own idx ci k .int false) (hdg : decode cc pc = .ok (.putfield idx, 3)) (hn : pc + 3 = n) (hd : ds[j]? = some (.inl (ci, fs))) (hf : fs[k]? = some 0) (kk : J l Z own nm cc nL rt d MC MS Q n L S (jw Z q (jsI V j k x) ds) kc ks) : J l Z own nm cc nL rt d MC MS Q pc L (.int x :: .ref (q j) :: S) (jw Z q V ds) kc ks := by
  refine j_put hF hdg hn (jw_at hd) (by rw [jfl_len]; exact (List.getElem?_eq_some_iff.mp hf).1) rfl rfl ?_
  rw [jw_set (Z := Z) (q := q) (V := V) (V' := jsI V j k x) hd (fun a ha => by simp [jsI, ha]) (fun a ha => rfl) (jsI_cell hf)]
  exact kk
theorem m_putz {idx ci k j : Nat} {fs : List Nat} {x : Int32} (hF : jF own idx ci k .boolean false) (hdg : decode cc pc = .ok (.putfield idx, 3)) (hn : pc + 3 = n) (hd : ds[j]? = some (.inl (ci, fs))) (hf : fs[k]? = some 0) (hx : x = 0 ∨ x = 1) (kk : J l Z own nm cc nL rt d MC MS Q n L S (jw Z q (jsI V j k x) ds) kc ks) : J l Z own nm cc nL rt d MC MS Q pc L (.int x :: .ref (q j) :: S) (jw Z q V ds) kc ks := by
  refine j_put hF hdg hn (jw_at hd) (by rw [jfl_len]; exact (List.getElem?_eq_some_iff.mp hf).1) (by rcases hx with rfl | rfl <;> rfl) (by rcases hx with rfl | rfl <;> rfl) ?_
  rw [jw_set (Z := Z) (q := q) (V := V) (V' := jsI V j k x) hd (fun a ha => by simp [jsI, ha]) (fun a ha => rfl) (jsI_cell hf)]
  exact kk
theorem m_putl {idx ci k j : Nat} {fs : List Nat} {x : Int64} (hF : jF own idx ci k .long false) (hdg : decode cc pc = .ok (.putfield idx, 3)) (hn : pc + 3 = n) (hd : ds[j]? = some (.inl (ci, fs))) (hf : fs[k]? = some 1) (kk : J l Z own nm cc nL rt d MC MS Q n L S (jw Z q (jsL V j k x) ds) kc ks) : J l Z own nm cc nL rt d MC MS Q pc L (.long x :: .ref (q j) :: S) (jw Z q V ds) kc ks := by
  refine j_put hF hdg hn (jw_at hd) (by rw [jfl_len]; exact (List.getElem?_eq_some_iff.mp hf).1) rfl rfl ?_
  rw [jw_set (Z := Z) (q := q) (V := V) (V' := jsL V j k x) hd (fun a ha => rfl) (fun a ha => by simp [jsL, ha]) (jsL_cell hf)]
  exact kk
theorem m_iald {j N : Nat} {i : Int32} (hdg : decode cc pc = .ok (.iaload, 1)) (hn : pc + 1 = n) (hd : ds[j]? = some (.inr (0, N))) (hin : vp_in i N) (k : J l Z own nm cc nL rt d MC MS Q n L (.int (V.1 j i.toNatClampNeg) :: S) (jw Z q V ds) kc ks) : J l Z own nm cc nL rt d MC MS Q pc L (.int i :: .ref (q j) :: S) (jw Z q V ds) kc ks := j_iald hdg hn (jw_at hd) hin k
theorem m_lald {j N : Nat} {i : Int32} (hdg : decode cc pc = .ok (.laload, 1)) (hn : pc + 1 = n) (hd : ds[j]? = some (.inr (1, N))) (hin : vp_in i N) (k : J l Z own nm cc nL rt d MC MS Q n L (.long (V.2 j i.toNatClampNeg) :: S) (jw Z q V ds) kc ks) : J l Z own nm cc nL rt d MC MS Q pc L (.int i :: .ref (q j) :: S) (jw Z q V ds) kc ks := j_lald hdg hn (jw_at hd) hin k
theorem m_aald {j b N : Nat} {i : Int32} (hdg : decode cc pc = .ok (.aaload, 1)) (hn : pc + 1 = n) (hd : ds[j]? = some (.inr (b + 2, N))) (hin : vp_in i N) (k : J l Z own nm cc nL rt d MC MS Q n L (.ref (q (b + 2 * i.toNatClampNeg)) :: S) (jw Z q V ds) kc ks) : J l Z own nm cc nL rt d MC MS Q pc L (.int i :: .ref (q j) :: S) (jw Z q V ds) kc ks := j_aald (f := fun i => some (q (b + 2 * i))) hdg hn (jw_at hd) hin k
theorem m_iast {j N : Nat} {i x : Int32} (hdg : decode cc pc = .ok (.iastore, 1)) (hn : pc + 1 = n) (hd : ds[j]? = some (.inr (0, N))) (hin : vp_in i N) (k : J l Z own nm cc nL rt d MC MS Q n L S (jw Z q (jsI V j i.toNatClampNeg x) ds) kc ks) : J l Z own nm cc nL rt d MC MS Q pc L (.int x :: .int i :: .ref (q j) :: S) (jw Z q V ds) kc ks := by
  refine j_iast hdg hn (jw_at hd) hin ?_
  rw [jw_set (Z := Z) (q := q) (V := V) (V' := jsI V j i.toNatClampNeg x) hd (fun a ha => by simp [jsI, ha]) (fun a ha => rfl) (by simp [jcell, jrow, jsI])]
  exact k
theorem m_last {j N : Nat} {i : Int32} {x : Int64} (hdg : decode cc pc = .ok (.lastore, 1)) (hn : pc + 1 = n) (hd : ds[j]? = some (.inr (1, N))) (hin : vp_in i N) (k : J l Z own nm cc nL rt d MC MS Q n L S (jw Z q (jsL V j i.toNatClampNeg x) ds) kc ks) : J l Z own nm cc nL rt d MC MS Q pc L (.long x :: .int i :: .ref (q j) :: S) (jw Z q V ds) kc ks := by
  refine j_last hdg hn (jw_at hd) hin ?_
  rw [jw_set (Z := Z) (q := q) (V := V) (V' := jsL V j i.toNatClampNeg x) hd (fun a ha => rfl) (fun a ha => by simp [jsL, ha]) (by simp [jcell, jrow, jsL])]
  exact k
theorem m_alen {j N : Nat} (hdg : decode cc pc = .ok (.arraylength, 1)) (hn : pc + 1 = n) (hd : ds[j]? = some (.inr (1, N))) (k : J l Z own nm cc nL rt d MC MS Q n L (.int (nI N) :: S) (jw Z q V ds) kc ks) : J l Z own nm cc nL rt d MC MS Q pc L (.ref (q j) :: S) (jw Z q V ds) kc ks := by
  subst hn
  intro p e R s m args below meth c A QQ H locs ls hC hB hP hD hS hl
  exact va_alen hC.1 hC.2.1 hC.2.2.2.2.2.2.2.1.1 hP j 1 (jw_at hd) rfl rfl hdg (k p e R s m args below meth c A QQ H locs ls hC hB hP hD hS hl)
theorem m_copyi {idx j0 j1 n0 n1 : Nat} {sp dp z : Int32} (hw : Cond.methodLink own idx arraycopyName ∈ jT) (hw1 : Cond.native arraycopyName ∈ jT) (hw2 : Cond.static arraycopyName ∈ jT) (hw3 : Cond.initialized "java/lang/System" ∈ jT) (hdg : decode cc pc = .ok (.invokestatic idx, 3)) (hn : pc + 3 = n) (hd0 : ds[j0]? = some (.inr (0, n0))) (hd1 : ds[j1]? = some (.inr (0, n1)))
    (h1 : ¬ sp < 0) (h2 : ¬ dp < 0) (h3 : ¬ z < 0) (h4 : sp.toNatClampNeg + z.toNatClampNeg ≤ n0) (h5 : dp.toNatClampNeg + z.toNatClampNeg ≤ n1) (hdd : 1 ≤ d) (hcat : (S.map fun v => v.category).sum ≤ 8)
    (k : J l Z own nm cc nL rt d MC MS Q n L S (jw Z q (jsA V j1 (va_cpy (V.1 j0) (V.1 j1) sp.toNatClampNeg dp.toNatClampNeg z.toNatClampNeg)) ds) kc ks) : J l Z own nm cc nL rt d MC MS Q pc L (.int z :: .int dp :: .ref (q j1) :: .int sp :: .ref (q j0) :: S) (jw Z q V ds) kc ks := by
  refine j_copyi hw hw1 hw2 hw3 hdg hn (jw_at hd0) (jw_at hd1) h1 h2 h3 h4 h5 hdd hcat ?_
  rw [jw_set (Z := Z) (q := q) (V := V) (V' := jsA V j1 (va_cpy (V.1 j0) (V.1 j1) sp.toNatClampNeg dp.toNatClampNeg z.toNatClampNeg)) hd1 (fun a ha => by simp [jsA, ha]) (fun a ha => rfl) (by simp [jcell, jrow, jsA])]
  exact k
theorem m_copyl {idx j0 j1 n0 n1 : Nat} {sp dp z : Int32} (hw : Cond.methodLink own idx arraycopyName ∈ jT) (hw1 : Cond.native arraycopyName ∈ jT) (hw2 : Cond.static arraycopyName ∈ jT) (hw3 : Cond.initialized "java/lang/System" ∈ jT) (hdg : decode cc pc = .ok (.invokestatic idx, 3)) (hn : pc + 3 = n) (hd0 : ds[j0]? = some (.inr (1, n0))) (hd1 : ds[j1]? = some (.inr (1, n1)))
    (h1 : ¬ sp < 0) (h2 : ¬ dp < 0) (h3 : ¬ z < 0) (h4 : sp.toNatClampNeg + z.toNatClampNeg ≤ n0) (h5 : dp.toNatClampNeg + z.toNatClampNeg ≤ n1) (hdd : 1 ≤ d) (hcat : (S.map fun v => v.category).sum ≤ 8)
    (k : J l Z own nm cc nL rt d MC MS Q n L S (jw Z q (jsB V j1 (va_cpy (V.2 j0) (V.2 j1) sp.toNatClampNeg dp.toNatClampNeg z.toNatClampNeg)) ds) kc ks) : J l Z own nm cc nL rt d MC MS Q pc L (.int z :: .int dp :: .ref (q j1) :: .int sp :: .ref (q j0) :: S) (jw Z q V ds) kc ks := by
  refine j_copyl hw hw1 hw2 hw3 hdg hn (jw_at hd0) (jw_at hd1) h1 h2 h3 h4 h5 hdd hcat ?_
  rw [jw_set (Z := Z) (q := q) (V := V) (V' := jsB V j1 (va_cpy (V.2 j0) (V.2 j1) sp.toNatClampNeg dp.toNatClampNeg z.toNatClampNeg)) hd1 (fun a ha => rfl) (fun a ha => by simp [jsB, ha]) (by simp [jcell, jrow, jsB])]
  exact k
/-- a contract without chance: from the memory V the method answers r and leaves V' -/
abbrev CtD (l : Launch) (Z : jZ) (y : MethodName) (cc : ByteArray) (nL : Nat) (rt : Option FieldType) (d : Nat) (q : Nat → Nat) (ds : List jD) (av : List Value) (V : jMem) (r : Option Value) (V' : jMem) : Prop := Ct l Z y cc nL rt d 0 0 av (jw Z q V ds) (fun r' w => r' = r ∧ w = jw Z q V' ds)
theorem m_callS {idx : Nat} {y : MethodName} {cc' : ByteArray} {nL' : Nat} {rt' : Option FieldType} {na d' : Nat} {As rest : List Value} {r : Option Value} {V' : jMem} {S' : List Value} (hM : jM own idx y cc' nL' rt' na ∧ Cond.static y ∈ jT) (hdg : decode cc pc = .ok (.invokestatic idx, 3)) (hn : pc + 3 = n) (hCt : CtD l Z y cc' nL' rt' d' q ds As V r V')
    (hna : As.length = na) (hS0 : S = As.reverse ++ rest) (hS1 : S' = r.toList ++ rest) (hcat : (rest.map fun v => v.category).sum ≤ 8) (hd : d' + 1 ≤ d) (hcc : kc ≤ MC ∧ ks ≤ MS) (kk : J l Z own nm cc nL rt d MC MS Q n L S' (jw Z q V' ds) kc ks) : J l Z own nm cc nL rt d MC MS Q pc L S (jw Z q V ds) kc ks :=
  j_callS hM.1 hM.2 hdg hn hCt hna hS0 hcat hd hcc (fun r ws' h => by obtain ⟨rfl, rfl⟩ := h; subst hS1; exact kk)
theorem m_callV {idx j ci : Nat} {y : MethodName} {cc' : ByteArray} {nL' : Nat} {rt' : Option FieldType} {na d' : Nat} {As rest : List Value} {r : Option Value} {V' : jMem} {S' : List Value} {fs : List Nat} {rc : vw_C} (hM : jM own idx y cc' nL' rt' na ∧ Cond.instanceMethod y ∈ jT ∧ Cond.selects y.cls y y ∈ jT) (hdg : decode cc pc = .ok (.invokevirtual idx, 3)) (hn : pc + 3 = n) (hCt : CtD l Z y cc' nL' rt' d' q ds (.ref (q j) :: As) V r V') (hd0 : ds[j]? = some (.inl (ci, fs))) (hc0 : vwCl[ci]? = some rc) (hC0 : rc.1 = y.cls)
    (hna : As.length = na) (hS0 : S = As.reverse ++ .ref (q j) :: rest) (hS1 : S' = r.toList ++ rest) (hcat : (rest.map fun v => v.category).sum ≤ 8) (hd : d' + 1 ≤ d) (hcc : kc ≤ MC ∧ ks ≤ MS) (kk : J l Z own nm cc nL rt d MC MS Q n L S' (jw Z q V' ds) kc ks) : J l Z own nm cc nL rt d MC MS Q pc L S (jw Z q V ds) kc ks :=
  j_callV hM.1 hM.2.1 hM.2.2 hdg hn hCt (jRecv_obj (jw_at hd0) hc0 hC0) hna hS0 hcat hd hcc (fun r ws' h => by obtain ⟨rfl, rfl⟩ := h; subst hS1; exact kk)
end JW
