/-! rows for constructors: new cells, final fields, a callee beside other cells -/
def jFF (own : String) (idx ci k : Nat) (ty : FieldType) : Prop := ∃ (T : u_T) (N : Nat) (ty0 : Nat → FieldType), vwCl[ci]? = some (own, T, N) ∧ k < N ∧ (∀ w ∈ u_ws own T N, w ∈ jT) ∧ (∀ k, k < N → parseFieldDescriptor (T k).2.2.1 = some (ty0 k)) ∧ (∀ a, a < N → ∀ b, b < N → a ≠ b → (T a).2.1 ≠ (T b).2.1) ∧ (T k).1 = own ∧ (T k).2.2.2 = true ∧ ty0 k = ty ∧ Cond.fieldLink own idx own (T k).2.1 (T k).2.2.1 ∈ jT
/-- what the tables say of a 'new' -/
def jNew (own : String) (idx ci N : Nat) (fs : List Value) : Prop := ∃ (C : String) (T : u_T) (ty0 : Nat → FieldType), vwCl[ci]? = some (C, T, N) ∧ (∀ w ∈ u_ws C T N, w ∈ jT) ∧ (∀ k, k < N → parseFieldDescriptor (T k).2.2.1 = some (ty0 k)) ∧ (∀ j, j < N → defaultValue (ty0 j) = vp_V fs j) ∧ Cond.classLink own idx C ∈ jT ∧ Cond.instantiable C N ∈ jT ∧ Cond.initialized C ∈ jT
section CR
variable {l : Launch} {Z : jZ} {own nm : String} {cc : ByteArray} {nL : Nat} {rt : Option FieldType} {d MC MS : Nat} {Q : Option Value → va_W → Prop} {pc n : Nat} {L : List (Nat × Value)} {S : List Value} {ws ws' : va_W} {kc ks : Nat}
theorem c_putF {idx ci k p0 a : Nat} {ty : FieldType} {fs : List Value} {v : Value} (hF : jFF own idx ci k ty) (hinit : nm = "<init>") (hdg : decode cc pc = .ok (.putfield idx, 3)) (hn : pc + 3 = n) (he : ws[p0]? = some (a, .inr (ci, fs))) (hl : k < fs.length) (hnv : narrow ty v = v) (hfit : fits ty v = true) (hw : ws.set p0 (a, .inr (ci, fs.set k v)) = ws')
    (kk : J l Z own nm cc nL rt d MC MS Q n L S ws' kc ks) : J l Z own nm cc nL rt d MC MS Q pc L (v :: .ref a :: S) ws kc ks := by
  subst hn
  subst hw
  obtain ⟨T, N, ty0, hc, hk, hin, hty, hnm, h1, h2, h3, hlk⟩ := hF
  subst h3
  intro p e R s m args below meth c A QQ H locs ls hC hB hP hD hS hl'
  have go := fun (H1 : Heap) (locs1 : List Loc) (x1 : va_P Z.1 vwCl (ws.set p0 (a, .inr (ci, fs.set k v))) H1) (x2 : va_D A (ws.set p0 (a, .inr (ci, fs.set k v)))) (x3 : va_S A s.heap H1 locs1) => kk p e R s m args below meth c A QQ H1 locs1 ls hC hB x1 x2 x3 hl'
  obtain ⟨hx, hb, hml, hown, hts, hR, hA, hE, hN, hnm'⟩ := hC
  exact va_putF hx hb hts hin ty0 hty hnm hown hE.1 hP hD hS p0 he hc k hk (hts _ hlk) (fun x h => by rw [h1] at h; exact h) h2 (hnm'.trans hinit) h1 (hty k hk) hnv hfit hl hdg go
theorem c_put {idx ci k p0 a : Nat} {ty : FieldType} {fs : List Value} {v : Value} (hF : jF own idx ci k ty false) (hdg : decode cc pc = .ok (.putfield idx, 3)) (hn : pc + 3 = n) (he : ws[p0]? = some (a, .inr (ci, fs))) (hl : k < fs.length) (hnv : narrow ty v = v) (hfit : fits ty v = true) (hw : ws.set p0 (a, .inr (ci, fs.set k v)) = ws')
    (kk : J l Z own nm cc nL rt d MC MS Q n L S ws' kc ks) : J l Z own nm cc nL rt d MC MS Q pc L (v :: .ref a :: S) ws kc ks := by subst hw; exact j_put hF hdg hn he hl hnv hfit kk
theorem c_iast {p0 a N k : Nat} {f : Nat → Int32} {i : Int32} {x : Int32} (hk : i.toNatClampNeg = k) (hdg : decode cc pc = .ok (.iastore, 1)) (hn : pc + 1 = n) (he : ws[p0]? = some (a, .inl (Z.2.1 0, N, .inl f))) (hin : vp_in i N) (hw : ws.set p0 (a, .inl (Z.2.1 0, N, .inl (upd f k x))) = ws') (kk : J l Z own nm cc nL rt d MC MS Q n L S ws' kc ks) : J l Z own nm cc nL rt d MC MS Q pc L (.int x :: .int i :: .ref a :: S) ws kc ks := by subst hk; subst hw; exact j_iast hdg hn he hin kk
theorem c_new {idx ci N : Nat} {fs : List Value} (hW : jNew own idx ci N fs) (hdg : decode cc pc = .ok (.new idx, 3)) (hn : pc + 3 = n) (hc1 : kc + 1 ≤ MC) (hs1 : ks + N ≤ MS) (kk : ∀ a : Nat, J l Z own nm cc nL rt d MC MS Q n L (.ref a :: S) (ws ++ [(a, .inr (ci, fs))]) (kc + 1) (ks + N)) : J l Z own nm cc nL rt d MC MS Q pc L S ws kc ks := by
  subst hn
  obtain ⟨C, T, ty0, hc, hin, hty, hfs, hl1, hl2, hl3⟩ := hW
  intro p e R s m args below meth c A QQ H locs ls hC hB hP hD hS hl'
  have go := fun (a : Nat) (H1 : Heap) (x1 : va_P Z.1 vwCl (ws ++ [(a, .inr (ci, fs))]) H1) (x2 : va_D A (ws ++ [(a, .inr (ci, fs))])) (x3 : va_S A s.heap H1 locs) => kk a p e R s m args below meth c A QQ H1 locs ls hC hB x1 x2 x3 hl'
  obtain ⟨hx, hb, hml, hown, hts, hR, hA, hE, hN, hnm'⟩ := hC
  obtain ⟨hR1, hR2, hR3, hR4⟩ := hR
  exact va_new hx hb hts hin ty0 hty hown (hts _ hl1) (hts _ hl2) (hts _ hl3) hE.1 hP hD hS hA hc hfs (Nat.le_trans hc1 hR3) (Nat.le_trans hs1 hR4) hdg go
theorem jTys_same {cA : ClassId} {ty : FieldType} {s : State} {k : Nat} {cB : ClassId} (hK : va_K Z.1 vwCl (jTys Z ++ [(cA, ty)]) s) (hk : (jTys Z)[k]? = some (cB, ty)) (hob : ∀ C, ty ≠ .object C) : cA = cB := by
  have h1 := (hK.2 3 (cA, ty) rfl).2
  have h2 := (hK.2 k (cB, ty) (by
    have hl : k < (jTys Z).length := (List.getElem?_eq_some_iff.mp hk).1
    rw [List.getElem?_append_left hl]; exact hk)).2
  have e : ∀ c : ClassId, va_RA s c ty → s.vm.findClass ("[" ++ ty.toString) = some c := by
    intro c h
    cases ty with
    | object C => exact absurd rfl (hob C)
    | _ => exact h
  have h3 := e _ h1
  rw [e _ h2] at h3
  exact (Option.some.inj h3).symm
theorem c_newi {z : Int32} {N : Nat} (hw0 : Cond.arrayClass .int ∈ jT) (hdg : decode cc pc = .ok (.newarray .int, 2)) (hn : pc + 2 = n) (hz : ¬ z < 0) (hN : z.toNatClampNeg = N) (hby : N * 4 ≤ 536870912) (hc1 : kc + 1 ≤ MC) (hs1 : ks + N ≤ MS) (kk : ∀ a : Nat, J l Z own nm cc nL rt d MC MS Q n L (.ref a :: S) (ws ++ [(a, .inl (Z.2.1 0, N, .inl (fun _ => 0)))]) (kc + 1) (ks + N)) : J l Z own nm cc nL rt d MC MS Q pc L (.int z :: S) ws kc ks := by
  subst hn
  intro p e R s m args below meth c A QQ H locs ls hC hB hP hD hS hl'
  have go := fun (a : Nat) (H1 : Heap) (x1 : va_P Z.1 vwCl (ws ++ [(a, .inl (Z.2.1 0, N, .inl (fun _ => 0)))]) H1) (x2 : va_D A (ws ++ [(a, .inl (Z.2.1 0, N, .inl (fun _ => 0)))])) (x3 : va_S A s.heap H1 locs) => kk a p e R s m args below meth c A QQ H1 locs ls hC hB x1 x2 x3 hl'
  obtain ⟨hx, hb, hml, hown, hts, hR, hA, hE, hN', hnm'⟩ := hC
  obtain ⟨hR1, hR2, hR3, hR4⟩ := hR
  refine va_newa (atype := .int) (ty := .int) (a0 := (N, .inl (fun _ => 0))) (N' := N) hx hb (hts _ hw0) rfl hE.1 hP hD hS hA (fun _ => rfl) hz hN hby (Nat.le_trans hc1 hR3) (Nat.le_trans hs1 hR4) hdg (fun a cA H1 hK1 x1 x2 x3 => ?_)
  have ec : cA = Z.2.1 0 := jTys_same hK1 (k := 0) rfl (fun C h => by cases h)
  subst ec
  exact go a H1 x1 x2 x3
theorem c_newl {z : Int32} {N : Nat} (hw0 : Cond.arrayClass .long ∈ jT) (hdg : decode cc pc = .ok (.newarray .long, 2)) (hn : pc + 2 = n) (hz : ¬ z < 0) (hN : z.toNatClampNeg = N) (hby : N * 8 ≤ 536870912) (hc1 : kc + 1 ≤ MC) (hs1 : ks + N ≤ MS) (kk : ∀ a : Nat, J l Z own nm cc nL rt d MC MS Q n L (.ref a :: S) (ws ++ [(a, .inl (Z.2.1 1, N, .inr (.inl (fun _ => 0))))]) (kc + 1) (ks + N)) : J l Z own nm cc nL rt d MC MS Q pc L (.int z :: S) ws kc ks := by
  subst hn
  intro p e R s m args below meth c A QQ H locs ls hC hB hP hD hS hl'
  have go := fun (a : Nat) (H1 : Heap) (x1 : va_P Z.1 vwCl (ws ++ [(a, .inl (Z.2.1 1, N, .inr (.inl (fun _ => 0))))]) H1) (x2 : va_D A (ws ++ [(a, .inl (Z.2.1 1, N, .inr (.inl (fun _ => 0))))])) (x3 : va_S A s.heap H1 locs) => kk a p e R s m args below meth c A QQ H1 locs ls hC hB x1 x2 x3 hl'
  obtain ⟨hx, hb, hml, hown, hts, hR, hA, hE, hN', hnm'⟩ := hC
  obtain ⟨hR1, hR2, hR3, hR4⟩ := hR
  refine va_newa (atype := .long) (ty := .long) (a0 := (N, .inr (.inl (fun _ => 0)))) (N' := N) hx hb (hts _ hw0) rfl hE.1 hP hD hS hA (fun _ => rfl) hz hN hby (Nat.le_trans hc1 hR3) (Nat.le_trans hs1 hR4) hdg (fun a cA H1 hK1 x1 x2 x3 => ?_)
  have ec : cA = Z.2.1 1 := jTys_same hK1 (k := 1) rfl (fun C h => by cases h)
  subst ec
  exact go a H1 x1 x2 x3
theorem c_newq {idx : Nat} {z : Int32} {N : Nat} (hw0 : Cond.classLink own idx RX2 ∈ jT) (hdg : decode cc pc = .ok (.anewarray idx, 3)) (hn : pc + 3 = n) (hz : ¬ z < 0) (hN : z.toNatClampNeg = N) (hby : N * 4 ≤ 536870912) (hc1 : kc + 1 ≤ MC) (hs1 : ks + N ≤ MS) (kk : ∀ a : Nat, J l Z own nm cc nL rt d MC MS Q n L (.ref a :: S) (ws ++ [(a, .inl (Z.2.1 2, N, .inr (.inr (.inr (.inr (fun _ => none))))))]) (kc + 1) (ks + N)) : J l Z own nm cc nL rt d MC MS Q pc L (.int z :: S) ws kc ks := by
  subst hn
  intro p e R s m args below meth c A QQ H locs ls hC hB hP hD hS hl'
  have go := fun (a : Nat) (H1 : Heap) (x1 : va_P Z.1 vwCl (ws ++ [(a, .inl (Z.2.1 2, N, .inr (.inr (.inr (.inr (fun _ => none))))))]) H1) (x2 : va_D A (ws ++ [(a, .inl (Z.2.1 2, N, .inr (.inr (.inr (.inr (fun _ => none))))))])) (x3 : va_S A s.heap H1 locs) => kk a p e R s m args below meth c A QQ H1 locs ls hC hB x1 x2 x3 hl'
  obtain ⟨hx, hb, hml, hown, hts, hR, hA, hE, hN', hnm'⟩ := hC
  obtain ⟨hR1, hR2, hR3, hR4⟩ := hR
  refine va_newq (C := RX2) (N' := N) hx hb hown (hts _ hw0) hE.2.2.2.2.2.2.2.2.2.2.2 hE.1 hP hD hS hA hz hN hby (Nat.le_trans hc1 hR3) (Nat.le_trans hs1 hR4) hdg (fun a cA H1 hK1 x1 x2 x3 => ?_)
  have ec : cA = Z.2.1 2 := by
    obtain ⟨_, _, h1, h2, h3, h4⟩ := (hK1.2 3 (cA, .object RX2) rfl).2
    obtain ⟨_, _, g1, g2, g3, g4⟩ := (hK1.2 2 (Z.2.1 2, .object RX2) rfl).2
    rw [h4] at g4
    exact Option.some.inj g4
  subst ec
  exact go a H1 x1 x2 x3
theorem c_aast {p0 a N qk ci v k : Nat} {r : vw_C} {vs : List Value} {f : Nat → Option Nat} {i : Int32} (hk : i.toNatClampNeg = k) (hr : vwCl[ci]? = some r) (hr2 : r.1 = RX2) (hdg : decode cc pc = .ok (.aastore, 1)) (hn : pc + 1 = n) (he : ws[p0]? = some (a, .inl (Z.2.1 2, N, .inr (.inr (.inr (.inr f)))))) (hv : ws[qk]? = some (v, .inr (ci, vs))) (hin : vp_in i N) (hw : ws.set p0 (a, .inl (Z.2.1 2, N, .inr (.inr (.inr (.inr (va_up f k (some v))))))) = ws') (kk : J l Z own nm cc nL rt d MC MS Q n L S ws' kc ks) : J l Z own nm cc nL rt d MC MS Q pc L (.ref v :: .int i :: .ref a :: S) ws kc ks := by
  subst hn
  subst hk
  subst hw
  intro p e R s m args below meth c A QQ H locs ls hC hB hP hD hS hl'
  exact va_astq hC.1 hC.2.1 hC.2.2.2.2.2.2.2.1.1 hP hD hS p0 2 qk ci he (by rw [hr2]; rfl) hv hr hin hdg (fun H locs hP hD hS => kk p e R s m args below meth c A QQ H locs ls hC hB hP hD hS hl')
/-- the worlds may be read anew -/
theorem c_re (hw : ∀ H : Heap, va_P Z.1 vwCl ws H → va_P Z.1 vwCl ws' H) (hd : ∀ A : Nat → Prop, va_D A ws → va_D A ws') (kk : J l Z own nm cc nL rt d MC MS Q pc L S ws' kc ks) : J l Z own nm cc nL rt d MC MS Q pc L S ws kc ks :=
  fun p e R s m args below meth c A QQ H locs ls hC hB hP hD hS hl' => kk p e R s m args below meth c A QQ H locs ls hC hB (hw _ hP) (hd _ hD) hS hl'
/-- a run of a callee on a part of the cells -/
theorem c_run {p : Program} {e : Env} {R : Room} {s : State} {m : MethodId} {args : Array Value} {below : List Frame} {meth : Method} {c : Code} {A : Nat → Prop} {QQ : State → Prop} {H : Heap} {locs : List Loc} {ls : Array Slot} {MC' MS' : Nat} {av rest : List Value} {Q' : Option Value → va_W → Prop} {wc wr : va_W} (isC isR : List Nat) (hCc : isC.map (fun i => ws[i]?) = wc.map some) (hRr : isR.map (fun i => ws[i]?) = wr.map some) (hnd : va_nd isR = true) (hdis : ∀ i ∈ isR, i ∉ isC)
    (hr : va_Run p l e R s m args below meth c H locs kc ks MC' MS' (F0 m pc ls S) rest (jQc Z wc H.size Q' av.toArray) (va_A wc H.size)) (hP : va_P Z.1 vwCl ws H) (hD : va_D A ws) (hS : va_S A s.heap H locs) (hA : ∀ q, s.heap.size ≤ q → A q)
    (kk : ∀ (r : Option Value) (w1 : va_W) (H1 : Heap) (locs1 : List Loc), Q' r w1 → va_P Z.1 vwCl (wr ++ w1) H1 → va_D A (wr ++ w1) → va_S A s.heap H1 locs1 → W p l e R s m args below meth c H1 locs1 (kc + MC') (ks + MS') QQ (F0 m (pc + 3) ls (r.toList ++ rest))) : W p l e R s m args below meth c H locs kc ks QQ (F0 m pc ls S) := by
  intro T hT X
  obtain ⟨v, st₀, t, T', L, h0, X', hL, e1, e2, ⟨⟨r, w1, hv, hq, hP', hD'⟩, hz, hk⟩, st⟩ := hr T hT X
  cases hv
  rw [h0] at hz hk
  have hsub : ∀ q, va_A wc H.size q → A q := va_free hD hS hA isC hCc
  obtain ⟨hPj, hDj⟩ := va_join hP hD isC isR hCc hRr hnd hdis hk hsub hP' hD'
  obtain ⟨t2, a1, b1⟩ := kk v w1 T'.heap (locs ++ L) hq (by rw [e1]; exact hPj) hDj
    ⟨Nat.le_trans hS.1 (by rw [e1]; exact hz), fun q h1 h2 => by rw [e1, hk q (Nat.lt_of_lt_of_le h1 hS.1) (fun z => h2 (hsub q z))]; exact hS.2.1 q h1 h2, fun q hq => by
      rcases List.mem_append.mp hq with h | h
      · exact hS.2.2 q h
      · exact hsub _ (hL q h)⟩ T' rfl X'
  exact ⟨t2, st t2 a1, b1⟩
theorem c_pre {av : List Value} {A : Nat → Prop} {s : State} {H : Heap} {locs : List Loc} {wc : va_W} (isC : List Nat) (hnd : va_nd isC = true) (hCc : isC.map (fun i => ws[i]?) = wc.map some) (hP : va_P Z.1 vwCl ws H) (hD : va_D A ws) (hS : va_S A s.heap H locs) (hA : ∀ q, s.heap.size ≤ q → A q) (hE : jE Z A s s.heap) (hN : jN Z s) {U : State} (hU : U.heap = H) (hW : s.WarmedH U.vm) : jPc Z av wc H.size av.toArray U := by
  have hPc : va_P Z.1 vwCl wc H := fun k q hq => by
    have h1 : (isC.map (fun i => ws[i]?))[k]? = some (some q) := by rw [hCc, List.getElem?_map, hq]; rfl
    rw [List.getElem?_map] at h1
    cases hi : isC[k]? with
    | none => rw [hi] at h1; cases h1
    | some i => rw [hi] at h1; exact hP i q (Option.some.inj h1)
  exact ⟨rfl, by rw [hU], by rw [hU]; exact hPc, (hD.sub isC hnd hCc).weaken (fun _ _ _ _ => trivial), hE.next hS hU hW (va_free hD hS hA isC hCc), hN.next hW⟩
theorem c_callI {idx : Nat} {y : MethodName} {cc' : ByteArray} {nL' : Nat} {na d' MC' MS' b : Nat} {As rest : List Value} {Q' : Option Value → va_W → Prop} {wc wr : va_W} (isC isR : List Nat) (hM : jM own idx y cc' nL' none na ∧ Cond.instanceMethod y ∈ jT) (hy1 : y.name = "<init>") (hdg : decode cc pc = .ok (.invokespecial idx, 3)) (hn : pc + 3 = n) (hCt : Ct l Z y cc' nL' none d' MC' MS' (.ref b :: As) wc Q') (hCc : isC.map (fun i => ws[i]?) = wc.map some) (hRr : isR.map (fun i => ws[i]?) = wr.map some) (hndC : va_nd isC = true) (hnd : va_nd isR = true) (hdis : ∀ i ∈ isR, i ∉ isC)
    (hna : As.length = na) (hS0 : S = As.reverse ++ .ref b :: rest) (hcat : (rest.map fun v => v.category).sum ≤ 8) (hd : d' + 1 ≤ d) (hcc : kc + MC' ≤ MC ∧ ks + MS' ≤ MS) (kk : ∀ (r : Option Value) (w1 : va_W), Q' r w1 → J l Z own nm cc nL rt d MC MS Q n L (r.toList ++ rest) (wr ++ w1) (kc + MC') (ks + MS')) : J l Z own nm cc nL rt d MC MS Q pc L S ws kc ks := by
  subst hn
  obtain ⟨⟨hc, hi, hy, hdl, hnl, hlk⟩, hin⟩ := hM
  intro p e R s m args below meth c A QQ H locs ls hC hB hP hD hS hl
  have go := fun (r : Option Value) (w1 : va_W) (H1 : Heap) (locs1 : List Loc) (x0 : Q' r w1) (x1 : va_P Z.1 vwCl (wr ++ w1) H1) (x2 : va_D A (wr ++ w1)) (x3 : va_S A s.heap H1 locs1) => kk r w1 x0 p e R s m args below meth c A QQ H1 locs1 ls hC hB x1 x2 x3 hl
  obtain ⟨hx, hb, hml, hown, hts, hR, hA, hE, hN, hnm'⟩ := hC
  obtain ⟨hR1, hR2, hR3, hR4⟩ := hR
  have hpre : PreS s H (jPc Z (.ref b :: As) wc H.size) (.ref b :: As) := ⟨jPc_blind, fun U hU hW => c_pre isC hndC hCc hP hD hS hA hE hN hU hW⟩
  have hroom : (jRm d' MC' MS').frames + 1 ≤ R.frames ∧ 8 + (nL' + 11) + (jRm d' MC' MS').locals ≤ R.locals := ⟨Nat.le_trans hd hR1, by show 8 + (nL' + 11) + 36 * d' ≤ R.locals; omega⟩
  have hcc' : kc + MC' ≤ R.cells ∧ ks + MS' ≤ R.slots := ⟨Nat.le_trans hcc.1 hR3, Nat.le_trans hcc.2 hR4⟩
  refine c_run (av := .ref b :: As) (rest := rest) (Q' := Q') isC isR hCc hRr hnd hdis ?_ hP hD hS hA go
  rcases hlk with hlk | ⟨h, hlk⟩
  · exact va_runI (Ts := jT) ⟨hx, hb, hml, hown, hts⟩ (hCt H.size) ⟨callB_of na hts (jT_good hc) rfl rfl rfl (hts _ hi) (hts _ hlk) ⟨hy.1, hy.2, hdl⟩ hroom, hy1, hts _ hin⟩ hpre rfl hna hl.1 hS0 (lv_room (m := m) (pc := pc) (ls := ls) (rest := S) hcat) hdg hcc'
  · exact va_runIN (Ts := jT) ⟨hx, hb, hml, hown, hts⟩ (hCt H.size) ⟨va_cnB na hts (jT_good hc) rfl rfl rfl (hN.1 _ hlk) (hts _ hi) ⟨hy.1, hy.2, hdl⟩ hroom, hy1, hts _ hin⟩ hpre rfl hna hl.1 hS0 (lv_room (m := m) (pc := pc) (ls := ls) (rest := S) hcat) hdg hcc'
theorem c_callV {idx p0 ci : Nat} {y : MethodName} {cc' : ByteArray} {nL' : Nat} {rt' : Option FieldType} {na d' MC' MS' b : Nat} {As rest : List Value} {Q' : Option Value → va_W → Prop} {wc wr : va_W} {fs : List Value} {rc : vw_C} (isC isR : List Nat) (hM : jM own idx y cc' nL' rt' na ∧ Cond.instanceMethod y ∈ jT ∧ Cond.selects y.cls y y ∈ jT) (hdg : decode cc pc = .ok (.invokevirtual idx, 3)) (hn : pc + 3 = n) (hCt : Ct l Z y cc' nL' rt' d' MC' MS' (.ref b :: As) wc Q') (hrv : ws[p0]? = some (b, .inr (ci, fs))) (hc0 : vwCl[ci]? = some rc) (hC0 : rc.1 = y.cls) (hCc : isC.map (fun i => ws[i]?) = wc.map some) (hRr : isR.map (fun i => ws[i]?) = wr.map some) (hndC : va_nd isC = true) (hnd : va_nd isR = true) (hdis : ∀ i ∈ isR, i ∉ isC)
    (hna : As.length = na) (hS0 : S = As.reverse ++ .ref b :: rest) (hcat : (rest.map fun v => v.category).sum ≤ 8) (hd : d' + 1 ≤ d) (hcc : kc + MC' ≤ MC ∧ ks + MS' ≤ MS) (kk : ∀ (r : Option Value) (w1 : va_W), Q' r w1 → J l Z own nm cc nL rt d MC MS Q n L (r.toList ++ rest) (wr ++ w1) (kc + MC') (ks + MS')) : J l Z own nm cc nL rt d MC MS Q pc L S ws kc ks := by
  subst hn
  obtain ⟨⟨hc, hi, hy, hdl, hnl, hlk⟩, hin, hse⟩ := hM
  intro p e R s m args below meth c A QQ H locs ls hC hB hP hD hS hl
  have go := fun (r : Option Value) (w1 : va_W) (H1 : Heap) (locs1 : List Loc) (x0 : Q' r w1) (x1 : va_P Z.1 vwCl (wr ++ w1) H1) (x2 : va_D A (wr ++ w1)) (x3 : va_S A s.heap H1 locs1) => kk r w1 x0 p e R s m args below meth c A QQ H1 locs1 ls hC hB x1 x2 x3 hl
  obtain ⟨hx, hb, hml, hown, hts, hR, hA, hE, hN, hnm'⟩ := hC
  obtain ⟨hR1, hR2, hR3, hR4⟩ := hR
  have hpre : PreV s H y.cls b (jPc Z (.ref b :: As) wc H.size) As := ⟨jPc_blind, jRecv_obj hrv hc0 hC0 s H locs A hE hP hS, fun U hU hW => c_pre isC hndC hCc hP hD hS hA hE hN hU hW⟩
  have hroom : (jRm d' MC' MS').frames + 1 ≤ R.frames ∧ 8 + (nL' + 11) + (jRm d' MC' MS').locals ≤ R.locals := ⟨Nat.le_trans hd hR1, by show 8 + (nL' + 11) + 36 * d' ≤ R.locals; omega⟩
  have hcc' : kc + MC' ≤ R.cells ∧ ks + MS' ≤ R.slots := ⟨Nat.le_trans hcc.1 hR3, Nat.le_trans hcc.2 hR4⟩
  refine c_run (av := .ref b :: As) (rest := rest) (Q' := Q') isC isR hCc hRr hnd hdis ?_ hP hD hS hA go
  rcases hlk with hlk | ⟨h, hlk⟩
  · exact va_runV (Ts := jT) ⟨hx, hb, hml, hown, hts⟩ (hCt H.size) ⟨callB_of na hts (jT_good hc) rfl rfl rfl (hts _ hi) (hts _ hlk) ⟨hy.1, hy.2, hdl⟩ hroom, hts _ hin, hts _ hse⟩ hpre rfl hna hl.1 hS0 (lv_room (m := m) (pc := pc) (ls := ls) (rest := S) hcat) hdg hcc'
  · exact va_runVN (Ts := jT) ⟨hx, hb, hml, hown, hts⟩ (hCt H.size) ⟨va_cnB na hts (jT_good hc) rfl rfl rfl (hN.1 _ hlk) (hts _ hi) ⟨hy.1, hy.2, hdl⟩ hroom, hts _ hin, hts _ hse⟩ hpre rfl hna hl.1 hS0 (lv_room (m := m) (pc := pc) (ls := ls) (rest := S) hcat) hdg hcc'
end CR
theorem ac_int : Cond.arrayClass .int ∈ jT := jT_of 186 (by decide +kernel) rfl
theorem ac_long : Cond.arrayClass .long ∈ jT := jT_of 258 (by decide +kernel) rfl
