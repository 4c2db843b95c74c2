/-! the law, out of what each call keeps: Rel between the two memories -/
def op_field (Rel : jMem → jMem → Prop) : Prop := ∀ (a1 : Int32) (a2 : Int32) (V U : jMem), Rel V U → ∃ (r : Int32) (V' : jMem) (U' : jMem), mX4_field a1 a2 V = some (r, V') ∧ mX5_field a1 a2 U = some (r, U') ∧ Rel V' U'
def op_of (Rel : jMem → jMem → Prop) : Prop := ∀ (a1 : Int32) (a2 : Int32) (V U : jMem), Rel V U → ∃ (r : Int32) (V' : jMem) (U' : jMem), mX4_of a1 a2 V = some (r, V') ∧ mX5_of a1 a2 U = some (r, U') ∧ Rel V' U'
def op_set (Rel : jMem → jMem → Prop) : Prop := ∀ (a1 : Int32) (a2 : Int32) (a3 : Int32) (V U : jMem), Rel V U → ∃ (r : Int32) (V' : jMem) (U' : jMem), mX4_set a1 a2 a3 V = some (r, V') ∧ mX5_set a1 a2 a3 U = some (r, U') ∧ Rel V' U'
def op_as (Rel : jMem → jMem → Prop) : Prop := ∀ (a1 : Int32) (a2 : Int32) (V U : jMem), Rel V U → ∃ (r : Int32) (V' : jMem) (U' : jMem), mX4_as a1 a2 V = some (r, V') ∧ mX5_as a1 a2 U = some (r, U') ∧ Rel V' U'
def op_asks (Rel : jMem → jMem → Prop) : Prop := ∀ (a1 : Int32) (a2 : Int32) (V U : jMem), Rel V U → ∃ (r : Int32) (V' : jMem) (U' : jMem), mX4_asks a1 a2 V = some (r, V') ∧ mX5_asks a1 a2 U = some (r, U') ∧ Rel V' U'
def op_rule (Rel : jMem → jMem → Prop) : Prop := ∀ (a1 : Int32) (a2 : Int32) (V U : jMem), Rel V U → ∃ (r : Int32) (V' : jMem) (U' : jMem), mX4_rule a1 a2 V = some (r, V') ∧ mX5_rule a1 a2 U = some (r, U') ∧ Rel V' U'
def op_offer (Rel : jMem → jMem → Prop) : Prop := ∀ (a1 : Int32) (a2 : Int32) (V U : jMem), Rel V U → ∃ (r : Int32) (V' : jMem) (U' : jMem), mX4_offer a1 a2 V = some (r, V') ∧ mX5_offer a1 a2 U = some (r, U') ∧ Rel V' U'
def op_paper (Rel : jMem → jMem → Prop) : Prop := ∀ (a1 : Int32) (a2 : Int32) (V U : jMem), Rel V U → ∃ (r : Int32) (V' : jMem) (U' : jMem), mX4_paper a1 a2 V = some (r, V') ∧ mX5_paper a1 a2 U = some (r, U') ∧ Rel V' U'
def op_paperOf (Rel : jMem → jMem → Prop) : Prop := ∀ (a1 : Int32) (a2 : Int32) (V U : jMem), Rel V U → ∃ (r : Int32) (V' : jMem) (U' : jMem), mX4_paperOf a1 a2 V = some (r, V') ∧ mX5_paperOf a1 a2 U = some (r, U') ∧ Rel V' U'
def op_claim (Rel : jMem → jMem → Prop) : Prop := ∀ (a1 : Int32) (V U : jMem), Rel V U → ∃ (r : Int32) (V' : jMem) (U' : jMem), mX4_claim a1 V = some (r, V') ∧ mX5_claim a1 U = some (r, U') ∧ Rel V' U'
def op_county (Rel : jMem → jMem → Prop) : Prop := ∀ (a1 : Int32) (V U : jMem), Rel V U → ∃ (r : Int32) (V' : jMem) (U' : jMem), mX4_county a1 V = some (r, V') ∧ mX5_county a1 U = some (r, U') ∧ Rel V' U'
def op_month (Rel : jMem → jMem → Prop) : Prop := ∀ (V U : jMem), Rel V U → ∃ (r : Int32) (V' : jMem) (U' : jMem), mX4_month  V = some (r, V') ∧ mX5_month  U = some (r, U') ∧ Rel V' U'
def op_seed (Rel : jMem → jMem → Prop) : Prop := ∀ (a1 : Int32) (V U : jMem), Rel V U → ∃ (r : Int32) (V' : jMem) (U' : jMem), mX4_seed a1 V = some (r, V') ∧ mX5_seed a1 U = some (r, U') ∧ Rel V' U'
def op_stands (Rel : jMem → jMem → Prop) : Prop := ∀ (a1 : Int32) (V U : jMem), Rel V U → ∃ (r : Int64) (V' : jMem) (U' : jMem), mX4_stands a1 V = some (r, V') ∧ mX5_stands a1 U = some (r, U') ∧ Rel V' U'
def op_strip (Rel : jMem → jMem → Prop) : Prop := ∀ (a1 : Int32) (a2 : Int32) (V U : jMem), Rel V U → ∃ (r : Int32) (V' : jMem) (U' : jMem), mX4_strip a1 a2 V = some (r, V') ∧ mX5_strip a1 a2 U = some (r, U') ∧ Rel V' U'
def op_stripOf (Rel : jMem → jMem → Prop) : Prop := ∀ (a1 : Int32) (a2 : Int32) (V U : jMem), Rel V U → ∃ (r : Int32) (V' : jMem) (U' : jMem), mX4_stripOf a1 a2 V = some (r, V') ∧ mX5_stripOf a1 a2 U = some (r, U') ∧ Rel V' U'
def op_had (Rel : jMem → jMem → Prop) : Prop := ∀ (V U : jMem), Rel V U → ∃ (r : Int32), mX4_had  V = some r ∧ mX5_had  U = some r ∧ Rel V U
def op_least (Rel : jMem → jMem → Prop) : Prop := ∀ (a1 : Int32) (V U : jMem), Rel V U → ∃ (r : Int32) (V' : jMem) (U' : jMem), mX4_least a1 V = some (r, V') ∧ mX5_least a1 U = some (r, U') ∧ Rel V' U'
def op_order (Rel : jMem → jMem → Prop) : Prop := ∀ (a1 : Int32) (a2 : Int32) (V U : jMem), Rel V U → ∃ (r : Int32) (V' : jMem) (U' : jMem), mX4_order a1 a2 V = some (r, V') ∧ mX5_order a1 a2 U = some (r, U') ∧ Rel V' U'
def op_best (Rel : jMem → jMem → Prop) : Prop := ∀ (V U : jMem), Rel V U → ∃ (r : Int32) (V' : jMem) (U' : jMem), mX4_best  V = some (r, V') ∧ mX5_best  U = some (r, U') ∧ Rel V' U'
def op_last (Rel : jMem → jMem → Prop) : Prop := ∀ (a1 : Int32) (a2 : Int32) (V U : jMem), Rel V U → ∃ (r : Int32) (V' : jMem) (U' : jMem), mX4_last a1 a2 V = some (r, V') ∧ mX5_last a1 a2 U = some (r, U') ∧ Rel V' U'
def op_giveUp (Rel : jMem → jMem → Prop) : Prop := ∀ (a1 : Int32) (V U : jMem), Rel V U → ∃ (r : Int32) (V' : jMem) (U' : jMem), mX4_giveUp a1 V = some (r, V') ∧ mX5_giveUp a1 U = some (r, U') ∧ Rel V' U'
def op_rights (Rel : jMem → jMem → Prop) : Prop := ∀ (a1 : Int32) (V U : jMem), Rel V U → ∃ (r : Int32) (V' : jMem) (U' : jMem), mX4_rights a1 V = some (r, V') ∧ mX5_rights a1 U = some (r, U') ∧ Rel V' U'
def op_share (Rel : jMem → jMem → Prop) : Prop := ∀ (a1 : Int32) (a2 : Int32) (a3 : Int32) (V U : jMem), Rel V U → ∃ (r : Int32) (V' : jMem) (U' : jMem), mX4_share a1 a2 a3 V = some (r, V') ∧ mX5_share a1 a2 a3 U = some (r, U') ∧ Rel V' U'
def op_common (Rel : jMem → jMem → Prop) : Prop := ∀ (V U : jMem), Rel V U → ∃ (r : Int32) (V' : jMem) (U' : jMem), mX4_common  V = some (r, V') ∧ mX5_common  U = some (r, U') ∧ Rel V' U'
def op_first (Rel : jMem → jMem → Prop) : Prop := ∀ (a1 : Int32) (V U : jMem), Rel V U → ∃ (r : Int32) (V' : jMem) (U' : jMem), mX4_first a1 V = some (r, V') ∧ mX5_first a1 U = some (r, U') ∧ Rel V' U'
def op_feed (Rel : jMem → jMem → Prop) : Prop := ∀ (a1 : Int32) (a2 : Int32) (V U : jMem), Rel V U → ∃ (r : Int32) (V' : jMem) (U' : jMem), mX4_feed a1 a2 V = some (r, V') ∧ mX5_feed a1 a2 U = some (r, U') ∧ Rel V' U'
def op_wipe (Rel : jMem → jMem → Prop) : Prop := ∀ (V U : jMem), Rel V U → ∃ (r : Int32) (V' : jMem) (U' : jMem), mX4_wipe  V = some (r, V') ∧ mX5_wipe  U = some (r, U') ∧ Rel V' U'
def op_plan (Rel : jMem → jMem → Prop) : Prop := ∀ (V U : jMem), Rel V U → ∃ (r : Int32) (V' : jMem) (U' : jMem), mX4_plan  V = some (r, V') ∧ mX5_plan  U = some (r, U') ∧ Rel V' U'
def op_sheet (Rel : jMem → jMem → Prop) : Prop := ∀ (a1 : Int32) (a2 : Int32) (a3 : Int32) (V U : jMem), Rel V U → ∃ (r : Int32) (V' : jMem) (U' : jMem), mX4_sheet a1 a2 a3 V = some (r, V') ∧ mX5_sheet a1 a2 a3 U = some (r, U') ∧ Rel V' U'
def op_write (Rel : jMem → jMem → Prop) : Prop := ∀ (a1 : Int32) (a2 : Int32) (a3 : Int64) (V U : jMem), Rel V U → ∃ (r : Int64) (V' : jMem) (U' : jMem), mX4_write a1 a2 a3 V = some (r, V') ∧ mX5_write a1 a2 a3 U = some (r, U') ∧ Rel V' U'
def op_copy (Rel : jMem → jMem → Prop) : Prop := ∀ (a1 : Int32) (a2 : Int32) (a3 : Int32) (a4 : Int32) (a5 : Int32) (V U : jMem), Rel V U → ∃ (r : Int32) (V' : jMem) (U' : jMem), mX4_copy a1 a2 a3 a4 a5 V = some (r, V') ∧ mX5_copy a1 a2 a3 a4 a5 U = some (r, U') ∧ Rel V' U'
def op_cost (Rel : jMem → jMem → Prop) : Prop := ∀ (a1 : Int32) (V U : jMem), Rel V U → ∃ (r : Int64) (V' : jMem) (U' : jMem), mX4_cost a1 V = some (r, V') ∧ mX5_cost a1 U = some (r, U') ∧ Rel V' U'
def op_offers (Rel : jMem → jMem → Prop) : Prop := ∀ (a1 : Int32) (V U : jMem), Rel V U → ∃ (r : Int32) (V' : jMem) (U' : jMem), mX4_offers a1 V = some (r, V') ∧ mX5_offers a1 U = some (r, U') ∧ Rel V' U'
def op_read (Rel : jMem → jMem → Prop) : Prop := ∀ (a1 : Int32) (V U : jMem), Rel V U → ∃ (r : Int32) (V' : jMem) (U' : jMem), mX4_read a1 V = some (r, V') ∧ mX5_read a1 U = some (r, U') ∧ Rel V' U'
def op_image (Rel : jMem → jMem → Prop) : Prop := ∀ (V U : jMem), Rel V U → ∃ (r : Int32) (V' : jMem) (U' : jMem), mX4_image  V = some (r, V') ∧ mX5_image  U = some (r, U') ∧ Rel V' U'
def op_undo (Rel : jMem → jMem → Prop) : Prop := ∀ (V U : jMem), Rel V U → ∃ (r : Int32) (V' : jMem) (U' : jMem), mX4_undo  V = some (r, V') ∧ mX5_undo  U = some (r, U') ∧ Rel V' U'
def op_tear (Rel : jMem → jMem → Prop) : Prop := ∀ (V U : jMem), Rel V U → ∃ (r : Int32) (V' : jMem) (U' : jMem), mX4_tear  V = some (r, V') ∧ mX5_tear  U = some (r, U') ∧ Rel V' U'
def op_count (Rel : jMem → jMem → Prop) : Prop := ∀ (a1 : Int32) (V U : jMem), Rel V U → ∃ (r : Int32) (V' : jMem) (U' : jMem), mX4_count a1 V = some (r, V') ∧ mX5_count a1 U = some (r, U') ∧ Rel V' U'
def op_status (Rel : jMem → jMem → Prop) : Prop := ∀ (a1 : Int32) (V U : jMem), Rel V U → ∃ (r : Int32) (V' : jMem) (U' : jMem), mX4_status a1 V = some (r, V') ∧ mX5_status a1 U = some (r, U') ∧ Rel V' U'
theorem jw_len (Z : jZ) (q : Nat → Nat) (V : jMem) (ds : List jD) : (jw Z q V ds).length = ds.length := by
  have key : ∀ (ds : List jD) (j : Nat), (jwF Z q V j ds).length = ds.length := by
    intro ds
    induction ds with
    | nil => intro j; rfl
    | cons c r ih => intro j; simp [jwF, ih]
  exact key ds 0
theorem l_first (w1 w2 : va_W) {n : Nat} (h : w1.length = n) : (List.range n).map (fun i => (w1 ++ w2)[i]?) = w1.map some := by
  subst h
  apply List.ext_getElem?
  intro i
  by_cases hi : i < w1.length
  · rw [List.getElem?_map, List.getElem?_map, List.getElem?_range hi, List.getElem?_eq_getElem hi]
    simp [List.getElem?_append_left hi, List.getElem?_eq_getElem hi]
  · rw [List.getElem?_eq_none (by simp; omega), List.getElem?_eq_none (by simp; omega)]
theorem l_second (w1 w2 : va_W) {n m : Nat} (h : w1.length = n) (h2 : w2.length = m) : ((List.range m).map (fun i => n + i)).map (fun i => (w1 ++ w2)[i]?) = w2.map some := by
  subst h
  subst h2
  apply List.ext_getElem?
  intro i
  by_cases hi : i < w2.length
  · rw [List.map_map, List.getElem?_map, List.getElem?_map, List.getElem?_range hi, List.getElem?_eq_getElem hi]
    simp [List.getElem?_append_right, List.getElem?_eq_getElem hi]
  · rw [List.getElem?_eq_none (by simp; omega), List.getElem?_eq_none (by simp; omega)]
section LW
variable {l : Launch} {Z : jZ} {nm : String}
abbrev lJ (l : Launch) (Z : jZ) (nm : String) (pc : Nat) (L : List (Nat × Value)) (S : List Value) (ws : va_W) : Prop := J l Z RL nm cL_law 4 (some .boolean) 12 600000 7302250 (fun r _ => r = some (.int 1)) pc L S ws 60 3616
theorem l_ld {pc n i k : Nat} {x : Int32} {L : List (Nat × Value)} {S : List Value} {ws : va_W} (hx : x = nI k) (hdg : decode cL_law pc = .ok (.iaload, 1)) (hn : pc + 1 = n) (h : i + k < Z.2.1 6) (hL : Z.2.1 6 < 2 ^ 31) (kk : lJ l Z nm n L (.int (Z.2.2.2.2 (i + k)) :: S) ws) : lJ l Z nm pc L (.int (nI i + x) :: .ref (Z.2.1 5) :: S) ws := by
  subst hx
  rw [nI_add]
  refine j_sld hdg hn (vp_in_nI h hL) ?_
  rw [nI_clamp (by omega)]
  exact kk
theorem l_ld0 {pc n i : Nat} {L : List (Nat × Value)} {S : List Value} {ws : va_W} (hdg : decode cL_law pc = .ok (.iaload, 1)) (hn : pc + 1 = n) (h : i < Z.2.1 6) (hL : Z.2.1 6 < 2 ^ 31) (kk : lJ l Z nm n L (.int (Z.2.2.2.2 i) :: S) ws) : lJ l Z nm pc L (.int (nI i) :: .ref (Z.2.1 5) :: S) ws := by
  refine j_sld hdg hn (vp_in_nI h hL) ?_
  rw [nI_clamp (by omega)]
  exact kk
theorem l_call_i {idx n pc j ci n1 n2 : Nat} {y : MethodName} {cc' : ByteArray} {nL' : Nat} {rt' : Option FieldType} {na d' : Nat} {As rest S : List Value} {L : List (Nat × Value)} {x : Int32} {V V' : jMem} {q : Nat → Nat} {ds : List jD} {fs : List Nat} {rc : vw_C} {w2 : va_W} (hd1 : ds.length = n1) (hw2 : w2.length = n2) (hr1 : va_nd (List.range n1) = true) (hr2 : va_nd ((List.range n2).map (fun i => n1 + i)) = true)
    (hM : jM RL idx y cc' nL' rt' na ∧ Cond.instanceMethod y ∈ jT ∧ Cond.selects y.cls y y ∈ jT) (hdg : decode cL_law pc = .ok (.invokevirtual idx, 3)) (hn : pc + 3 = n) (hCt : CtD l Z y cc' nL' rt' d' q ds (.ref (q j) :: As) V (some (.int x)) V') (hd0 : ds[j]? = some (.inl (ci, fs))) (hc0 : vwCl[ci]? = some rc) (hC0 : rc.1 = y.cls)
    (hna : As.length = na) (hS0 : S = As.reverse ++ .ref (q j) :: rest) (hcat : (rest.map fun v => v.category).sum ≤ 8) (hd : d' + 1 ≤ 12) (kk : lJ l Z nm n L (.int x :: rest) (w2 ++ jw Z q V' ds)) : lJ l Z nm pc L S (jw Z q V ds ++ w2) := by
  have hl1 : (jw Z q V ds).length = n1 := by rw [jw_len]; exact hd1
  have he : (jw Z q V ds ++ w2)[j]? = some (q j, .inr (ci, jfl q V j 0 fs)) := by
    rw [List.getElem?_append_left (by rw [jw_len]; exact (List.getElem?_eq_some_iff.mp hd0).1), jw_at hd0]
    rfl
  refine c_callV (wc := jw Z q V ds) (wr := w2) (List.range n1) ((List.range n2).map (fun i => n1 + i)) hM hdg hn hCt he hc0 hC0 (l_first _ _ hl1) (l_second _ _ hl1 hw2) hr1 hr2 ?_ hna hS0 hcat hd ⟨Nat.le_of_ble_eq_true rfl, Nat.le_of_ble_eq_true rfl⟩ (fun r w1 h => ?_)
  · intro i hi hi2
    obtain ⟨k, _, rfl⟩ := List.mem_map.mp hi
    have := List.mem_range.mp hi2
    omega
  · obtain ⟨rfl, rfl⟩ := h
    exact kk
theorem l_call_l {idx n pc j ci n1 n2 : Nat} {y : MethodName} {cc' : ByteArray} {nL' : Nat} {rt' : Option FieldType} {na d' : Nat} {As rest S : List Value} {L : List (Nat × Value)} {x : Int64} {V V' : jMem} {q : Nat → Nat} {ds : List jD} {fs : List Nat} {rc : vw_C} {w2 : va_W} (hd1 : ds.length = n1) (hw2 : w2.length = n2) (hr1 : va_nd (List.range n1) = true) (hr2 : va_nd ((List.range n2).map (fun i => n1 + i)) = true)
    (hM : jM RL idx y cc' nL' rt' na ∧ Cond.instanceMethod y ∈ jT ∧ Cond.selects y.cls y y ∈ jT) (hdg : decode cL_law pc = .ok (.invokevirtual idx, 3)) (hn : pc + 3 = n) (hCt : CtD l Z y cc' nL' rt' d' q ds (.ref (q j) :: As) V (some (.long x)) V') (hd0 : ds[j]? = some (.inl (ci, fs))) (hc0 : vwCl[ci]? = some rc) (hC0 : rc.1 = y.cls)
    (hna : As.length = na) (hS0 : S = As.reverse ++ .ref (q j) :: rest) (hcat : (rest.map fun v => v.category).sum ≤ 8) (hd : d' + 1 ≤ 12) (kk : lJ l Z nm n L (.long x :: rest) (w2 ++ jw Z q V' ds)) : lJ l Z nm pc L S (jw Z q V ds ++ w2) := by
  have hl1 : (jw Z q V ds).length = n1 := by rw [jw_len]; exact hd1
  have he : (jw Z q V ds ++ w2)[j]? = some (q j, .inr (ci, jfl q V j 0 fs)) := by
    rw [List.getElem?_append_left (by rw [jw_len]; exact (List.getElem?_eq_some_iff.mp hd0).1), jw_at hd0]
    rfl
  refine c_callV (wc := jw Z q V ds) (wr := w2) (List.range n1) ((List.range n2).map (fun i => n1 + i)) hM hdg hn hCt he hc0 hC0 (l_first _ _ hl1) (l_second _ _ hl1 hw2) hr1 hr2 ?_ hna hS0 hcat hd ⟨Nat.le_of_ble_eq_true rfl, Nat.le_of_ble_eq_true rfl⟩ (fun r w1 h => ?_)
  · intro i hi hi2
    obtain ⟨k, _, rfl⟩ := List.mem_map.mp hi
    have := List.mem_range.mp hi2
    omega
  · obtain ⟨rfl, rfl⟩ := h
    exact kk
end LW
theorem l_nd48 : va_nd (List.range 48) = true := by decide +kernel
theorem l_nd12 : va_nd (List.range 12) = true := by decide +kernel
theorem l_nd48b : va_nd ((List.range 48).map (fun i => 12 + i)) = true := by decide +kernel
theorem l_nd12b : va_nd ((List.range 12).map (fun i => 48 + i)) = true := by decide +kernel
theorem dL_law_0 : decode cL_law 0 = .ok (.new 7, 3) := by decide +kernel
theorem dL_law_3 : decode cL_law 3 = .ok (.dup, 1) := by decide +kernel
theorem dL_law_4 : decode cL_law 4 = .ok (.invokespecial 9, 3) := by decide +kernel
theorem dL_law_7 : decode cL_law 7 = .ok (.astore_n 1, 1) := by decide +kernel
theorem dL_law_8 : decode cL_law 8 = .ok (.new 10, 3) := by decide +kernel
theorem dL_law_11 : decode cL_law 11 = .ok (.dup, 1) := by decide +kernel
theorem dL_law_12 : decode cL_law 12 = .ok (.invokespecial 12, 3) := by decide +kernel
theorem dL_law_15 : decode cL_law 15 = .ok (.astore_n 2, 1) := by decide +kernel
theorem dL_law_16 : decode cL_law 16 = .ok (.iconst 0, 1) := by decide +kernel
theorem dL_law_17 : decode cL_law 17 = .ok (.istore_n 3, 1) := by decide +kernel
theorem dL_law_18 : decode cL_law 18 = .ok (.iload_n 3, 1) := by decide +kernel
theorem dL_law_19 : decode cL_law 19 = .ok (.aload_n 0, 1) := by decide +kernel
theorem dL_law_20 : decode cL_law 20 = .ok (.arraylength, 1) := by decide +kernel
theorem dL_law_21 : decode cL_law 21 = .ok (.bipush 6, 2) := by decide +kernel
theorem dL_law_23 : decode cL_law 23 = .ok (.isub, 1) := by decide +kernel
theorem dL_law_24 : decode cL_law 24 = .ok (.if_icmp .gt 1303, 3) := by decide +kernel
theorem dL_law_27 : decode cL_law 27 = .ok (.aload_n 0, 1) := by decide +kernel
theorem dL_law_28 : decode cL_law 28 = .ok (.iload_n 3, 1) := by decide +kernel
theorem dL_law_29 : decode cL_law 29 = .ok (.iaload, 1) := by decide +kernel
theorem dL_law_30 : decode cL_law 30 = .ok (.bipush 63, 2) := by decide +kernel
theorem dL_law_32 : decode cL_law 32 = .ok (.iand, 1) := by decide +kernel
theorem dL_law_33 : decode cL_law 33 = .ok (.tableswitch 1288 0 39 #[175, 208, 241, 284, 317, 350, 383, 416, 449, 482, 505, 528, 541, 564, 588, 621, 654, 667, 690, 723, 736, 769, 792, 815, 858, 871, 894, 927, 940, 953, 996, 1070, 1133, 1157, 1180, 1203, 1216, 1229, 1242, 1265], 175) := by decide +kernel
theorem dL_law_208 : decode cL_law 208 = .ok (.aload_n 1, 1) := by decide +kernel
theorem dL_law_209 : decode cL_law 209 = .ok (.aload_n 0, 1) := by decide +kernel
theorem dL_law_210 : decode cL_law 210 = .ok (.iload_n 3, 1) := by decide +kernel
theorem dL_law_211 : decode cL_law 211 = .ok (.iconst 1, 1) := by decide +kernel
theorem dL_law_212 : decode cL_law 212 = .ok (.iadd, 1) := by decide +kernel
theorem dL_law_213 : decode cL_law 213 = .ok (.iaload, 1) := by decide +kernel
theorem dL_law_214 : decode cL_law 214 = .ok (.aload_n 0, 1) := by decide +kernel
theorem dL_law_215 : decode cL_law 215 = .ok (.iload_n 3, 1) := by decide +kernel
theorem dL_law_216 : decode cL_law 216 = .ok (.iconst 2, 1) := by decide +kernel
theorem dL_law_217 : decode cL_law 217 = .ok (.iadd, 1) := by decide +kernel
theorem dL_law_218 : decode cL_law 218 = .ok (.iaload, 1) := by decide +kernel
theorem dL_law_219 : decode cL_law 219 = .ok (.invokevirtual 13, 3) := by decide +kernel
theorem dL_law_222 : decode cL_law 222 = .ok (.aload_n 2, 1) := by decide +kernel
theorem dL_law_223 : decode cL_law 223 = .ok (.aload_n 0, 1) := by decide +kernel
theorem dL_law_224 : decode cL_law 224 = .ok (.iload_n 3, 1) := by decide +kernel
theorem dL_law_225 : decode cL_law 225 = .ok (.iconst 1, 1) := by decide +kernel
theorem dL_law_226 : decode cL_law 226 = .ok (.iadd, 1) := by decide +kernel
theorem dL_law_227 : decode cL_law 227 = .ok (.iaload, 1) := by decide +kernel
theorem dL_law_228 : decode cL_law 228 = .ok (.aload_n 0, 1) := by decide +kernel
theorem dL_law_229 : decode cL_law 229 = .ok (.iload_n 3, 1) := by decide +kernel
theorem dL_law_230 : decode cL_law 230 = .ok (.iconst 2, 1) := by decide +kernel
theorem dL_law_231 : decode cL_law 231 = .ok (.iadd, 1) := by decide +kernel
theorem dL_law_232 : decode cL_law 232 = .ok (.iaload, 1) := by decide +kernel
theorem dL_law_233 : decode cL_law 233 = .ok (.invokevirtual 17, 3) := by decide +kernel
theorem dL_law_236 : decode cL_law 236 = .ok (.if_icmp .eq 1085, 3) := by decide +kernel
theorem dL_law_239 : decode cL_law 239 = .ok (.iconst 0, 1) := by decide +kernel
theorem dL_law_240 : decode cL_law 240 = .ok (.ireturn, 1) := by decide +kernel
theorem dL_law_241 : decode cL_law 241 = .ok (.aload_n 1, 1) := by decide +kernel
theorem dL_law_242 : decode cL_law 242 = .ok (.aload_n 0, 1) := by decide +kernel
theorem dL_law_243 : decode cL_law 243 = .ok (.iload_n 3, 1) := by decide +kernel
theorem dL_law_244 : decode cL_law 244 = .ok (.iconst 1, 1) := by decide +kernel
theorem dL_law_245 : decode cL_law 245 = .ok (.iadd, 1) := by decide +kernel
theorem dL_law_246 : decode cL_law 246 = .ok (.iaload, 1) := by decide +kernel
theorem dL_law_247 : decode cL_law 247 = .ok (.aload_n 0, 1) := by decide +kernel
theorem dL_law_248 : decode cL_law 248 = .ok (.iload_n 3, 1) := by decide +kernel
theorem dL_law_249 : decode cL_law 249 = .ok (.iconst 2, 1) := by decide +kernel
theorem dL_law_250 : decode cL_law 250 = .ok (.iadd, 1) := by decide +kernel
theorem dL_law_251 : decode cL_law 251 = .ok (.iaload, 1) := by decide +kernel
theorem dL_law_252 : decode cL_law 252 = .ok (.invokevirtual 18, 3) := by decide +kernel
theorem dL_law_255 : decode cL_law 255 = .ok (.aload_n 2, 1) := by decide +kernel
theorem dL_law_256 : decode cL_law 256 = .ok (.aload_n 0, 1) := by decide +kernel
theorem dL_law_257 : decode cL_law 257 = .ok (.iload_n 3, 1) := by decide +kernel
theorem dL_law_258 : decode cL_law 258 = .ok (.iconst 1, 1) := by decide +kernel
theorem dL_law_259 : decode cL_law 259 = .ok (.iadd, 1) := by decide +kernel
theorem dL_law_260 : decode cL_law 260 = .ok (.iaload, 1) := by decide +kernel
theorem dL_law_261 : decode cL_law 261 = .ok (.aload_n 0, 1) := by decide +kernel
theorem dL_law_262 : decode cL_law 262 = .ok (.iload_n 3, 1) := by decide +kernel
theorem dL_law_263 : decode cL_law 263 = .ok (.iconst 2, 1) := by decide +kernel
theorem dL_law_264 : decode cL_law 264 = .ok (.iadd, 1) := by decide +kernel
theorem dL_law_265 : decode cL_law 265 = .ok (.iaload, 1) := by decide +kernel
theorem dL_law_266 : decode cL_law 266 = .ok (.invokevirtual 21, 3) := by decide +kernel
theorem dL_law_269 : decode cL_law 269 = .ok (.if_icmp .eq 1052, 3) := by decide +kernel
theorem dL_law_272 : decode cL_law 272 = .ok (.iconst 0, 1) := by decide +kernel
theorem dL_law_273 : decode cL_law 273 = .ok (.ireturn, 1) := by decide +kernel
theorem dL_law_274 : decode cL_law 274 = .ok (.aload_n 1, 1) := by decide +kernel
theorem dL_law_275 : decode cL_law 275 = .ok (.aload_n 0, 1) := by decide +kernel
theorem dL_law_276 : decode cL_law 276 = .ok (.iload_n 3, 1) := by decide +kernel
theorem dL_law_277 : decode cL_law 277 = .ok (.iconst 1, 1) := by decide +kernel
theorem dL_law_278 : decode cL_law 278 = .ok (.iadd, 1) := by decide +kernel
theorem dL_law_279 : decode cL_law 279 = .ok (.iaload, 1) := by decide +kernel
theorem dL_law_280 : decode cL_law 280 = .ok (.aload_n 0, 1) := by decide +kernel
theorem dL_law_281 : decode cL_law 281 = .ok (.iload_n 3, 1) := by decide +kernel
theorem dL_law_282 : decode cL_law 282 = .ok (.iconst 2, 1) := by decide +kernel
theorem dL_law_283 : decode cL_law 283 = .ok (.iadd, 1) := by decide +kernel
theorem dL_law_284 : decode cL_law 284 = .ok (.iaload, 1) := by decide +kernel
theorem dL_law_285 : decode cL_law 285 = .ok (.aload_n 0, 1) := by decide +kernel
theorem dL_law_286 : decode cL_law 286 = .ok (.iload_n 3, 1) := by decide +kernel
theorem dL_law_287 : decode cL_law 287 = .ok (.iconst 3, 1) := by decide +kernel
theorem dL_law_288 : decode cL_law 288 = .ok (.iadd, 1) := by decide +kernel
theorem dL_law_289 : decode cL_law 289 = .ok (.iaload, 1) := by decide +kernel
theorem dL_law_290 : decode cL_law 290 = .ok (.invokevirtual 22, 3) := by decide +kernel
theorem dL_law_293 : decode cL_law 293 = .ok (.aload_n 2, 1) := by decide +kernel
theorem dL_law_294 : decode cL_law 294 = .ok (.aload_n 0, 1) := by decide +kernel
theorem dL_law_295 : decode cL_law 295 = .ok (.iload_n 3, 1) := by decide +kernel
theorem dL_law_296 : decode cL_law 296 = .ok (.iconst 1, 1) := by decide +kernel
theorem dL_law_297 : decode cL_law 297 = .ok (.iadd, 1) := by decide +kernel
theorem dL_law_298 : decode cL_law 298 = .ok (.iaload, 1) := by decide +kernel
theorem dL_law_299 : decode cL_law 299 = .ok (.aload_n 0, 1) := by decide +kernel
theorem dL_law_300 : decode cL_law 300 = .ok (.iload_n 3, 1) := by decide +kernel
theorem dL_law_301 : decode cL_law 301 = .ok (.iconst 2, 1) := by decide +kernel
theorem dL_law_302 : decode cL_law 302 = .ok (.iadd, 1) := by decide +kernel
theorem dL_law_303 : decode cL_law 303 = .ok (.iaload, 1) := by decide +kernel
theorem dL_law_304 : decode cL_law 304 = .ok (.aload_n 0, 1) := by decide +kernel
theorem dL_law_305 : decode cL_law 305 = .ok (.iload_n 3, 1) := by decide +kernel
theorem dL_law_306 : decode cL_law 306 = .ok (.iconst 3, 1) := by decide +kernel
theorem dL_law_307 : decode cL_law 307 = .ok (.iadd, 1) := by decide +kernel
theorem dL_law_308 : decode cL_law 308 = .ok (.iaload, 1) := by decide +kernel
theorem dL_law_309 : decode cL_law 309 = .ok (.invokevirtual 26, 3) := by decide +kernel
theorem dL_law_312 : decode cL_law 312 = .ok (.if_icmp .eq 1009, 3) := by decide +kernel
theorem dL_law_315 : decode cL_law 315 = .ok (.iconst 0, 1) := by decide +kernel
theorem dL_law_316 : decode cL_law 316 = .ok (.ireturn, 1) := by decide +kernel
theorem dL_law_317 : decode cL_law 317 = .ok (.aload_n 1, 1) := by decide +kernel
theorem dL_law_318 : decode cL_law 318 = .ok (.aload_n 0, 1) := by decide +kernel
theorem dL_law_319 : decode cL_law 319 = .ok (.iload_n 3, 1) := by decide +kernel
theorem dL_law_320 : decode cL_law 320 = .ok (.iconst 1, 1) := by decide +kernel
theorem dL_law_321 : decode cL_law 321 = .ok (.iadd, 1) := by decide +kernel
theorem dL_law_322 : decode cL_law 322 = .ok (.iaload, 1) := by decide +kernel
theorem dL_law_323 : decode cL_law 323 = .ok (.aload_n 0, 1) := by decide +kernel
theorem dL_law_324 : decode cL_law 324 = .ok (.iload_n 3, 1) := by decide +kernel
theorem dL_law_325 : decode cL_law 325 = .ok (.iconst 2, 1) := by decide +kernel
theorem dL_law_326 : decode cL_law 326 = .ok (.iadd, 1) := by decide +kernel
theorem dL_law_327 : decode cL_law 327 = .ok (.iaload, 1) := by decide +kernel
theorem dL_law_328 : decode cL_law 328 = .ok (.invokevirtual 27, 3) := by decide +kernel
theorem dL_law_331 : decode cL_law 331 = .ok (.aload_n 2, 1) := by decide +kernel
theorem dL_law_332 : decode cL_law 332 = .ok (.aload_n 0, 1) := by decide +kernel
theorem dL_law_333 : decode cL_law 333 = .ok (.iload_n 3, 1) := by decide +kernel
theorem dL_law_334 : decode cL_law 334 = .ok (.iconst 1, 1) := by decide +kernel
theorem dL_law_335 : decode cL_law 335 = .ok (.iadd, 1) := by decide +kernel
theorem dL_law_336 : decode cL_law 336 = .ok (.iaload, 1) := by decide +kernel
theorem dL_law_337 : decode cL_law 337 = .ok (.aload_n 0, 1) := by decide +kernel
theorem dL_law_338 : decode cL_law 338 = .ok (.iload_n 3, 1) := by decide +kernel
theorem dL_law_339 : decode cL_law 339 = .ok (.iconst 2, 1) := by decide +kernel
theorem dL_law_340 : decode cL_law 340 = .ok (.iadd, 1) := by decide +kernel
theorem dL_law_341 : decode cL_law 341 = .ok (.iaload, 1) := by decide +kernel
theorem dL_law_342 : decode cL_law 342 = .ok (.invokevirtual 30, 3) := by decide +kernel
theorem dL_law_345 : decode cL_law 345 = .ok (.if_icmp .eq 976, 3) := by decide +kernel
theorem dL_law_348 : decode cL_law 348 = .ok (.iconst 0, 1) := by decide +kernel
theorem dL_law_349 : decode cL_law 349 = .ok (.ireturn, 1) := by decide +kernel
theorem dL_law_350 : decode cL_law 350 = .ok (.aload_n 1, 1) := by decide +kernel
theorem dL_law_351 : decode cL_law 351 = .ok (.aload_n 0, 1) := by decide +kernel
theorem dL_law_352 : decode cL_law 352 = .ok (.iload_n 3, 1) := by decide +kernel
theorem dL_law_353 : decode cL_law 353 = .ok (.iconst 1, 1) := by decide +kernel
theorem dL_law_354 : decode cL_law 354 = .ok (.iadd, 1) := by decide +kernel
theorem dL_law_355 : decode cL_law 355 = .ok (.iaload, 1) := by decide +kernel
theorem dL_law_356 : decode cL_law 356 = .ok (.aload_n 0, 1) := by decide +kernel
theorem dL_law_357 : decode cL_law 357 = .ok (.iload_n 3, 1) := by decide +kernel
theorem dL_law_358 : decode cL_law 358 = .ok (.iconst 2, 1) := by decide +kernel
theorem dL_law_359 : decode cL_law 359 = .ok (.iadd, 1) := by decide +kernel
theorem dL_law_360 : decode cL_law 360 = .ok (.iaload, 1) := by decide +kernel
theorem dL_law_361 : decode cL_law 361 = .ok (.invokevirtual 31, 3) := by decide +kernel
theorem dL_law_364 : decode cL_law 364 = .ok (.aload_n 2, 1) := by decide +kernel
theorem dL_law_365 : decode cL_law 365 = .ok (.aload_n 0, 1) := by decide +kernel
theorem dL_law_366 : decode cL_law 366 = .ok (.iload_n 3, 1) := by decide +kernel
theorem dL_law_367 : decode cL_law 367 = .ok (.iconst 1, 1) := by decide +kernel
theorem dL_law_368 : decode cL_law 368 = .ok (.iadd, 1) := by decide +kernel
theorem dL_law_369 : decode cL_law 369 = .ok (.iaload, 1) := by decide +kernel
theorem dL_law_370 : decode cL_law 370 = .ok (.aload_n 0, 1) := by decide +kernel
theorem dL_law_371 : decode cL_law 371 = .ok (.iload_n 3, 1) := by decide +kernel
theorem dL_law_372 : decode cL_law 372 = .ok (.iconst 2, 1) := by decide +kernel
theorem dL_law_373 : decode cL_law 373 = .ok (.iadd, 1) := by decide +kernel
theorem dL_law_374 : decode cL_law 374 = .ok (.iaload, 1) := by decide +kernel
theorem dL_law_375 : decode cL_law 375 = .ok (.invokevirtual 34, 3) := by decide +kernel
theorem dL_law_378 : decode cL_law 378 = .ok (.if_icmp .eq 943, 3) := by decide +kernel
theorem dL_law_381 : decode cL_law 381 = .ok (.iconst 0, 1) := by decide +kernel
theorem dL_law_382 : decode cL_law 382 = .ok (.ireturn, 1) := by decide +kernel
theorem dL_law_383 : decode cL_law 383 = .ok (.aload_n 1, 1) := by decide +kernel
theorem dL_law_384 : decode cL_law 384 = .ok (.aload_n 0, 1) := by decide +kernel
theorem dL_law_385 : decode cL_law 385 = .ok (.iload_n 3, 1) := by decide +kernel
theorem dL_law_386 : decode cL_law 386 = .ok (.iconst 1, 1) := by decide +kernel
theorem dL_law_387 : decode cL_law 387 = .ok (.iadd, 1) := by decide +kernel
theorem dL_law_388 : decode cL_law 388 = .ok (.iaload, 1) := by decide +kernel
theorem dL_law_389 : decode cL_law 389 = .ok (.aload_n 0, 1) := by decide +kernel
theorem dL_law_390 : decode cL_law 390 = .ok (.iload_n 3, 1) := by decide +kernel
theorem dL_law_391 : decode cL_law 391 = .ok (.iconst 2, 1) := by decide +kernel
theorem dL_law_392 : decode cL_law 392 = .ok (.iadd, 1) := by decide +kernel
theorem dL_law_393 : decode cL_law 393 = .ok (.iaload, 1) := by decide +kernel
theorem dL_law_394 : decode cL_law 394 = .ok (.invokevirtual 35, 3) := by decide +kernel
theorem dL_law_397 : decode cL_law 397 = .ok (.aload_n 2, 1) := by decide +kernel
theorem dL_law_398 : decode cL_law 398 = .ok (.aload_n 0, 1) := by decide +kernel
theorem dL_law_399 : decode cL_law 399 = .ok (.iload_n 3, 1) := by decide +kernel
theorem dL_law_400 : decode cL_law 400 = .ok (.iconst 1, 1) := by decide +kernel
theorem dL_law_401 : decode cL_law 401 = .ok (.iadd, 1) := by decide +kernel
theorem dL_law_402 : decode cL_law 402 = .ok (.iaload, 1) := by decide +kernel
theorem dL_law_403 : decode cL_law 403 = .ok (.aload_n 0, 1) := by decide +kernel
theorem dL_law_404 : decode cL_law 404 = .ok (.iload_n 3, 1) := by decide +kernel
theorem dL_law_405 : decode cL_law 405 = .ok (.iconst 2, 1) := by decide +kernel
theorem dL_law_406 : decode cL_law 406 = .ok (.iadd, 1) := by decide +kernel
theorem dL_law_407 : decode cL_law 407 = .ok (.iaload, 1) := by decide +kernel
theorem dL_law_408 : decode cL_law 408 = .ok (.invokevirtual 38, 3) := by decide +kernel
theorem dL_law_411 : decode cL_law 411 = .ok (.if_icmp .eq 910, 3) := by decide +kernel
theorem dL_law_414 : decode cL_law 414 = .ok (.iconst 0, 1) := by decide +kernel
theorem dL_law_415 : decode cL_law 415 = .ok (.ireturn, 1) := by decide +kernel
theorem dL_law_416 : decode cL_law 416 = .ok (.aload_n 1, 1) := by decide +kernel
theorem dL_law_417 : decode cL_law 417 = .ok (.aload_n 0, 1) := by decide +kernel
theorem dL_law_418 : decode cL_law 418 = .ok (.iload_n 3, 1) := by decide +kernel
theorem dL_law_419 : decode cL_law 419 = .ok (.iconst 1, 1) := by decide +kernel
theorem dL_law_420 : decode cL_law 420 = .ok (.iadd, 1) := by decide +kernel
theorem dL_law_421 : decode cL_law 421 = .ok (.iaload, 1) := by decide +kernel
theorem dL_law_422 : decode cL_law 422 = .ok (.aload_n 0, 1) := by decide +kernel
theorem dL_law_423 : decode cL_law 423 = .ok (.iload_n 3, 1) := by decide +kernel
theorem dL_law_424 : decode cL_law 424 = .ok (.iconst 2, 1) := by decide +kernel
theorem dL_law_425 : decode cL_law 425 = .ok (.iadd, 1) := by decide +kernel
theorem dL_law_426 : decode cL_law 426 = .ok (.iaload, 1) := by decide +kernel
theorem dL_law_427 : decode cL_law 427 = .ok (.invokevirtual 39, 3) := by decide +kernel
theorem dL_law_430 : decode cL_law 430 = .ok (.aload_n 2, 1) := by decide +kernel
theorem dL_law_431 : decode cL_law 431 = .ok (.aload_n 0, 1) := by decide +kernel
theorem dL_law_432 : decode cL_law 432 = .ok (.iload_n 3, 1) := by decide +kernel
theorem dL_law_433 : decode cL_law 433 = .ok (.iconst 1, 1) := by decide +kernel
theorem dL_law_434 : decode cL_law 434 = .ok (.iadd, 1) := by decide +kernel
theorem dL_law_435 : decode cL_law 435 = .ok (.iaload, 1) := by decide +kernel
theorem dL_law_436 : decode cL_law 436 = .ok (.aload_n 0, 1) := by decide +kernel
theorem dL_law_437 : decode cL_law 437 = .ok (.iload_n 3, 1) := by decide +kernel
theorem dL_law_438 : decode cL_law 438 = .ok (.iconst 2, 1) := by decide +kernel
theorem dL_law_439 : decode cL_law 439 = .ok (.iadd, 1) := by decide +kernel
theorem dL_law_440 : decode cL_law 440 = .ok (.iaload, 1) := by decide +kernel
theorem dL_law_441 : decode cL_law 441 = .ok (.invokevirtual 42, 3) := by decide +kernel
theorem dL_law_444 : decode cL_law 444 = .ok (.if_icmp .eq 877, 3) := by decide +kernel
theorem dL_law_447 : decode cL_law 447 = .ok (.iconst 0, 1) := by decide +kernel
theorem dL_law_448 : decode cL_law 448 = .ok (.ireturn, 1) := by decide +kernel
theorem dL_law_449 : decode cL_law 449 = .ok (.aload_n 1, 1) := by decide +kernel
theorem dL_law_450 : decode cL_law 450 = .ok (.aload_n 0, 1) := by decide +kernel
theorem dL_law_451 : decode cL_law 451 = .ok (.iload_n 3, 1) := by decide +kernel
theorem dL_law_452 : decode cL_law 452 = .ok (.iconst 1, 1) := by decide +kernel
theorem dL_law_453 : decode cL_law 453 = .ok (.iadd, 1) := by decide +kernel
theorem dL_law_454 : decode cL_law 454 = .ok (.iaload, 1) := by decide +kernel
theorem dL_law_455 : decode cL_law 455 = .ok (.aload_n 0, 1) := by decide +kernel
theorem dL_law_456 : decode cL_law 456 = .ok (.iload_n 3, 1) := by decide +kernel
theorem dL_law_457 : decode cL_law 457 = .ok (.iconst 2, 1) := by decide +kernel
theorem dL_law_458 : decode cL_law 458 = .ok (.iadd, 1) := by decide +kernel
theorem dL_law_459 : decode cL_law 459 = .ok (.iaload, 1) := by decide +kernel
theorem dL_law_460 : decode cL_law 460 = .ok (.invokevirtual 43, 3) := by decide +kernel
theorem dL_law_463 : decode cL_law 463 = .ok (.aload_n 2, 1) := by decide +kernel
theorem dL_law_464 : decode cL_law 464 = .ok (.aload_n 0, 1) := by decide +kernel
theorem dL_law_465 : decode cL_law 465 = .ok (.iload_n 3, 1) := by decide +kernel
theorem dL_law_466 : decode cL_law 466 = .ok (.iconst 1, 1) := by decide +kernel
theorem dL_law_467 : decode cL_law 467 = .ok (.iadd, 1) := by decide +kernel
theorem dL_law_468 : decode cL_law 468 = .ok (.iaload, 1) := by decide +kernel
theorem dL_law_469 : decode cL_law 469 = .ok (.aload_n 0, 1) := by decide +kernel
theorem dL_law_470 : decode cL_law 470 = .ok (.iload_n 3, 1) := by decide +kernel
theorem dL_law_471 : decode cL_law 471 = .ok (.iconst 2, 1) := by decide +kernel
theorem dL_law_472 : decode cL_law 472 = .ok (.iadd, 1) := by decide +kernel
theorem dL_law_473 : decode cL_law 473 = .ok (.iaload, 1) := by decide +kernel
theorem dL_law_474 : decode cL_law 474 = .ok (.invokevirtual 46, 3) := by decide +kernel
theorem dL_law_477 : decode cL_law 477 = .ok (.if_icmp .eq 844, 3) := by decide +kernel
theorem dL_law_480 : decode cL_law 480 = .ok (.iconst 0, 1) := by decide +kernel
theorem dL_law_481 : decode cL_law 481 = .ok (.ireturn, 1) := by decide +kernel
theorem dL_law_482 : decode cL_law 482 = .ok (.aload_n 1, 1) := by decide +kernel
theorem dL_law_483 : decode cL_law 483 = .ok (.aload_n 0, 1) := by decide +kernel
theorem dL_law_484 : decode cL_law 484 = .ok (.iload_n 3, 1) := by decide +kernel
theorem dL_law_485 : decode cL_law 485 = .ok (.iconst 1, 1) := by decide +kernel
theorem dL_law_486 : decode cL_law 486 = .ok (.iadd, 1) := by decide +kernel
theorem dL_law_487 : decode cL_law 487 = .ok (.iaload, 1) := by decide +kernel
theorem dL_law_488 : decode cL_law 488 = .ok (.aload_n 0, 1) := by decide +kernel
theorem dL_law_489 : decode cL_law 489 = .ok (.iload_n 3, 1) := by decide +kernel
theorem dL_law_490 : decode cL_law 490 = .ok (.iconst 2, 1) := by decide +kernel
theorem dL_law_491 : decode cL_law 491 = .ok (.iadd, 1) := by decide +kernel
theorem dL_law_492 : decode cL_law 492 = .ok (.iaload, 1) := by decide +kernel
theorem dL_law_493 : decode cL_law 493 = .ok (.invokevirtual 47, 3) := by decide +kernel
theorem dL_law_496 : decode cL_law 496 = .ok (.aload_n 2, 1) := by decide +kernel
theorem dL_law_497 : decode cL_law 497 = .ok (.aload_n 0, 1) := by decide +kernel
theorem dL_law_498 : decode cL_law 498 = .ok (.iload_n 3, 1) := by decide +kernel
theorem dL_law_499 : decode cL_law 499 = .ok (.iconst 1, 1) := by decide +kernel
theorem dL_law_500 : decode cL_law 500 = .ok (.iadd, 1) := by decide +kernel
theorem dL_law_501 : decode cL_law 501 = .ok (.iaload, 1) := by decide +kernel
theorem dL_law_502 : decode cL_law 502 = .ok (.aload_n 0, 1) := by decide +kernel
theorem dL_law_503 : decode cL_law 503 = .ok (.iload_n 3, 1) := by decide +kernel
theorem dL_law_504 : decode cL_law 504 = .ok (.iconst 2, 1) := by decide +kernel
theorem dL_law_505 : decode cL_law 505 = .ok (.iadd, 1) := by decide +kernel
theorem dL_law_506 : decode cL_law 506 = .ok (.iaload, 1) := by decide +kernel
theorem dL_law_507 : decode cL_law 507 = .ok (.invokevirtual 50, 3) := by decide +kernel
theorem dL_law_510 : decode cL_law 510 = .ok (.if_icmp .eq 811, 3) := by decide +kernel
theorem dL_law_513 : decode cL_law 513 = .ok (.iconst 0, 1) := by decide +kernel
theorem dL_law_514 : decode cL_law 514 = .ok (.ireturn, 1) := by decide +kernel
theorem dL_law_515 : decode cL_law 515 = .ok (.aload_n 1, 1) := by decide +kernel
theorem dL_law_516 : decode cL_law 516 = .ok (.aload_n 0, 1) := by decide +kernel
theorem dL_law_517 : decode cL_law 517 = .ok (.iload_n 3, 1) := by decide +kernel
theorem dL_law_518 : decode cL_law 518 = .ok (.iconst 1, 1) := by decide +kernel
theorem dL_law_519 : decode cL_law 519 = .ok (.iadd, 1) := by decide +kernel
theorem dL_law_520 : decode cL_law 520 = .ok (.iaload, 1) := by decide +kernel
theorem dL_law_521 : decode cL_law 521 = .ok (.invokevirtual 51, 3) := by decide +kernel
theorem dL_law_524 : decode cL_law 524 = .ok (.aload_n 2, 1) := by decide +kernel
theorem dL_law_525 : decode cL_law 525 = .ok (.aload_n 0, 1) := by decide +kernel
theorem dL_law_526 : decode cL_law 526 = .ok (.iload_n 3, 1) := by decide +kernel
theorem dL_law_527 : decode cL_law 527 = .ok (.iconst 1, 1) := by decide +kernel
theorem dL_law_528 : decode cL_law 528 = .ok (.iadd, 1) := by decide +kernel
theorem dL_law_529 : decode cL_law 529 = .ok (.iaload, 1) := by decide +kernel
theorem dL_law_530 : decode cL_law 530 = .ok (.invokevirtual 55, 3) := by decide +kernel
theorem dL_law_533 : decode cL_law 533 = .ok (.if_icmp .eq 788, 3) := by decide +kernel
theorem dL_law_536 : decode cL_law 536 = .ok (.iconst 0, 1) := by decide +kernel
theorem dL_law_537 : decode cL_law 537 = .ok (.ireturn, 1) := by decide +kernel
theorem dL_law_538 : decode cL_law 538 = .ok (.aload_n 1, 1) := by decide +kernel
theorem dL_law_539 : decode cL_law 539 = .ok (.aload_n 0, 1) := by decide +kernel
theorem dL_law_540 : decode cL_law 540 = .ok (.iload_n 3, 1) := by decide +kernel
theorem dL_law_541 : decode cL_law 541 = .ok (.iconst 1, 1) := by decide +kernel
theorem dL_law_542 : decode cL_law 542 = .ok (.iadd, 1) := by decide +kernel
theorem dL_law_543 : decode cL_law 543 = .ok (.iaload, 1) := by decide +kernel
theorem dL_law_544 : decode cL_law 544 = .ok (.invokevirtual 56, 3) := by decide +kernel
theorem dL_law_547 : decode cL_law 547 = .ok (.aload_n 2, 1) := by decide +kernel
theorem dL_law_548 : decode cL_law 548 = .ok (.aload_n 0, 1) := by decide +kernel
theorem dL_law_549 : decode cL_law 549 = .ok (.iload_n 3, 1) := by decide +kernel
theorem dL_law_550 : decode cL_law 550 = .ok (.iconst 1, 1) := by decide +kernel
theorem dL_law_551 : decode cL_law 551 = .ok (.iadd, 1) := by decide +kernel
theorem dL_law_552 : decode cL_law 552 = .ok (.iaload, 1) := by decide +kernel
theorem dL_law_553 : decode cL_law 553 = .ok (.invokevirtual 59, 3) := by decide +kernel
theorem dL_law_556 : decode cL_law 556 = .ok (.if_icmp .eq 765, 3) := by decide +kernel
theorem dL_law_559 : decode cL_law 559 = .ok (.iconst 0, 1) := by decide +kernel
theorem dL_law_560 : decode cL_law 560 = .ok (.ireturn, 1) := by decide +kernel
theorem dL_law_561 : decode cL_law 561 = .ok (.aload_n 1, 1) := by decide +kernel
theorem dL_law_562 : decode cL_law 562 = .ok (.invokevirtual 60, 3) := by decide +kernel
theorem dL_law_565 : decode cL_law 565 = .ok (.aload_n 2, 1) := by decide +kernel
theorem dL_law_566 : decode cL_law 566 = .ok (.invokevirtual 64, 3) := by decide +kernel
theorem dL_law_569 : decode cL_law 569 = .ok (.if_icmp .eq 752, 3) := by decide +kernel
theorem dL_law_572 : decode cL_law 572 = .ok (.iconst 0, 1) := by decide +kernel
theorem dL_law_573 : decode cL_law 573 = .ok (.ireturn, 1) := by decide +kernel
theorem dL_law_574 : decode cL_law 574 = .ok (.aload_n 1, 1) := by decide +kernel
theorem dL_law_575 : decode cL_law 575 = .ok (.aload_n 0, 1) := by decide +kernel
theorem dL_law_576 : decode cL_law 576 = .ok (.iload_n 3, 1) := by decide +kernel
theorem dL_law_577 : decode cL_law 577 = .ok (.iconst 1, 1) := by decide +kernel
theorem dL_law_578 : decode cL_law 578 = .ok (.iadd, 1) := by decide +kernel
theorem dL_law_579 : decode cL_law 579 = .ok (.iaload, 1) := by decide +kernel
theorem dL_law_580 : decode cL_law 580 = .ok (.invokevirtual 65, 3) := by decide +kernel
theorem dL_law_583 : decode cL_law 583 = .ok (.aload_n 2, 1) := by decide +kernel
theorem dL_law_584 : decode cL_law 584 = .ok (.aload_n 0, 1) := by decide +kernel
theorem dL_law_585 : decode cL_law 585 = .ok (.iload_n 3, 1) := by decide +kernel
theorem dL_law_586 : decode cL_law 586 = .ok (.iconst 1, 1) := by decide +kernel
theorem dL_law_587 : decode cL_law 587 = .ok (.iadd, 1) := by decide +kernel
theorem dL_law_588 : decode cL_law 588 = .ok (.iaload, 1) := by decide +kernel
theorem dL_law_589 : decode cL_law 589 = .ok (.invokevirtual 68, 3) := by decide +kernel
theorem dL_law_592 : decode cL_law 592 = .ok (.if_icmp .eq 729, 3) := by decide +kernel
theorem dL_law_595 : decode cL_law 595 = .ok (.iconst 0, 1) := by decide +kernel
theorem dL_law_596 : decode cL_law 596 = .ok (.ireturn, 1) := by decide +kernel
theorem dL_law_597 : decode cL_law 597 = .ok (.aload_n 1, 1) := by decide +kernel
theorem dL_law_598 : decode cL_law 598 = .ok (.aload_n 0, 1) := by decide +kernel
theorem dL_law_599 : decode cL_law 599 = .ok (.iload_n 3, 1) := by decide +kernel
theorem dL_law_600 : decode cL_law 600 = .ok (.iconst 1, 1) := by decide +kernel
theorem dL_law_601 : decode cL_law 601 = .ok (.iadd, 1) := by decide +kernel
theorem dL_law_602 : decode cL_law 602 = .ok (.iaload, 1) := by decide +kernel
theorem dL_law_603 : decode cL_law 603 = .ok (.invokevirtual 69, 3) := by decide +kernel
theorem dL_law_606 : decode cL_law 606 = .ok (.aload_n 2, 1) := by decide +kernel
theorem dL_law_607 : decode cL_law 607 = .ok (.aload_n 0, 1) := by decide +kernel
theorem dL_law_608 : decode cL_law 608 = .ok (.iload_n 3, 1) := by decide +kernel
theorem dL_law_609 : decode cL_law 609 = .ok (.iconst 1, 1) := by decide +kernel
theorem dL_law_610 : decode cL_law 610 = .ok (.iadd, 1) := by decide +kernel
theorem dL_law_611 : decode cL_law 611 = .ok (.iaload, 1) := by decide +kernel
theorem dL_law_612 : decode cL_law 612 = .ok (.invokevirtual 73, 3) := by decide +kernel
theorem dL_law_615 : decode cL_law 615 = .ok (.lcmp, 1) := by decide +kernel
theorem dL_law_616 : decode cL_law 616 = .ok (.ifCond .eq 705, 3) := by decide +kernel
theorem dL_law_619 : decode cL_law 619 = .ok (.iconst 0, 1) := by decide +kernel
theorem dL_law_620 : decode cL_law 620 = .ok (.ireturn, 1) := by decide +kernel
theorem dL_law_621 : decode cL_law 621 = .ok (.aload_n 1, 1) := by decide +kernel
theorem dL_law_622 : decode cL_law 622 = .ok (.aload_n 0, 1) := by decide +kernel
theorem dL_law_623 : decode cL_law 623 = .ok (.iload_n 3, 1) := by decide +kernel
theorem dL_law_624 : decode cL_law 624 = .ok (.iconst 1, 1) := by decide +kernel
theorem dL_law_625 : decode cL_law 625 = .ok (.iadd, 1) := by decide +kernel
theorem dL_law_626 : decode cL_law 626 = .ok (.iaload, 1) := by decide +kernel
theorem dL_law_627 : decode cL_law 627 = .ok (.aload_n 0, 1) := by decide +kernel
theorem dL_law_628 : decode cL_law 628 = .ok (.iload_n 3, 1) := by decide +kernel
theorem dL_law_629 : decode cL_law 629 = .ok (.iconst 2, 1) := by decide +kernel
theorem dL_law_630 : decode cL_law 630 = .ok (.iadd, 1) := by decide +kernel
theorem dL_law_631 : decode cL_law 631 = .ok (.iaload, 1) := by decide +kernel
theorem dL_law_632 : decode cL_law 632 = .ok (.invokevirtual 74, 3) := by decide +kernel
theorem dL_law_635 : decode cL_law 635 = .ok (.aload_n 2, 1) := by decide +kernel
theorem dL_law_636 : decode cL_law 636 = .ok (.aload_n 0, 1) := by decide +kernel
theorem dL_law_637 : decode cL_law 637 = .ok (.iload_n 3, 1) := by decide +kernel
theorem dL_law_638 : decode cL_law 638 = .ok (.iconst 1, 1) := by decide +kernel
theorem dL_law_639 : decode cL_law 639 = .ok (.iadd, 1) := by decide +kernel
theorem dL_law_640 : decode cL_law 640 = .ok (.iaload, 1) := by decide +kernel
theorem dL_law_641 : decode cL_law 641 = .ok (.aload_n 0, 1) := by decide +kernel
theorem dL_law_642 : decode cL_law 642 = .ok (.iload_n 3, 1) := by decide +kernel
theorem dL_law_643 : decode cL_law 643 = .ok (.iconst 2, 1) := by decide +kernel
theorem dL_law_644 : decode cL_law 644 = .ok (.iadd, 1) := by decide +kernel
theorem dL_law_645 : decode cL_law 645 = .ok (.iaload, 1) := by decide +kernel
theorem dL_law_646 : decode cL_law 646 = .ok (.invokevirtual 77, 3) := by decide +kernel
theorem dL_law_649 : decode cL_law 649 = .ok (.if_icmp .eq 672, 3) := by decide +kernel
theorem dL_law_652 : decode cL_law 652 = .ok (.iconst 0, 1) := by decide +kernel
theorem dL_law_653 : decode cL_law 653 = .ok (.ireturn, 1) := by decide +kernel
theorem dL_law_654 : decode cL_law 654 = .ok (.aload_n 1, 1) := by decide +kernel
theorem dL_law_655 : decode cL_law 655 = .ok (.aload_n 0, 1) := by decide +kernel
theorem dL_law_656 : decode cL_law 656 = .ok (.iload_n 3, 1) := by decide +kernel
theorem dL_law_657 : decode cL_law 657 = .ok (.iconst 1, 1) := by decide +kernel
theorem dL_law_658 : decode cL_law 658 = .ok (.iadd, 1) := by decide +kernel
theorem dL_law_659 : decode cL_law 659 = .ok (.iaload, 1) := by decide +kernel
theorem dL_law_660 : decode cL_law 660 = .ok (.aload_n 0, 1) := by decide +kernel
theorem dL_law_661 : decode cL_law 661 = .ok (.iload_n 3, 1) := by decide +kernel
theorem dL_law_662 : decode cL_law 662 = .ok (.iconst 2, 1) := by decide +kernel
theorem dL_law_663 : decode cL_law 663 = .ok (.iadd, 1) := by decide +kernel
theorem dL_law_664 : decode cL_law 664 = .ok (.iaload, 1) := by decide +kernel
theorem dL_law_665 : decode cL_law 665 = .ok (.invokevirtual 78, 3) := by decide +kernel
theorem dL_law_668 : decode cL_law 668 = .ok (.aload_n 2, 1) := by decide +kernel
theorem dL_law_669 : decode cL_law 669 = .ok (.aload_n 0, 1) := by decide +kernel
theorem dL_law_670 : decode cL_law 670 = .ok (.iload_n 3, 1) := by decide +kernel
theorem dL_law_671 : decode cL_law 671 = .ok (.iconst 1, 1) := by decide +kernel
theorem dL_law_672 : decode cL_law 672 = .ok (.iadd, 1) := by decide +kernel
theorem dL_law_673 : decode cL_law 673 = .ok (.iaload, 1) := by decide +kernel
theorem dL_law_674 : decode cL_law 674 = .ok (.aload_n 0, 1) := by decide +kernel
theorem dL_law_675 : decode cL_law 675 = .ok (.iload_n 3, 1) := by decide +kernel
theorem dL_law_676 : decode cL_law 676 = .ok (.iconst 2, 1) := by decide +kernel
theorem dL_law_677 : decode cL_law 677 = .ok (.iadd, 1) := by decide +kernel
theorem dL_law_678 : decode cL_law 678 = .ok (.iaload, 1) := by decide +kernel
theorem dL_law_679 : decode cL_law 679 = .ok (.invokevirtual 81, 3) := by decide +kernel
theorem dL_law_682 : decode cL_law 682 = .ok (.if_icmp .eq 639, 3) := by decide +kernel
theorem dL_law_685 : decode cL_law 685 = .ok (.iconst 0, 1) := by decide +kernel
theorem dL_law_686 : decode cL_law 686 = .ok (.ireturn, 1) := by decide +kernel
theorem dL_law_687 : decode cL_law 687 = .ok (.aload_n 1, 1) := by decide +kernel
theorem dL_law_688 : decode cL_law 688 = .ok (.invokevirtual 82, 3) := by decide +kernel
theorem dL_law_691 : decode cL_law 691 = .ok (.aload_n 2, 1) := by decide +kernel
theorem dL_law_692 : decode cL_law 692 = .ok (.invokevirtual 85, 3) := by decide +kernel
theorem dL_law_695 : decode cL_law 695 = .ok (.if_icmp .eq 626, 3) := by decide +kernel
theorem dL_law_698 : decode cL_law 698 = .ok (.iconst 0, 1) := by decide +kernel
theorem dL_law_699 : decode cL_law 699 = .ok (.ireturn, 1) := by decide +kernel
theorem dL_law_700 : decode cL_law 700 = .ok (.aload_n 1, 1) := by decide +kernel
theorem dL_law_701 : decode cL_law 701 = .ok (.aload_n 0, 1) := by decide +kernel
theorem dL_law_702 : decode cL_law 702 = .ok (.iload_n 3, 1) := by decide +kernel
theorem dL_law_703 : decode cL_law 703 = .ok (.iconst 1, 1) := by decide +kernel
theorem dL_law_704 : decode cL_law 704 = .ok (.iadd, 1) := by decide +kernel
theorem dL_law_705 : decode cL_law 705 = .ok (.iaload, 1) := by decide +kernel
theorem dL_law_706 : decode cL_law 706 = .ok (.invokevirtual 86, 3) := by decide +kernel
theorem dL_law_709 : decode cL_law 709 = .ok (.aload_n 2, 1) := by decide +kernel
theorem dL_law_710 : decode cL_law 710 = .ok (.aload_n 0, 1) := by decide +kernel
theorem dL_law_711 : decode cL_law 711 = .ok (.iload_n 3, 1) := by decide +kernel
theorem dL_law_712 : decode cL_law 712 = .ok (.iconst 1, 1) := by decide +kernel
theorem dL_law_713 : decode cL_law 713 = .ok (.iadd, 1) := by decide +kernel
theorem dL_law_714 : decode cL_law 714 = .ok (.iaload, 1) := by decide +kernel
theorem dL_law_715 : decode cL_law 715 = .ok (.invokevirtual 89, 3) := by decide +kernel
theorem dL_law_718 : decode cL_law 718 = .ok (.if_icmp .eq 603, 3) := by decide +kernel
theorem dL_law_721 : decode cL_law 721 = .ok (.iconst 0, 1) := by decide +kernel
theorem dL_law_722 : decode cL_law 722 = .ok (.ireturn, 1) := by decide +kernel
theorem dL_law_723 : decode cL_law 723 = .ok (.aload_n 1, 1) := by decide +kernel
theorem dL_law_724 : decode cL_law 724 = .ok (.aload_n 0, 1) := by decide +kernel
theorem dL_law_725 : decode cL_law 725 = .ok (.iload_n 3, 1) := by decide +kernel
theorem dL_law_726 : decode cL_law 726 = .ok (.iconst 1, 1) := by decide +kernel
theorem dL_law_727 : decode cL_law 727 = .ok (.iadd, 1) := by decide +kernel
theorem dL_law_728 : decode cL_law 728 = .ok (.iaload, 1) := by decide +kernel
theorem dL_law_729 : decode cL_law 729 = .ok (.aload_n 0, 1) := by decide +kernel
theorem dL_law_730 : decode cL_law 730 = .ok (.iload_n 3, 1) := by decide +kernel
theorem dL_law_731 : decode cL_law 731 = .ok (.iconst 2, 1) := by decide +kernel
theorem dL_law_732 : decode cL_law 732 = .ok (.iadd, 1) := by decide +kernel
theorem dL_law_733 : decode cL_law 733 = .ok (.iaload, 1) := by decide +kernel
theorem dL_law_734 : decode cL_law 734 = .ok (.invokevirtual 90, 3) := by decide +kernel
theorem dL_law_737 : decode cL_law 737 = .ok (.aload_n 2, 1) := by decide +kernel
theorem dL_law_738 : decode cL_law 738 = .ok (.aload_n 0, 1) := by decide +kernel
theorem dL_law_739 : decode cL_law 739 = .ok (.iload_n 3, 1) := by decide +kernel
theorem dL_law_740 : decode cL_law 740 = .ok (.iconst 1, 1) := by decide +kernel
theorem dL_law_741 : decode cL_law 741 = .ok (.iadd, 1) := by decide +kernel
theorem dL_law_742 : decode cL_law 742 = .ok (.iaload, 1) := by decide +kernel
theorem dL_law_743 : decode cL_law 743 = .ok (.aload_n 0, 1) := by decide +kernel
theorem dL_law_744 : decode cL_law 744 = .ok (.iload_n 3, 1) := by decide +kernel
theorem dL_law_745 : decode cL_law 745 = .ok (.iconst 2, 1) := by decide +kernel
theorem dL_law_746 : decode cL_law 746 = .ok (.iadd, 1) := by decide +kernel
theorem dL_law_747 : decode cL_law 747 = .ok (.iaload, 1) := by decide +kernel
theorem dL_law_748 : decode cL_law 748 = .ok (.invokevirtual 93, 3) := by decide +kernel
theorem dL_law_751 : decode cL_law 751 = .ok (.if_icmp .eq 570, 3) := by decide +kernel
theorem dL_law_754 : decode cL_law 754 = .ok (.iconst 0, 1) := by decide +kernel
theorem dL_law_755 : decode cL_law 755 = .ok (.ireturn, 1) := by decide +kernel
theorem dL_law_756 : decode cL_law 756 = .ok (.aload_n 1, 1) := by decide +kernel
theorem dL_law_757 : decode cL_law 757 = .ok (.invokevirtual 94, 3) := by decide +kernel
theorem dL_law_760 : decode cL_law 760 = .ok (.aload_n 2, 1) := by decide +kernel
theorem dL_law_761 : decode cL_law 761 = .ok (.invokevirtual 97, 3) := by decide +kernel
theorem dL_law_764 : decode cL_law 764 = .ok (.if_icmp .eq 557, 3) := by decide +kernel
theorem dL_law_767 : decode cL_law 767 = .ok (.iconst 0, 1) := by decide +kernel
theorem dL_law_768 : decode cL_law 768 = .ok (.ireturn, 1) := by decide +kernel
theorem dL_law_769 : decode cL_law 769 = .ok (.aload_n 1, 1) := by decide +kernel
theorem dL_law_770 : decode cL_law 770 = .ok (.aload_n 0, 1) := by decide +kernel
theorem dL_law_771 : decode cL_law 771 = .ok (.iload_n 3, 1) := by decide +kernel
theorem dL_law_772 : decode cL_law 772 = .ok (.iconst 1, 1) := by decide +kernel
theorem dL_law_773 : decode cL_law 773 = .ok (.iadd, 1) := by decide +kernel
theorem dL_law_774 : decode cL_law 774 = .ok (.iaload, 1) := by decide +kernel
theorem dL_law_775 : decode cL_law 775 = .ok (.aload_n 0, 1) := by decide +kernel
theorem dL_law_776 : decode cL_law 776 = .ok (.iload_n 3, 1) := by decide +kernel
theorem dL_law_777 : decode cL_law 777 = .ok (.iconst 2, 1) := by decide +kernel
theorem dL_law_778 : decode cL_law 778 = .ok (.iadd, 1) := by decide +kernel
theorem dL_law_779 : decode cL_law 779 = .ok (.iaload, 1) := by decide +kernel
theorem dL_law_780 : decode cL_law 780 = .ok (.invokevirtual 98, 3) := by decide +kernel
theorem dL_law_783 : decode cL_law 783 = .ok (.aload_n 2, 1) := by decide +kernel
theorem dL_law_784 : decode cL_law 784 = .ok (.aload_n 0, 1) := by decide +kernel
theorem dL_law_785 : decode cL_law 785 = .ok (.iload_n 3, 1) := by decide +kernel
theorem dL_law_786 : decode cL_law 786 = .ok (.iconst 1, 1) := by decide +kernel
theorem dL_law_787 : decode cL_law 787 = .ok (.iadd, 1) := by decide +kernel
theorem dL_law_788 : decode cL_law 788 = .ok (.iaload, 1) := by decide +kernel
theorem dL_law_789 : decode cL_law 789 = .ok (.aload_n 0, 1) := by decide +kernel
theorem dL_law_790 : decode cL_law 790 = .ok (.iload_n 3, 1) := by decide +kernel
theorem dL_law_791 : decode cL_law 791 = .ok (.iconst 2, 1) := by decide +kernel
theorem dL_law_792 : decode cL_law 792 = .ok (.iadd, 1) := by decide +kernel
theorem dL_law_793 : decode cL_law 793 = .ok (.iaload, 1) := by decide +kernel
theorem dL_law_794 : decode cL_law 794 = .ok (.invokevirtual 101, 3) := by decide +kernel
theorem dL_law_797 : decode cL_law 797 = .ok (.if_icmp .eq 524, 3) := by decide +kernel
theorem dL_law_800 : decode cL_law 800 = .ok (.iconst 0, 1) := by decide +kernel
theorem dL_law_801 : decode cL_law 801 = .ok (.ireturn, 1) := by decide +kernel
theorem dL_law_802 : decode cL_law 802 = .ok (.aload_n 1, 1) := by decide +kernel
theorem dL_law_803 : decode cL_law 803 = .ok (.aload_n 0, 1) := by decide +kernel
theorem dL_law_804 : decode cL_law 804 = .ok (.iload_n 3, 1) := by decide +kernel
theorem dL_law_805 : decode cL_law 805 = .ok (.iconst 1, 1) := by decide +kernel
theorem dL_law_806 : decode cL_law 806 = .ok (.iadd, 1) := by decide +kernel
theorem dL_law_807 : decode cL_law 807 = .ok (.iaload, 1) := by decide +kernel
theorem dL_law_808 : decode cL_law 808 = .ok (.invokevirtual 102, 3) := by decide +kernel
theorem dL_law_811 : decode cL_law 811 = .ok (.aload_n 2, 1) := by decide +kernel
theorem dL_law_812 : decode cL_law 812 = .ok (.aload_n 0, 1) := by decide +kernel
theorem dL_law_813 : decode cL_law 813 = .ok (.iload_n 3, 1) := by decide +kernel
theorem dL_law_814 : decode cL_law 814 = .ok (.iconst 1, 1) := by decide +kernel
theorem dL_law_815 : decode cL_law 815 = .ok (.iadd, 1) := by decide +kernel
theorem dL_law_816 : decode cL_law 816 = .ok (.iaload, 1) := by decide +kernel
theorem dL_law_817 : decode cL_law 817 = .ok (.invokevirtual 105, 3) := by decide +kernel
theorem dL_law_820 : decode cL_law 820 = .ok (.if_icmp .eq 501, 3) := by decide +kernel
theorem dL_law_823 : decode cL_law 823 = .ok (.iconst 0, 1) := by decide +kernel
theorem dL_law_824 : decode cL_law 824 = .ok (.ireturn, 1) := by decide +kernel
theorem dL_law_825 : decode cL_law 825 = .ok (.aload_n 1, 1) := by decide +kernel
theorem dL_law_826 : decode cL_law 826 = .ok (.aload_n 0, 1) := by decide +kernel
theorem dL_law_827 : decode cL_law 827 = .ok (.iload_n 3, 1) := by decide +kernel
theorem dL_law_828 : decode cL_law 828 = .ok (.iconst 1, 1) := by decide +kernel
theorem dL_law_829 : decode cL_law 829 = .ok (.iadd, 1) := by decide +kernel
theorem dL_law_830 : decode cL_law 830 = .ok (.iaload, 1) := by decide +kernel
theorem dL_law_831 : decode cL_law 831 = .ok (.invokevirtual 106, 3) := by decide +kernel
theorem dL_law_834 : decode cL_law 834 = .ok (.aload_n 2, 1) := by decide +kernel
theorem dL_law_835 : decode cL_law 835 = .ok (.aload_n 0, 1) := by decide +kernel
theorem dL_law_836 : decode cL_law 836 = .ok (.iload_n 3, 1) := by decide +kernel
theorem dL_law_837 : decode cL_law 837 = .ok (.iconst 1, 1) := by decide +kernel
theorem dL_law_838 : decode cL_law 838 = .ok (.iadd, 1) := by decide +kernel
theorem dL_law_839 : decode cL_law 839 = .ok (.iaload, 1) := by decide +kernel
theorem dL_law_840 : decode cL_law 840 = .ok (.invokevirtual 109, 3) := by decide +kernel
theorem dL_law_843 : decode cL_law 843 = .ok (.if_icmp .eq 478, 3) := by decide +kernel
theorem dL_law_846 : decode cL_law 846 = .ok (.iconst 0, 1) := by decide +kernel
theorem dL_law_847 : decode cL_law 847 = .ok (.ireturn, 1) := by decide +kernel
theorem dL_law_848 : decode cL_law 848 = .ok (.aload_n 1, 1) := by decide +kernel
theorem dL_law_849 : decode cL_law 849 = .ok (.aload_n 0, 1) := by decide +kernel
theorem dL_law_850 : decode cL_law 850 = .ok (.iload_n 3, 1) := by decide +kernel
theorem dL_law_851 : decode cL_law 851 = .ok (.iconst 1, 1) := by decide +kernel
theorem dL_law_852 : decode cL_law 852 = .ok (.iadd, 1) := by decide +kernel
theorem dL_law_853 : decode cL_law 853 = .ok (.iaload, 1) := by decide +kernel
theorem dL_law_854 : decode cL_law 854 = .ok (.aload_n 0, 1) := by decide +kernel
theorem dL_law_855 : decode cL_law 855 = .ok (.iload_n 3, 1) := by decide +kernel
theorem dL_law_856 : decode cL_law 856 = .ok (.iconst 2, 1) := by decide +kernel
theorem dL_law_857 : decode cL_law 857 = .ok (.iadd, 1) := by decide +kernel
theorem dL_law_858 : decode cL_law 858 = .ok (.iaload, 1) := by decide +kernel
theorem dL_law_859 : decode cL_law 859 = .ok (.aload_n 0, 1) := by decide +kernel
theorem dL_law_860 : decode cL_law 860 = .ok (.iload_n 3, 1) := by decide +kernel
theorem dL_law_861 : decode cL_law 861 = .ok (.iconst 3, 1) := by decide +kernel
theorem dL_law_862 : decode cL_law 862 = .ok (.iadd, 1) := by decide +kernel
theorem dL_law_863 : decode cL_law 863 = .ok (.iaload, 1) := by decide +kernel
theorem dL_law_864 : decode cL_law 864 = .ok (.invokevirtual 110, 3) := by decide +kernel
theorem dL_law_867 : decode cL_law 867 = .ok (.aload_n 2, 1) := by decide +kernel
theorem dL_law_868 : decode cL_law 868 = .ok (.aload_n 0, 1) := by decide +kernel
theorem dL_law_869 : decode cL_law 869 = .ok (.iload_n 3, 1) := by decide +kernel
theorem dL_law_870 : decode cL_law 870 = .ok (.iconst 1, 1) := by decide +kernel
theorem dL_law_871 : decode cL_law 871 = .ok (.iadd, 1) := by decide +kernel
theorem dL_law_872 : decode cL_law 872 = .ok (.iaload, 1) := by decide +kernel
theorem dL_law_873 : decode cL_law 873 = .ok (.aload_n 0, 1) := by decide +kernel
theorem dL_law_874 : decode cL_law 874 = .ok (.iload_n 3, 1) := by decide +kernel
theorem dL_law_875 : decode cL_law 875 = .ok (.iconst 2, 1) := by decide +kernel
theorem dL_law_876 : decode cL_law 876 = .ok (.iadd, 1) := by decide +kernel
theorem dL_law_877 : decode cL_law 877 = .ok (.iaload, 1) := by decide +kernel
theorem dL_law_878 : decode cL_law 878 = .ok (.aload_n 0, 1) := by decide +kernel
theorem dL_law_879 : decode cL_law 879 = .ok (.iload_n 3, 1) := by decide +kernel
theorem dL_law_880 : decode cL_law 880 = .ok (.iconst 3, 1) := by decide +kernel
theorem dL_law_881 : decode cL_law 881 = .ok (.iadd, 1) := by decide +kernel
theorem dL_law_882 : decode cL_law 882 = .ok (.iaload, 1) := by decide +kernel
theorem dL_law_883 : decode cL_law 883 = .ok (.invokevirtual 113, 3) := by decide +kernel
theorem dL_law_886 : decode cL_law 886 = .ok (.if_icmp .eq 435, 3) := by decide +kernel
theorem dL_law_889 : decode cL_law 889 = .ok (.iconst 0, 1) := by decide +kernel
theorem dL_law_890 : decode cL_law 890 = .ok (.ireturn, 1) := by decide +kernel
theorem dL_law_891 : decode cL_law 891 = .ok (.aload_n 1, 1) := by decide +kernel
theorem dL_law_892 : decode cL_law 892 = .ok (.invokevirtual 114, 3) := by decide +kernel
theorem dL_law_895 : decode cL_law 895 = .ok (.aload_n 2, 1) := by decide +kernel
theorem dL_law_896 : decode cL_law 896 = .ok (.invokevirtual 117, 3) := by decide +kernel
theorem dL_law_899 : decode cL_law 899 = .ok (.if_icmp .eq 422, 3) := by decide +kernel
theorem dL_law_902 : decode cL_law 902 = .ok (.iconst 0, 1) := by decide +kernel
theorem dL_law_903 : decode cL_law 903 = .ok (.ireturn, 1) := by decide +kernel
theorem dL_law_904 : decode cL_law 904 = .ok (.aload_n 1, 1) := by decide +kernel
theorem dL_law_905 : decode cL_law 905 = .ok (.aload_n 0, 1) := by decide +kernel
theorem dL_law_906 : decode cL_law 906 = .ok (.iload_n 3, 1) := by decide +kernel
theorem dL_law_907 : decode cL_law 907 = .ok (.iconst 1, 1) := by decide +kernel
theorem dL_law_908 : decode cL_law 908 = .ok (.iadd, 1) := by decide +kernel
theorem dL_law_909 : decode cL_law 909 = .ok (.iaload, 1) := by decide +kernel
theorem dL_law_910 : decode cL_law 910 = .ok (.invokevirtual 118, 3) := by decide +kernel
theorem dL_law_913 : decode cL_law 913 = .ok (.aload_n 2, 1) := by decide +kernel
theorem dL_law_914 : decode cL_law 914 = .ok (.aload_n 0, 1) := by decide +kernel
theorem dL_law_915 : decode cL_law 915 = .ok (.iload_n 3, 1) := by decide +kernel
theorem dL_law_916 : decode cL_law 916 = .ok (.iconst 1, 1) := by decide +kernel
theorem dL_law_917 : decode cL_law 917 = .ok (.iadd, 1) := by decide +kernel
theorem dL_law_918 : decode cL_law 918 = .ok (.iaload, 1) := by decide +kernel
theorem dL_law_919 : decode cL_law 919 = .ok (.invokevirtual 121, 3) := by decide +kernel
theorem dL_law_922 : decode cL_law 922 = .ok (.if_icmp .eq 399, 3) := by decide +kernel
theorem dL_law_925 : decode cL_law 925 = .ok (.iconst 0, 1) := by decide +kernel
theorem dL_law_926 : decode cL_law 926 = .ok (.ireturn, 1) := by decide +kernel
theorem dL_law_927 : decode cL_law 927 = .ok (.aload_n 1, 1) := by decide +kernel
theorem dL_law_928 : decode cL_law 928 = .ok (.aload_n 0, 1) := by decide +kernel
theorem dL_law_929 : decode cL_law 929 = .ok (.iload_n 3, 1) := by decide +kernel
theorem dL_law_930 : decode cL_law 930 = .ok (.iconst 1, 1) := by decide +kernel
theorem dL_law_931 : decode cL_law 931 = .ok (.iadd, 1) := by decide +kernel
theorem dL_law_932 : decode cL_law 932 = .ok (.iaload, 1) := by decide +kernel
theorem dL_law_933 : decode cL_law 933 = .ok (.aload_n 0, 1) := by decide +kernel
theorem dL_law_934 : decode cL_law 934 = .ok (.iload_n 3, 1) := by decide +kernel
theorem dL_law_935 : decode cL_law 935 = .ok (.iconst 2, 1) := by decide +kernel
theorem dL_law_936 : decode cL_law 936 = .ok (.iadd, 1) := by decide +kernel
theorem dL_law_937 : decode cL_law 937 = .ok (.iaload, 1) := by decide +kernel
theorem dL_law_938 : decode cL_law 938 = .ok (.invokevirtual 122, 3) := by decide +kernel
theorem dL_law_941 : decode cL_law 941 = .ok (.aload_n 2, 1) := by decide +kernel
theorem dL_law_942 : decode cL_law 942 = .ok (.aload_n 0, 1) := by decide +kernel
theorem dL_law_943 : decode cL_law 943 = .ok (.iload_n 3, 1) := by decide +kernel
theorem dL_law_944 : decode cL_law 944 = .ok (.iconst 1, 1) := by decide +kernel
theorem dL_law_945 : decode cL_law 945 = .ok (.iadd, 1) := by decide +kernel
theorem dL_law_946 : decode cL_law 946 = .ok (.iaload, 1) := by decide +kernel
theorem dL_law_947 : decode cL_law 947 = .ok (.aload_n 0, 1) := by decide +kernel
theorem dL_law_948 : decode cL_law 948 = .ok (.iload_n 3, 1) := by decide +kernel
theorem dL_law_949 : decode cL_law 949 = .ok (.iconst 2, 1) := by decide +kernel
theorem dL_law_950 : decode cL_law 950 = .ok (.iadd, 1) := by decide +kernel
theorem dL_law_951 : decode cL_law 951 = .ok (.iaload, 1) := by decide +kernel
theorem dL_law_952 : decode cL_law 952 = .ok (.invokevirtual 125, 3) := by decide +kernel
theorem dL_law_955 : decode cL_law 955 = .ok (.if_icmp .eq 366, 3) := by decide +kernel
theorem dL_law_958 : decode cL_law 958 = .ok (.iconst 0, 1) := by decide +kernel
theorem dL_law_959 : decode cL_law 959 = .ok (.ireturn, 1) := by decide +kernel
theorem dL_law_960 : decode cL_law 960 = .ok (.aload_n 1, 1) := by decide +kernel
theorem dL_law_961 : decode cL_law 961 = .ok (.invokevirtual 126, 3) := by decide +kernel
theorem dL_law_964 : decode cL_law 964 = .ok (.aload_n 2, 1) := by decide +kernel
theorem dL_law_965 : decode cL_law 965 = .ok (.invokevirtual 129, 3) := by decide +kernel
theorem dL_law_968 : decode cL_law 968 = .ok (.if_icmp .eq 353, 3) := by decide +kernel
theorem dL_law_971 : decode cL_law 971 = .ok (.iconst 0, 1) := by decide +kernel
theorem dL_law_972 : decode cL_law 972 = .ok (.ireturn, 1) := by decide +kernel
theorem dL_law_973 : decode cL_law 973 = .ok (.aload_n 1, 1) := by decide +kernel
theorem dL_law_974 : decode cL_law 974 = .ok (.invokevirtual 130, 3) := by decide +kernel
theorem dL_law_977 : decode cL_law 977 = .ok (.aload_n 2, 1) := by decide +kernel
theorem dL_law_978 : decode cL_law 978 = .ok (.invokevirtual 133, 3) := by decide +kernel
theorem dL_law_981 : decode cL_law 981 = .ok (.if_icmp .eq 340, 3) := by decide +kernel
theorem dL_law_984 : decode cL_law 984 = .ok (.iconst 0, 1) := by decide +kernel
theorem dL_law_985 : decode cL_law 985 = .ok (.ireturn, 1) := by decide +kernel
theorem dL_law_986 : decode cL_law 986 = .ok (.aload_n 1, 1) := by decide +kernel
theorem dL_law_987 : decode cL_law 987 = .ok (.aload_n 0, 1) := by decide +kernel
theorem dL_law_988 : decode cL_law 988 = .ok (.iload_n 3, 1) := by decide +kernel
theorem dL_law_989 : decode cL_law 989 = .ok (.iconst 1, 1) := by decide +kernel
theorem dL_law_990 : decode cL_law 990 = .ok (.iadd, 1) := by decide +kernel
theorem dL_law_991 : decode cL_law 991 = .ok (.iaload, 1) := by decide +kernel
theorem dL_law_992 : decode cL_law 992 = .ok (.aload_n 0, 1) := by decide +kernel
theorem dL_law_993 : decode cL_law 993 = .ok (.iload_n 3, 1) := by decide +kernel
theorem dL_law_994 : decode cL_law 994 = .ok (.iconst 2, 1) := by decide +kernel
theorem dL_law_995 : decode cL_law 995 = .ok (.iadd, 1) := by decide +kernel
theorem dL_law_996 : decode cL_law 996 = .ok (.iaload, 1) := by decide +kernel
theorem dL_law_997 : decode cL_law 997 = .ok (.aload_n 0, 1) := by decide +kernel
theorem dL_law_998 : decode cL_law 998 = .ok (.iload_n 3, 1) := by decide +kernel
theorem dL_law_999 : decode cL_law 999 = .ok (.iconst 3, 1) := by decide +kernel
theorem dL_law_1000 : decode cL_law 1000 = .ok (.iadd, 1) := by decide +kernel
theorem dL_law_1001 : decode cL_law 1001 = .ok (.iaload, 1) := by decide +kernel
theorem dL_law_1002 : decode cL_law 1002 = .ok (.invokevirtual 134, 3) := by decide +kernel
theorem dL_law_1005 : decode cL_law 1005 = .ok (.aload_n 2, 1) := by decide +kernel
theorem dL_law_1006 : decode cL_law 1006 = .ok (.aload_n 0, 1) := by decide +kernel
theorem dL_law_1007 : decode cL_law 1007 = .ok (.iload_n 3, 1) := by decide +kernel
theorem dL_law_1008 : decode cL_law 1008 = .ok (.iconst 1, 1) := by decide +kernel
theorem dL_law_1009 : decode cL_law 1009 = .ok (.iadd, 1) := by decide +kernel
theorem dL_law_1010 : decode cL_law 1010 = .ok (.iaload, 1) := by decide +kernel
theorem dL_law_1011 : decode cL_law 1011 = .ok (.aload_n 0, 1) := by decide +kernel
theorem dL_law_1012 : decode cL_law 1012 = .ok (.iload_n 3, 1) := by decide +kernel
theorem dL_law_1013 : decode cL_law 1013 = .ok (.iconst 2, 1) := by decide +kernel
theorem dL_law_1014 : decode cL_law 1014 = .ok (.iadd, 1) := by decide +kernel
theorem dL_law_1015 : decode cL_law 1015 = .ok (.iaload, 1) := by decide +kernel
theorem dL_law_1016 : decode cL_law 1016 = .ok (.aload_n 0, 1) := by decide +kernel
theorem dL_law_1017 : decode cL_law 1017 = .ok (.iload_n 3, 1) := by decide +kernel
theorem dL_law_1018 : decode cL_law 1018 = .ok (.iconst 3, 1) := by decide +kernel
theorem dL_law_1019 : decode cL_law 1019 = .ok (.iadd, 1) := by decide +kernel
theorem dL_law_1020 : decode cL_law 1020 = .ok (.iaload, 1) := by decide +kernel
theorem dL_law_1021 : decode cL_law 1021 = .ok (.invokevirtual 137, 3) := by decide +kernel
theorem dL_law_1024 : decode cL_law 1024 = .ok (.if_icmp .eq 297, 3) := by decide +kernel
theorem dL_law_1027 : decode cL_law 1027 = .ok (.iconst 0, 1) := by decide +kernel
theorem dL_law_1028 : decode cL_law 1028 = .ok (.ireturn, 1) := by decide +kernel
theorem dL_law_1029 : decode cL_law 1029 = .ok (.aload_n 1, 1) := by decide +kernel
theorem dL_law_1030 : decode cL_law 1030 = .ok (.aload_n 0, 1) := by decide +kernel
theorem dL_law_1031 : decode cL_law 1031 = .ok (.iload_n 3, 1) := by decide +kernel
theorem dL_law_1032 : decode cL_law 1032 = .ok (.iconst 1, 1) := by decide +kernel
theorem dL_law_1033 : decode cL_law 1033 = .ok (.iadd, 1) := by decide +kernel
theorem dL_law_1034 : decode cL_law 1034 = .ok (.iaload, 1) := by decide +kernel
theorem dL_law_1035 : decode cL_law 1035 = .ok (.aload_n 0, 1) := by decide +kernel
theorem dL_law_1036 : decode cL_law 1036 = .ok (.iload_n 3, 1) := by decide +kernel
theorem dL_law_1037 : decode cL_law 1037 = .ok (.iconst 2, 1) := by decide +kernel
theorem dL_law_1038 : decode cL_law 1038 = .ok (.iadd, 1) := by decide +kernel
theorem dL_law_1039 : decode cL_law 1039 = .ok (.iaload, 1) := by decide +kernel
theorem dL_law_1040 : decode cL_law 1040 = .ok (.aload_n 0, 1) := by decide +kernel
theorem dL_law_1041 : decode cL_law 1041 = .ok (.iload_n 3, 1) := by decide +kernel
theorem dL_law_1042 : decode cL_law 1042 = .ok (.iconst 3, 1) := by decide +kernel
theorem dL_law_1043 : decode cL_law 1043 = .ok (.iadd, 1) := by decide +kernel
theorem dL_law_1044 : decode cL_law 1044 = .ok (.iaload, 1) := by decide +kernel
theorem dL_law_1045 : decode cL_law 1045 = .ok (.i2l, 1) := by decide +kernel
theorem dL_law_1046 : decode cL_law 1046 = .ok (.bipush 32, 2) := by decide +kernel
theorem dL_law_1048 : decode cL_law 1048 = .ok (.lshl, 1) := by decide +kernel
theorem dL_law_1049 : decode cL_law 1049 = .ok (.aload_n 0, 1) := by decide +kernel
theorem dL_law_1050 : decode cL_law 1050 = .ok (.iload_n 3, 1) := by decide +kernel
theorem dL_law_1051 : decode cL_law 1051 = .ok (.iconst 4, 1) := by decide +kernel
theorem dL_law_1052 : decode cL_law 1052 = .ok (.iadd, 1) := by decide +kernel
theorem dL_law_1053 : decode cL_law 1053 = .ok (.iaload, 1) := by decide +kernel
theorem dL_law_1054 : decode cL_law 1054 = .ok (.i2l, 1) := by decide +kernel
theorem dL_law_1055 : decode cL_law 1055 = .ok (.ldc2_w 138, 3) := by decide +kernel
theorem dL_law_1058 : decode cL_law 1058 = .ok (.land, 1) := by decide +kernel
theorem dL_law_1059 : decode cL_law 1059 = .ok (.lor, 1) := by decide +kernel
theorem dL_law_1060 : decode cL_law 1060 = .ok (.invokevirtual 140, 3) := by decide +kernel
theorem dL_law_1063 : decode cL_law 1063 = .ok (.aload_n 2, 1) := by decide +kernel
theorem dL_law_1064 : decode cL_law 1064 = .ok (.aload_n 0, 1) := by decide +kernel
theorem dL_law_1065 : decode cL_law 1065 = .ok (.iload_n 3, 1) := by decide +kernel
theorem dL_law_1066 : decode cL_law 1066 = .ok (.iconst 1, 1) := by decide +kernel
theorem dL_law_1067 : decode cL_law 1067 = .ok (.iadd, 1) := by decide +kernel
theorem dL_law_1068 : decode cL_law 1068 = .ok (.iaload, 1) := by decide +kernel
theorem dL_law_1069 : decode cL_law 1069 = .ok (.aload_n 0, 1) := by decide +kernel
theorem dL_law_1070 : decode cL_law 1070 = .ok (.iload_n 3, 1) := by decide +kernel
theorem dL_law_1071 : decode cL_law 1071 = .ok (.iconst 2, 1) := by decide +kernel
theorem dL_law_1072 : decode cL_law 1072 = .ok (.iadd, 1) := by decide +kernel
theorem dL_law_1073 : decode cL_law 1073 = .ok (.iaload, 1) := by decide +kernel
theorem dL_law_1074 : decode cL_law 1074 = .ok (.aload_n 0, 1) := by decide +kernel
theorem dL_law_1075 : decode cL_law 1075 = .ok (.iload_n 3, 1) := by decide +kernel
theorem dL_law_1076 : decode cL_law 1076 = .ok (.iconst 3, 1) := by decide +kernel
theorem dL_law_1077 : decode cL_law 1077 = .ok (.iadd, 1) := by decide +kernel
theorem dL_law_1078 : decode cL_law 1078 = .ok (.iaload, 1) := by decide +kernel
theorem dL_law_1079 : decode cL_law 1079 = .ok (.i2l, 1) := by decide +kernel
theorem dL_law_1080 : decode cL_law 1080 = .ok (.bipush 32, 2) := by decide +kernel
theorem dL_law_1082 : decode cL_law 1082 = .ok (.lshl, 1) := by decide +kernel
theorem dL_law_1083 : decode cL_law 1083 = .ok (.aload_n 0, 1) := by decide +kernel
theorem dL_law_1084 : decode cL_law 1084 = .ok (.iload_n 3, 1) := by decide +kernel
theorem dL_law_1085 : decode cL_law 1085 = .ok (.iconst 4, 1) := by decide +kernel
theorem dL_law_1086 : decode cL_law 1086 = .ok (.iadd, 1) := by decide +kernel
theorem dL_law_1087 : decode cL_law 1087 = .ok (.iaload, 1) := by decide +kernel
theorem dL_law_1088 : decode cL_law 1088 = .ok (.i2l, 1) := by decide +kernel
theorem dL_law_1089 : decode cL_law 1089 = .ok (.ldc2_w 138, 3) := by decide +kernel
theorem dL_law_1092 : decode cL_law 1092 = .ok (.land, 1) := by decide +kernel
theorem dL_law_1093 : decode cL_law 1093 = .ok (.lor, 1) := by decide +kernel
theorem dL_law_1094 : decode cL_law 1094 = .ok (.invokevirtual 144, 3) := by decide +kernel
theorem dL_law_1097 : decode cL_law 1097 = .ok (.lcmp, 1) := by decide +kernel
theorem dL_law_1098 : decode cL_law 1098 = .ok (.ifCond .eq 223, 3) := by decide +kernel
theorem dL_law_1101 : decode cL_law 1101 = .ok (.iconst 0, 1) := by decide +kernel
theorem dL_law_1102 : decode cL_law 1102 = .ok (.ireturn, 1) := by decide +kernel
theorem dL_law_1103 : decode cL_law 1103 = .ok (.aload_n 1, 1) := by decide +kernel
theorem dL_law_1104 : decode cL_law 1104 = .ok (.aload_n 0, 1) := by decide +kernel
theorem dL_law_1105 : decode cL_law 1105 = .ok (.iload_n 3, 1) := by decide +kernel
theorem dL_law_1106 : decode cL_law 1106 = .ok (.iconst 1, 1) := by decide +kernel
theorem dL_law_1107 : decode cL_law 1107 = .ok (.iadd, 1) := by decide +kernel
theorem dL_law_1108 : decode cL_law 1108 = .ok (.iaload, 1) := by decide +kernel
theorem dL_law_1109 : decode cL_law 1109 = .ok (.aload_n 0, 1) := by decide +kernel
theorem dL_law_1110 : decode cL_law 1110 = .ok (.iload_n 3, 1) := by decide +kernel
theorem dL_law_1111 : decode cL_law 1111 = .ok (.iconst 2, 1) := by decide +kernel
theorem dL_law_1112 : decode cL_law 1112 = .ok (.iadd, 1) := by decide +kernel
theorem dL_law_1113 : decode cL_law 1113 = .ok (.iaload, 1) := by decide +kernel
theorem dL_law_1114 : decode cL_law 1114 = .ok (.aload_n 0, 1) := by decide +kernel
theorem dL_law_1115 : decode cL_law 1115 = .ok (.iload_n 3, 1) := by decide +kernel
theorem dL_law_1116 : decode cL_law 1116 = .ok (.iconst 3, 1) := by decide +kernel
theorem dL_law_1117 : decode cL_law 1117 = .ok (.iadd, 1) := by decide +kernel
theorem dL_law_1118 : decode cL_law 1118 = .ok (.iaload, 1) := by decide +kernel
theorem dL_law_1119 : decode cL_law 1119 = .ok (.aload_n 0, 1) := by decide +kernel
theorem dL_law_1120 : decode cL_law 1120 = .ok (.iload_n 3, 1) := by decide +kernel
theorem dL_law_1121 : decode cL_law 1121 = .ok (.iconst 4, 1) := by decide +kernel
theorem dL_law_1122 : decode cL_law 1122 = .ok (.iadd, 1) := by decide +kernel
theorem dL_law_1123 : decode cL_law 1123 = .ok (.iaload, 1) := by decide +kernel
theorem dL_law_1124 : decode cL_law 1124 = .ok (.aload_n 0, 1) := by decide +kernel
theorem dL_law_1125 : decode cL_law 1125 = .ok (.iload_n 3, 1) := by decide +kernel
theorem dL_law_1126 : decode cL_law 1126 = .ok (.iconst 5, 1) := by decide +kernel
theorem dL_law_1127 : decode cL_law 1127 = .ok (.iadd, 1) := by decide +kernel
theorem dL_law_1128 : decode cL_law 1128 = .ok (.iaload, 1) := by decide +kernel
theorem dL_law_1129 : decode cL_law 1129 = .ok (.invokevirtual 145, 3) := by decide +kernel
theorem dL_law_1132 : decode cL_law 1132 = .ok (.aload_n 2, 1) := by decide +kernel
theorem dL_law_1133 : decode cL_law 1133 = .ok (.aload_n 0, 1) := by decide +kernel
theorem dL_law_1134 : decode cL_law 1134 = .ok (.iload_n 3, 1) := by decide +kernel
theorem dL_law_1135 : decode cL_law 1135 = .ok (.iconst 1, 1) := by decide +kernel
theorem dL_law_1136 : decode cL_law 1136 = .ok (.iadd, 1) := by decide +kernel
theorem dL_law_1137 : decode cL_law 1137 = .ok (.iaload, 1) := by decide +kernel
theorem dL_law_1138 : decode cL_law 1138 = .ok (.aload_n 0, 1) := by decide +kernel
theorem dL_law_1139 : decode cL_law 1139 = .ok (.iload_n 3, 1) := by decide +kernel
theorem dL_law_1140 : decode cL_law 1140 = .ok (.iconst 2, 1) := by decide +kernel
theorem dL_law_1141 : decode cL_law 1141 = .ok (.iadd, 1) := by decide +kernel
theorem dL_law_1142 : decode cL_law 1142 = .ok (.iaload, 1) := by decide +kernel
theorem dL_law_1143 : decode cL_law 1143 = .ok (.aload_n 0, 1) := by decide +kernel
theorem dL_law_1144 : decode cL_law 1144 = .ok (.iload_n 3, 1) := by decide +kernel
theorem dL_law_1145 : decode cL_law 1145 = .ok (.iconst 3, 1) := by decide +kernel
theorem dL_law_1146 : decode cL_law 1146 = .ok (.iadd, 1) := by decide +kernel
theorem dL_law_1147 : decode cL_law 1147 = .ok (.iaload, 1) := by decide +kernel
theorem dL_law_1148 : decode cL_law 1148 = .ok (.aload_n 0, 1) := by decide +kernel
theorem dL_law_1149 : decode cL_law 1149 = .ok (.iload_n 3, 1) := by decide +kernel
theorem dL_law_1150 : decode cL_law 1150 = .ok (.iconst 4, 1) := by decide +kernel
theorem dL_law_1151 : decode cL_law 1151 = .ok (.iadd, 1) := by decide +kernel
theorem dL_law_1152 : decode cL_law 1152 = .ok (.iaload, 1) := by decide +kernel
theorem dL_law_1153 : decode cL_law 1153 = .ok (.aload_n 0, 1) := by decide +kernel
theorem dL_law_1154 : decode cL_law 1154 = .ok (.iload_n 3, 1) := by decide +kernel
theorem dL_law_1155 : decode cL_law 1155 = .ok (.iconst 5, 1) := by decide +kernel
theorem dL_law_1156 : decode cL_law 1156 = .ok (.iadd, 1) := by decide +kernel
theorem dL_law_1157 : decode cL_law 1157 = .ok (.iaload, 1) := by decide +kernel
theorem dL_law_1158 : decode cL_law 1158 = .ok (.invokevirtual 149, 3) := by decide +kernel
theorem dL_law_1161 : decode cL_law 1161 = .ok (.if_icmp .eq 160, 3) := by decide +kernel
theorem dL_law_1164 : decode cL_law 1164 = .ok (.iconst 0, 1) := by decide +kernel
theorem dL_law_1165 : decode cL_law 1165 = .ok (.ireturn, 1) := by decide +kernel
theorem dL_law_1166 : decode cL_law 1166 = .ok (.aload_n 1, 1) := by decide +kernel
theorem dL_law_1167 : decode cL_law 1167 = .ok (.aload_n 0, 1) := by decide +kernel
theorem dL_law_1168 : decode cL_law 1168 = .ok (.iload_n 3, 1) := by decide +kernel
theorem dL_law_1169 : decode cL_law 1169 = .ok (.iconst 1, 1) := by decide +kernel
theorem dL_law_1170 : decode cL_law 1170 = .ok (.iadd, 1) := by decide +kernel
theorem dL_law_1171 : decode cL_law 1171 = .ok (.iaload, 1) := by decide +kernel
theorem dL_law_1172 : decode cL_law 1172 = .ok (.invokevirtual 150, 3) := by decide +kernel
theorem dL_law_1175 : decode cL_law 1175 = .ok (.aload_n 2, 1) := by decide +kernel
theorem dL_law_1176 : decode cL_law 1176 = .ok (.aload_n 0, 1) := by decide +kernel
theorem dL_law_1177 : decode cL_law 1177 = .ok (.iload_n 3, 1) := by decide +kernel
theorem dL_law_1178 : decode cL_law 1178 = .ok (.iconst 1, 1) := by decide +kernel
theorem dL_law_1179 : decode cL_law 1179 = .ok (.iadd, 1) := by decide +kernel
theorem dL_law_1180 : decode cL_law 1180 = .ok (.iaload, 1) := by decide +kernel
theorem dL_law_1181 : decode cL_law 1181 = .ok (.invokevirtual 153, 3) := by decide +kernel
theorem dL_law_1184 : decode cL_law 1184 = .ok (.lcmp, 1) := by decide +kernel
theorem dL_law_1185 : decode cL_law 1185 = .ok (.ifCond .eq 136, 3) := by decide +kernel
theorem dL_law_1188 : decode cL_law 1188 = .ok (.iconst 0, 1) := by decide +kernel
theorem dL_law_1189 : decode cL_law 1189 = .ok (.ireturn, 1) := by decide +kernel
theorem dL_law_1190 : decode cL_law 1190 = .ok (.aload_n 1, 1) := by decide +kernel
theorem dL_law_1191 : decode cL_law 1191 = .ok (.aload_n 0, 1) := by decide +kernel
theorem dL_law_1192 : decode cL_law 1192 = .ok (.iload_n 3, 1) := by decide +kernel
theorem dL_law_1193 : decode cL_law 1193 = .ok (.iconst 1, 1) := by decide +kernel
theorem dL_law_1194 : decode cL_law 1194 = .ok (.iadd, 1) := by decide +kernel
theorem dL_law_1195 : decode cL_law 1195 = .ok (.iaload, 1) := by decide +kernel
theorem dL_law_1196 : decode cL_law 1196 = .ok (.invokevirtual 154, 3) := by decide +kernel
theorem dL_law_1199 : decode cL_law 1199 = .ok (.aload_n 2, 1) := by decide +kernel
theorem dL_law_1200 : decode cL_law 1200 = .ok (.aload_n 0, 1) := by decide +kernel
theorem dL_law_1201 : decode cL_law 1201 = .ok (.iload_n 3, 1) := by decide +kernel
theorem dL_law_1202 : decode cL_law 1202 = .ok (.iconst 1, 1) := by decide +kernel
theorem dL_law_1203 : decode cL_law 1203 = .ok (.iadd, 1) := by decide +kernel
theorem dL_law_1204 : decode cL_law 1204 = .ok (.iaload, 1) := by decide +kernel
theorem dL_law_1205 : decode cL_law 1205 = .ok (.invokevirtual 157, 3) := by decide +kernel
theorem dL_law_1208 : decode cL_law 1208 = .ok (.if_icmp .eq 113, 3) := by decide +kernel
theorem dL_law_1211 : decode cL_law 1211 = .ok (.iconst 0, 1) := by decide +kernel
theorem dL_law_1212 : decode cL_law 1212 = .ok (.ireturn, 1) := by decide +kernel
theorem dL_law_1213 : decode cL_law 1213 = .ok (.aload_n 1, 1) := by decide +kernel
theorem dL_law_1214 : decode cL_law 1214 = .ok (.aload_n 0, 1) := by decide +kernel
theorem dL_law_1215 : decode cL_law 1215 = .ok (.iload_n 3, 1) := by decide +kernel
theorem dL_law_1216 : decode cL_law 1216 = .ok (.iconst 1, 1) := by decide +kernel
theorem dL_law_1217 : decode cL_law 1217 = .ok (.iadd, 1) := by decide +kernel
theorem dL_law_1218 : decode cL_law 1218 = .ok (.iaload, 1) := by decide +kernel
theorem dL_law_1219 : decode cL_law 1219 = .ok (.invokevirtual 158, 3) := by decide +kernel
theorem dL_law_1222 : decode cL_law 1222 = .ok (.aload_n 2, 1) := by decide +kernel
theorem dL_law_1223 : decode cL_law 1223 = .ok (.aload_n 0, 1) := by decide +kernel
theorem dL_law_1224 : decode cL_law 1224 = .ok (.iload_n 3, 1) := by decide +kernel
theorem dL_law_1225 : decode cL_law 1225 = .ok (.iconst 1, 1) := by decide +kernel
theorem dL_law_1226 : decode cL_law 1226 = .ok (.iadd, 1) := by decide +kernel
theorem dL_law_1227 : decode cL_law 1227 = .ok (.iaload, 1) := by decide +kernel
theorem dL_law_1228 : decode cL_law 1228 = .ok (.invokevirtual 161, 3) := by decide +kernel
theorem dL_law_1231 : decode cL_law 1231 = .ok (.if_icmp .eq 90, 3) := by decide +kernel
theorem dL_law_1234 : decode cL_law 1234 = .ok (.iconst 0, 1) := by decide +kernel
theorem dL_law_1235 : decode cL_law 1235 = .ok (.ireturn, 1) := by decide +kernel
theorem dL_law_1236 : decode cL_law 1236 = .ok (.aload_n 1, 1) := by decide +kernel
theorem dL_law_1237 : decode cL_law 1237 = .ok (.invokevirtual 162, 3) := by decide +kernel
theorem dL_law_1240 : decode cL_law 1240 = .ok (.aload_n 2, 1) := by decide +kernel
theorem dL_law_1241 : decode cL_law 1241 = .ok (.invokevirtual 165, 3) := by decide +kernel
theorem dL_law_1244 : decode cL_law 1244 = .ok (.if_icmp .eq 77, 3) := by decide +kernel
theorem dL_law_1247 : decode cL_law 1247 = .ok (.iconst 0, 1) := by decide +kernel
theorem dL_law_1248 : decode cL_law 1248 = .ok (.ireturn, 1) := by decide +kernel
theorem dL_law_1249 : decode cL_law 1249 = .ok (.aload_n 1, 1) := by decide +kernel
theorem dL_law_1250 : decode cL_law 1250 = .ok (.invokevirtual 166, 3) := by decide +kernel
theorem dL_law_1253 : decode cL_law 1253 = .ok (.aload_n 2, 1) := by decide +kernel
theorem dL_law_1254 : decode cL_law 1254 = .ok (.invokevirtual 169, 3) := by decide +kernel
theorem dL_law_1257 : decode cL_law 1257 = .ok (.if_icmp .eq 64, 3) := by decide +kernel
theorem dL_law_1260 : decode cL_law 1260 = .ok (.iconst 0, 1) := by decide +kernel
theorem dL_law_1261 : decode cL_law 1261 = .ok (.ireturn, 1) := by decide +kernel
theorem dL_law_1262 : decode cL_law 1262 = .ok (.aload_n 1, 1) := by decide +kernel
theorem dL_law_1263 : decode cL_law 1263 = .ok (.invokevirtual 170, 3) := by decide +kernel
theorem dL_law_1266 : decode cL_law 1266 = .ok (.aload_n 2, 1) := by decide +kernel
theorem dL_law_1267 : decode cL_law 1267 = .ok (.invokevirtual 173, 3) := by decide +kernel
theorem dL_law_1270 : decode cL_law 1270 = .ok (.if_icmp .eq 51, 3) := by decide +kernel
theorem dL_law_1273 : decode cL_law 1273 = .ok (.iconst 0, 1) := by decide +kernel
theorem dL_law_1274 : decode cL_law 1274 = .ok (.ireturn, 1) := by decide +kernel
theorem dL_law_1275 : decode cL_law 1275 = .ok (.aload_n 1, 1) := by decide +kernel
theorem dL_law_1276 : decode cL_law 1276 = .ok (.aload_n 0, 1) := by decide +kernel
theorem dL_law_1277 : decode cL_law 1277 = .ok (.iload_n 3, 1) := by decide +kernel
theorem dL_law_1278 : decode cL_law 1278 = .ok (.iconst 1, 1) := by decide +kernel
theorem dL_law_1279 : decode cL_law 1279 = .ok (.iadd, 1) := by decide +kernel
theorem dL_law_1280 : decode cL_law 1280 = .ok (.iaload, 1) := by decide +kernel
theorem dL_law_1281 : decode cL_law 1281 = .ok (.invokevirtual 174, 3) := by decide +kernel
theorem dL_law_1284 : decode cL_law 1284 = .ok (.aload_n 2, 1) := by decide +kernel
theorem dL_law_1285 : decode cL_law 1285 = .ok (.aload_n 0, 1) := by decide +kernel
theorem dL_law_1286 : decode cL_law 1286 = .ok (.iload_n 3, 1) := by decide +kernel
theorem dL_law_1287 : decode cL_law 1287 = .ok (.iconst 1, 1) := by decide +kernel
theorem dL_law_1288 : decode cL_law 1288 = .ok (.iadd, 1) := by decide +kernel
theorem dL_law_1289 : decode cL_law 1289 = .ok (.iaload, 1) := by decide +kernel
theorem dL_law_1290 : decode cL_law 1290 = .ok (.invokevirtual 177, 3) := by decide +kernel
theorem dL_law_1293 : decode cL_law 1293 = .ok (.if_icmp .eq 28, 3) := by decide +kernel
theorem dL_law_1296 : decode cL_law 1296 = .ok (.iconst 0, 1) := by decide +kernel
theorem dL_law_1297 : decode cL_law 1297 = .ok (.ireturn, 1) := by decide +kernel
theorem dL_law_1298 : decode cL_law 1298 = .ok (.aload_n 1, 1) := by decide +kernel
theorem dL_law_1299 : decode cL_law 1299 = .ok (.aload_n 0, 1) := by decide +kernel
theorem dL_law_1300 : decode cL_law 1300 = .ok (.iload_n 3, 1) := by decide +kernel
theorem dL_law_1301 : decode cL_law 1301 = .ok (.iconst 1, 1) := by decide +kernel
theorem dL_law_1302 : decode cL_law 1302 = .ok (.iadd, 1) := by decide +kernel
theorem dL_law_1303 : decode cL_law 1303 = .ok (.iaload, 1) := by decide +kernel
theorem dL_law_1304 : decode cL_law 1304 = .ok (.invokevirtual 178, 3) := by decide +kernel
theorem dL_law_1307 : decode cL_law 1307 = .ok (.aload_n 2, 1) := by decide +kernel
theorem dL_law_1308 : decode cL_law 1308 = .ok (.aload_n 0, 1) := by decide +kernel
theorem dL_law_1309 : decode cL_law 1309 = .ok (.iload_n 3, 1) := by decide +kernel
theorem dL_law_1310 : decode cL_law 1310 = .ok (.iconst 1, 1) := by decide +kernel
theorem dL_law_1311 : decode cL_law 1311 = .ok (.iadd, 1) := by decide +kernel
theorem dL_law_1312 : decode cL_law 1312 = .ok (.iaload, 1) := by decide +kernel
theorem dL_law_1313 : decode cL_law 1313 = .ok (.invokevirtual 181, 3) := by decide +kernel
theorem dL_law_1316 : decode cL_law 1316 = .ok (.if_icmp .eq 5, 3) := by decide +kernel
theorem dL_law_1319 : decode cL_law 1319 = .ok (.iconst 0, 1) := by decide +kernel
theorem dL_law_1320 : decode cL_law 1320 = .ok (.ireturn, 1) := by decide +kernel
theorem dL_law_1321 : decode cL_law 1321 = .ok (.iinc 3 6, 3) := by decide +kernel
theorem dL_law_1324 : decode cL_law 1324 = .ok (.goto (-1306), 3) := by decide +kernel
theorem dL_law_1327 : decode cL_law 1327 = .ok (.iconst 1, 1) := by decide +kernel
theorem dL_law_1328 : decode cL_law 1328 = .ok (.ireturn, 1) := by decide +kernel
theorem l_cmp (r : Int64) : lg_cmp r r = 0 := by simp [lg_cmp, Int64.lt_irrefl]
set_option maxHeartbeats 4000000 in
set_option maxRecDepth 20000 in
theorem lc_field {l : Launch} {Z : jZ} {nm : String} {Rel : jMem → jMem → Prop} {q q' : Nat → Nat} {V U : jMem} {i : Nat} (hop : op_field Rel) (hL : Z.2.1 6 < 2 ^ 31) (hi : i + 6 ≤ Z.2.1 6) (hR : Rel V U) (hnext : ∀ V' U' : jMem, Rel V' U' → lJ l Z nm 1321 [(3, .int (nI i)), (2, .ref (q' 0)), (1, .ref (q 0)), (0, .ref (Z.2.1 5))] [] (jw Z q V' dX ++ jw Z q' U' dM)) : lJ l Z nm 208 [(3, .int (nI i)), (2, .ref (q' 0)), (1, .ref (q 0)), (0, .ref (Z.2.1 5))] [] (jw Z q V dX ++ jw Z q' U dM) := by
  obtain ⟨r, V', U', e1, e2, hR2⟩ := hop (Z.2.2.2.2 (i + 1)) (Z.2.2.2.2 (i + 2)) V U hR
  refine j_aload_n dL_law_208 rfl rfl ?_
  refine j_aload_n dL_law_209 rfl rfl ?_
  refine j_iload_n dL_law_210 rfl rfl ?_
  refine j_iconst (v := 1) dL_law_211 rfl (by decide) ?_
  refine j_iadd dL_law_212 rfl ?_
  refine l_ld (k := 1) (by decide) dL_law_213 rfl (by omega) hL ?_
  refine j_aload_n dL_law_214 rfl rfl ?_
  refine j_iload_n dL_law_215 rfl rfl ?_
  refine j_iconst (v := 2) dL_law_216 rfl (by decide) ?_
  refine j_iadd dL_law_217 rfl ?_
  refine l_ld (k := 2) (by decide) dL_law_218 rfl (by omega) hL ?_
  refine l_call_i (n1 := 48) (n2 := 12) rfl (jw_len _ _ _ _) l_nd48 l_nd12b kL_13 dL_law_219 rfl (tX4_field e1) rfl rfl rfl rfl rfl (Nat.le_of_ble_eq_true rfl) (by decide) ?_
  refine j_aload_n dL_law_222 rfl rfl ?_
  refine j_aload_n dL_law_223 rfl rfl ?_
  refine j_iload_n dL_law_224 rfl rfl ?_
  refine j_iconst (v := 1) dL_law_225 rfl (by decide) ?_
  refine j_iadd dL_law_226 rfl ?_
  refine l_ld (k := 1) (by decide) dL_law_227 rfl (by omega) hL ?_
  refine j_aload_n dL_law_228 rfl rfl ?_
  refine j_iload_n dL_law_229 rfl rfl ?_
  refine j_iconst (v := 2) dL_law_230 rfl (by decide) ?_
  refine j_iadd dL_law_231 rfl ?_
  refine l_ld (k := 2) (by decide) dL_law_232 rfl (by omega) hL ?_
  refine l_call_i (n1 := 12) (n2 := 48) rfl (jw_len _ _ _ _) l_nd12 l_nd48b kL_17 dL_law_233 rfl (tX5_field e2) rfl rfl rfl rfl rfl (Nat.le_of_ble_eq_true rfl) (by decide) ?_
  refine j_icmp_eq (tgt := 1321) dL_law_236 rfl (by decide) (fun _ => ?_) (fun c => absurd rfl c)
  exact hnext _ _ hR2
set_option maxHeartbeats 4000000 in
set_option maxRecDepth 20000 in
theorem lc_of {l : Launch} {Z : jZ} {nm : String} {Rel : jMem → jMem → Prop} {q q' : Nat → Nat} {V U : jMem} {i : Nat} (hop : op_of Rel) (hL : Z.2.1 6 < 2 ^ 31) (hi : i + 6 ≤ Z.2.1 6) (hR : Rel V U) (hnext : ∀ V' U' : jMem, Rel V' U' → lJ l Z nm 1321 [(3, .int (nI i)), (2, .ref (q' 0)), (1, .ref (q 0)), (0, .ref (Z.2.1 5))] [] (jw Z q V' dX ++ jw Z q' U' dM)) : lJ l Z nm 241 [(3, .int (nI i)), (2, .ref (q' 0)), (1, .ref (q 0)), (0, .ref (Z.2.1 5))] [] (jw Z q V dX ++ jw Z q' U dM) := by
  obtain ⟨r, V', U', e1, e2, hR2⟩ := hop (Z.2.2.2.2 (i + 1)) (Z.2.2.2.2 (i + 2)) V U hR
  refine j_aload_n dL_law_241 rfl rfl ?_
  refine j_aload_n dL_law_242 rfl rfl ?_
  refine j_iload_n dL_law_243 rfl rfl ?_
  refine j_iconst (v := 1) dL_law_244 rfl (by decide) ?_
  refine j_iadd dL_law_245 rfl ?_
  refine l_ld (k := 1) (by decide) dL_law_246 rfl (by omega) hL ?_
  refine j_aload_n dL_law_247 rfl rfl ?_
  refine j_iload_n dL_law_248 rfl rfl ?_
  refine j_iconst (v := 2) dL_law_249 rfl (by decide) ?_
  refine j_iadd dL_law_250 rfl ?_
  refine l_ld (k := 2) (by decide) dL_law_251 rfl (by omega) hL ?_
  refine l_call_i (n1 := 48) (n2 := 12) rfl (jw_len _ _ _ _) l_nd48 l_nd12b kL_18 dL_law_252 rfl (tX4_of e1) rfl rfl rfl rfl rfl (Nat.le_of_ble_eq_true rfl) (by decide) ?_
  refine j_aload_n dL_law_255 rfl rfl ?_
  refine j_aload_n dL_law_256 rfl rfl ?_
  refine j_iload_n dL_law_257 rfl rfl ?_
  refine j_iconst (v := 1) dL_law_258 rfl (by decide) ?_
  refine j_iadd dL_law_259 rfl ?_
  refine l_ld (k := 1) (by decide) dL_law_260 rfl (by omega) hL ?_
  refine j_aload_n dL_law_261 rfl rfl ?_
  refine j_iload_n dL_law_262 rfl rfl ?_
  refine j_iconst (v := 2) dL_law_263 rfl (by decide) ?_
  refine j_iadd dL_law_264 rfl ?_
  refine l_ld (k := 2) (by decide) dL_law_265 rfl (by omega) hL ?_
  refine l_call_i (n1 := 12) (n2 := 48) rfl (jw_len _ _ _ _) l_nd12 l_nd48b kL_21 dL_law_266 rfl (tX5_of e2) rfl rfl rfl rfl rfl (Nat.le_of_ble_eq_true rfl) (by decide) ?_
  refine j_icmp_eq (tgt := 1321) dL_law_269 rfl (by decide) (fun _ => ?_) (fun c => absurd rfl c)
  exact hnext _ _ hR2
set_option maxHeartbeats 4000000 in
set_option maxRecDepth 20000 in
theorem lc_set {l : Launch} {Z : jZ} {nm : String} {Rel : jMem → jMem → Prop} {q q' : Nat → Nat} {V U : jMem} {i : Nat} (hop : op_set Rel) (hL : Z.2.1 6 < 2 ^ 31) (hi : i + 6 ≤ Z.2.1 6) (hR : Rel V U) (hnext : ∀ V' U' : jMem, Rel V' U' → lJ l Z nm 1321 [(3, .int (nI i)), (2, .ref (q' 0)), (1, .ref (q 0)), (0, .ref (Z.2.1 5))] [] (jw Z q V' dX ++ jw Z q' U' dM)) : lJ l Z nm 274 [(3, .int (nI i)), (2, .ref (q' 0)), (1, .ref (q 0)), (0, .ref (Z.2.1 5))] [] (jw Z q V dX ++ jw Z q' U dM) := by
  obtain ⟨r, V', U', e1, e2, hR2⟩ := hop (Z.2.2.2.2 (i + 1)) (Z.2.2.2.2 (i + 2)) (Z.2.2.2.2 (i + 3)) V U hR
  refine j_aload_n dL_law_274 rfl rfl ?_
  refine j_aload_n dL_law_275 rfl rfl ?_
  refine j_iload_n dL_law_276 rfl rfl ?_
  refine j_iconst (v := 1) dL_law_277 rfl (by decide) ?_
  refine j_iadd dL_law_278 rfl ?_
  refine l_ld (k := 1) (by decide) dL_law_279 rfl (by omega) hL ?_
  refine j_aload_n dL_law_280 rfl rfl ?_
  refine j_iload_n dL_law_281 rfl rfl ?_
  refine j_iconst (v := 2) dL_law_282 rfl (by decide) ?_
  refine j_iadd dL_law_283 rfl ?_
  refine l_ld (k := 2) (by decide) dL_law_284 rfl (by omega) hL ?_
  refine j_aload_n dL_law_285 rfl rfl ?_
  refine j_iload_n dL_law_286 rfl rfl ?_
  refine j_iconst (v := 3) dL_law_287 rfl (by decide) ?_
  refine j_iadd dL_law_288 rfl ?_
  refine l_ld (k := 3) (by decide) dL_law_289 rfl (by omega) hL ?_
  refine l_call_i (n1 := 48) (n2 := 12) rfl (jw_len _ _ _ _) l_nd48 l_nd12b kL_22 dL_law_290 rfl (tX4_set e1) rfl rfl rfl rfl rfl (Nat.le_of_ble_eq_true rfl) (by decide) ?_
  refine j_aload_n dL_law_293 rfl rfl ?_
  refine j_aload_n dL_law_294 rfl rfl ?_
  refine j_iload_n dL_law_295 rfl rfl ?_
  refine j_iconst (v := 1) dL_law_296 rfl (by decide) ?_
  refine j_iadd dL_law_297 rfl ?_
  refine l_ld (k := 1) (by decide) dL_law_298 rfl (by omega) hL ?_
  refine j_aload_n dL_law_299 rfl rfl ?_
  refine j_iload_n dL_law_300 rfl rfl ?_
  refine j_iconst (v := 2) dL_law_301 rfl (by decide) ?_
  refine j_iadd dL_law_302 rfl ?_
  refine l_ld (k := 2) (by decide) dL_law_303 rfl (by omega) hL ?_
  refine j_aload_n dL_law_304 rfl rfl ?_
  refine j_iload_n dL_law_305 rfl rfl ?_
  refine j_iconst (v := 3) dL_law_306 rfl (by decide) ?_
  refine j_iadd dL_law_307 rfl ?_
  refine l_ld (k := 3) (by decide) dL_law_308 rfl (by omega) hL ?_
  refine l_call_i (n1 := 12) (n2 := 48) rfl (jw_len _ _ _ _) l_nd12 l_nd48b kL_26 dL_law_309 rfl (tX5_set e2) rfl rfl rfl rfl rfl (Nat.le_of_ble_eq_true rfl) (by decide) ?_
  refine j_icmp_eq (tgt := 1321) dL_law_312 rfl (by decide) (fun _ => ?_) (fun c => absurd rfl c)
  exact hnext _ _ hR2
set_option maxHeartbeats 4000000 in
set_option maxRecDepth 20000 in
theorem lc_as {l : Launch} {Z : jZ} {nm : String} {Rel : jMem → jMem → Prop} {q q' : Nat → Nat} {V U : jMem} {i : Nat} (hop : op_as Rel) (hL : Z.2.1 6 < 2 ^ 31) (hi : i + 6 ≤ Z.2.1 6) (hR : Rel V U) (hnext : ∀ V' U' : jMem, Rel V' U' → lJ l Z nm 1321 [(3, .int (nI i)), (2, .ref (q' 0)), (1, .ref (q 0)), (0, .ref (Z.2.1 5))] [] (jw Z q V' dX ++ jw Z q' U' dM)) : lJ l Z nm 317 [(3, .int (nI i)), (2, .ref (q' 0)), (1, .ref (q 0)), (0, .ref (Z.2.1 5))] [] (jw Z q V dX ++ jw Z q' U dM) := by
  obtain ⟨r, V', U', e1, e2, hR2⟩ := hop (Z.2.2.2.2 (i + 1)) (Z.2.2.2.2 (i + 2)) V U hR
  refine j_aload_n dL_law_317 rfl rfl ?_
  refine j_aload_n dL_law_318 rfl rfl ?_
  refine j_iload_n dL_law_319 rfl rfl ?_
  refine j_iconst (v := 1) dL_law_320 rfl (by decide) ?_
  refine j_iadd dL_law_321 rfl ?_
  refine l_ld (k := 1) (by decide) dL_law_322 rfl (by omega) hL ?_
  refine j_aload_n dL_law_323 rfl rfl ?_
  refine j_iload_n dL_law_324 rfl rfl ?_
  refine j_iconst (v := 2) dL_law_325 rfl (by decide) ?_
  refine j_iadd dL_law_326 rfl ?_
  refine l_ld (k := 2) (by decide) dL_law_327 rfl (by omega) hL ?_
  refine l_call_i (n1 := 48) (n2 := 12) rfl (jw_len _ _ _ _) l_nd48 l_nd12b kL_27 dL_law_328 rfl (tX4_as e1) rfl rfl rfl rfl rfl (Nat.le_of_ble_eq_true rfl) (by decide) ?_
  refine j_aload_n dL_law_331 rfl rfl ?_
  refine j_aload_n dL_law_332 rfl rfl ?_
  refine j_iload_n dL_law_333 rfl rfl ?_
  refine j_iconst (v := 1) dL_law_334 rfl (by decide) ?_
  refine j_iadd dL_law_335 rfl ?_
  refine l_ld (k := 1) (by decide) dL_law_336 rfl (by omega) hL ?_
  refine j_aload_n dL_law_337 rfl rfl ?_
  refine j_iload_n dL_law_338 rfl rfl ?_
  refine j_iconst (v := 2) dL_law_339 rfl (by decide) ?_
  refine j_iadd dL_law_340 rfl ?_
  refine l_ld (k := 2) (by decide) dL_law_341 rfl (by omega) hL ?_
  refine l_call_i (n1 := 12) (n2 := 48) rfl (jw_len _ _ _ _) l_nd12 l_nd48b kL_30 dL_law_342 rfl (tX5_as e2) rfl rfl rfl rfl rfl (Nat.le_of_ble_eq_true rfl) (by decide) ?_
  refine j_icmp_eq (tgt := 1321) dL_law_345 rfl (by decide) (fun _ => ?_) (fun c => absurd rfl c)
  exact hnext _ _ hR2
set_option maxHeartbeats 4000000 in
set_option maxRecDepth 20000 in
theorem lc_asks {l : Launch} {Z : jZ} {nm : String} {Rel : jMem → jMem → Prop} {q q' : Nat → Nat} {V U : jMem} {i : Nat} (hop : op_asks Rel) (hL : Z.2.1 6 < 2 ^ 31) (hi : i + 6 ≤ Z.2.1 6) (hR : Rel V U) (hnext : ∀ V' U' : jMem, Rel V' U' → lJ l Z nm 1321 [(3, .int (nI i)), (2, .ref (q' 0)), (1, .ref (q 0)), (0, .ref (Z.2.1 5))] [] (jw Z q V' dX ++ jw Z q' U' dM)) : lJ l Z nm 350 [(3, .int (nI i)), (2, .ref (q' 0)), (1, .ref (q 0)), (0, .ref (Z.2.1 5))] [] (jw Z q V dX ++ jw Z q' U dM) := by
  obtain ⟨r, V', U', e1, e2, hR2⟩ := hop (Z.2.2.2.2 (i + 1)) (Z.2.2.2.2 (i + 2)) V U hR
  refine j_aload_n dL_law_350 rfl rfl ?_
  refine j_aload_n dL_law_351 rfl rfl ?_
  refine j_iload_n dL_law_352 rfl rfl ?_
  refine j_iconst (v := 1) dL_law_353 rfl (by decide) ?_
  refine j_iadd dL_law_354 rfl ?_
  refine l_ld (k := 1) (by decide) dL_law_355 rfl (by omega) hL ?_
  refine j_aload_n dL_law_356 rfl rfl ?_
  refine j_iload_n dL_law_357 rfl rfl ?_
  refine j_iconst (v := 2) dL_law_358 rfl (by decide) ?_
  refine j_iadd dL_law_359 rfl ?_
  refine l_ld (k := 2) (by decide) dL_law_360 rfl (by omega) hL ?_
  refine l_call_i (n1 := 48) (n2 := 12) rfl (jw_len _ _ _ _) l_nd48 l_nd12b kL_31 dL_law_361 rfl (tX4_asks e1) rfl rfl rfl rfl rfl (Nat.le_of_ble_eq_true rfl) (by decide) ?_
  refine j_aload_n dL_law_364 rfl rfl ?_
  refine j_aload_n dL_law_365 rfl rfl ?_
  refine j_iload_n dL_law_366 rfl rfl ?_
  refine j_iconst (v := 1) dL_law_367 rfl (by decide) ?_
  refine j_iadd dL_law_368 rfl ?_
  refine l_ld (k := 1) (by decide) dL_law_369 rfl (by omega) hL ?_
  refine j_aload_n dL_law_370 rfl rfl ?_
  refine j_iload_n dL_law_371 rfl rfl ?_
  refine j_iconst (v := 2) dL_law_372 rfl (by decide) ?_
  refine j_iadd dL_law_373 rfl ?_
  refine l_ld (k := 2) (by decide) dL_law_374 rfl (by omega) hL ?_
  refine l_call_i (n1 := 12) (n2 := 48) rfl (jw_len _ _ _ _) l_nd12 l_nd48b kL_34 dL_law_375 rfl (tX5_asks e2) rfl rfl rfl rfl rfl (Nat.le_of_ble_eq_true rfl) (by decide) ?_
  refine j_icmp_eq (tgt := 1321) dL_law_378 rfl (by decide) (fun _ => ?_) (fun c => absurd rfl c)
  exact hnext _ _ hR2
set_option maxHeartbeats 4000000 in
set_option maxRecDepth 20000 in
theorem lc_rule {l : Launch} {Z : jZ} {nm : String} {Rel : jMem → jMem → Prop} {q q' : Nat → Nat} {V U : jMem} {i : Nat} (hop : op_rule Rel) (hL : Z.2.1 6 < 2 ^ 31) (hi : i + 6 ≤ Z.2.1 6) (hR : Rel V U) (hnext : ∀ V' U' : jMem, Rel V' U' → lJ l Z nm 1321 [(3, .int (nI i)), (2, .ref (q' 0)), (1, .ref (q 0)), (0, .ref (Z.2.1 5))] [] (jw Z q V' dX ++ jw Z q' U' dM)) : lJ l Z nm 383 [(3, .int (nI i)), (2, .ref (q' 0)), (1, .ref (q 0)), (0, .ref (Z.2.1 5))] [] (jw Z q V dX ++ jw Z q' U dM) := by
  obtain ⟨r, V', U', e1, e2, hR2⟩ := hop (Z.2.2.2.2 (i + 1)) (Z.2.2.2.2 (i + 2)) V U hR
  refine j_aload_n dL_law_383 rfl rfl ?_
  refine j_aload_n dL_law_384 rfl rfl ?_
  refine j_iload_n dL_law_385 rfl rfl ?_
  refine j_iconst (v := 1) dL_law_386 rfl (by decide) ?_
  refine j_iadd dL_law_387 rfl ?_
  refine l_ld (k := 1) (by decide) dL_law_388 rfl (by omega) hL ?_
  refine j_aload_n dL_law_389 rfl rfl ?_
  refine j_iload_n dL_law_390 rfl rfl ?_
  refine j_iconst (v := 2) dL_law_391 rfl (by decide) ?_
  refine j_iadd dL_law_392 rfl ?_
  refine l_ld (k := 2) (by decide) dL_law_393 rfl (by omega) hL ?_
  refine l_call_i (n1 := 48) (n2 := 12) rfl (jw_len _ _ _ _) l_nd48 l_nd12b kL_35 dL_law_394 rfl (tX4_rule e1) rfl rfl rfl rfl rfl (Nat.le_of_ble_eq_true rfl) (by decide) ?_
  refine j_aload_n dL_law_397 rfl rfl ?_
  refine j_aload_n dL_law_398 rfl rfl ?_
  refine j_iload_n dL_law_399 rfl rfl ?_
  refine j_iconst (v := 1) dL_law_400 rfl (by decide) ?_
  refine j_iadd dL_law_401 rfl ?_
  refine l_ld (k := 1) (by decide) dL_law_402 rfl (by omega) hL ?_
  refine j_aload_n dL_law_403 rfl rfl ?_
  refine j_iload_n dL_law_404 rfl rfl ?_
  refine j_iconst (v := 2) dL_law_405 rfl (by decide) ?_
  refine j_iadd dL_law_406 rfl ?_
  refine l_ld (k := 2) (by decide) dL_law_407 rfl (by omega) hL ?_
  refine l_call_i (n1 := 12) (n2 := 48) rfl (jw_len _ _ _ _) l_nd12 l_nd48b kL_38 dL_law_408 rfl (tX5_rule e2) rfl rfl rfl rfl rfl (Nat.le_of_ble_eq_true rfl) (by decide) ?_
  refine j_icmp_eq (tgt := 1321) dL_law_411 rfl (by decide) (fun _ => ?_) (fun c => absurd rfl c)
  exact hnext _ _ hR2
set_option maxHeartbeats 4000000 in
set_option maxRecDepth 20000 in
theorem lc_offer {l : Launch} {Z : jZ} {nm : String} {Rel : jMem → jMem → Prop} {q q' : Nat → Nat} {V U : jMem} {i : Nat} (hop : op_offer Rel) (hL : Z.2.1 6 < 2 ^ 31) (hi : i + 6 ≤ Z.2.1 6) (hR : Rel V U) (hnext : ∀ V' U' : jMem, Rel V' U' → lJ l Z nm 1321 [(3, .int (nI i)), (2, .ref (q' 0)), (1, .ref (q 0)), (0, .ref (Z.2.1 5))] [] (jw Z q V' dX ++ jw Z q' U' dM)) : lJ l Z nm 416 [(3, .int (nI i)), (2, .ref (q' 0)), (1, .ref (q 0)), (0, .ref (Z.2.1 5))] [] (jw Z q V dX ++ jw Z q' U dM) := by
  obtain ⟨r, V', U', e1, e2, hR2⟩ := hop (Z.2.2.2.2 (i + 1)) (Z.2.2.2.2 (i + 2)) V U hR
  refine j_aload_n dL_law_416 rfl rfl ?_
  refine j_aload_n dL_law_417 rfl rfl ?_
  refine j_iload_n dL_law_418 rfl rfl ?_
  refine j_iconst (v := 1) dL_law_419 rfl (by decide) ?_
  refine j_iadd dL_law_420 rfl ?_
  refine l_ld (k := 1) (by decide) dL_law_421 rfl (by omega) hL ?_
  refine j_aload_n dL_law_422 rfl rfl ?_
  refine j_iload_n dL_law_423 rfl rfl ?_
  refine j_iconst (v := 2) dL_law_424 rfl (by decide) ?_
  refine j_iadd dL_law_425 rfl ?_
  refine l_ld (k := 2) (by decide) dL_law_426 rfl (by omega) hL ?_
  refine l_call_i (n1 := 48) (n2 := 12) rfl (jw_len _ _ _ _) l_nd48 l_nd12b kL_39 dL_law_427 rfl (tX4_offer e1) rfl rfl rfl rfl rfl (Nat.le_of_ble_eq_true rfl) (by decide) ?_
  refine j_aload_n dL_law_430 rfl rfl ?_
  refine j_aload_n dL_law_431 rfl rfl ?_
  refine j_iload_n dL_law_432 rfl rfl ?_
  refine j_iconst (v := 1) dL_law_433 rfl (by decide) ?_
  refine j_iadd dL_law_434 rfl ?_
  refine l_ld (k := 1) (by decide) dL_law_435 rfl (by omega) hL ?_
  refine j_aload_n dL_law_436 rfl rfl ?_
  refine j_iload_n dL_law_437 rfl rfl ?_
  refine j_iconst (v := 2) dL_law_438 rfl (by decide) ?_
  refine j_iadd dL_law_439 rfl ?_
  refine l_ld (k := 2) (by decide) dL_law_440 rfl (by omega) hL ?_
  refine l_call_i (n1 := 12) (n2 := 48) rfl (jw_len _ _ _ _) l_nd12 l_nd48b kL_42 dL_law_441 rfl (tX5_offer e2) rfl rfl rfl rfl rfl (Nat.le_of_ble_eq_true rfl) (by decide) ?_
  refine j_icmp_eq (tgt := 1321) dL_law_444 rfl (by decide) (fun _ => ?_) (fun c => absurd rfl c)
  exact hnext _ _ hR2
set_option maxHeartbeats 4000000 in
set_option maxRecDepth 20000 in
theorem lc_paper {l : Launch} {Z : jZ} {nm : String} {Rel : jMem → jMem → Prop} {q q' : Nat → Nat} {V U : jMem} {i : Nat} (hop : op_paper Rel) (hL : Z.2.1 6 < 2 ^ 31) (hi : i + 6 ≤ Z.2.1 6) (hR : Rel V U) (hnext : ∀ V' U' : jMem, Rel V' U' → lJ l Z nm 1321 [(3, .int (nI i)), (2, .ref (q' 0)), (1, .ref (q 0)), (0, .ref (Z.2.1 5))] [] (jw Z q V' dX ++ jw Z q' U' dM)) : lJ l Z nm 449 [(3, .int (nI i)), (2, .ref (q' 0)), (1, .ref (q 0)), (0, .ref (Z.2.1 5))] [] (jw Z q V dX ++ jw Z q' U dM) := by
  obtain ⟨r, V', U', e1, e2, hR2⟩ := hop (Z.2.2.2.2 (i + 1)) (Z.2.2.2.2 (i + 2)) V U hR
  refine j_aload_n dL_law_449 rfl rfl ?_
  refine j_aload_n dL_law_450 rfl rfl ?_
  refine j_iload_n dL_law_451 rfl rfl ?_
  refine j_iconst (v := 1) dL_law_452 rfl (by decide) ?_
  refine j_iadd dL_law_453 rfl ?_
  refine l_ld (k := 1) (by decide) dL_law_454 rfl (by omega) hL ?_
  refine j_aload_n dL_law_455 rfl rfl ?_
  refine j_iload_n dL_law_456 rfl rfl ?_
  refine j_iconst (v := 2) dL_law_457 rfl (by decide) ?_
  refine j_iadd dL_law_458 rfl ?_
  refine l_ld (k := 2) (by decide) dL_law_459 rfl (by omega) hL ?_
  refine l_call_i (n1 := 48) (n2 := 12) rfl (jw_len _ _ _ _) l_nd48 l_nd12b kL_43 dL_law_460 rfl (tX4_paper e1) rfl rfl rfl rfl rfl (Nat.le_of_ble_eq_true rfl) (by decide) ?_
  refine j_aload_n dL_law_463 rfl rfl ?_
  refine j_aload_n dL_law_464 rfl rfl ?_
  refine j_iload_n dL_law_465 rfl rfl ?_
  refine j_iconst (v := 1) dL_law_466 rfl (by decide) ?_
  refine j_iadd dL_law_467 rfl ?_
  refine l_ld (k := 1) (by decide) dL_law_468 rfl (by omega) hL ?_
  refine j_aload_n dL_law_469 rfl rfl ?_
  refine j_iload_n dL_law_470 rfl rfl ?_
  refine j_iconst (v := 2) dL_law_471 rfl (by decide) ?_
  refine j_iadd dL_law_472 rfl ?_
  refine l_ld (k := 2) (by decide) dL_law_473 rfl (by omega) hL ?_
  refine l_call_i (n1 := 12) (n2 := 48) rfl (jw_len _ _ _ _) l_nd12 l_nd48b kL_46 dL_law_474 rfl (tX5_paper e2) rfl rfl rfl rfl rfl (Nat.le_of_ble_eq_true rfl) (by decide) ?_
  refine j_icmp_eq (tgt := 1321) dL_law_477 rfl (by decide) (fun _ => ?_) (fun c => absurd rfl c)
  exact hnext _ _ hR2
set_option maxHeartbeats 4000000 in
set_option maxRecDepth 20000 in
theorem lc_paperOf {l : Launch} {Z : jZ} {nm : String} {Rel : jMem → jMem → Prop} {q q' : Nat → Nat} {V U : jMem} {i : Nat} (hop : op_paperOf Rel) (hL : Z.2.1 6 < 2 ^ 31) (hi : i + 6 ≤ Z.2.1 6) (hR : Rel V U) (hnext : ∀ V' U' : jMem, Rel V' U' → lJ l Z nm 1321 [(3, .int (nI i)), (2, .ref (q' 0)), (1, .ref (q 0)), (0, .ref (Z.2.1 5))] [] (jw Z q V' dX ++ jw Z q' U' dM)) : lJ l Z nm 482 [(3, .int (nI i)), (2, .ref (q' 0)), (1, .ref (q 0)), (0, .ref (Z.2.1 5))] [] (jw Z q V dX ++ jw Z q' U dM) := by
  obtain ⟨r, V', U', e1, e2, hR2⟩ := hop (Z.2.2.2.2 (i + 1)) (Z.2.2.2.2 (i + 2)) V U hR
  refine j_aload_n dL_law_482 rfl rfl ?_
  refine j_aload_n dL_law_483 rfl rfl ?_
  refine j_iload_n dL_law_484 rfl rfl ?_
  refine j_iconst (v := 1) dL_law_485 rfl (by decide) ?_
  refine j_iadd dL_law_486 rfl ?_
  refine l_ld (k := 1) (by decide) dL_law_487 rfl (by omega) hL ?_
  refine j_aload_n dL_law_488 rfl rfl ?_
  refine j_iload_n dL_law_489 rfl rfl ?_
  refine j_iconst (v := 2) dL_law_490 rfl (by decide) ?_
  refine j_iadd dL_law_491 rfl ?_
  refine l_ld (k := 2) (by decide) dL_law_492 rfl (by omega) hL ?_
  refine l_call_i (n1 := 48) (n2 := 12) rfl (jw_len _ _ _ _) l_nd48 l_nd12b kL_47 dL_law_493 rfl (tX4_paperOf e1) rfl rfl rfl rfl rfl (Nat.le_of_ble_eq_true rfl) (by decide) ?_
  refine j_aload_n dL_law_496 rfl rfl ?_
  refine j_aload_n dL_law_497 rfl rfl ?_
  refine j_iload_n dL_law_498 rfl rfl ?_
  refine j_iconst (v := 1) dL_law_499 rfl (by decide) ?_
  refine j_iadd dL_law_500 rfl ?_
  refine l_ld (k := 1) (by decide) dL_law_501 rfl (by omega) hL ?_
  refine j_aload_n dL_law_502 rfl rfl ?_
  refine j_iload_n dL_law_503 rfl rfl ?_
  refine j_iconst (v := 2) dL_law_504 rfl (by decide) ?_
  refine j_iadd dL_law_505 rfl ?_
  refine l_ld (k := 2) (by decide) dL_law_506 rfl (by omega) hL ?_
  refine l_call_i (n1 := 12) (n2 := 48) rfl (jw_len _ _ _ _) l_nd12 l_nd48b kL_50 dL_law_507 rfl (tX5_paperOf e2) rfl rfl rfl rfl rfl (Nat.le_of_ble_eq_true rfl) (by decide) ?_
  refine j_icmp_eq (tgt := 1321) dL_law_510 rfl (by decide) (fun _ => ?_) (fun c => absurd rfl c)
  exact hnext _ _ hR2
set_option maxHeartbeats 4000000 in
set_option maxRecDepth 20000 in
theorem lc_claim {l : Launch} {Z : jZ} {nm : String} {Rel : jMem → jMem → Prop} {q q' : Nat → Nat} {V U : jMem} {i : Nat} (hop : op_claim Rel) (hL : Z.2.1 6 < 2 ^ 31) (hi : i + 6 ≤ Z.2.1 6) (hR : Rel V U) (hnext : ∀ V' U' : jMem, Rel V' U' → lJ l Z nm 1321 [(3, .int (nI i)), (2, .ref (q' 0)), (1, .ref (q 0)), (0, .ref (Z.2.1 5))] [] (jw Z q V' dX ++ jw Z q' U' dM)) : lJ l Z nm 515 [(3, .int (nI i)), (2, .ref (q' 0)), (1, .ref (q 0)), (0, .ref (Z.2.1 5))] [] (jw Z q V dX ++ jw Z q' U dM) := by
  obtain ⟨r, V', U', e1, e2, hR2⟩ := hop (Z.2.2.2.2 (i + 1)) V U hR
  refine j_aload_n dL_law_515 rfl rfl ?_
  refine j_aload_n dL_law_516 rfl rfl ?_
  refine j_iload_n dL_law_517 rfl rfl ?_
  refine j_iconst (v := 1) dL_law_518 rfl (by decide) ?_
  refine j_iadd dL_law_519 rfl ?_
  refine l_ld (k := 1) (by decide) dL_law_520 rfl (by omega) hL ?_
  refine l_call_i (n1 := 48) (n2 := 12) rfl (jw_len _ _ _ _) l_nd48 l_nd12b kL_51 dL_law_521 rfl (tX4_claim e1) rfl rfl rfl rfl rfl (Nat.le_of_ble_eq_true rfl) (by decide) ?_
  refine j_aload_n dL_law_524 rfl rfl ?_
  refine j_aload_n dL_law_525 rfl rfl ?_
  refine j_iload_n dL_law_526 rfl rfl ?_
  refine j_iconst (v := 1) dL_law_527 rfl (by decide) ?_
  refine j_iadd dL_law_528 rfl ?_
  refine l_ld (k := 1) (by decide) dL_law_529 rfl (by omega) hL ?_
  refine l_call_i (n1 := 12) (n2 := 48) rfl (jw_len _ _ _ _) l_nd12 l_nd48b kL_55 dL_law_530 rfl (tX5_claim e2) rfl rfl rfl rfl rfl (Nat.le_of_ble_eq_true rfl) (by decide) ?_
  refine j_icmp_eq (tgt := 1321) dL_law_533 rfl (by decide) (fun _ => ?_) (fun c => absurd rfl c)
  exact hnext _ _ hR2
set_option maxHeartbeats 4000000 in
set_option maxRecDepth 20000 in
theorem lc_county {l : Launch} {Z : jZ} {nm : String} {Rel : jMem → jMem → Prop} {q q' : Nat → Nat} {V U : jMem} {i : Nat} (hop : op_county Rel) (hL : Z.2.1 6 < 2 ^ 31) (hi : i + 6 ≤ Z.2.1 6) (hR : Rel V U) (hnext : ∀ V' U' : jMem, Rel V' U' → lJ l Z nm 1321 [(3, .int (nI i)), (2, .ref (q' 0)), (1, .ref (q 0)), (0, .ref (Z.2.1 5))] [] (jw Z q V' dX ++ jw Z q' U' dM)) : lJ l Z nm 538 [(3, .int (nI i)), (2, .ref (q' 0)), (1, .ref (q 0)), (0, .ref (Z.2.1 5))] [] (jw Z q V dX ++ jw Z q' U dM) := by
  obtain ⟨r, V', U', e1, e2, hR2⟩ := hop (Z.2.2.2.2 (i + 1)) V U hR
  refine j_aload_n dL_law_538 rfl rfl ?_
  refine j_aload_n dL_law_539 rfl rfl ?_
  refine j_iload_n dL_law_540 rfl rfl ?_
  refine j_iconst (v := 1) dL_law_541 rfl (by decide) ?_
  refine j_iadd dL_law_542 rfl ?_
  refine l_ld (k := 1) (by decide) dL_law_543 rfl (by omega) hL ?_
  refine l_call_i (n1 := 48) (n2 := 12) rfl (jw_len _ _ _ _) l_nd48 l_nd12b kL_56 dL_law_544 rfl (tX4_county e1) rfl rfl rfl rfl rfl (Nat.le_of_ble_eq_true rfl) (by decide) ?_
  refine j_aload_n dL_law_547 rfl rfl ?_
  refine j_aload_n dL_law_548 rfl rfl ?_
  refine j_iload_n dL_law_549 rfl rfl ?_
  refine j_iconst (v := 1) dL_law_550 rfl (by decide) ?_
  refine j_iadd dL_law_551 rfl ?_
  refine l_ld (k := 1) (by decide) dL_law_552 rfl (by omega) hL ?_
  refine l_call_i (n1 := 12) (n2 := 48) rfl (jw_len _ _ _ _) l_nd12 l_nd48b kL_59 dL_law_553 rfl (tX5_county e2) rfl rfl rfl rfl rfl (Nat.le_of_ble_eq_true rfl) (by decide) ?_
  refine j_icmp_eq (tgt := 1321) dL_law_556 rfl (by decide) (fun _ => ?_) (fun c => absurd rfl c)
  exact hnext _ _ hR2
set_option maxHeartbeats 4000000 in
set_option maxRecDepth 20000 in
theorem lc_month {l : Launch} {Z : jZ} {nm : String} {Rel : jMem → jMem → Prop} {q q' : Nat → Nat} {V U : jMem} {i : Nat} (hop : op_month Rel) (hL : Z.2.1 6 < 2 ^ 31) (hi : i + 6 ≤ Z.2.1 6) (hR : Rel V U) (hnext : ∀ V' U' : jMem, Rel V' U' → lJ l Z nm 1321 [(3, .int (nI i)), (2, .ref (q' 0)), (1, .ref (q 0)), (0, .ref (Z.2.1 5))] [] (jw Z q V' dX ++ jw Z q' U' dM)) : lJ l Z nm 561 [(3, .int (nI i)), (2, .ref (q' 0)), (1, .ref (q 0)), (0, .ref (Z.2.1 5))] [] (jw Z q V dX ++ jw Z q' U dM) := by
  obtain ⟨r, V', U', e1, e2, hR2⟩ := hop  V U hR
  refine j_aload_n dL_law_561 rfl rfl ?_
  refine l_call_i (n1 := 48) (n2 := 12) rfl (jw_len _ _ _ _) l_nd48 l_nd12b kL_60 dL_law_562 rfl (tX4_month e1) rfl rfl rfl rfl rfl (Nat.le_of_ble_eq_true rfl) (by decide) ?_
  refine j_aload_n dL_law_565 rfl rfl ?_
  refine l_call_i (n1 := 12) (n2 := 48) rfl (jw_len _ _ _ _) l_nd12 l_nd48b kL_64 dL_law_566 rfl (tX5_month e2) rfl rfl rfl rfl rfl (Nat.le_of_ble_eq_true rfl) (by decide) ?_
  refine j_icmp_eq (tgt := 1321) dL_law_569 rfl (by decide) (fun _ => ?_) (fun c => absurd rfl c)
  exact hnext _ _ hR2
set_option maxHeartbeats 4000000 in
set_option maxRecDepth 20000 in
theorem lc_seed {l : Launch} {Z : jZ} {nm : String} {Rel : jMem → jMem → Prop} {q q' : Nat → Nat} {V U : jMem} {i : Nat} (hop : op_seed Rel) (hL : Z.2.1 6 < 2 ^ 31) (hi : i + 6 ≤ Z.2.1 6) (hR : Rel V U) (hnext : ∀ V' U' : jMem, Rel V' U' → lJ l Z nm 1321 [(3, .int (nI i)), (2, .ref (q' 0)), (1, .ref (q 0)), (0, .ref (Z.2.1 5))] [] (jw Z q V' dX ++ jw Z q' U' dM)) : lJ l Z nm 574 [(3, .int (nI i)), (2, .ref (q' 0)), (1, .ref (q 0)), (0, .ref (Z.2.1 5))] [] (jw Z q V dX ++ jw Z q' U dM) := by
  obtain ⟨r, V', U', e1, e2, hR2⟩ := hop (Z.2.2.2.2 (i + 1)) V U hR
  refine j_aload_n dL_law_574 rfl rfl ?_
  refine j_aload_n dL_law_575 rfl rfl ?_
  refine j_iload_n dL_law_576 rfl rfl ?_
  refine j_iconst (v := 1) dL_law_577 rfl (by decide) ?_
  refine j_iadd dL_law_578 rfl ?_
  refine l_ld (k := 1) (by decide) dL_law_579 rfl (by omega) hL ?_
  refine l_call_i (n1 := 48) (n2 := 12) rfl (jw_len _ _ _ _) l_nd48 l_nd12b kL_65 dL_law_580 rfl (tX4_seed e1) rfl rfl rfl rfl rfl (Nat.le_of_ble_eq_true rfl) (by decide) ?_
  refine j_aload_n dL_law_583 rfl rfl ?_
  refine j_aload_n dL_law_584 rfl rfl ?_
  refine j_iload_n dL_law_585 rfl rfl ?_
  refine j_iconst (v := 1) dL_law_586 rfl (by decide) ?_
  refine j_iadd dL_law_587 rfl ?_
  refine l_ld (k := 1) (by decide) dL_law_588 rfl (by omega) hL ?_
  refine l_call_i (n1 := 12) (n2 := 48) rfl (jw_len _ _ _ _) l_nd12 l_nd48b kL_68 dL_law_589 rfl (tX5_seed e2) rfl rfl rfl rfl rfl (Nat.le_of_ble_eq_true rfl) (by decide) ?_
  refine j_icmp_eq (tgt := 1321) dL_law_592 rfl (by decide) (fun _ => ?_) (fun c => absurd rfl c)
  exact hnext _ _ hR2
set_option maxHeartbeats 4000000 in
set_option maxRecDepth 20000 in
theorem lc_stands {l : Launch} {Z : jZ} {nm : String} {Rel : jMem → jMem → Prop} {q q' : Nat → Nat} {V U : jMem} {i : Nat} (hop : op_stands Rel) (hL : Z.2.1 6 < 2 ^ 31) (hi : i + 6 ≤ Z.2.1 6) (hR : Rel V U) (hnext : ∀ V' U' : jMem, Rel V' U' → lJ l Z nm 1321 [(3, .int (nI i)), (2, .ref (q' 0)), (1, .ref (q 0)), (0, .ref (Z.2.1 5))] [] (jw Z q V' dX ++ jw Z q' U' dM)) : lJ l Z nm 597 [(3, .int (nI i)), (2, .ref (q' 0)), (1, .ref (q 0)), (0, .ref (Z.2.1 5))] [] (jw Z q V dX ++ jw Z q' U dM) := by
  obtain ⟨r, V', U', e1, e2, hR2⟩ := hop (Z.2.2.2.2 (i + 1)) V U hR
  refine j_aload_n dL_law_597 rfl rfl ?_
  refine j_aload_n dL_law_598 rfl rfl ?_
  refine j_iload_n dL_law_599 rfl rfl ?_
  refine j_iconst (v := 1) dL_law_600 rfl (by decide) ?_
  refine j_iadd dL_law_601 rfl ?_
  refine l_ld (k := 1) (by decide) dL_law_602 rfl (by omega) hL ?_
  refine l_call_l (n1 := 48) (n2 := 12) rfl (jw_len _ _ _ _) l_nd48 l_nd12b kL_69 dL_law_603 rfl (tX4_stands e1) rfl rfl rfl rfl rfl (Nat.le_of_ble_eq_true rfl) (by decide) ?_
  refine j_aload_n dL_law_606 rfl rfl ?_
  refine j_aload_n dL_law_607 rfl rfl ?_
  refine j_iload_n dL_law_608 rfl rfl ?_
  refine j_iconst (v := 1) dL_law_609 rfl (by decide) ?_
  refine j_iadd dL_law_610 rfl ?_
  refine l_ld (k := 1) (by decide) dL_law_611 rfl (by omega) hL ?_
  refine l_call_l (n1 := 12) (n2 := 48) rfl (jw_len _ _ _ _) l_nd12 l_nd48b kL_73 dL_law_612 rfl (tX5_stands e2) rfl rfl rfl rfl rfl (Nat.le_of_ble_eq_true rfl) (by decide) ?_
  refine j_lcmp dL_law_615 rfl ?_
  refine j_if_eq (tgt := 1321) dL_law_616 rfl (by decide) (fun _ => ?_) (fun c => absurd (l_cmp r) c)
  exact hnext _ _ hR2
set_option maxHeartbeats 4000000 in
set_option maxRecDepth 20000 in
theorem lc_strip {l : Launch} {Z : jZ} {nm : String} {Rel : jMem → jMem → Prop} {q q' : Nat → Nat} {V U : jMem} {i : Nat} (hop : op_strip Rel) (hL : Z.2.1 6 < 2 ^ 31) (hi : i + 6 ≤ Z.2.1 6) (hR : Rel V U) (hnext : ∀ V' U' : jMem, Rel V' U' → lJ l Z nm 1321 [(3, .int (nI i)), (2, .ref (q' 0)), (1, .ref (q 0)), (0, .ref (Z.2.1 5))] [] (jw Z q V' dX ++ jw Z q' U' dM)) : lJ l Z nm 621 [(3, .int (nI i)), (2, .ref (q' 0)), (1, .ref (q 0)), (0, .ref (Z.2.1 5))] [] (jw Z q V dX ++ jw Z q' U dM) := by
  obtain ⟨r, V', U', e1, e2, hR2⟩ := hop (Z.2.2.2.2 (i + 1)) (Z.2.2.2.2 (i + 2)) V U hR
  refine j_aload_n dL_law_621 rfl rfl ?_
  refine j_aload_n dL_law_622 rfl rfl ?_
  refine j_iload_n dL_law_623 rfl rfl ?_
  refine j_iconst (v := 1) dL_law_624 rfl (by decide) ?_
  refine j_iadd dL_law_625 rfl ?_
  refine l_ld (k := 1) (by decide) dL_law_626 rfl (by omega) hL ?_
  refine j_aload_n dL_law_627 rfl rfl ?_
  refine j_iload_n dL_law_628 rfl rfl ?_
  refine j_iconst (v := 2) dL_law_629 rfl (by decide) ?_
  refine j_iadd dL_law_630 rfl ?_
  refine l_ld (k := 2) (by decide) dL_law_631 rfl (by omega) hL ?_
  refine l_call_i (n1 := 48) (n2 := 12) rfl (jw_len _ _ _ _) l_nd48 l_nd12b kL_74 dL_law_632 rfl (tX4_strip e1) rfl rfl rfl rfl rfl (Nat.le_of_ble_eq_true rfl) (by decide) ?_
  refine j_aload_n dL_law_635 rfl rfl ?_
  refine j_aload_n dL_law_636 rfl rfl ?_
  refine j_iload_n dL_law_637 rfl rfl ?_
  refine j_iconst (v := 1) dL_law_638 rfl (by decide) ?_
  refine j_iadd dL_law_639 rfl ?_
  refine l_ld (k := 1) (by decide) dL_law_640 rfl (by omega) hL ?_
  refine j_aload_n dL_law_641 rfl rfl ?_
  refine j_iload_n dL_law_642 rfl rfl ?_
  refine j_iconst (v := 2) dL_law_643 rfl (by decide) ?_
  refine j_iadd dL_law_644 rfl ?_
  refine l_ld (k := 2) (by decide) dL_law_645 rfl (by omega) hL ?_
  refine l_call_i (n1 := 12) (n2 := 48) rfl (jw_len _ _ _ _) l_nd12 l_nd48b kL_77 dL_law_646 rfl (tX5_strip e2) rfl rfl rfl rfl rfl (Nat.le_of_ble_eq_true rfl) (by decide) ?_
  refine j_icmp_eq (tgt := 1321) dL_law_649 rfl (by decide) (fun _ => ?_) (fun c => absurd rfl c)
  exact hnext _ _ hR2
set_option maxHeartbeats 4000000 in
set_option maxRecDepth 20000 in
theorem lc_stripOf {l : Launch} {Z : jZ} {nm : String} {Rel : jMem → jMem → Prop} {q q' : Nat → Nat} {V U : jMem} {i : Nat} (hop : op_stripOf Rel) (hL : Z.2.1 6 < 2 ^ 31) (hi : i + 6 ≤ Z.2.1 6) (hR : Rel V U) (hnext : ∀ V' U' : jMem, Rel V' U' → lJ l Z nm 1321 [(3, .int (nI i)), (2, .ref (q' 0)), (1, .ref (q 0)), (0, .ref (Z.2.1 5))] [] (jw Z q V' dX ++ jw Z q' U' dM)) : lJ l Z nm 654 [(3, .int (nI i)), (2, .ref (q' 0)), (1, .ref (q 0)), (0, .ref (Z.2.1 5))] [] (jw Z q V dX ++ jw Z q' U dM) := by
  obtain ⟨r, V', U', e1, e2, hR2⟩ := hop (Z.2.2.2.2 (i + 1)) (Z.2.2.2.2 (i + 2)) V U hR
  refine j_aload_n dL_law_654 rfl rfl ?_
  refine j_aload_n dL_law_655 rfl rfl ?_
  refine j_iload_n dL_law_656 rfl rfl ?_
  refine j_iconst (v := 1) dL_law_657 rfl (by decide) ?_
  refine j_iadd dL_law_658 rfl ?_
  refine l_ld (k := 1) (by decide) dL_law_659 rfl (by omega) hL ?_
  refine j_aload_n dL_law_660 rfl rfl ?_
  refine j_iload_n dL_law_661 rfl rfl ?_
  refine j_iconst (v := 2) dL_law_662 rfl (by decide) ?_
  refine j_iadd dL_law_663 rfl ?_
  refine l_ld (k := 2) (by decide) dL_law_664 rfl (by omega) hL ?_
  refine l_call_i (n1 := 48) (n2 := 12) rfl (jw_len _ _ _ _) l_nd48 l_nd12b kL_78 dL_law_665 rfl (tX4_stripOf e1) rfl rfl rfl rfl rfl (Nat.le_of_ble_eq_true rfl) (by decide) ?_
  refine j_aload_n dL_law_668 rfl rfl ?_
  refine j_aload_n dL_law_669 rfl rfl ?_
  refine j_iload_n dL_law_670 rfl rfl ?_
  refine j_iconst (v := 1) dL_law_671 rfl (by decide) ?_
  refine j_iadd dL_law_672 rfl ?_
  refine l_ld (k := 1) (by decide) dL_law_673 rfl (by omega) hL ?_
  refine j_aload_n dL_law_674 rfl rfl ?_
  refine j_iload_n dL_law_675 rfl rfl ?_
  refine j_iconst (v := 2) dL_law_676 rfl (by decide) ?_
  refine j_iadd dL_law_677 rfl ?_
  refine l_ld (k := 2) (by decide) dL_law_678 rfl (by omega) hL ?_
  refine l_call_i (n1 := 12) (n2 := 48) rfl (jw_len _ _ _ _) l_nd12 l_nd48b kL_81 dL_law_679 rfl (tX5_stripOf e2) rfl rfl rfl rfl rfl (Nat.le_of_ble_eq_true rfl) (by decide) ?_
  refine j_icmp_eq (tgt := 1321) dL_law_682 rfl (by decide) (fun _ => ?_) (fun c => absurd rfl c)
  exact hnext _ _ hR2
set_option maxHeartbeats 4000000 in
set_option maxRecDepth 20000 in
theorem lc_had {l : Launch} {Z : jZ} {nm : String} {Rel : jMem → jMem → Prop} {q q' : Nat → Nat} {V U : jMem} {i : Nat} (hop : op_had Rel) (hL : Z.2.1 6 < 2 ^ 31) (hi : i + 6 ≤ Z.2.1 6) (hR : Rel V U) (hnext : ∀ V' U' : jMem, Rel V' U' → lJ l Z nm 1321 [(3, .int (nI i)), (2, .ref (q' 0)), (1, .ref (q 0)), (0, .ref (Z.2.1 5))] [] (jw Z q V' dX ++ jw Z q' U' dM)) : lJ l Z nm 687 [(3, .int (nI i)), (2, .ref (q' 0)), (1, .ref (q 0)), (0, .ref (Z.2.1 5))] [] (jw Z q V dX ++ jw Z q' U dM) := by
  obtain ⟨r, e1, e2, hR2⟩ := hop  V U hR
  refine j_aload_n dL_law_687 rfl rfl ?_
  refine l_call_i (n1 := 48) (n2 := 12) rfl (jw_len _ _ _ _) l_nd48 l_nd12b kL_82 dL_law_688 rfl (tX4_had e1) rfl rfl rfl rfl rfl (Nat.le_of_ble_eq_true rfl) (by decide) ?_
  refine j_aload_n dL_law_691 rfl rfl ?_
  refine l_call_i (n1 := 12) (n2 := 48) rfl (jw_len _ _ _ _) l_nd12 l_nd48b kL_85 dL_law_692 rfl (tX5_had e2) rfl rfl rfl rfl rfl (Nat.le_of_ble_eq_true rfl) (by decide) ?_
  refine j_icmp_eq (tgt := 1321) dL_law_695 rfl (by decide) (fun _ => ?_) (fun c => absurd rfl c)
  exact hnext _ _ hR2
set_option maxHeartbeats 4000000 in
set_option maxRecDepth 20000 in
theorem lc_least {l : Launch} {Z : jZ} {nm : String} {Rel : jMem → jMem → Prop} {q q' : Nat → Nat} {V U : jMem} {i : Nat} (hop : op_least Rel) (hL : Z.2.1 6 < 2 ^ 31) (hi : i + 6 ≤ Z.2.1 6) (hR : Rel V U) (hnext : ∀ V' U' : jMem, Rel V' U' → lJ l Z nm 1321 [(3, .int (nI i)), (2, .ref (q' 0)), (1, .ref (q 0)), (0, .ref (Z.2.1 5))] [] (jw Z q V' dX ++ jw Z q' U' dM)) : lJ l Z nm 700 [(3, .int (nI i)), (2, .ref (q' 0)), (1, .ref (q 0)), (0, .ref (Z.2.1 5))] [] (jw Z q V dX ++ jw Z q' U dM) := by
  obtain ⟨r, V', U', e1, e2, hR2⟩ := hop (Z.2.2.2.2 (i + 1)) V U hR
  refine j_aload_n dL_law_700 rfl rfl ?_
  refine j_aload_n dL_law_701 rfl rfl ?_
  refine j_iload_n dL_law_702 rfl rfl ?_
  refine j_iconst (v := 1) dL_law_703 rfl (by decide) ?_
  refine j_iadd dL_law_704 rfl ?_
  refine l_ld (k := 1) (by decide) dL_law_705 rfl (by omega) hL ?_
  refine l_call_i (n1 := 48) (n2 := 12) rfl (jw_len _ _ _ _) l_nd48 l_nd12b kL_86 dL_law_706 rfl (tX4_least e1) rfl rfl rfl rfl rfl (Nat.le_of_ble_eq_true rfl) (by decide) ?_
  refine j_aload_n dL_law_709 rfl rfl ?_
  refine j_aload_n dL_law_710 rfl rfl ?_
  refine j_iload_n dL_law_711 rfl rfl ?_
  refine j_iconst (v := 1) dL_law_712 rfl (by decide) ?_
  refine j_iadd dL_law_713 rfl ?_
  refine l_ld (k := 1) (by decide) dL_law_714 rfl (by omega) hL ?_
  refine l_call_i (n1 := 12) (n2 := 48) rfl (jw_len _ _ _ _) l_nd12 l_nd48b kL_89 dL_law_715 rfl (tX5_least e2) rfl rfl rfl rfl rfl (Nat.le_of_ble_eq_true rfl) (by decide) ?_
  refine j_icmp_eq (tgt := 1321) dL_law_718 rfl (by decide) (fun _ => ?_) (fun c => absurd rfl c)
  exact hnext _ _ hR2
set_option maxHeartbeats 4000000 in
set_option maxRecDepth 20000 in
theorem lc_order {l : Launch} {Z : jZ} {nm : String} {Rel : jMem → jMem → Prop} {q q' : Nat → Nat} {V U : jMem} {i : Nat} (hop : op_order Rel) (hL : Z.2.1 6 < 2 ^ 31) (hi : i + 6 ≤ Z.2.1 6) (hR : Rel V U) (hnext : ∀ V' U' : jMem, Rel V' U' → lJ l Z nm 1321 [(3, .int (nI i)), (2, .ref (q' 0)), (1, .ref (q 0)), (0, .ref (Z.2.1 5))] [] (jw Z q V' dX ++ jw Z q' U' dM)) : lJ l Z nm 723 [(3, .int (nI i)), (2, .ref (q' 0)), (1, .ref (q 0)), (0, .ref (Z.2.1 5))] [] (jw Z q V dX ++ jw Z q' U dM) := by
  obtain ⟨r, V', U', e1, e2, hR2⟩ := hop (Z.2.2.2.2 (i + 1)) (Z.2.2.2.2 (i + 2)) V U hR
  refine j_aload_n dL_law_723 rfl rfl ?_
  refine j_aload_n dL_law_724 rfl rfl ?_
  refine j_iload_n dL_law_725 rfl rfl ?_
  refine j_iconst (v := 1) dL_law_726 rfl (by decide) ?_
  refine j_iadd dL_law_727 rfl ?_
  refine l_ld (k := 1) (by decide) dL_law_728 rfl (by omega) hL ?_
  refine j_aload_n dL_law_729 rfl rfl ?_
  refine j_iload_n dL_law_730 rfl rfl ?_
  refine j_iconst (v := 2) dL_law_731 rfl (by decide) ?_
  refine j_iadd dL_law_732 rfl ?_
  refine l_ld (k := 2) (by decide) dL_law_733 rfl (by omega) hL ?_
  refine l_call_i (n1 := 48) (n2 := 12) rfl (jw_len _ _ _ _) l_nd48 l_nd12b kL_90 dL_law_734 rfl (tX4_order e1) rfl rfl rfl rfl rfl (Nat.le_of_ble_eq_true rfl) (by decide) ?_
  refine j_aload_n dL_law_737 rfl rfl ?_
  refine j_aload_n dL_law_738 rfl rfl ?_
  refine j_iload_n dL_law_739 rfl rfl ?_
  refine j_iconst (v := 1) dL_law_740 rfl (by decide) ?_
  refine j_iadd dL_law_741 rfl ?_
  refine l_ld (k := 1) (by decide) dL_law_742 rfl (by omega) hL ?_
  refine j_aload_n dL_law_743 rfl rfl ?_
  refine j_iload_n dL_law_744 rfl rfl ?_
  refine j_iconst (v := 2) dL_law_745 rfl (by decide) ?_
  refine j_iadd dL_law_746 rfl ?_
  refine l_ld (k := 2) (by decide) dL_law_747 rfl (by omega) hL ?_
  refine l_call_i (n1 := 12) (n2 := 48) rfl (jw_len _ _ _ _) l_nd12 l_nd48b kL_93 dL_law_748 rfl (tX5_order e2) rfl rfl rfl rfl rfl (Nat.le_of_ble_eq_true rfl) (by decide) ?_
  refine j_icmp_eq (tgt := 1321) dL_law_751 rfl (by decide) (fun _ => ?_) (fun c => absurd rfl c)
  exact hnext _ _ hR2
set_option maxHeartbeats 4000000 in
set_option maxRecDepth 20000 in
theorem lc_best {l : Launch} {Z : jZ} {nm : String} {Rel : jMem → jMem → Prop} {q q' : Nat → Nat} {V U : jMem} {i : Nat} (hop : op_best Rel) (hL : Z.2.1 6 < 2 ^ 31) (hi : i + 6 ≤ Z.2.1 6) (hR : Rel V U) (hnext : ∀ V' U' : jMem, Rel V' U' → lJ l Z nm 1321 [(3, .int (nI i)), (2, .ref (q' 0)), (1, .ref (q 0)), (0, .ref (Z.2.1 5))] [] (jw Z q V' dX ++ jw Z q' U' dM)) : lJ l Z nm 756 [(3, .int (nI i)), (2, .ref (q' 0)), (1, .ref (q 0)), (0, .ref (Z.2.1 5))] [] (jw Z q V dX ++ jw Z q' U dM) := by
  obtain ⟨r, V', U', e1, e2, hR2⟩ := hop  V U hR
  refine j_aload_n dL_law_756 rfl rfl ?_
  refine l_call_i (n1 := 48) (n2 := 12) rfl (jw_len _ _ _ _) l_nd48 l_nd12b kL_94 dL_law_757 rfl (tX4_best e1) rfl rfl rfl rfl rfl (Nat.le_of_ble_eq_true rfl) (by decide) ?_
  refine j_aload_n dL_law_760 rfl rfl ?_
  refine l_call_i (n1 := 12) (n2 := 48) rfl (jw_len _ _ _ _) l_nd12 l_nd48b kL_97 dL_law_761 rfl (tX5_best e2) rfl rfl rfl rfl rfl (Nat.le_of_ble_eq_true rfl) (by decide) ?_
  refine j_icmp_eq (tgt := 1321) dL_law_764 rfl (by decide) (fun _ => ?_) (fun c => absurd rfl c)
  exact hnext _ _ hR2
set_option maxHeartbeats 4000000 in
set_option maxRecDepth 20000 in
theorem lc_last {l : Launch} {Z : jZ} {nm : String} {Rel : jMem → jMem → Prop} {q q' : Nat → Nat} {V U : jMem} {i : Nat} (hop : op_last Rel) (hL : Z.2.1 6 < 2 ^ 31) (hi : i + 6 ≤ Z.2.1 6) (hR : Rel V U) (hnext : ∀ V' U' : jMem, Rel V' U' → lJ l Z nm 1321 [(3, .int (nI i)), (2, .ref (q' 0)), (1, .ref (q 0)), (0, .ref (Z.2.1 5))] [] (jw Z q V' dX ++ jw Z q' U' dM)) : lJ l Z nm 769 [(3, .int (nI i)), (2, .ref (q' 0)), (1, .ref (q 0)), (0, .ref (Z.2.1 5))] [] (jw Z q V dX ++ jw Z q' U dM) := by
  obtain ⟨r, V', U', e1, e2, hR2⟩ := hop (Z.2.2.2.2 (i + 1)) (Z.2.2.2.2 (i + 2)) V U hR
  refine j_aload_n dL_law_769 rfl rfl ?_
  refine j_aload_n dL_law_770 rfl rfl ?_
  refine j_iload_n dL_law_771 rfl rfl ?_
  refine j_iconst (v := 1) dL_law_772 rfl (by decide) ?_
  refine j_iadd dL_law_773 rfl ?_
  refine l_ld (k := 1) (by decide) dL_law_774 rfl (by omega) hL ?_
  refine j_aload_n dL_law_775 rfl rfl ?_
  refine j_iload_n dL_law_776 rfl rfl ?_
  refine j_iconst (v := 2) dL_law_777 rfl (by decide) ?_
  refine j_iadd dL_law_778 rfl ?_
  refine l_ld (k := 2) (by decide) dL_law_779 rfl (by omega) hL ?_
  refine l_call_i (n1 := 48) (n2 := 12) rfl (jw_len _ _ _ _) l_nd48 l_nd12b kL_98 dL_law_780 rfl (tX4_last e1) rfl rfl rfl rfl rfl (Nat.le_of_ble_eq_true rfl) (by decide) ?_
  refine j_aload_n dL_law_783 rfl rfl ?_
  refine j_aload_n dL_law_784 rfl rfl ?_
  refine j_iload_n dL_law_785 rfl rfl ?_
  refine j_iconst (v := 1) dL_law_786 rfl (by decide) ?_
  refine j_iadd dL_law_787 rfl ?_
  refine l_ld (k := 1) (by decide) dL_law_788 rfl (by omega) hL ?_
  refine j_aload_n dL_law_789 rfl rfl ?_
  refine j_iload_n dL_law_790 rfl rfl ?_
  refine j_iconst (v := 2) dL_law_791 rfl (by decide) ?_
  refine j_iadd dL_law_792 rfl ?_
  refine l_ld (k := 2) (by decide) dL_law_793 rfl (by omega) hL ?_
  refine l_call_i (n1 := 12) (n2 := 48) rfl (jw_len _ _ _ _) l_nd12 l_nd48b kL_101 dL_law_794 rfl (tX5_last e2) rfl rfl rfl rfl rfl (Nat.le_of_ble_eq_true rfl) (by decide) ?_
  refine j_icmp_eq (tgt := 1321) dL_law_797 rfl (by decide) (fun _ => ?_) (fun c => absurd rfl c)
  exact hnext _ _ hR2
set_option maxHeartbeats 4000000 in
set_option maxRecDepth 20000 in
theorem lc_giveUp {l : Launch} {Z : jZ} {nm : String} {Rel : jMem → jMem → Prop} {q q' : Nat → Nat} {V U : jMem} {i : Nat} (hop : op_giveUp Rel) (hL : Z.2.1 6 < 2 ^ 31) (hi : i + 6 ≤ Z.2.1 6) (hR : Rel V U) (hnext : ∀ V' U' : jMem, Rel V' U' → lJ l Z nm 1321 [(3, .int (nI i)), (2, .ref (q' 0)), (1, .ref (q 0)), (0, .ref (Z.2.1 5))] [] (jw Z q V' dX ++ jw Z q' U' dM)) : lJ l Z nm 802 [(3, .int (nI i)), (2, .ref (q' 0)), (1, .ref (q 0)), (0, .ref (Z.2.1 5))] [] (jw Z q V dX ++ jw Z q' U dM) := by
  obtain ⟨r, V', U', e1, e2, hR2⟩ := hop (Z.2.2.2.2 (i + 1)) V U hR
  refine j_aload_n dL_law_802 rfl rfl ?_
  refine j_aload_n dL_law_803 rfl rfl ?_
  refine j_iload_n dL_law_804 rfl rfl ?_
  refine j_iconst (v := 1) dL_law_805 rfl (by decide) ?_
  refine j_iadd dL_law_806 rfl ?_
  refine l_ld (k := 1) (by decide) dL_law_807 rfl (by omega) hL ?_
  refine l_call_i (n1 := 48) (n2 := 12) rfl (jw_len _ _ _ _) l_nd48 l_nd12b kL_102 dL_law_808 rfl (tX4_giveUp e1) rfl rfl rfl rfl rfl (Nat.le_of_ble_eq_true rfl) (by decide) ?_
  refine j_aload_n dL_law_811 rfl rfl ?_
  refine j_aload_n dL_law_812 rfl rfl ?_
  refine j_iload_n dL_law_813 rfl rfl ?_
  refine j_iconst (v := 1) dL_law_814 rfl (by decide) ?_
  refine j_iadd dL_law_815 rfl ?_
  refine l_ld (k := 1) (by decide) dL_law_816 rfl (by omega) hL ?_
  refine l_call_i (n1 := 12) (n2 := 48) rfl (jw_len _ _ _ _) l_nd12 l_nd48b kL_105 dL_law_817 rfl (tX5_giveUp e2) rfl rfl rfl rfl rfl (Nat.le_of_ble_eq_true rfl) (by decide) ?_
  refine j_icmp_eq (tgt := 1321) dL_law_820 rfl (by decide) (fun _ => ?_) (fun c => absurd rfl c)
  exact hnext _ _ hR2
set_option maxHeartbeats 4000000 in
set_option maxRecDepth 20000 in
theorem lc_rights {l : Launch} {Z : jZ} {nm : String} {Rel : jMem → jMem → Prop} {q q' : Nat → Nat} {V U : jMem} {i : Nat} (hop : op_rights Rel) (hL : Z.2.1 6 < 2 ^ 31) (hi : i + 6 ≤ Z.2.1 6) (hR : Rel V U) (hnext : ∀ V' U' : jMem, Rel V' U' → lJ l Z nm 1321 [(3, .int (nI i)), (2, .ref (q' 0)), (1, .ref (q 0)), (0, .ref (Z.2.1 5))] [] (jw Z q V' dX ++ jw Z q' U' dM)) : lJ l Z nm 825 [(3, .int (nI i)), (2, .ref (q' 0)), (1, .ref (q 0)), (0, .ref (Z.2.1 5))] [] (jw Z q V dX ++ jw Z q' U dM) := by
  obtain ⟨r, V', U', e1, e2, hR2⟩ := hop (Z.2.2.2.2 (i + 1)) V U hR
  refine j_aload_n dL_law_825 rfl rfl ?_
  refine j_aload_n dL_law_826 rfl rfl ?_
  refine j_iload_n dL_law_827 rfl rfl ?_
  refine j_iconst (v := 1) dL_law_828 rfl (by decide) ?_
  refine j_iadd dL_law_829 rfl ?_
  refine l_ld (k := 1) (by decide) dL_law_830 rfl (by omega) hL ?_
  refine l_call_i (n1 := 48) (n2 := 12) rfl (jw_len _ _ _ _) l_nd48 l_nd12b kL_106 dL_law_831 rfl (tX4_rights e1) rfl rfl rfl rfl rfl (Nat.le_of_ble_eq_true rfl) (by decide) ?_
  refine j_aload_n dL_law_834 rfl rfl ?_
  refine j_aload_n dL_law_835 rfl rfl ?_
  refine j_iload_n dL_law_836 rfl rfl ?_
  refine j_iconst (v := 1) dL_law_837 rfl (by decide) ?_
  refine j_iadd dL_law_838 rfl ?_
  refine l_ld (k := 1) (by decide) dL_law_839 rfl (by omega) hL ?_
  refine l_call_i (n1 := 12) (n2 := 48) rfl (jw_len _ _ _ _) l_nd12 l_nd48b kL_109 dL_law_840 rfl (tX5_rights e2) rfl rfl rfl rfl rfl (Nat.le_of_ble_eq_true rfl) (by decide) ?_
  refine j_icmp_eq (tgt := 1321) dL_law_843 rfl (by decide) (fun _ => ?_) (fun c => absurd rfl c)
  exact hnext _ _ hR2
set_option maxHeartbeats 4000000 in
set_option maxRecDepth 20000 in
theorem lc_share {l : Launch} {Z : jZ} {nm : String} {Rel : jMem → jMem → Prop} {q q' : Nat → Nat} {V U : jMem} {i : Nat} (hop : op_share Rel) (hL : Z.2.1 6 < 2 ^ 31) (hi : i + 6 ≤ Z.2.1 6) (hR : Rel V U) (hnext : ∀ V' U' : jMem, Rel V' U' → lJ l Z nm 1321 [(3, .int (nI i)), (2, .ref (q' 0)), (1, .ref (q 0)), (0, .ref (Z.2.1 5))] [] (jw Z q V' dX ++ jw Z q' U' dM)) : lJ l Z nm 848 [(3, .int (nI i)), (2, .ref (q' 0)), (1, .ref (q 0)), (0, .ref (Z.2.1 5))] [] (jw Z q V dX ++ jw Z q' U dM) := by
  obtain ⟨r, V', U', e1, e2, hR2⟩ := hop (Z.2.2.2.2 (i + 1)) (Z.2.2.2.2 (i + 2)) (Z.2.2.2.2 (i + 3)) V U hR
  refine j_aload_n dL_law_848 rfl rfl ?_
  refine j_aload_n dL_law_849 rfl rfl ?_
  refine j_iload_n dL_law_850 rfl rfl ?_
  refine j_iconst (v := 1) dL_law_851 rfl (by decide) ?_
  refine j_iadd dL_law_852 rfl ?_
  refine l_ld (k := 1) (by decide) dL_law_853 rfl (by omega) hL ?_
  refine j_aload_n dL_law_854 rfl rfl ?_
  refine j_iload_n dL_law_855 rfl rfl ?_
  refine j_iconst (v := 2) dL_law_856 rfl (by decide) ?_
  refine j_iadd dL_law_857 rfl ?_
  refine l_ld (k := 2) (by decide) dL_law_858 rfl (by omega) hL ?_
  refine j_aload_n dL_law_859 rfl rfl ?_
  refine j_iload_n dL_law_860 rfl rfl ?_
  refine j_iconst (v := 3) dL_law_861 rfl (by decide) ?_
  refine j_iadd dL_law_862 rfl ?_
  refine l_ld (k := 3) (by decide) dL_law_863 rfl (by omega) hL ?_
  refine l_call_i (n1 := 48) (n2 := 12) rfl (jw_len _ _ _ _) l_nd48 l_nd12b kL_110 dL_law_864 rfl (tX4_share e1) rfl rfl rfl rfl rfl (Nat.le_of_ble_eq_true rfl) (by decide) ?_
  refine j_aload_n dL_law_867 rfl rfl ?_
  refine j_aload_n dL_law_868 rfl rfl ?_
  refine j_iload_n dL_law_869 rfl rfl ?_
  refine j_iconst (v := 1) dL_law_870 rfl (by decide) ?_
  refine j_iadd dL_law_871 rfl ?_
  refine l_ld (k := 1) (by decide) dL_law_872 rfl (by omega) hL ?_
  refine j_aload_n dL_law_873 rfl rfl ?_
  refine j_iload_n dL_law_874 rfl rfl ?_
  refine j_iconst (v := 2) dL_law_875 rfl (by decide) ?_
  refine j_iadd dL_law_876 rfl ?_
  refine l_ld (k := 2) (by decide) dL_law_877 rfl (by omega) hL ?_
  refine j_aload_n dL_law_878 rfl rfl ?_
  refine j_iload_n dL_law_879 rfl rfl ?_
  refine j_iconst (v := 3) dL_law_880 rfl (by decide) ?_
  refine j_iadd dL_law_881 rfl ?_
  refine l_ld (k := 3) (by decide) dL_law_882 rfl (by omega) hL ?_
  refine l_call_i (n1 := 12) (n2 := 48) rfl (jw_len _ _ _ _) l_nd12 l_nd48b kL_113 dL_law_883 rfl (tX5_share e2) rfl rfl rfl rfl rfl (Nat.le_of_ble_eq_true rfl) (by decide) ?_
  refine j_icmp_eq (tgt := 1321) dL_law_886 rfl (by decide) (fun _ => ?_) (fun c => absurd rfl c)
  exact hnext _ _ hR2
set_option maxHeartbeats 4000000 in
set_option maxRecDepth 20000 in
theorem lc_common {l : Launch} {Z : jZ} {nm : String} {Rel : jMem → jMem → Prop} {q q' : Nat → Nat} {V U : jMem} {i : Nat} (hop : op_common Rel) (hL : Z.2.1 6 < 2 ^ 31) (hi : i + 6 ≤ Z.2.1 6) (hR : Rel V U) (hnext : ∀ V' U' : jMem, Rel V' U' → lJ l Z nm 1321 [(3, .int (nI i)), (2, .ref (q' 0)), (1, .ref (q 0)), (0, .ref (Z.2.1 5))] [] (jw Z q V' dX ++ jw Z q' U' dM)) : lJ l Z nm 891 [(3, .int (nI i)), (2, .ref (q' 0)), (1, .ref (q 0)), (0, .ref (Z.2.1 5))] [] (jw Z q V dX ++ jw Z q' U dM) := by
  obtain ⟨r, V', U', e1, e2, hR2⟩ := hop  V U hR
  refine j_aload_n dL_law_891 rfl rfl ?_
  refine l_call_i (n1 := 48) (n2 := 12) rfl (jw_len _ _ _ _) l_nd48 l_nd12b kL_114 dL_law_892 rfl (tX4_common e1) rfl rfl rfl rfl rfl (Nat.le_of_ble_eq_true rfl) (by decide) ?_
  refine j_aload_n dL_law_895 rfl rfl ?_
  refine l_call_i (n1 := 12) (n2 := 48) rfl (jw_len _ _ _ _) l_nd12 l_nd48b kL_117 dL_law_896 rfl (tX5_common e2) rfl rfl rfl rfl rfl (Nat.le_of_ble_eq_true rfl) (by decide) ?_
  refine j_icmp_eq (tgt := 1321) dL_law_899 rfl (by decide) (fun _ => ?_) (fun c => absurd rfl c)
  exact hnext _ _ hR2
set_option maxHeartbeats 4000000 in
set_option maxRecDepth 20000 in
theorem lc_first {l : Launch} {Z : jZ} {nm : String} {Rel : jMem → jMem → Prop} {q q' : Nat → Nat} {V U : jMem} {i : Nat} (hop : op_first Rel) (hL : Z.2.1 6 < 2 ^ 31) (hi : i + 6 ≤ Z.2.1 6) (hR : Rel V U) (hnext : ∀ V' U' : jMem, Rel V' U' → lJ l Z nm 1321 [(3, .int (nI i)), (2, .ref (q' 0)), (1, .ref (q 0)), (0, .ref (Z.2.1 5))] [] (jw Z q V' dX ++ jw Z q' U' dM)) : lJ l Z nm 904 [(3, .int (nI i)), (2, .ref (q' 0)), (1, .ref (q 0)), (0, .ref (Z.2.1 5))] [] (jw Z q V dX ++ jw Z q' U dM) := by
  obtain ⟨r, V', U', e1, e2, hR2⟩ := hop (Z.2.2.2.2 (i + 1)) V U hR
  refine j_aload_n dL_law_904 rfl rfl ?_
  refine j_aload_n dL_law_905 rfl rfl ?_
  refine j_iload_n dL_law_906 rfl rfl ?_
  refine j_iconst (v := 1) dL_law_907 rfl (by decide) ?_
  refine j_iadd dL_law_908 rfl ?_
  refine l_ld (k := 1) (by decide) dL_law_909 rfl (by omega) hL ?_
  refine l_call_i (n1 := 48) (n2 := 12) rfl (jw_len _ _ _ _) l_nd48 l_nd12b kL_118 dL_law_910 rfl (tX4_first e1) rfl rfl rfl rfl rfl (Nat.le_of_ble_eq_true rfl) (by decide) ?_
  refine j_aload_n dL_law_913 rfl rfl ?_
  refine j_aload_n dL_law_914 rfl rfl ?_
  refine j_iload_n dL_law_915 rfl rfl ?_
  refine j_iconst (v := 1) dL_law_916 rfl (by decide) ?_
  refine j_iadd dL_law_917 rfl ?_
  refine l_ld (k := 1) (by decide) dL_law_918 rfl (by omega) hL ?_
  refine l_call_i (n1 := 12) (n2 := 48) rfl (jw_len _ _ _ _) l_nd12 l_nd48b kL_121 dL_law_919 rfl (tX5_first e2) rfl rfl rfl rfl rfl (Nat.le_of_ble_eq_true rfl) (by decide) ?_
  refine j_icmp_eq (tgt := 1321) dL_law_922 rfl (by decide) (fun _ => ?_) (fun c => absurd rfl c)
  exact hnext _ _ hR2
set_option maxHeartbeats 4000000 in
set_option maxRecDepth 20000 in
theorem lc_feed {l : Launch} {Z : jZ} {nm : String} {Rel : jMem → jMem → Prop} {q q' : Nat → Nat} {V U : jMem} {i : Nat} (hop : op_feed Rel) (hL : Z.2.1 6 < 2 ^ 31) (hi : i + 6 ≤ Z.2.1 6) (hR : Rel V U) (hnext : ∀ V' U' : jMem, Rel V' U' → lJ l Z nm 1321 [(3, .int (nI i)), (2, .ref (q' 0)), (1, .ref (q 0)), (0, .ref (Z.2.1 5))] [] (jw Z q V' dX ++ jw Z q' U' dM)) : lJ l Z nm 927 [(3, .int (nI i)), (2, .ref (q' 0)), (1, .ref (q 0)), (0, .ref (Z.2.1 5))] [] (jw Z q V dX ++ jw Z q' U dM) := by
  obtain ⟨r, V', U', e1, e2, hR2⟩ := hop (Z.2.2.2.2 (i + 1)) (Z.2.2.2.2 (i + 2)) V U hR
  refine j_aload_n dL_law_927 rfl rfl ?_
  refine j_aload_n dL_law_928 rfl rfl ?_
  refine j_iload_n dL_law_929 rfl rfl ?_
  refine j_iconst (v := 1) dL_law_930 rfl (by decide) ?_
  refine j_iadd dL_law_931 rfl ?_
  refine l_ld (k := 1) (by decide) dL_law_932 rfl (by omega) hL ?_
  refine j_aload_n dL_law_933 rfl rfl ?_
  refine j_iload_n dL_law_934 rfl rfl ?_
  refine j_iconst (v := 2) dL_law_935 rfl (by decide) ?_
  refine j_iadd dL_law_936 rfl ?_
  refine l_ld (k := 2) (by decide) dL_law_937 rfl (by omega) hL ?_
  refine l_call_i (n1 := 48) (n2 := 12) rfl (jw_len _ _ _ _) l_nd48 l_nd12b kL_122 dL_law_938 rfl (tX4_feed e1) rfl rfl rfl rfl rfl (Nat.le_of_ble_eq_true rfl) (by decide) ?_
  refine j_aload_n dL_law_941 rfl rfl ?_
  refine j_aload_n dL_law_942 rfl rfl ?_
  refine j_iload_n dL_law_943 rfl rfl ?_
  refine j_iconst (v := 1) dL_law_944 rfl (by decide) ?_
  refine j_iadd dL_law_945 rfl ?_
  refine l_ld (k := 1) (by decide) dL_law_946 rfl (by omega) hL ?_
  refine j_aload_n dL_law_947 rfl rfl ?_
  refine j_iload_n dL_law_948 rfl rfl ?_
  refine j_iconst (v := 2) dL_law_949 rfl (by decide) ?_
  refine j_iadd dL_law_950 rfl ?_
  refine l_ld (k := 2) (by decide) dL_law_951 rfl (by omega) hL ?_
  refine l_call_i (n1 := 12) (n2 := 48) rfl (jw_len _ _ _ _) l_nd12 l_nd48b kL_125 dL_law_952 rfl (tX5_feed e2) rfl rfl rfl rfl rfl (Nat.le_of_ble_eq_true rfl) (by decide) ?_
  refine j_icmp_eq (tgt := 1321) dL_law_955 rfl (by decide) (fun _ => ?_) (fun c => absurd rfl c)
  exact hnext _ _ hR2
set_option maxHeartbeats 4000000 in
set_option maxRecDepth 20000 in
theorem lc_wipe {l : Launch} {Z : jZ} {nm : String} {Rel : jMem → jMem → Prop} {q q' : Nat → Nat} {V U : jMem} {i : Nat} (hop : op_wipe Rel) (hL : Z.2.1 6 < 2 ^ 31) (hi : i + 6 ≤ Z.2.1 6) (hR : Rel V U) (hnext : ∀ V' U' : jMem, Rel V' U' → lJ l Z nm 1321 [(3, .int (nI i)), (2, .ref (q' 0)), (1, .ref (q 0)), (0, .ref (Z.2.1 5))] [] (jw Z q V' dX ++ jw Z q' U' dM)) : lJ l Z nm 960 [(3, .int (nI i)), (2, .ref (q' 0)), (1, .ref (q 0)), (0, .ref (Z.2.1 5))] [] (jw Z q V dX ++ jw Z q' U dM) := by
  obtain ⟨r, V', U', e1, e2, hR2⟩ := hop  V U hR
  refine j_aload_n dL_law_960 rfl rfl ?_
  refine l_call_i (n1 := 48) (n2 := 12) rfl (jw_len _ _ _ _) l_nd48 l_nd12b kL_126 dL_law_961 rfl (tX4_wipe e1) rfl rfl rfl rfl rfl (Nat.le_of_ble_eq_true rfl) (by decide) ?_
  refine j_aload_n dL_law_964 rfl rfl ?_
  refine l_call_i (n1 := 12) (n2 := 48) rfl (jw_len _ _ _ _) l_nd12 l_nd48b kL_129 dL_law_965 rfl (tX5_wipe e2) rfl rfl rfl rfl rfl (Nat.le_of_ble_eq_true rfl) (by decide) ?_
  refine j_icmp_eq (tgt := 1321) dL_law_968 rfl (by decide) (fun _ => ?_) (fun c => absurd rfl c)
  exact hnext _ _ hR2
set_option maxHeartbeats 4000000 in
set_option maxRecDepth 20000 in
theorem lc_plan {l : Launch} {Z : jZ} {nm : String} {Rel : jMem → jMem → Prop} {q q' : Nat → Nat} {V U : jMem} {i : Nat} (hop : op_plan Rel) (hL : Z.2.1 6 < 2 ^ 31) (hi : i + 6 ≤ Z.2.1 6) (hR : Rel V U) (hnext : ∀ V' U' : jMem, Rel V' U' → lJ l Z nm 1321 [(3, .int (nI i)), (2, .ref (q' 0)), (1, .ref (q 0)), (0, .ref (Z.2.1 5))] [] (jw Z q V' dX ++ jw Z q' U' dM)) : lJ l Z nm 973 [(3, .int (nI i)), (2, .ref (q' 0)), (1, .ref (q 0)), (0, .ref (Z.2.1 5))] [] (jw Z q V dX ++ jw Z q' U dM) := by
  obtain ⟨r, V', U', e1, e2, hR2⟩ := hop  V U hR
  refine j_aload_n dL_law_973 rfl rfl ?_
  refine l_call_i (n1 := 48) (n2 := 12) rfl (jw_len _ _ _ _) l_nd48 l_nd12b kL_130 dL_law_974 rfl (tX4_plan e1) rfl rfl rfl rfl rfl (Nat.le_of_ble_eq_true rfl) (by decide) ?_
  refine j_aload_n dL_law_977 rfl rfl ?_
  refine l_call_i (n1 := 12) (n2 := 48) rfl (jw_len _ _ _ _) l_nd12 l_nd48b kL_133 dL_law_978 rfl (tX5_plan e2) rfl rfl rfl rfl rfl (Nat.le_of_ble_eq_true rfl) (by decide) ?_
  refine j_icmp_eq (tgt := 1321) dL_law_981 rfl (by decide) (fun _ => ?_) (fun c => absurd rfl c)
  exact hnext _ _ hR2
set_option maxHeartbeats 4000000 in
set_option maxRecDepth 20000 in
theorem lc_sheet {l : Launch} {Z : jZ} {nm : String} {Rel : jMem → jMem → Prop} {q q' : Nat → Nat} {V U : jMem} {i : Nat} (hop : op_sheet Rel) (hL : Z.2.1 6 < 2 ^ 31) (hi : i + 6 ≤ Z.2.1 6) (hR : Rel V U) (hnext : ∀ V' U' : jMem, Rel V' U' → lJ l Z nm 1321 [(3, .int (nI i)), (2, .ref (q' 0)), (1, .ref (q 0)), (0, .ref (Z.2.1 5))] [] (jw Z q V' dX ++ jw Z q' U' dM)) : lJ l Z nm 986 [(3, .int (nI i)), (2, .ref (q' 0)), (1, .ref (q 0)), (0, .ref (Z.2.1 5))] [] (jw Z q V dX ++ jw Z q' U dM) := by
  obtain ⟨r, V', U', e1, e2, hR2⟩ := hop (Z.2.2.2.2 (i + 1)) (Z.2.2.2.2 (i + 2)) (Z.2.2.2.2 (i + 3)) V U hR
  refine j_aload_n dL_law_986 rfl rfl ?_
  refine j_aload_n dL_law_987 rfl rfl ?_
  refine j_iload_n dL_law_988 rfl rfl ?_
  refine j_iconst (v := 1) dL_law_989 rfl (by decide) ?_
  refine j_iadd dL_law_990 rfl ?_
  refine l_ld (k := 1) (by decide) dL_law_991 rfl (by omega) hL ?_
  refine j_aload_n dL_law_992 rfl rfl ?_
  refine j_iload_n dL_law_993 rfl rfl ?_
  refine j_iconst (v := 2) dL_law_994 rfl (by decide) ?_
  refine j_iadd dL_law_995 rfl ?_
  refine l_ld (k := 2) (by decide) dL_law_996 rfl (by omega) hL ?_
  refine j_aload_n dL_law_997 rfl rfl ?_
  refine j_iload_n dL_law_998 rfl rfl ?_
  refine j_iconst (v := 3) dL_law_999 rfl (by decide) ?_
  refine j_iadd dL_law_1000 rfl ?_
  refine l_ld (k := 3) (by decide) dL_law_1001 rfl (by omega) hL ?_
  refine l_call_i (n1 := 48) (n2 := 12) rfl (jw_len _ _ _ _) l_nd48 l_nd12b kL_134 dL_law_1002 rfl (tX4_sheet e1) rfl rfl rfl rfl rfl (Nat.le_of_ble_eq_true rfl) (by decide) ?_
  refine j_aload_n dL_law_1005 rfl rfl ?_
  refine j_aload_n dL_law_1006 rfl rfl ?_
  refine j_iload_n dL_law_1007 rfl rfl ?_
  refine j_iconst (v := 1) dL_law_1008 rfl (by decide) ?_
  refine j_iadd dL_law_1009 rfl ?_
  refine l_ld (k := 1) (by decide) dL_law_1010 rfl (by omega) hL ?_
  refine j_aload_n dL_law_1011 rfl rfl ?_
  refine j_iload_n dL_law_1012 rfl rfl ?_
  refine j_iconst (v := 2) dL_law_1013 rfl (by decide) ?_
  refine j_iadd dL_law_1014 rfl ?_
  refine l_ld (k := 2) (by decide) dL_law_1015 rfl (by omega) hL ?_
  refine j_aload_n dL_law_1016 rfl rfl ?_
  refine j_iload_n dL_law_1017 rfl rfl ?_
  refine j_iconst (v := 3) dL_law_1018 rfl (by decide) ?_
  refine j_iadd dL_law_1019 rfl ?_
  refine l_ld (k := 3) (by decide) dL_law_1020 rfl (by omega) hL ?_
  refine l_call_i (n1 := 12) (n2 := 48) rfl (jw_len _ _ _ _) l_nd12 l_nd48b kL_137 dL_law_1021 rfl (tX5_sheet e2) rfl rfl rfl rfl rfl (Nat.le_of_ble_eq_true rfl) (by decide) ?_
  refine j_icmp_eq (tgt := 1321) dL_law_1024 rfl (by decide) (fun _ => ?_) (fun c => absurd rfl c)
  exact hnext _ _ hR2
set_option maxHeartbeats 4000000 in
set_option maxRecDepth 20000 in
theorem lc_write {l : Launch} {Z : jZ} {nm : String} {Rel : jMem → jMem → Prop} {q q' : Nat → Nat} {V U : jMem} {i : Nat} (hop : op_write Rel) (hL : Z.2.1 6 < 2 ^ 31) (hi : i + 6 ≤ Z.2.1 6) (hR : Rel V U) (hnext : ∀ V' U' : jMem, Rel V' U' → lJ l Z nm 1321 [(3, .int (nI i)), (2, .ref (q' 0)), (1, .ref (q 0)), (0, .ref (Z.2.1 5))] [] (jw Z q V' dX ++ jw Z q' U' dM)) : lJ l Z nm 1029 [(3, .int (nI i)), (2, .ref (q' 0)), (1, .ref (q 0)), (0, .ref (Z.2.1 5))] [] (jw Z q V dX ++ jw Z q' U dM) := by
  obtain ⟨r, V', U', e1, e2, hR2⟩ := hop (Z.2.2.2.2 (i + 1)) (Z.2.2.2.2 (i + 2)) (((Int32.toInt64 (Z.2.2.2.2 (i + 3))) <<< (Int32.toInt64 (32 : Int32) &&& (63 : Int64))) ||| ((Int32.toInt64 (Z.2.2.2.2 (i + 4))) &&& (4294967295 : Int64))) V U hR
  refine j_aload_n dL_law_1029 rfl rfl ?_
  refine j_aload_n dL_law_1030 rfl rfl ?_
  refine j_iload_n dL_law_1031 rfl rfl ?_
  refine j_iconst (v := 1) dL_law_1032 rfl (by decide) ?_
  refine j_iadd dL_law_1033 rfl ?_
  refine l_ld (k := 1) (by decide) dL_law_1034 rfl (by omega) hL ?_
  refine j_aload_n dL_law_1035 rfl rfl ?_
  refine j_iload_n dL_law_1036 rfl rfl ?_
  refine j_iconst (v := 2) dL_law_1037 rfl (by decide) ?_
  refine j_iadd dL_law_1038 rfl ?_
  refine l_ld (k := 2) (by decide) dL_law_1039 rfl (by omega) hL ?_
  refine j_aload_n dL_law_1040 rfl rfl ?_
  refine j_iload_n dL_law_1041 rfl rfl ?_
  refine j_iconst (v := 3) dL_law_1042 rfl (by decide) ?_
  refine j_iadd dL_law_1043 rfl ?_
  refine l_ld (k := 3) (by decide) dL_law_1044 rfl (by omega) hL ?_
  refine j_i2l dL_law_1045 rfl ?_
  refine j_bipush (v := 32) dL_law_1046 rfl (by decide) ?_
  refine j_lshl dL_law_1048 rfl ?_
  refine j_aload_n dL_law_1049 rfl rfl ?_
  refine j_iload_n dL_law_1050 rfl rfl ?_
  refine j_iconst (v := 4) dL_law_1051 rfl (by decide) ?_
  refine j_iadd dL_law_1052 rfl ?_
  refine l_ld (k := 4) (by decide) dL_law_1053 rfl (by omega) hL ?_
  refine j_i2l dL_law_1054 rfl ?_
  refine j_ldc2 dL_law_1055 rfl wL_138 ?_
  refine j_land dL_law_1058 rfl ?_
  refine j_lor dL_law_1059 rfl ?_
  refine l_call_l (n1 := 48) (n2 := 12) rfl (jw_len _ _ _ _) l_nd48 l_nd12b kL_140 dL_law_1060 rfl (tX4_write e1) rfl rfl rfl rfl rfl (Nat.le_of_ble_eq_true rfl) (by decide) ?_
  refine j_aload_n dL_law_1063 rfl rfl ?_
  refine j_aload_n dL_law_1064 rfl rfl ?_
  refine j_iload_n dL_law_1065 rfl rfl ?_
  refine j_iconst (v := 1) dL_law_1066 rfl (by decide) ?_
  refine j_iadd dL_law_1067 rfl ?_
  refine l_ld (k := 1) (by decide) dL_law_1068 rfl (by omega) hL ?_
  refine j_aload_n dL_law_1069 rfl rfl ?_
  refine j_iload_n dL_law_1070 rfl rfl ?_
  refine j_iconst (v := 2) dL_law_1071 rfl (by decide) ?_
  refine j_iadd dL_law_1072 rfl ?_
  refine l_ld (k := 2) (by decide) dL_law_1073 rfl (by omega) hL ?_
  refine j_aload_n dL_law_1074 rfl rfl ?_
  refine j_iload_n dL_law_1075 rfl rfl ?_
  refine j_iconst (v := 3) dL_law_1076 rfl (by decide) ?_
  refine j_iadd dL_law_1077 rfl ?_
  refine l_ld (k := 3) (by decide) dL_law_1078 rfl (by omega) hL ?_
  refine j_i2l dL_law_1079 rfl ?_
  refine j_bipush (v := 32) dL_law_1080 rfl (by decide) ?_
  refine j_lshl dL_law_1082 rfl ?_
  refine j_aload_n dL_law_1083 rfl rfl ?_
  refine j_iload_n dL_law_1084 rfl rfl ?_
  refine j_iconst (v := 4) dL_law_1085 rfl (by decide) ?_
  refine j_iadd dL_law_1086 rfl ?_
  refine l_ld (k := 4) (by decide) dL_law_1087 rfl (by omega) hL ?_
  refine j_i2l dL_law_1088 rfl ?_
  refine j_ldc2 dL_law_1089 rfl wL_138 ?_
  refine j_land dL_law_1092 rfl ?_
  refine j_lor dL_law_1093 rfl ?_
  refine l_call_l (n1 := 12) (n2 := 48) rfl (jw_len _ _ _ _) l_nd12 l_nd48b kL_144 dL_law_1094 rfl (tX5_write e2) rfl rfl rfl rfl rfl (Nat.le_of_ble_eq_true rfl) (by decide) ?_
  refine j_lcmp dL_law_1097 rfl ?_
  refine j_if_eq (tgt := 1321) dL_law_1098 rfl (by decide) (fun _ => ?_) (fun c => absurd (l_cmp r) c)
  exact hnext _ _ hR2
set_option maxHeartbeats 4000000 in
set_option maxRecDepth 20000 in
theorem lc_copy {l : Launch} {Z : jZ} {nm : String} {Rel : jMem → jMem → Prop} {q q' : Nat → Nat} {V U : jMem} {i : Nat} (hop : op_copy Rel) (hL : Z.2.1 6 < 2 ^ 31) (hi : i + 6 ≤ Z.2.1 6) (hR : Rel V U) (hnext : ∀ V' U' : jMem, Rel V' U' → lJ l Z nm 1321 [(3, .int (nI i)), (2, .ref (q' 0)), (1, .ref (q 0)), (0, .ref (Z.2.1 5))] [] (jw Z q V' dX ++ jw Z q' U' dM)) : lJ l Z nm 1103 [(3, .int (nI i)), (2, .ref (q' 0)), (1, .ref (q 0)), (0, .ref (Z.2.1 5))] [] (jw Z q V dX ++ jw Z q' U dM) := by
  obtain ⟨r, V', U', e1, e2, hR2⟩ := hop (Z.2.2.2.2 (i + 1)) (Z.2.2.2.2 (i + 2)) (Z.2.2.2.2 (i + 3)) (Z.2.2.2.2 (i + 4)) (Z.2.2.2.2 (i + 5)) V U hR
  refine j_aload_n dL_law_1103 rfl rfl ?_
  refine j_aload_n dL_law_1104 rfl rfl ?_
  refine j_iload_n dL_law_1105 rfl rfl ?_
  refine j_iconst (v := 1) dL_law_1106 rfl (by decide) ?_
  refine j_iadd dL_law_1107 rfl ?_
  refine l_ld (k := 1) (by decide) dL_law_1108 rfl (by omega) hL ?_
  refine j_aload_n dL_law_1109 rfl rfl ?_
  refine j_iload_n dL_law_1110 rfl rfl ?_
  refine j_iconst (v := 2) dL_law_1111 rfl (by decide) ?_
  refine j_iadd dL_law_1112 rfl ?_
  refine l_ld (k := 2) (by decide) dL_law_1113 rfl (by omega) hL ?_
  refine j_aload_n dL_law_1114 rfl rfl ?_
  refine j_iload_n dL_law_1115 rfl rfl ?_
  refine j_iconst (v := 3) dL_law_1116 rfl (by decide) ?_
  refine j_iadd dL_law_1117 rfl ?_
  refine l_ld (k := 3) (by decide) dL_law_1118 rfl (by omega) hL ?_
  refine j_aload_n dL_law_1119 rfl rfl ?_
  refine j_iload_n dL_law_1120 rfl rfl ?_
  refine j_iconst (v := 4) dL_law_1121 rfl (by decide) ?_
  refine j_iadd dL_law_1122 rfl ?_
  refine l_ld (k := 4) (by decide) dL_law_1123 rfl (by omega) hL ?_
  refine j_aload_n dL_law_1124 rfl rfl ?_
  refine j_iload_n dL_law_1125 rfl rfl ?_
  refine j_iconst (v := 5) dL_law_1126 rfl (by decide) ?_
  refine j_iadd dL_law_1127 rfl ?_
  refine l_ld (k := 5) (by decide) dL_law_1128 rfl (by omega) hL ?_
  refine l_call_i (n1 := 48) (n2 := 12) rfl (jw_len _ _ _ _) l_nd48 l_nd12b kL_145 dL_law_1129 rfl (tX4_copy e1) rfl rfl rfl rfl rfl (Nat.le_of_ble_eq_true rfl) (by decide) ?_
  refine j_aload_n dL_law_1132 rfl rfl ?_
  refine j_aload_n dL_law_1133 rfl rfl ?_
  refine j_iload_n dL_law_1134 rfl rfl ?_
  refine j_iconst (v := 1) dL_law_1135 rfl (by decide) ?_
  refine j_iadd dL_law_1136 rfl ?_
  refine l_ld (k := 1) (by decide) dL_law_1137 rfl (by omega) hL ?_
  refine j_aload_n dL_law_1138 rfl rfl ?_
  refine j_iload_n dL_law_1139 rfl rfl ?_
  refine j_iconst (v := 2) dL_law_1140 rfl (by decide) ?_
  refine j_iadd dL_law_1141 rfl ?_
  refine l_ld (k := 2) (by decide) dL_law_1142 rfl (by omega) hL ?_
  refine j_aload_n dL_law_1143 rfl rfl ?_
  refine j_iload_n dL_law_1144 rfl rfl ?_
  refine j_iconst (v := 3) dL_law_1145 rfl (by decide) ?_
  refine j_iadd dL_law_1146 rfl ?_
  refine l_ld (k := 3) (by decide) dL_law_1147 rfl (by omega) hL ?_
  refine j_aload_n dL_law_1148 rfl rfl ?_
  refine j_iload_n dL_law_1149 rfl rfl ?_
  refine j_iconst (v := 4) dL_law_1150 rfl (by decide) ?_
  refine j_iadd dL_law_1151 rfl ?_
  refine l_ld (k := 4) (by decide) dL_law_1152 rfl (by omega) hL ?_
  refine j_aload_n dL_law_1153 rfl rfl ?_
  refine j_iload_n dL_law_1154 rfl rfl ?_
  refine j_iconst (v := 5) dL_law_1155 rfl (by decide) ?_
  refine j_iadd dL_law_1156 rfl ?_
  refine l_ld (k := 5) (by decide) dL_law_1157 rfl (by omega) hL ?_
  refine l_call_i (n1 := 12) (n2 := 48) rfl (jw_len _ _ _ _) l_nd12 l_nd48b kL_149 dL_law_1158 rfl (tX5_copy e2) rfl rfl rfl rfl rfl (Nat.le_of_ble_eq_true rfl) (by decide) ?_
  refine j_icmp_eq (tgt := 1321) dL_law_1161 rfl (by decide) (fun _ => ?_) (fun c => absurd rfl c)
  exact hnext _ _ hR2
set_option maxHeartbeats 4000000 in
set_option maxRecDepth 20000 in
theorem lc_cost {l : Launch} {Z : jZ} {nm : String} {Rel : jMem → jMem → Prop} {q q' : Nat → Nat} {V U : jMem} {i : Nat} (hop : op_cost Rel) (hL : Z.2.1 6 < 2 ^ 31) (hi : i + 6 ≤ Z.2.1 6) (hR : Rel V U) (hnext : ∀ V' U' : jMem, Rel V' U' → lJ l Z nm 1321 [(3, .int (nI i)), (2, .ref (q' 0)), (1, .ref (q 0)), (0, .ref (Z.2.1 5))] [] (jw Z q V' dX ++ jw Z q' U' dM)) : lJ l Z nm 1166 [(3, .int (nI i)), (2, .ref (q' 0)), (1, .ref (q 0)), (0, .ref (Z.2.1 5))] [] (jw Z q V dX ++ jw Z q' U dM) := by
  obtain ⟨r, V', U', e1, e2, hR2⟩ := hop (Z.2.2.2.2 (i + 1)) V U hR
  refine j_aload_n dL_law_1166 rfl rfl ?_
  refine j_aload_n dL_law_1167 rfl rfl ?_
  refine j_iload_n dL_law_1168 rfl rfl ?_
  refine j_iconst (v := 1) dL_law_1169 rfl (by decide) ?_
  refine j_iadd dL_law_1170 rfl ?_
  refine l_ld (k := 1) (by decide) dL_law_1171 rfl (by omega) hL ?_
  refine l_call_l (n1 := 48) (n2 := 12) rfl (jw_len _ _ _ _) l_nd48 l_nd12b kL_150 dL_law_1172 rfl (tX4_cost e1) rfl rfl rfl rfl rfl (Nat.le_of_ble_eq_true rfl) (by decide) ?_
  refine j_aload_n dL_law_1175 rfl rfl ?_
  refine j_aload_n dL_law_1176 rfl rfl ?_
  refine j_iload_n dL_law_1177 rfl rfl ?_
  refine j_iconst (v := 1) dL_law_1178 rfl (by decide) ?_
  refine j_iadd dL_law_1179 rfl ?_
  refine l_ld (k := 1) (by decide) dL_law_1180 rfl (by omega) hL ?_
  refine l_call_l (n1 := 12) (n2 := 48) rfl (jw_len _ _ _ _) l_nd12 l_nd48b kL_153 dL_law_1181 rfl (tX5_cost e2) rfl rfl rfl rfl rfl (Nat.le_of_ble_eq_true rfl) (by decide) ?_
  refine j_lcmp dL_law_1184 rfl ?_
  refine j_if_eq (tgt := 1321) dL_law_1185 rfl (by decide) (fun _ => ?_) (fun c => absurd (l_cmp r) c)
  exact hnext _ _ hR2
set_option maxHeartbeats 4000000 in
set_option maxRecDepth 20000 in
theorem lc_offers {l : Launch} {Z : jZ} {nm : String} {Rel : jMem → jMem → Prop} {q q' : Nat → Nat} {V U : jMem} {i : Nat} (hop : op_offers Rel) (hL : Z.2.1 6 < 2 ^ 31) (hi : i + 6 ≤ Z.2.1 6) (hR : Rel V U) (hnext : ∀ V' U' : jMem, Rel V' U' → lJ l Z nm 1321 [(3, .int (nI i)), (2, .ref (q' 0)), (1, .ref (q 0)), (0, .ref (Z.2.1 5))] [] (jw Z q V' dX ++ jw Z q' U' dM)) : lJ l Z nm 1190 [(3, .int (nI i)), (2, .ref (q' 0)), (1, .ref (q 0)), (0, .ref (Z.2.1 5))] [] (jw Z q V dX ++ jw Z q' U dM) := by
  obtain ⟨r, V', U', e1, e2, hR2⟩ := hop (Z.2.2.2.2 (i + 1)) V U hR
  refine j_aload_n dL_law_1190 rfl rfl ?_
  refine j_aload_n dL_law_1191 rfl rfl ?_
  refine j_iload_n dL_law_1192 rfl rfl ?_
  refine j_iconst (v := 1) dL_law_1193 rfl (by decide) ?_
  refine j_iadd dL_law_1194 rfl ?_
  refine l_ld (k := 1) (by decide) dL_law_1195 rfl (by omega) hL ?_
  refine l_call_i (n1 := 48) (n2 := 12) rfl (jw_len _ _ _ _) l_nd48 l_nd12b kL_154 dL_law_1196 rfl (tX4_offers e1) rfl rfl rfl rfl rfl (Nat.le_of_ble_eq_true rfl) (by decide) ?_
  refine j_aload_n dL_law_1199 rfl rfl ?_
  refine j_aload_n dL_law_1200 rfl rfl ?_
  refine j_iload_n dL_law_1201 rfl rfl ?_
  refine j_iconst (v := 1) dL_law_1202 rfl (by decide) ?_
  refine j_iadd dL_law_1203 rfl ?_
  refine l_ld (k := 1) (by decide) dL_law_1204 rfl (by omega) hL ?_
  refine l_call_i (n1 := 12) (n2 := 48) rfl (jw_len _ _ _ _) l_nd12 l_nd48b kL_157 dL_law_1205 rfl (tX5_offers e2) rfl rfl rfl rfl rfl (Nat.le_of_ble_eq_true rfl) (by decide) ?_
  refine j_icmp_eq (tgt := 1321) dL_law_1208 rfl (by decide) (fun _ => ?_) (fun c => absurd rfl c)
  exact hnext _ _ hR2
set_option maxHeartbeats 4000000 in
set_option maxRecDepth 20000 in
theorem lc_read {l : Launch} {Z : jZ} {nm : String} {Rel : jMem → jMem → Prop} {q q' : Nat → Nat} {V U : jMem} {i : Nat} (hop : op_read Rel) (hL : Z.2.1 6 < 2 ^ 31) (hi : i + 6 ≤ Z.2.1 6) (hR : Rel V U) (hnext : ∀ V' U' : jMem, Rel V' U' → lJ l Z nm 1321 [(3, .int (nI i)), (2, .ref (q' 0)), (1, .ref (q 0)), (0, .ref (Z.2.1 5))] [] (jw Z q V' dX ++ jw Z q' U' dM)) : lJ l Z nm 1213 [(3, .int (nI i)), (2, .ref (q' 0)), (1, .ref (q 0)), (0, .ref (Z.2.1 5))] [] (jw Z q V dX ++ jw Z q' U dM) := by
  obtain ⟨r, V', U', e1, e2, hR2⟩ := hop (Z.2.2.2.2 (i + 1)) V U hR
  refine j_aload_n dL_law_1213 rfl rfl ?_
  refine j_aload_n dL_law_1214 rfl rfl ?_
  refine j_iload_n dL_law_1215 rfl rfl ?_
  refine j_iconst (v := 1) dL_law_1216 rfl (by decide) ?_
  refine j_iadd dL_law_1217 rfl ?_
  refine l_ld (k := 1) (by decide) dL_law_1218 rfl (by omega) hL ?_
  refine l_call_i (n1 := 48) (n2 := 12) rfl (jw_len _ _ _ _) l_nd48 l_nd12b kL_158 dL_law_1219 rfl (tX4_read e1) rfl rfl rfl rfl rfl (Nat.le_of_ble_eq_true rfl) (by decide) ?_
  refine j_aload_n dL_law_1222 rfl rfl ?_
  refine j_aload_n dL_law_1223 rfl rfl ?_
  refine j_iload_n dL_law_1224 rfl rfl ?_
  refine j_iconst (v := 1) dL_law_1225 rfl (by decide) ?_
  refine j_iadd dL_law_1226 rfl ?_
  refine l_ld (k := 1) (by decide) dL_law_1227 rfl (by omega) hL ?_
  refine l_call_i (n1 := 12) (n2 := 48) rfl (jw_len _ _ _ _) l_nd12 l_nd48b kL_161 dL_law_1228 rfl (tX5_read e2) rfl rfl rfl rfl rfl (Nat.le_of_ble_eq_true rfl) (by decide) ?_
  refine j_icmp_eq (tgt := 1321) dL_law_1231 rfl (by decide) (fun _ => ?_) (fun c => absurd rfl c)
  exact hnext _ _ hR2
set_option maxHeartbeats 4000000 in
set_option maxRecDepth 20000 in
theorem lc_image {l : Launch} {Z : jZ} {nm : String} {Rel : jMem → jMem → Prop} {q q' : Nat → Nat} {V U : jMem} {i : Nat} (hop : op_image Rel) (hL : Z.2.1 6 < 2 ^ 31) (hi : i + 6 ≤ Z.2.1 6) (hR : Rel V U) (hnext : ∀ V' U' : jMem, Rel V' U' → lJ l Z nm 1321 [(3, .int (nI i)), (2, .ref (q' 0)), (1, .ref (q 0)), (0, .ref (Z.2.1 5))] [] (jw Z q V' dX ++ jw Z q' U' dM)) : lJ l Z nm 1236 [(3, .int (nI i)), (2, .ref (q' 0)), (1, .ref (q 0)), (0, .ref (Z.2.1 5))] [] (jw Z q V dX ++ jw Z q' U dM) := by
  obtain ⟨r, V', U', e1, e2, hR2⟩ := hop  V U hR
  refine j_aload_n dL_law_1236 rfl rfl ?_
  refine l_call_i (n1 := 48) (n2 := 12) rfl (jw_len _ _ _ _) l_nd48 l_nd12b kL_162 dL_law_1237 rfl (tX4_image e1) rfl rfl rfl rfl rfl (Nat.le_of_ble_eq_true rfl) (by decide) ?_
  refine j_aload_n dL_law_1240 rfl rfl ?_
  refine l_call_i (n1 := 12) (n2 := 48) rfl (jw_len _ _ _ _) l_nd12 l_nd48b kL_165 dL_law_1241 rfl (tX5_image e2) rfl rfl rfl rfl rfl (Nat.le_of_ble_eq_true rfl) (by decide) ?_
  refine j_icmp_eq (tgt := 1321) dL_law_1244 rfl (by decide) (fun _ => ?_) (fun c => absurd rfl c)
  exact hnext _ _ hR2
set_option maxHeartbeats 4000000 in
set_option maxRecDepth 20000 in
theorem lc_undo {l : Launch} {Z : jZ} {nm : String} {Rel : jMem → jMem → Prop} {q q' : Nat → Nat} {V U : jMem} {i : Nat} (hop : op_undo Rel) (hL : Z.2.1 6 < 2 ^ 31) (hi : i + 6 ≤ Z.2.1 6) (hR : Rel V U) (hnext : ∀ V' U' : jMem, Rel V' U' → lJ l Z nm 1321 [(3, .int (nI i)), (2, .ref (q' 0)), (1, .ref (q 0)), (0, .ref (Z.2.1 5))] [] (jw Z q V' dX ++ jw Z q' U' dM)) : lJ l Z nm 1249 [(3, .int (nI i)), (2, .ref (q' 0)), (1, .ref (q 0)), (0, .ref (Z.2.1 5))] [] (jw Z q V dX ++ jw Z q' U dM) := by
  obtain ⟨r, V', U', e1, e2, hR2⟩ := hop  V U hR
  refine j_aload_n dL_law_1249 rfl rfl ?_
  refine l_call_i (n1 := 48) (n2 := 12) rfl (jw_len _ _ _ _) l_nd48 l_nd12b kL_166 dL_law_1250 rfl (tX4_undo e1) rfl rfl rfl rfl rfl (Nat.le_of_ble_eq_true rfl) (by decide) ?_
  refine j_aload_n dL_law_1253 rfl rfl ?_
  refine l_call_i (n1 := 12) (n2 := 48) rfl (jw_len _ _ _ _) l_nd12 l_nd48b kL_169 dL_law_1254 rfl (tX5_undo e2) rfl rfl rfl rfl rfl (Nat.le_of_ble_eq_true rfl) (by decide) ?_
  refine j_icmp_eq (tgt := 1321) dL_law_1257 rfl (by decide) (fun _ => ?_) (fun c => absurd rfl c)
  exact hnext _ _ hR2
set_option maxHeartbeats 4000000 in
set_option maxRecDepth 20000 in
theorem lc_tear {l : Launch} {Z : jZ} {nm : String} {Rel : jMem → jMem → Prop} {q q' : Nat → Nat} {V U : jMem} {i : Nat} (hop : op_tear Rel) (hL : Z.2.1 6 < 2 ^ 31) (hi : i + 6 ≤ Z.2.1 6) (hR : Rel V U) (hnext : ∀ V' U' : jMem, Rel V' U' → lJ l Z nm 1321 [(3, .int (nI i)), (2, .ref (q' 0)), (1, .ref (q 0)), (0, .ref (Z.2.1 5))] [] (jw Z q V' dX ++ jw Z q' U' dM)) : lJ l Z nm 1262 [(3, .int (nI i)), (2, .ref (q' 0)), (1, .ref (q 0)), (0, .ref (Z.2.1 5))] [] (jw Z q V dX ++ jw Z q' U dM) := by
  obtain ⟨r, V', U', e1, e2, hR2⟩ := hop  V U hR
  refine j_aload_n dL_law_1262 rfl rfl ?_
  refine l_call_i (n1 := 48) (n2 := 12) rfl (jw_len _ _ _ _) l_nd48 l_nd12b kL_170 dL_law_1263 rfl (tX4_tear e1) rfl rfl rfl rfl rfl (Nat.le_of_ble_eq_true rfl) (by decide) ?_
  refine j_aload_n dL_law_1266 rfl rfl ?_
  refine l_call_i (n1 := 12) (n2 := 48) rfl (jw_len _ _ _ _) l_nd12 l_nd48b kL_173 dL_law_1267 rfl (tX5_tear e2) rfl rfl rfl rfl rfl (Nat.le_of_ble_eq_true rfl) (by decide) ?_
  refine j_icmp_eq (tgt := 1321) dL_law_1270 rfl (by decide) (fun _ => ?_) (fun c => absurd rfl c)
  exact hnext _ _ hR2
set_option maxHeartbeats 4000000 in
set_option maxRecDepth 20000 in
theorem lc_count {l : Launch} {Z : jZ} {nm : String} {Rel : jMem → jMem → Prop} {q q' : Nat → Nat} {V U : jMem} {i : Nat} (hop : op_count Rel) (hL : Z.2.1 6 < 2 ^ 31) (hi : i + 6 ≤ Z.2.1 6) (hR : Rel V U) (hnext : ∀ V' U' : jMem, Rel V' U' → lJ l Z nm 1321 [(3, .int (nI i)), (2, .ref (q' 0)), (1, .ref (q 0)), (0, .ref (Z.2.1 5))] [] (jw Z q V' dX ++ jw Z q' U' dM)) : lJ l Z nm 1275 [(3, .int (nI i)), (2, .ref (q' 0)), (1, .ref (q 0)), (0, .ref (Z.2.1 5))] [] (jw Z q V dX ++ jw Z q' U dM) := by
  obtain ⟨r, V', U', e1, e2, hR2⟩ := hop (Z.2.2.2.2 (i + 1)) V U hR
  refine j_aload_n dL_law_1275 rfl rfl ?_
  refine j_aload_n dL_law_1276 rfl rfl ?_
  refine j_iload_n dL_law_1277 rfl rfl ?_
  refine j_iconst (v := 1) dL_law_1278 rfl (by decide) ?_
  refine j_iadd dL_law_1279 rfl ?_
  refine l_ld (k := 1) (by decide) dL_law_1280 rfl (by omega) hL ?_
  refine l_call_i (n1 := 48) (n2 := 12) rfl (jw_len _ _ _ _) l_nd48 l_nd12b kL_174 dL_law_1281 rfl (tX4_count e1) rfl rfl rfl rfl rfl (Nat.le_of_ble_eq_true rfl) (by decide) ?_
  refine j_aload_n dL_law_1284 rfl rfl ?_
  refine j_aload_n dL_law_1285 rfl rfl ?_
  refine j_iload_n dL_law_1286 rfl rfl ?_
  refine j_iconst (v := 1) dL_law_1287 rfl (by decide) ?_
  refine j_iadd dL_law_1288 rfl ?_
  refine l_ld (k := 1) (by decide) dL_law_1289 rfl (by omega) hL ?_
  refine l_call_i (n1 := 12) (n2 := 48) rfl (jw_len _ _ _ _) l_nd12 l_nd48b kL_177 dL_law_1290 rfl (tX5_count e2) rfl rfl rfl rfl rfl (Nat.le_of_ble_eq_true rfl) (by decide) ?_
  refine j_icmp_eq (tgt := 1321) dL_law_1293 rfl (by decide) (fun _ => ?_) (fun c => absurd rfl c)
  exact hnext _ _ hR2
set_option maxHeartbeats 4000000 in
set_option maxRecDepth 20000 in
theorem lc_status {l : Launch} {Z : jZ} {nm : String} {Rel : jMem → jMem → Prop} {q q' : Nat → Nat} {V U : jMem} {i : Nat} (hop : op_status Rel) (hL : Z.2.1 6 < 2 ^ 31) (hi : i + 6 ≤ Z.2.1 6) (hR : Rel V U) (hnext : ∀ V' U' : jMem, Rel V' U' → lJ l Z nm 1321 [(3, .int (nI i)), (2, .ref (q' 0)), (1, .ref (q 0)), (0, .ref (Z.2.1 5))] [] (jw Z q V' dX ++ jw Z q' U' dM)) : lJ l Z nm 1298 [(3, .int (nI i)), (2, .ref (q' 0)), (1, .ref (q 0)), (0, .ref (Z.2.1 5))] [] (jw Z q V dX ++ jw Z q' U dM) := by
  obtain ⟨r, V', U', e1, e2, hR2⟩ := hop (Z.2.2.2.2 (i + 1)) V U hR
  refine j_aload_n dL_law_1298 rfl rfl ?_
  refine j_aload_n dL_law_1299 rfl rfl ?_
  refine j_iload_n dL_law_1300 rfl rfl ?_
  refine j_iconst (v := 1) dL_law_1301 rfl (by decide) ?_
  refine j_iadd dL_law_1302 rfl ?_
  refine l_ld (k := 1) (by decide) dL_law_1303 rfl (by omega) hL ?_
  refine l_call_i (n1 := 48) (n2 := 12) rfl (jw_len _ _ _ _) l_nd48 l_nd12b kL_178 dL_law_1304 rfl (tX4_status e1) rfl rfl rfl rfl rfl (Nat.le_of_ble_eq_true rfl) (by decide) ?_
  refine j_aload_n dL_law_1307 rfl rfl ?_
  refine j_aload_n dL_law_1308 rfl rfl ?_
  refine j_iload_n dL_law_1309 rfl rfl ?_
  refine j_iconst (v := 1) dL_law_1310 rfl (by decide) ?_
  refine j_iadd dL_law_1311 rfl ?_
  refine l_ld (k := 1) (by decide) dL_law_1312 rfl (by omega) hL ?_
  refine l_call_i (n1 := 12) (n2 := 48) rfl (jw_len _ _ _ _) l_nd12 l_nd48b kL_181 dL_law_1313 rfl (tX5_status e2) rfl rfl rfl rfl rfl (Nat.le_of_ble_eq_true rfl) (by decide) ?_
  refine j_icmp_eq (tgt := 1321) dL_law_1316 rfl (by decide) (fun _ => ?_) (fun c => absurd rfl c)
  exact hnext _ _ hR2
set_option maxHeartbeats 8000000 in
set_option maxRecDepth 20000 in
theorem law_loop {l : Launch} {Z : jZ} {nm : String} {Rel : jMem → jMem → Prop} {q q' : Nat → Nat} (hop0 : op_field Rel) (hop1 : op_of Rel) (hop2 : op_set Rel) (hop3 : op_as Rel) (hop4 : op_asks Rel) (hop5 : op_rule Rel) (hop6 : op_offer Rel) (hop7 : op_paper Rel) (hop8 : op_paperOf Rel) (hop9 : op_claim Rel) (hop10 : op_county Rel) (hop11 : op_month Rel) (hop12 : op_seed Rel) (hop13 : op_stands Rel) (hop14 : op_strip Rel) (hop15 : op_stripOf Rel) (hop16 : op_had Rel) (hop17 : op_least Rel) (hop18 : op_order Rel) (hop19 : op_best Rel) (hop20 : op_last Rel) (hop21 : op_giveUp Rel) (hop22 : op_rights Rel) (hop23 : op_share Rel) (hop24 : op_common Rel) (hop25 : op_first Rel) (hop26 : op_feed Rel) (hop27 : op_wipe Rel) (hop28 : op_plan Rel) (hop29 : op_sheet Rel) (hop30 : op_write Rel) (hop31 : op_copy Rel) (hop32 : op_cost Rel) (hop33 : op_offers Rel) (hop34 : op_read Rel) (hop35 : op_image Rel) (hop36 : op_undo Rel) (hop37 : op_tear Rel) (hop38 : op_count Rel) (hop39 : op_status Rel) (hL : Z.2.1 6 ≤ 384) (n : Nat) : ∀ (i : Nat) (V U : jMem), Z.2.1 6 - i < n → i ≤ Z.2.1 6 → Rel V U → lJ l Z nm 18 [(3, .int (nI i)), (2, .ref (q' 0)), (1, .ref (q 0)), (0, .ref (Z.2.1 5))] [] (jw Z q V dX ++ jw Z q' U dM) := by
  induction n with
  | zero => intro i V U h; omega
  | succ n ih =>
    intro i V U hlt hi hR
    refine j_iload_n dL_law_18 rfl rfl ?_
    refine j_aload_n dL_law_19 rfl rfl ?_
    refine j_slen dL_law_20 rfl ?_
    refine j_bipush (v := 6) dL_law_21 rfl (by decide) ?_
    refine j_isub dL_law_23 rfl ?_
    have hsub : (nI (Z.2.1 6) - 6).toInt = (Z.2.1 6 : Int) - 6 := pk_sub_toInt (a := Z.2.1 6) (b := 6) (by omega) (by decide)
    have hii : (nI i).toInt = (i : Int) := nI_toInt (by omega)
    refine j_icmp_gt (tgt := 1327) dL_law_24 rfl (by decide) (fun c => ?_) (fun c => ?_)
    · refine j_iconst (v := 1) dL_law_1327 rfl (by decide) ?_
      exact j_zreturn dL_law_1328 rfl (Or.inr rfl) ⟨(Nat.le_of_ble_eq_true rfl), (Nat.le_of_ble_eq_true rfl)⟩ rfl
    · have h6 : i + 6 ≤ Z.2.1 6 := by
        rw [Int32.lt_iff_toInt_lt, hsub, hii] at c
        omega
      refine j_aload_n dL_law_27 rfl rfl ?_
      refine j_iload_n dL_law_28 rfl rfl ?_
      refine l_ld0 dL_law_29 rfl (by omega) (by omega) ?_
      refine j_bipush (v := 63) dL_law_30 rfl (by decide) ?_
      refine j_iand dL_law_32 rfl ?_
      have hnext : ∀ V' U' : jMem, Rel V' U' → lJ l Z nm 1321 [(3, .int (nI i)), (2, .ref (q' 0)), (1, .ref (q 0)), (0, .ref (Z.2.1 5))] [] (jw Z q V' dX ++ jw Z q' U' dM) := by
        intro V' U' hR'
        refine j_iinc (v := nI (i + 6)) (L' := [(3, _), (2, _), (1, _), (0, _)]) dL_law_1321 rfl rfl (nI_add i 6) (by decide) rfl ?_
        refine j_goto (tgt := 18) dL_law_1324 (by decide) ?_
        exact ih (i + 6) V' U' (by omega) (by omega) hR'
      have hL2 : Z.2.1 6 < 2 ^ 31 := by omega
      generalize Z.2.2.2.2 i &&& 63 = w
      by_cases c0 : w = (0 : Int32)
      · refine j_ts_in (z := 0) (off := 175) (tgt := 208) dL_law_33 (j_ts_lit c0 (by decide)) (by decide) (by decide) rfl (by decide) ?_
        exact lc_field hop0 hL2 h6 hR hnext
      by_cases c1 : w = (1 : Int32)
      · refine j_ts_in (z := 1) (off := 208) (tgt := 241) dL_law_33 (j_ts_lit c1 (by decide)) (by decide) (by decide) rfl (by decide) ?_
        exact lc_of hop1 hL2 h6 hR hnext
      by_cases c2 : w = (2 : Int32)
      · refine j_ts_in (z := 2) (off := 241) (tgt := 274) dL_law_33 (j_ts_lit c2 (by decide)) (by decide) (by decide) rfl (by decide) ?_
        exact lc_set hop2 hL2 h6 hR hnext
      by_cases c3 : w = (3 : Int32)
      · refine j_ts_in (z := 3) (off := 284) (tgt := 317) dL_law_33 (j_ts_lit c3 (by decide)) (by decide) (by decide) rfl (by decide) ?_
        exact lc_as hop3 hL2 h6 hR hnext
      by_cases c4 : w = (4 : Int32)
      · refine j_ts_in (z := 4) (off := 317) (tgt := 350) dL_law_33 (j_ts_lit c4 (by decide)) (by decide) (by decide) rfl (by decide) ?_
        exact lc_asks hop4 hL2 h6 hR hnext
      by_cases c5 : w = (5 : Int32)
      · refine j_ts_in (z := 5) (off := 350) (tgt := 383) dL_law_33 (j_ts_lit c5 (by decide)) (by decide) (by decide) rfl (by decide) ?_
        exact lc_rule hop5 hL2 h6 hR hnext
      by_cases c6 : w = (6 : Int32)
      · refine j_ts_in (z := 6) (off := 383) (tgt := 416) dL_law_33 (j_ts_lit c6 (by decide)) (by decide) (by decide) rfl (by decide) ?_
        exact lc_offer hop6 hL2 h6 hR hnext
      by_cases c7 : w = (7 : Int32)
      · refine j_ts_in (z := 7) (off := 416) (tgt := 449) dL_law_33 (j_ts_lit c7 (by decide)) (by decide) (by decide) rfl (by decide) ?_
        exact lc_paper hop7 hL2 h6 hR hnext
      by_cases c8 : w = (8 : Int32)
      · refine j_ts_in (z := 8) (off := 449) (tgt := 482) dL_law_33 (j_ts_lit c8 (by decide)) (by decide) (by decide) rfl (by decide) ?_
        exact lc_paperOf hop8 hL2 h6 hR hnext
      by_cases c9 : w = (9 : Int32)
      · refine j_ts_in (z := 9) (off := 482) (tgt := 515) dL_law_33 (j_ts_lit c9 (by decide)) (by decide) (by decide) rfl (by decide) ?_
        exact lc_claim hop9 hL2 h6 hR hnext
      by_cases c10 : w = (10 : Int32)
      · refine j_ts_in (z := 10) (off := 505) (tgt := 538) dL_law_33 (j_ts_lit c10 (by decide)) (by decide) (by decide) rfl (by decide) ?_
        exact lc_county hop10 hL2 h6 hR hnext
      by_cases c11 : w = (11 : Int32)
      · refine j_ts_in (z := 11) (off := 528) (tgt := 561) dL_law_33 (j_ts_lit c11 (by decide)) (by decide) (by decide) rfl (by decide) ?_
        exact lc_month hop11 hL2 h6 hR hnext
      by_cases c12 : w = (12 : Int32)
      · refine j_ts_in (z := 12) (off := 541) (tgt := 574) dL_law_33 (j_ts_lit c12 (by decide)) (by decide) (by decide) rfl (by decide) ?_
        exact lc_seed hop12 hL2 h6 hR hnext
      by_cases c13 : w = (13 : Int32)
      · refine j_ts_in (z := 13) (off := 564) (tgt := 597) dL_law_33 (j_ts_lit c13 (by decide)) (by decide) (by decide) rfl (by decide) ?_
        exact lc_stands hop13 hL2 h6 hR hnext
      by_cases c14 : w = (14 : Int32)
      · refine j_ts_in (z := 14) (off := 588) (tgt := 621) dL_law_33 (j_ts_lit c14 (by decide)) (by decide) (by decide) rfl (by decide) ?_
        exact lc_strip hop14 hL2 h6 hR hnext
      by_cases c15 : w = (15 : Int32)
      · refine j_ts_in (z := 15) (off := 621) (tgt := 654) dL_law_33 (j_ts_lit c15 (by decide)) (by decide) (by decide) rfl (by decide) ?_
        exact lc_stripOf hop15 hL2 h6 hR hnext
      by_cases c16 : w = (16 : Int32)
      · refine j_ts_in (z := 16) (off := 654) (tgt := 687) dL_law_33 (j_ts_lit c16 (by decide)) (by decide) (by decide) rfl (by decide) ?_
        exact lc_had hop16 hL2 h6 hR hnext
      by_cases c17 : w = (17 : Int32)
      · refine j_ts_in (z := 17) (off := 667) (tgt := 700) dL_law_33 (j_ts_lit c17 (by decide)) (by decide) (by decide) rfl (by decide) ?_
        exact lc_least hop17 hL2 h6 hR hnext
      by_cases c18 : w = (18 : Int32)
      · refine j_ts_in (z := 18) (off := 690) (tgt := 723) dL_law_33 (j_ts_lit c18 (by decide)) (by decide) (by decide) rfl (by decide) ?_
        exact lc_order hop18 hL2 h6 hR hnext
      by_cases c19 : w = (19 : Int32)
      · refine j_ts_in (z := 19) (off := 723) (tgt := 756) dL_law_33 (j_ts_lit c19 (by decide)) (by decide) (by decide) rfl (by decide) ?_
        exact lc_best hop19 hL2 h6 hR hnext
      by_cases c20 : w = (20 : Int32)
      · refine j_ts_in (z := 20) (off := 736) (tgt := 769) dL_law_33 (j_ts_lit c20 (by decide)) (by decide) (by decide) rfl (by decide) ?_
        exact lc_last hop20 hL2 h6 hR hnext
      by_cases c21 : w = (21 : Int32)
      · refine j_ts_in (z := 21) (off := 769) (tgt := 802) dL_law_33 (j_ts_lit c21 (by decide)) (by decide) (by decide) rfl (by decide) ?_
        exact lc_giveUp hop21 hL2 h6 hR hnext
      by_cases c22 : w = (22 : Int32)
      · refine j_ts_in (z := 22) (off := 792) (tgt := 825) dL_law_33 (j_ts_lit c22 (by decide)) (by decide) (by decide) rfl (by decide) ?_
        exact lc_rights hop22 hL2 h6 hR hnext
      by_cases c23 : w = (23 : Int32)
      · refine j_ts_in (z := 23) (off := 815) (tgt := 848) dL_law_33 (j_ts_lit c23 (by decide)) (by decide) (by decide) rfl (by decide) ?_
        exact lc_share hop23 hL2 h6 hR hnext
      by_cases c24 : w = (24 : Int32)
      · refine j_ts_in (z := 24) (off := 858) (tgt := 891) dL_law_33 (j_ts_lit c24 (by decide)) (by decide) (by decide) rfl (by decide) ?_
        exact lc_common hop24 hL2 h6 hR hnext
      by_cases c25 : w = (25 : Int32)
      · refine j_ts_in (z := 25) (off := 871) (tgt := 904) dL_law_33 (j_ts_lit c25 (by decide)) (by decide) (by decide) rfl (by decide) ?_
        exact lc_first hop25 hL2 h6 hR hnext
      by_cases c26 : w = (26 : Int32)
      · refine j_ts_in (z := 26) (off := 894) (tgt := 927) dL_law_33 (j_ts_lit c26 (by decide)) (by decide) (by decide) rfl (by decide) ?_
        exact lc_feed hop26 hL2 h6 hR hnext
      by_cases c27 : w = (27 : Int32)
      · refine j_ts_in (z := 27) (off := 927) (tgt := 960) dL_law_33 (j_ts_lit c27 (by decide)) (by decide) (by decide) rfl (by decide) ?_
        exact lc_wipe hop27 hL2 h6 hR hnext
      by_cases c28 : w = (28 : Int32)
      · refine j_ts_in (z := 28) (off := 940) (tgt := 973) dL_law_33 (j_ts_lit c28 (by decide)) (by decide) (by decide) rfl (by decide) ?_
        exact lc_plan hop28 hL2 h6 hR hnext
      by_cases c29 : w = (29 : Int32)
      · refine j_ts_in (z := 29) (off := 953) (tgt := 986) dL_law_33 (j_ts_lit c29 (by decide)) (by decide) (by decide) rfl (by decide) ?_
        exact lc_sheet hop29 hL2 h6 hR hnext
      by_cases c30 : w = (30 : Int32)
      · refine j_ts_in (z := 30) (off := 996) (tgt := 1029) dL_law_33 (j_ts_lit c30 (by decide)) (by decide) (by decide) rfl (by decide) ?_
        exact lc_write hop30 hL2 h6 hR hnext
      by_cases c31 : w = (31 : Int32)
      · refine j_ts_in (z := 31) (off := 1070) (tgt := 1103) dL_law_33 (j_ts_lit c31 (by decide)) (by decide) (by decide) rfl (by decide) ?_
        exact lc_copy hop31 hL2 h6 hR hnext
      by_cases c32 : w = (32 : Int32)
      · refine j_ts_in (z := 32) (off := 1133) (tgt := 1166) dL_law_33 (j_ts_lit c32 (by decide)) (by decide) (by decide) rfl (by decide) ?_
        exact lc_cost hop32 hL2 h6 hR hnext
      by_cases c33 : w = (33 : Int32)
      · refine j_ts_in (z := 33) (off := 1157) (tgt := 1190) dL_law_33 (j_ts_lit c33 (by decide)) (by decide) (by decide) rfl (by decide) ?_
        exact lc_offers hop33 hL2 h6 hR hnext
      by_cases c34 : w = (34 : Int32)
      · refine j_ts_in (z := 34) (off := 1180) (tgt := 1213) dL_law_33 (j_ts_lit c34 (by decide)) (by decide) (by decide) rfl (by decide) ?_
        exact lc_read hop34 hL2 h6 hR hnext
      by_cases c35 : w = (35 : Int32)
      · refine j_ts_in (z := 35) (off := 1203) (tgt := 1236) dL_law_33 (j_ts_lit c35 (by decide)) (by decide) (by decide) rfl (by decide) ?_
        exact lc_image hop35 hL2 h6 hR hnext
      by_cases c36 : w = (36 : Int32)
      · refine j_ts_in (z := 36) (off := 1216) (tgt := 1249) dL_law_33 (j_ts_lit c36 (by decide)) (by decide) (by decide) rfl (by decide) ?_
        exact lc_undo hop36 hL2 h6 hR hnext
      by_cases c37 : w = (37 : Int32)
      · refine j_ts_in (z := 37) (off := 1229) (tgt := 1262) dL_law_33 (j_ts_lit c37 (by decide)) (by decide) (by decide) rfl (by decide) ?_
        exact lc_tear hop37 hL2 h6 hR hnext
      by_cases c38 : w = (38 : Int32)
      · refine j_ts_in (z := 38) (off := 1242) (tgt := 1275) dL_law_33 (j_ts_lit c38 (by decide)) (by decide) (by decide) rfl (by decide) ?_
        exact lc_count hop38 hL2 h6 hR hnext
      by_cases c39 : w = (39 : Int32)
      · refine j_ts_in (z := 39) (off := 1265) (tgt := 1298) dL_law_33 (j_ts_lit c39 (by decide)) (by decide) (by decide) rfl (by decide) ?_
        exact lc_status hop39 hL2 h6 hR hnext
      refine j_ts_out (tgt := 1321) dL_law_33 (by have := j_ts_ne (k := 0) c0 (by decide); have := j_ts_ne (k := 1) c1 (by decide); have := j_ts_ne (k := 2) c2 (by decide); have := j_ts_ne (k := 3) c3 (by decide); have := j_ts_ne (k := 4) c4 (by decide); have := j_ts_ne (k := 5) c5 (by decide); have := j_ts_ne (k := 6) c6 (by decide); have := j_ts_ne (k := 7) c7 (by decide); have := j_ts_ne (k := 8) c8 (by decide); have := j_ts_ne (k := 9) c9 (by decide); have := j_ts_ne (k := 10) c10 (by decide); have := j_ts_ne (k := 11) c11 (by decide); have := j_ts_ne (k := 12) c12 (by decide); have := j_ts_ne (k := 13) c13 (by decide); have := j_ts_ne (k := 14) c14 (by decide); have := j_ts_ne (k := 15) c15 (by decide); have := j_ts_ne (k := 16) c16 (by decide); have := j_ts_ne (k := 17) c17 (by decide); have := j_ts_ne (k := 18) c18 (by decide); have := j_ts_ne (k := 19) c19 (by decide); have := j_ts_ne (k := 20) c20 (by decide); have := j_ts_ne (k := 21) c21 (by decide); have := j_ts_ne (k := 22) c22 (by decide); have := j_ts_ne (k := 23) c23 (by decide); have := j_ts_ne (k := 24) c24 (by decide); have := j_ts_ne (k := 25) c25 (by decide); have := j_ts_ne (k := 26) c26 (by decide); have := j_ts_ne (k := 27) c27 (by decide); have := j_ts_ne (k := 28) c28 (by decide); have := j_ts_ne (k := 29) c29 (by decide); have := j_ts_ne (k := 30) c30 (by decide); have := j_ts_ne (k := 31) c31 (by decide); have := j_ts_ne (k := 32) c32 (by decide); have := j_ts_ne (k := 33) c33 (by decide); have := j_ts_ne (k := 34) c34 (by decide); have := j_ts_ne (k := 35) c35 (by decide); have := j_ts_ne (k := 36) c36 (by decide); have := j_ts_ne (k := 37) c37 (by decide); have := j_ts_ne (k := 38) c38 (by decide); have := j_ts_ne (k := 39) c39 (by decide); omega) (by decide) ?_
      exact hnext V U hR
