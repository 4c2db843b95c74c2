def jland (p : Nat) : Prop := p = 1 ∨ p = 11 ∨ p = 21
theorem jland_1 : jland 1 := Or.inl rfl
theorem jland_11 : jland 11 := Or.inr (Or.inl rfl)
theorem jland_21 : jland 21 := Or.inr (Or.inr rfl)
theorem jland_o {p : Nat} (h : jland p) : dX[p]? = some (.inl (0, [0, (p + 1) + 3, (p + 2) + 3, (p + 3) + 3, (p + 4) + 3, 0, 0, 0, (p + 5) + 3, (p + 6) + 3, 0, 1, 0, (p + 7) + 3, 0, (p + 8) + 3, (p + 9) + 3])) := by rcases h with rfl | rfl | rfl <;> rfl
theorem jland_a1 {p : Nat} (h : jland p) : dX[p + 1]? = some (.inr (0, 14)) := by rcases h with rfl | rfl | rfl <;> rfl
theorem jland_a2 {p : Nat} (h : jland p) : dX[p + 2]? = some (.inr (0, 14)) := by rcases h with rfl | rfl | rfl <;> rfl
theorem jland_a3 {p : Nat} (h : jland p) : dX[p + 3]? = some (.inr (0, 14)) := by rcases h with rfl | rfl | rfl <;> rfl
theorem jland_a4 {p : Nat} (h : jland p) : dX[p + 4]? = some (.inr (0, 14)) := by rcases h with rfl | rfl | rfl <;> rfl
theorem jland_a5 {p : Nat} (h : jland p) : dX[p + 5]? = some (.inr (0, 14)) := by rcases h with rfl | rfl | rfl <;> rfl
theorem jland_a6 {p : Nat} (h : jland p) : dX[p + 6]? = some (.inr (0, 14)) := by rcases h with rfl | rfl | rfl <;> rfl
theorem jland_a7 {p : Nat} (h : jland p) : dX[p + 7]? = some (.inr (0, 4)) := by rcases h with rfl | rfl | rfl <;> rfl
theorem jland_a8 {p : Nat} (h : jland p) : dX[p + 8]? = some (.inr (0, 6)) := by rcases h with rfl | rfl | rfl <;> rfl
theorem jland_a9 {p : Nat} (h : jland p) : dX[p + 9]? = some (.inr (0, 6)) := by rcases h with rfl | rfl | rfl <;> rfl
theorem jsheet_o {i : Nat} (h : i < 4) : dX[39 + 2 * i]? = some (.inl (2, [0, 0, (39 + 2 * i + 1) + 3])) := by
  rcases (show i = 0 ∨ i = 1 ∨ i = 2 ∨ i = 3 by omega) with rfl | rfl | rfl | rfl <;> rfl
theorem jsheet_a {i : Nat} (h : i < 4) : dX[39 + 2 * i + 1]? = some (.inr (1, 40)) := by
  rcases (show i = 0 ∨ i = 1 ∨ i = 2 ∨ i = 3 by omega) with rfl | rfl | rfl | rfl <;> rfl
theorem jin_lt {i : Int32} {n : Nat} (h : jin i n = true) : i.toNatClampNeg < n := by
  have h2 := of_decide_eq_true h
  show i.toInt.toNat < n
  omega
def jnn (x : Int32) : Bool := decide (¬ x < 0)
theorem jnn_of {x : Int32} (h : jnn x = true) : ¬ x < 0 := of_decide_eq_true h
def jle (x y : Int32) (n : Nat) : Bool := decide (x.toNatClampNeg + y.toNatClampNeg ≤ n)
theorem jle_of {x y : Int32} {n : Nat} (h : jle x y n = true) : x.toNatClampNeg + y.toNatClampNeg ≤ n := of_decide_eq_true h
theorem jf_t {α : Type} {Z : jZ} {q : Nat → Nat} {ds : List jD} {V : jMem} {x r : α} (c : α → Value) (h : x = r) : some (c x) = some (c r) ∧ jw Z q V ds = jw Z q V ds := by cases h; exact ⟨rfl, rfl⟩
theorem jf_p {α : Type} {Z : jZ} {q : Nat → Nat} {ds : List jD} {V : jMem} {x r : α} (c : α → Value) (h : some x = some r) : some (c x) = some (c r) ∧ jw Z q V ds = jw Z q V ds := by cases h; exact ⟨rfl, rfl⟩
theorem jf_m {α : Type} {Z : jZ} {q : Nat → Nat} {ds : List jD} {V V' : jMem} {x r : α} (c : α → Value) (h : some (x, V) = some (r, V')) : some (c x) = some (c r) ∧ jw Z q V ds = jw Z q V' ds := by cases h; exact ⟨rfl, rfl⟩
theorem jf_v {Z : jZ} {q : Nat → Nat} {ds : List jD} {V V' : jMem} (h : some V = some V') : (none : Option Value) = none ∧ jw Z q V ds = jw Z q V' ds := by cases h; exact ⟨rfl, rfl⟩
