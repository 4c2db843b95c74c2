/-! the start: what the Statement gives, as the judgement wants it -/
def st_tm (i : Nat) : Term := Term.string "AcreBuys" (jIdx.getD i 0)
def st_fl : List Cond := flatC (Jvm.Cond.and given_1 narrow_1)
theorem st_ex : ∀ i, i < 15 → Cond.exactly (st_tm i) "java/lang/String" ∈ st_fl := by decide +kernel
theorem st_co : ∀ i, i < 15 → Cond.eq (.field (st_tm i) "java/lang/String" "coder" "B") (.int 0) ∈ st_fl := by decide +kernel
theorem st_ar : ∀ i, i < 15 → Cond.arrayOf (.field (st_tm i) "java/lang/String" "value" "[B") .byte ∈ st_fl := by decide +kernel
theorem st_le : ∀ i, i < 15 → Cond.eq (.length (.field (st_tm i) "java/lang/String" "value" "[B")) (.int (Int32.ofNat (jLen.getD i 0))) ∈ st_fl := by decide +kernel
theorem st_el : ∀ i, i < 15 → ∀ j, j < jLen.getD i 0 → Cond.eq (.elem (.field (st_tm i) "java/lang/String" "value" "[B") (.int (Int32.ofNat j))) (.int ((jByt.getD i []).getD j 0)) ∈ st_fl := by decide +kernel
theorem st_n_1_0 : Cond.not (Cond.eq (st_tm 1) (st_tm 0)) ∈ st_fl ∨ Cond.not (Cond.eq (st_tm 0) (st_tm 1)) ∈ st_fl := Or.inr (List.mem_of_getElem? (i := 43) (by decide +kernel))
theorem st_n_2_0 : Cond.not (Cond.eq (st_tm 2) (st_tm 0)) ∈ st_fl ∨ Cond.not (Cond.eq (st_tm 0) (st_tm 2)) ∈ st_fl := Or.inr (List.mem_of_getElem? (i := 53) (by decide +kernel))
theorem st_n_2_1 : Cond.not (Cond.eq (st_tm 2) (st_tm 1)) ∈ st_fl ∨ Cond.not (Cond.eq (st_tm 1) (st_tm 2)) ∈ st_fl := Or.inr (List.mem_of_getElem? (i := 54) (by decide +kernel))
theorem st_n_3_0 : Cond.not (Cond.eq (st_tm 3) (st_tm 0)) ∈ st_fl ∨ Cond.not (Cond.eq (st_tm 0) (st_tm 3)) ∈ st_fl := Or.inr (List.mem_of_getElem? (i := 63) (by decide +kernel))
theorem st_n_3_1 : Cond.not (Cond.eq (st_tm 3) (st_tm 1)) ∈ st_fl ∨ Cond.not (Cond.eq (st_tm 1) (st_tm 3)) ∈ st_fl := Or.inr (List.mem_of_getElem? (i := 64) (by decide +kernel))
theorem st_n_3_2 : Cond.not (Cond.eq (st_tm 3) (st_tm 2)) ∈ st_fl ∨ Cond.not (Cond.eq (st_tm 2) (st_tm 3)) ∈ st_fl := Or.inr (List.mem_of_getElem? (i := 65) (by decide +kernel))
theorem st_n_4_0 : Cond.not (Cond.eq (st_tm 4) (st_tm 0)) ∈ st_fl ∨ Cond.not (Cond.eq (st_tm 0) (st_tm 4)) ∈ st_fl := Or.inr (List.mem_of_getElem? (i := 78) (by decide +kernel))
theorem st_n_4_1 : Cond.not (Cond.eq (st_tm 4) (st_tm 1)) ∈ st_fl ∨ Cond.not (Cond.eq (st_tm 1) (st_tm 4)) ∈ st_fl := Or.inr (List.mem_of_getElem? (i := 79) (by decide +kernel))
theorem st_n_4_2 : Cond.not (Cond.eq (st_tm 4) (st_tm 2)) ∈ st_fl ∨ Cond.not (Cond.eq (st_tm 2) (st_tm 4)) ∈ st_fl := Or.inr (List.mem_of_getElem? (i := 80) (by decide +kernel))
theorem st_n_4_3 : Cond.not (Cond.eq (st_tm 4) (st_tm 3)) ∈ st_fl ∨ Cond.not (Cond.eq (st_tm 3) (st_tm 4)) ∈ st_fl := Or.inr (List.mem_of_getElem? (i := 81) (by decide +kernel))
theorem st_n_5_0 : Cond.not (Cond.eq (st_tm 5) (st_tm 0)) ∈ st_fl ∨ Cond.not (Cond.eq (st_tm 0) (st_tm 5)) ∈ st_fl := Or.inr (List.mem_of_getElem? (i := 92) (by decide +kernel))
theorem st_n_5_1 : Cond.not (Cond.eq (st_tm 5) (st_tm 1)) ∈ st_fl ∨ Cond.not (Cond.eq (st_tm 1) (st_tm 5)) ∈ st_fl := Or.inr (List.mem_of_getElem? (i := 93) (by decide +kernel))
theorem st_n_5_2 : Cond.not (Cond.eq (st_tm 5) (st_tm 2)) ∈ st_fl ∨ Cond.not (Cond.eq (st_tm 2) (st_tm 5)) ∈ st_fl := Or.inr (List.mem_of_getElem? (i := 94) (by decide +kernel))
theorem st_n_5_3 : Cond.not (Cond.eq (st_tm 5) (st_tm 3)) ∈ st_fl ∨ Cond.not (Cond.eq (st_tm 3) (st_tm 5)) ∈ st_fl := Or.inr (List.mem_of_getElem? (i := 95) (by decide +kernel))
theorem st_n_5_4 : Cond.not (Cond.eq (st_tm 5) (st_tm 4)) ∈ st_fl ∨ Cond.not (Cond.eq (st_tm 4) (st_tm 5)) ∈ st_fl := Or.inr (List.mem_of_getElem? (i := 96) (by decide +kernel))
theorem st_n_6_0 : Cond.not (Cond.eq (st_tm 6) (st_tm 0)) ∈ st_fl ∨ Cond.not (Cond.eq (st_tm 0) (st_tm 6)) ∈ st_fl := Or.inr (List.mem_of_getElem? (i := 105) (by decide +kernel))
theorem st_n_6_1 : Cond.not (Cond.eq (st_tm 6) (st_tm 1)) ∈ st_fl ∨ Cond.not (Cond.eq (st_tm 1) (st_tm 6)) ∈ st_fl := Or.inr (List.mem_of_getElem? (i := 106) (by decide +kernel))
theorem st_n_6_2 : Cond.not (Cond.eq (st_tm 6) (st_tm 2)) ∈ st_fl ∨ Cond.not (Cond.eq (st_tm 2) (st_tm 6)) ∈ st_fl := Or.inr (List.mem_of_getElem? (i := 107) (by decide +kernel))
theorem st_n_6_3 : Cond.not (Cond.eq (st_tm 6) (st_tm 3)) ∈ st_fl ∨ Cond.not (Cond.eq (st_tm 3) (st_tm 6)) ∈ st_fl := Or.inr (List.mem_of_getElem? (i := 108) (by decide +kernel))
theorem st_n_6_4 : Cond.not (Cond.eq (st_tm 6) (st_tm 4)) ∈ st_fl ∨ Cond.not (Cond.eq (st_tm 4) (st_tm 6)) ∈ st_fl := Or.inr (List.mem_of_getElem? (i := 109) (by decide +kernel))
theorem st_n_6_5 : Cond.not (Cond.eq (st_tm 6) (st_tm 5)) ∈ st_fl ∨ Cond.not (Cond.eq (st_tm 5) (st_tm 6)) ∈ st_fl := Or.inr (List.mem_of_getElem? (i := 110) (by decide +kernel))
theorem st_n_7_0 : Cond.not (Cond.eq (st_tm 7) (st_tm 0)) ∈ st_fl ∨ Cond.not (Cond.eq (st_tm 0) (st_tm 7)) ∈ st_fl := Or.inr (List.mem_of_getElem? (i := 122) (by decide +kernel))
theorem st_n_7_1 : Cond.not (Cond.eq (st_tm 7) (st_tm 1)) ∈ st_fl ∨ Cond.not (Cond.eq (st_tm 1) (st_tm 7)) ∈ st_fl := Or.inr (List.mem_of_getElem? (i := 123) (by decide +kernel))
theorem st_n_7_2 : Cond.not (Cond.eq (st_tm 7) (st_tm 2)) ∈ st_fl ∨ Cond.not (Cond.eq (st_tm 2) (st_tm 7)) ∈ st_fl := Or.inr (List.mem_of_getElem? (i := 124) (by decide +kernel))
theorem st_n_7_3 : Cond.not (Cond.eq (st_tm 7) (st_tm 3)) ∈ st_fl ∨ Cond.not (Cond.eq (st_tm 3) (st_tm 7)) ∈ st_fl := Or.inr (List.mem_of_getElem? (i := 125) (by decide +kernel))
theorem st_n_7_4 : Cond.not (Cond.eq (st_tm 7) (st_tm 4)) ∈ st_fl ∨ Cond.not (Cond.eq (st_tm 4) (st_tm 7)) ∈ st_fl := Or.inr (List.mem_of_getElem? (i := 126) (by decide +kernel))
theorem st_n_7_5 : Cond.not (Cond.eq (st_tm 7) (st_tm 5)) ∈ st_fl ∨ Cond.not (Cond.eq (st_tm 5) (st_tm 7)) ∈ st_fl := Or.inr (List.mem_of_getElem? (i := 127) (by decide +kernel))
theorem st_n_7_6 : Cond.not (Cond.eq (st_tm 7) (st_tm 6)) ∈ st_fl ∨ Cond.not (Cond.eq (st_tm 6) (st_tm 7)) ∈ st_fl := Or.inr (List.mem_of_getElem? (i := 128) (by decide +kernel))
theorem st_n_8_0 : Cond.not (Cond.eq (st_tm 8) (st_tm 0)) ∈ st_fl ∨ Cond.not (Cond.eq (st_tm 0) (st_tm 8)) ∈ st_fl := Or.inr (List.mem_of_getElem? (i := 133) (by decide +kernel))
theorem st_n_8_1 : Cond.not (Cond.eq (st_tm 8) (st_tm 1)) ∈ st_fl ∨ Cond.not (Cond.eq (st_tm 1) (st_tm 8)) ∈ st_fl := Or.inr (List.mem_of_getElem? (i := 134) (by decide +kernel))
theorem st_n_8_2 : Cond.not (Cond.eq (st_tm 8) (st_tm 2)) ∈ st_fl ∨ Cond.not (Cond.eq (st_tm 2) (st_tm 8)) ∈ st_fl := Or.inr (List.mem_of_getElem? (i := 135) (by decide +kernel))
theorem st_n_8_3 : Cond.not (Cond.eq (st_tm 8) (st_tm 3)) ∈ st_fl ∨ Cond.not (Cond.eq (st_tm 3) (st_tm 8)) ∈ st_fl := Or.inr (List.mem_of_getElem? (i := 136) (by decide +kernel))
theorem st_n_8_4 : Cond.not (Cond.eq (st_tm 8) (st_tm 4)) ∈ st_fl ∨ Cond.not (Cond.eq (st_tm 4) (st_tm 8)) ∈ st_fl := Or.inr (List.mem_of_getElem? (i := 137) (by decide +kernel))
theorem st_n_8_5 : Cond.not (Cond.eq (st_tm 8) (st_tm 5)) ∈ st_fl ∨ Cond.not (Cond.eq (st_tm 5) (st_tm 8)) ∈ st_fl := Or.inr (List.mem_of_getElem? (i := 138) (by decide +kernel))
theorem st_n_8_6 : Cond.not (Cond.eq (st_tm 8) (st_tm 6)) ∈ st_fl ∨ Cond.not (Cond.eq (st_tm 6) (st_tm 8)) ∈ st_fl := Or.inr (List.mem_of_getElem? (i := 139) (by decide +kernel))
theorem st_n_8_7 : Cond.not (Cond.eq (st_tm 8) (st_tm 7)) ∈ st_fl ∨ Cond.not (Cond.eq (st_tm 7) (st_tm 8)) ∈ st_fl := Or.inr (List.mem_of_getElem? (i := 140) (by decide +kernel))
theorem st_n_9_0 : Cond.not (Cond.eq (st_tm 9) (st_tm 0)) ∈ st_fl ∨ Cond.not (Cond.eq (st_tm 0) (st_tm 9)) ∈ st_fl := Or.inr (List.mem_of_getElem? (i := 149) (by decide +kernel))
theorem st_n_9_1 : Cond.not (Cond.eq (st_tm 9) (st_tm 1)) ∈ st_fl ∨ Cond.not (Cond.eq (st_tm 1) (st_tm 9)) ∈ st_fl := Or.inr (List.mem_of_getElem? (i := 150) (by decide +kernel))
theorem st_n_9_2 : Cond.not (Cond.eq (st_tm 9) (st_tm 2)) ∈ st_fl ∨ Cond.not (Cond.eq (st_tm 2) (st_tm 9)) ∈ st_fl := Or.inr (List.mem_of_getElem? (i := 151) (by decide +kernel))
theorem st_n_9_3 : Cond.not (Cond.eq (st_tm 9) (st_tm 3)) ∈ st_fl ∨ Cond.not (Cond.eq (st_tm 3) (st_tm 9)) ∈ st_fl := Or.inr (List.mem_of_getElem? (i := 152) (by decide +kernel))
theorem st_n_9_4 : Cond.not (Cond.eq (st_tm 9) (st_tm 4)) ∈ st_fl ∨ Cond.not (Cond.eq (st_tm 4) (st_tm 9)) ∈ st_fl := Or.inr (List.mem_of_getElem? (i := 153) (by decide +kernel))
theorem st_n_9_5 : Cond.not (Cond.eq (st_tm 9) (st_tm 5)) ∈ st_fl ∨ Cond.not (Cond.eq (st_tm 5) (st_tm 9)) ∈ st_fl := Or.inr (List.mem_of_getElem? (i := 154) (by decide +kernel))
theorem st_n_9_6 : Cond.not (Cond.eq (st_tm 9) (st_tm 6)) ∈ st_fl ∨ Cond.not (Cond.eq (st_tm 6) (st_tm 9)) ∈ st_fl := Or.inr (List.mem_of_getElem? (i := 155) (by decide +kernel))
theorem st_n_9_7 : Cond.not (Cond.eq (st_tm 9) (st_tm 7)) ∈ st_fl ∨ Cond.not (Cond.eq (st_tm 7) (st_tm 9)) ∈ st_fl := Or.inr (List.mem_of_getElem? (i := 156) (by decide +kernel))
theorem st_n_9_8 : Cond.not (Cond.eq (st_tm 9) (st_tm 8)) ∈ st_fl ∨ Cond.not (Cond.eq (st_tm 8) (st_tm 9)) ∈ st_fl := Or.inr (List.mem_of_getElem? (i := 157) (by decide +kernel))
theorem st_n_10_0 : Cond.not (Cond.eq (st_tm 10) (st_tm 0)) ∈ st_fl ∨ Cond.not (Cond.eq (st_tm 0) (st_tm 10)) ∈ st_fl := Or.inr (List.mem_of_getElem? (i := 167) (by decide +kernel))
theorem st_n_10_1 : Cond.not (Cond.eq (st_tm 10) (st_tm 1)) ∈ st_fl ∨ Cond.not (Cond.eq (st_tm 1) (st_tm 10)) ∈ st_fl := Or.inr (List.mem_of_getElem? (i := 168) (by decide +kernel))
theorem st_n_10_2 : Cond.not (Cond.eq (st_tm 10) (st_tm 2)) ∈ st_fl ∨ Cond.not (Cond.eq (st_tm 2) (st_tm 10)) ∈ st_fl := Or.inr (List.mem_of_getElem? (i := 169) (by decide +kernel))
theorem st_n_10_3 : Cond.not (Cond.eq (st_tm 10) (st_tm 3)) ∈ st_fl ∨ Cond.not (Cond.eq (st_tm 3) (st_tm 10)) ∈ st_fl := Or.inr (List.mem_of_getElem? (i := 170) (by decide +kernel))
theorem st_n_10_4 : Cond.not (Cond.eq (st_tm 10) (st_tm 4)) ∈ st_fl ∨ Cond.not (Cond.eq (st_tm 4) (st_tm 10)) ∈ st_fl := Or.inr (List.mem_of_getElem? (i := 171) (by decide +kernel))
theorem st_n_10_5 : Cond.not (Cond.eq (st_tm 10) (st_tm 5)) ∈ st_fl ∨ Cond.not (Cond.eq (st_tm 5) (st_tm 10)) ∈ st_fl := Or.inr (List.mem_of_getElem? (i := 172) (by decide +kernel))
theorem st_n_10_6 : Cond.not (Cond.eq (st_tm 10) (st_tm 6)) ∈ st_fl ∨ Cond.not (Cond.eq (st_tm 6) (st_tm 10)) ∈ st_fl := Or.inr (List.mem_of_getElem? (i := 173) (by decide +kernel))
theorem st_n_10_7 : Cond.not (Cond.eq (st_tm 10) (st_tm 7)) ∈ st_fl ∨ Cond.not (Cond.eq (st_tm 7) (st_tm 10)) ∈ st_fl := Or.inr (List.mem_of_getElem? (i := 174) (by decide +kernel))
theorem st_n_10_8 : Cond.not (Cond.eq (st_tm 10) (st_tm 8)) ∈ st_fl ∨ Cond.not (Cond.eq (st_tm 8) (st_tm 10)) ∈ st_fl := Or.inr (List.mem_of_getElem? (i := 175) (by decide +kernel))
theorem st_n_10_9 : Cond.not (Cond.eq (st_tm 10) (st_tm 9)) ∈ st_fl ∨ Cond.not (Cond.eq (st_tm 9) (st_tm 10)) ∈ st_fl := Or.inr (List.mem_of_getElem? (i := 176) (by decide +kernel))
theorem st_n_11_0 : Cond.not (Cond.eq (st_tm 11) (st_tm 0)) ∈ st_fl ∨ Cond.not (Cond.eq (st_tm 0) (st_tm 11)) ∈ st_fl := Or.inr (List.mem_of_getElem? (i := 185) (by decide +kernel))
theorem st_n_11_1 : Cond.not (Cond.eq (st_tm 11) (st_tm 1)) ∈ st_fl ∨ Cond.not (Cond.eq (st_tm 1) (st_tm 11)) ∈ st_fl := Or.inr (List.mem_of_getElem? (i := 186) (by decide +kernel))
theorem st_n_11_2 : Cond.not (Cond.eq (st_tm 11) (st_tm 2)) ∈ st_fl ∨ Cond.not (Cond.eq (st_tm 2) (st_tm 11)) ∈ st_fl := Or.inr (List.mem_of_getElem? (i := 187) (by decide +kernel))
theorem st_n_11_3 : Cond.not (Cond.eq (st_tm 11) (st_tm 3)) ∈ st_fl ∨ Cond.not (Cond.eq (st_tm 3) (st_tm 11)) ∈ st_fl := Or.inr (List.mem_of_getElem? (i := 188) (by decide +kernel))
theorem st_n_11_4 : Cond.not (Cond.eq (st_tm 11) (st_tm 4)) ∈ st_fl ∨ Cond.not (Cond.eq (st_tm 4) (st_tm 11)) ∈ st_fl := Or.inr (List.mem_of_getElem? (i := 189) (by decide +kernel))
theorem st_n_11_5 : Cond.not (Cond.eq (st_tm 11) (st_tm 5)) ∈ st_fl ∨ Cond.not (Cond.eq (st_tm 5) (st_tm 11)) ∈ st_fl := Or.inr (List.mem_of_getElem? (i := 190) (by decide +kernel))
theorem st_n_11_6 : Cond.not (Cond.eq (st_tm 11) (st_tm 6)) ∈ st_fl ∨ Cond.not (Cond.eq (st_tm 6) (st_tm 11)) ∈ st_fl := Or.inr (List.mem_of_getElem? (i := 191) (by decide +kernel))
theorem st_n_11_7 : Cond.not (Cond.eq (st_tm 11) (st_tm 7)) ∈ st_fl ∨ Cond.not (Cond.eq (st_tm 7) (st_tm 11)) ∈ st_fl := Or.inr (List.mem_of_getElem? (i := 192) (by decide +kernel))
theorem st_n_11_8 : Cond.not (Cond.eq (st_tm 11) (st_tm 8)) ∈ st_fl ∨ Cond.not (Cond.eq (st_tm 8) (st_tm 11)) ∈ st_fl := Or.inr (List.mem_of_getElem? (i := 193) (by decide +kernel))
theorem st_n_11_9 : Cond.not (Cond.eq (st_tm 11) (st_tm 9)) ∈ st_fl ∨ Cond.not (Cond.eq (st_tm 9) (st_tm 11)) ∈ st_fl := Or.inr (List.mem_of_getElem? (i := 194) (by decide +kernel))
theorem st_n_11_10 : Cond.not (Cond.eq (st_tm 11) (st_tm 10)) ∈ st_fl ∨ Cond.not (Cond.eq (st_tm 10) (st_tm 11)) ∈ st_fl := Or.inr (List.mem_of_getElem? (i := 195) (by decide +kernel))
theorem st_n_12_0 : Cond.not (Cond.eq (st_tm 12) (st_tm 0)) ∈ st_fl ∨ Cond.not (Cond.eq (st_tm 0) (st_tm 12)) ∈ st_fl := Or.inr (List.mem_of_getElem? (i := 204) (by decide +kernel))
theorem st_n_12_1 : Cond.not (Cond.eq (st_tm 12) (st_tm 1)) ∈ st_fl ∨ Cond.not (Cond.eq (st_tm 1) (st_tm 12)) ∈ st_fl := Or.inr (List.mem_of_getElem? (i := 205) (by decide +kernel))
theorem st_n_12_2 : Cond.not (Cond.eq (st_tm 12) (st_tm 2)) ∈ st_fl ∨ Cond.not (Cond.eq (st_tm 2) (st_tm 12)) ∈ st_fl := Or.inr (List.mem_of_getElem? (i := 206) (by decide +kernel))
theorem st_n_12_3 : Cond.not (Cond.eq (st_tm 12) (st_tm 3)) ∈ st_fl ∨ Cond.not (Cond.eq (st_tm 3) (st_tm 12)) ∈ st_fl := Or.inr (List.mem_of_getElem? (i := 207) (by decide +kernel))
theorem st_n_12_4 : Cond.not (Cond.eq (st_tm 12) (st_tm 4)) ∈ st_fl ∨ Cond.not (Cond.eq (st_tm 4) (st_tm 12)) ∈ st_fl := Or.inr (List.mem_of_getElem? (i := 208) (by decide +kernel))
theorem st_n_12_5 : Cond.not (Cond.eq (st_tm 12) (st_tm 5)) ∈ st_fl ∨ Cond.not (Cond.eq (st_tm 5) (st_tm 12)) ∈ st_fl := Or.inr (List.mem_of_getElem? (i := 209) (by decide +kernel))
theorem st_n_12_6 : Cond.not (Cond.eq (st_tm 12) (st_tm 6)) ∈ st_fl ∨ Cond.not (Cond.eq (st_tm 6) (st_tm 12)) ∈ st_fl := Or.inr (List.mem_of_getElem? (i := 210) (by decide +kernel))
theorem st_n_12_7 : Cond.not (Cond.eq (st_tm 12) (st_tm 7)) ∈ st_fl ∨ Cond.not (Cond.eq (st_tm 7) (st_tm 12)) ∈ st_fl := Or.inr (List.mem_of_getElem? (i := 211) (by decide +kernel))
theorem st_n_12_8 : Cond.not (Cond.eq (st_tm 12) (st_tm 8)) ∈ st_fl ∨ Cond.not (Cond.eq (st_tm 8) (st_tm 12)) ∈ st_fl := Or.inr (List.mem_of_getElem? (i := 212) (by decide +kernel))
theorem st_n_12_9 : Cond.not (Cond.eq (st_tm 12) (st_tm 9)) ∈ st_fl ∨ Cond.not (Cond.eq (st_tm 9) (st_tm 12)) ∈ st_fl := Or.inr (List.mem_of_getElem? (i := 213) (by decide +kernel))
theorem st_n_12_10 : Cond.not (Cond.eq (st_tm 12) (st_tm 10)) ∈ st_fl ∨ Cond.not (Cond.eq (st_tm 10) (st_tm 12)) ∈ st_fl := Or.inr (List.mem_of_getElem? (i := 214) (by decide +kernel))
theorem st_n_12_11 : Cond.not (Cond.eq (st_tm 12) (st_tm 11)) ∈ st_fl ∨ Cond.not (Cond.eq (st_tm 11) (st_tm 12)) ∈ st_fl := Or.inr (List.mem_of_getElem? (i := 215) (by decide +kernel))
theorem st_n_13_0 : Cond.not (Cond.eq (st_tm 13) (st_tm 0)) ∈ st_fl ∨ Cond.not (Cond.eq (st_tm 0) (st_tm 13)) ∈ st_fl := Or.inr (List.mem_of_getElem? (i := 223) (by decide +kernel))
theorem st_n_13_1 : Cond.not (Cond.eq (st_tm 13) (st_tm 1)) ∈ st_fl ∨ Cond.not (Cond.eq (st_tm 1) (st_tm 13)) ∈ st_fl := Or.inr (List.mem_of_getElem? (i := 224) (by decide +kernel))
theorem st_n_13_2 : Cond.not (Cond.eq (st_tm 13) (st_tm 2)) ∈ st_fl ∨ Cond.not (Cond.eq (st_tm 2) (st_tm 13)) ∈ st_fl := Or.inr (List.mem_of_getElem? (i := 225) (by decide +kernel))
theorem st_n_13_3 : Cond.not (Cond.eq (st_tm 13) (st_tm 3)) ∈ st_fl ∨ Cond.not (Cond.eq (st_tm 3) (st_tm 13)) ∈ st_fl := Or.inr (List.mem_of_getElem? (i := 226) (by decide +kernel))
theorem st_n_13_4 : Cond.not (Cond.eq (st_tm 13) (st_tm 4)) ∈ st_fl ∨ Cond.not (Cond.eq (st_tm 4) (st_tm 13)) ∈ st_fl := Or.inr (List.mem_of_getElem? (i := 227) (by decide +kernel))
theorem st_n_13_5 : Cond.not (Cond.eq (st_tm 13) (st_tm 5)) ∈ st_fl ∨ Cond.not (Cond.eq (st_tm 5) (st_tm 13)) ∈ st_fl := Or.inr (List.mem_of_getElem? (i := 228) (by decide +kernel))
theorem st_n_13_6 : Cond.not (Cond.eq (st_tm 13) (st_tm 6)) ∈ st_fl ∨ Cond.not (Cond.eq (st_tm 6) (st_tm 13)) ∈ st_fl := Or.inr (List.mem_of_getElem? (i := 229) (by decide +kernel))
theorem st_n_13_7 : Cond.not (Cond.eq (st_tm 13) (st_tm 7)) ∈ st_fl ∨ Cond.not (Cond.eq (st_tm 7) (st_tm 13)) ∈ st_fl := Or.inr (List.mem_of_getElem? (i := 230) (by decide +kernel))
theorem st_n_13_8 : Cond.not (Cond.eq (st_tm 13) (st_tm 8)) ∈ st_fl ∨ Cond.not (Cond.eq (st_tm 8) (st_tm 13)) ∈ st_fl := Or.inr (List.mem_of_getElem? (i := 231) (by decide +kernel))
theorem st_n_13_9 : Cond.not (Cond.eq (st_tm 13) (st_tm 9)) ∈ st_fl ∨ Cond.not (Cond.eq (st_tm 9) (st_tm 13)) ∈ st_fl := Or.inr (List.mem_of_getElem? (i := 232) (by decide +kernel))
theorem st_n_13_10 : Cond.not (Cond.eq (st_tm 13) (st_tm 10)) ∈ st_fl ∨ Cond.not (Cond.eq (st_tm 10) (st_tm 13)) ∈ st_fl := Or.inr (List.mem_of_getElem? (i := 233) (by decide +kernel))
theorem st_n_13_11 : Cond.not (Cond.eq (st_tm 13) (st_tm 11)) ∈ st_fl ∨ Cond.not (Cond.eq (st_tm 11) (st_tm 13)) ∈ st_fl := Or.inr (List.mem_of_getElem? (i := 234) (by decide +kernel))
theorem st_n_13_12 : Cond.not (Cond.eq (st_tm 13) (st_tm 12)) ∈ st_fl ∨ Cond.not (Cond.eq (st_tm 12) (st_tm 13)) ∈ st_fl := Or.inr (List.mem_of_getElem? (i := 235) (by decide +kernel))
theorem st_n_14_0 : Cond.not (Cond.eq (st_tm 14) (st_tm 0)) ∈ st_fl ∨ Cond.not (Cond.eq (st_tm 0) (st_tm 14)) ∈ st_fl := Or.inr (List.mem_of_getElem? (i := 245) (by decide +kernel))
theorem st_n_14_1 : Cond.not (Cond.eq (st_tm 14) (st_tm 1)) ∈ st_fl ∨ Cond.not (Cond.eq (st_tm 1) (st_tm 14)) ∈ st_fl := Or.inr (List.mem_of_getElem? (i := 246) (by decide +kernel))
theorem st_n_14_2 : Cond.not (Cond.eq (st_tm 14) (st_tm 2)) ∈ st_fl ∨ Cond.not (Cond.eq (st_tm 2) (st_tm 14)) ∈ st_fl := Or.inr (List.mem_of_getElem? (i := 247) (by decide +kernel))
theorem st_n_14_3 : Cond.not (Cond.eq (st_tm 14) (st_tm 3)) ∈ st_fl ∨ Cond.not (Cond.eq (st_tm 3) (st_tm 14)) ∈ st_fl := Or.inr (List.mem_of_getElem? (i := 248) (by decide +kernel))
theorem st_n_14_4 : Cond.not (Cond.eq (st_tm 14) (st_tm 4)) ∈ st_fl ∨ Cond.not (Cond.eq (st_tm 4) (st_tm 14)) ∈ st_fl := Or.inr (List.mem_of_getElem? (i := 249) (by decide +kernel))
theorem st_n_14_5 : Cond.not (Cond.eq (st_tm 14) (st_tm 5)) ∈ st_fl ∨ Cond.not (Cond.eq (st_tm 5) (st_tm 14)) ∈ st_fl := Or.inr (List.mem_of_getElem? (i := 250) (by decide +kernel))
theorem st_n_14_6 : Cond.not (Cond.eq (st_tm 14) (st_tm 6)) ∈ st_fl ∨ Cond.not (Cond.eq (st_tm 6) (st_tm 14)) ∈ st_fl := Or.inr (List.mem_of_getElem? (i := 251) (by decide +kernel))
theorem st_n_14_7 : Cond.not (Cond.eq (st_tm 14) (st_tm 7)) ∈ st_fl ∨ Cond.not (Cond.eq (st_tm 7) (st_tm 14)) ∈ st_fl := Or.inr (List.mem_of_getElem? (i := 252) (by decide +kernel))
theorem st_n_14_8 : Cond.not (Cond.eq (st_tm 14) (st_tm 8)) ∈ st_fl ∨ Cond.not (Cond.eq (st_tm 8) (st_tm 14)) ∈ st_fl := Or.inr (List.mem_of_getElem? (i := 253) (by decide +kernel))
theorem st_n_14_9 : Cond.not (Cond.eq (st_tm 14) (st_tm 9)) ∈ st_fl ∨ Cond.not (Cond.eq (st_tm 9) (st_tm 14)) ∈ st_fl := Or.inr (List.mem_of_getElem? (i := 254) (by decide +kernel))
theorem st_n_14_10 : Cond.not (Cond.eq (st_tm 14) (st_tm 10)) ∈ st_fl ∨ Cond.not (Cond.eq (st_tm 10) (st_tm 14)) ∈ st_fl := Or.inr (List.mem_of_getElem? (i := 255) (by decide +kernel))
theorem st_n_14_11 : Cond.not (Cond.eq (st_tm 14) (st_tm 11)) ∈ st_fl ∨ Cond.not (Cond.eq (st_tm 11) (st_tm 14)) ∈ st_fl := Or.inr (List.mem_of_getElem? (i := 256) (by decide +kernel))
theorem st_n_14_12 : Cond.not (Cond.eq (st_tm 14) (st_tm 12)) ∈ st_fl ∨ Cond.not (Cond.eq (st_tm 12) (st_tm 14)) ∈ st_fl := Or.inr (List.mem_of_getElem? (i := 257) (by decide +kernel))
theorem st_n_14_13 : Cond.not (Cond.eq (st_tm 14) (st_tm 13)) ∈ st_fl ∨ Cond.not (Cond.eq (st_tm 13) (st_tm 14)) ∈ st_fl := Or.inr (List.mem_of_getElem? (i := 258) (by decide +kernel))
theorem st_ne1 : ∀ i j, j < i → i < 15 → Cond.not (Cond.eq (st_tm i) (st_tm j)) ∈ st_fl ∨ Cond.not (Cond.eq (st_tm j) (st_tm i)) ∈ st_fl := by
  intro i j hji hi
  match i, hi with
  | 0, _ =>
    omega
  | 1, _ =>
    match j, hji with
    | 0, _ => exact st_n_1_0
  | 2, _ =>
    match j, hji with
    | 0, _ => exact st_n_2_0
    | 1, _ => exact st_n_2_1
  | 3, _ =>
    match j, hji with
    | 0, _ => exact st_n_3_0
    | 1, _ => exact st_n_3_1
    | 2, _ => exact st_n_3_2
  | 4, _ =>
    match j, hji with
    | 0, _ => exact st_n_4_0
    | 1, _ => exact st_n_4_1
    | 2, _ => exact st_n_4_2
    | 3, _ => exact st_n_4_3
  | 5, _ =>
    match j, hji with
    | 0, _ => exact st_n_5_0
    | 1, _ => exact st_n_5_1
    | 2, _ => exact st_n_5_2
    | 3, _ => exact st_n_5_3
    | 4, _ => exact st_n_5_4
  | 6, _ =>
    match j, hji with
    | 0, _ => exact st_n_6_0
    | 1, _ => exact st_n_6_1
    | 2, _ => exact st_n_6_2
    | 3, _ => exact st_n_6_3
    | 4, _ => exact st_n_6_4
    | 5, _ => exact st_n_6_5
  | 7, _ =>
    match j, hji with
    | 0, _ => exact st_n_7_0
    | 1, _ => exact st_n_7_1
    | 2, _ => exact st_n_7_2
    | 3, _ => exact st_n_7_3
    | 4, _ => exact st_n_7_4
    | 5, _ => exact st_n_7_5
    | 6, _ => exact st_n_7_6
  | 8, _ =>
    match j, hji with
    | 0, _ => exact st_n_8_0
    | 1, _ => exact st_n_8_1
    | 2, _ => exact st_n_8_2
    | 3, _ => exact st_n_8_3
    | 4, _ => exact st_n_8_4
    | 5, _ => exact st_n_8_5
    | 6, _ => exact st_n_8_6
    | 7, _ => exact st_n_8_7
  | 9, _ =>
    match j, hji with
    | 0, _ => exact st_n_9_0
    | 1, _ => exact st_n_9_1
    | 2, _ => exact st_n_9_2
    | 3, _ => exact st_n_9_3
    | 4, _ => exact st_n_9_4
    | 5, _ => exact st_n_9_5
    | 6, _ => exact st_n_9_6
    | 7, _ => exact st_n_9_7
    | 8, _ => exact st_n_9_8
  | 10, _ =>
    match j, hji with
    | 0, _ => exact st_n_10_0
    | 1, _ => exact st_n_10_1
    | 2, _ => exact st_n_10_2
    | 3, _ => exact st_n_10_3
    | 4, _ => exact st_n_10_4
    | 5, _ => exact st_n_10_5
    | 6, _ => exact st_n_10_6
    | 7, _ => exact st_n_10_7
    | 8, _ => exact st_n_10_8
    | 9, _ => exact st_n_10_9
  | 11, _ =>
    match j, hji with
    | 0, _ => exact st_n_11_0
    | 1, _ => exact st_n_11_1
    | 2, _ => exact st_n_11_2
    | 3, _ => exact st_n_11_3
    | 4, _ => exact st_n_11_4
    | 5, _ => exact st_n_11_5
    | 6, _ => exact st_n_11_6
    | 7, _ => exact st_n_11_7
    | 8, _ => exact st_n_11_8
    | 9, _ => exact st_n_11_9
    | 10, _ => exact st_n_11_10
  | 12, _ =>
    match j, hji with
    | 0, _ => exact st_n_12_0
    | 1, _ => exact st_n_12_1
    | 2, _ => exact st_n_12_2
    | 3, _ => exact st_n_12_3
    | 4, _ => exact st_n_12_4
    | 5, _ => exact st_n_12_5
    | 6, _ => exact st_n_12_6
    | 7, _ => exact st_n_12_7
    | 8, _ => exact st_n_12_8
    | 9, _ => exact st_n_12_9
    | 10, _ => exact st_n_12_10
    | 11, _ => exact st_n_12_11
  | 13, _ =>
    match j, hji with
    | 0, _ => exact st_n_13_0
    | 1, _ => exact st_n_13_1
    | 2, _ => exact st_n_13_2
    | 3, _ => exact st_n_13_3
    | 4, _ => exact st_n_13_4
    | 5, _ => exact st_n_13_5
    | 6, _ => exact st_n_13_6
    | 7, _ => exact st_n_13_7
    | 8, _ => exact st_n_13_8
    | 9, _ => exact st_n_13_9
    | 10, _ => exact st_n_13_10
    | 11, _ => exact st_n_13_11
    | 12, _ => exact st_n_13_12
  | 14, _ =>
    match j, hji with
    | 0, _ => exact st_n_14_0
    | 1, _ => exact st_n_14_1
    | 2, _ => exact st_n_14_2
    | 3, _ => exact st_n_14_3
    | 4, _ => exact st_n_14_4
    | 5, _ => exact st_n_14_5
    | 6, _ => exact st_n_14_6
    | 7, _ => exact st_n_14_7
    | 8, _ => exact st_n_14_8
    | 9, _ => exact st_n_14_9
    | 10, _ => exact st_n_14_10
    | 11, _ => exact st_n_14_11
    | 12, _ => exact st_n_14_12
    | 13, _ => exact st_n_14_13
theorem st_ne : ∀ i, i < 15 → ∀ j, j < 15 → i ≠ j → Cond.not (Cond.eq (st_tm i) (st_tm j)) ∈ st_fl ∨ Cond.not (Cond.eq (st_tm j) (st_tm i)) ∈ st_fl := by
  intro i hi j hj hij
  rcases Nat.lt_or_gt_of_ne hij with h | h
  · exact (st_ne1 j i h hj).symm
  · exact st_ne1 i j h hi
theorem st_sr : ∀ i, i < 15 → Cond.stringRef RX4 (jIdx.getD i 0) (jTxt.getD i "") ∈ lw_tbl := by decide +kernel
theorem st_u0 : Cond.arrayOf (.static RX4 "UNDER" "[I") .int ∈ st_fl := by decide +kernel
theorem st_u1 : Cond.eq (.length (.static RX4 "UNDER" "[I")) (.int (Int32.ofNat 6)) ∈ st_fl := by decide +kernel
theorem st_u2 : ∀ j, j < 6 → Cond.eq (.elem (.static RX4 "UNDER" "[I") (.int (Int32.ofNat j))) (.int (jUnder j)) ∈ st_fl := by decide +kernel
theorem st_r0 : Cond.arrayOf (.static RX4 "RULE_LIMITS" "[I") .int ∈ st_fl := by decide +kernel
theorem st_r1 : Cond.eq (.length (.static RX4 "RULE_LIMITS" "[I")) (.int (Int32.ofNat 4)) ∈ st_fl := by decide +kernel
theorem st_r2 : ∀ j, j < 4 → Cond.eq (.elem (.static RX4 "RULE_LIMITS" "[I") (.int (Int32.ofNat j))) (.int (jLims j)) ∈ st_fl := by decide +kernel
theorem st_c : Cond.eq (.static "java/lang/String" "COMPACT_STRINGS" "Z") (.int 1) ∈ st_fl := by decide +kernel
theorem st_f : Cond.isRef (.static "jdk/internal/util/Preconditions" "SIOOBE_FORMATTER" "Ljava/util/function/BiFunction;") ∈ st_fl := by decide +kernel
theorem st_l1 : Cond.laysStatic RX4 "UNDER" "[I" ∈ lw_tbl := List.mem_of_getElem? (i := 371) (by decide +kernel)
theorem st_l2 : Cond.laysStatic RX4 "RULE_LIMITS" "[I" ∈ lw_tbl := List.mem_of_getElem? (i := 383) (by decide +kernel)
theorem st_l3 : Cond.laysStatic "java/lang/String" "COMPACT_STRINGS" "Z" ∈ lw_tbl := List.mem_of_getElem? (i := 662) (by decide +kernel)
theorem st_l4 : Cond.laysStatic "jdk/internal/util/Preconditions" "SIOOBE_FORMATTER" "Ljava/util/function/BiFunction;" ∈ lw_tbl := List.mem_of_getElem? (i := 678) (by decide +kernel)
theorem st_i1 : Cond.initialized RX4 ∈ lw_tbl := List.mem_of_getElem? (i := 87) (by decide +kernel)
theorem st_i2 : Cond.initialized "java/lang/String" ∈ lw_tbl := List.mem_of_getElem? (i := 96) (by decide +kernel)
theorem st_i3 : Cond.initialized "jdk/internal/util/Preconditions" ∈ lw_tbl := List.mem_of_getElem? (i := 98) (by decide +kernel)
theorem st_ai : Cond.arrayClass .int ∈ lw_tbl := List.mem_of_getElem? (i := 186) (by decide +kernel)
theorem st_al : Cond.arrayClass .long ∈ lw_tbl := List.mem_of_getElem? (i := 258) (by decide +kernel)
theorem st_ao : Cond.arrayOver (.object RX2) ∈ lw_tbl := List.mem_of_getElem? (i := 239) (by decide +kernel)
theorem st_n0 : Cond.instantiable RX0 17 ∈ jT := jT_of 110 (by decide +kernel) rfl
theorem st_n1 : Cond.instantiable RX1 5 ∈ jT := jT_of 188 (by decide +kernel) rfl
theorem st_n2 : Cond.instantiable RX2 3 ∈ jT := jT_of 240 (by decide +kernel) rfl
theorem st_n3 : Cond.instantiable RX3 6 ∈ jT := jT_of 210 (by decide +kernel) rfl
theorem st_n4 : Cond.instantiable RX4 8 ∈ jT := jT_of 102 (by decide +kernel) rfl
theorem st_n5 : Cond.instantiable RX5 22 ∈ jT := jT_of 817 (by decide +kernel) rfl
theorem st_K {args : Array Value} {s : State} (hts : ∀ w ∈ lw_tbl, w.before args s = true) : ∃ (D : va_G) (cI cL cQ : ClassId), va_K D vwCl [(cI, .int), (cL, .long), (cQ, .object RX2)] s := by
  have hj : ∀ w ∈ jT, w.before args s = true := fun w h => hts w (List.mem_filter.mp h).1
  obtain ⟨c0, i0, h0⟩ := u_known hj inX0 (hj _ st_n0)
  obtain ⟨c1, i1, h1⟩ := u_known hj inX1 (hj _ st_n1)
  obtain ⟨c2, i2, h2⟩ := u_known hj inX2 (hj _ st_n2)
  obtain ⟨c3, i3, h3⟩ := u_known hj inX3 (hj _ st_n3)
  obtain ⟨c4, i4, h4⟩ := u_known hj inX4 (hj _ st_n4)
  obtain ⟨c5, i5, h5⟩ := u_known hj inX5 (hj _ st_n5)
  obtain ⟨cI, kI, pI, a1, a2, a3⟩ := Cond.arrayClass_spec (hts _ st_ai)
  obtain ⟨cL, kL, pL, b1, b2, b3⟩ := Cond.arrayClass_spec (hts _ st_al)
  obtain ⟨pQ, cQ, kQ, d1, d2, d3, d4, d5⟩ := Cond.arrayOver_spec (hts _ st_ao)
  refine ⟨(fun k => match k with | 0 => c0 | 1 => c1 | 2 => c2 | 3 => c3 | 4 => c4 | _ => c5, fun k => match k with | 0 => i0 | 1 => i1 | 2 => i2 | 3 => i3 | 4 => i4 | _ => i5), cI, cL, cQ, fun k q hq => ?_, fun k q hq => ?_⟩
  · match k, hq with
    | 0, hq => cases hq; exact h0
    | 1, hq => cases hq; exact h1
    | 2, hq => cases hq; exact h2
    | 3, hq => cases hq; exact h3
    | 4, hq => cases hq; exact h4
    | 5, hq => cases hq; exact h5
    | k + 6, hq => simp at hq
  · match k, hq with
    | 0, hq => cases hq; exact ⟨fun n z => ⟨fun k h => (by cases h), kI, a2, pI, a3⟩, a1⟩
    | 1, hq => cases hq; exact ⟨fun n z => ⟨fun k h => (by cases h), kL, b2, pL, b3⟩, b1⟩
    | 2, hq => cases hq; exact ⟨fun n z => ⟨fun k h => (by cases h), kQ, d3, pQ, d4⟩, kQ, pQ, d3, d4, d1, d5⟩
    | k + 3, hq => simp at hq
theorem st_E {s : State} {b L : Nat} {xs : Nat → Int32} (hts : ∀ w ∈ lw_tbl, w.before #[Value.ref b] s = true) (hg : (Jvm.Cond.and given_1 narrow_1).before #[Value.ref b] s = true) (hX : va_X b L xs s s.heap) (hbl : b < s.heap.size) :
    ∃ Z : jZ, Z.2.1 5 = b ∧ Z.2.1 6 = L ∧ Z.2.2.2.2 = xs ∧ jE Z (fun q : Nat => s.heap.size ≤ q) s s.heap ∧ jN Z s := by
  have hf : ∀ c ∈ st_fl, c.before #[Value.ref b] s = true := flat_of_before _ hg
  have hA : ∀ a : Nat, a < s.heap.size → ¬ (fun q : Nat => s.heap.size ≤ q) a := fun a h => Nat.not_le.mpr h
  obtain ⟨D, cI, cL, cQ, hK⟩ := st_K hts
  obtain ⟨tU, hU1, hU2⟩ := va_Tof (f := fun j => .int (jUnder j)) (A := fun q : Nat => s.heap.size ≤ q) (N := 6) (by decide) (hf _ st_u0) (va_eqt (hf _ st_u1)) (fun j hj => va_eqt (hf _ (st_u2 j hj))) hA
  obtain ⟨tR, hR1, hR2⟩ := va_Tof (f := fun j => .int (jLims j)) (A := fun q : Nat => s.heap.size ≤ q) (N := 4) (by decide) (hf _ st_r0) (va_eqt (hf _ st_r1)) (fun j hj => va_eqt (hf _ (st_r2 j hj))) hA
  obtain ⟨adK, adV, hS, hSe⟩ := vk_Sof (N := 15) (tm := st_tm) (len := jLen) (byt := jByt) (A := fun q : Nat => s.heap.size ≤ q) jLen_lt (fun i hi => hf _ (st_ex i hi)) (fun i hi => hf _ (st_co i hi)) (fun i hi => hf _ (st_ar i hi)) (fun i hi => hf _ (st_le i hi)) (fun i hi j hj => hf _ (st_el i hi j hj)) (fun i j hi hj hij => (st_ne i hi j hj hij).imp (fun h => hf _ h) (fun h => hf _ h)) hA
  refine ⟨(D, fun k => match k with | 0 => cI | 1 => cL | 2 => cQ | 3 => tU | 4 => tR | 5 => b | _ => L, adK, adV, xs), rfl, rfl, rfl, ?_, ?_⟩
  · exact ⟨hK, va_Zref (hts _ st_l1) (hts _ st_i1) hU1 hA, hU2, va_Zref (hts _ st_l2) (hts _ st_i1) hR1 hA, hR2, va_Zof (hts _ st_l3) (hts _ st_i2) (va_eqi (hf _ st_c)) hA, va_Zqof (hts _ st_l4) (hts _ st_i3) (hf _ st_f) hA, hS, hX, hbl, hA b hbl, va_AO.of (hts _ st_ao)⟩
  · refine ⟨fun w hw => ?_, fun i hi => vk_R.of (hts _ (st_sr i hi)) (hSe i hi)⟩
    have h1 := hts w (List.mem_filter.mp hw).1
    have h2 := (List.mem_filter.mp hw).2
    cases w <;> first | exact va_Nw.of rfl h1 | (exact absurd h2 (by simp [jNestOk]))
