theorem dX0_become_0 : decode cX0_become 0 = .ok (.aload_n 0, 1) := by decide +kernel
theorem dX0_become_1 : decode cX0_become 1 = .ok (.aload_n 1, 1) := by decide +kernel
theorem dX0_become_2 : decode cX0_become 2 = .ok (.getfield 43, 3) := by decide +kernel
theorem dX0_become_5 : decode cX0_become 5 = .ok (.putfield 43, 3) := by decide +kernel
theorem dX0_become_8 : decode cX0_become 8 = .ok (.aload_n 1, 1) := by decide +kernel
theorem dX0_become_9 : decode cX0_become 9 = .ok (.getfield 9, 3) := by decide +kernel
theorem dX0_become_12 : decode cX0_become 12 = .ok (.iconst 0, 1) := by decide +kernel
theorem dX0_become_13 : decode cX0_become 13 = .ok (.aload_n 0, 1) := by decide +kernel
theorem dX0_become_14 : decode cX0_become 14 = .ok (.getfield 9, 3) := by decide +kernel
theorem dX0_become_17 : decode cX0_become 17 = .ok (.iconst 0, 1) := by decide +kernel
theorem dX0_become_18 : decode cX0_become 18 = .ok (.bipush 14, 2) := by decide +kernel
theorem dX0_become_20 : decode cX0_become 20 = .ok (.invokestatic 46, 3) := by decide +kernel
theorem dX0_become_23 : decode cX0_become 23 = .ok (.aload_n 1, 1) := by decide +kernel
theorem dX0_become_24 : decode cX0_become 24 = .ok (.getfield 15, 3) := by decide +kernel
theorem dX0_become_27 : decode cX0_become 27 = .ok (.iconst 0, 1) := by decide +kernel
theorem dX0_become_28 : decode cX0_become 28 = .ok (.aload_n 0, 1) := by decide +kernel
theorem dX0_become_29 : decode cX0_become 29 = .ok (.getfield 15, 3) := by decide +kernel
theorem dX0_become_32 : decode cX0_become 32 = .ok (.iconst 0, 1) := by decide +kernel
theorem dX0_become_33 : decode cX0_become 33 = .ok (.bipush 14, 2) := by decide +kernel
theorem dX0_become_35 : decode cX0_become 35 = .ok (.invokestatic 46, 3) := by decide +kernel
theorem dX0_become_38 : decode cX0_become 38 = .ok (.aload_n 1, 1) := by decide +kernel
theorem dX0_become_39 : decode cX0_become 39 = .ok (.getfield 18, 3) := by decide +kernel
theorem dX0_become_42 : decode cX0_become 42 = .ok (.iconst 0, 1) := by decide +kernel
theorem dX0_become_43 : decode cX0_become 43 = .ok (.aload_n 0, 1) := by decide +kernel
theorem dX0_become_44 : decode cX0_become 44 = .ok (.getfield 18, 3) := by decide +kernel
theorem dX0_become_47 : decode cX0_become 47 = .ok (.iconst 0, 1) := by decide +kernel
theorem dX0_become_48 : decode cX0_become 48 = .ok (.bipush 14, 2) := by decide +kernel
theorem dX0_become_50 : decode cX0_become 50 = .ok (.invokestatic 46, 3) := by decide +kernel
theorem dX0_become_53 : decode cX0_become 53 = .ok (.aload_n 1, 1) := by decide +kernel
theorem dX0_become_54 : decode cX0_become 54 = .ok (.getfield 21, 3) := by decide +kernel
theorem dX0_become_57 : decode cX0_become 57 = .ok (.iconst 0, 1) := by decide +kernel
theorem dX0_become_58 : decode cX0_become 58 = .ok (.aload_n 0, 1) := by decide +kernel
theorem dX0_become_59 : decode cX0_become 59 = .ok (.getfield 21, 3) := by decide +kernel
theorem dX0_become_62 : decode cX0_become 62 = .ok (.iconst 0, 1) := by decide +kernel
theorem dX0_become_63 : decode cX0_become 63 = .ok (.bipush 14, 2) := by decide +kernel
theorem dX0_become_65 : decode cX0_become 65 = .ok (.invokestatic 46, 3) := by decide +kernel
theorem dX0_become_68 : decode cX0_become 68 = .ok (.aload_n 0, 1) := by decide +kernel
theorem dX0_become_69 : decode cX0_become 69 = .ok (.aload_n 1, 1) := by decide +kernel
theorem dX0_become_70 : decode cX0_become 70 = .ok (.getfield 52, 3) := by decide +kernel
theorem dX0_become_73 : decode cX0_become 73 = .ok (.putfield 52, 3) := by decide +kernel
theorem dX0_become_76 : decode cX0_become 76 = .ok (.aload_n 0, 1) := by decide +kernel
theorem dX0_become_77 : decode cX0_become 77 = .ok (.aload_n 1, 1) := by decide +kernel
theorem dX0_become_78 : decode cX0_become 78 = .ok (.getfield 55, 3) := by decide +kernel
theorem dX0_become_81 : decode cX0_become 81 = .ok (.putfield 55, 3) := by decide +kernel
theorem dX0_become_84 : decode cX0_become 84 = .ok (.aload_n 0, 1) := by decide +kernel
theorem dX0_become_85 : decode cX0_become 85 = .ok (.aload_n 1, 1) := by decide +kernel
theorem dX0_become_86 : decode cX0_become 86 = .ok (.getfield 58, 3) := by decide +kernel
theorem dX0_become_89 : decode cX0_become 89 = .ok (.putfield 58, 3) := by decide +kernel
theorem dX0_become_92 : decode cX0_become 92 = .ok (.aload_n 1, 1) := by decide +kernel
theorem dX0_become_93 : decode cX0_become 93 = .ok (.getfield 24, 3) := by decide +kernel
theorem dX0_become_96 : decode cX0_become 96 = .ok (.iconst 0, 1) := by decide +kernel
theorem dX0_become_97 : decode cX0_become 97 = .ok (.aload_n 0, 1) := by decide +kernel
theorem dX0_become_98 : decode cX0_become 98 = .ok (.getfield 24, 3) := by decide +kernel
theorem dX0_become_101 : decode cX0_become 101 = .ok (.iconst 0, 1) := by decide +kernel
theorem dX0_become_102 : decode cX0_become 102 = .ok (.bipush 14, 2) := by decide +kernel
theorem dX0_become_104 : decode cX0_become 104 = .ok (.invokestatic 46, 3) := by decide +kernel
theorem dX0_become_107 : decode cX0_become 107 = .ok (.aload_n 1, 1) := by decide +kernel
theorem dX0_become_108 : decode cX0_become 108 = .ok (.getfield 27, 3) := by decide +kernel
theorem dX0_become_111 : decode cX0_become 111 = .ok (.iconst 0, 1) := by decide +kernel
theorem dX0_become_112 : decode cX0_become 112 = .ok (.aload_n 0, 1) := by decide +kernel
theorem dX0_become_113 : decode cX0_become 113 = .ok (.getfield 27, 3) := by decide +kernel
theorem dX0_become_116 : decode cX0_become 116 = .ok (.iconst 0, 1) := by decide +kernel
theorem dX0_become_117 : decode cX0_become 117 = .ok (.bipush 14, 2) := by decide +kernel
theorem dX0_become_119 : decode cX0_become 119 = .ok (.invokestatic 46, 3) := by decide +kernel
theorem dX0_become_122 : decode cX0_become 122 = .ok (.aload_n 0, 1) := by decide +kernel
theorem dX0_become_123 : decode cX0_become 123 = .ok (.aload_n 1, 1) := by decide +kernel
theorem dX0_become_124 : decode cX0_become 124 = .ok (.getfield 61, 3) := by decide +kernel
theorem dX0_become_127 : decode cX0_become 127 = .ok (.putfield 61, 3) := by decide +kernel
theorem dX0_become_130 : decode cX0_become 130 = .ok (.aload_n 0, 1) := by decide +kernel
theorem dX0_become_131 : decode cX0_become 131 = .ok (.aload_n 1, 1) := by decide +kernel
theorem dX0_become_132 : decode cX0_become 132 = .ok (.getfield 64, 3) := by decide +kernel
theorem dX0_become_135 : decode cX0_become 135 = .ok (.putfield 64, 3) := by decide +kernel
theorem dX0_become_138 : decode cX0_become 138 = .ok (.aload_n 0, 1) := by decide +kernel
theorem dX0_become_139 : decode cX0_become 139 = .ok (.aload_n 1, 1) := by decide +kernel
theorem dX0_become_140 : decode cX0_become 140 = .ok (.getfield 30, 3) := by decide +kernel
theorem dX0_become_143 : decode cX0_become 143 = .ok (.putfield 30, 3) := by decide +kernel
theorem dX0_become_146 : decode cX0_become 146 = .ok (.aload_n 1, 1) := by decide +kernel
theorem dX0_become_147 : decode cX0_become 147 = .ok (.getfield 34, 3) := by decide +kernel
theorem dX0_become_150 : decode cX0_become 150 = .ok (.iconst 0, 1) := by decide +kernel
theorem dX0_become_151 : decode cX0_become 151 = .ok (.aload_n 0, 1) := by decide +kernel
theorem dX0_become_152 : decode cX0_become 152 = .ok (.getfield 34, 3) := by decide +kernel
theorem dX0_become_155 : decode cX0_become 155 = .ok (.iconst 0, 1) := by decide +kernel
theorem dX0_become_156 : decode cX0_become 156 = .ok (.iconst 4, 1) := by decide +kernel
theorem dX0_become_157 : decode cX0_become 157 = .ok (.invokestatic 46, 3) := by decide +kernel
theorem dX0_become_160 : decode cX0_become 160 = .ok (.aload_n 0, 1) := by decide +kernel
theorem dX0_become_161 : decode cX0_become 161 = .ok (.aload_n 1, 1) := by decide +kernel
theorem dX0_become_162 : decode cX0_become 162 = .ok (.getfield 68, 3) := by decide +kernel
theorem dX0_become_165 : decode cX0_become 165 = .ok (.putfield 68, 3) := by decide +kernel
theorem dX0_become_168 : decode cX0_become 168 = .ok (.aload_n 1, 1) := by decide +kernel
theorem dX0_become_169 : decode cX0_become 169 = .ok (.getfield 37, 3) := by decide +kernel
theorem dX0_become_172 : decode cX0_become 172 = .ok (.iconst 0, 1) := by decide +kernel
theorem dX0_become_173 : decode cX0_become 173 = .ok (.aload_n 0, 1) := by decide +kernel
theorem dX0_become_174 : decode cX0_become 174 = .ok (.getfield 37, 3) := by decide +kernel
theorem dX0_become_177 : decode cX0_become 177 = .ok (.iconst 0, 1) := by decide +kernel
theorem dX0_become_178 : decode cX0_become 178 = .ok (.bipush 6, 2) := by decide +kernel
theorem dX0_become_180 : decode cX0_become 180 = .ok (.invokestatic 46, 3) := by decide +kernel
theorem dX0_become_183 : decode cX0_become 183 = .ok (.aload_n 1, 1) := by decide +kernel
theorem dX0_become_184 : decode cX0_become 184 = .ok (.getfield 40, 3) := by decide +kernel
theorem dX0_become_187 : decode cX0_become 187 = .ok (.iconst 0, 1) := by decide +kernel
theorem dX0_become_188 : decode cX0_become 188 = .ok (.aload_n 0, 1) := by decide +kernel
theorem dX0_become_189 : decode cX0_become 189 = .ok (.getfield 40, 3) := by decide +kernel
theorem dX0_become_192 : decode cX0_become 192 = .ok (.iconst 0, 1) := by decide +kernel
theorem dX0_become_193 : decode cX0_become 193 = .ok (.bipush 6, 2) := by decide +kernel
theorem dX0_become_195 : decode cX0_become 195 = .ok (.invokestatic 46, 3) := by decide +kernel
theorem dX0_become_198 : decode cX0_become 198 = .ok (.return_, 1) := by decide +kernel
def mX0_become (p : Nat) (p2 : Nat) (V : jMem) : Option jMem := (jl (jsI V p 0 (V.1 p2 0)) (fun (V1 : jMem) => (jl (jsA V1 (p + 1) (va_cpy (V1.1 (p2 + 1)) (V1.1 (p + 1)) (Int32.toNatClampNeg (0 : Int32)) (Int32.toNatClampNeg (0 : Int32)) (Int32.toNatClampNeg (14 : Int32)))) (fun (V2 : jMem) => (jl (jsA V2 (p + 2) (va_cpy (V2.1 (p2 + 2)) (V2.1 (p + 2)) (Int32.toNatClampNeg (0 : Int32)) (Int32.toNatClampNeg (0 : Int32)) (Int32.toNatClampNeg (14 : Int32)))) (fun (V3 : jMem) => (jl (jsA V3 (p + 3) (va_cpy (V3.1 (p2 + 3)) (V3.1 (p + 3)) (Int32.toNatClampNeg (0 : Int32)) (Int32.toNatClampNeg (0 : Int32)) (Int32.toNatClampNeg (14 : Int32)))) (fun (V4 : jMem) => (jl (jsA V4 (p + 4) (va_cpy (V4.1 (p2 + 4)) (V4.1 (p + 4)) (Int32.toNatClampNeg (0 : Int32)) (Int32.toNatClampNeg (0 : Int32)) (Int32.toNatClampNeg (14 : Int32)))) (fun (V5 : jMem) => (jl (jsI V5 p 5 (V5.1 p2 5)) (fun (V6 : jMem) => (jl (jsI V6 p 6 (V6.1 p2 6)) (fun (V7 : jMem) => (jl (jsI V7 p 7 (V7.1 p2 7)) (fun (V8 : jMem) => (jl (jsA V8 (p + 5) (va_cpy (V8.1 (p2 + 5)) (V8.1 (p + 5)) (Int32.toNatClampNeg (0 : Int32)) (Int32.toNatClampNeg (0 : Int32)) (Int32.toNatClampNeg (14 : Int32)))) (fun (V9 : jMem) => (jl (jsA V9 (p + 6) (va_cpy (V9.1 (p2 + 6)) (V9.1 (p + 6)) (Int32.toNatClampNeg (0 : Int32)) (Int32.toNatClampNeg (0 : Int32)) (Int32.toNatClampNeg (14 : Int32)))) (fun (V10 : jMem) => (jl (jsI V10 p 10 (V10.1 p2 10)) (fun (V11 : jMem) => (jl (jsL V11 p 11 (V11.2 p2 11)) (fun (V12 : jMem) => (jl (jsI V12 p 12 (V12.1 p2 12)) (fun (V13 : jMem) => (jl (jsA V13 (p + 7) (va_cpy (V13.1 (p2 + 7)) (V13.1 (p + 7)) (Int32.toNatClampNeg (0 : Int32)) (Int32.toNatClampNeg (0 : Int32)) (Int32.toNatClampNeg (4 : Int32)))) (fun (V14 : jMem) => (jl (jsI V14 p 14 (V14.1 p2 14)) (fun (V15 : jMem) => (jl (jsA V15 (p + 8) (va_cpy (V15.1 (p2 + 8)) (V15.1 (p + 8)) (Int32.toNatClampNeg (0 : Int32)) (Int32.toNatClampNeg (0 : Int32)) (Int32.toNatClampNeg (6 : Int32)))) (fun (V16 : jMem) => (jl (jsA V16 (p + 9) (va_cpy (V16.1 (p2 + 9)) (V16.1 (p + 9)) (Int32.toNatClampNeg (0 : Int32)) (Int32.toNatClampNeg (0 : Int32)) (Int32.toNatClampNeg (6 : Int32)))) (fun (V17 : jMem) => (some V17)))))))))))))))))))))))))))))))))))
set_option maxHeartbeats 4000000 in
set_option maxRecDepth 20000 in
theorem tX0_become {l : Launch} {Z : jZ} {q : Nat → Nat} {p : Nat} {p2 : Nat} {V : jMem} {V' : jMem} (hp : jland p) (hp2 : jland p2) (hm : mX0_become p p2 V = some V') : CtD l Z yX0_become cX0_become 2 none 1 q dX [.ref (q p), .ref (q p2)] V none V' := by
  refine Ct_of (L := [(0, .ref (q p)), (1, .ref (q p2))]) (own := RX0) (nm := "become") rfl rfl (by decide +kernel) rfl (Nat.le_of_ble_eq_true rfl) ?_
  unfold mX0_become at hm
  refine j_aload_n dX0_become_0 rfl rfl ?_
  refine j_aload_n dX0_become_1 rfl rfl ?_
  refine m_geti (k := 0) fX0_43 dX0_become_2 rfl (jland_o hp2) rfl ?_
  refine m_puti (k := 0) fX0_43 dX0_become_5 rfl (jland_o hp) rfl ?_
  obtain ⟨V1, eV1⟩ : ∃ y, y = (jsI V p 0 (V.1 p2 0)) := ⟨_, rfl⟩
  have hm := jl_of hm eV1
  rw [← eV1]
  refine j_aload_n dX0_become_8 rfl rfl ?_
  refine m_getr (k := 1) (r := (p2 + 1)) fX0_9 dX0_become_9 rfl (jland_o hp2) rfl ?_
  refine j_iconst (v := 0) dX0_become_12 rfl (by decide) ?_
  refine j_aload_n dX0_become_13 rfl rfl ?_
  refine m_getr (k := 1) (r := (p + 1)) fX0_9 dX0_become_14 rfl (jland_o hp) rfl ?_
  refine j_iconst (v := 0) dX0_become_17 rfl (by decide) ?_
  refine j_bipush (v := 14) dX0_become_18 rfl (by decide) ?_
  refine m_copyi kX0_46 ac_facts.1 ac_facts.2.1 ac_facts.2.2 dX0_become_20 rfl (jland_a1 hp2) (jland_a1 hp) (by decide) (by decide) (by decide) (by decide) (by decide) (by decide) (Nat.le_of_ble_eq_true rfl) ?_
  obtain ⟨V2, eV2⟩ : ∃ y, y = (jsA V1 (p + 1) (va_cpy (V1.1 (p2 + 1)) (V1.1 (p + 1)) (Int32.toNatClampNeg (0 : Int32)) (Int32.toNatClampNeg (0 : Int32)) (Int32.toNatClampNeg (14 : Int32)))) := ⟨_, rfl⟩
  have hm := jl_of hm eV2
  rw [← eV2]
  refine j_aload_n dX0_become_23 rfl rfl ?_
  refine m_getr (k := 2) (r := (p2 + 2)) fX0_15 dX0_become_24 rfl (jland_o hp2) rfl ?_
  refine j_iconst (v := 0) dX0_become_27 rfl (by decide) ?_
  refine j_aload_n dX0_become_28 rfl rfl ?_
  refine m_getr (k := 2) (r := (p + 2)) fX0_15 dX0_become_29 rfl (jland_o hp) rfl ?_
  refine j_iconst (v := 0) dX0_become_32 rfl (by decide) ?_
  refine j_bipush (v := 14) dX0_become_33 rfl (by decide) ?_
  refine m_copyi kX0_46 ac_facts.1 ac_facts.2.1 ac_facts.2.2 dX0_become_35 rfl (jland_a2 hp2) (jland_a2 hp) (by decide) (by decide) (by decide) (by decide) (by decide) (by decide) (Nat.le_of_ble_eq_true rfl) ?_
  obtain ⟨V3, eV3⟩ : ∃ y, y = (jsA V2 (p + 2) (va_cpy (V2.1 (p2 + 2)) (V2.1 (p + 2)) (Int32.toNatClampNeg (0 : Int32)) (Int32.toNatClampNeg (0 : Int32)) (Int32.toNatClampNeg (14 : Int32)))) := ⟨_, rfl⟩
  have hm := jl_of hm eV3
  rw [← eV3]
  refine j_aload_n dX0_become_38 rfl rfl ?_
  refine m_getr (k := 3) (r := (p2 + 3)) fX0_18 dX0_become_39 rfl (jland_o hp2) rfl ?_
  refine j_iconst (v := 0) dX0_become_42 rfl (by decide) ?_
  refine j_aload_n dX0_become_43 rfl rfl ?_
  refine m_getr (k := 3) (r := (p + 3)) fX0_18 dX0_become_44 rfl (jland_o hp) rfl ?_
  refine j_iconst (v := 0) dX0_become_47 rfl (by decide) ?_
  refine j_bipush (v := 14) dX0_become_48 rfl (by decide) ?_
  refine m_copyi kX0_46 ac_facts.1 ac_facts.2.1 ac_facts.2.2 dX0_become_50 rfl (jland_a3 hp2) (jland_a3 hp) (by decide) (by decide) (by decide) (by decide) (by decide) (by decide) (Nat.le_of_ble_eq_true rfl) ?_
  obtain ⟨V4, eV4⟩ : ∃ y, y = (jsA V3 (p + 3) (va_cpy (V3.1 (p2 + 3)) (V3.1 (p + 3)) (Int32.toNatClampNeg (0 : Int32)) (Int32.toNatClampNeg (0 : Int32)) (Int32.toNatClampNeg (14 : Int32)))) := ⟨_, rfl⟩
  have hm := jl_of hm eV4
  rw [← eV4]
  refine j_aload_n dX0_become_53 rfl rfl ?_
  refine m_getr (k := 4) (r := (p2 + 4)) fX0_21 dX0_become_54 rfl (jland_o hp2) rfl ?_
  refine j_iconst (v := 0) dX0_become_57 rfl (by decide) ?_
  refine j_aload_n dX0_become_58 rfl rfl ?_
  refine m_getr (k := 4) (r := (p + 4)) fX0_21 dX0_become_59 rfl (jland_o hp) rfl ?_
  refine j_iconst (v := 0) dX0_become_62 rfl (by decide) ?_
  refine j_bipush (v := 14) dX0_become_63 rfl (by decide) ?_
  refine m_copyi kX0_46 ac_facts.1 ac_facts.2.1 ac_facts.2.2 dX0_become_65 rfl (jland_a4 hp2) (jland_a4 hp) (by decide) (by decide) (by decide) (by decide) (by decide) (by decide) (Nat.le_of_ble_eq_true rfl) ?_
  obtain ⟨V5, eV5⟩ : ∃ y, y = (jsA V4 (p + 4) (va_cpy (V4.1 (p2 + 4)) (V4.1 (p + 4)) (Int32.toNatClampNeg (0 : Int32)) (Int32.toNatClampNeg (0 : Int32)) (Int32.toNatClampNeg (14 : Int32)))) := ⟨_, rfl⟩
  have hm := jl_of hm eV5
  rw [← eV5]
  refine j_aload_n dX0_become_68 rfl rfl ?_
  refine j_aload_n dX0_become_69 rfl rfl ?_
  refine m_geti (k := 5) fX0_52 dX0_become_70 rfl (jland_o hp2) rfl ?_
  refine m_puti (k := 5) fX0_52 dX0_become_73 rfl (jland_o hp) rfl ?_
  obtain ⟨V6, eV6⟩ : ∃ y, y = (jsI V5 p 5 (V5.1 p2 5)) := ⟨_, rfl⟩
  have hm := jl_of hm eV6
  rw [← eV6]
  refine j_aload_n dX0_become_76 rfl rfl ?_
  refine j_aload_n dX0_become_77 rfl rfl ?_
  refine m_geti (k := 6) fX0_55 dX0_become_78 rfl (jland_o hp2) rfl ?_
  refine m_puti (k := 6) fX0_55 dX0_become_81 rfl (jland_o hp) rfl ?_
  obtain ⟨V7, eV7⟩ : ∃ y, y = (jsI V6 p 6 (V6.1 p2 6)) := ⟨_, rfl⟩
  have hm := jl_of hm eV7
  rw [← eV7]
  refine j_aload_n dX0_become_84 rfl rfl ?_
  refine j_aload_n dX0_become_85 rfl rfl ?_
  refine m_geti (k := 7) fX0_58 dX0_become_86 rfl (jland_o hp2) rfl ?_
  refine m_puti (k := 7) fX0_58 dX0_become_89 rfl (jland_o hp) rfl ?_
  obtain ⟨V8, eV8⟩ : ∃ y, y = (jsI V7 p 7 (V7.1 p2 7)) := ⟨_, rfl⟩
  have hm := jl_of hm eV8
  rw [← eV8]
  refine j_aload_n dX0_become_92 rfl rfl ?_
  refine m_getr (k := 8) (r := (p2 + 5)) fX0_24 dX0_become_93 rfl (jland_o hp2) rfl ?_
  refine j_iconst (v := 0) dX0_become_96 rfl (by decide) ?_
  refine j_aload_n dX0_become_97 rfl rfl ?_
  refine m_getr (k := 8) (r := (p + 5)) fX0_24 dX0_become_98 rfl (jland_o hp) rfl ?_
  refine j_iconst (v := 0) dX0_become_101 rfl (by decide) ?_
  refine j_bipush (v := 14) dX0_become_102 rfl (by decide) ?_
  refine m_copyi kX0_46 ac_facts.1 ac_facts.2.1 ac_facts.2.2 dX0_become_104 rfl (jland_a5 hp2) (jland_a5 hp) (by decide) (by decide) (by decide) (by decide) (by decide) (by decide) (Nat.le_of_ble_eq_true rfl) ?_
  obtain ⟨V9, eV9⟩ : ∃ y, y = (jsA V8 (p + 5) (va_cpy (V8.1 (p2 + 5)) (V8.1 (p + 5)) (Int32.toNatClampNeg (0 : Int32)) (Int32.toNatClampNeg (0 : Int32)) (Int32.toNatClampNeg (14 : Int32)))) := ⟨_, rfl⟩
  have hm := jl_of hm eV9
  rw [← eV9]
  refine j_aload_n dX0_become_107 rfl rfl ?_
  refine m_getr (k := 9) (r := (p2 + 6)) fX0_27 dX0_become_108 rfl (jland_o hp2) rfl ?_
  refine j_iconst (v := 0) dX0_become_111 rfl (by decide) ?_
  refine j_aload_n dX0_become_112 rfl rfl ?_
  refine m_getr (k := 9) (r := (p + 6)) fX0_27 dX0_become_113 rfl (jland_o hp) rfl ?_
  refine j_iconst (v := 0) dX0_become_116 rfl (by decide) ?_
  refine j_bipush (v := 14) dX0_become_117 rfl (by decide) ?_
  refine m_copyi kX0_46 ac_facts.1 ac_facts.2.1 ac_facts.2.2 dX0_become_119 rfl (jland_a6 hp2) (jland_a6 hp) (by decide) (by decide) (by decide) (by decide) (by decide) (by decide) (Nat.le_of_ble_eq_true rfl) ?_
  obtain ⟨V10, eV10⟩ : ∃ y, y = (jsA V9 (p + 6) (va_cpy (V9.1 (p2 + 6)) (V9.1 (p + 6)) (Int32.toNatClampNeg (0 : Int32)) (Int32.toNatClampNeg (0 : Int32)) (Int32.toNatClampNeg (14 : Int32)))) := ⟨_, rfl⟩
  have hm := jl_of hm eV10
  rw [← eV10]
  refine j_aload_n dX0_become_122 rfl rfl ?_
  refine j_aload_n dX0_become_123 rfl rfl ?_
  refine m_geti (k := 10) fX0_61 dX0_become_124 rfl (jland_o hp2) rfl ?_
  refine m_puti (k := 10) fX0_61 dX0_become_127 rfl (jland_o hp) rfl ?_
  obtain ⟨V11, eV11⟩ : ∃ y, y = (jsI V10 p 10 (V10.1 p2 10)) := ⟨_, rfl⟩
  have hm := jl_of hm eV11
  rw [← eV11]
  refine j_aload_n dX0_become_130 rfl rfl ?_
  refine j_aload_n dX0_become_131 rfl rfl ?_
  refine m_getl (k := 11) fX0_64 dX0_become_132 rfl (jland_o hp2) rfl ?_
  refine m_putl (k := 11) fX0_64 dX0_become_135 rfl (jland_o hp) rfl ?_
  obtain ⟨V12, eV12⟩ : ∃ y, y = (jsL V11 p 11 (V11.2 p2 11)) := ⟨_, rfl⟩
  have hm := jl_of hm eV12
  rw [← eV12]
  refine j_aload_n dX0_become_138 rfl rfl ?_
  refine j_aload_n dX0_become_139 rfl rfl ?_
  refine m_geti (k := 12) fX0_30 dX0_become_140 rfl (jland_o hp2) rfl ?_
  refine m_puti (k := 12) fX0_30 dX0_become_143 rfl (jland_o hp) rfl ?_
  obtain ⟨V13, eV13⟩ : ∃ y, y = (jsI V12 p 12 (V12.1 p2 12)) := ⟨_, rfl⟩
  have hm := jl_of hm eV13
  rw [← eV13]
  refine j_aload_n dX0_become_146 rfl rfl ?_
  refine m_getr (k := 13) (r := (p2 + 7)) fX0_34 dX0_become_147 rfl (jland_o hp2) rfl ?_
  refine j_iconst (v := 0) dX0_become_150 rfl (by decide) ?_
  refine j_aload_n dX0_become_151 rfl rfl ?_
  refine m_getr (k := 13) (r := (p + 7)) fX0_34 dX0_become_152 rfl (jland_o hp) rfl ?_
  refine j_iconst (v := 0) dX0_become_155 rfl (by decide) ?_
  refine j_iconst (v := 4) dX0_become_156 rfl (by decide) ?_
  refine m_copyi kX0_46 ac_facts.1 ac_facts.2.1 ac_facts.2.2 dX0_become_157 rfl (jland_a7 hp2) (jland_a7 hp) (by decide) (by decide) (by decide) (by decide) (by decide) (by decide) (Nat.le_of_ble_eq_true rfl) ?_
  obtain ⟨V14, eV14⟩ : ∃ y, y = (jsA V13 (p + 7) (va_cpy (V13.1 (p2 + 7)) (V13.1 (p + 7)) (Int32.toNatClampNeg (0 : Int32)) (Int32.toNatClampNeg (0 : Int32)) (Int32.toNatClampNeg (4 : Int32)))) := ⟨_, rfl⟩
  have hm := jl_of hm eV14
  rw [← eV14]
  refine j_aload_n dX0_become_160 rfl rfl ?_
  refine j_aload_n dX0_become_161 rfl rfl ?_
  refine m_geti (k := 14) fX0_68 dX0_become_162 rfl (jland_o hp2) rfl ?_
  refine m_puti (k := 14) fX0_68 dX0_become_165 rfl (jland_o hp) rfl ?_
  obtain ⟨V15, eV15⟩ : ∃ y, y = (jsI V14 p 14 (V14.1 p2 14)) := ⟨_, rfl⟩
  have hm := jl_of hm eV15
  rw [← eV15]
  refine j_aload_n dX0_become_168 rfl rfl ?_
  refine m_getr (k := 15) (r := (p2 + 8)) fX0_37 dX0_become_169 rfl (jland_o hp2) rfl ?_
  refine j_iconst (v := 0) dX0_become_172 rfl (by decide) ?_
  refine j_aload_n dX0_become_173 rfl rfl ?_
  refine m_getr (k := 15) (r := (p + 8)) fX0_37 dX0_become_174 rfl (jland_o hp) rfl ?_
  refine j_iconst (v := 0) dX0_become_177 rfl (by decide) ?_
  refine j_bipush (v := 6) dX0_become_178 rfl (by decide) ?_
  refine m_copyi kX0_46 ac_facts.1 ac_facts.2.1 ac_facts.2.2 dX0_become_180 rfl (jland_a8 hp2) (jland_a8 hp) (by decide) (by decide) (by decide) (by decide) (by decide) (by decide) (Nat.le_of_ble_eq_true rfl) ?_
  obtain ⟨V16, eV16⟩ : ∃ y, y = (jsA V15 (p + 8) (va_cpy (V15.1 (p2 + 8)) (V15.1 (p + 8)) (Int32.toNatClampNeg (0 : Int32)) (Int32.toNatClampNeg (0 : Int32)) (Int32.toNatClampNeg (6 : Int32)))) := ⟨_, rfl⟩
  have hm := jl_of hm eV16
  rw [← eV16]
  refine j_aload_n dX0_become_183 rfl rfl ?_
  refine m_getr (k := 16) (r := (p2 + 9)) fX0_40 dX0_become_184 rfl (jland_o hp2) rfl ?_
  refine j_iconst (v := 0) dX0_become_187 rfl (by decide) ?_
  refine j_aload_n dX0_become_188 rfl rfl ?_
  refine m_getr (k := 16) (r := (p + 9)) fX0_40 dX0_become_189 rfl (jland_o hp) rfl ?_
  refine j_iconst (v := 0) dX0_become_192 rfl (by decide) ?_
  refine j_bipush (v := 6) dX0_become_193 rfl (by decide) ?_
  refine m_copyi kX0_46 ac_facts.1 ac_facts.2.1 ac_facts.2.2 dX0_become_195 rfl (jland_a9 hp2) (jland_a9 hp) (by decide) (by decide) (by decide) (by decide) (by decide) (by decide) (Nat.le_of_ble_eq_true rfl) ?_
  obtain ⟨V17, eV17⟩ : ∃ y, y = (jsA V16 (p + 9) (va_cpy (V16.1 (p2 + 9)) (V16.1 (p + 9)) (Int32.toNatClampNeg (0 : Int32)) (Int32.toNatClampNeg (0 : Int32)) (Int32.toNatClampNeg (6 : Int32)))) := ⟨_, rfl⟩
  have hm := jl_of hm eV17
  rw [← eV17]
  exact j_return dX0_become_198 rfl ⟨Nat.le_refl _, Nat.le_refl _⟩ (jf_v hm)
theorem dX0_addField_0 : decode cX0_addField 0 = .ok (.aload_n 0, 1) := by decide +kernel
theorem dX0_addField_1 : decode cX0_addField 1 = .ok (.getfield 43, 3) := by decide +kernel
theorem dX0_addField_4 : decode cX0_addField 4 = .ok (.istore_n 3, 1) := by decide +kernel
theorem dX0_addField_5 : decode cX0_addField 5 = .ok (.aload_n 0, 1) := by decide +kernel
theorem dX0_addField_6 : decode cX0_addField 6 = .ok (.getfield 9, 3) := by decide +kernel
theorem dX0_addField_9 : decode cX0_addField 9 = .ok (.iload_n 3, 1) := by decide +kernel
theorem dX0_addField_10 : decode cX0_addField 10 = .ok (.iload_n 1, 1) := by decide +kernel
theorem dX0_addField_11 : decode cX0_addField 11 = .ok (.iastore, 1) := by decide +kernel
theorem dX0_addField_12 : decode cX0_addField 12 = .ok (.aload_n 0, 1) := by decide +kernel
theorem dX0_addField_13 : decode cX0_addField 13 = .ok (.getfield 15, 3) := by decide +kernel
theorem dX0_addField_16 : decode cX0_addField 16 = .ok (.iload_n 3, 1) := by decide +kernel
theorem dX0_addField_17 : decode cX0_addField 17 = .ok (.iload_n 2, 1) := by decide +kernel
theorem dX0_addField_18 : decode cX0_addField 18 = .ok (.iastore, 1) := by decide +kernel
theorem dX0_addField_19 : decode cX0_addField 19 = .ok (.aload_n 0, 1) := by decide +kernel
theorem dX0_addField_20 : decode cX0_addField 20 = .ok (.getfield 18, 3) := by decide +kernel
theorem dX0_addField_23 : decode cX0_addField 23 = .ok (.iload_n 3, 1) := by decide +kernel
theorem dX0_addField_24 : decode cX0_addField 24 = .ok (.iconst 0, 1) := by decide +kernel
theorem dX0_addField_25 : decode cX0_addField 25 = .ok (.iastore, 1) := by decide +kernel
theorem dX0_addField_26 : decode cX0_addField 26 = .ok (.aload_n 0, 1) := by decide +kernel
theorem dX0_addField_27 : decode cX0_addField 27 = .ok (.getfield 21, 3) := by decide +kernel
theorem dX0_addField_30 : decode cX0_addField 30 = .ok (.iload_n 3, 1) := by decide +kernel
theorem dX0_addField_31 : decode cX0_addField 31 = .ok (.iconst 0, 1) := by decide +kernel
theorem dX0_addField_32 : decode cX0_addField 32 = .ok (.iastore, 1) := by decide +kernel
theorem dX0_addField_33 : decode cX0_addField 33 = .ok (.aload_n 0, 1) := by decide +kernel
theorem dX0_addField_34 : decode cX0_addField 34 = .ok (.dup, 1) := by decide +kernel
theorem dX0_addField_35 : decode cX0_addField 35 = .ok (.getfield 43, 3) := by decide +kernel
theorem dX0_addField_38 : decode cX0_addField 38 = .ok (.iconst 1, 1) := by decide +kernel
theorem dX0_addField_39 : decode cX0_addField 39 = .ok (.iadd, 1) := by decide +kernel
theorem dX0_addField_40 : decode cX0_addField 40 = .ok (.putfield 43, 3) := by decide +kernel
theorem dX0_addField_43 : decode cX0_addField 43 = .ok (.iload_n 3, 1) := by decide +kernel
theorem dX0_addField_44 : decode cX0_addField 44 = .ok (.ireturn, 1) := by decide +kernel
def mX0_addField (a1 : Int32) (a2 : Int32) (V : jMem) : Option (Int32 × jMem) := (jg (jin (V.1 1 0) 14) (jl (jsI V 2 (Int32.toNatClampNeg (V.1 1 0)) a1) (fun (V2 : jMem) => (jl (jsI V2 3 (Int32.toNatClampNeg (V.1 1 0)) a2) (fun (V3 : jMem) => (jl (jsI V3 4 (Int32.toNatClampNeg (V.1 1 0)) (0 : Int32)) (fun (V4 : jMem) => (jl (jsI V4 5 (Int32.toNatClampNeg (V.1 1 0)) (0 : Int32)) (fun (V5 : jMem) => (jl (jsI V5 1 0 ((V5.1 1 0) + (1 : Int32))) (fun (V6 : jMem) => (some ((V.1 1 0), V6)))))))))))))
set_option maxHeartbeats 4000000 in
set_option maxRecDepth 20000 in
theorem tX0_addField {l : Launch} {Z : jZ} {q : Nat → Nat} {a1 : Int32} {a2 : Int32} {V : jMem} {r : Int32} {V' : jMem}  (hm : mX0_addField a1 a2 V = some (r, V')) : CtD l Z yX0_addField cX0_addField 4 (some .int) 0 q dX [.ref (q 1), .int a1, .int a2] V (some (.int r)) V' := by
  refine Ct_of (L := [(0, .ref (q 1)), (1, .int a1), (2, .int a2)]) (own := RX0) (nm := "addField") rfl rfl (by decide +kernel) rfl (Nat.le_of_ble_eq_true rfl) ?_
  unfold mX0_addField at hm
  refine j_aload_n dX0_addField_0 rfl rfl ?_
  refine m_geti (k := 0) fX0_43 dX0_addField_1 rfl rfl rfl ?_
  refine j_istore_n (i := 3) (L' := [(3, _), (0, _), (1, _), (2, _)]) dX0_addField_4 rfl rfl (by decide) rfl ?_
  refine j_aload_n dX0_addField_5 rfl rfl ?_
  refine m_getr (k := 1) (r := 2) fX0_9 dX0_addField_6 rfl rfl rfl ?_
  refine j_iload_n dX0_addField_9 rfl rfl ?_
  refine j_iload_n dX0_addField_10 rfl rfl ?_
  obtain ⟨g1, hm⟩ := jg_of hm
  refine o_iast (k := (Int32.toNatClampNeg (V.1 1 0))) rfl dX0_addField_11 rfl rfl (jin_vp g1) ?_
  obtain ⟨V2, eV2⟩ : ∃ y, y = (jsI V 2 (Int32.toNatClampNeg (V.1 1 0)) a1) := ⟨_, rfl⟩
  have hm := jl_of hm eV2
  rw [← eV2]
  refine j_aload_n dX0_addField_12 rfl rfl ?_
  refine m_getr (k := 2) (r := 3) fX0_15 dX0_addField_13 rfl rfl rfl ?_
  refine j_iload_n dX0_addField_16 rfl rfl ?_
  refine j_iload_n dX0_addField_17 rfl rfl ?_
  refine o_iast (k := (Int32.toNatClampNeg (V.1 1 0))) rfl dX0_addField_18 rfl rfl (jin_vp g1) ?_
  obtain ⟨V3, eV3⟩ : ∃ y, y = (jsI V2 3 (Int32.toNatClampNeg (V.1 1 0)) a2) := ⟨_, rfl⟩
  have hm := jl_of hm eV3
  rw [← eV3]
  refine j_aload_n dX0_addField_19 rfl rfl ?_
  refine m_getr (k := 3) (r := 4) fX0_18 dX0_addField_20 rfl rfl rfl ?_
  refine j_iload_n dX0_addField_23 rfl rfl ?_
  refine j_iconst (v := 0) dX0_addField_24 rfl (by decide) ?_
  refine o_iast (k := (Int32.toNatClampNeg (V.1 1 0))) rfl dX0_addField_25 rfl rfl (jin_vp g1) ?_
  obtain ⟨V4, eV4⟩ : ∃ y, y = (jsI V3 4 (Int32.toNatClampNeg (V.1 1 0)) (0 : Int32)) := ⟨_, rfl⟩
  have hm := jl_of hm eV4
  rw [← eV4]
  refine j_aload_n dX0_addField_26 rfl rfl ?_
  refine m_getr (k := 4) (r := 5) fX0_21 dX0_addField_27 rfl rfl rfl ?_
  refine j_iload_n dX0_addField_30 rfl rfl ?_
  refine j_iconst (v := 0) dX0_addField_31 rfl (by decide) ?_
  refine o_iast (k := (Int32.toNatClampNeg (V.1 1 0))) rfl dX0_addField_32 rfl rfl (jin_vp g1) ?_
  obtain ⟨V5, eV5⟩ : ∃ y, y = (jsI V4 5 (Int32.toNatClampNeg (V.1 1 0)) (0 : Int32)) := ⟨_, rfl⟩
  have hm := jl_of hm eV5
  rw [← eV5]
  refine j_aload_n dX0_addField_33 rfl rfl ?_
  refine j_dup dX0_addField_34 rfl rfl ?_
  refine m_geti (k := 0) fX0_43 dX0_addField_35 rfl rfl rfl ?_
  refine j_iconst (v := 1) dX0_addField_38 rfl (by decide) ?_
  refine j_iadd dX0_addField_39 rfl ?_
  refine m_puti (k := 0) fX0_43 dX0_addField_40 rfl rfl rfl ?_
  obtain ⟨V6, eV6⟩ : ∃ y, y = (jsI V5 1 0 ((V5.1 1 0) + (1 : Int32))) := ⟨_, rfl⟩
  have hm := jl_of hm eV6
  rw [← eV6]
  refine j_iload_n dX0_addField_43 rfl rfl ?_
  exact j_ireturn dX0_addField_44 rfl rfl ⟨Nat.le_refl _, Nat.le_refl _⟩ (jf_m (fun z => .int z) hm)
theorem dX0_addStrip_0 : decode cX0_addStrip 0 = .ok (.aload_n 0, 1) := by decide +kernel
theorem dX0_addStrip_1 : decode cX0_addStrip 1 = .ok (.getfield 68, 3) := by decide +kernel
theorem dX0_addStrip_4 : decode cX0_addStrip 4 = .ok (.istore_n 3, 1) := by decide +kernel
theorem dX0_addStrip_5 : decode cX0_addStrip 5 = .ok (.aload_n 0, 1) := by decide +kernel
theorem dX0_addStrip_6 : decode cX0_addStrip 6 = .ok (.getfield 37, 3) := by decide +kernel
theorem dX0_addStrip_9 : decode cX0_addStrip 9 = .ok (.iload_n 3, 1) := by decide +kernel
theorem dX0_addStrip_10 : decode cX0_addStrip 10 = .ok (.iload_n 1, 1) := by decide +kernel
theorem dX0_addStrip_11 : decode cX0_addStrip 11 = .ok (.iastore, 1) := by decide +kernel
theorem dX0_addStrip_12 : decode cX0_addStrip 12 = .ok (.aload_n 0, 1) := by decide +kernel
theorem dX0_addStrip_13 : decode cX0_addStrip 13 = .ok (.getfield 40, 3) := by decide +kernel
theorem dX0_addStrip_16 : decode cX0_addStrip 16 = .ok (.iload_n 3, 1) := by decide +kernel
theorem dX0_addStrip_17 : decode cX0_addStrip 17 = .ok (.iload_n 2, 1) := by decide +kernel
theorem dX0_addStrip_18 : decode cX0_addStrip 18 = .ok (.iastore, 1) := by decide +kernel
theorem dX0_addStrip_19 : decode cX0_addStrip 19 = .ok (.aload_n 0, 1) := by decide +kernel
theorem dX0_addStrip_20 : decode cX0_addStrip 20 = .ok (.dup, 1) := by decide +kernel
theorem dX0_addStrip_21 : decode cX0_addStrip 21 = .ok (.getfield 68, 3) := by decide +kernel
theorem dX0_addStrip_24 : decode cX0_addStrip 24 = .ok (.iconst 1, 1) := by decide +kernel
theorem dX0_addStrip_25 : decode cX0_addStrip 25 = .ok (.iadd, 1) := by decide +kernel
theorem dX0_addStrip_26 : decode cX0_addStrip 26 = .ok (.putfield 68, 3) := by decide +kernel
theorem dX0_addStrip_29 : decode cX0_addStrip 29 = .ok (.iload_n 3, 1) := by decide +kernel
theorem dX0_addStrip_30 : decode cX0_addStrip 30 = .ok (.ireturn, 1) := by decide +kernel
def mX0_addStrip (a1 : Int32) (a2 : Int32) (V : jMem) : Option (Int32 × jMem) := (jg (jin (V.1 1 14) 6) (jl (jsI V 9 (Int32.toNatClampNeg (V.1 1 14)) a1) (fun (V2 : jMem) => (jl (jsI V2 10 (Int32.toNatClampNeg (V.1 1 14)) a2) (fun (V3 : jMem) => (jl (jsI V3 1 14 ((V3.1 1 14) + (1 : Int32))) (fun (V4 : jMem) => (some ((V.1 1 14), V4)))))))))
set_option maxHeartbeats 4000000 in
set_option maxRecDepth 20000 in
theorem tX0_addStrip {l : Launch} {Z : jZ} {q : Nat → Nat} {a1 : Int32} {a2 : Int32} {V : jMem} {r : Int32} {V' : jMem}  (hm : mX0_addStrip a1 a2 V = some (r, V')) : CtD l Z yX0_addStrip cX0_addStrip 4 (some .int) 0 q dX [.ref (q 1), .int a1, .int a2] V (some (.int r)) V' := by
  refine Ct_of (L := [(0, .ref (q 1)), (1, .int a1), (2, .int a2)]) (own := RX0) (nm := "addStrip") rfl rfl (by decide +kernel) rfl (Nat.le_of_ble_eq_true rfl) ?_
  unfold mX0_addStrip at hm
  refine j_aload_n dX0_addStrip_0 rfl rfl ?_
  refine m_geti (k := 14) fX0_68 dX0_addStrip_1 rfl rfl rfl ?_
  refine j_istore_n (i := 3) (L' := [(3, _), (0, _), (1, _), (2, _)]) dX0_addStrip_4 rfl rfl (by decide) rfl ?_
  refine j_aload_n dX0_addStrip_5 rfl rfl ?_
  refine m_getr (k := 15) (r := 9) fX0_37 dX0_addStrip_6 rfl rfl rfl ?_
  refine j_iload_n dX0_addStrip_9 rfl rfl ?_
  refine j_iload_n dX0_addStrip_10 rfl rfl ?_
  obtain ⟨g1, hm⟩ := jg_of hm
  refine o_iast (k := (Int32.toNatClampNeg (V.1 1 14))) rfl dX0_addStrip_11 rfl rfl (jin_vp g1) ?_
  obtain ⟨V2, eV2⟩ : ∃ y, y = (jsI V 9 (Int32.toNatClampNeg (V.1 1 14)) a1) := ⟨_, rfl⟩
  have hm := jl_of hm eV2
  rw [← eV2]
  refine j_aload_n dX0_addStrip_12 rfl rfl ?_
  refine m_getr (k := 16) (r := 10) fX0_40 dX0_addStrip_13 rfl rfl rfl ?_
  refine j_iload_n dX0_addStrip_16 rfl rfl ?_
  refine j_iload_n dX0_addStrip_17 rfl rfl ?_
  refine o_iast (k := (Int32.toNatClampNeg (V.1 1 14))) rfl dX0_addStrip_18 rfl rfl (jin_vp g1) ?_
  obtain ⟨V3, eV3⟩ : ∃ y, y = (jsI V2 10 (Int32.toNatClampNeg (V.1 1 14)) a2) := ⟨_, rfl⟩
  have hm := jl_of hm eV3
  rw [← eV3]
  refine j_aload_n dX0_addStrip_19 rfl rfl ?_
  refine j_dup dX0_addStrip_20 rfl rfl ?_
  refine m_geti (k := 14) fX0_68 dX0_addStrip_21 rfl rfl rfl ?_
  refine j_iconst (v := 1) dX0_addStrip_24 rfl (by decide) ?_
  refine j_iadd dX0_addStrip_25 rfl ?_
  refine m_puti (k := 14) fX0_68 dX0_addStrip_26 rfl rfl rfl ?_
  obtain ⟨V4, eV4⟩ : ∃ y, y = (jsI V3 1 14 ((V3.1 1 14) + (1 : Int32))) := ⟨_, rfl⟩
  have hm := jl_of hm eV4
  rw [← eV4]
  refine j_iload_n dX0_addStrip_29 rfl rfl ?_
  exact j_ireturn dX0_addStrip_30 rfl rfl ⟨Nat.le_refl _, Nat.le_refl _⟩ (jf_m (fun z => .int z) hm)
theorem dX4_isWithin_0 : decode cX4_isWithin 0 = .ok (.iload_n 0, 1) := by decide +kernel
theorem dX4_isWithin_1 : decode cX4_isWithin 1 = .ok (.iload_n 1, 1) := by decide +kernel
theorem dX4_isWithin_2 : decode cX4_isWithin 2 = .ok (.if_icmp .lt 12, 3) := by decide +kernel
theorem dX4_isWithin_5 : decode cX4_isWithin 5 = .ok (.iload_n 0, 1) := by decide +kernel
theorem dX4_isWithin_6 : decode cX4_isWithin 6 = .ok (.iload_n 2, 1) := by decide +kernel
theorem dX4_isWithin_7 : decode cX4_isWithin 7 = .ok (.if_icmp .gt 7, 3) := by decide +kernel
theorem dX4_isWithin_10 : decode cX4_isWithin 10 = .ok (.iconst 1, 1) := by decide +kernel
theorem dX4_isWithin_11 : decode cX4_isWithin 11 = .ok (.goto 4, 3) := by decide +kernel
theorem dX4_isWithin_14 : decode cX4_isWithin 14 = .ok (.iconst 0, 1) := by decide +kernel
theorem dX4_isWithin_15 : decode cX4_isWithin 15 = .ok (.ireturn, 1) := by decide +kernel
def mX4_isWithin (a0 : Int32) (a1 : Int32) (a2 : Int32) : Int32 := (if a0 < a1 then (0 : Int32) else (if a2 < a0 then (0 : Int32) else (1 : Int32)))
set_option maxHeartbeats 4000000 in
set_option maxRecDepth 20000 in
theorem tX4_isWithin {l : Launch} {Z : jZ} {q : Nat → Nat} {V : jMem} {a0 : Int32} {a1 : Int32} {a2 : Int32} {r : Int32}  (hm : mX4_isWithin a0 a1 a2 = r) : CtD l Z yX4_isWithin cX4_isWithin 3 (some .boolean) 0 q dX [.int a0, .int a1, .int a2] V (some (.int r)) V := by
  refine Ct_of (L := [(0, .int a0), (1, .int a1), (2, .int a2)]) (own := RX4) (nm := "isWithin") rfl rfl (by decide +kernel) rfl (Nat.le_of_ble_eq_true rfl) ?_
  unfold mX4_isWithin at hm
  refine j_iload_n dX4_isWithin_0 rfl rfl ?_
  refine j_iload_n dX4_isWithin_1 rfl rfl ?_
  refine j_icmp_lt (tgt := 14) dX4_isWithin_2 rfl (by decide) (fun c1 => ?_) (fun c1 => ?_)
  · have hm := jif_pos c1 hm
    refine j_iconst (v := 0) dX4_isWithin_14 rfl (by decide) ?_
    exact j_zreturn dX4_isWithin_15 rfl (by decide) ⟨Nat.le_refl _, Nat.le_refl _⟩ (jf_t (fun z => .int z) hm)
  · have hm := jif_neg c1 hm
    refine j_iload_n dX4_isWithin_5 rfl rfl ?_
    refine j_iload_n dX4_isWithin_6 rfl rfl ?_
    refine j_icmp_gt (tgt := 14) dX4_isWithin_7 rfl (by decide) (fun c2 => ?_) (fun c2 => ?_)
    · have hm := jif_pos c2 hm
      refine j_iconst (v := 0) dX4_isWithin_14 rfl (by decide) ?_
      exact j_zreturn dX4_isWithin_15 rfl (by decide) ⟨Nat.le_refl _, Nat.le_refl _⟩ (jf_t (fun z => .int z) hm)
    · have hm := jif_neg c2 hm
      refine j_iconst (v := 1) dX4_isWithin_10 rfl (by decide) ?_
      refine j_goto (tgt := 15) dX4_isWithin_11 (by decide) ?_
      exact j_zreturn dX4_isWithin_15 rfl (by decide) ⟨Nat.le_refl _, Nat.le_refl _⟩ (jf_t (fun z => .int z) hm)
theorem zzX4_isWithin {a0 : Int32} {a1 : Int32} {a2 : Int32} : mX4_isWithin a0 a1 a2 = 0 ∨ mX4_isWithin a0 a1 a2 = 1 := by
  unfold mX4_isWithin
  (repeat' split) <;> first | exact Or.inl rfl | exact Or.inr rfl
theorem dX0_hasField_0 : decode cX0_hasField 0 = .ok (.iload_n 1, 1) := by decide +kernel
theorem dX0_hasField_1 : decode cX0_hasField 1 = .ok (.iconst 0, 1) := by decide +kernel
theorem dX0_hasField_2 : decode cX0_hasField 2 = .ok (.aload_n 0, 1) := by decide +kernel
theorem dX0_hasField_3 : decode cX0_hasField 3 = .ok (.getfield 43, 3) := by decide +kernel
theorem dX0_hasField_6 : decode cX0_hasField 6 = .ok (.iconst 1, 1) := by decide +kernel
theorem dX0_hasField_7 : decode cX0_hasField 7 = .ok (.isub, 1) := by decide +kernel
theorem dX0_hasField_8 : decode cX0_hasField 8 = .ok (.invokestatic 71, 3) := by decide +kernel
theorem dX0_hasField_11 : decode cX0_hasField 11 = .ok (.ireturn, 1) := by decide +kernel
def mX0_hasField (a1 : Int32) (V : jMem) : Int32 := (mX4_isWithin a1 (0 : Int32) ((V.1 1 0) - (1 : Int32)))
set_option maxHeartbeats 4000000 in
set_option maxRecDepth 20000 in
theorem tX0_hasField {l : Launch} {Z : jZ} {q : Nat → Nat} {a1 : Int32} {V : jMem} {r : Int32}  (hm : mX0_hasField a1 V = r) : CtD l Z yX0_hasField cX0_hasField 2 (some .boolean) 1 q dX [.ref (q 1), .int a1] V (some (.int r)) V := by
  refine Ct_of (L := [(0, .ref (q 1)), (1, .int a1)]) (own := RX0) (nm := "hasField") rfl rfl (by decide +kernel) rfl (Nat.le_of_ble_eq_true rfl) ?_
  unfold mX0_hasField at hm
  refine j_iload_n dX0_hasField_0 rfl rfl ?_
  refine j_iconst (v := 0) dX0_hasField_1 rfl (by decide) ?_
  refine j_aload_n dX0_hasField_2 rfl rfl ?_
  refine m_geti (k := 0) fX0_43 dX0_hasField_3 rfl rfl rfl ?_
  refine j_iconst (v := 1) dX0_hasField_6 rfl (by decide) ?_
  refine j_isub dX0_hasField_7 rfl ?_
  refine o_callS_i kX0_71 dX0_hasField_8 rfl (tX4_isWithin  rfl) rfl rfl (Nat.le_of_ble_eq_true rfl) (by decide) ?_
  exact j_zreturn dX0_hasField_11 rfl zzX4_isWithin ⟨Nat.le_refl _, Nat.le_refl _⟩ (jf_t (fun z => .int z) hm)
theorem zzX0_hasField {a1 : Int32} {V : jMem} : mX0_hasField a1 V = 0 ∨ mX0_hasField a1 V = 1 := by
  unfold mX0_hasField
  (repeat' split) <;> first | exact Or.inl rfl | exact Or.inr rfl | exact zzX4_isWithin
theorem dX0_fieldTold_0 : decode cX0_fieldTold 0 = .ok (.lload_n 1, 1) := by decide +kernel
theorem dX0_fieldTold_1 : decode cX0_fieldTold 1 = .ok (.lconst 0, 1) := by decide +kernel
theorem dX0_fieldTold_2 : decode cX0_fieldTold 2 = .ok (.lcmp, 1) := by decide +kernel
theorem dX0_fieldTold_3 : decode cX0_fieldTold 3 = .ok (.ifCond .lt 18, 3) := by decide +kernel
theorem dX0_fieldTold_6 : decode cX0_fieldTold 6 = .ok (.lload_n 1, 1) := by decide +kernel
theorem dX0_fieldTold_7 : decode cX0_fieldTold 7 = .ok (.aload_n 0, 1) := by decide +kernel
theorem dX0_fieldTold_8 : decode cX0_fieldTold 8 = .ok (.getfield 43, 3) := by decide +kernel
theorem dX0_fieldTold_11 : decode cX0_fieldTold 11 = .ok (.i2l, 1) := by decide +kernel
theorem dX0_fieldTold_12 : decode cX0_fieldTold 12 = .ok (.lcmp, 1) := by decide +kernel
theorem dX0_fieldTold_13 : decode cX0_fieldTold 13 = .ok (.ifCond .ge 8, 3) := by decide +kernel
theorem dX0_fieldTold_16 : decode cX0_fieldTold 16 = .ok (.lload_n 1, 1) := by decide +kernel
theorem dX0_fieldTold_17 : decode cX0_fieldTold 17 = .ok (.l2i, 1) := by decide +kernel
theorem dX0_fieldTold_18 : decode cX0_fieldTold 18 = .ok (.goto 4, 3) := by decide +kernel
theorem dX0_fieldTold_21 : decode cX0_fieldTold 21 = .ok (.iconst (-1), 1) := by decide +kernel
theorem dX0_fieldTold_22 : decode cX0_fieldTold 22 = .ok (.ireturn, 1) := by decide +kernel
def mX0_fieldTold (a1 : Int64) (V : jMem) : Int32 := (if (lg_cmp a1 (0 : Int64)) < (0 : Int32) then (-1 : Int32) else (if (0 : Int32) ≤ (lg_cmp a1 (Int32.toInt64 (V.1 1 0))) then (-1 : Int32) else (Int64.toInt32 a1)))
set_option maxHeartbeats 4000000 in
set_option maxRecDepth 20000 in
theorem tX0_fieldTold {l : Launch} {Z : jZ} {q : Nat → Nat} {a1 : Int64} {V : jMem} {r : Int32}  (hm : mX0_fieldTold a1 V = r) : CtD l Z yX0_fieldTold cX0_fieldTold 3 (some .int) 0 q dX [.ref (q 1), .long a1] V (some (.int r)) V := by
  refine Ct_of (L := [(0, .ref (q 1)), (1, .long a1)]) (own := RX0) (nm := "fieldTold") rfl rfl (by decide +kernel) rfl (Nat.le_of_ble_eq_true rfl) ?_
  unfold mX0_fieldTold at hm
  refine j_lload_n dX0_fieldTold_0 rfl rfl ?_
  refine j_lconst (v := 0) dX0_fieldTold_1 rfl (by decide) ?_
  refine j_lcmp dX0_fieldTold_2 rfl ?_
  refine j_if_lt (tgt := 21) dX0_fieldTold_3 rfl (by decide) (fun c1 => ?_) (fun c1 => ?_)
  · have hm := jif_pos c1 hm
    refine j_iconst (v := -1) dX0_fieldTold_21 rfl (by decide) ?_
    exact j_ireturn dX0_fieldTold_22 rfl rfl ⟨Nat.le_refl _, Nat.le_refl _⟩ (jf_t (fun z => .int z) hm)
  · have hm := jif_neg c1 hm
    refine j_lload_n dX0_fieldTold_6 rfl rfl ?_
    refine j_aload_n dX0_fieldTold_7 rfl rfl ?_
    refine m_geti (k := 0) fX0_43 dX0_fieldTold_8 rfl rfl rfl ?_
    refine j_i2l dX0_fieldTold_11 rfl ?_
    refine j_lcmp dX0_fieldTold_12 rfl ?_
    refine j_if_ge (tgt := 21) dX0_fieldTold_13 rfl (by decide) (fun c2 => ?_) (fun c2 => ?_)
    · have hm := jif_pos c2 hm
      refine j_iconst (v := -1) dX0_fieldTold_21 rfl (by decide) ?_
      exact j_ireturn dX0_fieldTold_22 rfl rfl ⟨Nat.le_refl _, Nat.le_refl _⟩ (jf_t (fun z => .int z) hm)
    · have hm := jif_neg c2 hm
      refine j_lload_n dX0_fieldTold_16 rfl rfl ?_
      refine j_l2i dX0_fieldTold_17 rfl ?_
      refine j_goto (tgt := 22) dX0_fieldTold_18 (by decide) ?_
      exact j_ireturn dX0_fieldTold_22 rfl rfl ⟨Nat.le_refl _, Nat.le_refl _⟩ (jf_t (fun z => .int z) hm)
theorem dX0_hasStrip_0 : decode cX0_hasStrip 0 = .ok (.iload_n 1, 1) := by decide +kernel
theorem dX0_hasStrip_1 : decode cX0_hasStrip 1 = .ok (.iconst 0, 1) := by decide +kernel
theorem dX0_hasStrip_2 : decode cX0_hasStrip 2 = .ok (.aload_n 0, 1) := by decide +kernel
theorem dX0_hasStrip_3 : decode cX0_hasStrip 3 = .ok (.getfield 68, 3) := by decide +kernel
theorem dX0_hasStrip_6 : decode cX0_hasStrip 6 = .ok (.iconst 1, 1) := by decide +kernel
theorem dX0_hasStrip_7 : decode cX0_hasStrip 7 = .ok (.isub, 1) := by decide +kernel
theorem dX0_hasStrip_8 : decode cX0_hasStrip 8 = .ok (.invokestatic 71, 3) := by decide +kernel
theorem dX0_hasStrip_11 : decode cX0_hasStrip 11 = .ok (.ireturn, 1) := by decide +kernel
def mX0_hasStrip (a1 : Int32) (V : jMem) : Int32 := (mX4_isWithin a1 (0 : Int32) ((V.1 1 14) - (1 : Int32)))
set_option maxHeartbeats 4000000 in
set_option maxRecDepth 20000 in
theorem tX0_hasStrip {l : Launch} {Z : jZ} {q : Nat → Nat} {a1 : Int32} {V : jMem} {r : Int32}  (hm : mX0_hasStrip a1 V = r) : CtD l Z yX0_hasStrip cX0_hasStrip 2 (some .boolean) 1 q dX [.ref (q 1), .int a1] V (some (.int r)) V := by
  refine Ct_of (L := [(0, .ref (q 1)), (1, .int a1)]) (own := RX0) (nm := "hasStrip") rfl rfl (by decide +kernel) rfl (Nat.le_of_ble_eq_true rfl) ?_
  unfold mX0_hasStrip at hm
  refine j_iload_n dX0_hasStrip_0 rfl rfl ?_
  refine j_iconst (v := 0) dX0_hasStrip_1 rfl (by decide) ?_
  refine j_aload_n dX0_hasStrip_2 rfl rfl ?_
  refine m_geti (k := 14) fX0_68 dX0_hasStrip_3 rfl rfl rfl ?_
  refine j_iconst (v := 1) dX0_hasStrip_6 rfl (by decide) ?_
  refine j_isub dX0_hasStrip_7 rfl ?_
  refine o_callS_i kX0_71 dX0_hasStrip_8 rfl (tX4_isWithin  rfl) rfl rfl (Nat.le_of_ble_eq_true rfl) (by decide) ?_
  exact j_zreturn dX0_hasStrip_11 rfl zzX4_isWithin ⟨Nat.le_refl _, Nat.le_refl _⟩ (jf_t (fun z => .int z) hm)
theorem zzX0_hasStrip {a1 : Int32} {V : jMem} : mX0_hasStrip a1 V = 0 ∨ mX0_hasStrip a1 V = 1 := by
  unfold mX0_hasStrip
  (repeat' split) <;> first | exact Or.inl rfl | exact Or.inr rfl | exact zzX4_isWithin
theorem dX0_allFields_0 : decode cX0_allFields 0 = .ok (.iconst 1, 1) := by decide +kernel
theorem dX0_allFields_1 : decode cX0_allFields 1 = .ok (.aload_n 0, 1) := by decide +kernel
theorem dX0_allFields_2 : decode cX0_allFields 2 = .ok (.getfield 43, 3) := by decide +kernel
theorem dX0_allFields_5 : decode cX0_allFields 5 = .ok (.ishl, 1) := by decide +kernel
theorem dX0_allFields_6 : decode cX0_allFields 6 = .ok (.iconst 1, 1) := by decide +kernel
theorem dX0_allFields_7 : decode cX0_allFields 7 = .ok (.isub, 1) := by decide +kernel
theorem dX0_allFields_8 : decode cX0_allFields 8 = .ok (.ireturn, 1) := by decide +kernel
def mX0_allFields (V : jMem) : Int32 := (((1 : Int32) <<< ((V.1 1 0) &&& (31 : Int32))) - (1 : Int32))
set_option maxHeartbeats 4000000 in
set_option maxRecDepth 20000 in
theorem tX0_allFields {l : Launch} {Z : jZ} {q : Nat → Nat} {V : jMem} {r : Int32}  (hm : mX0_allFields V = r) : CtD l Z yX0_allFields cX0_allFields 1 (some .int) 0 q dX [.ref (q 1)] V (some (.int r)) V := by
  refine Ct_of (L := [(0, .ref (q 1))]) (own := RX0) (nm := "allFields") rfl rfl (by decide +kernel) rfl (Nat.le_of_ble_eq_true rfl) ?_
  unfold mX0_allFields at hm
  refine j_iconst (v := 1) dX0_allFields_0 rfl (by decide) ?_
  refine j_aload_n dX0_allFields_1 rfl rfl ?_
  refine m_geti (k := 0) fX0_43 dX0_allFields_2 rfl rfl rfl ?_
  refine j_ishl dX0_allFields_5 rfl ?_
  refine j_iconst (v := 1) dX0_allFields_6 rfl (by decide) ?_
  refine j_isub dX0_allFields_7 rfl ?_
  exact j_ireturn dX0_allFields_8 rfl rfl ⟨Nat.le_refl _, Nat.le_refl _⟩ (jf_t (fun z => .int z) hm)
theorem dX0_freeIn_0 : decode cX0_freeIn 0 = .ok (.iload_n 1, 1) := by decide +kernel
theorem dX0_freeIn_1 : decode cX0_freeIn 1 = .ok (.aload_n 0, 1) := by decide +kernel
theorem dX0_freeIn_2 : decode cX0_freeIn 2 = .ok (.invokevirtual 75, 3) := by decide +kernel
theorem dX0_freeIn_5 : decode cX0_freeIn 5 = .ok (.iand, 1) := by decide +kernel
theorem dX0_freeIn_6 : decode cX0_freeIn 6 = .ok (.aload_n 0, 1) := by decide +kernel
theorem dX0_freeIn_7 : decode cX0_freeIn 7 = .ok (.getfield 52, 3) := by decide +kernel
theorem dX0_freeIn_10 : decode cX0_freeIn 10 = .ok (.iconst (-1), 1) := by decide +kernel
theorem dX0_freeIn_11 : decode cX0_freeIn 11 = .ok (.ixor, 1) := by decide +kernel
theorem dX0_freeIn_12 : decode cX0_freeIn 12 = .ok (.iand, 1) := by decide +kernel
theorem dX0_freeIn_13 : decode cX0_freeIn 13 = .ok (.aload_n 0, 1) := by decide +kernel
theorem dX0_freeIn_14 : decode cX0_freeIn 14 = .ok (.getfield 55, 3) := by decide +kernel
theorem dX0_freeIn_17 : decode cX0_freeIn 17 = .ok (.iconst (-1), 1) := by decide +kernel
theorem dX0_freeIn_18 : decode cX0_freeIn 18 = .ok (.ixor, 1) := by decide +kernel
theorem dX0_freeIn_19 : decode cX0_freeIn 19 = .ok (.iand, 1) := by decide +kernel
theorem dX0_freeIn_20 : decode cX0_freeIn 20 = .ok (.ireturn, 1) := by decide +kernel
def mX0_freeIn (a1 : Int32) (V : jMem) : Int32 := (((a1 &&& (mX0_allFields V)) &&& ((V.1 1 5) ^^^ (-1 : Int32))) &&& ((V.1 1 6) ^^^ (-1 : Int32)))
set_option maxHeartbeats 4000000 in
set_option maxRecDepth 20000 in
theorem tX0_freeIn {l : Launch} {Z : jZ} {q : Nat → Nat} {a1 : Int32} {V : jMem} {r : Int32}  (hm : mX0_freeIn a1 V = r) : CtD l Z yX0_freeIn cX0_freeIn 2 (some .int) 1 q dX [.ref (q 1), .int a1] V (some (.int r)) V := by
  refine Ct_of (L := [(0, .ref (q 1)), (1, .int a1)]) (own := RX0) (nm := "freeIn") rfl rfl (by decide +kernel) rfl (Nat.le_of_ble_eq_true rfl) ?_
  unfold mX0_freeIn at hm
  refine j_iload_n dX0_freeIn_0 rfl rfl ?_
  refine j_aload_n dX0_freeIn_1 rfl rfl ?_
  refine o_callV_i kX0_75 dX0_freeIn_2 rfl (tX0_allFields  rfl) rfl rfl rfl rfl rfl (Nat.le_of_ble_eq_true rfl) (by decide) ?_
  refine j_iand dX0_freeIn_5 rfl ?_
  refine j_aload_n dX0_freeIn_6 rfl rfl ?_
  refine m_geti (k := 5) fX0_52 dX0_freeIn_7 rfl rfl rfl ?_
  refine j_iconst (v := -1) dX0_freeIn_10 rfl (by decide) ?_
  refine j_ixor dX0_freeIn_11 rfl ?_
  refine j_iand dX0_freeIn_12 rfl ?_
  refine j_aload_n dX0_freeIn_13 rfl rfl ?_
  refine m_geti (k := 6) fX0_55 dX0_freeIn_14 rfl rfl rfl ?_
  refine j_iconst (v := -1) dX0_freeIn_17 rfl (by decide) ?_
  refine j_ixor dX0_freeIn_18 rfl ?_
  refine j_iand dX0_freeIn_19 rfl ?_
  exact j_ireturn dX0_freeIn_20 rfl rfl ⟨Nat.le_refl _, Nat.le_refl _⟩ (jf_t (fun z => .int z) hm)
theorem dX4_isIn_0 : decode cX4_isIn 0 = .ok (.iload_n 1, 1) := by decide +kernel
theorem dX4_isIn_1 : decode cX4_isIn 1 = .ok (.iload_n 0, 1) := by decide +kernel
theorem dX4_isIn_2 : decode cX4_isIn 2 = .ok (.iushr, 1) := by decide +kernel
theorem dX4_isIn_3 : decode cX4_isIn 3 = .ok (.iconst 1, 1) := by decide +kernel
theorem dX4_isIn_4 : decode cX4_isIn 4 = .ok (.iand, 1) := by decide +kernel
theorem dX4_isIn_5 : decode cX4_isIn 5 = .ok (.ifCond .eq 7, 3) := by decide +kernel
theorem dX4_isIn_8 : decode cX4_isIn 8 = .ok (.iconst 1, 1) := by decide +kernel
theorem dX4_isIn_9 : decode cX4_isIn 9 = .ok (.goto 4, 3) := by decide +kernel
theorem dX4_isIn_12 : decode cX4_isIn 12 = .ok (.iconst 0, 1) := by decide +kernel
theorem dX4_isIn_13 : decode cX4_isIn 13 = .ok (.ireturn, 1) := by decide +kernel
def mX4_isIn (a0 : Int32) (a1 : Int32) : Int32 := (if (((Int32.toUInt32 a1 >>> (Int32.toUInt32 a0 &&& Int32.toUInt32 31)).toInt32) &&& (1 : Int32)) = (0 : Int32) then (0 : Int32) else (1 : Int32))
set_option maxHeartbeats 4000000 in
set_option maxRecDepth 20000 in
theorem tX4_isIn {l : Launch} {Z : jZ} {q : Nat → Nat} {V : jMem} {a0 : Int32} {a1 : Int32} {r : Int32}  (hm : mX4_isIn a0 a1 = r) : CtD l Z yX4_isIn cX4_isIn 2 (some .boolean) 0 q dX [.int a0, .int a1] V (some (.int r)) V := by
  refine Ct_of (L := [(0, .int a0), (1, .int a1)]) (own := RX4) (nm := "isIn") rfl rfl (by decide +kernel) rfl (Nat.le_of_ble_eq_true rfl) ?_
  unfold mX4_isIn at hm
  refine j_iload_n dX4_isIn_0 rfl rfl ?_
  refine j_iload_n dX4_isIn_1 rfl rfl ?_
  refine j_iushr dX4_isIn_2 rfl ?_
  refine j_iconst (v := 1) dX4_isIn_3 rfl (by decide) ?_
  refine j_iand dX4_isIn_4 rfl ?_
  refine j_if_eq (tgt := 12) dX4_isIn_5 rfl (by decide) (fun c1 => ?_) (fun c1 => ?_)
  · have hm := jif_pos c1 hm
    refine j_iconst (v := 0) dX4_isIn_12 rfl (by decide) ?_
    exact j_zreturn dX4_isIn_13 rfl (by decide) ⟨Nat.le_refl _, Nat.le_refl _⟩ (jf_t (fun z => .int z) hm)
  · have hm := jif_neg c1 hm
    refine j_iconst (v := 1) dX4_isIn_8 rfl (by decide) ?_
    refine j_goto (tgt := 13) dX4_isIn_9 (by decide) ?_
    exact j_zreturn dX4_isIn_13 rfl (by decide) ⟨Nat.le_refl _, Nat.le_refl _⟩ (jf_t (fun z => .int z) hm)
theorem zzX4_isIn {a0 : Int32} {a1 : Int32} : mX4_isIn a0 a1 = 0 ∨ mX4_isIn a0 a1 = 1 := by
  unfold mX4_isIn
  (repeat' split) <;> first | exact Or.inl rfl | exact Or.inr rfl
theorem dX0_isFree_0 : decode cX0_isFree 0 = .ok (.iload_n 1, 1) := by decide +kernel
theorem dX0_isFree_1 : decode cX0_isFree 1 = .ok (.aload_n 0, 1) := by decide +kernel
theorem dX0_isFree_2 : decode cX0_isFree 2 = .ok (.sipush 16383, 3) := by decide +kernel
theorem dX0_isFree_5 : decode cX0_isFree 5 = .ok (.invokevirtual 79, 3) := by decide +kernel
theorem dX0_isFree_8 : decode cX0_isFree 8 = .ok (.invokestatic 83, 3) := by decide +kernel
theorem dX0_isFree_11 : decode cX0_isFree 11 = .ok (.ireturn, 1) := by decide +kernel
def mX0_isFree (a1 : Int32) (V : jMem) : Int32 := (mX4_isIn a1 (mX0_freeIn (16383 : Int32) V))
set_option maxHeartbeats 4000000 in
set_option maxRecDepth 20000 in
theorem tX0_isFree {l : Launch} {Z : jZ} {q : Nat → Nat} {a1 : Int32} {V : jMem} {r : Int32}  (hm : mX0_isFree a1 V = r) : CtD l Z yX0_isFree cX0_isFree 2 (some .boolean) 2 q dX [.ref (q 1), .int a1] V (some (.int r)) V := by
  refine Ct_of (L := [(0, .ref (q 1)), (1, .int a1)]) (own := RX0) (nm := "isFree") rfl rfl (by decide +kernel) rfl (Nat.le_of_ble_eq_true rfl) ?_
  unfold mX0_isFree at hm
  refine j_iload_n dX0_isFree_0 rfl rfl ?_
  refine j_aload_n dX0_isFree_1 rfl rfl ?_
  refine j_sipush (v := 16383) dX0_isFree_2 rfl (by decide) ?_
  refine o_callV_i kX0_79 dX0_isFree_5 rfl (tX0_freeIn  rfl) rfl rfl rfl rfl rfl (Nat.le_of_ble_eq_true rfl) (by decide) ?_
  refine o_callS_i kX0_83 dX0_isFree_8 rfl (tX4_isIn  rfl) rfl rfl (Nat.le_of_ble_eq_true rfl) (by decide) ?_
  exact j_zreturn dX0_isFree_11 rfl zzX4_isIn ⟨Nat.le_refl _, Nat.le_refl _⟩ (jf_t (fun z => .int z) hm)
theorem zzX0_isFree {a1 : Int32} {V : jMem} : mX0_isFree a1 V = 0 ∨ mX0_isFree a1 V = 1 := by
  unfold mX0_isFree
  (repeat' split) <;> first | exact Or.inl rfl | exact Or.inr rfl | exact zzX4_isIn
theorem dX0_holderOf_0 : decode cX0_holderOf 0 = .ok (.iload_n 1, 1) := by decide +kernel
theorem dX0_holderOf_1 : decode cX0_holderOf 1 = .ok (.aload_n 0, 1) := by decide +kernel
theorem dX0_holderOf_2 : decode cX0_holderOf 2 = .ok (.getfield 52, 3) := by decide +kernel
theorem dX0_holderOf_5 : decode cX0_holderOf 5 = .ok (.invokestatic 83, 3) := by decide +kernel
theorem dX0_holderOf_8 : decode cX0_holderOf 8 = .ok (.ifCond .eq 5, 3) := by decide +kernel
theorem dX0_holderOf_11 : decode cX0_holderOf 11 = .ok (.iconst 1, 1) := by decide +kernel
theorem dX0_holderOf_12 : decode cX0_holderOf 12 = .ok (.ireturn, 1) := by decide +kernel
theorem dX0_holderOf_13 : decode cX0_holderOf 13 = .ok (.iload_n 1, 1) := by decide +kernel
theorem dX0_holderOf_14 : decode cX0_holderOf 14 = .ok (.aload_n 0, 1) := by decide +kernel
theorem dX0_holderOf_15 : decode cX0_holderOf 15 = .ok (.getfield 55, 3) := by decide +kernel
theorem dX0_holderOf_18 : decode cX0_holderOf 18 = .ok (.invokestatic 83, 3) := by decide +kernel
theorem dX0_holderOf_21 : decode cX0_holderOf 21 = .ok (.ifCond .eq 7, 3) := by decide +kernel
theorem dX0_holderOf_24 : decode cX0_holderOf 24 = .ok (.iconst 2, 1) := by decide +kernel
theorem dX0_holderOf_25 : decode cX0_holderOf 25 = .ok (.goto 4, 3) := by decide +kernel
theorem dX0_holderOf_28 : decode cX0_holderOf 28 = .ok (.iconst 0, 1) := by decide +kernel
theorem dX0_holderOf_29 : decode cX0_holderOf 29 = .ok (.ireturn, 1) := by decide +kernel
def mX0_holderOf (a1 : Int32) (V : jMem) : Int32 := (if (mX4_isIn a1 (V.1 1 5)) = (0 : Int32) then (if (mX4_isIn a1 (V.1 1 6)) = (0 : Int32) then (0 : Int32) else (2 : Int32)) else (1 : Int32))
set_option maxHeartbeats 4000000 in
set_option maxRecDepth 20000 in
theorem tX0_holderOf {l : Launch} {Z : jZ} {q : Nat → Nat} {a1 : Int32} {V : jMem} {r : Int32}  (hm : mX0_holderOf a1 V = r) : CtD l Z yX0_holderOf cX0_holderOf 2 (some .int) 1 q dX [.ref (q 1), .int a1] V (some (.int r)) V := by
  refine Ct_of (L := [(0, .ref (q 1)), (1, .int a1)]) (own := RX0) (nm := "holderOf") rfl rfl (by decide +kernel) rfl (Nat.le_of_ble_eq_true rfl) ?_
  unfold mX0_holderOf at hm
  refine j_iload_n dX0_holderOf_0 rfl rfl ?_
  refine j_aload_n dX0_holderOf_1 rfl rfl ?_
  refine m_geti (k := 5) fX0_52 dX0_holderOf_2 rfl rfl rfl ?_
  refine o_callS_i kX0_83 dX0_holderOf_5 rfl (tX4_isIn  rfl) rfl rfl (Nat.le_of_ble_eq_true rfl) (by decide) ?_
  refine j_if_eq (tgt := 13) dX0_holderOf_8 rfl (by decide) (fun c1 => ?_) (fun c1 => ?_)
  · have hm := jif_pos c1 hm
    refine j_iload_n dX0_holderOf_13 rfl rfl ?_
    refine j_aload_n dX0_holderOf_14 rfl rfl ?_
    refine m_geti (k := 6) fX0_55 dX0_holderOf_15 rfl rfl rfl ?_
    refine o_callS_i kX0_83 dX0_holderOf_18 rfl (tX4_isIn  rfl) rfl rfl (Nat.le_of_ble_eq_true rfl) (by decide) ?_
    refine j_if_eq (tgt := 28) dX0_holderOf_21 rfl (by decide) (fun c2 => ?_) (fun c2 => ?_)
    · have hm := jif_pos c2 hm
      refine j_iconst (v := 0) dX0_holderOf_28 rfl (by decide) ?_
      exact j_ireturn dX0_holderOf_29 rfl rfl ⟨Nat.le_refl _, Nat.le_refl _⟩ (jf_t (fun z => .int z) hm)
    · have hm := jif_neg c2 hm
      refine j_iconst (v := 2) dX0_holderOf_24 rfl (by decide) ?_
      refine j_goto (tgt := 29) dX0_holderOf_25 (by decide) ?_
      exact j_ireturn dX0_holderOf_29 rfl rfl ⟨Nat.le_refl _, Nat.le_refl _⟩ (jf_t (fun z => .int z) hm)
  · have hm := jif_neg c1 hm
    refine j_iconst (v := 1) dX0_holderOf_11 rfl (by decide) ?_
    exact j_ireturn dX0_holderOf_12 rfl rfl ⟨Nat.le_refl _, Nat.le_refl _⟩ (jf_t (fun z => .int z) hm)
theorem dX0_tellersOf_0 : decode cX0_tellersOf 0 = .ok (.iconst 0, 1) := by decide +kernel
theorem dX0_tellersOf_1 : decode cX0_tellersOf 1 = .ok (.istore_n 2, 1) := by decide +kernel
theorem dX0_tellersOf_2 : decode cX0_tellersOf 2 = .ok (.iconst 0, 1) := by decide +kernel
theorem dX0_tellersOf_3 : decode cX0_tellersOf 3 = .ok (.istore_n 3, 1) := by decide +kernel
theorem dX0_tellersOf_4 : decode cX0_tellersOf 4 = .ok (.iload_n 3, 1) := by decide +kernel
theorem dX0_tellersOf_5 : decode cX0_tellersOf 5 = .ok (.aload_n 0, 1) := by decide +kernel
theorem dX0_tellersOf_6 : decode cX0_tellersOf 6 = .ok (.getfield 43, 3) := by decide +kernel
theorem dX0_tellersOf_9 : decode cX0_tellersOf 9 = .ok (.if_icmp .ge 33, 3) := by decide +kernel
theorem dX0_tellersOf_12 : decode cX0_tellersOf 12 = .ok (.iload_n 3, 1) := by decide +kernel
theorem dX0_tellersOf_13 : decode cX0_tellersOf 13 = .ok (.iload_n 1, 1) := by decide +kernel
theorem dX0_tellersOf_14 : decode cX0_tellersOf 14 = .ok (.if_icmp .eq 22, 3) := by decide +kernel
theorem dX0_tellersOf_17 : decode cX0_tellersOf 17 = .ok (.iload_n 1, 1) := by decide +kernel
theorem dX0_tellersOf_18 : decode cX0_tellersOf 18 = .ok (.aload_n 0, 1) := by decide +kernel
theorem dX0_tellersOf_19 : decode cX0_tellersOf 19 = .ok (.getfield 21, 3) := by decide +kernel
theorem dX0_tellersOf_22 : decode cX0_tellersOf 22 = .ok (.iload_n 3, 1) := by decide +kernel
theorem dX0_tellersOf_23 : decode cX0_tellersOf 23 = .ok (.iaload, 1) := by decide +kernel
theorem dX0_tellersOf_24 : decode cX0_tellersOf 24 = .ok (.invokestatic 83, 3) := by decide +kernel
theorem dX0_tellersOf_27 : decode cX0_tellersOf 27 = .ok (.ifCond .eq 9, 3) := by decide +kernel
theorem dX0_tellersOf_30 : decode cX0_tellersOf 30 = .ok (.iload_n 2, 1) := by decide +kernel
theorem dX0_tellersOf_31 : decode cX0_tellersOf 31 = .ok (.iconst 1, 1) := by decide +kernel
theorem dX0_tellersOf_32 : decode cX0_tellersOf 32 = .ok (.iload_n 3, 1) := by decide +kernel
theorem dX0_tellersOf_33 : decode cX0_tellersOf 33 = .ok (.ishl, 1) := by decide +kernel
theorem dX0_tellersOf_34 : decode cX0_tellersOf 34 = .ok (.ior, 1) := by decide +kernel
theorem dX0_tellersOf_35 : decode cX0_tellersOf 35 = .ok (.istore_n 2, 1) := by decide +kernel
theorem dX0_tellersOf_36 : decode cX0_tellersOf 36 = .ok (.iinc 3 1, 3) := by decide +kernel
theorem dX0_tellersOf_39 : decode cX0_tellersOf 39 = .ok (.goto (-35), 3) := by decide +kernel
theorem dX0_tellersOf_42 : decode cX0_tellersOf 42 = .ok (.iload_n 2, 1) := by decide +kernel
theorem dX0_tellersOf_43 : decode cX0_tellersOf 43 = .ok (.ireturn, 1) := by decide +kernel
def mX0_tellersOf_b36 (V : jMem) (k4 : Int32 → Int32 → Int32 → Option Int32) (a1 : Int32) (a2 : Int32) (a3 : Int32) : Option Int32 := (k4 a1 a2 (a3 + (1 : Int32)))
set_option maxHeartbeats 4000000 in
set_option maxRecDepth 20000 in
theorem tX0_tellersOf_b36 {l : Launch} {Z : jZ} {q : Nat → Nat} {V : jMem} {k4 : Int32 → Int32 → Int32 → Option Int32} {a1 : Int32} {a2 : Int32} {a3 : Int32} {r : Int32}   (hk4 : ∀ (a1 : Int32) (a2 : Int32) (a3 : Int32), k4 a1 a2 a3 = some r → J l Z RX0 "tellersOf" cX0_tellersOf 4 (some .int) 1 0 0 (fun r' w => r' = some (.int r) ∧ w = jw Z q V dX) 4 [(0, .ref (q 1)), (1, .int a1), (2, .int a2), (3, .int a3)] [] (jw Z q V dX) 0 0) (hm : mX0_tellersOf_b36 V k4 a1 a2 a3 = some r) : J l Z RX0 "tellersOf" cX0_tellersOf 4 (some .int) 1 0 0 (fun r' w => r' = some (.int r) ∧ w = jw Z q V dX) 36 [(0, .ref (q 1)), (1, .int a1), (2, .int a2), (3, .int a3)] [] (jw Z q V dX) 0 0 := by
  unfold mX0_tellersOf_b36 at hm
  refine j_iinc (v := (a3 + (1 : Int32))) (L' := [(3, _), (0, _), (1, _), (2, _)]) dX0_tellersOf_36 rfl rfl rfl (by decide) rfl ?_
  refine j_goto (tgt := 4) dX0_tellersOf_39 (by decide) ?_
  refine j_sub (L' := [(0, _), (1, _), (2, _), (3, _)]) [1, 2, 3, 0] rfl ?_
  exact hk4 _ _ _  hm
def mX0_tellersOf_b4 (V : jMem)  : Nat → Int32 → Int32 → Int32 → Option Int32
  | 0, _, _, _ => none
  | n + 1, a1, a2, a3 => (if (V.1 1 0) ≤ a3 then (some a2) else (if a3 = a1 then (mX0_tellersOf_b36 V (mX0_tellersOf_b4 V n) a1 a2 a3) else (jg (jin a3 14) (if (mX4_isIn a1 (V.1 5 (Int32.toNatClampNeg a3))) = (0 : Int32) then (mX0_tellersOf_b36 V (mX0_tellersOf_b4 V n) a1 a2 a3) else (jl (a2 ||| ((1 : Int32) <<< (a3 &&& (31 : Int32)))) (fun (v5 : Int32) => (mX0_tellersOf_b36 V (mX0_tellersOf_b4 V n) a1 v5 a3)))))))
set_option maxHeartbeats 4000000 in
set_option maxRecDepth 20000 in
theorem tX0_tellersOf_b4 {l : Launch} {Z : jZ} {q : Nat → Nat} {V : jMem} {r : Int32}   (n : Nat) : ∀ (a1 : Int32) (a2 : Int32) (a3 : Int32), mX0_tellersOf_b4 V n a1 a2 a3 = some r → J l Z RX0 "tellersOf" cX0_tellersOf 4 (some .int) 1 0 0 (fun r' w => r' = some (.int r) ∧ w = jw Z q V dX) 4 [(0, .ref (q 1)), (1, .int a1), (2, .int a2), (3, .int a3)] [] (jw Z q V dX) 0 0 := by
  induction n with
  | zero => intro a1 a2 a3 hm; cases hm
  | succ n ih =>
    intro a1 a2 a3 hm
    rw [mX0_tellersOf_b4] at hm
    refine j_iload_n dX0_tellersOf_4 rfl rfl ?_
    refine j_aload_n dX0_tellersOf_5 rfl rfl ?_
    refine m_geti (k := 0) fX0_43 dX0_tellersOf_6 rfl rfl rfl ?_
    refine j_icmp_ge (tgt := 42) dX0_tellersOf_9 rfl (by decide) (fun c1 => ?_) (fun c1 => ?_)
    · have hm := jif_pos c1 hm
      refine j_iload_n dX0_tellersOf_42 rfl rfl ?_
      exact j_ireturn dX0_tellersOf_43 rfl rfl ⟨Nat.le_refl _, Nat.le_refl _⟩ (jf_p (fun z => .int z) hm)
    · have hm := jif_neg c1 hm
      refine j_iload_n dX0_tellersOf_12 rfl rfl ?_
      refine j_iload_n dX0_tellersOf_13 rfl rfl ?_
      refine j_icmp_eq (tgt := 36) dX0_tellersOf_14 rfl (by decide) (fun c2 => ?_) (fun c2 => ?_)
      · have hm := jif_pos c2 hm
        exact tX0_tellersOf_b36   ih hm
      · have hm := jif_neg c2 hm
        refine j_iload_n dX0_tellersOf_17 rfl rfl ?_
        refine j_aload_n dX0_tellersOf_18 rfl rfl ?_
        refine m_getr (k := 4) (r := 5) fX0_21 dX0_tellersOf_19 rfl rfl rfl ?_
        refine j_iload_n dX0_tellersOf_22 rfl rfl ?_
        obtain ⟨g3, hm⟩ := jg_of hm
        refine o_iald (k := (Int32.toNatClampNeg a3)) rfl dX0_tellersOf_23 rfl rfl (jin_vp g3) ?_
        refine o_callS_i kX0_83 dX0_tellersOf_24 rfl (tX4_isIn  rfl) rfl rfl (Nat.le_of_ble_eq_true rfl) (by decide) ?_
        refine j_if_eq (tgt := 36) dX0_tellersOf_27 rfl (by decide) (fun c4 => ?_) (fun c4 => ?_)
        · have hm := jif_pos c4 hm
          exact tX0_tellersOf_b36   ih hm
        · have hm := jif_neg c4 hm
          refine j_iload_n dX0_tellersOf_30 rfl rfl ?_
          refine j_iconst (v := 1) dX0_tellersOf_31 rfl (by decide) ?_
          refine j_iload_n dX0_tellersOf_32 rfl rfl ?_
          refine j_ishl dX0_tellersOf_33 rfl ?_
          refine j_ior dX0_tellersOf_34 rfl ?_
          obtain ⟨v5, ev5⟩ : ∃ y, y = ((a2 ||| ((1 : Int32) <<< (a3 &&& (31 : Int32)))) : Int32) := ⟨_, rfl⟩
          have hm := jl_of hm ev5
          rw [← ev5]
          refine j_istore_n (i := 2) (L' := [(2, _), (0, _), (1, _), (3, _)]) dX0_tellersOf_35 rfl rfl (by decide) rfl ?_
          refine j_sub (L' := [(0, _), (1, _), (2, _), (3, _)]) [1, 2, 0, 3] rfl ?_
          exact tX0_tellersOf_b36   ih hm
def mX0_tellersOf (a1 : Int32) (V : jMem) : Option Int32 := (mX0_tellersOf_b4 V 2000 a1 (0 : Int32) (0 : Int32))
set_option maxHeartbeats 4000000 in
set_option maxRecDepth 20000 in
theorem tX0_tellersOf {l : Launch} {Z : jZ} {q : Nat → Nat} {a1 : Int32} {V : jMem} {r : Int32}  (hm : mX0_tellersOf a1 V = some r) : CtD l Z yX0_tellersOf cX0_tellersOf 4 (some .int) 1 q dX [.ref (q 1), .int a1] V (some (.int r)) V := by
  refine Ct_of (L := [(0, .ref (q 1)), (1, .int a1)]) (own := RX0) (nm := "tellersOf") rfl rfl (by decide +kernel) rfl (Nat.le_of_ble_eq_true rfl) ?_
  unfold mX0_tellersOf at hm
  refine j_iconst (v := 0) dX0_tellersOf_0 rfl (by decide) ?_
  refine j_istore_n (i := 2) (L' := [(2, _), (0, _), (1, _)]) dX0_tellersOf_1 rfl rfl (by decide) rfl ?_
  refine j_iconst (v := 0) dX0_tellersOf_2 rfl (by decide) ?_
  refine j_istore_n (i := 3) (L' := [(3, _), (2, _), (0, _), (1, _)]) dX0_tellersOf_3 rfl rfl (by decide) rfl ?_
  refine j_sub (L' := [(0, _), (1, _), (2, _), (3, _)]) [2, 3, 1, 0] rfl ?_
  exact tX0_tellersOf_b4   _ _ _ _  hm
theorem dX0_heardBy_0 : decode cX0_heardBy 0 = .ok (.aload_n 0, 1) := by decide +kernel
theorem dX0_heardBy_1 : decode cX0_heardBy 1 = .ok (.iload_n 1, 1) := by decide +kernel
theorem dX0_heardBy_2 : decode cX0_heardBy 2 = .ok (.invokevirtual 87, 3) := by decide +kernel
theorem dX0_heardBy_5 : decode cX0_heardBy 5 = .ok (.iload_n 2, 1) := by decide +kernel
theorem dX0_heardBy_6 : decode cX0_heardBy 6 = .ok (.iand, 1) := by decide +kernel
theorem dX0_heardBy_7 : decode cX0_heardBy 7 = .ok (.invokestatic 90, 3) := by decide +kernel
theorem dX0_heardBy_10 : decode cX0_heardBy 10 = .ok (.ireturn, 1) := by decide +kernel
def mX0_heardBy (a1 : Int32) (a2 : Int32) (V : jMem) : Option Int32 := ((mX0_tellersOf a1 V).bind (fun (r1 : Int32) => (some (mJ6_bitCount_0f7a4 (r1 &&& a2)))))
set_option maxHeartbeats 4000000 in
set_option maxRecDepth 20000 in
theorem tX0_heardBy {l : Launch} {Z : jZ} {q : Nat → Nat} {a1 : Int32} {a2 : Int32} {V : jMem} {r : Int32}  (hm : mX0_heardBy a1 a2 V = some r) : CtD l Z yX0_heardBy cX0_heardBy 3 (some .int) 2 q dX [.ref (q 1), .int a1, .int a2] V (some (.int r)) V := by
  refine Ct_of (L := [(0, .ref (q 1)), (1, .int a1), (2, .int a2)]) (own := RX0) (nm := "heardBy") rfl rfl (by decide +kernel) rfl (Nat.le_of_ble_eq_true rfl) ?_
  unfold mX0_heardBy at hm
  refine j_aload_n dX0_heardBy_0 rfl rfl ?_
  refine j_iload_n dX0_heardBy_1 rfl rfl ?_
  obtain ⟨r1, er1, hm⟩ := jb_of hm
  refine o_callV_i kX0_87 dX0_heardBy_2 rfl (tX0_tellersOf  er1) rfl rfl rfl rfl rfl (Nat.le_of_ble_eq_true rfl) (by decide) ?_
  refine j_iload_n dX0_heardBy_5 rfl rfl ?_
  refine j_iand dX0_heardBy_6 rfl ?_
  refine o_callS_i kX0_90 dX0_heardBy_7 rfl (tJ6_bitCount_0f7a4  rfl) rfl rfl (Nat.le_of_ble_eq_true rfl) (by decide) ?_
  exact j_ireturn dX0_heardBy_10 rfl rfl ⟨Nat.le_refl _, Nat.le_refl _⟩ (jf_p (fun z => .int z) hm)
theorem dX4_wareOf_0 : decode cX4_wareOf 0 = .ok (.bipush 9, 2) := by decide +kernel
theorem dX4_wareOf_2 : decode cX4_wareOf 2 = .ok (.iload_n 0, 1) := by decide +kernel
theorem dX4_wareOf_3 : decode cX4_wareOf 3 = .ok (.iload_n 1, 1) := by decide +kernel
theorem dX4_wareOf_4 : decode cX4_wareOf 4 = .ok (.iadd, 1) := by decide +kernel
theorem dX4_wareOf_5 : decode cX4_wareOf 5 = .ok (.invokestatic 299, 3) := by decide +kernel
theorem dX4_wareOf_8 : decode cX4_wareOf 8 = .ok (.ireturn, 1) := by decide +kernel
def mX4_wareOf (a0 : Int32) (a1 : Int32) : Int32 := (if (a0 + a1) < (9 : Int32) then (a0 + a1) else (9 : Int32))
set_option maxHeartbeats 4000000 in
set_option maxRecDepth 20000 in
theorem tX4_wareOf {l : Launch} {Z : jZ} {q : Nat → Nat} {V : jMem} {a0 : Int32} {a1 : Int32} {r : Int32}  (hm : mX4_wareOf a0 a1 = r) : CtD l Z yX4_wareOf cX4_wareOf 2 (some .int) 1 q dX [.int a0, .int a1] V (some (.int r)) V := by
  refine Ct_of (L := [(0, .int a0), (1, .int a1)]) (own := RX4) (nm := "wareOf") rfl rfl (by decide +kernel) rfl (Nat.le_of_ble_eq_true rfl) ?_
  unfold mX4_wareOf at hm
  refine j_bipush (v := 9) dX4_wareOf_0 rfl (by decide) ?_
  refine j_iload_n dX4_wareOf_2 rfl rfl ?_
  refine j_iload_n dX4_wareOf_3 rfl rfl ?_
  refine j_iadd dX4_wareOf_4 rfl ?_
  refine j_min kX4_299 mm_min.1 mm_min.2.1 mm_min.2.2 dX4_wareOf_5 rfl (by decide) (Nat.le_of_ble_eq_true rfl) ⟨Nat.le_refl _, Nat.le_refl _⟩ ?_
  exact j_ireturn dX4_wareOf_8 rfl rfl ⟨Nat.le_refl _, Nat.le_refl _⟩ (jf_t (fun z => .int z) hm)
theorem dX4_priceOf_0 : decode cX4_priceOf 0 = .ok (.iload_n 2, 1) := by decide +kernel
theorem dX4_priceOf_1 : decode cX4_priceOf 1 = .ok (.iload_n 3, 1) := by decide +kernel
theorem dX4_priceOf_2 : decode cX4_priceOf 2 = .ok (.invokestatic 100, 3) := by decide +kernel
theorem dX4_priceOf_5 : decode cX4_priceOf 5 = .ok (.istore 4, 2) := by decide +kernel
theorem dX4_priceOf_7 : decode cX4_priceOf 7 = .ok (.iload_n 0, 1) := by decide +kernel
theorem dX4_priceOf_8 : decode cX4_priceOf 8 = .ok (.iconst 5, 1) := by decide +kernel
theorem dX4_priceOf_9 : decode cX4_priceOf 9 = .ok (.if_icmp .ne 14, 3) := by decide +kernel
theorem dX4_priceOf_12 : decode cX4_priceOf 12 = .ok (.bipush 9, 2) := by decide +kernel
theorem dX4_priceOf_14 : decode cX4_priceOf 14 = .ok (.iconst 2, 1) := by decide +kernel
theorem dX4_priceOf_15 : decode cX4_priceOf 15 = .ok (.iload 4, 2) := by decide +kernel
theorem dX4_priceOf_17 : decode cX4_priceOf 17 = .ok (.imul, 1) := by decide +kernel
theorem dX4_priceOf_18 : decode cX4_priceOf 18 = .ok (.invokestatic 299, 3) := by decide +kernel
theorem dX4_priceOf_21 : decode cX4_priceOf 21 = .ok (.istore 4, 2) := by decide +kernel
theorem dX4_priceOf_23 : decode cX4_priceOf 23 = .ok (.iload_n 1, 1) := by decide +kernel
theorem dX4_priceOf_24 : decode cX4_priceOf 24 = .ok (.iload_n 1, 1) := by decide +kernel
theorem dX4_priceOf_25 : decode cX4_priceOf 25 = .ok (.iload 4, 2) := by decide +kernel
theorem dX4_priceOf_27 : decode cX4_priceOf 27 = .ok (.imul, 1) := by decide +kernel
theorem dX4_priceOf_28 : decode cX4_priceOf 28 = .ok (.bipush 10, 2) := by decide +kernel
theorem dX4_priceOf_30 : decode cX4_priceOf 30 = .ok (.idiv, 1) := by decide +kernel
theorem dX4_priceOf_31 : decode cX4_priceOf 31 = .ok (.iadd, 1) := by decide +kernel
theorem dX4_priceOf_32 : decode cX4_priceOf 32 = .ok (.istore 5, 2) := by decide +kernel
theorem dX4_priceOf_34 : decode cX4_priceOf 34 = .ok (.iload 4, 2) := by decide +kernel
theorem dX4_priceOf_36 : decode cX4_priceOf 36 = .ok (.iconst 5, 1) := by decide +kernel
theorem dX4_priceOf_37 : decode cX4_priceOf 37 = .ok (.if_icmp .lt 10, 3) := by decide +kernel
theorem dX4_priceOf_40 : decode cX4_priceOf 40 = .ok (.iload 5, 2) := by decide +kernel
theorem dX4_priceOf_42 : decode cX4_priceOf 42 = .ok (.iload_n 1, 1) := by decide +kernel
theorem dX4_priceOf_43 : decode cX4_priceOf 43 = .ok (.iadd, 1) := by decide +kernel
theorem dX4_priceOf_44 : decode cX4_priceOf 44 = .ok (.goto 5, 3) := by decide +kernel
theorem dX4_priceOf_47 : decode cX4_priceOf 47 = .ok (.iload 5, 2) := by decide +kernel
theorem dX4_priceOf_49 : decode cX4_priceOf 49 = .ok (.istore 6, 2) := by decide +kernel
theorem dX4_priceOf_51 : decode cX4_priceOf 51 = .ok (.iload_n 0, 1) := by decide +kernel
theorem dX4_priceOf_52 : decode cX4_priceOf 52 = .ok (.tableswitch 71 1 5 #[36, 46, 57, 49, 64], 36) := by decide +kernel
theorem dX4_priceOf_88 : decode cX4_priceOf 88 = .ok (.iload 5, 2) := by decide +kernel
theorem dX4_priceOf_90 : decode cX4_priceOf 90 = .ok (.iload 5, 2) := by decide +kernel
theorem dX4_priceOf_92 : decode cX4_priceOf 92 = .ok (.iload_n 1, 1) := by decide +kernel
theorem dX4_priceOf_93 : decode cX4_priceOf 93 = .ok (.isub, 1) := by decide +kernel
theorem dX4_priceOf_94 : decode cX4_priceOf 94 = .ok (.iconst 2, 1) := by decide +kernel
theorem dX4_priceOf_95 : decode cX4_priceOf 95 = .ok (.idiv, 1) := by decide +kernel
theorem dX4_priceOf_96 : decode cX4_priceOf 96 = .ok (.isub, 1) := by decide +kernel
theorem dX4_priceOf_97 : decode cX4_priceOf 97 = .ok (.ireturn, 1) := by decide +kernel
theorem dX4_priceOf_98 : decode cX4_priceOf 98 = .ok (.iload 6, 2) := by decide +kernel
theorem dX4_priceOf_100 : decode cX4_priceOf 100 = .ok (.ireturn, 1) := by decide +kernel
theorem dX4_priceOf_101 : decode cX4_priceOf 101 = .ok (.iload 6, 2) := by decide +kernel
theorem dX4_priceOf_103 : decode cX4_priceOf 103 = .ok (.iload 6, 2) := by decide +kernel
theorem dX4_priceOf_105 : decode cX4_priceOf 105 = .ok (.iconst 2, 1) := by decide +kernel
theorem dX4_priceOf_106 : decode cX4_priceOf 106 = .ok (.idiv, 1) := by decide +kernel
theorem dX4_priceOf_107 : decode cX4_priceOf 107 = .ok (.iadd, 1) := by decide +kernel
theorem dX4_priceOf_108 : decode cX4_priceOf 108 = .ok (.ireturn, 1) := by decide +kernel
theorem dX4_priceOf_109 : decode cX4_priceOf 109 = .ok (.iload 5, 2) := by decide +kernel
theorem dX4_priceOf_111 : decode cX4_priceOf 111 = .ok (.iconst 5, 1) := by decide +kernel
theorem dX4_priceOf_112 : decode cX4_priceOf 112 = .ok (.iload_n 3, 1) := by decide +kernel
theorem dX4_priceOf_113 : decode cX4_priceOf 113 = .ok (.imul, 1) := by decide +kernel
theorem dX4_priceOf_114 : decode cX4_priceOf 114 = .ok (.iadd, 1) := by decide +kernel
theorem dX4_priceOf_115 : decode cX4_priceOf 115 = .ok (.ireturn, 1) := by decide +kernel
theorem dX4_priceOf_116 : decode cX4_priceOf 116 = .ok (.iload 5, 2) := by decide +kernel
theorem dX4_priceOf_118 : decode cX4_priceOf 118 = .ok (.iconst 5, 1) := by decide +kernel
theorem dX4_priceOf_119 : decode cX4_priceOf 119 = .ok (.iload_n 3, 1) := by decide +kernel
theorem dX4_priceOf_120 : decode cX4_priceOf 120 = .ok (.imul, 1) := by decide +kernel
theorem dX4_priceOf_121 : decode cX4_priceOf 121 = .ok (.iadd, 1) := by decide +kernel
theorem dX4_priceOf_122 : decode cX4_priceOf 122 = .ok (.ireturn, 1) := by decide +kernel
theorem dX4_priceOf_123 : decode cX4_priceOf 123 = .ok (.iload 5, 2) := by decide +kernel
theorem dX4_priceOf_125 : decode cX4_priceOf 125 = .ok (.ireturn, 1) := by decide +kernel
def mX4_priceOf_b49   (a0 : Int32) (a1 : Int32) (a3 : Int32) (a5 : Int32) (s0 : Int32) : Int32 := (if a0 = (1 : Int32) then (a5 - ((a5 - a1) / (2 : Int32))) else (if a0 = (2 : Int32) then s0 else (if a0 = (3 : Int32) then (a5 + ((5 : Int32) * a3)) else (if a0 = (4 : Int32) then (s0 + (s0 / (2 : Int32))) else (if a0 = (5 : Int32) then (a5 + ((5 : Int32) * a3)) else a5)))))
set_option maxHeartbeats 4000000 in
set_option maxRecDepth 20000 in
theorem tX4_priceOf_b49 {l : Launch} {Z : jZ} {q : Nat → Nat} {V : jMem} {a0 : Int32} {a1 : Int32} {a3 : Int32} {a5 : Int32} {s0 : Int32} {r : Int32}    (hm : mX4_priceOf_b49 a0 a1 a3 a5 s0 = r) : J l Z RX4 "priceOf" cX4_priceOf 7 (some .int) 2 0 0 (fun r' w => r' = some (.int r) ∧ w = jw Z q V dX) 49 [(0, .int a0), (1, .int a1), (3, .int a3), (5, .int a5)] [.int s0] (jw Z q V dX) 0 0 := by
  unfold mX4_priceOf_b49 at hm
  refine j_istore (L' := [(6, _), (0, _), (1, _), (3, _), (5, _)]) dX4_priceOf_49 rfl (by decide) rfl ?_
  refine j_iload_n dX4_priceOf_51 rfl rfl ?_
  by_cases c1 : a0 = (1 : Int32)
  · have hm := jif_pos c1 hm
    refine j_ts_in (z := 1) (off := 36) (tgt := 88) dX4_priceOf_52 (j_ts_lit c1 (by decide)) (by decide) (by decide) rfl (by decide) ?_
    refine j_iload dX4_priceOf_88 rfl rfl ?_
    refine j_iload dX4_priceOf_90 rfl rfl ?_
    refine j_iload_n dX4_priceOf_92 rfl rfl ?_
    refine j_isub dX4_priceOf_93 rfl ?_
    refine j_iconst (v := 2) dX4_priceOf_94 rfl (by decide) ?_
    refine j_idiv dX4_priceOf_95 rfl (by decide) ?_
    refine j_isub dX4_priceOf_96 rfl ?_
    exact j_ireturn dX4_priceOf_97 rfl rfl ⟨Nat.le_refl _, Nat.le_refl _⟩ (jf_t (fun z => .int z) hm)
  have hm := jif_neg c1 hm
  by_cases c2 : a0 = (2 : Int32)
  · have hm := jif_pos c2 hm
    refine j_ts_in (z := 2) (off := 46) (tgt := 98) dX4_priceOf_52 (j_ts_lit c2 (by decide)) (by decide) (by decide) rfl (by decide) ?_
    refine j_iload dX4_priceOf_98 rfl rfl ?_
    exact j_ireturn dX4_priceOf_100 rfl rfl ⟨Nat.le_refl _, Nat.le_refl _⟩ (jf_t (fun z => .int z) hm)
  have hm := jif_neg c2 hm
  by_cases c3 : a0 = (3 : Int32)
  · have hm := jif_pos c3 hm
    refine j_ts_in (z := 3) (off := 57) (tgt := 109) dX4_priceOf_52 (j_ts_lit c3 (by decide)) (by decide) (by decide) rfl (by decide) ?_
    refine j_iload dX4_priceOf_109 rfl rfl ?_
    refine j_iconst (v := 5) dX4_priceOf_111 rfl (by decide) ?_
    refine j_iload_n dX4_priceOf_112 rfl rfl ?_
    refine j_imul dX4_priceOf_113 rfl ?_
    refine j_iadd dX4_priceOf_114 rfl ?_
    exact j_ireturn dX4_priceOf_115 rfl rfl ⟨Nat.le_refl _, Nat.le_refl _⟩ (jf_t (fun z => .int z) hm)
  have hm := jif_neg c3 hm
  by_cases c4 : a0 = (4 : Int32)
  · have hm := jif_pos c4 hm
    refine j_ts_in (z := 4) (off := 49) (tgt := 101) dX4_priceOf_52 (j_ts_lit c4 (by decide)) (by decide) (by decide) rfl (by decide) ?_
    refine j_iload dX4_priceOf_101 rfl rfl ?_
    refine j_iload dX4_priceOf_103 rfl rfl ?_
    refine j_iconst (v := 2) dX4_priceOf_105 rfl (by decide) ?_
    refine j_idiv dX4_priceOf_106 rfl (by decide) ?_
    refine j_iadd dX4_priceOf_107 rfl ?_
    exact j_ireturn dX4_priceOf_108 rfl rfl ⟨Nat.le_refl _, Nat.le_refl _⟩ (jf_t (fun z => .int z) hm)
  have hm := jif_neg c4 hm
  by_cases c5 : a0 = (5 : Int32)
  · have hm := jif_pos c5 hm
    refine j_ts_in (z := 5) (off := 64) (tgt := 116) dX4_priceOf_52 (j_ts_lit c5 (by decide)) (by decide) (by decide) rfl (by decide) ?_
    refine j_iload dX4_priceOf_116 rfl rfl ?_
    refine j_iconst (v := 5) dX4_priceOf_118 rfl (by decide) ?_
    refine j_iload_n dX4_priceOf_119 rfl rfl ?_
    refine j_imul dX4_priceOf_120 rfl ?_
    refine j_iadd dX4_priceOf_121 rfl ?_
    exact j_ireturn dX4_priceOf_122 rfl rfl ⟨Nat.le_refl _, Nat.le_refl _⟩ (jf_t (fun z => .int z) hm)
  have hm := jif_neg c5 hm
  refine j_ts_out (tgt := 123) dX4_priceOf_52 (by have := j_ts_ne (k := 1) c1 (by decide); have := j_ts_ne (k := 2) c2 (by decide); have := j_ts_ne (k := 3) c3 (by decide); have := j_ts_ne (k := 4) c4 (by decide); have := j_ts_ne (k := 5) c5 (by decide); omega) (by decide) ?_
  refine j_iload dX4_priceOf_123 rfl rfl ?_
  exact j_ireturn dX4_priceOf_125 rfl rfl ⟨Nat.le_refl _, Nat.le_refl _⟩ (jf_t (fun z => .int z) hm)
def mX4_priceOf_b23   (a0 : Int32) (a1 : Int32) (a3 : Int32) (a4 : Int32) : Int32 := (if a4 < (5 : Int32) then (mX4_priceOf_b49 a0 a1 a3 (a1 + ((a1 * a4) / (10 : Int32))) (a1 + ((a1 * a4) / (10 : Int32)))) else (mX4_priceOf_b49 a0 a1 a3 (a1 + ((a1 * a4) / (10 : Int32))) ((a1 + ((a1 * a4) / (10 : Int32))) + a1)))
set_option maxHeartbeats 4000000 in
set_option maxRecDepth 20000 in
theorem tX4_priceOf_b23 {l : Launch} {Z : jZ} {q : Nat → Nat} {V : jMem} {a0 : Int32} {a1 : Int32} {a3 : Int32} {a4 : Int32} {r : Int32}    (hm : mX4_priceOf_b23 a0 a1 a3 a4 = r) : J l Z RX4 "priceOf" cX4_priceOf 7 (some .int) 2 0 0 (fun r' w => r' = some (.int r) ∧ w = jw Z q V dX) 23 [(0, .int a0), (1, .int a1), (3, .int a3), (4, .int a4)] [] (jw Z q V dX) 0 0 := by
  unfold mX4_priceOf_b23 at hm
  refine j_iload_n dX4_priceOf_23 rfl rfl ?_
  refine j_iload_n dX4_priceOf_24 rfl rfl ?_
  refine j_iload dX4_priceOf_25 rfl rfl ?_
  refine j_imul dX4_priceOf_27 rfl ?_
  refine j_bipush (v := 10) dX4_priceOf_28 rfl (by decide) ?_
  refine j_idiv dX4_priceOf_30 rfl (by decide) ?_
  refine j_iadd dX4_priceOf_31 rfl ?_
  refine j_istore (L' := [(5, _), (0, _), (1, _), (3, _), (4, _)]) dX4_priceOf_32 rfl (by decide) rfl ?_
  refine j_iload dX4_priceOf_34 rfl rfl ?_
  refine j_iconst (v := 5) dX4_priceOf_36 rfl (by decide) ?_
  refine j_icmp_lt (tgt := 47) dX4_priceOf_37 rfl (by decide) (fun c1 => ?_) (fun c1 => ?_)
  · have hm := jif_pos c1 hm
    refine j_iload dX4_priceOf_47 rfl rfl ?_
    refine j_sub (L' := [(0, _), (1, _), (3, _), (5, _)]) [1, 2, 3, 0] rfl ?_
    exact tX4_priceOf_b49    hm
  · have hm := jif_neg c1 hm
    refine j_iload dX4_priceOf_40 rfl rfl ?_
    refine j_iload_n dX4_priceOf_42 rfl rfl ?_
    refine j_iadd dX4_priceOf_43 rfl ?_
    refine j_goto (tgt := 49) dX4_priceOf_44 (by decide) ?_
    refine j_sub (L' := [(0, _), (1, _), (3, _), (5, _)]) [1, 2, 3, 0] rfl ?_
    exact tX4_priceOf_b49    hm
def mX4_priceOf (a0 : Int32) (a1 : Int32) (a2 : Int32) (a3 : Int32) : Int32 := (if a0 = (5 : Int32) then (jl (if ((2 : Int32) * (mX4_wareOf a2 a3)) < (9 : Int32) then ((2 : Int32) * (mX4_wareOf a2 a3)) else (9 : Int32)) (fun (v2 : Int32) => (mX4_priceOf_b23 a0 a1 a3 v2))) else (mX4_priceOf_b23 a0 a1 a3 (mX4_wareOf a2 a3)))
set_option maxHeartbeats 4000000 in
set_option maxRecDepth 20000 in
theorem tX4_priceOf {l : Launch} {Z : jZ} {q : Nat → Nat} {V : jMem} {a0 : Int32} {a1 : Int32} {a2 : Int32} {a3 : Int32} {r : Int32}  (hm : mX4_priceOf a0 a1 a2 a3 = r) : CtD l Z yX4_priceOf cX4_priceOf 7 (some .int) 2 q dX [.int a0, .int a1, .int a2, .int a3] V (some (.int r)) V := by
  refine Ct_of (L := [(0, .int a0), (1, .int a1), (2, .int a2), (3, .int a3)]) (own := RX4) (nm := "priceOf") rfl rfl (by decide +kernel) rfl (Nat.le_of_ble_eq_true rfl) ?_
  unfold mX4_priceOf at hm
  refine j_iload_n dX4_priceOf_0 rfl rfl ?_
  refine j_iload_n dX4_priceOf_1 rfl rfl ?_
  refine o_callS_i kX4_100 dX4_priceOf_2 rfl (tX4_wareOf  rfl) rfl rfl (Nat.le_of_ble_eq_true rfl) (by decide) ?_
  refine j_istore (L' := [(4, _), (0, _), (1, _), (2, _), (3, _)]) dX4_priceOf_5 rfl (by decide) rfl ?_
  refine j_iload_n dX4_priceOf_7 rfl rfl ?_
  refine j_iconst (v := 5) dX4_priceOf_8 rfl (by decide) ?_
  refine j_icmp_ne (tgt := 23) dX4_priceOf_9 rfl (by decide) (fun c1 => ?_) (fun c1 => ?_)
  · have hm := jif_neg c1 hm
    refine j_sub (L' := [(0, _), (1, _), (3, _), (4, _)]) [1, 2, 4, 0] rfl ?_
    exact tX4_priceOf_b23    hm
  · have hm := jif_pos c1 hm
    refine j_bipush (v := 9) dX4_priceOf_12 rfl (by decide) ?_
    refine j_iconst (v := 2) dX4_priceOf_14 rfl (by decide) ?_
    refine j_iload dX4_priceOf_15 rfl rfl ?_
    refine j_imul dX4_priceOf_17 rfl ?_
    refine j_min kX4_299 mm_min.1 mm_min.2.1 mm_min.2.2 dX4_priceOf_18 rfl (by decide) (Nat.le_of_ble_eq_true rfl) ⟨Nat.le_refl _, Nat.le_refl _⟩ ?_
    obtain ⟨v2, ev2⟩ : ∃ y, y = ((if ((2 : Int32) * (mX4_wareOf a2 a3)) < (9 : Int32) then ((2 : Int32) * (mX4_wareOf a2 a3)) else (9 : Int32)) : Int32) := ⟨_, rfl⟩
    have hm := jl_of hm ev2
    rw [← ev2]
    refine j_istore (L' := [(4, _), (0, _), (1, _), (2, _), (3, _)]) dX4_priceOf_21 rfl (by decide) rfl ?_
    refine j_sub (L' := [(0, _), (1, _), (3, _), (4, _)]) [1, 2, 4, 0] rfl ?_
    exact tX4_priceOf_b23    hm
theorem dX0_priceHearing_0 : decode cX0_priceHearing 0 = .ok (.aload_n 0, 1) := by decide +kernel
theorem dX0_priceHearing_1 : decode cX0_priceHearing 1 = .ok (.getfield 9, 3) := by decide +kernel
theorem dX0_priceHearing_4 : decode cX0_priceHearing 4 = .ok (.iload_n 1, 1) := by decide +kernel
theorem dX0_priceHearing_5 : decode cX0_priceHearing 5 = .ok (.iaload, 1) := by decide +kernel
theorem dX0_priceHearing_6 : decode cX0_priceHearing 6 = .ok (.aload_n 0, 1) := by decide +kernel
theorem dX0_priceHearing_7 : decode cX0_priceHearing 7 = .ok (.getfield 15, 3) := by decide +kernel
theorem dX0_priceHearing_10 : decode cX0_priceHearing 10 = .ok (.iload_n 1, 1) := by decide +kernel
theorem dX0_priceHearing_11 : decode cX0_priceHearing 11 = .ok (.iaload, 1) := by decide +kernel
theorem dX0_priceHearing_12 : decode cX0_priceHearing 12 = .ok (.aload_n 0, 1) := by decide +kernel
theorem dX0_priceHearing_13 : decode cX0_priceHearing 13 = .ok (.getfield 18, 3) := by decide +kernel
theorem dX0_priceHearing_16 : decode cX0_priceHearing 16 = .ok (.iload_n 1, 1) := by decide +kernel
theorem dX0_priceHearing_17 : decode cX0_priceHearing 17 = .ok (.iaload, 1) := by decide +kernel
theorem dX0_priceHearing_18 : decode cX0_priceHearing 18 = .ok (.iload_n 2, 1) := by decide +kernel
theorem dX0_priceHearing_19 : decode cX0_priceHearing 19 = .ok (.invokestatic 95, 3) := by decide +kernel
theorem dX0_priceHearing_22 : decode cX0_priceHearing 22 = .ok (.ireturn, 1) := by decide +kernel
def mX0_priceHearing (a1 : Int32) (a2 : Int32) (V : jMem) : Option Int32 := (jg (jin a1 14) (some (mX4_priceOf (V.1 2 (Int32.toNatClampNeg a1)) (V.1 3 (Int32.toNatClampNeg a1)) (V.1 4 (Int32.toNatClampNeg a1)) a2)))
set_option maxHeartbeats 4000000 in
set_option maxRecDepth 20000 in
theorem tX0_priceHearing {l : Launch} {Z : jZ} {q : Nat → Nat} {a1 : Int32} {a2 : Int32} {V : jMem} {r : Int32}  (hm : mX0_priceHearing a1 a2 V = some r) : CtD l Z yX0_priceHearing cX0_priceHearing 3 (some .int) 3 q dX [.ref (q 1), .int a1, .int a2] V (some (.int r)) V := by
  refine Ct_of (L := [(0, .ref (q 1)), (1, .int a1), (2, .int a2)]) (own := RX0) (nm := "priceHearing") rfl rfl (by decide +kernel) rfl (Nat.le_of_ble_eq_true rfl) ?_
  unfold mX0_priceHearing at hm
  refine j_aload_n dX0_priceHearing_0 rfl rfl ?_
  refine m_getr (k := 1) (r := 2) fX0_9 dX0_priceHearing_1 rfl rfl rfl ?_
  refine j_iload_n dX0_priceHearing_4 rfl rfl ?_
  obtain ⟨g1, hm⟩ := jg_of hm
  refine o_iald (k := (Int32.toNatClampNeg a1)) rfl dX0_priceHearing_5 rfl rfl (jin_vp g1) ?_
  refine j_aload_n dX0_priceHearing_6 rfl rfl ?_
  refine m_getr (k := 2) (r := 3) fX0_15 dX0_priceHearing_7 rfl rfl rfl ?_
  refine j_iload_n dX0_priceHearing_10 rfl rfl ?_
  refine o_iald (k := (Int32.toNatClampNeg a1)) rfl dX0_priceHearing_11 rfl rfl (jin_vp g1) ?_
  refine j_aload_n dX0_priceHearing_12 rfl rfl ?_
  refine m_getr (k := 3) (r := 4) fX0_18 dX0_priceHearing_13 rfl rfl rfl ?_
  refine j_iload_n dX0_priceHearing_16 rfl rfl ?_
  refine o_iald (k := (Int32.toNatClampNeg a1)) rfl dX0_priceHearing_17 rfl rfl (jin_vp g1) ?_
  refine j_iload_n dX0_priceHearing_18 rfl rfl ?_
  refine o_callS_i kX0_95 dX0_priceHearing_19 rfl (tX4_priceOf  rfl) rfl rfl (Nat.le_of_ble_eq_true rfl) (by decide) ?_
  exact j_ireturn dX0_priceHearing_22 rfl rfl ⟨Nat.le_refl _, Nat.le_refl _⟩ (jf_p (fun z => .int z) hm)
theorem dX0_priceBy_0 : decode cX0_priceBy 0 = .ok (.aload_n 0, 1) := by decide +kernel
theorem dX0_priceBy_1 : decode cX0_priceBy 1 = .ok (.iload_n 1, 1) := by decide +kernel
theorem dX0_priceBy_2 : decode cX0_priceBy 2 = .ok (.aload_n 0, 1) := by decide +kernel
theorem dX0_priceBy_3 : decode cX0_priceBy 3 = .ok (.iload_n 1, 1) := by decide +kernel
theorem dX0_priceBy_4 : decode cX0_priceBy 4 = .ok (.iload_n 2, 1) := by decide +kernel
theorem dX0_priceBy_5 : decode cX0_priceBy 5 = .ok (.invokevirtual 99, 3) := by decide +kernel
theorem dX0_priceBy_8 : decode cX0_priceBy 8 = .ok (.invokevirtual 103, 3) := by decide +kernel
theorem dX0_priceBy_11 : decode cX0_priceBy 11 = .ok (.ireturn, 1) := by decide +kernel
def mX0_priceBy (a1 : Int32) (a2 : Int32) (V : jMem) : Option Int32 := ((mX0_heardBy a1 a2 V).bind (fun (r1 : Int32) => ((mX0_priceHearing a1 r1 V).bind (fun (r2 : Int32) => (some r2)))))
set_option maxHeartbeats 4000000 in
set_option maxRecDepth 20000 in
theorem tX0_priceBy {l : Launch} {Z : jZ} {q : Nat → Nat} {a1 : Int32} {a2 : Int32} {V : jMem} {r : Int32}  (hm : mX0_priceBy a1 a2 V = some r) : CtD l Z yX0_priceBy cX0_priceBy 3 (some .int) 4 q dX [.ref (q 1), .int a1, .int a2] V (some (.int r)) V := by
  refine Ct_of (L := [(0, .ref (q 1)), (1, .int a1), (2, .int a2)]) (own := RX0) (nm := "priceBy") rfl rfl (by decide +kernel) rfl (Nat.le_of_ble_eq_true rfl) ?_
  unfold mX0_priceBy at hm
  refine j_aload_n dX0_priceBy_0 rfl rfl ?_
  refine j_iload_n dX0_priceBy_1 rfl rfl ?_
  refine j_aload_n dX0_priceBy_2 rfl rfl ?_
  refine j_iload_n dX0_priceBy_3 rfl rfl ?_
  refine j_iload_n dX0_priceBy_4 rfl rfl ?_
  obtain ⟨r1, er1, hm⟩ := jb_of hm
  refine o_callV_i kX0_99 dX0_priceBy_5 rfl (tX0_heardBy  er1) rfl rfl rfl rfl rfl (Nat.le_of_ble_eq_true rfl) (by decide) ?_
  obtain ⟨r2, er2, hm⟩ := jb_of hm
  refine o_callV_i kX0_103 dX0_priceBy_8 rfl (tX0_priceHearing  er2) rfl rfl rfl rfl rfl (Nat.le_of_ble_eq_true rfl) (by decide) ?_
  exact j_ireturn dX0_priceBy_11 rfl rfl ⟨Nat.le_refl _, Nat.le_refl _⟩ (jf_p (fun z => .int z) hm)
theorem dX0_priceNow_0 : decode cX0_priceNow 0 = .ok (.aload_n 0, 1) := by decide +kernel
theorem dX0_priceNow_1 : decode cX0_priceNow 1 = .ok (.iload_n 1, 1) := by decide +kernel
theorem dX0_priceNow_2 : decode cX0_priceNow 2 = .ok (.aload_n 0, 1) := by decide +kernel
theorem dX0_priceNow_3 : decode cX0_priceNow 3 = .ok (.getfield 52, 3) := by decide +kernel
theorem dX0_priceNow_6 : decode cX0_priceNow 6 = .ok (.invokevirtual 106, 3) := by decide +kernel
theorem dX0_priceNow_9 : decode cX0_priceNow 9 = .ok (.ireturn, 1) := by decide +kernel
def mX0_priceNow (a1 : Int32) (V : jMem) : Option Int32 := ((mX0_priceBy a1 (V.1 1 5) V).bind (fun (r1 : Int32) => (some r1)))
set_option maxHeartbeats 4000000 in
set_option maxRecDepth 20000 in
theorem tX0_priceNow {l : Launch} {Z : jZ} {q : Nat → Nat} {a1 : Int32} {V : jMem} {r : Int32}  (hm : mX0_priceNow a1 V = some r) : CtD l Z yX0_priceNow cX0_priceNow 2 (some .int) 5 q dX [.ref (q 1), .int a1] V (some (.int r)) V := by
  refine Ct_of (L := [(0, .ref (q 1)), (1, .int a1)]) (own := RX0) (nm := "priceNow") rfl rfl (by decide +kernel) rfl (Nat.le_of_ble_eq_true rfl) ?_
  unfold mX0_priceNow at hm
  refine j_aload_n dX0_priceNow_0 rfl rfl ?_
  refine j_iload_n dX0_priceNow_1 rfl rfl ?_
  refine j_aload_n dX0_priceNow_2 rfl rfl ?_
  refine m_geti (k := 5) fX0_52 dX0_priceNow_3 rfl rfl rfl ?_
  obtain ⟨r1, er1, hm⟩ := jb_of hm
  refine o_callV_i kX0_106 dX0_priceNow_6 rfl (tX0_priceBy  er1) rfl rfl rfl rfl rfl (Nat.le_of_ble_eq_true rfl) (by decide) ?_
  exact j_ireturn dX0_priceNow_9 rfl rfl ⟨Nat.le_refl _, Nat.le_refl _⟩ (jf_p (fun z => .int z) hm)
theorem dX0_worthsIn_0 : decode cX0_worthsIn 0 = .ok (.iconst 0, 1) := by decide +kernel
theorem dX0_worthsIn_1 : decode cX0_worthsIn 1 = .ok (.istore_n 2, 1) := by decide +kernel
theorem dX0_worthsIn_2 : decode cX0_worthsIn 2 = .ok (.iconst 0, 1) := by decide +kernel
theorem dX0_worthsIn_3 : decode cX0_worthsIn 3 = .ok (.istore_n 3, 1) := by decide +kernel
theorem dX0_worthsIn_4 : decode cX0_worthsIn 4 = .ok (.iload_n 3, 1) := by decide +kernel
theorem dX0_worthsIn_5 : decode cX0_worthsIn 5 = .ok (.aload_n 0, 1) := by decide +kernel
theorem dX0_worthsIn_6 : decode cX0_worthsIn 6 = .ok (.getfield 43, 3) := by decide +kernel
theorem dX0_worthsIn_9 : decode cX0_worthsIn 9 = .ok (.if_icmp .ge 26, 3) := by decide +kernel
theorem dX0_worthsIn_12 : decode cX0_worthsIn 12 = .ok (.iload_n 3, 1) := by decide +kernel
theorem dX0_worthsIn_13 : decode cX0_worthsIn 13 = .ok (.iload_n 1, 1) := by decide +kernel
theorem dX0_worthsIn_14 : decode cX0_worthsIn 14 = .ok (.invokestatic 83, 3) := by decide +kernel
theorem dX0_worthsIn_17 : decode cX0_worthsIn 17 = .ok (.ifCond .eq 12, 3) := by decide +kernel
theorem dX0_worthsIn_20 : decode cX0_worthsIn 20 = .ok (.iload_n 2, 1) := by decide +kernel
theorem dX0_worthsIn_21 : decode cX0_worthsIn 21 = .ok (.aload_n 0, 1) := by decide +kernel
theorem dX0_worthsIn_22 : decode cX0_worthsIn 22 = .ok (.getfield 15, 3) := by decide +kernel
theorem dX0_worthsIn_25 : decode cX0_worthsIn 25 = .ok (.iload_n 3, 1) := by decide +kernel
theorem dX0_worthsIn_26 : decode cX0_worthsIn 26 = .ok (.iaload, 1) := by decide +kernel
theorem dX0_worthsIn_27 : decode cX0_worthsIn 27 = .ok (.iadd, 1) := by decide +kernel
theorem dX0_worthsIn_28 : decode cX0_worthsIn 28 = .ok (.istore_n 2, 1) := by decide +kernel
theorem dX0_worthsIn_29 : decode cX0_worthsIn 29 = .ok (.iinc 3 1, 3) := by decide +kernel
theorem dX0_worthsIn_32 : decode cX0_worthsIn 32 = .ok (.goto (-28), 3) := by decide +kernel
theorem dX0_worthsIn_35 : decode cX0_worthsIn 35 = .ok (.iload_n 2, 1) := by decide +kernel
theorem dX0_worthsIn_36 : decode cX0_worthsIn 36 = .ok (.ireturn, 1) := by decide +kernel
def mX0_worthsIn_b29 (V : jMem) (k4 : Int32 → Int32 → Int32 → Option Int32) (a1 : Int32) (a2 : Int32) (a3 : Int32) : Option Int32 := (k4 a1 a2 (a3 + (1 : Int32)))
set_option maxHeartbeats 4000000 in
set_option maxRecDepth 20000 in
theorem tX0_worthsIn_b29 {l : Launch} {Z : jZ} {q : Nat → Nat} {V : jMem} {k4 : Int32 → Int32 → Int32 → Option Int32} {a1 : Int32} {a2 : Int32} {a3 : Int32} {r : Int32}   (hk4 : ∀ (a1 : Int32) (a2 : Int32) (a3 : Int32), k4 a1 a2 a3 = some r → J l Z RX0 "worthsIn" cX0_worthsIn 4 (some .int) 1 0 0 (fun r' w => r' = some (.int r) ∧ w = jw Z q V dX) 4 [(0, .ref (q 1)), (1, .int a1), (2, .int a2), (3, .int a3)] [] (jw Z q V dX) 0 0) (hm : mX0_worthsIn_b29 V k4 a1 a2 a3 = some r) : J l Z RX0 "worthsIn" cX0_worthsIn 4 (some .int) 1 0 0 (fun r' w => r' = some (.int r) ∧ w = jw Z q V dX) 29 [(0, .ref (q 1)), (1, .int a1), (2, .int a2), (3, .int a3)] [] (jw Z q V dX) 0 0 := by
  unfold mX0_worthsIn_b29 at hm
  refine j_iinc (v := (a3 + (1 : Int32))) (L' := [(3, _), (0, _), (1, _), (2, _)]) dX0_worthsIn_29 rfl rfl rfl (by decide) rfl ?_
  refine j_goto (tgt := 4) dX0_worthsIn_32 (by decide) ?_
  refine j_sub (L' := [(0, _), (1, _), (2, _), (3, _)]) [1, 2, 3, 0] rfl ?_
  exact hk4 _ _ _  hm
def mX0_worthsIn_b4 (V : jMem)  : Nat → Int32 → Int32 → Int32 → Option Int32
  | 0, _, _, _ => none
  | n + 1, a1, a2, a3 => (if (V.1 1 0) ≤ a3 then (some a2) else (if (mX4_isIn a3 a1) = (0 : Int32) then (mX0_worthsIn_b29 V (mX0_worthsIn_b4 V n) a1 a2 a3) else (jg (jin a3 14) (mX0_worthsIn_b29 V (mX0_worthsIn_b4 V n) a1 (a2 + (V.1 3 (Int32.toNatClampNeg a3))) a3))))
set_option maxHeartbeats 4000000 in
set_option maxRecDepth 20000 in
theorem tX0_worthsIn_b4 {l : Launch} {Z : jZ} {q : Nat → Nat} {V : jMem} {r : Int32}   (n : Nat) : ∀ (a1 : Int32) (a2 : Int32) (a3 : Int32), mX0_worthsIn_b4 V n a1 a2 a3 = some r → J l Z RX0 "worthsIn" cX0_worthsIn 4 (some .int) 1 0 0 (fun r' w => r' = some (.int r) ∧ w = jw Z q V dX) 4 [(0, .ref (q 1)), (1, .int a1), (2, .int a2), (3, .int a3)] [] (jw Z q V dX) 0 0 := by
  induction n with
  | zero => intro a1 a2 a3 hm; cases hm
  | succ n ih =>
    intro a1 a2 a3 hm
    rw [mX0_worthsIn_b4] at hm
    refine j_iload_n dX0_worthsIn_4 rfl rfl ?_
    refine j_aload_n dX0_worthsIn_5 rfl rfl ?_
    refine m_geti (k := 0) fX0_43 dX0_worthsIn_6 rfl rfl rfl ?_
    refine j_icmp_ge (tgt := 35) dX0_worthsIn_9 rfl (by decide) (fun c1 => ?_) (fun c1 => ?_)
    · have hm := jif_pos c1 hm
      refine j_iload_n dX0_worthsIn_35 rfl rfl ?_
      exact j_ireturn dX0_worthsIn_36 rfl rfl ⟨Nat.le_refl _, Nat.le_refl _⟩ (jf_p (fun z => .int z) hm)
    · have hm := jif_neg c1 hm
      refine j_iload_n dX0_worthsIn_12 rfl rfl ?_
      refine j_iload_n dX0_worthsIn_13 rfl rfl ?_
      refine o_callS_i kX0_83 dX0_worthsIn_14 rfl (tX4_isIn  rfl) rfl rfl (Nat.le_of_ble_eq_true rfl) (by decide) ?_
      refine j_if_eq (tgt := 29) dX0_worthsIn_17 rfl (by decide) (fun c2 => ?_) (fun c2 => ?_)
      · have hm := jif_pos c2 hm
        exact tX0_worthsIn_b29   ih hm
      · have hm := jif_neg c2 hm
        refine j_iload_n dX0_worthsIn_20 rfl rfl ?_
        refine j_aload_n dX0_worthsIn_21 rfl rfl ?_
        refine m_getr (k := 2) (r := 3) fX0_15 dX0_worthsIn_22 rfl rfl rfl ?_
        refine j_iload_n dX0_worthsIn_25 rfl rfl ?_
        obtain ⟨g3, hm⟩ := jg_of hm
        refine o_iald (k := (Int32.toNatClampNeg a3)) rfl dX0_worthsIn_26 rfl rfl (jin_vp g3) ?_
        refine j_iadd dX0_worthsIn_27 rfl ?_
        refine j_istore_n (i := 2) (L' := [(2, _), (0, _), (1, _), (3, _)]) dX0_worthsIn_28 rfl rfl (by decide) rfl ?_
        refine j_sub (L' := [(0, _), (1, _), (2, _), (3, _)]) [1, 2, 0, 3] rfl ?_
        exact tX0_worthsIn_b29   ih hm
def mX0_worthsIn (a1 : Int32) (V : jMem) : Option Int32 := (mX0_worthsIn_b4 V 2000 a1 (0 : Int32) (0 : Int32))
set_option maxHeartbeats 4000000 in
set_option maxRecDepth 20000 in
theorem tX0_worthsIn {l : Launch} {Z : jZ} {q : Nat → Nat} {a1 : Int32} {V : jMem} {r : Int32}  (hm : mX0_worthsIn a1 V = some r) : CtD l Z yX0_worthsIn cX0_worthsIn 4 (some .int) 1 q dX [.ref (q 1), .int a1] V (some (.int r)) V := by
  refine Ct_of (L := [(0, .ref (q 1)), (1, .int a1)]) (own := RX0) (nm := "worthsIn") rfl rfl (by decide +kernel) rfl (Nat.le_of_ble_eq_true rfl) ?_
  unfold mX0_worthsIn at hm
  refine j_iconst (v := 0) dX0_worthsIn_0 rfl (by decide) ?_
  refine j_istore_n (i := 2) (L' := [(2, _), (0, _), (1, _)]) dX0_worthsIn_1 rfl rfl (by decide) rfl ?_
  refine j_iconst (v := 0) dX0_worthsIn_2 rfl (by decide) ?_
  refine j_istore_n (i := 3) (L' := [(3, _), (2, _), (0, _), (1, _)]) dX0_worthsIn_3 rfl rfl (by decide) rfl ?_
  refine j_sub (L' := [(0, _), (1, _), (2, _), (3, _)]) [2, 3, 1, 0] rfl ?_
  exact tX0_worthsIn_b4   _ _ _ _  hm
theorem dX0_pricesIn_0 : decode cX0_pricesIn 0 = .ok (.iconst 0, 1) := by decide +kernel
theorem dX0_pricesIn_1 : decode cX0_pricesIn 1 = .ok (.istore_n 3, 1) := by decide +kernel
theorem dX0_pricesIn_2 : decode cX0_pricesIn 2 = .ok (.iconst 0, 1) := by decide +kernel
theorem dX0_pricesIn_3 : decode cX0_pricesIn 3 = .ok (.istore 4, 2) := by decide +kernel
theorem dX0_pricesIn_5 : decode cX0_pricesIn 5 = .ok (.iload 4, 2) := by decide +kernel
theorem dX0_pricesIn_7 : decode cX0_pricesIn 7 = .ok (.aload_n 0, 1) := by decide +kernel
theorem dX0_pricesIn_8 : decode cX0_pricesIn 8 = .ok (.getfield 43, 3) := by decide +kernel
theorem dX0_pricesIn_11 : decode cX0_pricesIn 11 = .ok (.if_icmp .ge 28, 3) := by decide +kernel
theorem dX0_pricesIn_14 : decode cX0_pricesIn 14 = .ok (.iload 4, 2) := by decide +kernel
theorem dX0_pricesIn_16 : decode cX0_pricesIn 16 = .ok (.iload_n 1, 1) := by decide +kernel
theorem dX0_pricesIn_17 : decode cX0_pricesIn 17 = .ok (.invokestatic 83, 3) := by decide +kernel
theorem dX0_pricesIn_20 : decode cX0_pricesIn 20 = .ok (.ifCond .eq 13, 3) := by decide +kernel
theorem dX0_pricesIn_23 : decode cX0_pricesIn 23 = .ok (.iload_n 3, 1) := by decide +kernel
theorem dX0_pricesIn_24 : decode cX0_pricesIn 24 = .ok (.aload_n 0, 1) := by decide +kernel
theorem dX0_pricesIn_25 : decode cX0_pricesIn 25 = .ok (.iload 4, 2) := by decide +kernel
theorem dX0_pricesIn_27 : decode cX0_pricesIn 27 = .ok (.iload_n 2, 1) := by decide +kernel
theorem dX0_pricesIn_28 : decode cX0_pricesIn 28 = .ok (.invokevirtual 106, 3) := by decide +kernel
theorem dX0_pricesIn_31 : decode cX0_pricesIn 31 = .ok (.iadd, 1) := by decide +kernel
theorem dX0_pricesIn_32 : decode cX0_pricesIn 32 = .ok (.istore_n 3, 1) := by decide +kernel
theorem dX0_pricesIn_33 : decode cX0_pricesIn 33 = .ok (.iinc 4 1, 3) := by decide +kernel
theorem dX0_pricesIn_36 : decode cX0_pricesIn 36 = .ok (.goto (-31), 3) := by decide +kernel
theorem dX0_pricesIn_39 : decode cX0_pricesIn 39 = .ok (.iload_n 3, 1) := by decide +kernel
theorem dX0_pricesIn_40 : decode cX0_pricesIn 40 = .ok (.ireturn, 1) := by decide +kernel
def mX0_pricesIn_b33 (V : jMem) (k5 : Int32 → Int32 → Int32 → Int32 → Option Int32) (a1 : Int32) (a2 : Int32) (a3 : Int32) (a4 : Int32) : Option Int32 := (k5 a1 a2 a3 (a4 + (1 : Int32)))
set_option maxHeartbeats 4000000 in
set_option maxRecDepth 20000 in
theorem tX0_pricesIn_b33 {l : Launch} {Z : jZ} {q : Nat → Nat} {V : jMem} {k5 : Int32 → Int32 → Int32 → Int32 → Option Int32} {a1 : Int32} {a2 : Int32} {a3 : Int32} {a4 : Int32} {r : Int32}   (hk5 : ∀ (a1 : Int32) (a2 : Int32) (a3 : Int32) (a4 : Int32), k5 a1 a2 a3 a4 = some r → J l Z RX0 "pricesIn" cX0_pricesIn 5 (some .int) 5 0 0 (fun r' w => r' = some (.int r) ∧ w = jw Z q V dX) 5 [(0, .ref (q 1)), (1, .int a1), (2, .int a2), (3, .int a3), (4, .int a4)] [] (jw Z q V dX) 0 0) (hm : mX0_pricesIn_b33 V k5 a1 a2 a3 a4 = some r) : J l Z RX0 "pricesIn" cX0_pricesIn 5 (some .int) 5 0 0 (fun r' w => r' = some (.int r) ∧ w = jw Z q V dX) 33 [(0, .ref (q 1)), (1, .int a1), (2, .int a2), (3, .int a3), (4, .int a4)] [] (jw Z q V dX) 0 0 := by
  unfold mX0_pricesIn_b33 at hm
  refine j_iinc (v := (a4 + (1 : Int32))) (L' := [(4, _), (0, _), (1, _), (2, _), (3, _)]) dX0_pricesIn_33 rfl rfl rfl (by decide) rfl ?_
  refine j_goto (tgt := 5) dX0_pricesIn_36 (by decide) ?_
  refine j_sub (L' := [(0, _), (1, _), (2, _), (3, _), (4, _)]) [1, 2, 3, 4, 0] rfl ?_
  exact hk5 _ _ _ _  hm
def mX0_pricesIn_b5 (V : jMem)  : Nat → Int32 → Int32 → Int32 → Int32 → Option Int32
  | 0, _, _, _, _ => none
  | n + 1, a1, a2, a3, a4 => (if (V.1 1 0) ≤ a4 then (some a3) else (if (mX4_isIn a4 a1) = (0 : Int32) then (mX0_pricesIn_b33 V (mX0_pricesIn_b5 V n) a1 a2 a3 a4) else ((mX0_priceBy a4 a2 V).bind (fun (r3 : Int32) => (mX0_pricesIn_b33 V (mX0_pricesIn_b5 V n) a1 a2 (a3 + r3) a4)))))
set_option maxHeartbeats 4000000 in
set_option maxRecDepth 20000 in
theorem tX0_pricesIn_b5 {l : Launch} {Z : jZ} {q : Nat → Nat} {V : jMem} {r : Int32}   (n : Nat) : ∀ (a1 : Int32) (a2 : Int32) (a3 : Int32) (a4 : Int32), mX0_pricesIn_b5 V n a1 a2 a3 a4 = some r → J l Z RX0 "pricesIn" cX0_pricesIn 5 (some .int) 5 0 0 (fun r' w => r' = some (.int r) ∧ w = jw Z q V dX) 5 [(0, .ref (q 1)), (1, .int a1), (2, .int a2), (3, .int a3), (4, .int a4)] [] (jw Z q V dX) 0 0 := by
  induction n with
  | zero => intro a1 a2 a3 a4 hm; cases hm
  | succ n ih =>
    intro a1 a2 a3 a4 hm
    rw [mX0_pricesIn_b5] at hm
    refine j_iload dX0_pricesIn_5 rfl rfl ?_
    refine j_aload_n dX0_pricesIn_7 rfl rfl ?_
    refine m_geti (k := 0) fX0_43 dX0_pricesIn_8 rfl rfl rfl ?_
    refine j_icmp_ge (tgt := 39) dX0_pricesIn_11 rfl (by decide) (fun c1 => ?_) (fun c1 => ?_)
    · have hm := jif_pos c1 hm
      refine j_iload_n dX0_pricesIn_39 rfl rfl ?_
      exact j_ireturn dX0_pricesIn_40 rfl rfl ⟨Nat.le_refl _, Nat.le_refl _⟩ (jf_p (fun z => .int z) hm)
    · have hm := jif_neg c1 hm
      refine j_iload dX0_pricesIn_14 rfl rfl ?_
      refine j_iload_n dX0_pricesIn_16 rfl rfl ?_
      refine o_callS_i kX0_83 dX0_pricesIn_17 rfl (tX4_isIn  rfl) rfl rfl (Nat.le_of_ble_eq_true rfl) (by decide) ?_
      refine j_if_eq (tgt := 33) dX0_pricesIn_20 rfl (by decide) (fun c2 => ?_) (fun c2 => ?_)
      · have hm := jif_pos c2 hm
        exact tX0_pricesIn_b33   ih hm
      · have hm := jif_neg c2 hm
        refine j_iload_n dX0_pricesIn_23 rfl rfl ?_
        refine j_aload_n dX0_pricesIn_24 rfl rfl ?_
        refine j_iload dX0_pricesIn_25 rfl rfl ?_
        refine j_iload_n dX0_pricesIn_27 rfl rfl ?_
        obtain ⟨r3, er3, hm⟩ := jb_of hm
        refine o_callV_i kX0_106 dX0_pricesIn_28 rfl (tX0_priceBy  er3) rfl rfl rfl rfl rfl (Nat.le_of_ble_eq_true rfl) (by decide) ?_
        refine j_iadd dX0_pricesIn_31 rfl ?_
        refine j_istore_n (i := 3) (L' := [(3, _), (0, _), (1, _), (2, _), (4, _)]) dX0_pricesIn_32 rfl rfl (by decide) rfl ?_
        refine j_sub (L' := [(0, _), (1, _), (2, _), (3, _), (4, _)]) [1, 2, 3, 0, 4] rfl ?_
        exact tX0_pricesIn_b33   ih hm
def mX0_pricesIn (a1 : Int32) (a2 : Int32) (V : jMem) : Option Int32 := (mX0_pricesIn_b5 V 2000 a1 a2 (0 : Int32) (0 : Int32))
set_option maxHeartbeats 4000000 in
set_option maxRecDepth 20000 in
theorem tX0_pricesIn {l : Launch} {Z : jZ} {q : Nat → Nat} {a1 : Int32} {a2 : Int32} {V : jMem} {r : Int32}  (hm : mX0_pricesIn a1 a2 V = some r) : CtD l Z yX0_pricesIn cX0_pricesIn 5 (some .int) 5 q dX [.ref (q 1), .int a1, .int a2] V (some (.int r)) V := by
  refine Ct_of (L := [(0, .ref (q 1)), (1, .int a1), (2, .int a2)]) (own := RX0) (nm := "pricesIn") rfl rfl (by decide +kernel) rfl (Nat.le_of_ble_eq_true rfl) ?_
  unfold mX0_pricesIn at hm
  refine j_iconst (v := 0) dX0_pricesIn_0 rfl (by decide) ?_
  refine j_istore_n (i := 3) (L' := [(3, _), (0, _), (1, _), (2, _)]) dX0_pricesIn_1 rfl rfl (by decide) rfl ?_
  refine j_iconst (v := 0) dX0_pricesIn_2 rfl (by decide) ?_
  refine j_istore (L' := [(4, _), (3, _), (0, _), (1, _), (2, _)]) dX0_pricesIn_3 rfl (by decide) rfl ?_
  refine j_sub (L' := [(0, _), (1, _), (2, _), (3, _), (4, _)]) [2, 3, 4, 1, 0] rfl ?_
  exact tX0_pricesIn_b5   _ _ _ _ _  hm
theorem dX0_allWary_0 : decode cX0_allWary 0 = .ok (.iconst 0, 1) := by decide +kernel
theorem dX0_allWary_1 : decode cX0_allWary 1 = .ok (.istore_n 1, 1) := by decide +kernel
theorem dX0_allWary_2 : decode cX0_allWary 2 = .ok (.iconst 0, 1) := by decide +kernel
theorem dX0_allWary_3 : decode cX0_allWary 3 = .ok (.istore_n 2, 1) := by decide +kernel
theorem dX0_allWary_4 : decode cX0_allWary 4 = .ok (.iload_n 2, 1) := by decide +kernel
theorem dX0_allWary_5 : decode cX0_allWary 5 = .ok (.aload_n 0, 1) := by decide +kernel
theorem dX0_allWary_6 : decode cX0_allWary 6 = .ok (.getfield 43, 3) := by decide +kernel
theorem dX0_allWary_9 : decode cX0_allWary 9 = .ok (.if_icmp .ge 18, 3) := by decide +kernel
theorem dX0_allWary_12 : decode cX0_allWary 12 = .ok (.iload_n 1, 1) := by decide +kernel
theorem dX0_allWary_13 : decode cX0_allWary 13 = .ok (.aload_n 0, 1) := by decide +kernel
theorem dX0_allWary_14 : decode cX0_allWary 14 = .ok (.getfield 18, 3) := by decide +kernel
theorem dX0_allWary_17 : decode cX0_allWary 17 = .ok (.iload_n 2, 1) := by decide +kernel
theorem dX0_allWary_18 : decode cX0_allWary 18 = .ok (.iaload, 1) := by decide +kernel
theorem dX0_allWary_19 : decode cX0_allWary 19 = .ok (.iadd, 1) := by decide +kernel
theorem dX0_allWary_20 : decode cX0_allWary 20 = .ok (.istore_n 1, 1) := by decide +kernel
theorem dX0_allWary_21 : decode cX0_allWary 21 = .ok (.iinc 2 1, 3) := by decide +kernel
theorem dX0_allWary_24 : decode cX0_allWary 24 = .ok (.goto (-20), 3) := by decide +kernel
theorem dX0_allWary_27 : decode cX0_allWary 27 = .ok (.iload_n 1, 1) := by decide +kernel
theorem dX0_allWary_28 : decode cX0_allWary 28 = .ok (.ireturn, 1) := by decide +kernel
def mX0_allWary_b4 (V : jMem)  : Nat → Int32 → Int32 → Option Int32
  | 0, _, _ => none
  | n + 1, a1, a2 => (if (V.1 1 0) ≤ a2 then (some a1) else (jg (jin a2 14) (mX0_allWary_b4 V n (a1 + (V.1 4 (Int32.toNatClampNeg a2))) (a2 + (1 : Int32)))))
set_option maxHeartbeats 4000000 in
set_option maxRecDepth 20000 in
theorem tX0_allWary_b4 {l : Launch} {Z : jZ} {q : Nat → Nat} {V : jMem} {r : Int32}   (n : Nat) : ∀ (a1 : Int32) (a2 : Int32), mX0_allWary_b4 V n a1 a2 = some r → J l Z RX0 "allWary" cX0_allWary 3 (some .int) 0 0 0 (fun r' w => r' = some (.int r) ∧ w = jw Z q V dX) 4 [(0, .ref (q 1)), (1, .int a1), (2, .int a2)] [] (jw Z q V dX) 0 0 := by
  induction n with
  | zero => intro a1 a2 hm; cases hm
  | succ n ih =>
    intro a1 a2 hm
    rw [mX0_allWary_b4] at hm
    refine j_iload_n dX0_allWary_4 rfl rfl ?_
    refine j_aload_n dX0_allWary_5 rfl rfl ?_
    refine m_geti (k := 0) fX0_43 dX0_allWary_6 rfl rfl rfl ?_
    refine j_icmp_ge (tgt := 27) dX0_allWary_9 rfl (by decide) (fun c1 => ?_) (fun c1 => ?_)
    · have hm := jif_pos c1 hm
      refine j_iload_n dX0_allWary_27 rfl rfl ?_
      exact j_ireturn dX0_allWary_28 rfl rfl ⟨Nat.le_refl _, Nat.le_refl _⟩ (jf_p (fun z => .int z) hm)
    · have hm := jif_neg c1 hm
      refine j_iload_n dX0_allWary_12 rfl rfl ?_
      refine j_aload_n dX0_allWary_13 rfl rfl ?_
      refine m_getr (k := 3) (r := 4) fX0_18 dX0_allWary_14 rfl rfl rfl ?_
      refine j_iload_n dX0_allWary_17 rfl rfl ?_
      obtain ⟨g2, hm⟩ := jg_of hm
      refine o_iald (k := (Int32.toNatClampNeg a2)) rfl dX0_allWary_18 rfl rfl (jin_vp g2) ?_
      refine j_iadd dX0_allWary_19 rfl ?_
      refine j_istore_n (i := 1) (L' := [(1, _), (0, _), (2, _)]) dX0_allWary_20 rfl rfl (by decide) rfl ?_
      refine j_iinc (v := (a2 + (1 : Int32))) (L' := [(2, _), (1, _), (0, _)]) dX0_allWary_21 rfl rfl rfl (by decide) rfl ?_
      refine j_goto (tgt := 4) dX0_allWary_24 (by decide) ?_
      refine j_sub (L' := [(0, _), (1, _), (2, _)]) [2, 1, 0] rfl ?_
      exact ih _ _  hm
def mX0_allWary (V : jMem) : Option Int32 := (mX0_allWary_b4 V 2000 (0 : Int32) (0 : Int32))
set_option maxHeartbeats 4000000 in
set_option maxRecDepth 20000 in
theorem tX0_allWary {l : Launch} {Z : jZ} {q : Nat → Nat} {V : jMem} {r : Int32}  (hm : mX0_allWary V = some r) : CtD l Z yX0_allWary cX0_allWary 3 (some .int) 0 q dX [.ref (q 1)] V (some (.int r)) V := by
  refine Ct_of (L := [(0, .ref (q 1))]) (own := RX0) (nm := "allWary") rfl rfl (by decide +kernel) rfl (Nat.le_of_ble_eq_true rfl) ?_
  unfold mX0_allWary at hm
  refine j_iconst (v := 0) dX0_allWary_0 rfl (by decide) ?_
  refine j_istore_n (i := 1) (L' := [(1, _), (0, _)]) dX0_allWary_1 rfl rfl (by decide) rfl ?_
  refine j_iconst (v := 0) dX0_allWary_2 rfl (by decide) ?_
  refine j_istore_n (i := 2) (L' := [(2, _), (1, _), (0, _)]) dX0_allWary_3 rfl rfl (by decide) rfl ?_
  refine j_sub (L' := [(0, _), (1, _), (2, _)]) [2, 1, 0] rfl ?_
  exact tX0_allWary_b4   _ _ _  hm
theorem dX0_dropPaper_0 : decode cX0_dropPaper 0 = .ok (.aload_n 0, 1) := by decide +kernel
theorem dX0_dropPaper_1 : decode cX0_dropPaper 1 = .ok (.dup, 1) := by decide +kernel
theorem dX0_dropPaper_2 : decode cX0_dropPaper 2 = .ok (.getfield 58, 3) := by decide +kernel
theorem dX0_dropPaper_5 : decode cX0_dropPaper 5 = .ok (.iconst 1, 1) := by decide +kernel
theorem dX0_dropPaper_6 : decode cX0_dropPaper 6 = .ok (.iload_n 1, 1) := by decide +kernel
theorem dX0_dropPaper_7 : decode cX0_dropPaper 7 = .ok (.ishl, 1) := by decide +kernel
theorem dX0_dropPaper_8 : decode cX0_dropPaper 8 = .ok (.iconst (-1), 1) := by decide +kernel
theorem dX0_dropPaper_9 : decode cX0_dropPaper 9 = .ok (.ixor, 1) := by decide +kernel
theorem dX0_dropPaper_10 : decode cX0_dropPaper 10 = .ok (.iand, 1) := by decide +kernel
theorem dX0_dropPaper_11 : decode cX0_dropPaper 11 = .ok (.putfield 58, 3) := by decide +kernel
theorem dX0_dropPaper_14 : decode cX0_dropPaper 14 = .ok (.return_, 1) := by decide +kernel
def mX0_dropPaper (a1 : Int32) (V : jMem) : Option jMem := (jl (jsI V 1 7 ((V.1 1 7) &&& (((1 : Int32) <<< (a1 &&& (31 : Int32))) ^^^ (-1 : Int32)))) (fun (V1 : jMem) => (some V1)))
set_option maxHeartbeats 4000000 in
set_option maxRecDepth 20000 in
theorem tX0_dropPaper {l : Launch} {Z : jZ} {q : Nat → Nat} {a1 : Int32} {V : jMem} {V' : jMem}  (hm : mX0_dropPaper a1 V = some V') : CtD l Z yX0_dropPaper cX0_dropPaper 2 none 0 q dX [.ref (q 1), .int a1] V none V' := by
  refine Ct_of (L := [(0, .ref (q 1)), (1, .int a1)]) (own := RX0) (nm := "dropPaper") rfl rfl (by decide +kernel) rfl (Nat.le_of_ble_eq_true rfl) ?_
  unfold mX0_dropPaper at hm
  refine j_aload_n dX0_dropPaper_0 rfl rfl ?_
  refine j_dup dX0_dropPaper_1 rfl rfl ?_
  refine m_geti (k := 7) fX0_58 dX0_dropPaper_2 rfl rfl rfl ?_
  refine j_iconst (v := 1) dX0_dropPaper_5 rfl (by decide) ?_
  refine j_iload_n dX0_dropPaper_6 rfl rfl ?_
  refine j_ishl dX0_dropPaper_7 rfl ?_
  refine j_iconst (v := -1) dX0_dropPaper_8 rfl (by decide) ?_
  refine j_ixor dX0_dropPaper_9 rfl ?_
  refine j_iand dX0_dropPaper_10 rfl ?_
  refine m_puti (k := 7) fX0_58 dX0_dropPaper_11 rfl rfl rfl ?_
  obtain ⟨V1, eV1⟩ : ∃ y, y = (jsI V 1 7 ((V.1 1 7) &&& (((1 : Int32) <<< (a1 &&& (31 : Int32))) ^^^ (-1 : Int32)))) := ⟨_, rfl⟩
  have hm := jl_of hm eV1
  rw [← eV1]
  exact j_return dX0_dropPaper_14 rfl ⟨Nat.le_refl _, Nat.le_refl _⟩ (jf_v hm)
theorem dX0_buy_0 : decode cX0_buy 0 = .ok (.aload_n 0, 1) := by decide +kernel
theorem dX0_buy_1 : decode cX0_buy 1 = .ok (.dup, 1) := by decide +kernel
theorem dX0_buy_2 : decode cX0_buy 2 = .ok (.getfield 52, 3) := by decide +kernel
theorem dX0_buy_5 : decode cX0_buy 5 = .ok (.iconst 1, 1) := by decide +kernel
theorem dX0_buy_6 : decode cX0_buy 6 = .ok (.iload_n 1, 1) := by decide +kernel
theorem dX0_buy_7 : decode cX0_buy 7 = .ok (.ishl, 1) := by decide +kernel
theorem dX0_buy_8 : decode cX0_buy 8 = .ok (.ior, 1) := by decide +kernel
theorem dX0_buy_9 : decode cX0_buy 9 = .ok (.putfield 52, 3) := by decide +kernel
theorem dX0_buy_12 : decode cX0_buy 12 = .ok (.aload_n 0, 1) := by decide +kernel
theorem dX0_buy_13 : decode cX0_buy 13 = .ok (.iload_n 1, 1) := by decide +kernel
theorem dX0_buy_14 : decode cX0_buy 14 = .ok (.invokevirtual 109, 3) := by decide +kernel
theorem dX0_buy_17 : decode cX0_buy 17 = .ok (.aload_n 0, 1) := by decide +kernel
theorem dX0_buy_18 : decode cX0_buy 18 = .ok (.dup, 1) := by decide +kernel
theorem dX0_buy_19 : decode cX0_buy 19 = .ok (.getfield 64, 3) := by decide +kernel
theorem dX0_buy_22 : decode cX0_buy 22 = .ok (.iload_n 2, 1) := by decide +kernel
theorem dX0_buy_23 : decode cX0_buy 23 = .ok (.i2l, 1) := by decide +kernel
theorem dX0_buy_24 : decode cX0_buy 24 = .ok (.ladd, 1) := by decide +kernel
theorem dX0_buy_25 : decode cX0_buy 25 = .ok (.putfield 64, 3) := by decide +kernel
theorem dX0_buy_28 : decode cX0_buy 28 = .ok (.return_, 1) := by decide +kernel
def mX0_buy (a1 : Int32) (a2 : Int32) (V : jMem) : Option jMem := (jl (jsI V 1 5 ((V.1 1 5) ||| ((1 : Int32) <<< (a1 &&& (31 : Int32))))) (fun (V1 : jMem) => ((mX0_dropPaper a1 V1).bind (fun (p2 : jMem) => (jl (jsL p2 1 11 ((p2.2 1 11) + (Int32.toInt64 a2))) (fun (V3 : jMem) => (some V3)))))))
set_option maxHeartbeats 4000000 in
set_option maxRecDepth 20000 in
theorem tX0_buy {l : Launch} {Z : jZ} {q : Nat → Nat} {a1 : Int32} {a2 : Int32} {V : jMem} {V' : jMem}  (hm : mX0_buy a1 a2 V = some V') : CtD l Z yX0_buy cX0_buy 3 none 1 q dX [.ref (q 1), .int a1, .int a2] V none V' := by
  refine Ct_of (L := [(0, .ref (q 1)), (1, .int a1), (2, .int a2)]) (own := RX0) (nm := "buy") rfl rfl (by decide +kernel) rfl (Nat.le_of_ble_eq_true rfl) ?_
  unfold mX0_buy at hm
  refine j_aload_n dX0_buy_0 rfl rfl ?_
  refine j_dup dX0_buy_1 rfl rfl ?_
  refine m_geti (k := 5) fX0_52 dX0_buy_2 rfl rfl rfl ?_
  refine j_iconst (v := 1) dX0_buy_5 rfl (by decide) ?_
  refine j_iload_n dX0_buy_6 rfl rfl ?_
  refine j_ishl dX0_buy_7 rfl ?_
  refine j_ior dX0_buy_8 rfl ?_
  refine m_puti (k := 5) fX0_52 dX0_buy_9 rfl rfl rfl ?_
  obtain ⟨V1, eV1⟩ : ∃ y, y = (jsI V 1 5 ((V.1 1 5) ||| ((1 : Int32) <<< (a1 &&& (31 : Int32))))) := ⟨_, rfl⟩
  have hm := jl_of hm eV1
  rw [← eV1]
  refine j_aload_n dX0_buy_12 rfl rfl ?_
  refine j_iload_n dX0_buy_13 rfl rfl ?_
  obtain ⟨p2, ep2, hm⟩ := jb_of hm
  refine o_callV_v kX0_109 dX0_buy_14 rfl (tX0_dropPaper  ep2) rfl rfl rfl rfl rfl (Nat.le_of_ble_eq_true rfl) (by decide) ?_
  refine j_aload_n dX0_buy_17 rfl rfl ?_
  refine j_dup dX0_buy_18 rfl rfl ?_
  refine m_getl (k := 11) fX0_64 dX0_buy_19 rfl rfl rfl ?_
  refine j_iload_n dX0_buy_22 rfl rfl ?_
  refine j_i2l dX0_buy_23 rfl ?_
  refine j_ladd dX0_buy_24 rfl ?_
  refine m_putl (k := 11) fX0_64 dX0_buy_25 rfl rfl rfl ?_
  obtain ⟨V3, eV3⟩ : ∃ y, y = (jsL p2 1 11 ((p2.2 1 11) + (Int32.toInt64 a2))) := ⟨_, rfl⟩
  have hm := jl_of hm eV3
  rw [← eV3]
  exact j_return dX0_buy_28 rfl ⟨Nat.le_refl _, Nat.le_refl _⟩ (jf_v hm)
theorem dX0_bid_0 : decode cX0_bid 0 = .ok (.iload_n 2, 1) := by decide +kernel
theorem dX0_bid_1 : decode cX0_bid 1 = .ok (.aload_n 0, 1) := by decide +kernel
theorem dX0_bid_2 : decode cX0_bid 2 = .ok (.iload_n 1, 1) := by decide +kernel
theorem dX0_bid_3 : decode cX0_bid 3 = .ok (.invokevirtual 113, 3) := by decide +kernel
theorem dX0_bid_6 : decode cX0_bid 6 = .ok (.if_icmp .lt 11, 3) := by decide +kernel
theorem dX0_bid_9 : decode cX0_bid 9 = .ok (.aload_n 0, 1) := by decide +kernel
theorem dX0_bid_10 : decode cX0_bid 10 = .ok (.iload_n 1, 1) := by decide +kernel
theorem dX0_bid_11 : decode cX0_bid 11 = .ok (.iload_n 2, 1) := by decide +kernel
theorem dX0_bid_12 : decode cX0_bid 12 = .ok (.invokevirtual 116, 3) := by decide +kernel
theorem dX0_bid_15 : decode cX0_bid 15 = .ok (.iconst 1, 1) := by decide +kernel
theorem dX0_bid_16 : decode cX0_bid 16 = .ok (.ireturn, 1) := by decide +kernel
theorem dX0_bid_17 : decode cX0_bid 17 = .ok (.aload_n 0, 1) := by decide +kernel
theorem dX0_bid_18 : decode cX0_bid 18 = .ok (.getfield 18, 3) := by decide +kernel
theorem dX0_bid_21 : decode cX0_bid 21 = .ok (.iload_n 1, 1) := by decide +kernel
theorem dX0_bid_22 : decode cX0_bid 22 = .ok (.aload_n 0, 1) := by decide +kernel
theorem dX0_bid_23 : decode cX0_bid 23 = .ok (.getfield 18, 3) := by decide +kernel
theorem dX0_bid_26 : decode cX0_bid 26 = .ok (.iload_n 1, 1) := by decide +kernel
theorem dX0_bid_27 : decode cX0_bid 27 = .ok (.iaload, 1) := by decide +kernel
theorem dX0_bid_28 : decode cX0_bid 28 = .ok (.iconst 1, 1) := by decide +kernel
theorem dX0_bid_29 : decode cX0_bid 29 = .ok (.invokestatic 120, 3) := by decide +kernel
theorem dX0_bid_32 : decode cX0_bid 32 = .ok (.iastore, 1) := by decide +kernel
theorem dX0_bid_33 : decode cX0_bid 33 = .ok (.iconst 0, 1) := by decide +kernel
theorem dX0_bid_34 : decode cX0_bid 34 = .ok (.ireturn, 1) := by decide +kernel
def mX0_bid (a1 : Int32) (a2 : Int32) (V : jMem) : Option (Int32 × jMem) := ((mX0_priceNow a1 V).bind (fun (r1 : Int32) => (if a2 < r1 then (jg (jin a1 14) (jl (jsI V 4 (Int32.toNatClampNeg a1) (mX4_wareOf (V.1 4 (Int32.toNatClampNeg a1)) (1 : Int32))) (fun (V4 : jMem) => (some ((0 : Int32), V4))))) else ((mX0_buy a1 a2 V).bind (fun (p5 : jMem) => (some ((1 : Int32), p5)))))))
set_option maxHeartbeats 4000000 in
set_option maxRecDepth 20000 in
theorem tX0_bid {l : Launch} {Z : jZ} {q : Nat → Nat} {a1 : Int32} {a2 : Int32} {V : jMem} {r : Int32} {V' : jMem}  (hm : mX0_bid a1 a2 V = some (r, V')) : CtD l Z yX0_bid cX0_bid 3 (some .boolean) 6 q dX [.ref (q 1), .int a1, .int a2] V (some (.int r)) V' := by
  refine Ct_of (L := [(0, .ref (q 1)), (1, .int a1), (2, .int a2)]) (own := RX0) (nm := "bid") rfl rfl (by decide +kernel) rfl (Nat.le_of_ble_eq_true rfl) ?_
  unfold mX0_bid at hm
  refine j_iload_n dX0_bid_0 rfl rfl ?_
  refine j_aload_n dX0_bid_1 rfl rfl ?_
  refine j_iload_n dX0_bid_2 rfl rfl ?_
  obtain ⟨r1, er1, hm⟩ := jb_of hm
  refine o_callV_i kX0_113 dX0_bid_3 rfl (tX0_priceNow  er1) rfl rfl rfl rfl rfl (Nat.le_of_ble_eq_true rfl) (by decide) ?_
  refine j_icmp_lt (tgt := 17) dX0_bid_6 rfl (by decide) (fun c2 => ?_) (fun c2 => ?_)
  · have hm := jif_pos c2 hm
    refine j_aload_n dX0_bid_17 rfl rfl ?_
    refine m_getr (k := 3) (r := 4) fX0_18 dX0_bid_18 rfl rfl rfl ?_
    refine j_iload_n dX0_bid_21 rfl rfl ?_
    refine j_aload_n dX0_bid_22 rfl rfl ?_
    refine m_getr (k := 3) (r := 4) fX0_18 dX0_bid_23 rfl rfl rfl ?_
    refine j_iload_n dX0_bid_26 rfl rfl ?_
    obtain ⟨g3, hm⟩ := jg_of hm
    refine o_iald (k := (Int32.toNatClampNeg a1)) rfl dX0_bid_27 rfl rfl (jin_vp g3) ?_
    refine j_iconst (v := 1) dX0_bid_28 rfl (by decide) ?_
    refine o_callS_i kX0_120 dX0_bid_29 rfl (tX4_wareOf  rfl) rfl rfl (Nat.le_of_ble_eq_true rfl) (by decide) ?_
    refine o_iast (k := (Int32.toNatClampNeg a1)) rfl dX0_bid_32 rfl rfl (jin_vp g3) ?_
    obtain ⟨V4, eV4⟩ : ∃ y, y = (jsI V 4 (Int32.toNatClampNeg a1) (mX4_wareOf (V.1 4 (Int32.toNatClampNeg a1)) (1 : Int32))) := ⟨_, rfl⟩
    have hm := jl_of hm eV4
    rw [← eV4]
    refine j_iconst (v := 0) dX0_bid_33 rfl (by decide) ?_
    exact j_zreturn dX0_bid_34 rfl (by decide) ⟨Nat.le_refl _, Nat.le_refl _⟩ (jf_m (fun z => .int z) hm)
  · have hm := jif_neg c2 hm
    refine j_aload_n dX0_bid_9 rfl rfl ?_
    refine j_iload_n dX0_bid_10 rfl rfl ?_
    refine j_iload_n dX0_bid_11 rfl rfl ?_
    obtain ⟨p5, ep5, hm⟩ := jb_of hm
    refine o_callV_v kX0_116 dX0_bid_12 rfl (tX0_buy  ep5) rfl rfl rfl rfl rfl (Nat.le_of_ble_eq_true rfl) (by decide) ?_
    refine j_iconst (v := 1) dX0_bid_15 rfl (by decide) ?_
    exact j_zreturn dX0_bid_16 rfl (by decide) ⟨Nat.le_refl _, Nat.le_refl _⟩ (jf_m (fun z => .int z) hm)
theorem dX4_paperCost_0 : decode cX4_paperCost 0 = .ok (.iconst 1, 1) := by decide +kernel
theorem dX4_paperCost_1 : decode cX4_paperCost 1 = .ok (.iload_n 0, 1) := by decide +kernel
theorem dX4_paperCost_2 : decode cX4_paperCost 2 = .ok (.bipush 10, 2) := by decide +kernel
theorem dX4_paperCost_4 : decode cX4_paperCost 4 = .ok (.idiv, 1) := by decide +kernel
theorem dX4_paperCost_5 : decode cX4_paperCost 5 = .ok (.invokestatic 304, 3) := by decide +kernel
theorem dX4_paperCost_8 : decode cX4_paperCost 8 = .ok (.ireturn, 1) := by decide +kernel
def mX4_paperCost (a0 : Int32) : Int32 := (if (1 : Int32) < (a0 / (10 : Int32)) then (a0 / (10 : Int32)) else (1 : Int32))
set_option maxHeartbeats 4000000 in
set_option maxRecDepth 20000 in
theorem tX4_paperCost {l : Launch} {Z : jZ} {q : Nat → Nat} {V : jMem} {a0 : Int32} {r : Int32}  (hm : mX4_paperCost a0 = r) : CtD l Z yX4_paperCost cX4_paperCost 1 (some .int) 1 q dX [.int a0] V (some (.int r)) V := by
  refine Ct_of (L := [(0, .int a0)]) (own := RX4) (nm := "paperCost") rfl rfl (by decide +kernel) rfl (Nat.le_of_ble_eq_true rfl) ?_
  unfold mX4_paperCost at hm
  refine j_iconst (v := 1) dX4_paperCost_0 rfl (by decide) ?_
  refine j_iload_n dX4_paperCost_1 rfl rfl ?_
  refine j_bipush (v := 10) dX4_paperCost_2 rfl (by decide) ?_
  refine j_idiv dX4_paperCost_4 rfl (by decide) ?_
  refine j_max kX4_304 mm_max.1 mm_max.2.1 mm_max.2.2 dX4_paperCost_5 rfl (by decide) (Nat.le_of_ble_eq_true rfl) ⟨Nat.le_refl _, Nat.le_refl _⟩ ?_
  exact j_ireturn dX4_paperCost_8 rfl rfl ⟨Nat.le_refl _, Nat.le_refl _⟩ (jf_t (fun z => .int z) hm)
theorem dX0_takePaper_0 : decode cX0_takePaper 0 = .ok (.aload_n 0, 1) := by decide +kernel
theorem dX0_takePaper_1 : decode cX0_takePaper 1 = .ok (.iload_n 1, 1) := by decide +kernel
theorem dX0_takePaper_2 : decode cX0_takePaper 2 = .ok (.invokevirtual 113, 3) := by decide +kernel
theorem dX0_takePaper_5 : decode cX0_takePaper 5 = .ok (.istore_n 3, 1) := by decide +kernel
theorem dX0_takePaper_6 : decode cX0_takePaper 6 = .ok (.iload_n 3, 1) := by decide +kernel
theorem dX0_takePaper_7 : decode cX0_takePaper 7 = .ok (.invokestatic 123, 3) := by decide +kernel
theorem dX0_takePaper_10 : decode cX0_takePaper 10 = .ok (.istore 4, 2) := by decide +kernel
theorem dX0_takePaper_12 : decode cX0_takePaper 12 = .ok (.aload_n 0, 1) := by decide +kernel
theorem dX0_takePaper_13 : decode cX0_takePaper 13 = .ok (.dup, 1) := by decide +kernel
theorem dX0_takePaper_14 : decode cX0_takePaper 14 = .ok (.getfield 58, 3) := by decide +kernel
theorem dX0_takePaper_17 : decode cX0_takePaper 17 = .ok (.iconst 1, 1) := by decide +kernel
theorem dX0_takePaper_18 : decode cX0_takePaper 18 = .ok (.iload_n 1, 1) := by decide +kernel
theorem dX0_takePaper_19 : decode cX0_takePaper 19 = .ok (.ishl, 1) := by decide +kernel
theorem dX0_takePaper_20 : decode cX0_takePaper 20 = .ok (.ior, 1) := by decide +kernel
theorem dX0_takePaper_21 : decode cX0_takePaper 21 = .ok (.putfield 58, 3) := by decide +kernel
theorem dX0_takePaper_24 : decode cX0_takePaper 24 = .ok (.aload_n 0, 1) := by decide +kernel
theorem dX0_takePaper_25 : decode cX0_takePaper 25 = .ok (.getfield 24, 3) := by decide +kernel
theorem dX0_takePaper_28 : decode cX0_takePaper 28 = .ok (.iload_n 1, 1) := by decide +kernel
theorem dX0_takePaper_29 : decode cX0_takePaper 29 = .ok (.iload_n 3, 1) := by decide +kernel
theorem dX0_takePaper_30 : decode cX0_takePaper 30 = .ok (.iastore, 1) := by decide +kernel
theorem dX0_takePaper_31 : decode cX0_takePaper 31 = .ok (.aload_n 0, 1) := by decide +kernel
theorem dX0_takePaper_32 : decode cX0_takePaper 32 = .ok (.getfield 27, 3) := by decide +kernel
theorem dX0_takePaper_35 : decode cX0_takePaper 35 = .ok (.iload_n 1, 1) := by decide +kernel
theorem dX0_takePaper_36 : decode cX0_takePaper 36 = .ok (.iload_n 2, 1) := by decide +kernel
theorem dX0_takePaper_37 : decode cX0_takePaper 37 = .ok (.iastore, 1) := by decide +kernel
theorem dX0_takePaper_38 : decode cX0_takePaper 38 = .ok (.aload_n 0, 1) := by decide +kernel
theorem dX0_takePaper_39 : decode cX0_takePaper 39 = .ok (.dup, 1) := by decide +kernel
theorem dX0_takePaper_40 : decode cX0_takePaper 40 = .ok (.getfield 64, 3) := by decide +kernel
theorem dX0_takePaper_43 : decode cX0_takePaper 43 = .ok (.iload 4, 2) := by decide +kernel
theorem dX0_takePaper_45 : decode cX0_takePaper 45 = .ok (.i2l, 1) := by decide +kernel
theorem dX0_takePaper_46 : decode cX0_takePaper 46 = .ok (.ladd, 1) := by decide +kernel
theorem dX0_takePaper_47 : decode cX0_takePaper 47 = .ok (.putfield 64, 3) := by decide +kernel
theorem dX0_takePaper_50 : decode cX0_takePaper 50 = .ok (.iload 4, 2) := by decide +kernel
theorem dX0_takePaper_52 : decode cX0_takePaper 52 = .ok (.ireturn, 1) := by decide +kernel
def mX0_takePaper (a1 : Int32) (a2 : Int32) (V : jMem) : Option (Int32 × jMem) := ((mX0_priceNow a1 V).bind (fun (r1 : Int32) => (jl (jsI V 1 7 ((V.1 1 7) ||| ((1 : Int32) <<< (a1 &&& (31 : Int32))))) (fun (V2 : jMem) => (jg (jin a1 14) (jl (jsI V2 6 (Int32.toNatClampNeg a1) r1) (fun (V4 : jMem) => (jl (jsI V4 7 (Int32.toNatClampNeg a1) a2) (fun (V5 : jMem) => (jl (jsL V5 1 11 ((V5.2 1 11) + (Int32.toInt64 (mX4_paperCost r1)))) (fun (V6 : jMem) => (some ((mX4_paperCost r1), V6)))))))))))))
set_option maxHeartbeats 4000000 in
set_option maxRecDepth 20000 in
theorem tX0_takePaper {l : Launch} {Z : jZ} {q : Nat → Nat} {a1 : Int32} {a2 : Int32} {V : jMem} {r : Int32} {V' : jMem}  (hm : mX0_takePaper a1 a2 V = some (r, V')) : CtD l Z yX0_takePaper cX0_takePaper 5 (some .int) 6 q dX [.ref (q 1), .int a1, .int a2] V (some (.int r)) V' := by
  refine Ct_of (L := [(0, .ref (q 1)), (1, .int a1), (2, .int a2)]) (own := RX0) (nm := "takePaper") rfl rfl (by decide +kernel) rfl (Nat.le_of_ble_eq_true rfl) ?_
  unfold mX0_takePaper at hm
  refine j_aload_n dX0_takePaper_0 rfl rfl ?_
  refine j_iload_n dX0_takePaper_1 rfl rfl ?_
  obtain ⟨r1, er1, hm⟩ := jb_of hm
  refine o_callV_i kX0_113 dX0_takePaper_2 rfl (tX0_priceNow  er1) rfl rfl rfl rfl rfl (Nat.le_of_ble_eq_true rfl) (by decide) ?_
  refine j_istore_n (i := 3) (L' := [(3, _), (0, _), (1, _), (2, _)]) dX0_takePaper_5 rfl rfl (by decide) rfl ?_
  refine j_iload_n dX0_takePaper_6 rfl rfl ?_
  refine o_callS_i kX0_123 dX0_takePaper_7 rfl (tX4_paperCost  rfl) rfl rfl (Nat.le_of_ble_eq_true rfl) (by decide) ?_
  refine j_istore (L' := [(4, _), (3, _), (0, _), (1, _), (2, _)]) dX0_takePaper_10 rfl (by decide) rfl ?_
  refine j_aload_n dX0_takePaper_12 rfl rfl ?_
  refine j_dup dX0_takePaper_13 rfl rfl ?_
  refine m_geti (k := 7) fX0_58 dX0_takePaper_14 rfl rfl rfl ?_
  refine j_iconst (v := 1) dX0_takePaper_17 rfl (by decide) ?_
  refine j_iload_n dX0_takePaper_18 rfl rfl ?_
  refine j_ishl dX0_takePaper_19 rfl ?_
  refine j_ior dX0_takePaper_20 rfl ?_
  refine m_puti (k := 7) fX0_58 dX0_takePaper_21 rfl rfl rfl ?_
  obtain ⟨V2, eV2⟩ : ∃ y, y = (jsI V 1 7 ((V.1 1 7) ||| ((1 : Int32) <<< (a1 &&& (31 : Int32))))) := ⟨_, rfl⟩
  have hm := jl_of hm eV2
  rw [← eV2]
  refine j_aload_n dX0_takePaper_24 rfl rfl ?_
  refine m_getr (k := 8) (r := 6) fX0_24 dX0_takePaper_25 rfl rfl rfl ?_
  refine j_iload_n dX0_takePaper_28 rfl rfl ?_
  refine j_iload_n dX0_takePaper_29 rfl rfl ?_
  obtain ⟨g3, hm⟩ := jg_of hm
  refine o_iast (k := (Int32.toNatClampNeg a1)) rfl dX0_takePaper_30 rfl rfl (jin_vp g3) ?_
  obtain ⟨V4, eV4⟩ : ∃ y, y = (jsI V2 6 (Int32.toNatClampNeg a1) r1) := ⟨_, rfl⟩
  have hm := jl_of hm eV4
  rw [← eV4]
  refine j_aload_n dX0_takePaper_31 rfl rfl ?_
  refine m_getr (k := 9) (r := 7) fX0_27 dX0_takePaper_32 rfl rfl rfl ?_
  refine j_iload_n dX0_takePaper_35 rfl rfl ?_
  refine j_iload_n dX0_takePaper_36 rfl rfl ?_
  refine o_iast (k := (Int32.toNatClampNeg a1)) rfl dX0_takePaper_37 rfl rfl (jin_vp g3) ?_
  obtain ⟨V5, eV5⟩ : ∃ y, y = (jsI V4 7 (Int32.toNatClampNeg a1) a2) := ⟨_, rfl⟩
  have hm := jl_of hm eV5
  rw [← eV5]
  refine j_aload_n dX0_takePaper_38 rfl rfl ?_
  refine j_dup dX0_takePaper_39 rfl rfl ?_
  refine m_getl (k := 11) fX0_64 dX0_takePaper_40 rfl rfl rfl ?_
  refine j_iload dX0_takePaper_43 rfl rfl ?_
  refine j_i2l dX0_takePaper_45 rfl ?_
  refine j_ladd dX0_takePaper_46 rfl ?_
  refine m_putl (k := 11) fX0_64 dX0_takePaper_47 rfl rfl rfl ?_
  obtain ⟨V6, eV6⟩ : ∃ y, y = (jsL V5 1 11 ((V5.2 1 11) + (Int32.toInt64 (mX4_paperCost r1)))) := ⟨_, rfl⟩
  have hm := jl_of hm eV6
  rw [← eV6]
  refine j_iload dX0_takePaper_50 rfl rfl ?_
  exact j_ireturn dX0_takePaper_52 rfl rfl ⟨Nat.le_refl _, Nat.le_refl _⟩ (jf_m (fun z => .int z) hm)
theorem dX0_dropPastPapers_0 : decode cX0_dropPastPapers 0 = .ok (.iconst 0, 1) := by decide +kernel
theorem dX0_dropPastPapers_1 : decode cX0_dropPastPapers 1 = .ok (.istore_n 1, 1) := by decide +kernel
theorem dX0_dropPastPapers_2 : decode cX0_dropPastPapers 2 = .ok (.iload_n 1, 1) := by decide +kernel
theorem dX0_dropPastPapers_3 : decode cX0_dropPastPapers 3 = .ok (.aload_n 0, 1) := by decide +kernel
theorem dX0_dropPastPapers_4 : decode cX0_dropPastPapers 4 = .ok (.getfield 43, 3) := by decide +kernel
theorem dX0_dropPastPapers_7 : decode cX0_dropPastPapers 7 = .ok (.if_icmp .ge 27, 3) := by decide +kernel
theorem dX0_dropPastPapers_10 : decode cX0_dropPastPapers 10 = .ok (.aload_n 0, 1) := by decide +kernel
theorem dX0_dropPastPapers_11 : decode cX0_dropPastPapers 11 = .ok (.getfield 27, 3) := by decide +kernel
theorem dX0_dropPastPapers_14 : decode cX0_dropPastPapers 14 = .ok (.iload_n 1, 1) := by decide +kernel
theorem dX0_dropPastPapers_15 : decode cX0_dropPastPapers 15 = .ok (.iaload, 1) := by decide +kernel
theorem dX0_dropPastPapers_16 : decode cX0_dropPastPapers 16 = .ok (.aload_n 0, 1) := by decide +kernel
theorem dX0_dropPastPapers_17 : decode cX0_dropPastPapers 17 = .ok (.getfield 61, 3) := by decide +kernel
theorem dX0_dropPastPapers_20 : decode cX0_dropPastPapers 20 = .ok (.if_icmp .ge 8, 3) := by decide +kernel
theorem dX0_dropPastPapers_23 : decode cX0_dropPastPapers 23 = .ok (.aload_n 0, 1) := by decide +kernel
theorem dX0_dropPastPapers_24 : decode cX0_dropPastPapers 24 = .ok (.iload_n 1, 1) := by decide +kernel
theorem dX0_dropPastPapers_25 : decode cX0_dropPastPapers 25 = .ok (.invokevirtual 109, 3) := by decide +kernel
theorem dX0_dropPastPapers_28 : decode cX0_dropPastPapers 28 = .ok (.iinc 1 1, 3) := by decide +kernel
theorem dX0_dropPastPapers_31 : decode cX0_dropPastPapers 31 = .ok (.goto (-29), 3) := by decide +kernel
theorem dX0_dropPastPapers_34 : decode cX0_dropPastPapers 34 = .ok (.return_, 1) := by decide +kernel
def mX0_dropPastPapers_b28  (k2 : Int32 → jMem → Option jMem) (a1 : Int32) (V : jMem) : Option jMem := (k2 (a1 + (1 : Int32)) V)
set_option maxHeartbeats 4000000 in
set_option maxRecDepth 20000 in
theorem tX0_dropPastPapers_b28 {l : Launch} {Z : jZ} {q : Nat → Nat} {k2 : Int32 → jMem → Option jMem} {a1 : Int32} {V : jMem} {V' : jMem}   (hk2 : ∀ (a1 : Int32) (V : jMem), k2 a1 V = some V' → J l Z RX0 "dropPastPapers" cX0_dropPastPapers 2 none 1 0 0 (fun r' w => r' = none ∧ w = jw Z q V' dX) 2 [(0, .ref (q 1)), (1, .int a1)] [] (jw Z q V dX) 0 0) (hm : mX0_dropPastPapers_b28 k2 a1 V = some V') : J l Z RX0 "dropPastPapers" cX0_dropPastPapers 2 none 1 0 0 (fun r' w => r' = none ∧ w = jw Z q V' dX) 28 [(0, .ref (q 1)), (1, .int a1)] [] (jw Z q V dX) 0 0 := by
  unfold mX0_dropPastPapers_b28 at hm
  refine j_iinc (v := (a1 + (1 : Int32))) (L' := [(1, _), (0, _)]) dX0_dropPastPapers_28 rfl rfl rfl (by decide) rfl ?_
  refine j_goto (tgt := 2) dX0_dropPastPapers_31 (by decide) ?_
  refine j_sub (L' := [(0, _), (1, _)]) [1, 0] rfl ?_
  exact hk2 _ _  hm
def mX0_dropPastPapers_b2   : Nat → Int32 → jMem → Option jMem
  | 0, _, _ => none
  | n + 1, a1, V => (if (V.1 1 0) ≤ a1 then (some V) else (jg (jin a1 14) (if (V.1 1 10) ≤ (V.1 7 (Int32.toNatClampNeg a1)) then (mX0_dropPastPapers_b28 (mX0_dropPastPapers_b2 n) a1 V) else ((mX0_dropPaper a1 V).bind (fun (p4 : jMem) => (mX0_dropPastPapers_b28 (mX0_dropPastPapers_b2 n) a1 p4))))))
set_option maxHeartbeats 4000000 in
set_option maxRecDepth 20000 in
theorem tX0_dropPastPapers_b2 {l : Launch} {Z : jZ} {q : Nat → Nat}  {V' : jMem}   (n : Nat) : ∀ (a1 : Int32) (V : jMem), mX0_dropPastPapers_b2 n a1 V = some V' → J l Z RX0 "dropPastPapers" cX0_dropPastPapers 2 none 1 0 0 (fun r' w => r' = none ∧ w = jw Z q V' dX) 2 [(0, .ref (q 1)), (1, .int a1)] [] (jw Z q V dX) 0 0 := by
  induction n with
  | zero => intro a1 V hm; cases hm
  | succ n ih =>
    intro a1 V hm
    rw [mX0_dropPastPapers_b2] at hm
    refine j_iload_n dX0_dropPastPapers_2 rfl rfl ?_
    refine j_aload_n dX0_dropPastPapers_3 rfl rfl ?_
    refine m_geti (k := 0) fX0_43 dX0_dropPastPapers_4 rfl rfl rfl ?_
    refine j_icmp_ge (tgt := 34) dX0_dropPastPapers_7 rfl (by decide) (fun c1 => ?_) (fun c1 => ?_)
    · have hm := jif_pos c1 hm
      exact j_return dX0_dropPastPapers_34 rfl ⟨Nat.le_refl _, Nat.le_refl _⟩ (jf_v hm)
    · have hm := jif_neg c1 hm
      refine j_aload_n dX0_dropPastPapers_10 rfl rfl ?_
      refine m_getr (k := 9) (r := 7) fX0_27 dX0_dropPastPapers_11 rfl rfl rfl ?_
      refine j_iload_n dX0_dropPastPapers_14 rfl rfl ?_
      obtain ⟨g2, hm⟩ := jg_of hm
      refine o_iald (k := (Int32.toNatClampNeg a1)) rfl dX0_dropPastPapers_15 rfl rfl (jin_vp g2) ?_
      refine j_aload_n dX0_dropPastPapers_16 rfl rfl ?_
      refine m_geti (k := 10) fX0_61 dX0_dropPastPapers_17 rfl rfl rfl ?_
      refine j_icmp_ge (tgt := 28) dX0_dropPastPapers_20 rfl (by decide) (fun c3 => ?_) (fun c3 => ?_)
      · have hm := jif_pos c3 hm
        exact tX0_dropPastPapers_b28   ih hm
      · have hm := jif_neg c3 hm
        refine j_aload_n dX0_dropPastPapers_23 rfl rfl ?_
        refine j_iload_n dX0_dropPastPapers_24 rfl rfl ?_
        obtain ⟨p4, ep4, hm⟩ := jb_of hm
        refine o_callV_v kX0_109 dX0_dropPastPapers_25 rfl (tX0_dropPaper  ep4) rfl rfl rfl rfl rfl (Nat.le_of_ble_eq_true rfl) (by decide) ?_
        exact tX0_dropPastPapers_b28   ih hm
def mX0_dropPastPapers (V : jMem) : Option jMem := (mX0_dropPastPapers_b2 2000 (0 : Int32) V)
set_option maxHeartbeats 4000000 in
set_option maxRecDepth 20000 in
theorem tX0_dropPastPapers {l : Launch} {Z : jZ} {q : Nat → Nat} {V : jMem} {V' : jMem}  (hm : mX0_dropPastPapers V = some V') : CtD l Z yX0_dropPastPapers cX0_dropPastPapers 2 none 1 q dX [.ref (q 1)] V none V' := by
  refine Ct_of (L := [(0, .ref (q 1))]) (own := RX0) (nm := "dropPastPapers") rfl rfl (by decide +kernel) rfl (Nat.le_of_ble_eq_true rfl) ?_
  unfold mX0_dropPastPapers at hm
  refine j_iconst (v := 0) dX0_dropPastPapers_0 rfl (by decide) ?_
  refine j_istore_n (i := 1) (L' := [(1, _), (0, _)]) dX0_dropPastPapers_1 rfl rfl (by decide) rfl ?_
  refine j_sub (L' := [(0, _), (1, _)]) [1, 0] rfl ?_
  exact tX0_dropPastPapers_b2   _ _ _  hm
theorem dX0_rivalTakes_0 : decode cX0_rivalTakes 0 = .ok (.aload_n 0, 1) := by decide +kernel
theorem dX0_rivalTakes_1 : decode cX0_rivalTakes 1 = .ok (.aload_n 0, 1) := by decide +kernel
theorem dX0_rivalTakes_2 : decode cX0_rivalTakes 2 = .ok (.getfield 30, 3) := by decide +kernel
theorem dX0_rivalTakes_5 : decode cX0_rivalTakes 5 = .ok (.ldc 126, 2) := by decide +kernel
theorem dX0_rivalTakes_7 : decode cX0_rivalTakes 7 = .ok (.imul, 1) := by decide +kernel
theorem dX0_rivalTakes_8 : decode cX0_rivalTakes 8 = .ok (.sipush 12345, 3) := by decide +kernel
theorem dX0_rivalTakes_11 : decode cX0_rivalTakes 11 = .ok (.iadd, 1) := by decide +kernel
theorem dX0_rivalTakes_12 : decode cX0_rivalTakes 12 = .ok (.putfield 30, 3) := by decide +kernel
theorem dX0_rivalTakes_15 : decode cX0_rivalTakes 15 = .ok (.aload_n 0, 1) := by decide +kernel
theorem dX0_rivalTakes_16 : decode cX0_rivalTakes 16 = .ok (.getfield 30, 3) := by decide +kernel
theorem dX0_rivalTakes_19 : decode cX0_rivalTakes 19 = .ok (.bipush 8, 2) := by decide +kernel
theorem dX0_rivalTakes_21 : decode cX0_rivalTakes 21 = .ok (.iushr, 1) := by decide +kernel
theorem dX0_rivalTakes_22 : decode cX0_rivalTakes 22 = .ok (.bipush 100, 2) := by decide +kernel
theorem dX0_rivalTakes_24 : decode cX0_rivalTakes 24 = .ok (.irem, 1) := by decide +kernel
theorem dX0_rivalTakes_25 : decode cX0_rivalTakes 25 = .ok (.aload_n 0, 1) := by decide +kernel
theorem dX0_rivalTakes_26 : decode cX0_rivalTakes 26 = .ok (.getfield 34, 3) := by decide +kernel
theorem dX0_rivalTakes_29 : decode cX0_rivalTakes 29 = .ok (.iconst 0, 1) := by decide +kernel
theorem dX0_rivalTakes_30 : decode cX0_rivalTakes 30 = .ok (.iaload, 1) := by decide +kernel
theorem dX0_rivalTakes_31 : decode cX0_rivalTakes 31 = .ok (.if_icmp .lt 5, 3) := by decide +kernel
theorem dX0_rivalTakes_34 : decode cX0_rivalTakes 34 = .ok (.iconst (-1), 1) := by decide +kernel
theorem dX0_rivalTakes_35 : decode cX0_rivalTakes 35 = .ok (.ireturn, 1) := by decide +kernel
theorem dX0_rivalTakes_36 : decode cX0_rivalTakes 36 = .ok (.iconst (-1), 1) := by decide +kernel
theorem dX0_rivalTakes_37 : decode cX0_rivalTakes 37 = .ok (.istore_n 1, 1) := by decide +kernel
theorem dX0_rivalTakes_38 : decode cX0_rivalTakes 38 = .ok (.iconst 0, 1) := by decide +kernel
theorem dX0_rivalTakes_39 : decode cX0_rivalTakes 39 = .ok (.istore_n 2, 1) := by decide +kernel
theorem dX0_rivalTakes_40 : decode cX0_rivalTakes 40 = .ok (.iconst 0, 1) := by decide +kernel
theorem dX0_rivalTakes_41 : decode cX0_rivalTakes 41 = .ok (.istore_n 3, 1) := by decide +kernel
theorem dX0_rivalTakes_42 : decode cX0_rivalTakes 42 = .ok (.iload_n 3, 1) := by decide +kernel
theorem dX0_rivalTakes_43 : decode cX0_rivalTakes 43 = .ok (.aload_n 0, 1) := by decide +kernel
theorem dX0_rivalTakes_44 : decode cX0_rivalTakes 44 = .ok (.getfield 43, 3) := by decide +kernel
theorem dX0_rivalTakes_47 : decode cX0_rivalTakes 47 = .ok (.if_icmp .ge 50, 3) := by decide +kernel
theorem dX0_rivalTakes_50 : decode cX0_rivalTakes 50 = .ok (.aload_n 0, 1) := by decide +kernel
theorem dX0_rivalTakes_51 : decode cX0_rivalTakes 51 = .ok (.iload_n 3, 1) := by decide +kernel
theorem dX0_rivalTakes_52 : decode cX0_rivalTakes 52 = .ok (.invokevirtual 127, 3) := by decide +kernel
theorem dX0_rivalTakes_55 : decode cX0_rivalTakes 55 = .ok (.ifCond .eq 36, 3) := by decide +kernel
theorem dX0_rivalTakes_58 : decode cX0_rivalTakes 58 = .ok (.iload_n 3, 1) := by decide +kernel
theorem dX0_rivalTakes_59 : decode cX0_rivalTakes 59 = .ok (.aload_n 0, 1) := by decide +kernel
theorem dX0_rivalTakes_60 : decode cX0_rivalTakes 60 = .ok (.getfield 58, 3) := by decide +kernel
theorem dX0_rivalTakes_63 : decode cX0_rivalTakes 63 = .ok (.invokestatic 83, 3) := by decide +kernel
theorem dX0_rivalTakes_66 : decode cX0_rivalTakes 66 = .ok (.ifCond .ne 25, 3) := by decide +kernel
theorem dX0_rivalTakes_69 : decode cX0_rivalTakes 69 = .ok (.aload_n 0, 1) := by decide +kernel
theorem dX0_rivalTakes_70 : decode cX0_rivalTakes 70 = .ok (.iload_n 3, 1) := by decide +kernel
theorem dX0_rivalTakes_71 : decode cX0_rivalTakes 71 = .ok (.invokevirtual 113, 3) := by decide +kernel
theorem dX0_rivalTakes_74 : decode cX0_rivalTakes 74 = .ok (.istore 4, 2) := by decide +kernel
theorem dX0_rivalTakes_76 : decode cX0_rivalTakes 76 = .ok (.iload_n 1, 1) := by decide +kernel
theorem dX0_rivalTakes_77 : decode cX0_rivalTakes 77 = .ok (.ifCond .lt 9, 3) := by decide +kernel
theorem dX0_rivalTakes_80 : decode cX0_rivalTakes 80 = .ok (.iload 4, 2) := by decide +kernel
theorem dX0_rivalTakes_82 : decode cX0_rivalTakes 82 = .ok (.iload_n 2, 1) := by decide +kernel
theorem dX0_rivalTakes_83 : decode cX0_rivalTakes 83 = .ok (.if_icmp .ge 8, 3) := by decide +kernel
theorem dX0_rivalTakes_86 : decode cX0_rivalTakes 86 = .ok (.iload_n 3, 1) := by decide +kernel
theorem dX0_rivalTakes_87 : decode cX0_rivalTakes 87 = .ok (.istore_n 1, 1) := by decide +kernel
theorem dX0_rivalTakes_88 : decode cX0_rivalTakes 88 = .ok (.iload 4, 2) := by decide +kernel
theorem dX0_rivalTakes_90 : decode cX0_rivalTakes 90 = .ok (.istore_n 2, 1) := by decide +kernel
theorem dX0_rivalTakes_91 : decode cX0_rivalTakes 91 = .ok (.iinc 3 1, 3) := by decide +kernel
theorem dX0_rivalTakes_94 : decode cX0_rivalTakes 94 = .ok (.goto (-52), 3) := by decide +kernel
theorem dX0_rivalTakes_97 : decode cX0_rivalTakes 97 = .ok (.iload_n 1, 1) := by decide +kernel
theorem dX0_rivalTakes_98 : decode cX0_rivalTakes 98 = .ok (.ifCond .lt 15, 3) := by decide +kernel
theorem dX0_rivalTakes_101 : decode cX0_rivalTakes 101 = .ok (.aload_n 0, 1) := by decide +kernel
theorem dX0_rivalTakes_102 : decode cX0_rivalTakes 102 = .ok (.dup, 1) := by decide +kernel
theorem dX0_rivalTakes_103 : decode cX0_rivalTakes 103 = .ok (.getfield 55, 3) := by decide +kernel
theorem dX0_rivalTakes_106 : decode cX0_rivalTakes 106 = .ok (.iconst 1, 1) := by decide +kernel
theorem dX0_rivalTakes_107 : decode cX0_rivalTakes 107 = .ok (.iload_n 1, 1) := by decide +kernel
theorem dX0_rivalTakes_108 : decode cX0_rivalTakes 108 = .ok (.ishl, 1) := by decide +kernel
theorem dX0_rivalTakes_109 : decode cX0_rivalTakes 109 = .ok (.ior, 1) := by decide +kernel
theorem dX0_rivalTakes_110 : decode cX0_rivalTakes 110 = .ok (.putfield 55, 3) := by decide +kernel
theorem dX0_rivalTakes_113 : decode cX0_rivalTakes 113 = .ok (.iload_n 1, 1) := by decide +kernel
theorem dX0_rivalTakes_114 : decode cX0_rivalTakes 114 = .ok (.ireturn, 1) := by decide +kernel
def mX0_rivalTakes_b91  (k42 : Int32 → Int32 → Int32 → jMem → Option (Int32 × jMem)) (a1 : Int32) (a2 : Int32) (a3 : Int32) (V : jMem) : Option (Int32 × jMem) := (k42 a1 a2 (a3 + (1 : Int32)) V)
set_option maxHeartbeats 4000000 in
set_option maxRecDepth 20000 in
theorem tX0_rivalTakes_b91 {l : Launch} {Z : jZ} {q : Nat → Nat} {k42 : Int32 → Int32 → Int32 → jMem → Option (Int32 × jMem)} {a1 : Int32} {a2 : Int32} {a3 : Int32} {V : jMem} {r : Int32} {V' : jMem}   (hk42 : ∀ (a1 : Int32) (a2 : Int32) (a3 : Int32) (V : jMem), k42 a1 a2 a3 V = some (r, V') → J l Z RX0 "rivalTakes" cX0_rivalTakes 5 (some .int) 6 0 0 (fun r' w => r' = some (.int r) ∧ w = jw Z q V' dX) 42 [(0, .ref (q 1)), (1, .int a1), (2, .int a2), (3, .int a3)] [] (jw Z q V dX) 0 0) (hm : mX0_rivalTakes_b91 k42 a1 a2 a3 V = some (r, V')) : J l Z RX0 "rivalTakes" cX0_rivalTakes 5 (some .int) 6 0 0 (fun r' w => r' = some (.int r) ∧ w = jw Z q V' dX) 91 [(0, .ref (q 1)), (1, .int a1), (2, .int a2), (3, .int a3)] [] (jw Z q V dX) 0 0 := by
  unfold mX0_rivalTakes_b91 at hm
  refine j_iinc (v := (a3 + (1 : Int32))) (L' := [(3, _), (0, _), (1, _), (2, _)]) dX0_rivalTakes_91 rfl rfl rfl (by decide) rfl ?_
  refine j_goto (tgt := 42) dX0_rivalTakes_94 (by decide) ?_
  refine j_sub (L' := [(0, _), (1, _), (2, _), (3, _)]) [1, 2, 3, 0] rfl ?_
  exact hk42 _ _ _ _  hm
def mX0_rivalTakes_b86  (k42 : Int32 → Int32 → Int32 → jMem → Option (Int32 × jMem)) (a3 : Int32) (a4 : Int32) (V : jMem) : Option (Int32 × jMem) := (mX0_rivalTakes_b91 k42 a3 a4 a3 V)
set_option maxHeartbeats 4000000 in
set_option maxRecDepth 20000 in
theorem tX0_rivalTakes_b86 {l : Launch} {Z : jZ} {q : Nat → Nat} {k42 : Int32 → Int32 → Int32 → jMem → Option (Int32 × jMem)} {a3 : Int32} {a4 : Int32} {V : jMem} {r : Int32} {V' : jMem}   (hk42 : ∀ (a1 : Int32) (a2 : Int32) (a3 : Int32) (V : jMem), k42 a1 a2 a3 V = some (r, V') → J l Z RX0 "rivalTakes" cX0_rivalTakes 5 (some .int) 6 0 0 (fun r' w => r' = some (.int r) ∧ w = jw Z q V' dX) 42 [(0, .ref (q 1)), (1, .int a1), (2, .int a2), (3, .int a3)] [] (jw Z q V dX) 0 0) (hm : mX0_rivalTakes_b86 k42 a3 a4 V = some (r, V')) : J l Z RX0 "rivalTakes" cX0_rivalTakes 5 (some .int) 6 0 0 (fun r' w => r' = some (.int r) ∧ w = jw Z q V' dX) 86 [(0, .ref (q 1)), (3, .int a3), (4, .int a4)] [] (jw Z q V dX) 0 0 := by
  unfold mX0_rivalTakes_b86 at hm
  refine j_iload_n dX0_rivalTakes_86 rfl rfl ?_
  refine j_istore_n (i := 1) (L' := [(1, _), (0, _), (3, _), (4, _)]) dX0_rivalTakes_87 rfl rfl (by decide) rfl ?_
  refine j_iload dX0_rivalTakes_88 rfl rfl ?_
  refine j_istore_n (i := 2) (L' := [(2, _), (1, _), (0, _), (3, _), (4, _)]) dX0_rivalTakes_90 rfl rfl (by decide) rfl ?_
  refine j_sub (L' := [(0, _), (1, _), (2, _), (3, _)]) [2, 1, 0, 3] rfl ?_
  exact tX0_rivalTakes_b91   hk42 hm
def mX0_rivalTakes_b42   : Nat → Int32 → Int32 → Int32 → jMem → Option (Int32 × jMem)
  | 0, _, _, _, _ => none
  | n + 1, a1, a2, a3, V => (if (V.1 1 0) ≤ a3 then (if a1 < (0 : Int32) then (some (a1, V)) else (jl (jsI V 1 6 ((V.1 1 6) ||| ((1 : Int32) <<< (a1 &&& (31 : Int32))))) (fun (V3 : jMem) => (some (a1, V3))))) else (if (mX0_isFree a3 V) = (0 : Int32) then (mX0_rivalTakes_b91 (mX0_rivalTakes_b42 n) a1 a2 a3 V) else (if (mX4_isIn a3 (V.1 1 7)) = (0 : Int32) then ((mX0_priceNow a3 V).bind (fun (r6 : Int32) => (if a1 < (0 : Int32) then (mX0_rivalTakes_b86 (mX0_rivalTakes_b42 n) a3 r6 V) else (if a2 ≤ r6 then (mX0_rivalTakes_b91 (mX0_rivalTakes_b42 n) a1 a2 a3 V) else (mX0_rivalTakes_b86 (mX0_rivalTakes_b42 n) a3 r6 V))))) else (mX0_rivalTakes_b91 (mX0_rivalTakes_b42 n) a1 a2 a3 V))))
set_option maxHeartbeats 4000000 in
set_option maxRecDepth 20000 in
theorem tX0_rivalTakes_b42 {l : Launch} {Z : jZ} {q : Nat → Nat}  {r : Int32} {V' : jMem}   (n : Nat) : ∀ (a1 : Int32) (a2 : Int32) (a3 : Int32) (V : jMem), mX0_rivalTakes_b42 n a1 a2 a3 V = some (r, V') → J l Z RX0 "rivalTakes" cX0_rivalTakes 5 (some .int) 6 0 0 (fun r' w => r' = some (.int r) ∧ w = jw Z q V' dX) 42 [(0, .ref (q 1)), (1, .int a1), (2, .int a2), (3, .int a3)] [] (jw Z q V dX) 0 0 := by
  induction n with
  | zero => intro a1 a2 a3 V hm; cases hm
  | succ n ih =>
    intro a1 a2 a3 V hm
    rw [mX0_rivalTakes_b42] at hm
    refine j_iload_n dX0_rivalTakes_42 rfl rfl ?_
    refine j_aload_n dX0_rivalTakes_43 rfl rfl ?_
    refine m_geti (k := 0) fX0_43 dX0_rivalTakes_44 rfl rfl rfl ?_
    refine j_icmp_ge (tgt := 97) dX0_rivalTakes_47 rfl (by decide) (fun c1 => ?_) (fun c1 => ?_)
    · have hm := jif_pos c1 hm
      refine j_iload_n dX0_rivalTakes_97 rfl rfl ?_
      refine j_if_lt (tgt := 113) dX0_rivalTakes_98 rfl (by decide) (fun c2 => ?_) (fun c2 => ?_)
      · have hm := jif_pos c2 hm
        refine j_iload_n dX0_rivalTakes_113 rfl rfl ?_
        exact j_ireturn dX0_rivalTakes_114 rfl rfl ⟨Nat.le_refl _, Nat.le_refl _⟩ (jf_m (fun z => .int z) hm)
      · have hm := jif_neg c2 hm
        refine j_aload_n dX0_rivalTakes_101 rfl rfl ?_
        refine j_dup dX0_rivalTakes_102 rfl rfl ?_
        refine m_geti (k := 6) fX0_55 dX0_rivalTakes_103 rfl rfl rfl ?_
        refine j_iconst (v := 1) dX0_rivalTakes_106 rfl (by decide) ?_
        refine j_iload_n dX0_rivalTakes_107 rfl rfl ?_
        refine j_ishl dX0_rivalTakes_108 rfl ?_
        refine j_ior dX0_rivalTakes_109 rfl ?_
        refine m_puti (k := 6) fX0_55 dX0_rivalTakes_110 rfl rfl rfl ?_
        obtain ⟨V3, eV3⟩ : ∃ y, y = (jsI V 1 6 ((V.1 1 6) ||| ((1 : Int32) <<< (a1 &&& (31 : Int32))))) := ⟨_, rfl⟩
        have hm := jl_of hm eV3
        rw [← eV3]
        refine j_iload_n dX0_rivalTakes_113 rfl rfl ?_
        exact j_ireturn dX0_rivalTakes_114 rfl rfl ⟨Nat.le_refl _, Nat.le_refl _⟩ (jf_m (fun z => .int z) hm)
    · have hm := jif_neg c1 hm
      refine j_aload_n dX0_rivalTakes_50 rfl rfl ?_
      refine j_iload_n dX0_rivalTakes_51 rfl rfl ?_
      refine o_callV_i kX0_127 dX0_rivalTakes_52 rfl (tX0_isFree  rfl) rfl rfl rfl rfl rfl (Nat.le_of_ble_eq_true rfl) (by decide) ?_
      refine j_if_eq (tgt := 91) dX0_rivalTakes_55 rfl (by decide) (fun c4 => ?_) (fun c4 => ?_)
      · have hm := jif_pos c4 hm
        exact tX0_rivalTakes_b91   ih hm
      · have hm := jif_neg c4 hm
        refine j_iload_n dX0_rivalTakes_58 rfl rfl ?_
        refine j_aload_n dX0_rivalTakes_59 rfl rfl ?_
        refine m_geti (k := 7) fX0_58 dX0_rivalTakes_60 rfl rfl rfl ?_
        refine o_callS_i kX0_83 dX0_rivalTakes_63 rfl (tX4_isIn  rfl) rfl rfl (Nat.le_of_ble_eq_true rfl) (by decide) ?_
        refine j_if_ne (tgt := 91) dX0_rivalTakes_66 rfl (by decide) (fun c5 => ?_) (fun c5 => ?_)
        · have hm := jif_neg c5 hm
          exact tX0_rivalTakes_b91   ih hm
        · have hm := jif_pos c5 hm
          refine j_aload_n dX0_rivalTakes_69 rfl rfl ?_
          refine j_iload_n dX0_rivalTakes_70 rfl rfl ?_
          obtain ⟨r6, er6, hm⟩ := jb_of hm
          refine o_callV_i kX0_113 dX0_rivalTakes_71 rfl (tX0_priceNow  er6) rfl rfl rfl rfl rfl (Nat.le_of_ble_eq_true rfl) (by decide) ?_
          refine j_istore (L' := [(4, _), (0, _), (1, _), (2, _), (3, _)]) dX0_rivalTakes_74 rfl (by decide) rfl ?_
          refine j_iload_n dX0_rivalTakes_76 rfl rfl ?_
          refine j_if_lt (tgt := 86) dX0_rivalTakes_77 rfl (by decide) (fun c7 => ?_) (fun c7 => ?_)
          · have hm := jif_pos c7 hm
            refine j_sub (L' := [(0, _), (3, _), (4, _)]) [1, 4, 0] rfl ?_
            exact tX0_rivalTakes_b86   ih hm
          · have hm := jif_neg c7 hm
            refine j_iload dX0_rivalTakes_80 rfl rfl ?_
            refine j_iload_n dX0_rivalTakes_82 rfl rfl ?_
            refine j_icmp_ge (tgt := 91) dX0_rivalTakes_83 rfl (by decide) (fun c8 => ?_) (fun c8 => ?_)
            · have hm := jif_pos c8 hm
              refine j_sub (L' := [(0, _), (1, _), (2, _), (3, _)]) [1, 2, 3, 4] rfl ?_
              exact tX0_rivalTakes_b91   ih hm
            · have hm := jif_neg c8 hm
              refine j_sub (L' := [(0, _), (3, _), (4, _)]) [1, 4, 0] rfl ?_
              exact tX0_rivalTakes_b86   ih hm
def mX0_rivalTakes (V : jMem) : Option (Int32 × jMem) := (jl (jsI V 1 12 (((V.1 1 12) * (1103515245 : Int32)) + (12345 : Int32))) (fun (V1 : jMem) => (if (((Int32.toUInt32 (V1.1 1 12) >>> (Int32.toUInt32 (8 : Int32) &&& Int32.toUInt32 31)).toInt32) - ((Int32.toUInt32 (V1.1 1 12) >>> (Int32.toUInt32 (8 : Int32) &&& Int32.toUInt32 31)).toInt32) / (100 : Int32) * (100 : Int32)) < (V1.1 8 0) then (mX0_rivalTakes_b42 2000 (-1 : Int32) (0 : Int32) (0 : Int32) V1) else (some ((-1 : Int32), V1)))))
set_option maxHeartbeats 4000000 in
set_option maxRecDepth 20000 in
theorem tX0_rivalTakes {l : Launch} {Z : jZ} {q : Nat → Nat} {V : jMem} {r : Int32} {V' : jMem}  (hm : mX0_rivalTakes V = some (r, V')) : CtD l Z yX0_rivalTakes cX0_rivalTakes 5 (some .int) 6 q dX [.ref (q 1)] V (some (.int r)) V' := by
  refine Ct_of (L := [(0, .ref (q 1))]) (own := RX0) (nm := "rivalTakes") rfl rfl (by decide +kernel) rfl (Nat.le_of_ble_eq_true rfl) ?_
  unfold mX0_rivalTakes at hm
  refine j_aload_n dX0_rivalTakes_0 rfl rfl ?_
  refine j_aload_n dX0_rivalTakes_1 rfl rfl ?_
  refine m_geti (k := 12) fX0_30 dX0_rivalTakes_2 rfl rfl rfl ?_
  refine j_ldc dX0_rivalTakes_5 rfl wX0_126 ?_
  refine j_imul dX0_rivalTakes_7 rfl ?_
  refine j_sipush (v := 12345) dX0_rivalTakes_8 rfl (by decide) ?_
  refine j_iadd dX0_rivalTakes_11 rfl ?_
  refine m_puti (k := 12) fX0_30 dX0_rivalTakes_12 rfl rfl rfl ?_
  obtain ⟨V1, eV1⟩ : ∃ y, y = (jsI V 1 12 (((V.1 1 12) * (1103515245 : Int32)) + (12345 : Int32))) := ⟨_, rfl⟩
  have hm := jl_of hm eV1
  rw [← eV1]
  refine j_aload_n dX0_rivalTakes_15 rfl rfl ?_
  refine m_geti (k := 12) fX0_30 dX0_rivalTakes_16 rfl rfl rfl ?_
  refine j_bipush (v := 8) dX0_rivalTakes_19 rfl (by decide) ?_
  refine j_iushr dX0_rivalTakes_21 rfl ?_
  refine j_bipush (v := 100) dX0_rivalTakes_22 rfl (by decide) ?_
  refine j_irem dX0_rivalTakes_24 rfl (by decide) ?_
  refine j_aload_n dX0_rivalTakes_25 rfl rfl ?_
  refine m_getr (k := 13) (r := 8) fX0_34 dX0_rivalTakes_26 rfl rfl rfl ?_
  refine j_iconst (v := 0) dX0_rivalTakes_29 rfl (by decide) ?_
  refine o_iald (k := 0) (by decide) dX0_rivalTakes_30 rfl rfl (jin_vp (by decide)) ?_
  refine j_icmp_lt (tgt := 36) dX0_rivalTakes_31 rfl (by decide) (fun c2 => ?_) (fun c2 => ?_)
  · have hm := jif_pos c2 hm
    refine j_iconst (v := -1) dX0_rivalTakes_36 rfl (by decide) ?_
    refine j_istore_n (i := 1) (L' := [(1, _), (0, _)]) dX0_rivalTakes_37 rfl rfl (by decide) rfl ?_
    refine j_iconst (v := 0) dX0_rivalTakes_38 rfl (by decide) ?_
    refine j_istore_n (i := 2) (L' := [(2, _), (1, _), (0, _)]) dX0_rivalTakes_39 rfl rfl (by decide) rfl ?_
    refine j_iconst (v := 0) dX0_rivalTakes_40 rfl (by decide) ?_
    refine j_istore_n (i := 3) (L' := [(3, _), (2, _), (1, _), (0, _)]) dX0_rivalTakes_41 rfl rfl (by decide) rfl ?_
    refine j_sub (L' := [(0, _), (1, _), (2, _), (3, _)]) [3, 2, 1, 0] rfl ?_
    exact tX0_rivalTakes_b42   _ _ _ _ _  hm
  · have hm := jif_neg c2 hm
    refine j_iconst (v := -1) dX0_rivalTakes_34 rfl (by decide) ?_
    exact j_ireturn dX0_rivalTakes_35 rfl rfl ⟨Nat.le_refl _, Nat.le_refl _⟩ (jf_m (fun z => .int z) hm)
theorem dX0_calmDown_0 : decode cX0_calmDown 0 = .ok (.iconst 0, 1) := by decide +kernel
theorem dX0_calmDown_1 : decode cX0_calmDown 1 = .ok (.istore_n 1, 1) := by decide +kernel
theorem dX0_calmDown_2 : decode cX0_calmDown 2 = .ok (.iload_n 1, 1) := by decide +kernel
theorem dX0_calmDown_3 : decode cX0_calmDown 3 = .ok (.aload_n 0, 1) := by decide +kernel
theorem dX0_calmDown_4 : decode cX0_calmDown 4 = .ok (.getfield 43, 3) := by decide +kernel
theorem dX0_calmDown_7 : decode cX0_calmDown 7 = .ok (.if_icmp .ge 34, 3) := by decide +kernel
theorem dX0_calmDown_10 : decode cX0_calmDown 10 = .ok (.aload_n 0, 1) := by decide +kernel
theorem dX0_calmDown_11 : decode cX0_calmDown 11 = .ok (.getfield 18, 3) := by decide +kernel
theorem dX0_calmDown_14 : decode cX0_calmDown 14 = .ok (.iload_n 1, 1) := by decide +kernel
theorem dX0_calmDown_15 : decode cX0_calmDown 15 = .ok (.iaload, 1) := by decide +kernel
theorem dX0_calmDown_16 : decode cX0_calmDown 16 = .ok (.aload_n 0, 1) := by decide +kernel
theorem dX0_calmDown_17 : decode cX0_calmDown 17 = .ok (.getfield 34, 3) := by decide +kernel
theorem dX0_calmDown_20 : decode cX0_calmDown 20 = .ok (.iconst 1, 1) := by decide +kernel
theorem dX0_calmDown_21 : decode cX0_calmDown 21 = .ok (.iaload, 1) := by decide +kernel
theorem dX0_calmDown_22 : decode cX0_calmDown 22 = .ok (.if_icmp .le 13, 3) := by decide +kernel
theorem dX0_calmDown_25 : decode cX0_calmDown 25 = .ok (.aload_n 0, 1) := by decide +kernel
theorem dX0_calmDown_26 : decode cX0_calmDown 26 = .ok (.getfield 18, 3) := by decide +kernel
theorem dX0_calmDown_29 : decode cX0_calmDown 29 = .ok (.iload_n 1, 1) := by decide +kernel
theorem dX0_calmDown_30 : decode cX0_calmDown 30 = .ok (.dup2, 1) := by decide +kernel
theorem dX0_calmDown_31 : decode cX0_calmDown 31 = .ok (.iaload, 1) := by decide +kernel
theorem dX0_calmDown_32 : decode cX0_calmDown 32 = .ok (.iconst 1, 1) := by decide +kernel
theorem dX0_calmDown_33 : decode cX0_calmDown 33 = .ok (.isub, 1) := by decide +kernel
theorem dX0_calmDown_34 : decode cX0_calmDown 34 = .ok (.iastore, 1) := by decide +kernel
theorem dX0_calmDown_35 : decode cX0_calmDown 35 = .ok (.iinc 1 1, 3) := by decide +kernel
theorem dX0_calmDown_38 : decode cX0_calmDown 38 = .ok (.goto (-36), 3) := by decide +kernel
theorem dX0_calmDown_41 : decode cX0_calmDown 41 = .ok (.return_, 1) := by decide +kernel
def mX0_calmDown_b35  (k2 : Int32 → jMem → Option jMem) (a1 : Int32) (V : jMem) : Option jMem := (k2 (a1 + (1 : Int32)) V)
set_option maxHeartbeats 4000000 in
set_option maxRecDepth 20000 in
theorem tX0_calmDown_b35 {l : Launch} {Z : jZ} {q : Nat → Nat} {k2 : Int32 → jMem → Option jMem} {a1 : Int32} {V : jMem} {V' : jMem}   (hk2 : ∀ (a1 : Int32) (V : jMem), k2 a1 V = some V' → J l Z RX0 "calmDown" cX0_calmDown 2 none 0 0 0 (fun r' w => r' = none ∧ w = jw Z q V' dX) 2 [(0, .ref (q 1)), (1, .int a1)] [] (jw Z q V dX) 0 0) (hm : mX0_calmDown_b35 k2 a1 V = some V') : J l Z RX0 "calmDown" cX0_calmDown 2 none 0 0 0 (fun r' w => r' = none ∧ w = jw Z q V' dX) 35 [(0, .ref (q 1)), (1, .int a1)] [] (jw Z q V dX) 0 0 := by
  unfold mX0_calmDown_b35 at hm
  refine j_iinc (v := (a1 + (1 : Int32))) (L' := [(1, _), (0, _)]) dX0_calmDown_35 rfl rfl rfl (by decide) rfl ?_
  refine j_goto (tgt := 2) dX0_calmDown_38 (by decide) ?_
  refine j_sub (L' := [(0, _), (1, _)]) [1, 0] rfl ?_
  exact hk2 _ _  hm
def mX0_calmDown_b2   : Nat → Int32 → jMem → Option jMem
  | 0, _, _ => none
  | n + 1, a1, V => (if (V.1 1 0) ≤ a1 then (some V) else (jg (jin a1 14) (if (V.1 4 (Int32.toNatClampNeg a1)) ≤ (V.1 8 1) then (mX0_calmDown_b35 (mX0_calmDown_b2 n) a1 V) else (jl (jsI V 4 (Int32.toNatClampNeg a1) ((V.1 4 (Int32.toNatClampNeg a1)) - (1 : Int32))) (fun (V4 : jMem) => (mX0_calmDown_b35 (mX0_calmDown_b2 n) a1 V4))))))
set_option maxHeartbeats 4000000 in
set_option maxRecDepth 20000 in
theorem tX0_calmDown_b2 {l : Launch} {Z : jZ} {q : Nat → Nat}  {V' : jMem}   (n : Nat) : ∀ (a1 : Int32) (V : jMem), mX0_calmDown_b2 n a1 V = some V' → J l Z RX0 "calmDown" cX0_calmDown 2 none 0 0 0 (fun r' w => r' = none ∧ w = jw Z q V' dX) 2 [(0, .ref (q 1)), (1, .int a1)] [] (jw Z q V dX) 0 0 := by
  induction n with
  | zero => intro a1 V hm; cases hm
  | succ n ih =>
    intro a1 V hm
    rw [mX0_calmDown_b2] at hm
    refine j_iload_n dX0_calmDown_2 rfl rfl ?_
    refine j_aload_n dX0_calmDown_3 rfl rfl ?_
    refine m_geti (k := 0) fX0_43 dX0_calmDown_4 rfl rfl rfl ?_
    refine j_icmp_ge (tgt := 41) dX0_calmDown_7 rfl (by decide) (fun c1 => ?_) (fun c1 => ?_)
    · have hm := jif_pos c1 hm
      exact j_return dX0_calmDown_41 rfl ⟨Nat.le_refl _, Nat.le_refl _⟩ (jf_v hm)
    · have hm := jif_neg c1 hm
      refine j_aload_n dX0_calmDown_10 rfl rfl ?_
      refine m_getr (k := 3) (r := 4) fX0_18 dX0_calmDown_11 rfl rfl rfl ?_
      refine j_iload_n dX0_calmDown_14 rfl rfl ?_
      obtain ⟨g2, hm⟩ := jg_of hm
      refine o_iald (k := (Int32.toNatClampNeg a1)) rfl dX0_calmDown_15 rfl rfl (jin_vp g2) ?_
      refine j_aload_n dX0_calmDown_16 rfl rfl ?_
      refine m_getr (k := 13) (r := 8) fX0_34 dX0_calmDown_17 rfl rfl rfl ?_
      refine j_iconst (v := 1) dX0_calmDown_20 rfl (by decide) ?_
      refine o_iald (k := 1) (by decide) dX0_calmDown_21 rfl rfl (jin_vp (by decide)) ?_
      refine j_icmp_le (tgt := 35) dX0_calmDown_22 rfl (by decide) (fun c3 => ?_) (fun c3 => ?_)
      · have hm := jif_pos c3 hm
        exact tX0_calmDown_b35   ih hm
      · have hm := jif_neg c3 hm
        refine j_aload_n dX0_calmDown_25 rfl rfl ?_
        refine m_getr (k := 3) (r := 4) fX0_18 dX0_calmDown_26 rfl rfl rfl ?_
        refine j_iload_n dX0_calmDown_29 rfl rfl ?_
        refine j_dup2 dX0_calmDown_30 rfl rfl rfl ?_
        refine o_iald (k := (Int32.toNatClampNeg a1)) rfl dX0_calmDown_31 rfl rfl (jin_vp g2) ?_
        refine j_iconst (v := 1) dX0_calmDown_32 rfl (by decide) ?_
        refine j_isub dX0_calmDown_33 rfl ?_
        refine o_iast (k := (Int32.toNatClampNeg a1)) rfl dX0_calmDown_34 rfl rfl (jin_vp g2) ?_
        obtain ⟨V4, eV4⟩ : ∃ y, y = (jsI V 4 (Int32.toNatClampNeg a1) ((V.1 4 (Int32.toNatClampNeg a1)) - (1 : Int32))) := ⟨_, rfl⟩
        have hm := jl_of hm eV4
        rw [← eV4]
        exact tX0_calmDown_b35   ih hm
def mX0_calmDown (V : jMem) : Option jMem := (mX0_calmDown_b2 2000 (0 : Int32) V)
set_option maxHeartbeats 4000000 in
set_option maxRecDepth 20000 in
theorem tX0_calmDown {l : Launch} {Z : jZ} {q : Nat → Nat} {V : jMem} {V' : jMem}  (hm : mX0_calmDown V = some V') : CtD l Z yX0_calmDown cX0_calmDown 2 none 0 q dX [.ref (q 1)] V none V' := by
  refine Ct_of (L := [(0, .ref (q 1))]) (own := RX0) (nm := "calmDown") rfl rfl (by decide +kernel) rfl (Nat.le_of_ble_eq_true rfl) ?_
  unfold mX0_calmDown at hm
  refine j_iconst (v := 0) dX0_calmDown_0 rfl (by decide) ?_
  refine j_istore_n (i := 1) (L' := [(1, _), (0, _)]) dX0_calmDown_1 rfl rfl (by decide) rfl ?_
  refine j_sub (L' := [(0, _), (1, _)]) [1, 0] rfl ?_
  exact tX0_calmDown_b2   _ _ _  hm
theorem dX0_canBe_0 : decode cX0_canBe 0 = .ok (.aload_n 0, 1) := by decide +kernel
theorem dX0_canBe_1 : decode cX0_canBe 1 = .ok (.getfield 37, 3) := by decide +kernel
theorem dX0_canBe_4 : decode cX0_canBe 4 = .ok (.iload_n 1, 1) := by decide +kernel
theorem dX0_canBe_5 : decode cX0_canBe 5 = .ok (.iaload, 1) := by decide +kernel
theorem dX0_canBe_6 : decode cX0_canBe 6 = .ok (.aload_n 0, 1) := by decide +kernel
theorem dX0_canBe_7 : decode cX0_canBe 7 = .ok (.getfield 55, 3) := by decide +kernel
theorem dX0_canBe_10 : decode cX0_canBe 10 = .ok (.iand, 1) := by decide +kernel
theorem dX0_canBe_11 : decode cX0_canBe 11 = .ok (.ifCond .ne 7, 3) := by decide +kernel
theorem dX0_canBe_14 : decode cX0_canBe 14 = .ok (.iconst 1, 1) := by decide +kernel
theorem dX0_canBe_15 : decode cX0_canBe 15 = .ok (.goto 4, 3) := by decide +kernel
theorem dX0_canBe_18 : decode cX0_canBe 18 = .ok (.iconst 0, 1) := by decide +kernel
theorem dX0_canBe_19 : decode cX0_canBe 19 = .ok (.ireturn, 1) := by decide +kernel
def mX0_canBe (a1 : Int32) (V : jMem) : Option Int32 := (jg (jin a1 6) (if ((V.1 9 (Int32.toNatClampNeg a1)) &&& (V.1 1 6)) = (0 : Int32) then (some (1 : Int32)) else (some (0 : Int32))))
set_option maxHeartbeats 4000000 in
set_option maxRecDepth 20000 in
theorem tX0_canBe {l : Launch} {Z : jZ} {q : Nat → Nat} {a1 : Int32} {V : jMem} {r : Int32}  (hm : mX0_canBe a1 V = some r) : CtD l Z yX0_canBe cX0_canBe 2 (some .boolean) 0 q dX [.ref (q 1), .int a1] V (some (.int r)) V := by
  refine Ct_of (L := [(0, .ref (q 1)), (1, .int a1)]) (own := RX0) (nm := "canBe") rfl rfl (by decide +kernel) rfl (Nat.le_of_ble_eq_true rfl) ?_
  unfold mX0_canBe at hm
  refine j_aload_n dX0_canBe_0 rfl rfl ?_
  refine m_getr (k := 15) (r := 9) fX0_37 dX0_canBe_1 rfl rfl rfl ?_
  refine j_iload_n dX0_canBe_4 rfl rfl ?_
  obtain ⟨g1, hm⟩ := jg_of hm
  refine o_iald (k := (Int32.toNatClampNeg a1)) rfl dX0_canBe_5 rfl rfl (jin_vp g1) ?_
  refine j_aload_n dX0_canBe_6 rfl rfl ?_
  refine m_geti (k := 6) fX0_55 dX0_canBe_7 rfl rfl rfl ?_
  refine j_iand dX0_canBe_10 rfl ?_
  refine j_if_ne (tgt := 18) dX0_canBe_11 rfl (by decide) (fun c2 => ?_) (fun c2 => ?_)
  · have hm := jif_neg c2 hm
    refine j_iconst (v := 0) dX0_canBe_18 rfl (by decide) ?_
    exact j_zreturn dX0_canBe_19 rfl (by decide) ⟨Nat.le_refl _, Nat.le_refl _⟩ (jf_p (fun z => .int z) hm)
  · have hm := jif_pos c2 hm
    refine j_iconst (v := 1) dX0_canBe_14 rfl (by decide) ?_
    refine j_goto (tgt := 19) dX0_canBe_15 (by decide) ?_
    exact j_zreturn dX0_canBe_19 rfl (by decide) ⟨Nat.le_refl _, Nat.le_refl _⟩ (jf_p (fun z => .int z) hm)
theorem dX0_missingOf_0 : decode cX0_missingOf 0 = .ok (.aload_n 0, 1) := by decide +kernel
theorem dX0_missingOf_1 : decode cX0_missingOf 1 = .ok (.getfield 37, 3) := by decide +kernel
theorem dX0_missingOf_4 : decode cX0_missingOf 4 = .ok (.iload_n 1, 1) := by decide +kernel
theorem dX0_missingOf_5 : decode cX0_missingOf 5 = .ok (.iaload, 1) := by decide +kernel
theorem dX0_missingOf_6 : decode cX0_missingOf 6 = .ok (.aload_n 0, 1) := by decide +kernel
theorem dX0_missingOf_7 : decode cX0_missingOf 7 = .ok (.getfield 52, 3) := by decide +kernel
theorem dX0_missingOf_10 : decode cX0_missingOf 10 = .ok (.iconst (-1), 1) := by decide +kernel
theorem dX0_missingOf_11 : decode cX0_missingOf 11 = .ok (.ixor, 1) := by decide +kernel
theorem dX0_missingOf_12 : decode cX0_missingOf 12 = .ok (.iand, 1) := by decide +kernel
theorem dX0_missingOf_13 : decode cX0_missingOf 13 = .ok (.ireturn, 1) := by decide +kernel
def mX0_missingOf (a1 : Int32) (V : jMem) : Option Int32 := (jg (jin a1 6) (some ((V.1 9 (Int32.toNatClampNeg a1)) &&& ((V.1 1 5) ^^^ (-1 : Int32)))))
set_option maxHeartbeats 4000000 in
set_option maxRecDepth 20000 in
theorem tX0_missingOf {l : Launch} {Z : jZ} {q : Nat → Nat} {a1 : Int32} {V : jMem} {r : Int32}  (hm : mX0_missingOf a1 V = some r) : CtD l Z yX0_missingOf cX0_missingOf 2 (some .int) 0 q dX [.ref (q 1), .int a1] V (some (.int r)) V := by
  refine Ct_of (L := [(0, .ref (q 1)), (1, .int a1)]) (own := RX0) (nm := "missingOf") rfl rfl (by decide +kernel) rfl (Nat.le_of_ble_eq_true rfl) ?_
  unfold mX0_missingOf at hm
  refine j_aload_n dX0_missingOf_0 rfl rfl ?_
  refine m_getr (k := 15) (r := 9) fX0_37 dX0_missingOf_1 rfl rfl rfl ?_
  refine j_iload_n dX0_missingOf_4 rfl rfl ?_
  obtain ⟨g1, hm⟩ := jg_of hm
  refine o_iald (k := (Int32.toNatClampNeg a1)) rfl dX0_missingOf_5 rfl rfl (jin_vp g1) ?_
  refine j_aload_n dX0_missingOf_6 rfl rfl ?_
  refine m_geti (k := 5) fX0_52 dX0_missingOf_7 rfl rfl rfl ?_
  refine j_iconst (v := -1) dX0_missingOf_10 rfl (by decide) ?_
  refine j_ixor dX0_missingOf_11 rfl ?_
  refine j_iand dX0_missingOf_12 rfl ?_
  exact j_ireturn dX0_missingOf_13 rfl rfl ⟨Nat.le_refl _, Nat.le_refl _⟩ (jf_p (fun z => .int z) hm)
theorem dX0_isHad_0 : decode cX0_isHad 0 = .ok (.aload_n 0, 1) := by decide +kernel
theorem dX0_isHad_1 : decode cX0_isHad 1 = .ok (.iload_n 1, 1) := by decide +kernel
theorem dX0_isHad_2 : decode cX0_isHad 2 = .ok (.invokevirtual 131, 3) := by decide +kernel
theorem dX0_isHad_5 : decode cX0_isHad 5 = .ok (.ifCond .ne 7, 3) := by decide +kernel
theorem dX0_isHad_8 : decode cX0_isHad 8 = .ok (.iconst 1, 1) := by decide +kernel
theorem dX0_isHad_9 : decode cX0_isHad 9 = .ok (.goto 4, 3) := by decide +kernel
theorem dX0_isHad_12 : decode cX0_isHad 12 = .ok (.iconst 0, 1) := by decide +kernel
theorem dX0_isHad_13 : decode cX0_isHad 13 = .ok (.ireturn, 1) := by decide +kernel
def mX0_isHad (a1 : Int32) (V : jMem) : Option Int32 := ((mX0_missingOf a1 V).bind (fun (r1 : Int32) => (if r1 = (0 : Int32) then (some (1 : Int32)) else (some (0 : Int32)))))
set_option maxHeartbeats 4000000 in
set_option maxRecDepth 20000 in
theorem tX0_isHad {l : Launch} {Z : jZ} {q : Nat → Nat} {a1 : Int32} {V : jMem} {r : Int32}  (hm : mX0_isHad a1 V = some r) : CtD l Z yX0_isHad cX0_isHad 2 (some .boolean) 1 q dX [.ref (q 1), .int a1] V (some (.int r)) V := by
  refine Ct_of (L := [(0, .ref (q 1)), (1, .int a1)]) (own := RX0) (nm := "isHad") rfl rfl (by decide +kernel) rfl (Nat.le_of_ble_eq_true rfl) ?_
  unfold mX0_isHad at hm
  refine j_aload_n dX0_isHad_0 rfl rfl ?_
  refine j_iload_n dX0_isHad_1 rfl rfl ?_
  obtain ⟨r1, er1, hm⟩ := jb_of hm
  refine o_callV_i kX0_131 dX0_isHad_2 rfl (tX0_missingOf  er1) rfl rfl rfl rfl rfl (Nat.le_of_ble_eq_true rfl) (by decide) ?_
  refine j_if_ne (tgt := 12) dX0_isHad_5 rfl (by decide) (fun c2 => ?_) (fun c2 => ?_)
  · have hm := jif_neg c2 hm
    refine j_iconst (v := 0) dX0_isHad_12 rfl (by decide) ?_
    exact j_zreturn dX0_isHad_13 rfl (by decide) ⟨Nat.le_refl _, Nat.le_refl _⟩ (jf_p (fun z => .int z) hm)
  · have hm := jif_pos c2 hm
    refine j_iconst (v := 1) dX0_isHad_8 rfl (by decide) ?_
    refine j_goto (tgt := 13) dX0_isHad_9 (by decide) ?_
    exact j_zreturn dX0_isHad_13 rfl (by decide) ⟨Nat.le_refl _, Nat.le_refl _⟩ (jf_p (fun z => .int z) hm)
theorem dX0_priceAsLast_0 : decode cX0_priceAsLast 0 = .ok (.aload_n 0, 1) := by decide +kernel
theorem dX0_priceAsLast_1 : decode cX0_priceAsLast 1 = .ok (.iload_n 2, 1) := by decide +kernel
theorem dX0_priceAsLast_2 : decode cX0_priceAsLast 2 = .ok (.aload_n 0, 1) := by decide +kernel
theorem dX0_priceAsLast_3 : decode cX0_priceAsLast 3 = .ok (.getfield 52, 3) := by decide +kernel
theorem dX0_priceAsLast_6 : decode cX0_priceAsLast 6 = .ok (.aload_n 0, 1) := by decide +kernel
theorem dX0_priceAsLast_7 : decode cX0_priceAsLast 7 = .ok (.getfield 37, 3) := by decide +kernel
theorem dX0_priceAsLast_10 : decode cX0_priceAsLast 10 = .ok (.iload_n 1, 1) := by decide +kernel
theorem dX0_priceAsLast_11 : decode cX0_priceAsLast 11 = .ok (.iaload, 1) := by decide +kernel
theorem dX0_priceAsLast_12 : decode cX0_priceAsLast 12 = .ok (.ior, 1) := by decide +kernel
theorem dX0_priceAsLast_13 : decode cX0_priceAsLast 13 = .ok (.invokevirtual 106, 3) := by decide +kernel
theorem dX0_priceAsLast_16 : decode cX0_priceAsLast 16 = .ok (.ireturn, 1) := by decide +kernel
def mX0_priceAsLast (a1 : Int32) (a2 : Int32) (V : jMem) : Option Int32 := (jg (jin a1 6) ((mX0_priceBy a2 ((V.1 1 5) ||| (V.1 9 (Int32.toNatClampNeg a1))) V).bind (fun (r2 : Int32) => (some r2))))
set_option maxHeartbeats 4000000 in
set_option maxRecDepth 20000 in
theorem tX0_priceAsLast {l : Launch} {Z : jZ} {q : Nat → Nat} {a1 : Int32} {a2 : Int32} {V : jMem} {r : Int32}  (hm : mX0_priceAsLast a1 a2 V = some r) : CtD l Z yX0_priceAsLast cX0_priceAsLast 3 (some .int) 5 q dX [.ref (q 1), .int a1, .int a2] V (some (.int r)) V := by
  refine Ct_of (L := [(0, .ref (q 1)), (1, .int a1), (2, .int a2)]) (own := RX0) (nm := "priceAsLast") rfl rfl (by decide +kernel) rfl (Nat.le_of_ble_eq_true rfl) ?_
  unfold mX0_priceAsLast at hm
  refine j_aload_n dX0_priceAsLast_0 rfl rfl ?_
  refine j_iload_n dX0_priceAsLast_1 rfl rfl ?_
  refine j_aload_n dX0_priceAsLast_2 rfl rfl ?_
  refine m_geti (k := 5) fX0_52 dX0_priceAsLast_3 rfl rfl rfl ?_
  refine j_aload_n dX0_priceAsLast_6 rfl rfl ?_
  refine m_getr (k := 15) (r := 9) fX0_37 dX0_priceAsLast_7 rfl rfl rfl ?_
  refine j_iload_n dX0_priceAsLast_10 rfl rfl ?_
  obtain ⟨g1, hm⟩ := jg_of hm
  refine o_iald (k := (Int32.toNatClampNeg a1)) rfl dX0_priceAsLast_11 rfl rfl (jin_vp g1) ?_
  refine j_ior dX0_priceAsLast_12 rfl ?_
  obtain ⟨r2, er2, hm⟩ := jb_of hm
  refine o_callV_i kX0_106 dX0_priceAsLast_13 rfl (tX0_priceBy  er2) rfl rfl rfl rfl rfl (Nat.le_of_ble_eq_true rfl) (by decide) ?_
  exact j_ireturn dX0_priceAsLast_16 rfl rfl ⟨Nat.le_refl _, Nat.le_refl _⟩ (jf_p (fun z => .int z) hm)
theorem dX0_dearestLast_0 : decode cX0_dearestLast 0 = .ok (.iconst (-1), 1) := by decide +kernel
theorem dX0_dearestLast_1 : decode cX0_dearestLast 1 = .ok (.istore_n 2, 1) := by decide +kernel
theorem dX0_dearestLast_2 : decode cX0_dearestLast 2 = .ok (.iconst 0, 1) := by decide +kernel
theorem dX0_dearestLast_3 : decode cX0_dearestLast 3 = .ok (.istore_n 3, 1) := by decide +kernel
theorem dX0_dearestLast_4 : decode cX0_dearestLast 4 = .ok (.iconst 0, 1) := by decide +kernel
theorem dX0_dearestLast_5 : decode cX0_dearestLast 5 = .ok (.istore 4, 2) := by decide +kernel
theorem dX0_dearestLast_7 : decode cX0_dearestLast 7 = .ok (.iload 4, 2) := by decide +kernel
theorem dX0_dearestLast_9 : decode cX0_dearestLast 9 = .ok (.aload_n 0, 1) := by decide +kernel
theorem dX0_dearestLast_10 : decode cX0_dearestLast 10 = .ok (.getfield 43, 3) := by decide +kernel
theorem dX0_dearestLast_13 : decode cX0_dearestLast 13 = .ok (.if_icmp .ge 47, 3) := by decide +kernel
theorem dX0_dearestLast_16 : decode cX0_dearestLast 16 = .ok (.iload 4, 2) := by decide +kernel
theorem dX0_dearestLast_18 : decode cX0_dearestLast 18 = .ok (.aload_n 0, 1) := by decide +kernel
theorem dX0_dearestLast_19 : decode cX0_dearestLast 19 = .ok (.iload_n 1, 1) := by decide +kernel
theorem dX0_dearestLast_20 : decode cX0_dearestLast 20 = .ok (.invokevirtual 131, 3) := by decide +kernel
theorem dX0_dearestLast_23 : decode cX0_dearestLast 23 = .ok (.invokestatic 83, 3) := by decide +kernel
theorem dX0_dearestLast_26 : decode cX0_dearestLast 26 = .ok (.ifCond .eq 28, 3) := by decide +kernel
theorem dX0_dearestLast_29 : decode cX0_dearestLast 29 = .ok (.aload_n 0, 1) := by decide +kernel
theorem dX0_dearestLast_30 : decode cX0_dearestLast 30 = .ok (.iload_n 1, 1) := by decide +kernel
theorem dX0_dearestLast_31 : decode cX0_dearestLast 31 = .ok (.iload 4, 2) := by decide +kernel
theorem dX0_dearestLast_33 : decode cX0_dearestLast 33 = .ok (.invokevirtual 134, 3) := by decide +kernel
theorem dX0_dearestLast_36 : decode cX0_dearestLast 36 = .ok (.istore 5, 2) := by decide +kernel
theorem dX0_dearestLast_38 : decode cX0_dearestLast 38 = .ok (.iload_n 2, 1) := by decide +kernel
theorem dX0_dearestLast_39 : decode cX0_dearestLast 39 = .ok (.ifCond .lt 9, 3) := by decide +kernel
theorem dX0_dearestLast_42 : decode cX0_dearestLast 42 = .ok (.iload 5, 2) := by decide +kernel
theorem dX0_dearestLast_44 : decode cX0_dearestLast 44 = .ok (.iload_n 3, 1) := by decide +kernel
theorem dX0_dearestLast_45 : decode cX0_dearestLast 45 = .ok (.if_icmp .le 9, 3) := by decide +kernel
theorem dX0_dearestLast_48 : decode cX0_dearestLast 48 = .ok (.iload 4, 2) := by decide +kernel
theorem dX0_dearestLast_50 : decode cX0_dearestLast 50 = .ok (.istore_n 2, 1) := by decide +kernel
theorem dX0_dearestLast_51 : decode cX0_dearestLast 51 = .ok (.iload 5, 2) := by decide +kernel
theorem dX0_dearestLast_53 : decode cX0_dearestLast 53 = .ok (.istore_n 3, 1) := by decide +kernel
theorem dX0_dearestLast_54 : decode cX0_dearestLast 54 = .ok (.iinc 4 1, 3) := by decide +kernel
theorem dX0_dearestLast_57 : decode cX0_dearestLast 57 = .ok (.goto (-50), 3) := by decide +kernel
theorem dX0_dearestLast_60 : decode cX0_dearestLast 60 = .ok (.iload_n 2, 1) := by decide +kernel
theorem dX0_dearestLast_61 : decode cX0_dearestLast 61 = .ok (.ireturn, 1) := by decide +kernel
def mX0_dearestLast_b54 (V : jMem) (k7 : Int32 → Int32 → Int32 → Int32 → Option Int32) (a1 : Int32) (a2 : Int32) (a3 : Int32) (a4 : Int32) : Option Int32 := (k7 a1 a2 a3 (a4 + (1 : Int32)))
set_option maxHeartbeats 4000000 in
set_option maxRecDepth 20000 in
theorem tX0_dearestLast_b54 {l : Launch} {Z : jZ} {q : Nat → Nat} {V : jMem} {k7 : Int32 → Int32 → Int32 → Int32 → Option Int32} {a1 : Int32} {a2 : Int32} {a3 : Int32} {a4 : Int32} {r : Int32}   (hk7 : ∀ (a1 : Int32) (a2 : Int32) (a3 : Int32) (a4 : Int32), k7 a1 a2 a3 a4 = some r → J l Z RX0 "dearestLast" cX0_dearestLast 6 (some .int) 6 0 0 (fun r' w => r' = some (.int r) ∧ w = jw Z q V dX) 7 [(0, .ref (q 1)), (1, .int a1), (2, .int a2), (3, .int a3), (4, .int a4)] [] (jw Z q V dX) 0 0) (hm : mX0_dearestLast_b54 V k7 a1 a2 a3 a4 = some r) : J l Z RX0 "dearestLast" cX0_dearestLast 6 (some .int) 6 0 0 (fun r' w => r' = some (.int r) ∧ w = jw Z q V dX) 54 [(0, .ref (q 1)), (1, .int a1), (2, .int a2), (3, .int a3), (4, .int a4)] [] (jw Z q V dX) 0 0 := by
  unfold mX0_dearestLast_b54 at hm
  refine j_iinc (v := (a4 + (1 : Int32))) (L' := [(4, _), (0, _), (1, _), (2, _), (3, _)]) dX0_dearestLast_54 rfl rfl rfl (by decide) rfl ?_
  refine j_goto (tgt := 7) dX0_dearestLast_57 (by decide) ?_
  refine j_sub (L' := [(0, _), (1, _), (2, _), (3, _), (4, _)]) [1, 2, 3, 4, 0] rfl ?_
  exact hk7 _ _ _ _  hm
def mX0_dearestLast_b48 (V : jMem) (k7 : Int32 → Int32 → Int32 → Int32 → Option Int32) (a1 : Int32) (a4 : Int32) (a5 : Int32) : Option Int32 := (mX0_dearestLast_b54 V k7 a1 a4 a5 a4)
set_option maxHeartbeats 4000000 in
set_option maxRecDepth 20000 in
theorem tX0_dearestLast_b48 {l : Launch} {Z : jZ} {q : Nat → Nat} {V : jMem} {k7 : Int32 → Int32 → Int32 → Int32 → Option Int32} {a1 : Int32} {a4 : Int32} {a5 : Int32} {r : Int32}   (hk7 : ∀ (a1 : Int32) (a2 : Int32) (a3 : Int32) (a4 : Int32), k7 a1 a2 a3 a4 = some r → J l Z RX0 "dearestLast" cX0_dearestLast 6 (some .int) 6 0 0 (fun r' w => r' = some (.int r) ∧ w = jw Z q V dX) 7 [(0, .ref (q 1)), (1, .int a1), (2, .int a2), (3, .int a3), (4, .int a4)] [] (jw Z q V dX) 0 0) (hm : mX0_dearestLast_b48 V k7 a1 a4 a5 = some r) : J l Z RX0 "dearestLast" cX0_dearestLast 6 (some .int) 6 0 0 (fun r' w => r' = some (.int r) ∧ w = jw Z q V dX) 48 [(0, .ref (q 1)), (1, .int a1), (4, .int a4), (5, .int a5)] [] (jw Z q V dX) 0 0 := by
  unfold mX0_dearestLast_b48 at hm
  refine j_iload dX0_dearestLast_48 rfl rfl ?_
  refine j_istore_n (i := 2) (L' := [(2, _), (0, _), (1, _), (4, _), (5, _)]) dX0_dearestLast_50 rfl rfl (by decide) rfl ?_
  refine j_iload dX0_dearestLast_51 rfl rfl ?_
  refine j_istore_n (i := 3) (L' := [(3, _), (2, _), (0, _), (1, _), (4, _), (5, _)]) dX0_dearestLast_53 rfl rfl (by decide) rfl ?_
  refine j_sub (L' := [(0, _), (1, _), (2, _), (3, _), (4, _)]) [2, 3, 1, 0, 4] rfl ?_
  exact tX0_dearestLast_b54   hk7 hm
def mX0_dearestLast_b7 (V : jMem)  : Nat → Int32 → Int32 → Int32 → Int32 → Option Int32
  | 0, _, _, _, _ => none
  | n + 1, a1, a2, a3, a4 => (if (V.1 1 0) ≤ a4 then (some a2) else ((mX0_missingOf a1 V).bind (fun (r2 : Int32) => (if (mX4_isIn a4 r2) = (0 : Int32) then (mX0_dearestLast_b54 V (mX0_dearestLast_b7 V n) a1 a2 a3 a4) else ((mX0_priceAsLast a1 a4 V).bind (fun (r4 : Int32) => (if a2 < (0 : Int32) then (mX0_dearestLast_b48 V (mX0_dearestLast_b7 V n) a1 a4 r4) else (if r4 ≤ a3 then (mX0_dearestLast_b54 V (mX0_dearestLast_b7 V n) a1 a2 a3 a4) else (mX0_dearestLast_b48 V (mX0_dearestLast_b7 V n) a1 a4 r4)))))))))
set_option maxHeartbeats 4000000 in
set_option maxRecDepth 20000 in
theorem tX0_dearestLast_b7 {l : Launch} {Z : jZ} {q : Nat → Nat} {V : jMem} {r : Int32}   (n : Nat) : ∀ (a1 : Int32) (a2 : Int32) (a3 : Int32) (a4 : Int32), mX0_dearestLast_b7 V n a1 a2 a3 a4 = some r → J l Z RX0 "dearestLast" cX0_dearestLast 6 (some .int) 6 0 0 (fun r' w => r' = some (.int r) ∧ w = jw Z q V dX) 7 [(0, .ref (q 1)), (1, .int a1), (2, .int a2), (3, .int a3), (4, .int a4)] [] (jw Z q V dX) 0 0 := by
  induction n with
  | zero => intro a1 a2 a3 a4 hm; cases hm
  | succ n ih =>
    intro a1 a2 a3 a4 hm
    rw [mX0_dearestLast_b7] at hm
    refine j_iload dX0_dearestLast_7 rfl rfl ?_
    refine j_aload_n dX0_dearestLast_9 rfl rfl ?_
    refine m_geti (k := 0) fX0_43 dX0_dearestLast_10 rfl rfl rfl ?_
    refine j_icmp_ge (tgt := 60) dX0_dearestLast_13 rfl (by decide) (fun c1 => ?_) (fun c1 => ?_)
    · have hm := jif_pos c1 hm
      refine j_iload_n dX0_dearestLast_60 rfl rfl ?_
      exact j_ireturn dX0_dearestLast_61 rfl rfl ⟨Nat.le_refl _, Nat.le_refl _⟩ (jf_p (fun z => .int z) hm)
    · have hm := jif_neg c1 hm
      refine j_iload dX0_dearestLast_16 rfl rfl ?_
      refine j_aload_n dX0_dearestLast_18 rfl rfl ?_
      refine j_iload_n dX0_dearestLast_19 rfl rfl ?_
      obtain ⟨r2, er2, hm⟩ := jb_of hm
      refine o_callV_i kX0_131 dX0_dearestLast_20 rfl (tX0_missingOf  er2) rfl rfl rfl rfl rfl (Nat.le_of_ble_eq_true rfl) (by decide) ?_
      refine o_callS_i kX0_83 dX0_dearestLast_23 rfl (tX4_isIn  rfl) rfl rfl (Nat.le_of_ble_eq_true rfl) (by decide) ?_
      refine j_if_eq (tgt := 54) dX0_dearestLast_26 rfl (by decide) (fun c3 => ?_) (fun c3 => ?_)
      · have hm := jif_pos c3 hm
        exact tX0_dearestLast_b54   ih hm
      · have hm := jif_neg c3 hm
        refine j_aload_n dX0_dearestLast_29 rfl rfl ?_
        refine j_iload_n dX0_dearestLast_30 rfl rfl ?_
        refine j_iload dX0_dearestLast_31 rfl rfl ?_
        obtain ⟨r4, er4, hm⟩ := jb_of hm
        refine o_callV_i kX0_134 dX0_dearestLast_33 rfl (tX0_priceAsLast  er4) rfl rfl rfl rfl rfl (Nat.le_of_ble_eq_true rfl) (by decide) ?_
        refine j_istore (L' := [(5, _), (0, _), (1, _), (2, _), (3, _), (4, _)]) dX0_dearestLast_36 rfl (by decide) rfl ?_
        refine j_iload_n dX0_dearestLast_38 rfl rfl ?_
        refine j_if_lt (tgt := 48) dX0_dearestLast_39 rfl (by decide) (fun c5 => ?_) (fun c5 => ?_)
        · have hm := jif_pos c5 hm
          refine j_sub (L' := [(0, _), (1, _), (4, _), (5, _)]) [1, 2, 5, 0] rfl ?_
          exact tX0_dearestLast_b48   ih hm
        · have hm := jif_neg c5 hm
          refine j_iload dX0_dearestLast_42 rfl rfl ?_
          refine j_iload_n dX0_dearestLast_44 rfl rfl ?_
          refine j_icmp_le (tgt := 54) dX0_dearestLast_45 rfl (by decide) (fun c6 => ?_) (fun c6 => ?_)
          · have hm := jif_pos c6 hm
            refine j_sub (L' := [(0, _), (1, _), (2, _), (3, _), (4, _)]) [1, 2, 3, 4, 5] rfl ?_
            exact tX0_dearestLast_b54   ih hm
          · have hm := jif_neg c6 hm
            refine j_sub (L' := [(0, _), (1, _), (4, _), (5, _)]) [1, 2, 5, 0] rfl ?_
            exact tX0_dearestLast_b48   ih hm
def mX0_dearestLast (a1 : Int32) (V : jMem) : Option Int32 := (mX0_dearestLast_b7 V 2000 a1 (-1 : Int32) (0 : Int32) (0 : Int32))
set_option maxHeartbeats 4000000 in
set_option maxRecDepth 20000 in
theorem tX0_dearestLast {l : Launch} {Z : jZ} {q : Nat → Nat} {a1 : Int32} {V : jMem} {r : Int32}  (hm : mX0_dearestLast a1 V = some r) : CtD l Z yX0_dearestLast cX0_dearestLast 6 (some .int) 6 q dX [.ref (q 1), .int a1] V (some (.int r)) V := by
  refine Ct_of (L := [(0, .ref (q 1)), (1, .int a1)]) (own := RX0) (nm := "dearestLast") rfl rfl (by decide +kernel) rfl (Nat.le_of_ble_eq_true rfl) ?_
  unfold mX0_dearestLast at hm
  refine j_iconst (v := -1) dX0_dearestLast_0 rfl (by decide) ?_
  refine j_istore_n (i := 2) (L' := [(2, _), (0, _), (1, _)]) dX0_dearestLast_1 rfl rfl (by decide) rfl ?_
  refine j_iconst (v := 0) dX0_dearestLast_2 rfl (by decide) ?_
  refine j_istore_n (i := 3) (L' := [(3, _), (2, _), (0, _), (1, _)]) dX0_dearestLast_3 rfl rfl (by decide) rfl ?_
  refine j_iconst (v := 0) dX0_dearestLast_4 rfl (by decide) ?_
  refine j_istore (L' := [(4, _), (3, _), (2, _), (0, _), (1, _)]) dX0_dearestLast_5 rfl (by decide) rfl ?_
  refine j_sub (L' := [(0, _), (1, _), (2, _), (3, _), (4, _)]) [3, 4, 2, 1, 0] rfl ?_
  exact tX0_dearestLast_b7   _ _ _ _ _  hm
theorem dX0_quietestFirst_0 : decode cX0_quietestFirst 0 = .ok (.iconst (-1), 1) := by decide +kernel
theorem dX0_quietestFirst_1 : decode cX0_quietestFirst 1 = .ok (.istore_n 2, 1) := by decide +kernel
theorem dX0_quietestFirst_2 : decode cX0_quietestFirst 2 = .ok (.iconst 0, 1) := by decide +kernel
theorem dX0_quietestFirst_3 : decode cX0_quietestFirst 3 = .ok (.istore_n 3, 1) := by decide +kernel
theorem dX0_quietestFirst_4 : decode cX0_quietestFirst 4 = .ok (.iconst 0, 1) := by decide +kernel
theorem dX0_quietestFirst_5 : decode cX0_quietestFirst 5 = .ok (.istore 4, 2) := by decide +kernel
theorem dX0_quietestFirst_7 : decode cX0_quietestFirst 7 = .ok (.iload 4, 2) := by decide +kernel
theorem dX0_quietestFirst_9 : decode cX0_quietestFirst 9 = .ok (.aload_n 0, 1) := by decide +kernel
theorem dX0_quietestFirst_10 : decode cX0_quietestFirst 10 = .ok (.getfield 43, 3) := by decide +kernel
theorem dX0_quietestFirst_13 : decode cX0_quietestFirst 13 = .ok (.if_icmp .ge 59, 3) := by decide +kernel
theorem dX0_quietestFirst_16 : decode cX0_quietestFirst 16 = .ok (.iload 4, 2) := by decide +kernel
theorem dX0_quietestFirst_18 : decode cX0_quietestFirst 18 = .ok (.iload_n 1, 1) := by decide +kernel
theorem dX0_quietestFirst_19 : decode cX0_quietestFirst 19 = .ok (.invokestatic 83, 3) := by decide +kernel
theorem dX0_quietestFirst_22 : decode cX0_quietestFirst 22 = .ok (.ifCond .eq 44, 3) := by decide +kernel
theorem dX0_quietestFirst_25 : decode cX0_quietestFirst 25 = .ok (.iconst 1, 1) := by decide +kernel
theorem dX0_quietestFirst_26 : decode cX0_quietestFirst 26 = .ok (.iload 4, 2) := by decide +kernel
theorem dX0_quietestFirst_28 : decode cX0_quietestFirst 28 = .ok (.ishl, 1) := by decide +kernel
theorem dX0_quietestFirst_29 : decode cX0_quietestFirst 29 = .ok (.istore 5, 2) := by decide +kernel
theorem dX0_quietestFirst_31 : decode cX0_quietestFirst 31 = .ok (.aload_n 0, 1) := by decide +kernel
theorem dX0_quietestFirst_32 : decode cX0_quietestFirst 32 = .ok (.iload_n 1, 1) := by decide +kernel
theorem dX0_quietestFirst_33 : decode cX0_quietestFirst 33 = .ok (.iload 5, 2) := by decide +kernel
theorem dX0_quietestFirst_35 : decode cX0_quietestFirst 35 = .ok (.iconst (-1), 1) := by decide +kernel
theorem dX0_quietestFirst_36 : decode cX0_quietestFirst 36 = .ok (.ixor, 1) := by decide +kernel
theorem dX0_quietestFirst_37 : decode cX0_quietestFirst 37 = .ok (.iand, 1) := by decide +kernel
theorem dX0_quietestFirst_38 : decode cX0_quietestFirst 38 = .ok (.aload_n 0, 1) := by decide +kernel
theorem dX0_quietestFirst_39 : decode cX0_quietestFirst 39 = .ok (.getfield 52, 3) := by decide +kernel
theorem dX0_quietestFirst_42 : decode cX0_quietestFirst 42 = .ok (.iload 5, 2) := by decide +kernel
theorem dX0_quietestFirst_44 : decode cX0_quietestFirst 44 = .ok (.ior, 1) := by decide +kernel
theorem dX0_quietestFirst_45 : decode cX0_quietestFirst 45 = .ok (.invokevirtual 137, 3) := by decide +kernel
theorem dX0_quietestFirst_48 : decode cX0_quietestFirst 48 = .ok (.istore 6, 2) := by decide +kernel
theorem dX0_quietestFirst_50 : decode cX0_quietestFirst 50 = .ok (.iload_n 2, 1) := by decide +kernel
theorem dX0_quietestFirst_51 : decode cX0_quietestFirst 51 = .ok (.ifCond .lt 9, 3) := by decide +kernel
theorem dX0_quietestFirst_54 : decode cX0_quietestFirst 54 = .ok (.iload 6, 2) := by decide +kernel
theorem dX0_quietestFirst_56 : decode cX0_quietestFirst 56 = .ok (.iload_n 3, 1) := by decide +kernel
theorem dX0_quietestFirst_57 : decode cX0_quietestFirst 57 = .ok (.if_icmp .ge 9, 3) := by decide +kernel
theorem dX0_quietestFirst_60 : decode cX0_quietestFirst 60 = .ok (.iload 4, 2) := by decide +kernel
theorem dX0_quietestFirst_62 : decode cX0_quietestFirst 62 = .ok (.istore_n 2, 1) := by decide +kernel
theorem dX0_quietestFirst_63 : decode cX0_quietestFirst 63 = .ok (.iload 6, 2) := by decide +kernel
theorem dX0_quietestFirst_65 : decode cX0_quietestFirst 65 = .ok (.istore_n 3, 1) := by decide +kernel
theorem dX0_quietestFirst_66 : decode cX0_quietestFirst 66 = .ok (.iinc 4 1, 3) := by decide +kernel
theorem dX0_quietestFirst_69 : decode cX0_quietestFirst 69 = .ok (.goto (-62), 3) := by decide +kernel
theorem dX0_quietestFirst_72 : decode cX0_quietestFirst 72 = .ok (.iload_n 2, 1) := by decide +kernel
theorem dX0_quietestFirst_73 : decode cX0_quietestFirst 73 = .ok (.ireturn, 1) := by decide +kernel
def mX0_quietestFirst_b66 (V : jMem) (k7 : Int32 → Int32 → Int32 → Int32 → Option Int32) (a1 : Int32) (a2 : Int32) (a3 : Int32) (a4 : Int32) : Option Int32 := (k7 a1 a2 a3 (a4 + (1 : Int32)))
set_option maxHeartbeats 4000000 in
set_option maxRecDepth 20000 in
theorem tX0_quietestFirst_b66 {l : Launch} {Z : jZ} {q : Nat → Nat} {V : jMem} {k7 : Int32 → Int32 → Int32 → Int32 → Option Int32} {a1 : Int32} {a2 : Int32} {a3 : Int32} {a4 : Int32} {r : Int32}   (hk7 : ∀ (a1 : Int32) (a2 : Int32) (a3 : Int32) (a4 : Int32), k7 a1 a2 a3 a4 = some r → J l Z RX0 "quietestFirst" cX0_quietestFirst 7 (some .int) 6 0 0 (fun r' w => r' = some (.int r) ∧ w = jw Z q V dX) 7 [(0, .ref (q 1)), (1, .int a1), (2, .int a2), (3, .int a3), (4, .int a4)] [] (jw Z q V dX) 0 0) (hm : mX0_quietestFirst_b66 V k7 a1 a2 a3 a4 = some r) : J l Z RX0 "quietestFirst" cX0_quietestFirst 7 (some .int) 6 0 0 (fun r' w => r' = some (.int r) ∧ w = jw Z q V dX) 66 [(0, .ref (q 1)), (1, .int a1), (2, .int a2), (3, .int a3), (4, .int a4)] [] (jw Z q V dX) 0 0 := by
  unfold mX0_quietestFirst_b66 at hm
  refine j_iinc (v := (a4 + (1 : Int32))) (L' := [(4, _), (0, _), (1, _), (2, _), (3, _)]) dX0_quietestFirst_66 rfl rfl rfl (by decide) rfl ?_
  refine j_goto (tgt := 7) dX0_quietestFirst_69 (by decide) ?_
  refine j_sub (L' := [(0, _), (1, _), (2, _), (3, _), (4, _)]) [1, 2, 3, 4, 0] rfl ?_
  exact hk7 _ _ _ _  hm
def mX0_quietestFirst_b60 (V : jMem) (k7 : Int32 → Int32 → Int32 → Int32 → Option Int32) (a1 : Int32) (a4 : Int32) (a6 : Int32) : Option Int32 := (mX0_quietestFirst_b66 V k7 a1 a4 a6 a4)
set_option maxHeartbeats 4000000 in
set_option maxRecDepth 20000 in
theorem tX0_quietestFirst_b60 {l : Launch} {Z : jZ} {q : Nat → Nat} {V : jMem} {k7 : Int32 → Int32 → Int32 → Int32 → Option Int32} {a1 : Int32} {a4 : Int32} {a6 : Int32} {r : Int32}   (hk7 : ∀ (a1 : Int32) (a2 : Int32) (a3 : Int32) (a4 : Int32), k7 a1 a2 a3 a4 = some r → J l Z RX0 "quietestFirst" cX0_quietestFirst 7 (some .int) 6 0 0 (fun r' w => r' = some (.int r) ∧ w = jw Z q V dX) 7 [(0, .ref (q 1)), (1, .int a1), (2, .int a2), (3, .int a3), (4, .int a4)] [] (jw Z q V dX) 0 0) (hm : mX0_quietestFirst_b60 V k7 a1 a4 a6 = some r) : J l Z RX0 "quietestFirst" cX0_quietestFirst 7 (some .int) 6 0 0 (fun r' w => r' = some (.int r) ∧ w = jw Z q V dX) 60 [(0, .ref (q 1)), (1, .int a1), (4, .int a4), (6, .int a6)] [] (jw Z q V dX) 0 0 := by
  unfold mX0_quietestFirst_b60 at hm
  refine j_iload dX0_quietestFirst_60 rfl rfl ?_
  refine j_istore_n (i := 2) (L' := [(2, _), (0, _), (1, _), (4, _), (6, _)]) dX0_quietestFirst_62 rfl rfl (by decide) rfl ?_
  refine j_iload dX0_quietestFirst_63 rfl rfl ?_
  refine j_istore_n (i := 3) (L' := [(3, _), (2, _), (0, _), (1, _), (4, _), (6, _)]) dX0_quietestFirst_65 rfl rfl (by decide) rfl ?_
  refine j_sub (L' := [(0, _), (1, _), (2, _), (3, _), (4, _)]) [2, 3, 1, 0, 4] rfl ?_
  exact tX0_quietestFirst_b66   hk7 hm
def mX0_quietestFirst_b7 (V : jMem)  : Nat → Int32 → Int32 → Int32 → Int32 → Option Int32
  | 0, _, _, _, _ => none
  | n + 1, a1, a2, a3, a4 => (if (V.1 1 0) ≤ a4 then (some a2) else (if (mX4_isIn a4 a1) = (0 : Int32) then (mX0_quietestFirst_b66 V (mX0_quietestFirst_b7 V n) a1 a2 a3 a4) else ((mX0_pricesIn (a1 &&& (((1 : Int32) <<< (a4 &&& (31 : Int32))) ^^^ (-1 : Int32))) ((V.1 1 5) ||| ((1 : Int32) <<< (a4 &&& (31 : Int32)))) V).bind (fun (r3 : Int32) => (if a2 < (0 : Int32) then (mX0_quietestFirst_b60 V (mX0_quietestFirst_b7 V n) a1 a4 r3) else (if a3 ≤ r3 then (mX0_quietestFirst_b66 V (mX0_quietestFirst_b7 V n) a1 a2 a3 a4) else (mX0_quietestFirst_b60 V (mX0_quietestFirst_b7 V n) a1 a4 r3)))))))
set_option maxHeartbeats 4000000 in
set_option maxRecDepth 20000 in
theorem tX0_quietestFirst_b7 {l : Launch} {Z : jZ} {q : Nat → Nat} {V : jMem} {r : Int32}   (n : Nat) : ∀ (a1 : Int32) (a2 : Int32) (a3 : Int32) (a4 : Int32), mX0_quietestFirst_b7 V n a1 a2 a3 a4 = some r → J l Z RX0 "quietestFirst" cX0_quietestFirst 7 (some .int) 6 0 0 (fun r' w => r' = some (.int r) ∧ w = jw Z q V dX) 7 [(0, .ref (q 1)), (1, .int a1), (2, .int a2), (3, .int a3), (4, .int a4)] [] (jw Z q V dX) 0 0 := by
  induction n with
  | zero => intro a1 a2 a3 a4 hm; cases hm
  | succ n ih =>
    intro a1 a2 a3 a4 hm
    rw [mX0_quietestFirst_b7] at hm
    refine j_iload dX0_quietestFirst_7 rfl rfl ?_
    refine j_aload_n dX0_quietestFirst_9 rfl rfl ?_
    refine m_geti (k := 0) fX0_43 dX0_quietestFirst_10 rfl rfl rfl ?_
    refine j_icmp_ge (tgt := 72) dX0_quietestFirst_13 rfl (by decide) (fun c1 => ?_) (fun c1 => ?_)
    · have hm := jif_pos c1 hm
      refine j_iload_n dX0_quietestFirst_72 rfl rfl ?_
      exact j_ireturn dX0_quietestFirst_73 rfl rfl ⟨Nat.le_refl _, Nat.le_refl _⟩ (jf_p (fun z => .int z) hm)
    · have hm := jif_neg c1 hm
      refine j_iload dX0_quietestFirst_16 rfl rfl ?_
      refine j_iload_n dX0_quietestFirst_18 rfl rfl ?_
      refine o_callS_i kX0_83 dX0_quietestFirst_19 rfl (tX4_isIn  rfl) rfl rfl (Nat.le_of_ble_eq_true rfl) (by decide) ?_
      refine j_if_eq (tgt := 66) dX0_quietestFirst_22 rfl (by decide) (fun c2 => ?_) (fun c2 => ?_)
      · have hm := jif_pos c2 hm
        exact tX0_quietestFirst_b66   ih hm
      · have hm := jif_neg c2 hm
        refine j_iconst (v := 1) dX0_quietestFirst_25 rfl (by decide) ?_
        refine j_iload dX0_quietestFirst_26 rfl rfl ?_
        refine j_ishl dX0_quietestFirst_28 rfl ?_
        refine j_istore (L' := [(5, _), (0, _), (1, _), (2, _), (3, _), (4, _)]) dX0_quietestFirst_29 rfl (by decide) rfl ?_
        refine j_aload_n dX0_quietestFirst_31 rfl rfl ?_
        refine j_iload_n dX0_quietestFirst_32 rfl rfl ?_
        refine j_iload dX0_quietestFirst_33 rfl rfl ?_
        refine j_iconst (v := -1) dX0_quietestFirst_35 rfl (by decide) ?_
        refine j_ixor dX0_quietestFirst_36 rfl ?_
        refine j_iand dX0_quietestFirst_37 rfl ?_
        refine j_aload_n dX0_quietestFirst_38 rfl rfl ?_
        refine m_geti (k := 5) fX0_52 dX0_quietestFirst_39 rfl rfl rfl ?_
        refine j_iload dX0_quietestFirst_42 rfl rfl ?_
        refine j_ior dX0_quietestFirst_44 rfl ?_
        obtain ⟨r3, er3, hm⟩ := jb_of hm
        refine o_callV_i kX0_137 dX0_quietestFirst_45 rfl (tX0_pricesIn  er3) rfl rfl rfl rfl rfl (Nat.le_of_ble_eq_true rfl) (by decide) ?_
        refine j_istore (L' := [(6, _), (5, _), (0, _), (1, _), (2, _), (3, _), (4, _)]) dX0_quietestFirst_48 rfl (by decide) rfl ?_
        refine j_iload_n dX0_quietestFirst_50 rfl rfl ?_
        refine j_if_lt (tgt := 60) dX0_quietestFirst_51 rfl (by decide) (fun c4 => ?_) (fun c4 => ?_)
        · have hm := jif_pos c4 hm
          refine j_sub (L' := [(0, _), (1, _), (4, _), (6, _)]) [2, 3, 6, 0] rfl ?_
          exact tX0_quietestFirst_b60   ih hm
        · have hm := jif_neg c4 hm
          refine j_iload dX0_quietestFirst_54 rfl rfl ?_
          refine j_iload_n dX0_quietestFirst_56 rfl rfl ?_
          refine j_icmp_ge (tgt := 66) dX0_quietestFirst_57 rfl (by decide) (fun c5 => ?_) (fun c5 => ?_)
          · have hm := jif_pos c5 hm
            refine j_sub (L' := [(0, _), (1, _), (2, _), (3, _), (4, _)]) [2, 3, 4, 5, 6] rfl ?_
            exact tX0_quietestFirst_b66   ih hm
          · have hm := jif_neg c5 hm
            refine j_sub (L' := [(0, _), (1, _), (4, _), (6, _)]) [2, 3, 6, 0] rfl ?_
            exact tX0_quietestFirst_b60   ih hm
def mX0_quietestFirst (a1 : Int32) (V : jMem) : Option Int32 := (mX0_quietestFirst_b7 V 2000 a1 (-1 : Int32) (0 : Int32) (0 : Int32))
set_option maxHeartbeats 4000000 in
set_option maxRecDepth 20000 in
theorem tX0_quietestFirst {l : Launch} {Z : jZ} {q : Nat → Nat} {a1 : Int32} {V : jMem} {r : Int32}  (hm : mX0_quietestFirst a1 V = some r) : CtD l Z yX0_quietestFirst cX0_quietestFirst 7 (some .int) 6 q dX [.ref (q 1), .int a1] V (some (.int r)) V := by
  refine Ct_of (L := [(0, .ref (q 1)), (1, .int a1)]) (own := RX0) (nm := "quietestFirst") rfl rfl (by decide +kernel) rfl (Nat.le_of_ble_eq_true rfl) ?_
  unfold mX0_quietestFirst at hm
  refine j_iconst (v := -1) dX0_quietestFirst_0 rfl (by decide) ?_
  refine j_istore_n (i := 2) (L' := [(2, _), (0, _), (1, _)]) dX0_quietestFirst_1 rfl rfl (by decide) rfl ?_
  refine j_iconst (v := 0) dX0_quietestFirst_2 rfl (by decide) ?_
  refine j_istore_n (i := 3) (L' := [(3, _), (2, _), (0, _), (1, _)]) dX0_quietestFirst_3 rfl rfl (by decide) rfl ?_
  refine j_iconst (v := 0) dX0_quietestFirst_4 rfl (by decide) ?_
  refine j_istore (L' := [(4, _), (3, _), (2, _), (0, _), (1, _)]) dX0_quietestFirst_5 rfl (by decide) rfl ?_
  refine j_sub (L' := [(0, _), (1, _), (2, _), (3, _), (4, _)]) [3, 4, 2, 1, 0] rfl ?_
  exact tX0_quietestFirst_b7   _ _ _ _ _  hm
theorem dX1_layRow_0 : decode cX1_layRow 0 = .ok (.aload_n 0, 1) := by decide +kernel
theorem dX1_layRow_1 : decode cX1_layRow 1 = .ok (.iconst 0, 1) := by decide +kernel
theorem dX1_layRow_2 : decode cX1_layRow 2 = .ok (.putfield 28, 3) := by decide +kernel
theorem dX1_layRow_5 : decode cX1_layRow 5 = .ok (.iconst 0, 1) := by decide +kernel
theorem dX1_layRow_6 : decode cX1_layRow 6 = .ok (.istore_n 3, 1) := by decide +kernel
theorem dX1_layRow_7 : decode cX1_layRow 7 = .ok (.iload_n 3, 1) := by decide +kernel
theorem dX1_layRow_8 : decode cX1_layRow 8 = .ok (.aload_n 1, 1) := by decide +kernel
theorem dX1_layRow_9 : decode cX1_layRow 9 = .ok (.getfield 46, 3) := by decide +kernel
theorem dX1_layRow_12 : decode cX1_layRow 12 = .ok (.if_icmp .ge 46, 3) := by decide +kernel
theorem dX1_layRow_15 : decode cX1_layRow 15 = .ok (.aload_n 0, 1) := by decide +kernel
theorem dX1_layRow_16 : decode cX1_layRow 16 = .ok (.getfield 28, 3) := by decide +kernel
theorem dX1_layRow_19 : decode cX1_layRow 19 = .ok (.bipush 10, 2) := by decide +kernel
theorem dX1_layRow_21 : decode cX1_layRow 21 = .ok (.if_icmp .ge 37, 3) := by decide +kernel
theorem dX1_layRow_24 : decode cX1_layRow 24 = .ok (.iload_n 3, 1) := by decide +kernel
theorem dX1_layRow_25 : decode cX1_layRow 25 = .ok (.iload_n 2, 1) := by decide +kernel
theorem dX1_layRow_26 : decode cX1_layRow 26 = .ok (.invokestatic 33, 3) := by decide +kernel
theorem dX1_layRow_29 : decode cX1_layRow 29 = .ok (.ifCond .eq 23, 3) := by decide +kernel
theorem dX1_layRow_32 : decode cX1_layRow 32 = .ok (.aload_n 0, 1) := by decide +kernel
theorem dX1_layRow_33 : decode cX1_layRow 33 = .ok (.getfield 9, 3) := by decide +kernel
theorem dX1_layRow_36 : decode cX1_layRow 36 = .ok (.aload_n 0, 1) := by decide +kernel
theorem dX1_layRow_37 : decode cX1_layRow 37 = .ok (.getfield 28, 3) := by decide +kernel
theorem dX1_layRow_40 : decode cX1_layRow 40 = .ok (.iload_n 3, 1) := by decide +kernel
theorem dX1_layRow_41 : decode cX1_layRow 41 = .ok (.iastore, 1) := by decide +kernel
theorem dX1_layRow_42 : decode cX1_layRow 42 = .ok (.aload_n 0, 1) := by decide +kernel
theorem dX1_layRow_43 : decode cX1_layRow 43 = .ok (.dup, 1) := by decide +kernel
theorem dX1_layRow_44 : decode cX1_layRow 44 = .ok (.getfield 28, 3) := by decide +kernel
theorem dX1_layRow_47 : decode cX1_layRow 47 = .ok (.iconst 1, 1) := by decide +kernel
theorem dX1_layRow_48 : decode cX1_layRow 48 = .ok (.iadd, 1) := by decide +kernel
theorem dX1_layRow_49 : decode cX1_layRow 49 = .ok (.putfield 28, 3) := by decide +kernel
theorem dX1_layRow_52 : decode cX1_layRow 52 = .ok (.iinc 3 1, 3) := by decide +kernel
theorem dX1_layRow_55 : decode cX1_layRow 55 = .ok (.goto (-48), 3) := by decide +kernel
theorem dX1_layRow_58 : decode cX1_layRow 58 = .ok (.iconst 0, 1) := by decide +kernel
theorem dX1_layRow_59 : decode cX1_layRow 59 = .ok (.istore_n 3, 1) := by decide +kernel
theorem dX1_layRow_60 : decode cX1_layRow 60 = .ok (.iload_n 3, 1) := by decide +kernel
theorem dX1_layRow_61 : decode cX1_layRow 61 = .ok (.aload_n 0, 1) := by decide +kernel
theorem dX1_layRow_62 : decode cX1_layRow 62 = .ok (.getfield 28, 3) := by decide +kernel
theorem dX1_layRow_65 : decode cX1_layRow 65 = .ok (.if_icmp .ge 131, 3) := by decide +kernel
theorem dX1_layRow_68 : decode cX1_layRow 68 = .ok (.aload_n 1, 1) := by decide +kernel
theorem dX1_layRow_69 : decode cX1_layRow 69 = .ok (.aload_n 0, 1) := by decide +kernel
theorem dX1_layRow_70 : decode cX1_layRow 70 = .ok (.getfield 9, 3) := by decide +kernel
theorem dX1_layRow_73 : decode cX1_layRow 73 = .ok (.iload_n 3, 1) := by decide +kernel
theorem dX1_layRow_74 : decode cX1_layRow 74 = .ok (.iaload, 1) := by decide +kernel
theorem dX1_layRow_75 : decode cX1_layRow 75 = .ok (.invokevirtual 50, 3) := by decide +kernel
theorem dX1_layRow_78 : decode cX1_layRow 78 = .ok (.istore 4, 2) := by decide +kernel
theorem dX1_layRow_80 : decode cX1_layRow 80 = .ok (.aload_n 0, 1) := by decide +kernel
theorem dX1_layRow_81 : decode cX1_layRow 81 = .ok (.getfield 15, 3) := by decide +kernel
theorem dX1_layRow_84 : decode cX1_layRow 84 = .ok (.iload_n 3, 1) := by decide +kernel
theorem dX1_layRow_85 : decode cX1_layRow 85 = .ok (.iconst 0, 1) := by decide +kernel
theorem dX1_layRow_86 : decode cX1_layRow 86 = .ok (.iastore, 1) := by decide +kernel
theorem dX1_layRow_87 : decode cX1_layRow 87 = .ok (.iconst 0, 1) := by decide +kernel
theorem dX1_layRow_88 : decode cX1_layRow 88 = .ok (.istore 5, 2) := by decide +kernel
theorem dX1_layRow_90 : decode cX1_layRow 90 = .ok (.iload 5, 2) := by decide +kernel
theorem dX1_layRow_92 : decode cX1_layRow 92 = .ok (.aload_n 0, 1) := by decide +kernel
theorem dX1_layRow_93 : decode cX1_layRow 93 = .ok (.getfield 28, 3) := by decide +kernel
theorem dX1_layRow_96 : decode cX1_layRow 96 = .ok (.if_icmp .ge 37, 3) := by decide +kernel
theorem dX1_layRow_99 : decode cX1_layRow 99 = .ok (.aload_n 0, 1) := by decide +kernel
theorem dX1_layRow_100 : decode cX1_layRow 100 = .ok (.getfield 9, 3) := by decide +kernel
theorem dX1_layRow_103 : decode cX1_layRow 103 = .ok (.iload 5, 2) := by decide +kernel
theorem dX1_layRow_105 : decode cX1_layRow 105 = .ok (.iaload, 1) := by decide +kernel
theorem dX1_layRow_106 : decode cX1_layRow 106 = .ok (.iload 4, 2) := by decide +kernel
theorem dX1_layRow_108 : decode cX1_layRow 108 = .ok (.invokestatic 33, 3) := by decide +kernel
theorem dX1_layRow_111 : decode cX1_layRow 111 = .ok (.ifCond .eq 16, 3) := by decide +kernel
theorem dX1_layRow_114 : decode cX1_layRow 114 = .ok (.aload_n 0, 1) := by decide +kernel
theorem dX1_layRow_115 : decode cX1_layRow 115 = .ok (.getfield 15, 3) := by decide +kernel
theorem dX1_layRow_118 : decode cX1_layRow 118 = .ok (.iload_n 3, 1) := by decide +kernel
theorem dX1_layRow_119 : decode cX1_layRow 119 = .ok (.dup2, 1) := by decide +kernel
theorem dX1_layRow_120 : decode cX1_layRow 120 = .ok (.iaload, 1) := by decide +kernel
theorem dX1_layRow_121 : decode cX1_layRow 121 = .ok (.iconst 1, 1) := by decide +kernel
theorem dX1_layRow_122 : decode cX1_layRow 122 = .ok (.iload 5, 2) := by decide +kernel
theorem dX1_layRow_124 : decode cX1_layRow 124 = .ok (.ishl, 1) := by decide +kernel
theorem dX1_layRow_125 : decode cX1_layRow 125 = .ok (.ior, 1) := by decide +kernel
theorem dX1_layRow_126 : decode cX1_layRow 126 = .ok (.iastore, 1) := by decide +kernel
theorem dX1_layRow_127 : decode cX1_layRow 127 = .ok (.iinc 5 1, 3) := by decide +kernel
theorem dX1_layRow_130 : decode cX1_layRow 130 = .ok (.goto (-40), 3) := by decide +kernel
theorem dX1_layRow_133 : decode cX1_layRow 133 = .ok (.iload 4, 2) := by decide +kernel
theorem dX1_layRow_135 : decode cX1_layRow 135 = .ok (.aload_n 1, 1) := by decide +kernel
theorem dX1_layRow_136 : decode cX1_layRow 136 = .ok (.getfield 54, 3) := by decide +kernel
theorem dX1_layRow_139 : decode cX1_layRow 139 = .ok (.iand, 1) := by decide +kernel
theorem dX1_layRow_140 : decode cX1_layRow 140 = .ok (.invokestatic 57, 3) := by decide +kernel
theorem dX1_layRow_143 : decode cX1_layRow 143 = .ok (.istore 5, 2) := by decide +kernel
theorem dX1_layRow_145 : decode cX1_layRow 145 = .ok (.iconst 0, 1) := by decide +kernel
theorem dX1_layRow_146 : decode cX1_layRow 146 = .ok (.istore 6, 2) := by decide +kernel
theorem dX1_layRow_148 : decode cX1_layRow 148 = .ok (.iload 6, 2) := by decide +kernel
theorem dX1_layRow_150 : decode cX1_layRow 150 = .ok (.aload_n 0, 1) := by decide +kernel
theorem dX1_layRow_151 : decode cX1_layRow 151 = .ok (.getfield 28, 3) := by decide +kernel
theorem dX1_layRow_154 : decode cX1_layRow 154 = .ok (.if_icmp .ge 36, 3) := by decide +kernel
theorem dX1_layRow_157 : decode cX1_layRow 157 = .ok (.aload_n 0, 1) := by decide +kernel
theorem dX1_layRow_158 : decode cX1_layRow 158 = .ok (.getfield 18, 3) := by decide +kernel
theorem dX1_layRow_161 : decode cX1_layRow 161 = .ok (.iload_n 3, 1) := by decide +kernel
theorem dX1_layRow_162 : decode cX1_layRow 162 = .ok (.bipush 10, 2) := by decide +kernel
theorem dX1_layRow_164 : decode cX1_layRow 164 = .ok (.imul, 1) := by decide +kernel
theorem dX1_layRow_165 : decode cX1_layRow 165 = .ok (.iload 6, 2) := by decide +kernel
theorem dX1_layRow_167 : decode cX1_layRow 167 = .ok (.iadd, 1) := by decide +kernel
theorem dX1_layRow_168 : decode cX1_layRow 168 = .ok (.aload_n 1, 1) := by decide +kernel
theorem dX1_layRow_169 : decode cX1_layRow 169 = .ok (.aload_n 0, 1) := by decide +kernel
theorem dX1_layRow_170 : decode cX1_layRow 170 = .ok (.getfield 9, 3) := by decide +kernel
theorem dX1_layRow_173 : decode cX1_layRow 173 = .ok (.iload_n 3, 1) := by decide +kernel
theorem dX1_layRow_174 : decode cX1_layRow 174 = .ok (.iaload, 1) := by decide +kernel
theorem dX1_layRow_175 : decode cX1_layRow 175 = .ok (.iload 5, 2) := by decide +kernel
theorem dX1_layRow_177 : decode cX1_layRow 177 = .ok (.iload 6, 2) := by decide +kernel
theorem dX1_layRow_179 : decode cX1_layRow 179 = .ok (.iadd, 1) := by decide +kernel
theorem dX1_layRow_180 : decode cX1_layRow 180 = .ok (.invokevirtual 62, 3) := by decide +kernel
theorem dX1_layRow_183 : decode cX1_layRow 183 = .ok (.iastore, 1) := by decide +kernel
theorem dX1_layRow_184 : decode cX1_layRow 184 = .ok (.iinc 6 1, 3) := by decide +kernel
theorem dX1_layRow_187 : decode cX1_layRow 187 = .ok (.goto (-39), 3) := by decide +kernel
theorem dX1_layRow_190 : decode cX1_layRow 190 = .ok (.iinc 3 1, 3) := by decide +kernel
theorem dX1_layRow_193 : decode cX1_layRow 193 = .ok (.goto (-133), 3) := by decide +kernel
theorem dX1_layRow_196 : decode cX1_layRow 196 = .ok (.return_, 1) := by decide +kernel
def mX1_layRow_b52  (k7 : Int32 → Int32 → jMem → Option jMem) (a2 : Int32) (a3 : Int32) (V : jMem) : Option jMem := (k7 a2 (a3 + (1 : Int32)) V)
set_option maxHeartbeats 4000000 in
set_option maxRecDepth 20000 in
theorem tX1_layRow_b52 {l : Launch} {Z : jZ} {q : Nat → Nat} {k7 : Int32 → Int32 → jMem → Option jMem} {a2 : Int32} {a3 : Int32} {V : jMem} {V' : jMem}   (hk7 : ∀ (a2 : Int32) (a3 : Int32) (V : jMem), k7 a2 a3 V = some V' → J l Z RX1 "layRow" cX1_layRow 7 none 4 0 0 (fun r' w => r' = none ∧ w = jw Z q V' dX) 7 [(0, .ref (q 31)), (1, .ref (q 1)), (2, .int a2), (3, .int a3)] [] (jw Z q V dX) 0 0) (hm : mX1_layRow_b52 k7 a2 a3 V = some V') : J l Z RX1 "layRow" cX1_layRow 7 none 4 0 0 (fun r' w => r' = none ∧ w = jw Z q V' dX) 52 [(0, .ref (q 31)), (1, .ref (q 1)), (2, .int a2), (3, .int a3)] [] (jw Z q V dX) 0 0 := by
  unfold mX1_layRow_b52 at hm
  refine j_iinc (v := (a3 + (1 : Int32))) (L' := [(3, _), (0, _), (1, _), (2, _)]) dX1_layRow_52 rfl rfl rfl (by decide) rfl ?_
  refine j_goto (tgt := 7) dX1_layRow_55 (by decide) ?_
  refine j_sub (L' := [(0, _), (1, _), (2, _), (3, _)]) [1, 2, 3, 0] rfl ?_
  exact hk7 _ _ _  hm
def mX1_layRow_b127  (k60 : Int32 → jMem → Option jMem) (k90 : Int32 → Int32 → Int32 → jMem → Option jMem) (a3 : Int32) (a4 : Int32) (a5 : Int32) (V : jMem) : Option jMem := (k90 a3 a4 (a5 + (1 : Int32)) V)
set_option maxHeartbeats 4000000 in
set_option maxRecDepth 20000 in
theorem tX1_layRow_b127 {l : Launch} {Z : jZ} {q : Nat → Nat} {k60 : Int32 → jMem → Option jMem} {k90 : Int32 → Int32 → Int32 → jMem → Option jMem} {a3 : Int32} {a4 : Int32} {a5 : Int32} {V : jMem} {V' : jMem}   (hk60 : ∀ (a3 : Int32) (V : jMem), k60 a3 V = some V' → J l Z RX1 "layRow" cX1_layRow 7 none 4 0 0 (fun r' w => r' = none ∧ w = jw Z q V' dX) 60 [(0, .ref (q 31)), (1, .ref (q 1)), (3, .int a3)] [] (jw Z q V dX) 0 0) (hk90 : ∀ (a3 : Int32) (a4 : Int32) (a5 : Int32) (V : jMem), k90 a3 a4 a5 V = some V' → J l Z RX1 "layRow" cX1_layRow 7 none 4 0 0 (fun r' w => r' = none ∧ w = jw Z q V' dX) 90 [(0, .ref (q 31)), (1, .ref (q 1)), (3, .int a3), (4, .int a4), (5, .int a5)] [] (jw Z q V dX) 0 0) (hm : mX1_layRow_b127 k60 k90 a3 a4 a5 V = some V') : J l Z RX1 "layRow" cX1_layRow 7 none 4 0 0 (fun r' w => r' = none ∧ w = jw Z q V' dX) 127 [(0, .ref (q 31)), (1, .ref (q 1)), (3, .int a3), (4, .int a4), (5, .int a5)] [] (jw Z q V dX) 0 0 := by
  unfold mX1_layRow_b127 at hm
  refine j_iinc (v := (a5 + (1 : Int32))) (L' := [(5, _), (0, _), (1, _), (3, _), (4, _)]) dX1_layRow_127 rfl rfl rfl (by decide) rfl ?_
  refine j_goto (tgt := 90) dX1_layRow_130 (by decide) ?_
  refine j_sub (L' := [(0, _), (1, _), (3, _), (4, _), (5, _)]) [1, 2, 3, 4, 0] rfl ?_
  exact hk90 _ _ _ _  hm
def mX1_layRow_b148  (k60 : Int32 → jMem → Option jMem) : Nat → Int32 → Int32 → Int32 → jMem → Option jMem
  | 0, _, _, _, _ => none
  | n + 1, a3, a5, a6, V => (if (V.1 31 0) ≤ a6 then (k60 (a3 + (1 : Int32)) V) else (jg (jin a3 10) ((mX0_priceHearing (V.1 32 (Int32.toNatClampNeg a3)) (a5 + a6) V).bind (fun (r3 : Int32) => (jg (jin ((a3 * (10 : Int32)) + a6) 100) (jl (jsI V 34 (Int32.toNatClampNeg ((a3 * (10 : Int32)) + a6)) r3) (fun (V5 : jMem) => (mX1_layRow_b148 k60 n a3 a5 (a6 + (1 : Int32)) V5))))))))
set_option maxHeartbeats 4000000 in
set_option maxRecDepth 20000 in
theorem tX1_layRow_b148 {l : Launch} {Z : jZ} {q : Nat → Nat} {k60 : Int32 → jMem → Option jMem} {V' : jMem}  (hk60 : ∀ (a3 : Int32) (V : jMem), k60 a3 V = some V' → J l Z RX1 "layRow" cX1_layRow 7 none 4 0 0 (fun r' w => r' = none ∧ w = jw Z q V' dX) 60 [(0, .ref (q 31)), (1, .ref (q 1)), (3, .int a3)] [] (jw Z q V dX) 0 0) (n : Nat) : ∀ (a3 : Int32) (a5 : Int32) (a6 : Int32) (V : jMem), mX1_layRow_b148 k60 n a3 a5 a6 V = some V' → J l Z RX1 "layRow" cX1_layRow 7 none 4 0 0 (fun r' w => r' = none ∧ w = jw Z q V' dX) 148 [(0, .ref (q 31)), (1, .ref (q 1)), (3, .int a3), (5, .int a5), (6, .int a6)] [] (jw Z q V dX) 0 0 := by
  induction n with
  | zero => intro a3 a5 a6 V hm; cases hm
  | succ n ih =>
    intro a3 a5 a6 V hm
    rw [mX1_layRow_b148] at hm
    refine j_iload dX1_layRow_148 rfl rfl ?_
    refine j_aload_n dX1_layRow_150 rfl rfl ?_
    refine m_geti (k := 0) fX1_28 dX1_layRow_151 rfl rfl rfl ?_
    refine j_icmp_ge (tgt := 190) dX1_layRow_154 rfl (by decide) (fun c1 => ?_) (fun c1 => ?_)
    · have hm := jif_pos c1 hm
      refine j_iinc (v := (a3 + (1 : Int32))) (L' := [(3, _), (0, _), (1, _), (5, _), (6, _)]) dX1_layRow_190 rfl rfl rfl (by decide) rfl ?_
      refine j_goto (tgt := 60) dX1_layRow_193 (by decide) ?_
      refine j_sub (L' := [(0, _), (1, _), (3, _)]) [1, 2, 0] rfl ?_
      exact hk60 _ _  hm
    · have hm := jif_neg c1 hm
      refine j_aload_n dX1_layRow_157 rfl rfl ?_
      refine m_getr (k := 3) (r := 34) fX1_18 dX1_layRow_158 rfl rfl rfl ?_
      refine j_iload_n dX1_layRow_161 rfl rfl ?_
      refine j_bipush (v := 10) dX1_layRow_162 rfl (by decide) ?_
      refine j_imul dX1_layRow_164 rfl ?_
      refine j_iload dX1_layRow_165 rfl rfl ?_
      refine j_iadd dX1_layRow_167 rfl ?_
      refine j_aload_n dX1_layRow_168 rfl rfl ?_
      refine j_aload_n dX1_layRow_169 rfl rfl ?_
      refine m_getr (k := 1) (r := 32) fX1_9 dX1_layRow_170 rfl rfl rfl ?_
      refine j_iload_n dX1_layRow_173 rfl rfl ?_
      obtain ⟨g2, hm⟩ := jg_of hm
      refine o_iald (k := (Int32.toNatClampNeg a3)) rfl dX1_layRow_174 rfl rfl (jin_vp g2) ?_
      refine j_iload dX1_layRow_175 rfl rfl ?_
      refine j_iload dX1_layRow_177 rfl rfl ?_
      refine j_iadd dX1_layRow_179 rfl ?_
      obtain ⟨r3, er3, hm⟩ := jb_of hm
      refine o_callV_i kX1_62 dX1_layRow_180 rfl (tX0_priceHearing  er3) rfl rfl rfl rfl rfl (Nat.le_of_ble_eq_true rfl) (by decide) ?_
      obtain ⟨g4, hm⟩ := jg_of hm
      refine o_iast (k := (Int32.toNatClampNeg ((a3 * (10 : Int32)) + a6))) rfl dX1_layRow_183 rfl rfl (jin_vp g4) ?_
      obtain ⟨V5, eV5⟩ : ∃ y, y = (jsI V 34 (Int32.toNatClampNeg ((a3 * (10 : Int32)) + a6)) r3) := ⟨_, rfl⟩
      have hm := jl_of hm eV5
      rw [← eV5]
      refine j_iinc (v := (a6 + (1 : Int32))) (L' := [(6, _), (0, _), (1, _), (3, _), (5, _)]) dX1_layRow_184 rfl rfl rfl (by decide) rfl ?_
      refine j_goto (tgt := 148) dX1_layRow_187 (by decide) ?_
      refine j_sub (L' := [(0, _), (1, _), (3, _), (5, _), (6, _)]) [1, 2, 3, 4, 0] rfl ?_
      exact ih _ _ _ _  hm
def mX1_layRow_b90  (k60 : Int32 → jMem → Option jMem) : Nat → Int32 → Int32 → Int32 → jMem → Option jMem
  | 0, _, _, _, _ => none
  | n + 1, a3, a4, a5, V => (if (V.1 31 0) ≤ a5 then (mX1_layRow_b148 k60 2000 a3 (mJ6_bitCount_0f7a4 (a4 &&& (V.1 1 5))) (0 : Int32) V) else (jg (jin a5 10) (if (mX4_isIn (V.1 32 (Int32.toNatClampNeg a5)) a4) = (0 : Int32) then (mX1_layRow_b127 k60 (mX1_layRow_b90 k60 n) a3 a4 a5 V) else (jg (jin a3 10) (jl (jsI V 33 (Int32.toNatClampNeg a3) ((V.1 33 (Int32.toNatClampNeg a3)) ||| ((1 : Int32) <<< (a5 &&& (31 : Int32))))) (fun (V5 : jMem) => (mX1_layRow_b127 k60 (mX1_layRow_b90 k60 n) a3 a4 a5 V5)))))))
set_option maxHeartbeats 4000000 in
set_option maxRecDepth 20000 in
theorem tX1_layRow_b90 {l : Launch} {Z : jZ} {q : Nat → Nat} {k60 : Int32 → jMem → Option jMem} {V' : jMem}  (hk60 : ∀ (a3 : Int32) (V : jMem), k60 a3 V = some V' → J l Z RX1 "layRow" cX1_layRow 7 none 4 0 0 (fun r' w => r' = none ∧ w = jw Z q V' dX) 60 [(0, .ref (q 31)), (1, .ref (q 1)), (3, .int a3)] [] (jw Z q V dX) 0 0) (n : Nat) : ∀ (a3 : Int32) (a4 : Int32) (a5 : Int32) (V : jMem), mX1_layRow_b90 k60 n a3 a4 a5 V = some V' → J l Z RX1 "layRow" cX1_layRow 7 none 4 0 0 (fun r' w => r' = none ∧ w = jw Z q V' dX) 90 [(0, .ref (q 31)), (1, .ref (q 1)), (3, .int a3), (4, .int a4), (5, .int a5)] [] (jw Z q V dX) 0 0 := by
  induction n with
  | zero => intro a3 a4 a5 V hm; cases hm
  | succ n ih =>
    intro a3 a4 a5 V hm
    rw [mX1_layRow_b90] at hm
    refine j_iload dX1_layRow_90 rfl rfl ?_
    refine j_aload_n dX1_layRow_92 rfl rfl ?_
    refine m_geti (k := 0) fX1_28 dX1_layRow_93 rfl rfl rfl ?_
    refine j_icmp_ge (tgt := 133) dX1_layRow_96 rfl (by decide) (fun c1 => ?_) (fun c1 => ?_)
    · have hm := jif_pos c1 hm
      refine j_iload dX1_layRow_133 rfl rfl ?_
      refine j_aload_n dX1_layRow_135 rfl rfl ?_
      refine m_geti (k := 5) fX1_54 dX1_layRow_136 rfl rfl rfl ?_
      refine j_iand dX1_layRow_139 rfl ?_
      refine o_callS_i kX1_57 dX1_layRow_140 rfl (tJ6_bitCount_0f7a4  rfl) rfl rfl (Nat.le_of_ble_eq_true rfl) (by decide) ?_
      refine j_istore (L' := [(5, _), (0, _), (1, _), (3, _), (4, _)]) dX1_layRow_143 rfl (by decide) rfl ?_
      refine j_iconst (v := 0) dX1_layRow_145 rfl (by decide) ?_
      refine j_istore (L' := [(6, _), (5, _), (0, _), (1, _), (3, _), (4, _)]) dX1_layRow_146 rfl (by decide) rfl ?_
      refine j_sub (L' := [(0, _), (1, _), (3, _), (5, _), (6, _)]) [2, 3, 4, 1, 0] rfl ?_
      exact tX1_layRow_b148  hk60 _ _ _ _ _  hm
    · have hm := jif_neg c1 hm
      refine j_aload_n dX1_layRow_99 rfl rfl ?_
      refine m_getr (k := 1) (r := 32) fX1_9 dX1_layRow_100 rfl rfl rfl ?_
      refine j_iload dX1_layRow_103 rfl rfl ?_
      obtain ⟨g2, hm⟩ := jg_of hm
      refine o_iald (k := (Int32.toNatClampNeg a5)) rfl dX1_layRow_105 rfl rfl (jin_vp g2) ?_
      refine j_iload dX1_layRow_106 rfl rfl ?_
      refine o_callS_i kX1_33 dX1_layRow_108 rfl (tX4_isIn  rfl) rfl rfl (Nat.le_of_ble_eq_true rfl) (by decide) ?_
      refine j_if_eq (tgt := 127) dX1_layRow_111 rfl (by decide) (fun c3 => ?_) (fun c3 => ?_)
      · have hm := jif_pos c3 hm
        exact tX1_layRow_b127   hk60 ih hm
      · have hm := jif_neg c3 hm
        refine j_aload_n dX1_layRow_114 rfl rfl ?_
        refine m_getr (k := 2) (r := 33) fX1_15 dX1_layRow_115 rfl rfl rfl ?_
        refine j_iload_n dX1_layRow_118 rfl rfl ?_
        refine j_dup2 dX1_layRow_119 rfl rfl rfl ?_
        obtain ⟨g4, hm⟩ := jg_of hm
        refine o_iald (k := (Int32.toNatClampNeg a3)) rfl dX1_layRow_120 rfl rfl (jin_vp g4) ?_
        refine j_iconst (v := 1) dX1_layRow_121 rfl (by decide) ?_
        refine j_iload dX1_layRow_122 rfl rfl ?_
        refine j_ishl dX1_layRow_124 rfl ?_
        refine j_ior dX1_layRow_125 rfl ?_
        refine o_iast (k := (Int32.toNatClampNeg a3)) rfl dX1_layRow_126 rfl rfl (jin_vp g4) ?_
        obtain ⟨V5, eV5⟩ : ∃ y, y = (jsI V 33 (Int32.toNatClampNeg a3) ((V.1 33 (Int32.toNatClampNeg a3)) ||| ((1 : Int32) <<< (a5 &&& (31 : Int32))))) := ⟨_, rfl⟩
        have hm := jl_of hm eV5
        rw [← eV5]
        exact tX1_layRow_b127   hk60 ih hm
def mX1_layRow_b60   : Nat → Int32 → jMem → Option jMem
  | 0, _, _ => none
  | n + 1, a3, V => (if (V.1 31 0) ≤ a3 then (some V) else (jg (jin a3 10) ((mX0_tellersOf (V.1 32 (Int32.toNatClampNeg a3)) V).bind (fun (r3 : Int32) => (jl (jsI V 33 (Int32.toNatClampNeg a3) (0 : Int32)) (fun (V4 : jMem) => (mX1_layRow_b90 (mX1_layRow_b60 n) 2000 a3 r3 (0 : Int32) V4)))))))
set_option maxHeartbeats 4000000 in
set_option maxRecDepth 20000 in
theorem tX1_layRow_b60 {l : Launch} {Z : jZ} {q : Nat → Nat}  {V' : jMem}   (n : Nat) : ∀ (a3 : Int32) (V : jMem), mX1_layRow_b60 n a3 V = some V' → J l Z RX1 "layRow" cX1_layRow 7 none 4 0 0 (fun r' w => r' = none ∧ w = jw Z q V' dX) 60 [(0, .ref (q 31)), (1, .ref (q 1)), (3, .int a3)] [] (jw Z q V dX) 0 0 := by
  induction n with
  | zero => intro a3 V hm; cases hm
  | succ n ih =>
    intro a3 V hm
    rw [mX1_layRow_b60] at hm
    refine j_iload_n dX1_layRow_60 rfl rfl ?_
    refine j_aload_n dX1_layRow_61 rfl rfl ?_
    refine m_geti (k := 0) fX1_28 dX1_layRow_62 rfl rfl rfl ?_
    refine j_icmp_ge (tgt := 196) dX1_layRow_65 rfl (by decide) (fun c1 => ?_) (fun c1 => ?_)
    · have hm := jif_pos c1 hm
      exact j_return dX1_layRow_196 rfl ⟨Nat.le_refl _, Nat.le_refl _⟩ (jf_v hm)
    · have hm := jif_neg c1 hm
      refine j_aload_n dX1_layRow_68 rfl rfl ?_
      refine j_aload_n dX1_layRow_69 rfl rfl ?_
      refine m_getr (k := 1) (r := 32) fX1_9 dX1_layRow_70 rfl rfl rfl ?_
      refine j_iload_n dX1_layRow_73 rfl rfl ?_
      obtain ⟨g2, hm⟩ := jg_of hm
      refine o_iald (k := (Int32.toNatClampNeg a3)) rfl dX1_layRow_74 rfl rfl (jin_vp g2) ?_
      obtain ⟨r3, er3, hm⟩ := jb_of hm
      refine o_callV_i kX1_50 dX1_layRow_75 rfl (tX0_tellersOf  er3) rfl rfl rfl rfl rfl (Nat.le_of_ble_eq_true rfl) (by decide) ?_
      refine j_istore (L' := [(4, _), (0, _), (1, _), (3, _)]) dX1_layRow_78 rfl (by decide) rfl ?_
      refine j_aload_n dX1_layRow_80 rfl rfl ?_
      refine m_getr (k := 2) (r := 33) fX1_15 dX1_layRow_81 rfl rfl rfl ?_
      refine j_iload_n dX1_layRow_84 rfl rfl ?_
      refine j_iconst (v := 0) dX1_layRow_85 rfl (by decide) ?_
      refine o_iast (k := (Int32.toNatClampNeg a3)) rfl dX1_layRow_86 rfl rfl (jin_vp g2) ?_
      obtain ⟨V4, eV4⟩ : ∃ y, y = (jsI V 33 (Int32.toNatClampNeg a3) (0 : Int32)) := ⟨_, rfl⟩
      have hm := jl_of hm eV4
      rw [← eV4]
      refine j_iconst (v := 0) dX1_layRow_87 rfl (by decide) ?_
      refine j_istore (L' := [(5, _), (4, _), (0, _), (1, _), (3, _)]) dX1_layRow_88 rfl (by decide) rfl ?_
      refine j_sub (L' := [(0, _), (1, _), (3, _), (4, _), (5, _)]) [2, 3, 4, 1, 0] rfl ?_
      exact tX1_layRow_b90  ih _ _ _ _ _  hm
def mX1_layRow_b58   (V : jMem) : Option jMem := (mX1_layRow_b60 2000 (0 : Int32) V)
set_option maxHeartbeats 4000000 in
set_option maxRecDepth 20000 in
theorem tX1_layRow_b58 {l : Launch} {Z : jZ} {q : Nat → Nat} {V : jMem} {V' : jMem}    (hm : mX1_layRow_b58 V = some V') : J l Z RX1 "layRow" cX1_layRow 7 none 4 0 0 (fun r' w => r' = none ∧ w = jw Z q V' dX) 58 [(0, .ref (q 31)), (1, .ref (q 1))] [] (jw Z q V dX) 0 0 := by
  unfold mX1_layRow_b58 at hm
  refine j_iconst (v := 0) dX1_layRow_58 rfl (by decide) ?_
  refine j_istore_n (i := 3) (L' := [(3, _), (0, _), (1, _)]) dX1_layRow_59 rfl rfl (by decide) rfl ?_
  refine j_sub (L' := [(0, _), (1, _), (3, _)]) [1, 2, 0] rfl ?_
  exact tX1_layRow_b60   _ _ _  hm
def mX1_layRow_b7   : Nat → Int32 → Int32 → jMem → Option jMem
  | 0, _, _, _ => none
  | n + 1, a2, a3, V => (if (V.1 1 0) ≤ a3 then (mX1_layRow_b58 V) else (if (10 : Int32) ≤ (V.1 31 0) then (mX1_layRow_b58 V) else (if (mX4_isIn a3 a2) = (0 : Int32) then (mX1_layRow_b52 (mX1_layRow_b7 n) a2 a3 V) else (jg (jin (V.1 31 0) 10) (jl (jsI V 32 (Int32.toNatClampNeg (V.1 31 0)) a3) (fun (V5 : jMem) => (jl (jsI V5 31 0 ((V5.1 31 0) + (1 : Int32))) (fun (V6 : jMem) => (mX1_layRow_b52 (mX1_layRow_b7 n) a2 a3 V6)))))))))
set_option maxHeartbeats 4000000 in
set_option maxRecDepth 20000 in
theorem tX1_layRow_b7 {l : Launch} {Z : jZ} {q : Nat → Nat}  {V' : jMem}   (n : Nat) : ∀ (a2 : Int32) (a3 : Int32) (V : jMem), mX1_layRow_b7 n a2 a3 V = some V' → J l Z RX1 "layRow" cX1_layRow 7 none 4 0 0 (fun r' w => r' = none ∧ w = jw Z q V' dX) 7 [(0, .ref (q 31)), (1, .ref (q 1)), (2, .int a2), (3, .int a3)] [] (jw Z q V dX) 0 0 := by
  induction n with
  | zero => intro a2 a3 V hm; cases hm
  | succ n ih =>
    intro a2 a3 V hm
    rw [mX1_layRow_b7] at hm
    refine j_iload_n dX1_layRow_7 rfl rfl ?_
    refine j_aload_n dX1_layRow_8 rfl rfl ?_
    refine m_geti (k := 0) fX1_46 dX1_layRow_9 rfl rfl rfl ?_
    refine j_icmp_ge (tgt := 58) dX1_layRow_12 rfl (by decide) (fun c1 => ?_) (fun c1 => ?_)
    · have hm := jif_pos c1 hm
      refine j_sub (L' := [(0, _), (1, _)]) [0, 1] rfl ?_
      exact tX1_layRow_b58    hm
    · have hm := jif_neg c1 hm
      refine j_aload_n dX1_layRow_15 rfl rfl ?_
      refine m_geti (k := 0) fX1_28 dX1_layRow_16 rfl rfl rfl ?_
      refine j_bipush (v := 10) dX1_layRow_19 rfl (by decide) ?_
      refine j_icmp_ge (tgt := 58) dX1_layRow_21 rfl (by decide) (fun c2 => ?_) (fun c2 => ?_)
      · have hm := jif_pos c2 hm
        refine j_sub (L' := [(0, _), (1, _)]) [0, 1] rfl ?_
        exact tX1_layRow_b58    hm
      · have hm := jif_neg c2 hm
        refine j_iload_n dX1_layRow_24 rfl rfl ?_
        refine j_iload_n dX1_layRow_25 rfl rfl ?_
        refine o_callS_i kX1_33 dX1_layRow_26 rfl (tX4_isIn  rfl) rfl rfl (Nat.le_of_ble_eq_true rfl) (by decide) ?_
        refine j_if_eq (tgt := 52) dX1_layRow_29 rfl (by decide) (fun c3 => ?_) (fun c3 => ?_)
        · have hm := jif_pos c3 hm
          exact tX1_layRow_b52   ih hm
        · have hm := jif_neg c3 hm
          refine j_aload_n dX1_layRow_32 rfl rfl ?_
          refine m_getr (k := 1) (r := 32) fX1_9 dX1_layRow_33 rfl rfl rfl ?_
          refine j_aload_n dX1_layRow_36 rfl rfl ?_
          refine m_geti (k := 0) fX1_28 dX1_layRow_37 rfl rfl rfl ?_
          refine j_iload_n dX1_layRow_40 rfl rfl ?_
          obtain ⟨g4, hm⟩ := jg_of hm
          refine o_iast (k := (Int32.toNatClampNeg (V.1 31 0))) rfl dX1_layRow_41 rfl rfl (jin_vp g4) ?_
          obtain ⟨V5, eV5⟩ : ∃ y, y = (jsI V 32 (Int32.toNatClampNeg (V.1 31 0)) a3) := ⟨_, rfl⟩
          have hm := jl_of hm eV5
          rw [← eV5]
          refine j_aload_n dX1_layRow_42 rfl rfl ?_
          refine j_dup dX1_layRow_43 rfl rfl ?_
          refine m_geti (k := 0) fX1_28 dX1_layRow_44 rfl rfl rfl ?_
          refine j_iconst (v := 1) dX1_layRow_47 rfl (by decide) ?_
          refine j_iadd dX1_layRow_48 rfl ?_
          refine m_puti (k := 0) fX1_28 dX1_layRow_49 rfl rfl rfl ?_
          obtain ⟨V6, eV6⟩ : ∃ y, y = (jsI V5 31 0 ((V5.1 31 0) + (1 : Int32))) := ⟨_, rfl⟩
          have hm := jl_of hm eV6
          rw [← eV6]
          exact tX1_layRow_b52   ih hm
def mX1_layRow (a2 : Int32) (V : jMem) : Option jMem := (jl (jsI V 31 0 (0 : Int32)) (fun (V1 : jMem) => (mX1_layRow_b7 2000 a2 (0 : Int32) V1)))
set_option maxHeartbeats 4000000 in
set_option maxRecDepth 20000 in
theorem tX1_layRow {l : Launch} {Z : jZ} {q : Nat → Nat} {a2 : Int32} {V : jMem} {V' : jMem}  (hm : mX1_layRow a2 V = some V') : CtD l Z yX1_layRow cX1_layRow 7 none 4 q dX [.ref (q 31), .ref (q 1), .int a2] V none V' := by
  refine Ct_of (L := [(0, .ref (q 31)), (1, .ref (q 1)), (2, .int a2)]) (own := RX1) (nm := "layRow") rfl rfl (by decide +kernel) rfl (Nat.le_of_ble_eq_true rfl) ?_
  unfold mX1_layRow at hm
  refine j_aload_n dX1_layRow_0 rfl rfl ?_
  refine j_iconst (v := 0) dX1_layRow_1 rfl (by decide) ?_
  refine m_puti (k := 0) fX1_28 dX1_layRow_2 rfl rfl rfl ?_
  obtain ⟨V1, eV1⟩ : ∃ y, y = (jsI V 31 0 (0 : Int32)) := ⟨_, rfl⟩
  have hm := jl_of hm eV1
  rw [← eV1]
  refine j_iconst (v := 0) dX1_layRow_5 rfl (by decide) ?_
  refine j_istore_n (i := 3) (L' := [(3, _), (0, _), (1, _), (2, _)]) dX1_layRow_6 rfl rfl (by decide) rfl ?_
  refine j_sub (L' := [(0, _), (1, _), (2, _), (3, _)]) [1, 2, 3, 0] rfl ?_
  exact tX1_layRow_b7   _ _ _ _  hm
theorem dX1_costBy_0 : decode cX1_costBy 0 = .ok (.aload_n 0, 1) := by decide +kernel
theorem dX1_costBy_1 : decode cX1_costBy 1 = .ok (.getfield 15, 3) := by decide +kernel
theorem dX1_costBy_4 : decode cX1_costBy 4 = .ok (.iload_n 1, 1) := by decide +kernel
theorem dX1_costBy_5 : decode cX1_costBy 5 = .ok (.iaload, 1) := by decide +kernel
theorem dX1_costBy_6 : decode cX1_costBy 6 = .ok (.iload_n 2, 1) := by decide +kernel
theorem dX1_costBy_7 : decode cX1_costBy 7 = .ok (.iand, 1) := by decide +kernel
theorem dX1_costBy_8 : decode cX1_costBy 8 = .ok (.invokestatic 57, 3) := by decide +kernel
theorem dX1_costBy_11 : decode cX1_costBy 11 = .ok (.istore_n 3, 1) := by decide +kernel
theorem dX1_costBy_12 : decode cX1_costBy 12 = .ok (.aload_n 0, 1) := by decide +kernel
theorem dX1_costBy_13 : decode cX1_costBy 13 = .ok (.getfield 18, 3) := by decide +kernel
theorem dX1_costBy_16 : decode cX1_costBy 16 = .ok (.iload_n 1, 1) := by decide +kernel
theorem dX1_costBy_17 : decode cX1_costBy 17 = .ok (.bipush 10, 2) := by decide +kernel
theorem dX1_costBy_19 : decode cX1_costBy 19 = .ok (.imul, 1) := by decide +kernel
theorem dX1_costBy_20 : decode cX1_costBy 20 = .ok (.iload_n 3, 1) := by decide +kernel
theorem dX1_costBy_21 : decode cX1_costBy 21 = .ok (.iadd, 1) := by decide +kernel
theorem dX1_costBy_22 : decode cX1_costBy 22 = .ok (.iaload, 1) := by decide +kernel
theorem dX1_costBy_23 : decode cX1_costBy 23 = .ok (.aload_n 0, 1) := by decide +kernel
theorem dX1_costBy_24 : decode cX1_costBy 24 = .ok (.getfield 21, 3) := by decide +kernel
theorem dX1_costBy_27 : decode cX1_costBy 27 = .ok (.iload_n 2, 1) := by decide +kernel
theorem dX1_costBy_28 : decode cX1_costBy 28 = .ok (.iconst 1, 1) := by decide +kernel
theorem dX1_costBy_29 : decode cX1_costBy 29 = .ok (.iload_n 1, 1) := by decide +kernel
theorem dX1_costBy_30 : decode cX1_costBy 30 = .ok (.ishl, 1) := by decide +kernel
theorem dX1_costBy_31 : decode cX1_costBy 31 = .ok (.ior, 1) := by decide +kernel
theorem dX1_costBy_32 : decode cX1_costBy 32 = .ok (.iaload, 1) := by decide +kernel
theorem dX1_costBy_33 : decode cX1_costBy 33 = .ok (.iadd, 1) := by decide +kernel
theorem dX1_costBy_34 : decode cX1_costBy 34 = .ok (.ireturn, 1) := by decide +kernel
def mX1_costBy (a1 : Int32) (a2 : Int32) (V : jMem) : Option Int32 := (jg (jin a1 10) (jl (mJ6_bitCount_0f7a4 ((V.1 33 (Int32.toNatClampNeg a1)) &&& a2)) (fun (v2 : Int32) => (jg (jin ((a1 * (10 : Int32)) + v2) 100) (jg (jin (a2 ||| ((1 : Int32) <<< (a1 &&& (31 : Int32)))) 1024) (some ((V.1 34 (Int32.toNatClampNeg ((a1 * (10 : Int32)) + v2))) + (V.1 35 (Int32.toNatClampNeg (a2 ||| ((1 : Int32) <<< (a1 &&& (31 : Int32)))))))))))))
set_option maxHeartbeats 4000000 in
set_option maxRecDepth 20000 in
theorem tX1_costBy {l : Launch} {Z : jZ} {q : Nat → Nat} {a1 : Int32} {a2 : Int32} {V : jMem} {r : Int32}  (hm : mX1_costBy a1 a2 V = some r) : CtD l Z yX1_costBy cX1_costBy 4 (some .int) 1 q dX [.ref (q 31), .int a1, .int a2] V (some (.int r)) V := by
  refine Ct_of (L := [(0, .ref (q 31)), (1, .int a1), (2, .int a2)]) (own := RX1) (nm := "costBy") rfl rfl (by decide +kernel) rfl (Nat.le_of_ble_eq_true rfl) ?_
  unfold mX1_costBy at hm
  refine j_aload_n dX1_costBy_0 rfl rfl ?_
  refine m_getr (k := 2) (r := 33) fX1_15 dX1_costBy_1 rfl rfl rfl ?_
  refine j_iload_n dX1_costBy_4 rfl rfl ?_
  obtain ⟨g1, hm⟩ := jg_of hm
  refine o_iald (k := (Int32.toNatClampNeg a1)) rfl dX1_costBy_5 rfl rfl (jin_vp g1) ?_
  refine j_iload_n dX1_costBy_6 rfl rfl ?_
  refine j_iand dX1_costBy_7 rfl ?_
  refine o_callS_i kX1_57 dX1_costBy_8 rfl (tJ6_bitCount_0f7a4  rfl) rfl rfl (Nat.le_of_ble_eq_true rfl) (by decide) ?_
  obtain ⟨v2, ev2⟩ : ∃ y, y = ((mJ6_bitCount_0f7a4 ((V.1 33 (Int32.toNatClampNeg a1)) &&& a2)) : Int32) := ⟨_, rfl⟩
  have hm := jl_of hm ev2
  rw [← ev2]
  refine j_istore_n (i := 3) (L' := [(3, _), (0, _), (1, _), (2, _)]) dX1_costBy_11 rfl rfl (by decide) rfl ?_
  refine j_aload_n dX1_costBy_12 rfl rfl ?_
  refine m_getr (k := 3) (r := 34) fX1_18 dX1_costBy_13 rfl rfl rfl ?_
  refine j_iload_n dX1_costBy_16 rfl rfl ?_
  refine j_bipush (v := 10) dX1_costBy_17 rfl (by decide) ?_
  refine j_imul dX1_costBy_19 rfl ?_
  refine j_iload_n dX1_costBy_20 rfl rfl ?_
  refine j_iadd dX1_costBy_21 rfl ?_
  obtain ⟨g3, hm⟩ := jg_of hm
  refine o_iald (k := (Int32.toNatClampNeg ((a1 * (10 : Int32)) + v2))) rfl dX1_costBy_22 rfl rfl (jin_vp g3) ?_
  refine j_aload_n dX1_costBy_23 rfl rfl ?_
  refine m_getr (k := 4) (r := 35) fX1_21 dX1_costBy_24 rfl rfl rfl ?_
  refine j_iload_n dX1_costBy_27 rfl rfl ?_
  refine j_iconst (v := 1) dX1_costBy_28 rfl (by decide) ?_
  refine j_iload_n dX1_costBy_29 rfl rfl ?_
  refine j_ishl dX1_costBy_30 rfl ?_
  refine j_ior dX1_costBy_31 rfl ?_
  obtain ⟨g4, hm⟩ := jg_of hm
  refine o_iald (k := (Int32.toNatClampNeg (a2 ||| ((1 : Int32) <<< (a1 &&& (31 : Int32)))))) rfl dX1_costBy_32 rfl rfl (jin_vp g4) ?_
  refine j_iadd dX1_costBy_33 rfl ?_
  exact j_ireturn dX1_costBy_34 rfl rfl ⟨Nat.le_refl _, Nat.le_refl _⟩ (jf_p (fun z => .int z) hm)
theorem dX1_run_0 : decode cX1_run 0 = .ok (.aload_n 0, 1) := by decide +kernel
theorem dX1_run_1 : decode cX1_run 1 = .ok (.aload_n 1, 1) := by decide +kernel
theorem dX1_run_2 : decode cX1_run 2 = .ok (.iload_n 2, 1) := by decide +kernel
theorem dX1_run_3 : decode cX1_run 3 = .ok (.invokevirtual 24, 3) := by decide +kernel
theorem dX1_run_6 : decode cX1_run 6 = .ok (.iconst 1, 1) := by decide +kernel
theorem dX1_run_7 : decode cX1_run 7 = .ok (.aload_n 0, 1) := by decide +kernel
theorem dX1_run_8 : decode cX1_run 8 = .ok (.getfield 28, 3) := by decide +kernel
theorem dX1_run_11 : decode cX1_run 11 = .ok (.ishl, 1) := by decide +kernel
theorem dX1_run_12 : decode cX1_run 12 = .ok (.iconst 1, 1) := by decide +kernel
theorem dX1_run_13 : decode cX1_run 13 = .ok (.isub, 1) := by decide +kernel
theorem dX1_run_14 : decode cX1_run 14 = .ok (.istore_n 3, 1) := by decide +kernel
theorem dX1_run_15 : decode cX1_run 15 = .ok (.aload_n 0, 1) := by decide +kernel
theorem dX1_run_16 : decode cX1_run 16 = .ok (.getfield 21, 3) := by decide +kernel
theorem dX1_run_19 : decode cX1_run 19 = .ok (.iload_n 3, 1) := by decide +kernel
theorem dX1_run_20 : decode cX1_run 20 = .ok (.iconst 0, 1) := by decide +kernel
theorem dX1_run_21 : decode cX1_run 21 = .ok (.iastore, 1) := by decide +kernel
theorem dX1_run_22 : decode cX1_run 22 = .ok (.iload_n 3, 1) := by decide +kernel
theorem dX1_run_23 : decode cX1_run 23 = .ok (.iconst 1, 1) := by decide +kernel
theorem dX1_run_24 : decode cX1_run 24 = .ok (.isub, 1) := by decide +kernel
theorem dX1_run_25 : decode cX1_run 25 = .ok (.istore 4, 2) := by decide +kernel
theorem dX1_run_27 : decode cX1_run 27 = .ok (.iload 4, 2) := by decide +kernel
theorem dX1_run_29 : decode cX1_run 29 = .ok (.ifCond .lt 65, 3) := by decide +kernel
theorem dX1_run_32 : decode cX1_run 32 = .ok (.ldc 32, 2) := by decide +kernel
theorem dX1_run_34 : decode cX1_run 34 = .ok (.istore 5, 2) := by decide +kernel
theorem dX1_run_36 : decode cX1_run 36 = .ok (.iconst 0, 1) := by decide +kernel
theorem dX1_run_37 : decode cX1_run 37 = .ok (.istore 6, 2) := by decide +kernel
theorem dX1_run_39 : decode cX1_run 39 = .ok (.iload 6, 2) := by decide +kernel
theorem dX1_run_41 : decode cX1_run 41 = .ok (.aload_n 0, 1) := by decide +kernel
theorem dX1_run_42 : decode cX1_run 42 = .ok (.getfield 28, 3) := by decide +kernel
theorem dX1_run_45 : decode cX1_run 45 = .ok (.if_icmp .ge 34, 3) := by decide +kernel
theorem dX1_run_48 : decode cX1_run 48 = .ok (.iload 6, 2) := by decide +kernel
theorem dX1_run_50 : decode cX1_run 50 = .ok (.iload 4, 2) := by decide +kernel
theorem dX1_run_52 : decode cX1_run 52 = .ok (.invokestatic 33, 3) := by decide +kernel
theorem dX1_run_55 : decode cX1_run 55 = .ok (.ifCond .ne 18, 3) := by decide +kernel
theorem dX1_run_58 : decode cX1_run 58 = .ok (.iload 5, 2) := by decide +kernel
theorem dX1_run_60 : decode cX1_run 60 = .ok (.aload_n 0, 1) := by decide +kernel
theorem dX1_run_61 : decode cX1_run 61 = .ok (.iload 6, 2) := by decide +kernel
theorem dX1_run_63 : decode cX1_run 63 = .ok (.iload 4, 2) := by decide +kernel
theorem dX1_run_65 : decode cX1_run 65 = .ok (.invokevirtual 37, 3) := by decide +kernel
theorem dX1_run_68 : decode cX1_run 68 = .ok (.invokestatic 41, 3) := by decide +kernel
theorem dX1_run_71 : decode cX1_run 71 = .ok (.istore 5, 2) := by decide +kernel
theorem dX1_run_73 : decode cX1_run 73 = .ok (.iinc 6 1, 3) := by decide +kernel
theorem dX1_run_76 : decode cX1_run 76 = .ok (.goto (-37), 3) := by decide +kernel
theorem dX1_run_79 : decode cX1_run 79 = .ok (.aload_n 0, 1) := by decide +kernel
theorem dX1_run_80 : decode cX1_run 80 = .ok (.getfield 21, 3) := by decide +kernel
theorem dX1_run_83 : decode cX1_run 83 = .ok (.iload 4, 2) := by decide +kernel
theorem dX1_run_85 : decode cX1_run 85 = .ok (.iload 5, 2) := by decide +kernel
theorem dX1_run_87 : decode cX1_run 87 = .ok (.iastore, 1) := by decide +kernel
theorem dX1_run_88 : decode cX1_run 88 = .ok (.iinc 4 (-1), 3) := by decide +kernel
theorem dX1_run_91 : decode cX1_run 91 = .ok (.goto (-64), 3) := by decide +kernel
theorem dX1_run_94 : decode cX1_run 94 = .ok (.aload_n 0, 1) := by decide +kernel
theorem dX1_run_95 : decode cX1_run 95 = .ok (.getfield 21, 3) := by decide +kernel
theorem dX1_run_98 : decode cX1_run 98 = .ok (.iconst 0, 1) := by decide +kernel
theorem dX1_run_99 : decode cX1_run 99 = .ok (.iaload, 1) := by decide +kernel
theorem dX1_run_100 : decode cX1_run 100 = .ok (.ireturn, 1) := by decide +kernel
def mX1_run_b73  (k27 : Int32 → jMem → Option (Int32 × jMem)) (k39 : Int32 → Int32 → Int32 → jMem → Option (Int32 × jMem)) (a4 : Int32) (a5 : Int32) (a6 : Int32) (V : jMem) : Option (Int32 × jMem) := (k39 a4 a5 (a6 + (1 : Int32)) V)
set_option maxHeartbeats 4000000 in
set_option maxRecDepth 20000 in
theorem tX1_run_b73 {l : Launch} {Z : jZ} {q : Nat → Nat} {k27 : Int32 → jMem → Option (Int32 × jMem)} {k39 : Int32 → Int32 → Int32 → jMem → Option (Int32 × jMem)} {a4 : Int32} {a5 : Int32} {a6 : Int32} {V : jMem} {r : Int32} {V' : jMem}   (hk27 : ∀ (a4 : Int32) (V : jMem), k27 a4 V = some (r, V') → J l Z RX1 "run" cX1_run 7 (some .int) 5 0 0 (fun r' w => r' = some (.int r) ∧ w = jw Z q V' dX) 27 [(0, .ref (q 31)), (4, .int a4)] [] (jw Z q V dX) 0 0) (hk39 : ∀ (a4 : Int32) (a5 : Int32) (a6 : Int32) (V : jMem), k39 a4 a5 a6 V = some (r, V') → J l Z RX1 "run" cX1_run 7 (some .int) 5 0 0 (fun r' w => r' = some (.int r) ∧ w = jw Z q V' dX) 39 [(0, .ref (q 31)), (4, .int a4), (5, .int a5), (6, .int a6)] [] (jw Z q V dX) 0 0) (hm : mX1_run_b73 k27 k39 a4 a5 a6 V = some (r, V')) : J l Z RX1 "run" cX1_run 7 (some .int) 5 0 0 (fun r' w => r' = some (.int r) ∧ w = jw Z q V' dX) 73 [(0, .ref (q 31)), (4, .int a4), (5, .int a5), (6, .int a6)] [] (jw Z q V dX) 0 0 := by
  unfold mX1_run_b73 at hm
  refine j_iinc (v := (a6 + (1 : Int32))) (L' := [(6, _), (0, _), (4, _), (5, _)]) dX1_run_73 rfl rfl rfl (by decide) rfl ?_
  refine j_goto (tgt := 39) dX1_run_76 (by decide) ?_
  refine j_sub (L' := [(0, _), (4, _), (5, _), (6, _)]) [1, 2, 3, 0] rfl ?_
  exact hk39 _ _ _ _  hm
def mX1_run_b39  (k27 : Int32 → jMem → Option (Int32 × jMem)) : Nat → Int32 → Int32 → Int32 → jMem → Option (Int32 × jMem)
  | 0, _, _, _, _ => none
  | n + 1, a4, a5, a6, V => (if (V.1 31 0) ≤ a6 then (jg (jin a4 1024) (jl (jsI V 35 (Int32.toNatClampNeg a4) a5) (fun (V3 : jMem) => (k27 (a4 + (-1 : Int32)) V3)))) else (if (mX4_isIn a6 a4) = (0 : Int32) then ((mX1_costBy a6 a4 V).bind (fun (r5 : Int32) => (mX1_run_b73 k27 (mX1_run_b39 k27 n) a4 (if r5 < a5 then r5 else a5) a6 V))) else (mX1_run_b73 k27 (mX1_run_b39 k27 n) a4 a5 a6 V)))
set_option maxHeartbeats 4000000 in
set_option maxRecDepth 20000 in
theorem tX1_run_b39 {l : Launch} {Z : jZ} {q : Nat → Nat} {k27 : Int32 → jMem → Option (Int32 × jMem)} {r : Int32} {V' : jMem}  (hk27 : ∀ (a4 : Int32) (V : jMem), k27 a4 V = some (r, V') → J l Z RX1 "run" cX1_run 7 (some .int) 5 0 0 (fun r' w => r' = some (.int r) ∧ w = jw Z q V' dX) 27 [(0, .ref (q 31)), (4, .int a4)] [] (jw Z q V dX) 0 0) (n : Nat) : ∀ (a4 : Int32) (a5 : Int32) (a6 : Int32) (V : jMem), mX1_run_b39 k27 n a4 a5 a6 V = some (r, V') → J l Z RX1 "run" cX1_run 7 (some .int) 5 0 0 (fun r' w => r' = some (.int r) ∧ w = jw Z q V' dX) 39 [(0, .ref (q 31)), (4, .int a4), (5, .int a5), (6, .int a6)] [] (jw Z q V dX) 0 0 := by
  induction n with
  | zero => intro a4 a5 a6 V hm; cases hm
  | succ n ih =>
    intro a4 a5 a6 V hm
    rw [mX1_run_b39] at hm
    refine j_iload dX1_run_39 rfl rfl ?_
    refine j_aload_n dX1_run_41 rfl rfl ?_
    refine m_geti (k := 0) fX1_28 dX1_run_42 rfl rfl rfl ?_
    refine j_icmp_ge (tgt := 79) dX1_run_45 rfl (by decide) (fun c1 => ?_) (fun c1 => ?_)
    · have hm := jif_pos c1 hm
      refine j_aload_n dX1_run_79 rfl rfl ?_
      refine m_getr (k := 4) (r := 35) fX1_21 dX1_run_80 rfl rfl rfl ?_
      refine j_iload dX1_run_83 rfl rfl ?_
      refine j_iload dX1_run_85 rfl rfl ?_
      obtain ⟨g2, hm⟩ := jg_of hm
      refine o_iast (k := (Int32.toNatClampNeg a4)) rfl dX1_run_87 rfl rfl (jin_vp g2) ?_
      obtain ⟨V3, eV3⟩ : ∃ y, y = (jsI V 35 (Int32.toNatClampNeg a4) a5) := ⟨_, rfl⟩
      have hm := jl_of hm eV3
      rw [← eV3]
      refine j_iinc (v := (a4 + (-1 : Int32))) (L' := [(4, _), (0, _), (5, _), (6, _)]) dX1_run_88 rfl rfl rfl (by decide) rfl ?_
      refine j_goto (tgt := 27) dX1_run_91 (by decide) ?_
      refine j_sub (L' := [(0, _), (4, _)]) [1, 0] rfl ?_
      exact hk27 _ _  hm
    · have hm := jif_neg c1 hm
      refine j_iload dX1_run_48 rfl rfl ?_
      refine j_iload dX1_run_50 rfl rfl ?_
      refine o_callS_i kX1_33 dX1_run_52 rfl (tX4_isIn  rfl) rfl rfl (Nat.le_of_ble_eq_true rfl) (by decide) ?_
      refine j_if_ne (tgt := 73) dX1_run_55 rfl (by decide) (fun c4 => ?_) (fun c4 => ?_)
      · have hm := jif_neg c4 hm
        exact tX1_run_b73   hk27 ih hm
      · have hm := jif_pos c4 hm
        refine j_iload dX1_run_58 rfl rfl ?_
        refine j_aload_n dX1_run_60 rfl rfl ?_
        refine j_iload dX1_run_61 rfl rfl ?_
        refine j_iload dX1_run_63 rfl rfl ?_
        obtain ⟨r5, er5, hm⟩ := jb_of hm
        refine o_callV_i kX1_37 dX1_run_65 rfl (tX1_costBy  er5) rfl rfl rfl rfl rfl (Nat.le_of_ble_eq_true rfl) (by decide) ?_
        refine j_min kX1_41 mm_min.1 mm_min.2.1 mm_min.2.2 dX1_run_68 rfl (by decide) (Nat.le_of_ble_eq_true rfl) ⟨Nat.le_refl _, Nat.le_refl _⟩ ?_
        refine j_istore (L' := [(5, _), (0, _), (4, _), (6, _)]) dX1_run_71 rfl (by decide) rfl ?_
        refine j_sub (L' := [(0, _), (4, _), (5, _), (6, _)]) [1, 2, 0, 3] rfl ?_
        exact tX1_run_b73   hk27 ih hm
def mX1_run_b27   : Nat → Int32 → jMem → Option (Int32 × jMem)
  | 0, _, _ => none
  | n + 1, a4, V => (if a4 < (0 : Int32) then (some ((V.1 35 0), V)) else (mX1_run_b39 (mX1_run_b27 n) 2000 a4 (1073741824 : Int32) (0 : Int32) V))
set_option maxHeartbeats 4000000 in
set_option maxRecDepth 20000 in
theorem tX1_run_b27 {l : Launch} {Z : jZ} {q : Nat → Nat}  {r : Int32} {V' : jMem}   (n : Nat) : ∀ (a4 : Int32) (V : jMem), mX1_run_b27 n a4 V = some (r, V') → J l Z RX1 "run" cX1_run 7 (some .int) 5 0 0 (fun r' w => r' = some (.int r) ∧ w = jw Z q V' dX) 27 [(0, .ref (q 31)), (4, .int a4)] [] (jw Z q V dX) 0 0 := by
  induction n with
  | zero => intro a4 V hm; cases hm
  | succ n ih =>
    intro a4 V hm
    rw [mX1_run_b27] at hm
    refine j_iload dX1_run_27 rfl rfl ?_
    refine j_if_lt (tgt := 94) dX1_run_29 rfl (by decide) (fun c1 => ?_) (fun c1 => ?_)
    · have hm := jif_pos c1 hm
      refine j_aload_n dX1_run_94 rfl rfl ?_
      refine m_getr (k := 4) (r := 35) fX1_21 dX1_run_95 rfl rfl rfl ?_
      refine j_iconst (v := 0) dX1_run_98 rfl (by decide) ?_
      refine o_iald (k := 0) (by decide) dX1_run_99 rfl rfl (jin_vp (by decide)) ?_
      exact j_ireturn dX1_run_100 rfl rfl ⟨Nat.le_refl _, Nat.le_refl _⟩ (jf_m (fun z => .int z) hm)
    · have hm := jif_neg c1 hm
      refine j_ldc dX1_run_32 rfl wX1_32 ?_
      refine j_istore (L' := [(5, _), (0, _), (4, _)]) dX1_run_34 rfl (by decide) rfl ?_
      refine j_iconst (v := 0) dX1_run_36 rfl (by decide) ?_
      refine j_istore (L' := [(6, _), (5, _), (0, _), (4, _)]) dX1_run_37 rfl (by decide) rfl ?_
      refine j_sub (L' := [(0, _), (4, _), (5, _), (6, _)]) [2, 3, 1, 0] rfl ?_
      exact tX1_run_b39  ih _ _ _ _ _  hm
def mX1_run (a2 : Int32) (V : jMem) : Option (Int32 × jMem) := ((mX1_layRow a2 V).bind (fun (p1 : jMem) => (jl (((1 : Int32) <<< ((p1.1 31 0) &&& (31 : Int32))) - (1 : Int32)) (fun (v2 : Int32) => (jg (jin v2 1024) (jl (jsI p1 35 (Int32.toNatClampNeg v2) (0 : Int32)) (fun (V4 : jMem) => (mX1_run_b27 2000 (v2 - (1 : Int32)) V4))))))))
set_option maxHeartbeats 4000000 in
set_option maxRecDepth 20000 in
theorem tX1_run {l : Launch} {Z : jZ} {q : Nat → Nat} {a2 : Int32} {V : jMem} {r : Int32} {V' : jMem}  (hm : mX1_run a2 V = some (r, V')) : CtD l Z yX1_run cX1_run 7 (some .int) 5 q dX [.ref (q 31), .ref (q 1), .int a2] V (some (.int r)) V' := by
  refine Ct_of (L := [(0, .ref (q 31)), (1, .ref (q 1)), (2, .int a2)]) (own := RX1) (nm := "run") rfl rfl (by decide +kernel) rfl (Nat.le_of_ble_eq_true rfl) ?_
  unfold mX1_run at hm
  refine j_aload_n dX1_run_0 rfl rfl ?_
  refine j_aload_n dX1_run_1 rfl rfl ?_
  refine j_iload_n dX1_run_2 rfl rfl ?_
  obtain ⟨p1, ep1, hm⟩ := jb_of hm
  refine o_callV_v kX1_24 dX1_run_3 rfl (tX1_layRow  ep1) rfl rfl rfl rfl rfl (Nat.le_of_ble_eq_true rfl) (by decide) ?_
  refine j_iconst (v := 1) dX1_run_6 rfl (by decide) ?_
  refine j_aload_n dX1_run_7 rfl rfl ?_
  refine m_geti (k := 0) fX1_28 dX1_run_8 rfl rfl rfl ?_
  refine j_ishl dX1_run_11 rfl ?_
  refine j_iconst (v := 1) dX1_run_12 rfl (by decide) ?_
  refine j_isub dX1_run_13 rfl ?_
  obtain ⟨v2, ev2⟩ : ∃ y, y = ((((1 : Int32) <<< ((p1.1 31 0) &&& (31 : Int32))) - (1 : Int32)) : Int32) := ⟨_, rfl⟩
  have hm := jl_of hm ev2
  rw [← ev2]
  refine j_istore_n (i := 3) (L' := [(3, _), (0, _), (1, _), (2, _)]) dX1_run_14 rfl rfl (by decide) rfl ?_
  refine j_aload_n dX1_run_15 rfl rfl ?_
  refine m_getr (k := 4) (r := 35) fX1_21 dX1_run_16 rfl rfl rfl ?_
  refine j_iload_n dX1_run_19 rfl rfl ?_
  refine j_iconst (v := 0) dX1_run_20 rfl (by decide) ?_
  obtain ⟨g3, hm⟩ := jg_of hm
  refine o_iast (k := (Int32.toNatClampNeg v2)) rfl dX1_run_21 rfl rfl (jin_vp g3) ?_
  obtain ⟨V4, eV4⟩ : ∃ y, y = (jsI p1 35 (Int32.toNatClampNeg v2) (0 : Int32)) := ⟨_, rfl⟩
  have hm := jl_of hm eV4
  rw [← eV4]
  refine j_iload_n dX1_run_22 rfl rfl ?_
  refine j_iconst (v := 1) dX1_run_23 rfl (by decide) ?_
  refine j_isub dX1_run_24 rfl ?_
  refine j_istore (L' := [(4, _), (3, _), (0, _), (1, _), (2, _)]) dX1_run_25 rfl (by decide) rfl ?_
  refine j_sub (L' := [(0, _), (4, _)]) [2, 0] rfl ?_
  exact tX1_run_b27   _ _ _  hm
theorem dX1_nextOf_0 : decode cX1_nextOf 0 = .ok (.iconst 0, 1) := by decide +kernel
theorem dX1_nextOf_1 : decode cX1_nextOf 1 = .ok (.istore_n 2, 1) := by decide +kernel
theorem dX1_nextOf_2 : decode cX1_nextOf 2 = .ok (.iload_n 2, 1) := by decide +kernel
theorem dX1_nextOf_3 : decode cX1_nextOf 3 = .ok (.aload_n 0, 1) := by decide +kernel
theorem dX1_nextOf_4 : decode cX1_nextOf 4 = .ok (.getfield 28, 3) := by decide +kernel
theorem dX1_nextOf_7 : decode cX1_nextOf 7 = .ok (.if_icmp .ge 34, 3) := by decide +kernel
theorem dX1_nextOf_10 : decode cX1_nextOf 10 = .ok (.iload_n 2, 1) := by decide +kernel
theorem dX1_nextOf_11 : decode cX1_nextOf 11 = .ok (.iload_n 1, 1) := by decide +kernel
theorem dX1_nextOf_12 : decode cX1_nextOf 12 = .ok (.invokestatic 33, 3) := by decide +kernel
theorem dX1_nextOf_15 : decode cX1_nextOf 15 = .ok (.ifCond .ne 20, 3) := by decide +kernel
theorem dX1_nextOf_18 : decode cX1_nextOf 18 = .ok (.aload_n 0, 1) := by decide +kernel
theorem dX1_nextOf_19 : decode cX1_nextOf 19 = .ok (.iload_n 2, 1) := by decide +kernel
theorem dX1_nextOf_20 : decode cX1_nextOf 20 = .ok (.iload_n 1, 1) := by decide +kernel
theorem dX1_nextOf_21 : decode cX1_nextOf 21 = .ok (.invokevirtual 37, 3) := by decide +kernel
theorem dX1_nextOf_24 : decode cX1_nextOf 24 = .ok (.aload_n 0, 1) := by decide +kernel
theorem dX1_nextOf_25 : decode cX1_nextOf 25 = .ok (.getfield 21, 3) := by decide +kernel
theorem dX1_nextOf_28 : decode cX1_nextOf 28 = .ok (.iload_n 1, 1) := by decide +kernel
theorem dX1_nextOf_29 : decode cX1_nextOf 29 = .ok (.iaload, 1) := by decide +kernel
theorem dX1_nextOf_30 : decode cX1_nextOf 30 = .ok (.if_icmp .ne 5, 3) := by decide +kernel
theorem dX1_nextOf_33 : decode cX1_nextOf 33 = .ok (.iload_n 2, 1) := by decide +kernel
theorem dX1_nextOf_34 : decode cX1_nextOf 34 = .ok (.ireturn, 1) := by decide +kernel
theorem dX1_nextOf_35 : decode cX1_nextOf 35 = .ok (.iinc 2 1, 3) := by decide +kernel
theorem dX1_nextOf_38 : decode cX1_nextOf 38 = .ok (.goto (-36), 3) := by decide +kernel
theorem dX1_nextOf_41 : decode cX1_nextOf 41 = .ok (.iconst 0, 1) := by decide +kernel
theorem dX1_nextOf_42 : decode cX1_nextOf 42 = .ok (.ireturn, 1) := by decide +kernel
def mX1_nextOf_b35 (V : jMem) (k2 : Int32 → Int32 → Option Int32) (a1 : Int32) (a2 : Int32) : Option Int32 := (k2 a1 (a2 + (1 : Int32)))
set_option maxHeartbeats 4000000 in
set_option maxRecDepth 20000 in
theorem tX1_nextOf_b35 {l : Launch} {Z : jZ} {q : Nat → Nat} {V : jMem} {k2 : Int32 → Int32 → Option Int32} {a1 : Int32} {a2 : Int32} {r : Int32}   (hk2 : ∀ (a1 : Int32) (a2 : Int32), k2 a1 a2 = some r → J l Z RX1 "nextOf" cX1_nextOf 3 (some .int) 2 0 0 (fun r' w => r' = some (.int r) ∧ w = jw Z q V dX) 2 [(0, .ref (q 31)), (1, .int a1), (2, .int a2)] [] (jw Z q V dX) 0 0) (hm : mX1_nextOf_b35 V k2 a1 a2 = some r) : J l Z RX1 "nextOf" cX1_nextOf 3 (some .int) 2 0 0 (fun r' w => r' = some (.int r) ∧ w = jw Z q V dX) 35 [(0, .ref (q 31)), (1, .int a1), (2, .int a2)] [] (jw Z q V dX) 0 0 := by
  unfold mX1_nextOf_b35 at hm
  refine j_iinc (v := (a2 + (1 : Int32))) (L' := [(2, _), (0, _), (1, _)]) dX1_nextOf_35 rfl rfl rfl (by decide) rfl ?_
  refine j_goto (tgt := 2) dX1_nextOf_38 (by decide) ?_
  refine j_sub (L' := [(0, _), (1, _), (2, _)]) [1, 2, 0] rfl ?_
  exact hk2 _ _  hm
def mX1_nextOf_b2 (V : jMem)  : Nat → Int32 → Int32 → Option Int32
  | 0, _, _ => none
  | n + 1, a1, a2 => (if (V.1 31 0) ≤ a2 then (some (0 : Int32)) else (if (mX4_isIn a2 a1) = (0 : Int32) then ((mX1_costBy a2 a1 V).bind (fun (r3 : Int32) => (jg (jin a1 1024) (if r3 = (V.1 35 (Int32.toNatClampNeg a1)) then (some a2) else (mX1_nextOf_b35 V (mX1_nextOf_b2 V n) a1 a2))))) else (mX1_nextOf_b35 V (mX1_nextOf_b2 V n) a1 a2)))
set_option maxHeartbeats 4000000 in
set_option maxRecDepth 20000 in
theorem tX1_nextOf_b2 {l : Launch} {Z : jZ} {q : Nat → Nat} {V : jMem} {r : Int32}   (n : Nat) : ∀ (a1 : Int32) (a2 : Int32), mX1_nextOf_b2 V n a1 a2 = some r → J l Z RX1 "nextOf" cX1_nextOf 3 (some .int) 2 0 0 (fun r' w => r' = some (.int r) ∧ w = jw Z q V dX) 2 [(0, .ref (q 31)), (1, .int a1), (2, .int a2)] [] (jw Z q V dX) 0 0 := by
  induction n with
  | zero => intro a1 a2 hm; cases hm
  | succ n ih =>
    intro a1 a2 hm
    rw [mX1_nextOf_b2] at hm
    refine j_iload_n dX1_nextOf_2 rfl rfl ?_
    refine j_aload_n dX1_nextOf_3 rfl rfl ?_
    refine m_geti (k := 0) fX1_28 dX1_nextOf_4 rfl rfl rfl ?_
    refine j_icmp_ge (tgt := 41) dX1_nextOf_7 rfl (by decide) (fun c1 => ?_) (fun c1 => ?_)
    · have hm := jif_pos c1 hm
      refine j_iconst (v := 0) dX1_nextOf_41 rfl (by decide) ?_
      exact j_ireturn dX1_nextOf_42 rfl rfl ⟨Nat.le_refl _, Nat.le_refl _⟩ (jf_p (fun z => .int z) hm)
    · have hm := jif_neg c1 hm
      refine j_iload_n dX1_nextOf_10 rfl rfl ?_
      refine j_iload_n dX1_nextOf_11 rfl rfl ?_
      refine o_callS_i kX1_33 dX1_nextOf_12 rfl (tX4_isIn  rfl) rfl rfl (Nat.le_of_ble_eq_true rfl) (by decide) ?_
      refine j_if_ne (tgt := 35) dX1_nextOf_15 rfl (by decide) (fun c2 => ?_) (fun c2 => ?_)
      · have hm := jif_neg c2 hm
        exact tX1_nextOf_b35   ih hm
      · have hm := jif_pos c2 hm
        refine j_aload_n dX1_nextOf_18 rfl rfl ?_
        refine j_iload_n dX1_nextOf_19 rfl rfl ?_
        refine j_iload_n dX1_nextOf_20 rfl rfl ?_
        obtain ⟨r3, er3, hm⟩ := jb_of hm
        refine o_callV_i kX1_37 dX1_nextOf_21 rfl (tX1_costBy  er3) rfl rfl rfl rfl rfl (Nat.le_of_ble_eq_true rfl) (by decide) ?_
        refine j_aload_n dX1_nextOf_24 rfl rfl ?_
        refine m_getr (k := 4) (r := 35) fX1_21 dX1_nextOf_25 rfl rfl rfl ?_
        refine j_iload_n dX1_nextOf_28 rfl rfl ?_
        obtain ⟨g4, hm⟩ := jg_of hm
        refine o_iald (k := (Int32.toNatClampNeg a1)) rfl dX1_nextOf_29 rfl rfl (jin_vp g4) ?_
        refine j_icmp_ne (tgt := 35) dX1_nextOf_30 rfl (by decide) (fun c5 => ?_) (fun c5 => ?_)
        · have hm := jif_neg c5 hm
          exact tX1_nextOf_b35   ih hm
        · have hm := jif_pos c5 hm
          refine j_iload_n dX1_nextOf_33 rfl rfl ?_
          exact j_ireturn dX1_nextOf_34 rfl rfl ⟨Nat.le_refl _, Nat.le_refl _⟩ (jf_p (fun z => .int z) hm)
def mX1_nextOf (a1 : Int32) (V : jMem) : Option Int32 := (mX1_nextOf_b2 V 2000 a1 (0 : Int32))
set_option maxHeartbeats 4000000 in
set_option maxRecDepth 20000 in
theorem tX1_nextOf {l : Launch} {Z : jZ} {q : Nat → Nat} {a1 : Int32} {V : jMem} {r : Int32}  (hm : mX1_nextOf a1 V = some r) : CtD l Z yX1_nextOf cX1_nextOf 3 (some .int) 2 q dX [.ref (q 31), .int a1] V (some (.int r)) V := by
  refine Ct_of (L := [(0, .ref (q 31)), (1, .int a1)]) (own := RX1) (nm := "nextOf") rfl rfl (by decide +kernel) rfl (Nat.le_of_ble_eq_true rfl) ?_
  unfold mX1_nextOf at hm
  refine j_iconst (v := 0) dX1_nextOf_0 rfl (by decide) ?_
  refine j_istore_n (i := 2) (L' := [(2, _), (0, _), (1, _)]) dX1_nextOf_1 rfl rfl (by decide) rfl ?_
  refine j_sub (L' := [(0, _), (1, _), (2, _)]) [1, 2, 0] rfl ?_
  exact tX1_nextOf_b2   _ _ _  hm
theorem dX1_fieldAt_0 : decode cX1_fieldAt 0 = .ok (.iload_n 1, 1) := by decide +kernel
theorem dX1_fieldAt_1 : decode cX1_fieldAt 1 = .ok (.iconst 0, 1) := by decide +kernel
theorem dX1_fieldAt_2 : decode cX1_fieldAt 2 = .ok (.aload_n 0, 1) := by decide +kernel
theorem dX1_fieldAt_3 : decode cX1_fieldAt 3 = .ok (.getfield 28, 3) := by decide +kernel
theorem dX1_fieldAt_6 : decode cX1_fieldAt 6 = .ok (.iconst 1, 1) := by decide +kernel
theorem dX1_fieldAt_7 : decode cX1_fieldAt 7 = .ok (.isub, 1) := by decide +kernel
theorem dX1_fieldAt_8 : decode cX1_fieldAt 8 = .ok (.invokestatic 65, 3) := by decide +kernel
theorem dX1_fieldAt_11 : decode cX1_fieldAt 11 = .ok (.ifCond .ne 5, 3) := by decide +kernel
theorem dX1_fieldAt_14 : decode cX1_fieldAt 14 = .ok (.iconst (-1), 1) := by decide +kernel
theorem dX1_fieldAt_15 : decode cX1_fieldAt 15 = .ok (.ireturn, 1) := by decide +kernel
theorem dX1_fieldAt_16 : decode cX1_fieldAt 16 = .ok (.iconst 0, 1) := by decide +kernel
theorem dX1_fieldAt_17 : decode cX1_fieldAt 17 = .ok (.istore_n 2, 1) := by decide +kernel
theorem dX1_fieldAt_18 : decode cX1_fieldAt 18 = .ok (.iconst 0, 1) := by decide +kernel
theorem dX1_fieldAt_19 : decode cX1_fieldAt 19 = .ok (.istore_n 3, 1) := by decide +kernel
theorem dX1_fieldAt_20 : decode cX1_fieldAt 20 = .ok (.iconst 0, 1) := by decide +kernel
theorem dX1_fieldAt_21 : decode cX1_fieldAt 21 = .ok (.istore 4, 2) := by decide +kernel
theorem dX1_fieldAt_23 : decode cX1_fieldAt 23 = .ok (.iload 4, 2) := by decide +kernel
theorem dX1_fieldAt_25 : decode cX1_fieldAt 25 = .ok (.iload_n 1, 1) := by decide +kernel
theorem dX1_fieldAt_26 : decode cX1_fieldAt 26 = .ok (.if_icmp .gt 21, 3) := by decide +kernel
theorem dX1_fieldAt_29 : decode cX1_fieldAt 29 = .ok (.aload_n 0, 1) := by decide +kernel
theorem dX1_fieldAt_30 : decode cX1_fieldAt 30 = .ok (.iload_n 2, 1) := by decide +kernel
theorem dX1_fieldAt_31 : decode cX1_fieldAt 31 = .ok (.invokevirtual 69, 3) := by decide +kernel
theorem dX1_fieldAt_34 : decode cX1_fieldAt 34 = .ok (.istore_n 3, 1) := by decide +kernel
theorem dX1_fieldAt_35 : decode cX1_fieldAt 35 = .ok (.iload_n 2, 1) := by decide +kernel
theorem dX1_fieldAt_36 : decode cX1_fieldAt 36 = .ok (.iconst 1, 1) := by decide +kernel
theorem dX1_fieldAt_37 : decode cX1_fieldAt 37 = .ok (.iload_n 3, 1) := by decide +kernel
theorem dX1_fieldAt_38 : decode cX1_fieldAt 38 = .ok (.ishl, 1) := by decide +kernel
theorem dX1_fieldAt_39 : decode cX1_fieldAt 39 = .ok (.ior, 1) := by decide +kernel
theorem dX1_fieldAt_40 : decode cX1_fieldAt 40 = .ok (.istore_n 2, 1) := by decide +kernel
theorem dX1_fieldAt_41 : decode cX1_fieldAt 41 = .ok (.iinc 4 1, 3) := by decide +kernel
theorem dX1_fieldAt_44 : decode cX1_fieldAt 44 = .ok (.goto (-21), 3) := by decide +kernel
theorem dX1_fieldAt_47 : decode cX1_fieldAt 47 = .ok (.aload_n 0, 1) := by decide +kernel
theorem dX1_fieldAt_48 : decode cX1_fieldAt 48 = .ok (.getfield 9, 3) := by decide +kernel
theorem dX1_fieldAt_51 : decode cX1_fieldAt 51 = .ok (.iload_n 3, 1) := by decide +kernel
theorem dX1_fieldAt_52 : decode cX1_fieldAt 52 = .ok (.iaload, 1) := by decide +kernel
theorem dX1_fieldAt_53 : decode cX1_fieldAt 53 = .ok (.ireturn, 1) := by decide +kernel
def mX1_fieldAt_b23 (V : jMem)  : Nat → Int32 → Int32 → Int32 → Int32 → Option Int32
  | 0, _, _, _, _ => none
  | n + 1, a1, a2, a3, a4 => (if a1 < a4 then (jg (jin a3 10) (some (V.1 32 (Int32.toNatClampNeg a3)))) else ((mX1_nextOf a2 V).bind (fun (r3 : Int32) => (jl (a2 ||| ((1 : Int32) <<< (r3 &&& (31 : Int32)))) (fun (v4 : Int32) => (mX1_fieldAt_b23 V n a1 v4 r3 (a4 + (1 : Int32))))))))
set_option maxHeartbeats 4000000 in
set_option maxRecDepth 20000 in
theorem tX1_fieldAt_b23 {l : Launch} {Z : jZ} {q : Nat → Nat} {V : jMem} {r : Int32}   (n : Nat) : ∀ (a1 : Int32) (a2 : Int32) (a3 : Int32) (a4 : Int32), mX1_fieldAt_b23 V n a1 a2 a3 a4 = some r → J l Z RX1 "fieldAt" cX1_fieldAt 5 (some .int) 3 0 0 (fun r' w => r' = some (.int r) ∧ w = jw Z q V dX) 23 [(0, .ref (q 31)), (1, .int a1), (2, .int a2), (3, .int a3), (4, .int a4)] [] (jw Z q V dX) 0 0 := by
  induction n with
  | zero => intro a1 a2 a3 a4 hm; cases hm
  | succ n ih =>
    intro a1 a2 a3 a4 hm
    rw [mX1_fieldAt_b23] at hm
    refine j_iload dX1_fieldAt_23 rfl rfl ?_
    refine j_iload_n dX1_fieldAt_25 rfl rfl ?_
    refine j_icmp_gt (tgt := 47) dX1_fieldAt_26 rfl (by decide) (fun c1 => ?_) (fun c1 => ?_)
    · have hm := jif_pos c1 hm
      refine j_aload_n dX1_fieldAt_47 rfl rfl ?_
      refine m_getr (k := 1) (r := 32) fX1_9 dX1_fieldAt_48 rfl rfl rfl ?_
      refine j_iload_n dX1_fieldAt_51 rfl rfl ?_
      obtain ⟨g2, hm⟩ := jg_of hm
      refine o_iald (k := (Int32.toNatClampNeg a3)) rfl dX1_fieldAt_52 rfl rfl (jin_vp g2) ?_
      exact j_ireturn dX1_fieldAt_53 rfl rfl ⟨Nat.le_refl _, Nat.le_refl _⟩ (jf_p (fun z => .int z) hm)
    · have hm := jif_neg c1 hm
      refine j_aload_n dX1_fieldAt_29 rfl rfl ?_
      refine j_iload_n dX1_fieldAt_30 rfl rfl ?_
      obtain ⟨r3, er3, hm⟩ := jb_of hm
      refine o_callV_i kX1_69 dX1_fieldAt_31 rfl (tX1_nextOf  er3) rfl rfl rfl rfl rfl (Nat.le_of_ble_eq_true rfl) (by decide) ?_
      refine j_istore_n (i := 3) (L' := [(3, _), (0, _), (1, _), (2, _), (4, _)]) dX1_fieldAt_34 rfl rfl (by decide) rfl ?_
      refine j_iload_n dX1_fieldAt_35 rfl rfl ?_
      refine j_iconst (v := 1) dX1_fieldAt_36 rfl (by decide) ?_
      refine j_iload_n dX1_fieldAt_37 rfl rfl ?_
      refine j_ishl dX1_fieldAt_38 rfl ?_
      refine j_ior dX1_fieldAt_39 rfl ?_
      obtain ⟨v4, ev4⟩ : ∃ y, y = ((a2 ||| ((1 : Int32) <<< (r3 &&& (31 : Int32)))) : Int32) := ⟨_, rfl⟩
      have hm := jl_of hm ev4
      rw [← ev4]
      refine j_istore_n (i := 2) (L' := [(2, _), (3, _), (0, _), (1, _), (4, _)]) dX1_fieldAt_40 rfl rfl (by decide) rfl ?_
      refine j_iinc (v := (a4 + (1 : Int32))) (L' := [(4, _), (2, _), (3, _), (0, _), (1, _)]) dX1_fieldAt_41 rfl rfl rfl (by decide) rfl ?_
      refine j_goto (tgt := 23) dX1_fieldAt_44 (by decide) ?_
      refine j_sub (L' := [(0, _), (1, _), (2, _), (3, _), (4, _)]) [3, 4, 1, 2, 0] rfl ?_
      exact ih _ _ _ _  hm
def mX1_fieldAt (a1 : Int32) (V : jMem) : Option Int32 := (if (mX4_isWithin a1 (0 : Int32) ((V.1 31 0) - (1 : Int32))) = (0 : Int32) then (some (-1 : Int32)) else (mX1_fieldAt_b23 V 2000 a1 (0 : Int32) (0 : Int32) (0 : Int32)))
set_option maxHeartbeats 4000000 in
set_option maxRecDepth 20000 in
theorem tX1_fieldAt {l : Launch} {Z : jZ} {q : Nat → Nat} {a1 : Int32} {V : jMem} {r : Int32}  (hm : mX1_fieldAt a1 V = some r) : CtD l Z yX1_fieldAt cX1_fieldAt 5 (some .int) 3 q dX [.ref (q 31), .int a1] V (some (.int r)) V := by
  refine Ct_of (L := [(0, .ref (q 31)), (1, .int a1)]) (own := RX1) (nm := "fieldAt") rfl rfl (by decide +kernel) rfl (Nat.le_of_ble_eq_true rfl) ?_
  unfold mX1_fieldAt at hm
  refine j_iload_n dX1_fieldAt_0 rfl rfl ?_
  refine j_iconst (v := 0) dX1_fieldAt_1 rfl (by decide) ?_
  refine j_aload_n dX1_fieldAt_2 rfl rfl ?_
  refine m_geti (k := 0) fX1_28 dX1_fieldAt_3 rfl rfl rfl ?_
  refine j_iconst (v := 1) dX1_fieldAt_6 rfl (by decide) ?_
  refine j_isub dX1_fieldAt_7 rfl ?_
  refine o_callS_i kX1_65 dX1_fieldAt_8 rfl (tX4_isWithin  rfl) rfl rfl (Nat.le_of_ble_eq_true rfl) (by decide) ?_
  refine j_if_ne (tgt := 16) dX1_fieldAt_11 rfl (by decide) (fun c1 => ?_) (fun c1 => ?_)
  · have hm := jif_neg c1 hm
    refine j_iconst (v := 0) dX1_fieldAt_16 rfl (by decide) ?_
    refine j_istore_n (i := 2) (L' := [(2, _), (0, _), (1, _)]) dX1_fieldAt_17 rfl rfl (by decide) rfl ?_
    refine j_iconst (v := 0) dX1_fieldAt_18 rfl (by decide) ?_
    refine j_istore_n (i := 3) (L' := [(3, _), (2, _), (0, _), (1, _)]) dX1_fieldAt_19 rfl rfl (by decide) rfl ?_
    refine j_iconst (v := 0) dX1_fieldAt_20 rfl (by decide) ?_
    refine j_istore (L' := [(4, _), (3, _), (2, _), (0, _), (1, _)]) dX1_fieldAt_21 rfl (by decide) rfl ?_
    refine j_sub (L' := [(0, _), (1, _), (2, _), (3, _), (4, _)]) [3, 4, 2, 1, 0] rfl ?_
    exact tX1_fieldAt_b23   _ _ _ _ _  hm
  · have hm := jif_pos c1 hm
    refine j_iconst (v := -1) dX1_fieldAt_14 rfl (by decide) ?_
    exact j_ireturn dX1_fieldAt_15 rfl rfl ⟨Nat.le_refl _, Nat.le_refl _⟩ (jf_p (fun z => .int z) hm)
theorem dX2_isMissing_0 : decode cX2_isMissing 0 = .ok (.aload_n 0, 1) := by decide +kernel
theorem dX2_isMissing_1 : decode cX2_isMissing 1 = .ok (.getfield 15, 3) := by decide +kernel
theorem dX2_isMissing_4 : decode cX2_isMissing 4 = .ok (.ifCond .ne 7, 3) := by decide +kernel
theorem dX2_isMissing_7 : decode cX2_isMissing 7 = .ok (.iconst 1, 1) := by decide +kernel
theorem dX2_isMissing_8 : decode cX2_isMissing 8 = .ok (.goto 4, 3) := by decide +kernel
theorem dX2_isMissing_11 : decode cX2_isMissing 11 = .ok (.iconst 0, 1) := by decide +kernel
theorem dX2_isMissing_12 : decode cX2_isMissing 12 = .ok (.ireturn, 1) := by decide +kernel
def mX2_isMissing (ip : Nat) (V : jMem) : Int32 := (if (V.1 (39 + 2 * ip) 0) = (0 : Int32) then (1 : Int32) else (0 : Int32))
set_option maxHeartbeats 4000000 in
set_option maxRecDepth 20000 in
theorem tX2_isMissing {l : Launch} {Z : jZ} {q : Nat → Nat} {ip : Nat} {V : jMem} {r : Int32} (hip : ip < 4) (hm : mX2_isMissing ip V = r) : CtD l Z yX2_isMissing cX2_isMissing 1 (some .boolean) 0 q dX [.ref (q (39 + 2 * ip))] V (some (.int r)) V := by
  refine Ct_of (L := [(0, .ref (q (39 + 2 * ip)))]) (own := RX2) (nm := "isMissing") rfl rfl (by decide +kernel) rfl (Nat.le_of_ble_eq_true rfl) ?_
  unfold mX2_isMissing at hm
  refine j_aload_n dX2_isMissing_0 rfl rfl ?_
  refine m_geti (k := 0) fX2_15 dX2_isMissing_1 rfl (jsheet_o hip) rfl ?_
  refine j_if_ne (tgt := 11) dX2_isMissing_4 rfl (by decide) (fun c1 => ?_) (fun c1 => ?_)
  · have hm := jif_neg c1 hm
    refine j_iconst (v := 0) dX2_isMissing_11 rfl (by decide) ?_
    exact j_zreturn dX2_isMissing_12 rfl (by decide) ⟨Nat.le_refl _, Nat.le_refl _⟩ (jf_t (fun z => .int z) hm)
  · have hm := jif_pos c1 hm
    refine j_iconst (v := 1) dX2_isMissing_7 rfl (by decide) ?_
    refine j_goto (tgt := 12) dX2_isMissing_8 (by decide) ?_
    exact j_zreturn dX2_isMissing_12 rfl (by decide) ⟨Nat.le_refl _, Nat.le_refl _⟩ (jf_t (fun z => .int z) hm)
theorem zzX2_isMissing {ip : Nat} {V : jMem} : mX2_isMissing ip V = 0 ∨ mX2_isMissing ip V = 1 := by
  unfold mX2_isMissing
  (repeat' split) <;> first | exact Or.inl rfl | exact Or.inr rfl
theorem dX2_lay_0 : decode cX2_lay 0 = .ok (.aload_n 0, 1) := by decide +kernel
theorem dX2_lay_1 : decode cX2_lay 1 = .ok (.iload_n 1, 1) := by decide +kernel
theorem dX2_lay_2 : decode cX2_lay 2 = .ok (.putfield 15, 3) := by decide +kernel
theorem dX2_lay_5 : decode cX2_lay 5 = .ok (.aload_n 0, 1) := by decide +kernel
theorem dX2_lay_6 : decode cX2_lay 6 = .ok (.iload_n 1, 1) := by decide +kernel
theorem dX2_lay_7 : decode cX2_lay 7 = .ok (.ifCond .ne 7, 3) := by decide +kernel
theorem dX2_lay_10 : decode cX2_lay 10 = .ok (.iconst 0, 1) := by decide +kernel
theorem dX2_lay_11 : decode cX2_lay 11 = .ok (.goto 4, 3) := by decide +kernel
theorem dX2_lay_14 : decode cX2_lay 14 = .ok (.iload_n 2, 1) := by decide +kernel
theorem dX2_lay_15 : decode cX2_lay 15 = .ok (.putfield 19, 3) := by decide +kernel
theorem dX2_lay_18 : decode cX2_lay 18 = .ok (.aload_n 0, 1) := by decide +kernel
theorem dX2_lay_19 : decode cX2_lay 19 = .ok (.getfield 9, 3) := by decide +kernel
theorem dX2_lay_22 : decode cX2_lay 22 = .ok (.lconst 0, 1) := by decide +kernel
theorem dX2_lay_23 : decode cX2_lay 23 = .ok (.invokestatic 22, 3) := by decide +kernel
theorem dX2_lay_26 : decode cX2_lay 26 = .ok (.return_, 1) := by decide +kernel
def mX2_lay_b15 (ip : Nat)  (s0 : Int32) (V : jMem) : Option jMem := (jl (jsI V (39 + 2 * ip) 1 s0) (fun (V1 : jMem) => ((mJ7_fill_d0a16 (39 + 2 * ip + 1) 40 (0 : Int64) V1).bind (fun (p2 : jMem) => (some p2)))))
set_option maxHeartbeats 4000000 in
set_option maxRecDepth 20000 in
theorem tX2_lay_b15 {l : Launch} {Z : jZ} {q : Nat → Nat} {ip : Nat} {s0 : Int32} {V : jMem} {V' : jMem} (hip : ip < 4)   (hm : mX2_lay_b15 ip s0 V = some V') : J l Z RX2 "lay" cX2_lay 3 none 1 0 0 (fun r' w => r' = none ∧ w = jw Z q V' dX) 15 [(0, .ref (q (39 + 2 * ip)))] [.int s0, .ref (q (39 + 2 * ip))] (jw Z q V dX) 0 0 := by
  unfold mX2_lay_b15 at hm
  refine m_puti (k := 1) fX2_19 dX2_lay_15 rfl (jsheet_o hip) rfl ?_
  obtain ⟨V1, eV1⟩ : ∃ y, y = (jsI V (39 + 2 * ip) 1 s0) := ⟨_, rfl⟩
  have hm := jl_of hm eV1
  rw [← eV1]
  refine j_aload_n dX2_lay_18 rfl rfl ?_
  refine m_getr (k := 2) (r := (39 + 2 * ip + 1)) fX2_9 dX2_lay_19 rfl (jsheet_o hip) rfl ?_
  refine j_lconst (v := 0) dX2_lay_22 rfl (by decide) ?_
  obtain ⟨p2, ep2, hm⟩ := jb_of hm
  refine o_callS_v kX2_22 dX2_lay_23 rfl (tJ7_fill_d0a16 ⟨(jsheet_a hip), by decide⟩ ep2) rfl rfl (Nat.le_of_ble_eq_true rfl) (by decide) ?_
  exact j_return dX2_lay_26 rfl ⟨Nat.le_refl _, Nat.le_refl _⟩ (jf_v hm)
def mX2_lay (ip : Nat) (a1 : Int32) (a2 : Int32) (V : jMem) : Option jMem := (jl (jsI V (39 + 2 * ip) 0 a1) (fun (V1 : jMem) => (if a1 = (0 : Int32) then (mX2_lay_b15 ip (0 : Int32) V1) else (mX2_lay_b15 ip a2 V1))))
set_option maxHeartbeats 4000000 in
set_option maxRecDepth 20000 in
theorem tX2_lay {l : Launch} {Z : jZ} {q : Nat → Nat} {ip : Nat} {a1 : Int32} {a2 : Int32} {V : jMem} {V' : jMem} (hip : ip < 4) (hm : mX2_lay ip a1 a2 V = some V') : CtD l Z yX2_lay cX2_lay 3 none 1 q dX [.ref (q (39 + 2 * ip)), .int a1, .int a2] V none V' := by
  refine Ct_of (L := [(0, .ref (q (39 + 2 * ip))), (1, .int a1), (2, .int a2)]) (own := RX2) (nm := "lay") rfl rfl (by decide +kernel) rfl (Nat.le_of_ble_eq_true rfl) ?_
  unfold mX2_lay at hm
  refine j_aload_n dX2_lay_0 rfl rfl ?_
  refine j_iload_n dX2_lay_1 rfl rfl ?_
  refine m_puti (k := 0) fX2_15 dX2_lay_2 rfl (jsheet_o hip) rfl ?_
  obtain ⟨V1, eV1⟩ : ∃ y, y = (jsI V (39 + 2 * ip) 0 a1) := ⟨_, rfl⟩
  have hm := jl_of hm eV1
  rw [← eV1]
  refine j_aload_n dX2_lay_5 rfl rfl ?_
  refine j_iload_n dX2_lay_6 rfl rfl ?_
  refine j_if_ne (tgt := 14) dX2_lay_7 rfl (by decide) (fun c2 => ?_) (fun c2 => ?_)
  · have hm := jif_neg c2 hm
    refine j_iload_n dX2_lay_14 rfl rfl ?_
    refine j_sub (L' := [(0, _)]) [0] rfl ?_
    exact tX2_lay_b15 hip   hm
  · have hm := jif_pos c2 hm
    refine j_iconst (v := 0) dX2_lay_10 rfl (by decide) ?_
    refine j_goto (tgt := 15) dX2_lay_11 (by decide) ?_
    refine j_sub (L' := [(0, _)]) [0] rfl ?_
    exact tX2_lay_b15 hip   hm
theorem dX2_put_0 : decode cX2_put 0 = .ok (.aload_n 0, 1) := by decide +kernel
theorem dX2_put_1 : decode cX2_put 1 = .ok (.getfield 9, 3) := by decide +kernel
theorem dX2_put_4 : decode cX2_put 4 = .ok (.iload_n 1, 1) := by decide +kernel
theorem dX2_put_5 : decode cX2_put 5 = .ok (.laload, 1) := by decide +kernel
theorem dX2_put_6 : decode cX2_put 6 = .ok (.lstore 4, 2) := by decide +kernel
theorem dX2_put_8 : decode cX2_put 8 = .ok (.aload_n 0, 1) := by decide +kernel
theorem dX2_put_9 : decode cX2_put 9 = .ok (.getfield 9, 3) := by decide +kernel
theorem dX2_put_12 : decode cX2_put 12 = .ok (.iload_n 1, 1) := by decide +kernel
theorem dX2_put_13 : decode cX2_put 13 = .ok (.aload_n 0, 1) := by decide +kernel
theorem dX2_put_14 : decode cX2_put 14 = .ok (.getfield 15, 3) := by decide +kernel
theorem dX2_put_17 : decode cX2_put 17 = .ok (.bipush 8, 2) := by decide +kernel
theorem dX2_put_19 : decode cX2_put 19 = .ok (.if_icmp .ne 10, 3) := by decide +kernel
theorem dX2_put_22 : decode cX2_put 22 = .ok (.lload_n 2, 1) := by decide +kernel
theorem dX2_put_23 : decode cX2_put 23 = .ok (.l2i, 1) := by decide +kernel
theorem dX2_put_24 : decode cX2_put 24 = .ok (.i2b, 1) := by decide +kernel
theorem dX2_put_25 : decode cX2_put 25 = .ok (.i2l, 1) := by decide +kernel
theorem dX2_put_26 : decode cX2_put 26 = .ok (.goto 20, 3) := by decide +kernel
theorem dX2_put_29 : decode cX2_put 29 = .ok (.aload_n 0, 1) := by decide +kernel
theorem dX2_put_30 : decode cX2_put 30 = .ok (.getfield 15, 3) := by decide +kernel
theorem dX2_put_33 : decode cX2_put 33 = .ok (.bipush 16, 2) := by decide +kernel
theorem dX2_put_35 : decode cX2_put 35 = .ok (.if_icmp .ne 10, 3) := by decide +kernel
theorem dX2_put_38 : decode cX2_put 38 = .ok (.lload_n 2, 1) := by decide +kernel
theorem dX2_put_39 : decode cX2_put 39 = .ok (.l2i, 1) := by decide +kernel
theorem dX2_put_40 : decode cX2_put 40 = .ok (.i2s, 1) := by decide +kernel
theorem dX2_put_41 : decode cX2_put 41 = .ok (.i2l, 1) := by decide +kernel
theorem dX2_put_42 : decode cX2_put 42 = .ok (.goto 4, 3) := by decide +kernel
theorem dX2_put_45 : decode cX2_put 45 = .ok (.lload_n 2, 1) := by decide +kernel
theorem dX2_put_46 : decode cX2_put 46 = .ok (.lastore, 1) := by decide +kernel
theorem dX2_put_47 : decode cX2_put 47 = .ok (.lload 4, 2) := by decide +kernel
theorem dX2_put_49 : decode cX2_put 49 = .ok (.lreturn, 1) := by decide +kernel
def mX2_put_b46 (ip : Nat)  (a4 : Int64) (s0 : Int64) (s1 : Int32) (V : jMem) : Option (Int64 × jMem) := (jg (jin s1 40) (jl (jsL V (39 + 2 * ip + 1) (Int32.toNatClampNeg s1) s0) (fun (V2 : jMem) => (some (a4, V2)))))
set_option maxHeartbeats 4000000 in
set_option maxRecDepth 20000 in
theorem tX2_put_b46 {l : Launch} {Z : jZ} {q : Nat → Nat} {ip : Nat} {a4 : Int64} {s0 : Int64} {s1 : Int32} {V : jMem} {r : Int64} {V' : jMem} (hip : ip < 4)   (hm : mX2_put_b46 ip a4 s0 s1 V = some (r, V')) : J l Z RX2 "put" cX2_put 6 (some .long) 0 0 0 (fun r' w => r' = some (.long r) ∧ w = jw Z q V' dX) 46 [(4, .long a4)] [.long s0, .int s1, .ref (q (39 + 2 * ip + 1))] (jw Z q V dX) 0 0 := by
  unfold mX2_put_b46 at hm
  obtain ⟨g1, hm⟩ := jg_of hm
  refine o_last (k := (Int32.toNatClampNeg s1)) rfl dX2_put_46 rfl (jsheet_a hip) (jin_vp g1) ?_
  obtain ⟨V2, eV2⟩ : ∃ y, y = (jsL V (39 + 2 * ip + 1) (Int32.toNatClampNeg s1) s0) := ⟨_, rfl⟩
  have hm := jl_of hm eV2
  rw [← eV2]
  refine j_lload dX2_put_47 rfl rfl ?_
  exact j_lreturn dX2_put_49 rfl ⟨Nat.le_refl _, Nat.le_refl _⟩ (jf_m (fun z => .long z) hm)
def mX2_put (ip : Nat) (a1 : Int32) (a2 : Int64) (V : jMem) : Option (Int64 × jMem) := (jg (jin a1 40) (jl (V.2 (39 + 2 * ip + 1) (Int32.toNatClampNeg a1)) (fun (v2 : Int64) => (if (V.1 (39 + 2 * ip) 0) = (8 : Int32) then (mX2_put_b46 ip v2 (Int32.toInt64 ((Int32.toInt8 (Int64.toInt32 a2)).toInt32)) a1 V) else (if (V.1 (39 + 2 * ip) 0) = (16 : Int32) then (mX2_put_b46 ip v2 (Int32.toInt64 ((Int32.toInt16 (Int64.toInt32 a2)).toInt32)) a1 V) else (mX2_put_b46 ip v2 a2 a1 V))))))
set_option maxHeartbeats 4000000 in
set_option maxRecDepth 20000 in
theorem tX2_put {l : Launch} {Z : jZ} {q : Nat → Nat} {ip : Nat} {a1 : Int32} {a2 : Int64} {V : jMem} {r : Int64} {V' : jMem} (hip : ip < 4) (hm : mX2_put ip a1 a2 V = some (r, V')) : CtD l Z yX2_put cX2_put 6 (some .long) 0 q dX [.ref (q (39 + 2 * ip)), .int a1, .long a2] V (some (.long r)) V' := by
  refine Ct_of (L := [(0, .ref (q (39 + 2 * ip))), (1, .int a1), (2, .long a2)]) (own := RX2) (nm := "put") rfl rfl (by decide +kernel) rfl (Nat.le_of_ble_eq_true rfl) ?_
  unfold mX2_put at hm
  refine j_aload_n dX2_put_0 rfl rfl ?_
  refine m_getr (k := 2) (r := (39 + 2 * ip + 1)) fX2_9 dX2_put_1 rfl (jsheet_o hip) rfl ?_
  refine j_iload_n dX2_put_4 rfl rfl ?_
  obtain ⟨g1, hm⟩ := jg_of hm
  refine o_lald (k := (Int32.toNatClampNeg a1)) rfl dX2_put_5 rfl (jsheet_a hip) (jin_vp g1) ?_
  obtain ⟨v2, ev2⟩ : ∃ y, y = ((V.2 (39 + 2 * ip + 1) (Int32.toNatClampNeg a1)) : Int64) := ⟨_, rfl⟩
  have hm := jl_of hm ev2
  rw [← ev2]
  refine j_lstore (L' := [(4, _), (0, _), (1, _), (2, _)]) dX2_put_6 rfl (by decide) rfl ?_
  refine j_aload_n dX2_put_8 rfl rfl ?_
  refine m_getr (k := 2) (r := (39 + 2 * ip + 1)) fX2_9 dX2_put_9 rfl (jsheet_o hip) rfl ?_
  refine j_iload_n dX2_put_12 rfl rfl ?_
  refine j_aload_n dX2_put_13 rfl rfl ?_
  refine m_geti (k := 0) fX2_15 dX2_put_14 rfl (jsheet_o hip) rfl ?_
  refine j_bipush (v := 8) dX2_put_17 rfl (by decide) ?_
  refine j_icmp_ne (tgt := 29) dX2_put_19 rfl (by decide) (fun c3 => ?_) (fun c3 => ?_)
  · have hm := jif_neg c3 hm
    refine j_aload_n dX2_put_29 rfl rfl ?_
    refine m_geti (k := 0) fX2_15 dX2_put_30 rfl (jsheet_o hip) rfl ?_
    refine j_bipush (v := 16) dX2_put_33 rfl (by decide) ?_
    refine j_icmp_ne (tgt := 45) dX2_put_35 rfl (by decide) (fun c4 => ?_) (fun c4 => ?_)
    · have hm := jif_neg c4 hm
      refine j_lload_n dX2_put_45 rfl rfl ?_
      refine j_sub (L' := [(4, _)]) [0] rfl ?_
      exact tX2_put_b46 hip   hm
    · have hm := jif_pos c4 hm
      refine j_lload_n dX2_put_38 rfl rfl ?_
      refine j_l2i dX2_put_39 rfl ?_
      refine j_i2s dX2_put_40 rfl ?_
      refine j_i2l dX2_put_41 rfl ?_
      refine j_goto (tgt := 46) dX2_put_42 (by decide) ?_
      refine j_sub (L' := [(4, _)]) [0] rfl ?_
      exact tX2_put_b46 hip   hm
  · have hm := jif_pos c3 hm
    refine j_lload_n dX2_put_22 rfl rfl ?_
    refine j_l2i dX2_put_23 rfl ?_
    refine j_i2b dX2_put_24 rfl ?_
    refine j_i2l dX2_put_25 rfl ?_
    refine j_goto (tgt := 46) dX2_put_26 (by decide) ?_
    refine j_sub (L' := [(4, _)]) [0] rfl ?_
    exact tX2_put_b46 hip   hm
theorem dX2_holds_0 : decode cX2_holds 0 = .ok (.iload_n 1, 1) := by decide +kernel
theorem dX2_holds_1 : decode cX2_holds 1 = .ok (.ifCond .lt 21, 3) := by decide +kernel
theorem dX2_holds_4 : decode cX2_holds 4 = .ok (.iload_n 2, 1) := by decide +kernel
theorem dX2_holds_5 : decode cX2_holds 5 = .ok (.ifCond .lt 17, 3) := by decide +kernel
theorem dX2_holds_8 : decode cX2_holds 8 = .ok (.iload_n 1, 1) := by decide +kernel
theorem dX2_holds_9 : decode cX2_holds 9 = .ok (.aload_n 0, 1) := by decide +kernel
theorem dX2_holds_10 : decode cX2_holds 10 = .ok (.getfield 19, 3) := by decide +kernel
theorem dX2_holds_13 : decode cX2_holds 13 = .ok (.iload_n 2, 1) := by decide +kernel
theorem dX2_holds_14 : decode cX2_holds 14 = .ok (.isub, 1) := by decide +kernel
theorem dX2_holds_15 : decode cX2_holds 15 = .ok (.if_icmp .gt 7, 3) := by decide +kernel
theorem dX2_holds_18 : decode cX2_holds 18 = .ok (.iconst 1, 1) := by decide +kernel
theorem dX2_holds_19 : decode cX2_holds 19 = .ok (.goto 4, 3) := by decide +kernel
theorem dX2_holds_22 : decode cX2_holds 22 = .ok (.iconst 0, 1) := by decide +kernel
theorem dX2_holds_23 : decode cX2_holds 23 = .ok (.ireturn, 1) := by decide +kernel
def mX2_holds (ip : Nat) (a1 : Int32) (a2 : Int32) (V : jMem) : Int32 := (if a1 < (0 : Int32) then (0 : Int32) else (if a2 < (0 : Int32) then (0 : Int32) else (if ((V.1 (39 + 2 * ip) 1) - a2) < a1 then (0 : Int32) else (1 : Int32))))
set_option maxHeartbeats 4000000 in
set_option maxRecDepth 20000 in
theorem tX2_holds {l : Launch} {Z : jZ} {q : Nat → Nat} {ip : Nat} {a1 : Int32} {a2 : Int32} {V : jMem} {r : Int32} (hip : ip < 4) (hm : mX2_holds ip a1 a2 V = r) : CtD l Z yX2_holds cX2_holds 3 (some .boolean) 0 q dX [.ref (q (39 + 2 * ip)), .int a1, .int a2] V (some (.int r)) V := by
  refine Ct_of (L := [(0, .ref (q (39 + 2 * ip))), (1, .int a1), (2, .int a2)]) (own := RX2) (nm := "holds") rfl rfl (by decide +kernel) rfl (Nat.le_of_ble_eq_true rfl) ?_
  unfold mX2_holds at hm
  refine j_iload_n dX2_holds_0 rfl rfl ?_
  refine j_if_lt (tgt := 22) dX2_holds_1 rfl (by decide) (fun c1 => ?_) (fun c1 => ?_)
  · have hm := jif_pos c1 hm
    refine j_iconst (v := 0) dX2_holds_22 rfl (by decide) ?_
    exact j_zreturn dX2_holds_23 rfl (by decide) ⟨Nat.le_refl _, Nat.le_refl _⟩ (jf_t (fun z => .int z) hm)
  · have hm := jif_neg c1 hm
    refine j_iload_n dX2_holds_4 rfl rfl ?_
    refine j_if_lt (tgt := 22) dX2_holds_5 rfl (by decide) (fun c2 => ?_) (fun c2 => ?_)
    · have hm := jif_pos c2 hm
      refine j_iconst (v := 0) dX2_holds_22 rfl (by decide) ?_
      exact j_zreturn dX2_holds_23 rfl (by decide) ⟨Nat.le_refl _, Nat.le_refl _⟩ (jf_t (fun z => .int z) hm)
    · have hm := jif_neg c2 hm
      refine j_iload_n dX2_holds_8 rfl rfl ?_
      refine j_aload_n dX2_holds_9 rfl rfl ?_
      refine m_geti (k := 1) fX2_19 dX2_holds_10 rfl (jsheet_o hip) rfl ?_
      refine j_iload_n dX2_holds_13 rfl rfl ?_
      refine j_isub dX2_holds_14 rfl ?_
      refine j_icmp_gt (tgt := 22) dX2_holds_15 rfl (by decide) (fun c3 => ?_) (fun c3 => ?_)
      · have hm := jif_pos c3 hm
        refine j_iconst (v := 0) dX2_holds_22 rfl (by decide) ?_
        exact j_zreturn dX2_holds_23 rfl (by decide) ⟨Nat.le_refl _, Nat.le_refl _⟩ (jf_t (fun z => .int z) hm)
      · have hm := jif_neg c3 hm
        refine j_iconst (v := 1) dX2_holds_18 rfl (by decide) ?_
        refine j_goto (tgt := 23) dX2_holds_19 (by decide) ?_
        exact j_zreturn dX2_holds_23 rfl (by decide) ⟨Nat.le_refl _, Nat.le_refl _⟩ (jf_t (fun z => .int z) hm)
theorem zzX2_holds {ip : Nat} {a1 : Int32} {a2 : Int32} {V : jMem} : mX2_holds ip a1 a2 V = 0 ∨ mX2_holds ip a1 a2 V = 1 := by
  unfold mX2_holds
  (repeat' split) <;> first | exact Or.inl rfl | exact Or.inr rfl
theorem dX3_add_0 : decode cX3_add 0 = .ok (.aload_n 0, 1) := by decide +kernel
theorem dX3_add_1 : decode cX3_add 1 = .ok (.getfield 15, 3) := by decide +kernel
theorem dX3_add_4 : decode cX3_add 4 = .ok (.bipush 120, 2) := by decide +kernel
theorem dX3_add_6 : decode cX3_add 6 = .ok (.if_icmp .ge 23, 3) := by decide +kernel
theorem dX3_add_9 : decode cX3_add 9 = .ok (.aload_n 0, 1) := by decide +kernel
theorem dX3_add_10 : decode cX3_add 10 = .ok (.getfield 9, 3) := by decide +kernel
theorem dX3_add_13 : decode cX3_add 13 = .ok (.aload_n 0, 1) := by decide +kernel
theorem dX3_add_14 : decode cX3_add 14 = .ok (.getfield 15, 3) := by decide +kernel
theorem dX3_add_17 : decode cX3_add 17 = .ok (.iload_n 1, 1) := by decide +kernel
theorem dX3_add_18 : decode cX3_add 18 = .ok (.iastore, 1) := by decide +kernel
theorem dX3_add_19 : decode cX3_add 19 = .ok (.aload_n 0, 1) := by decide +kernel
theorem dX3_add_20 : decode cX3_add 20 = .ok (.dup, 1) := by decide +kernel
theorem dX3_add_21 : decode cX3_add 21 = .ok (.getfield 15, 3) := by decide +kernel
theorem dX3_add_24 : decode cX3_add 24 = .ok (.iconst 1, 1) := by decide +kernel
theorem dX3_add_25 : decode cX3_add 25 = .ok (.iadd, 1) := by decide +kernel
theorem dX3_add_26 : decode cX3_add 26 = .ok (.putfield 15, 3) := by decide +kernel
theorem dX3_add_29 : decode cX3_add 29 = .ok (.return_, 1) := by decide +kernel
def mX3_add (a1 : Int32) (V : jMem) : Option jMem := (if (120 : Int32) ≤ (V.1 36 1) then (some V) else (jg (jin (V.1 36 1) 120) (jl (jsI V 37 (Int32.toNatClampNeg (V.1 36 1)) a1) (fun (V3 : jMem) => (jl (jsI V3 36 1 ((V3.1 36 1) + (1 : Int32))) (fun (V4 : jMem) => (some V4)))))))
set_option maxHeartbeats 4000000 in
set_option maxRecDepth 20000 in
theorem tX3_add {l : Launch} {Z : jZ} {q : Nat → Nat} {a1 : Int32} {V : jMem} {V' : jMem}  (hm : mX3_add a1 V = some V') : CtD l Z yX3_add cX3_add 2 none 0 q dX [.ref (q 36), .int a1] V none V' := by
  refine Ct_of (L := [(0, .ref (q 36)), (1, .int a1)]) (own := RX3) (nm := "add") rfl rfl (by decide +kernel) rfl (Nat.le_of_ble_eq_true rfl) ?_
  unfold mX3_add at hm
  refine j_aload_n dX3_add_0 rfl rfl ?_
  refine m_geti (k := 1) fX3_15 dX3_add_1 rfl rfl rfl ?_
  refine j_bipush (v := 120) dX3_add_4 rfl (by decide) ?_
  refine j_icmp_ge (tgt := 29) dX3_add_6 rfl (by decide) (fun c1 => ?_) (fun c1 => ?_)
  · have hm := jif_pos c1 hm
    exact j_return dX3_add_29 rfl ⟨Nat.le_refl _, Nat.le_refl _⟩ (jf_v hm)
  · have hm := jif_neg c1 hm
    refine j_aload_n dX3_add_9 rfl rfl ?_
    refine m_getr (k := 0) (r := 37) fX3_9 dX3_add_10 rfl rfl rfl ?_
    refine j_aload_n dX3_add_13 rfl rfl ?_
    refine m_geti (k := 1) fX3_15 dX3_add_14 rfl rfl rfl ?_
    refine j_iload_n dX3_add_17 rfl rfl ?_
    obtain ⟨g2, hm⟩ := jg_of hm
    refine o_iast (k := (Int32.toNatClampNeg (V.1 36 1))) rfl dX3_add_18 rfl rfl (jin_vp g2) ?_
    obtain ⟨V3, eV3⟩ : ∃ y, y = (jsI V 37 (Int32.toNatClampNeg (V.1 36 1)) a1) := ⟨_, rfl⟩
    have hm := jl_of hm eV3
    rw [← eV3]
    refine j_aload_n dX3_add_19 rfl rfl ?_
    refine j_dup dX3_add_20 rfl rfl ?_
    refine m_geti (k := 1) fX3_15 dX3_add_21 rfl rfl rfl ?_
    refine j_iconst (v := 1) dX3_add_24 rfl (by decide) ?_
    refine j_iadd dX3_add_25 rfl ?_
    refine m_puti (k := 1) fX3_15 dX3_add_26 rfl rfl rfl ?_
    obtain ⟨V4, eV4⟩ : ∃ y, y = (jsI V3 36 1 ((V3.1 36 1) + (1 : Int32))) := ⟨_, rfl⟩
    have hm := jl_of hm eV4
    rw [← eV4]
    exact j_return dX3_add_29 rfl ⟨Nat.le_refl _, Nat.le_refl _⟩ (jf_v hm)
theorem dX3_tokenAt_0 : decode cX3_tokenAt 0 = .ok (.iload_n 1, 1) := by decide +kernel
theorem dX3_tokenAt_1 : decode cX3_tokenAt 1 = .ok (.aload_n 0, 1) := by decide +kernel
theorem dX3_tokenAt_2 : decode cX3_tokenAt 2 = .ok (.getfield 15, 3) := by decide +kernel
theorem dX3_tokenAt_5 : decode cX3_tokenAt 5 = .ok (.if_icmp .lt 5, 3) := by decide +kernel
theorem dX3_tokenAt_8 : decode cX3_tokenAt 8 = .ok (.iconst 3, 1) := by decide +kernel
theorem dX3_tokenAt_9 : decode cX3_tokenAt 9 = .ok (.ireturn, 1) := by decide +kernel
theorem dX3_tokenAt_10 : decode cX3_tokenAt 10 = .ok (.aload_n 0, 1) := by decide +kernel
theorem dX3_tokenAt_11 : decode cX3_tokenAt 11 = .ok (.getfield 9, 3) := by decide +kernel
theorem dX3_tokenAt_14 : decode cX3_tokenAt 14 = .ok (.iload_n 1, 1) := by decide +kernel
theorem dX3_tokenAt_15 : decode cX3_tokenAt 15 = .ok (.iaload, 1) := by decide +kernel
theorem dX3_tokenAt_16 : decode cX3_tokenAt 16 = .ok (.istore_n 2, 1) := by decide +kernel
theorem dX3_tokenAt_17 : decode cX3_tokenAt 17 = .ok (.iload_n 2, 1) := by decide +kernel
theorem dX3_tokenAt_18 : decode cX3_tokenAt 18 = .ok (.bipush 97, 2) := by decide +kernel
theorem dX3_tokenAt_20 : decode cX3_tokenAt 20 = .ok (.if_icmp .lt 11, 3) := by decide +kernel
theorem dX3_tokenAt_23 : decode cX3_tokenAt 23 = .ok (.iload_n 2, 1) := by decide +kernel
theorem dX3_tokenAt_24 : decode cX3_tokenAt 24 = .ok (.bipush 122, 2) := by decide +kernel
theorem dX3_tokenAt_26 : decode cX3_tokenAt 26 = .ok (.if_icmp .gt 5, 3) := by decide +kernel
theorem dX3_tokenAt_29 : decode cX3_tokenAt 29 = .ok (.iconst 0, 1) := by decide +kernel
theorem dX3_tokenAt_30 : decode cX3_tokenAt 30 = .ok (.ireturn, 1) := by decide +kernel
theorem dX3_tokenAt_31 : decode cX3_tokenAt 31 = .ok (.iload_n 2, 1) := by decide +kernel
theorem dX3_tokenAt_32 : decode cX3_tokenAt 32 = .ok (.bipush 48, 2) := by decide +kernel
theorem dX3_tokenAt_34 : decode cX3_tokenAt 34 = .ok (.if_icmp .lt 11, 3) := by decide +kernel
theorem dX3_tokenAt_37 : decode cX3_tokenAt 37 = .ok (.iload_n 2, 1) := by decide +kernel
theorem dX3_tokenAt_38 : decode cX3_tokenAt 38 = .ok (.bipush 57, 2) := by decide +kernel
theorem dX3_tokenAt_40 : decode cX3_tokenAt 40 = .ok (.if_icmp .gt 5, 3) := by decide +kernel
theorem dX3_tokenAt_43 : decode cX3_tokenAt 43 = .ok (.iconst 1, 1) := by decide +kernel
theorem dX3_tokenAt_44 : decode cX3_tokenAt 44 = .ok (.ireturn, 1) := by decide +kernel
theorem dX3_tokenAt_45 : decode cX3_tokenAt 45 = .ok (.iload_n 2, 1) := by decide +kernel
theorem dX3_tokenAt_46 : decode cX3_tokenAt 46 = .ok (.bipush 59, 2) := by decide +kernel
theorem dX3_tokenAt_48 : decode cX3_tokenAt 48 = .ok (.if_icmp .ne 7, 3) := by decide +kernel
theorem dX3_tokenAt_51 : decode cX3_tokenAt 51 = .ok (.iconst 2, 1) := by decide +kernel
theorem dX3_tokenAt_52 : decode cX3_tokenAt 52 = .ok (.goto 4, 3) := by decide +kernel
theorem dX3_tokenAt_55 : decode cX3_tokenAt 55 = .ok (.iconst 4, 1) := by decide +kernel
theorem dX3_tokenAt_56 : decode cX3_tokenAt 56 = .ok (.ireturn, 1) := by decide +kernel
def mX3_tokenAt_b45 (V : jMem)  (a2 : Int32) : Option Int32 := (if a2 = (59 : Int32) then (some (2 : Int32)) else (some (4 : Int32)))
set_option maxHeartbeats 4000000 in
set_option maxRecDepth 20000 in
theorem tX3_tokenAt_b45 {l : Launch} {Z : jZ} {q : Nat → Nat} {V : jMem} {a2 : Int32} {r : Int32}    (hm : mX3_tokenAt_b45 V a2 = some r) : J l Z RX3 "tokenAt" cX3_tokenAt 3 (some .int) 0 0 0 (fun r' w => r' = some (.int r) ∧ w = jw Z q V dX) 45 [(2, .int a2)] [] (jw Z q V dX) 0 0 := by
  unfold mX3_tokenAt_b45 at hm
  refine j_iload_n dX3_tokenAt_45 rfl rfl ?_
  refine j_bipush (v := 59) dX3_tokenAt_46 rfl (by decide) ?_
  refine j_icmp_ne (tgt := 55) dX3_tokenAt_48 rfl (by decide) (fun c1 => ?_) (fun c1 => ?_)
  · have hm := jif_neg c1 hm
    refine j_iconst (v := 4) dX3_tokenAt_55 rfl (by decide) ?_
    exact j_ireturn dX3_tokenAt_56 rfl rfl ⟨Nat.le_refl _, Nat.le_refl _⟩ (jf_p (fun z => .int z) hm)
  · have hm := jif_pos c1 hm
    refine j_iconst (v := 2) dX3_tokenAt_51 rfl (by decide) ?_
    refine j_goto (tgt := 56) dX3_tokenAt_52 (by decide) ?_
    exact j_ireturn dX3_tokenAt_56 rfl rfl ⟨Nat.le_refl _, Nat.le_refl _⟩ (jf_p (fun z => .int z) hm)
def mX3_tokenAt_b31 (V : jMem)  (a2 : Int32) : Option Int32 := (if a2 < (48 : Int32) then (mX3_tokenAt_b45 V a2) else (if (57 : Int32) < a2 then (mX3_tokenAt_b45 V a2) else (some (1 : Int32))))
set_option maxHeartbeats 4000000 in
set_option maxRecDepth 20000 in
theorem tX3_tokenAt_b31 {l : Launch} {Z : jZ} {q : Nat → Nat} {V : jMem} {a2 : Int32} {r : Int32}    (hm : mX3_tokenAt_b31 V a2 = some r) : J l Z RX3 "tokenAt" cX3_tokenAt 3 (some .int) 0 0 0 (fun r' w => r' = some (.int r) ∧ w = jw Z q V dX) 31 [(2, .int a2)] [] (jw Z q V dX) 0 0 := by
  unfold mX3_tokenAt_b31 at hm
  refine j_iload_n dX3_tokenAt_31 rfl rfl ?_
  refine j_bipush (v := 48) dX3_tokenAt_32 rfl (by decide) ?_
  refine j_icmp_lt (tgt := 45) dX3_tokenAt_34 rfl (by decide) (fun c1 => ?_) (fun c1 => ?_)
  · have hm := jif_pos c1 hm
    exact tX3_tokenAt_b45    hm
  · have hm := jif_neg c1 hm
    refine j_iload_n dX3_tokenAt_37 rfl rfl ?_
    refine j_bipush (v := 57) dX3_tokenAt_38 rfl (by decide) ?_
    refine j_icmp_gt (tgt := 45) dX3_tokenAt_40 rfl (by decide) (fun c2 => ?_) (fun c2 => ?_)
    · have hm := jif_pos c2 hm
      exact tX3_tokenAt_b45    hm
    · have hm := jif_neg c2 hm
      refine j_iconst (v := 1) dX3_tokenAt_43 rfl (by decide) ?_
      exact j_ireturn dX3_tokenAt_44 rfl rfl ⟨Nat.le_refl _, Nat.le_refl _⟩ (jf_p (fun z => .int z) hm)
def mX3_tokenAt (a1 : Int32) (V : jMem) : Option Int32 := (if a1 < (V.1 36 1) then (jg (jin a1 120) (if (V.1 37 (Int32.toNatClampNeg a1)) < (97 : Int32) then (mX3_tokenAt_b31 V (V.1 37 (Int32.toNatClampNeg a1))) else (if (122 : Int32) < (V.1 37 (Int32.toNatClampNeg a1)) then (mX3_tokenAt_b31 V (V.1 37 (Int32.toNatClampNeg a1))) else (some (0 : Int32))))) else (some (3 : Int32)))
set_option maxHeartbeats 4000000 in
set_option maxRecDepth 20000 in
theorem tX3_tokenAt {l : Launch} {Z : jZ} {q : Nat → Nat} {a1 : Int32} {V : jMem} {r : Int32}  (hm : mX3_tokenAt a1 V = some r) : CtD l Z yX3_tokenAt cX3_tokenAt 3 (some .int) 0 q dX [.ref (q 36), .int a1] V (some (.int r)) V := by
  refine Ct_of (L := [(0, .ref (q 36)), (1, .int a1)]) (own := RX3) (nm := "tokenAt") rfl rfl (by decide +kernel) rfl (Nat.le_of_ble_eq_true rfl) ?_
  unfold mX3_tokenAt at hm
  refine j_iload_n dX3_tokenAt_0 rfl rfl ?_
  refine j_aload_n dX3_tokenAt_1 rfl rfl ?_
  refine m_geti (k := 1) fX3_15 dX3_tokenAt_2 rfl rfl rfl ?_
  refine j_icmp_lt (tgt := 10) dX3_tokenAt_5 rfl (by decide) (fun c1 => ?_) (fun c1 => ?_)
  · have hm := jif_pos c1 hm
    refine j_aload_n dX3_tokenAt_10 rfl rfl ?_
    refine m_getr (k := 0) (r := 37) fX3_9 dX3_tokenAt_11 rfl rfl rfl ?_
    refine j_iload_n dX3_tokenAt_14 rfl rfl ?_
    obtain ⟨g2, hm⟩ := jg_of hm
    refine o_iald (k := (Int32.toNatClampNeg a1)) rfl dX3_tokenAt_15 rfl rfl (jin_vp g2) ?_
    refine j_istore_n (i := 2) (L' := [(2, _), (0, _), (1, _)]) dX3_tokenAt_16 rfl rfl (by decide) rfl ?_
    refine j_iload_n dX3_tokenAt_17 rfl rfl ?_
    refine j_bipush (v := 97) dX3_tokenAt_18 rfl (by decide) ?_
    refine j_icmp_lt (tgt := 31) dX3_tokenAt_20 rfl (by decide) (fun c3 => ?_) (fun c3 => ?_)
    · have hm := jif_pos c3 hm
      refine j_sub (L' := [(2, _)]) [0] rfl ?_
      exact tX3_tokenAt_b31    hm
    · have hm := jif_neg c3 hm
      refine j_iload_n dX3_tokenAt_23 rfl rfl ?_
      refine j_bipush (v := 122) dX3_tokenAt_24 rfl (by decide) ?_
      refine j_icmp_gt (tgt := 31) dX3_tokenAt_26 rfl (by decide) (fun c4 => ?_) (fun c4 => ?_)
      · have hm := jif_pos c4 hm
        refine j_sub (L' := [(2, _)]) [0] rfl ?_
        exact tX3_tokenAt_b31    hm
      · have hm := jif_neg c4 hm
        refine j_iconst (v := 0) dX3_tokenAt_29 rfl (by decide) ?_
        exact j_ireturn dX3_tokenAt_30 rfl rfl ⟨Nat.le_refl _, Nat.le_refl _⟩ (jf_p (fun z => .int z) hm)
  · have hm := jif_neg c1 hm
    refine j_iconst (v := 3) dX3_tokenAt_8 rfl (by decide) ?_
    exact j_ireturn dX3_tokenAt_9 rfl rfl ⟨Nat.le_refl _, Nat.le_refl _⟩ (jf_p (fun z => .int z) hm)
theorem dX3_numberAtHand_0 : decode cX3_numberAtHand 0 = .ok (.iconst 0, 1) := by decide +kernel
theorem dX3_numberAtHand_1 : decode cX3_numberAtHand 1 = .ok (.istore_n 1, 1) := by decide +kernel
theorem dX3_numberAtHand_2 : decode cX3_numberAtHand 2 = .ok (.aload_n 0, 1) := by decide +kernel
theorem dX3_numberAtHand_3 : decode cX3_numberAtHand 3 = .ok (.getfield 25, 3) := by decide +kernel
theorem dX3_numberAtHand_6 : decode cX3_numberAtHand 6 = .ok (.istore_n 2, 1) := by decide +kernel
theorem dX3_numberAtHand_7 : decode cX3_numberAtHand 7 = .ok (.iload_n 2, 1) := by decide +kernel
theorem dX3_numberAtHand_8 : decode cX3_numberAtHand 8 = .ok (.aload_n 0, 1) := by decide +kernel
theorem dX3_numberAtHand_9 : decode cX3_numberAtHand 9 = .ok (.getfield 19, 3) := by decide +kernel
theorem dX3_numberAtHand_12 : decode cX3_numberAtHand 12 = .ok (.if_icmp .ge 30, 3) := by decide +kernel
theorem dX3_numberAtHand_15 : decode cX3_numberAtHand 15 = .ok (.sipush 10000, 3) := by decide +kernel
theorem dX3_numberAtHand_18 : decode cX3_numberAtHand 18 = .ok (.iload_n 1, 1) := by decide +kernel
theorem dX3_numberAtHand_19 : decode cX3_numberAtHand 19 = .ok (.bipush 10, 2) := by decide +kernel
theorem dX3_numberAtHand_21 : decode cX3_numberAtHand 21 = .ok (.imul, 1) := by decide +kernel
theorem dX3_numberAtHand_22 : decode cX3_numberAtHand 22 = .ok (.aload_n 0, 1) := by decide +kernel
theorem dX3_numberAtHand_23 : decode cX3_numberAtHand 23 = .ok (.getfield 9, 3) := by decide +kernel
theorem dX3_numberAtHand_26 : decode cX3_numberAtHand 26 = .ok (.iload_n 2, 1) := by decide +kernel
theorem dX3_numberAtHand_27 : decode cX3_numberAtHand 27 = .ok (.iaload, 1) := by decide +kernel
theorem dX3_numberAtHand_28 : decode cX3_numberAtHand 28 = .ok (.iadd, 1) := by decide +kernel
theorem dX3_numberAtHand_29 : decode cX3_numberAtHand 29 = .ok (.bipush 48, 2) := by decide +kernel
theorem dX3_numberAtHand_31 : decode cX3_numberAtHand 31 = .ok (.isub, 1) := by decide +kernel
theorem dX3_numberAtHand_32 : decode cX3_numberAtHand 32 = .ok (.invokestatic 42, 3) := by decide +kernel
theorem dX3_numberAtHand_35 : decode cX3_numberAtHand 35 = .ok (.istore_n 1, 1) := by decide +kernel
theorem dX3_numberAtHand_36 : decode cX3_numberAtHand 36 = .ok (.iinc 2 1, 3) := by decide +kernel
theorem dX3_numberAtHand_39 : decode cX3_numberAtHand 39 = .ok (.goto (-32), 3) := by decide +kernel
theorem dX3_numberAtHand_42 : decode cX3_numberAtHand 42 = .ok (.iload_n 1, 1) := by decide +kernel
theorem dX3_numberAtHand_43 : decode cX3_numberAtHand 43 = .ok (.ireturn, 1) := by decide +kernel
def mX3_numberAtHand_b7 (V : jMem)  : Nat → Int32 → Int32 → Option Int32
  | 0, _, _ => none
  | n + 1, a1, a2 => (if (V.1 36 3) ≤ a2 then (some a1) else (jg (jin a2 120) (jl (if (((a1 * (10 : Int32)) + (V.1 37 (Int32.toNatClampNeg a2))) - (48 : Int32)) < (10000 : Int32) then (((a1 * (10 : Int32)) + (V.1 37 (Int32.toNatClampNeg a2))) - (48 : Int32)) else (10000 : Int32)) (fun (v3 : Int32) => (mX3_numberAtHand_b7 V n v3 (a2 + (1 : Int32)))))))
set_option maxHeartbeats 4000000 in
set_option maxRecDepth 20000 in
theorem tX3_numberAtHand_b7 {l : Launch} {Z : jZ} {q : Nat → Nat} {V : jMem} {r : Int32}   (n : Nat) : ∀ (a1 : Int32) (a2 : Int32), mX3_numberAtHand_b7 V n a1 a2 = some r → J l Z RX3 "numberAtHand" cX3_numberAtHand 3 (some .int) 1 0 0 (fun r' w => r' = some (.int r) ∧ w = jw Z q V dX) 7 [(0, .ref (q 36)), (1, .int a1), (2, .int a2)] [] (jw Z q V dX) 0 0 := by
  induction n with
  | zero => intro a1 a2 hm; cases hm
  | succ n ih =>
    intro a1 a2 hm
    rw [mX3_numberAtHand_b7] at hm
    refine j_iload_n dX3_numberAtHand_7 rfl rfl ?_
    refine j_aload_n dX3_numberAtHand_8 rfl rfl ?_
    refine m_geti (k := 3) fX3_19 dX3_numberAtHand_9 rfl rfl rfl ?_
    refine j_icmp_ge (tgt := 42) dX3_numberAtHand_12 rfl (by decide) (fun c1 => ?_) (fun c1 => ?_)
    · have hm := jif_pos c1 hm
      refine j_iload_n dX3_numberAtHand_42 rfl rfl ?_
      exact j_ireturn dX3_numberAtHand_43 rfl rfl ⟨Nat.le_refl _, Nat.le_refl _⟩ (jf_p (fun z => .int z) hm)
    · have hm := jif_neg c1 hm
      refine j_sipush (v := 10000) dX3_numberAtHand_15 rfl (by decide) ?_
      refine j_iload_n dX3_numberAtHand_18 rfl rfl ?_
      refine j_bipush (v := 10) dX3_numberAtHand_19 rfl (by decide) ?_
      refine j_imul dX3_numberAtHand_21 rfl ?_
      refine j_aload_n dX3_numberAtHand_22 rfl rfl ?_
      refine m_getr (k := 0) (r := 37) fX3_9 dX3_numberAtHand_23 rfl rfl rfl ?_
      refine j_iload_n dX3_numberAtHand_26 rfl rfl ?_
      obtain ⟨g2, hm⟩ := jg_of hm
      refine o_iald (k := (Int32.toNatClampNeg a2)) rfl dX3_numberAtHand_27 rfl rfl (jin_vp g2) ?_
      refine j_iadd dX3_numberAtHand_28 rfl ?_
      refine j_bipush (v := 48) dX3_numberAtHand_29 rfl (by decide) ?_
      refine j_isub dX3_numberAtHand_31 rfl ?_
      refine j_min kX3_42 mm_min.1 mm_min.2.1 mm_min.2.2 dX3_numberAtHand_32 rfl (by decide) (Nat.le_of_ble_eq_true rfl) ⟨Nat.le_refl _, Nat.le_refl _⟩ ?_
      obtain ⟨v3, ev3⟩ : ∃ y, y = ((if (((a1 * (10 : Int32)) + (V.1 37 (Int32.toNatClampNeg a2))) - (48 : Int32)) < (10000 : Int32) then (((a1 * (10 : Int32)) + (V.1 37 (Int32.toNatClampNeg a2))) - (48 : Int32)) else (10000 : Int32)) : Int32) := ⟨_, rfl⟩
      have hm := jl_of hm ev3
      rw [← ev3]
      refine j_istore_n (i := 1) (L' := [(1, _), (0, _), (2, _)]) dX3_numberAtHand_35 rfl rfl (by decide) rfl ?_
      refine j_iinc (v := (a2 + (1 : Int32))) (L' := [(2, _), (1, _), (0, _)]) dX3_numberAtHand_36 rfl rfl rfl (by decide) rfl ?_
      refine j_goto (tgt := 7) dX3_numberAtHand_39 (by decide) ?_
      refine j_sub (L' := [(0, _), (1, _), (2, _)]) [2, 1, 0] rfl ?_
      exact ih _ _  hm
def mX3_numberAtHand (V : jMem) : Option Int32 := (mX3_numberAtHand_b7 V 2000 (0 : Int32) (V.1 36 2))
set_option maxHeartbeats 4000000 in
set_option maxRecDepth 20000 in
theorem tX3_numberAtHand {l : Launch} {Z : jZ} {q : Nat → Nat} {V : jMem} {r : Int32}  (hm : mX3_numberAtHand V = some r) : CtD l Z yX3_numberAtHand cX3_numberAtHand 3 (some .int) 1 q dX [.ref (q 36)] V (some (.int r)) V := by
  refine Ct_of (L := [(0, .ref (q 36))]) (own := RX3) (nm := "numberAtHand") rfl rfl (by decide +kernel) rfl (Nat.le_of_ble_eq_true rfl) ?_
  unfold mX3_numberAtHand at hm
  refine j_iconst (v := 0) dX3_numberAtHand_0 rfl (by decide) ?_
  refine j_istore_n (i := 1) (L' := [(1, _), (0, _)]) dX3_numberAtHand_1 rfl rfl (by decide) rfl ?_
  refine j_aload_n dX3_numberAtHand_2 rfl rfl ?_
  refine m_geti (k := 2) fX3_25 dX3_numberAtHand_3 rfl rfl rfl ?_
  refine j_istore_n (i := 2) (L' := [(2, _), (1, _), (0, _)]) dX3_numberAtHand_6 rfl rfl (by decide) rfl ?_
  refine j_sub (L' := [(0, _), (1, _), (2, _)]) [2, 1, 0] rfl ?_
  exact tX3_numberAtHand_b7   _ _ _  hm
theorem dX3_next_0 : decode cX3_next 0 = .ok (.aload_n 0, 1) := by decide +kernel
theorem dX3_next_1 : decode cX3_next 1 = .ok (.aload_n 0, 1) := by decide +kernel
theorem dX3_next_2 : decode cX3_next 2 = .ok (.getfield 19, 3) := by decide +kernel
theorem dX3_next_5 : decode cX3_next 5 = .ok (.putfield 25, 3) := by decide +kernel
theorem dX3_next_8 : decode cX3_next 8 = .ok (.aload_n 0, 1) := by decide +kernel
theorem dX3_next_9 : decode cX3_next 9 = .ok (.getfield 25, 3) := by decide +kernel
theorem dX3_next_12 : decode cX3_next 12 = .ok (.aload_n 0, 1) := by decide +kernel
theorem dX3_next_13 : decode cX3_next 13 = .ok (.getfield 15, 3) := by decide +kernel
theorem dX3_next_16 : decode cX3_next 16 = .ok (.if_icmp .ge 30, 3) := by decide +kernel
theorem dX3_next_19 : decode cX3_next 19 = .ok (.aload_n 0, 1) := by decide +kernel
theorem dX3_next_20 : decode cX3_next 20 = .ok (.getfield 9, 3) := by decide +kernel
theorem dX3_next_23 : decode cX3_next 23 = .ok (.aload_n 0, 1) := by decide +kernel
theorem dX3_next_24 : decode cX3_next 24 = .ok (.getfield 25, 3) := by decide +kernel
theorem dX3_next_27 : decode cX3_next 27 = .ok (.iaload, 1) := by decide +kernel
theorem dX3_next_28 : decode cX3_next 28 = .ok (.bipush 32, 2) := by decide +kernel
theorem dX3_next_30 : decode cX3_next 30 = .ok (.if_icmp .ne 16, 3) := by decide +kernel
theorem dX3_next_33 : decode cX3_next 33 = .ok (.aload_n 0, 1) := by decide +kernel
theorem dX3_next_34 : decode cX3_next 34 = .ok (.dup, 1) := by decide +kernel
theorem dX3_next_35 : decode cX3_next 35 = .ok (.getfield 25, 3) := by decide +kernel
theorem dX3_next_38 : decode cX3_next 38 = .ok (.iconst 1, 1) := by decide +kernel
theorem dX3_next_39 : decode cX3_next 39 = .ok (.iadd, 1) := by decide +kernel
theorem dX3_next_40 : decode cX3_next 40 = .ok (.putfield 25, 3) := by decide +kernel
theorem dX3_next_43 : decode cX3_next 43 = .ok (.goto (-35), 3) := by decide +kernel
theorem dX3_next_46 : decode cX3_next 46 = .ok (.aload_n 0, 1) := by decide +kernel
theorem dX3_next_47 : decode cX3_next 47 = .ok (.aload_n 0, 1) := by decide +kernel
theorem dX3_next_48 : decode cX3_next 48 = .ok (.aload_n 0, 1) := by decide +kernel
theorem dX3_next_49 : decode cX3_next 49 = .ok (.getfield 25, 3) := by decide +kernel
theorem dX3_next_52 : decode cX3_next 52 = .ok (.invokevirtual 28, 3) := by decide +kernel
theorem dX3_next_55 : decode cX3_next 55 = .ok (.putfield 32, 3) := by decide +kernel
theorem dX3_next_58 : decode cX3_next 58 = .ok (.aload_n 0, 1) := by decide +kernel
theorem dX3_next_59 : decode cX3_next 59 = .ok (.getfield 32, 3) := by decide +kernel
theorem dX3_next_62 : decode cX3_next 62 = .ok (.ifCond .eq 11, 3) := by decide +kernel
theorem dX3_next_65 : decode cX3_next 65 = .ok (.aload_n 0, 1) := by decide +kernel
theorem dX3_next_66 : decode cX3_next 66 = .ok (.getfield 32, 3) := by decide +kernel
theorem dX3_next_69 : decode cX3_next 69 = .ok (.iconst 1, 1) := by decide +kernel
theorem dX3_next_70 : decode cX3_next 70 = .ok (.if_icmp .ne 7, 3) := by decide +kernel
theorem dX3_next_73 : decode cX3_next 73 = .ok (.iconst 1, 1) := by decide +kernel
theorem dX3_next_74 : decode cX3_next 74 = .ok (.goto 4, 3) := by decide +kernel
theorem dX3_next_77 : decode cX3_next 77 = .ok (.iconst 0, 1) := by decide +kernel
theorem dX3_next_78 : decode cX3_next 78 = .ok (.istore_n 1, 1) := by decide +kernel
theorem dX3_next_79 : decode cX3_next 79 = .ok (.aload_n 0, 1) := by decide +kernel
theorem dX3_next_80 : decode cX3_next 80 = .ok (.aload_n 0, 1) := by decide +kernel
theorem dX3_next_81 : decode cX3_next 81 = .ok (.getfield 32, 3) := by decide +kernel
theorem dX3_next_84 : decode cX3_next 84 = .ok (.iconst 2, 1) := by decide +kernel
theorem dX3_next_85 : decode cX3_next 85 = .ok (.if_icmp .ne 12, 3) := by decide +kernel
theorem dX3_next_88 : decode cX3_next 88 = .ok (.aload_n 0, 1) := by decide +kernel
theorem dX3_next_89 : decode cX3_next 89 = .ok (.getfield 25, 3) := by decide +kernel
theorem dX3_next_92 : decode cX3_next 92 = .ok (.iconst 1, 1) := by decide +kernel
theorem dX3_next_93 : decode cX3_next 93 = .ok (.iadd, 1) := by decide +kernel
theorem dX3_next_94 : decode cX3_next 94 = .ok (.goto 7, 3) := by decide +kernel
theorem dX3_next_97 : decode cX3_next 97 = .ok (.aload_n 0, 1) := by decide +kernel
theorem dX3_next_98 : decode cX3_next 98 = .ok (.getfield 25, 3) := by decide +kernel
theorem dX3_next_101 : decode cX3_next 101 = .ok (.putfield 19, 3) := by decide +kernel
theorem dX3_next_104 : decode cX3_next 104 = .ok (.iload_n 1, 1) := by decide +kernel
theorem dX3_next_105 : decode cX3_next 105 = .ok (.ifCond .eq 42, 3) := by decide +kernel
theorem dX3_next_108 : decode cX3_next 108 = .ok (.aload_n 0, 1) := by decide +kernel
theorem dX3_next_109 : decode cX3_next 109 = .ok (.getfield 19, 3) := by decide +kernel
theorem dX3_next_112 : decode cX3_next 112 = .ok (.aload_n 0, 1) := by decide +kernel
theorem dX3_next_113 : decode cX3_next 113 = .ok (.getfield 15, 3) := by decide +kernel
theorem dX3_next_116 : decode cX3_next 116 = .ok (.if_icmp .ge 31, 3) := by decide +kernel
theorem dX3_next_119 : decode cX3_next 119 = .ok (.aload_n 0, 1) := by decide +kernel
theorem dX3_next_120 : decode cX3_next 120 = .ok (.aload_n 0, 1) := by decide +kernel
theorem dX3_next_121 : decode cX3_next 121 = .ok (.getfield 19, 3) := by decide +kernel
theorem dX3_next_124 : decode cX3_next 124 = .ok (.invokevirtual 28, 3) := by decide +kernel
theorem dX3_next_127 : decode cX3_next 127 = .ok (.aload_n 0, 1) := by decide +kernel
theorem dX3_next_128 : decode cX3_next 128 = .ok (.getfield 32, 3) := by decide +kernel
theorem dX3_next_131 : decode cX3_next 131 = .ok (.if_icmp .ne 16, 3) := by decide +kernel
theorem dX3_next_134 : decode cX3_next 134 = .ok (.aload_n 0, 1) := by decide +kernel
theorem dX3_next_135 : decode cX3_next 135 = .ok (.dup, 1) := by decide +kernel
theorem dX3_next_136 : decode cX3_next 136 = .ok (.getfield 19, 3) := by decide +kernel
theorem dX3_next_139 : decode cX3_next 139 = .ok (.iconst 1, 1) := by decide +kernel
theorem dX3_next_140 : decode cX3_next 140 = .ok (.iadd, 1) := by decide +kernel
theorem dX3_next_141 : decode cX3_next 141 = .ok (.putfield 19, 3) := by decide +kernel
theorem dX3_next_144 : decode cX3_next 144 = .ok (.goto (-40), 3) := by decide +kernel
theorem dX3_next_147 : decode cX3_next 147 = .ok (.aload_n 0, 1) := by decide +kernel
theorem dX3_next_148 : decode cX3_next 148 = .ok (.aload_n 0, 1) := by decide +kernel
theorem dX3_next_149 : decode cX3_next 149 = .ok (.getfield 32, 3) := by decide +kernel
theorem dX3_next_152 : decode cX3_next 152 = .ok (.iconst 1, 1) := by decide +kernel
theorem dX3_next_153 : decode cX3_next 153 = .ok (.if_icmp .ne 10, 3) := by decide +kernel
theorem dX3_next_156 : decode cX3_next 156 = .ok (.aload_n 0, 1) := by decide +kernel
theorem dX3_next_157 : decode cX3_next 157 = .ok (.invokevirtual 35, 3) := by decide +kernel
theorem dX3_next_160 : decode cX3_next 160 = .ok (.goto 4, 3) := by decide +kernel
theorem dX3_next_163 : decode cX3_next 163 = .ok (.iconst 0, 1) := by decide +kernel
theorem dX3_next_164 : decode cX3_next 164 = .ok (.putfield 39, 3) := by decide +kernel
theorem dX3_next_167 : decode cX3_next 167 = .ok (.return_, 1) := by decide +kernel
def mX3_next_b164   (s0 : Int32) (V : jMem) : Option jMem := (jl (jsI V 36 5 s0) (fun (V1 : jMem) => (some V1)))
set_option maxHeartbeats 4000000 in
set_option maxRecDepth 20000 in
theorem tX3_next_b164 {l : Launch} {Z : jZ} {q : Nat → Nat} {s0 : Int32} {V : jMem} {V' : jMem}    (hm : mX3_next_b164 s0 V = some V') : J l Z RX3 "next" cX3_next 2 none 2 0 0 (fun r' w => r' = none ∧ w = jw Z q V' dX) 164 [] [.int s0, .ref (q 36)] (jw Z q V dX) 0 0 := by
  unfold mX3_next_b164 at hm
  refine m_puti (k := 5) fX3_39 dX3_next_164 rfl rfl rfl ?_
  obtain ⟨V1, eV1⟩ : ∃ y, y = (jsI V 36 5 s0) := ⟨_, rfl⟩
  have hm := jl_of hm eV1
  rw [← eV1]
  exact j_return dX3_next_167 rfl ⟨Nat.le_refl _, Nat.le_refl _⟩ (jf_v hm)
def mX3_next_b147   (V : jMem) : Option jMem := (if (V.1 36 4) = (1 : Int32) then ((mX3_numberAtHand V).bind (fun (r2 : Int32) => (mX3_next_b164 r2 V))) else (mX3_next_b164 (0 : Int32) V))
set_option maxHeartbeats 4000000 in
set_option maxRecDepth 20000 in
theorem tX3_next_b147 {l : Launch} {Z : jZ} {q : Nat → Nat} {V : jMem} {V' : jMem}    (hm : mX3_next_b147 V = some V') : J l Z RX3 "next" cX3_next 2 none 2 0 0 (fun r' w => r' = none ∧ w = jw Z q V' dX) 147 [(0, .ref (q 36))] [] (jw Z q V dX) 0 0 := by
  unfold mX3_next_b147 at hm
  refine j_aload_n dX3_next_147 rfl rfl ?_
  refine j_aload_n dX3_next_148 rfl rfl ?_
  refine m_geti (k := 4) fX3_32 dX3_next_149 rfl rfl rfl ?_
  refine j_iconst (v := 1) dX3_next_152 rfl (by decide) ?_
  refine j_icmp_ne (tgt := 163) dX3_next_153 rfl (by decide) (fun c1 => ?_) (fun c1 => ?_)
  · have hm := jif_neg c1 hm
    refine j_iconst (v := 0) dX3_next_163 rfl (by decide) ?_
    refine j_sub (L' := []) [] rfl ?_
    exact tX3_next_b164    hm
  · have hm := jif_pos c1 hm
    refine j_aload_n dX3_next_156 rfl rfl ?_
    obtain ⟨r2, er2, hm⟩ := jb_of hm
    refine o_callV_i kX3_35 dX3_next_157 rfl (tX3_numberAtHand  er2) rfl rfl rfl rfl rfl (Nat.le_of_ble_eq_true rfl) (by decide) ?_
    refine j_goto (tgt := 164) dX3_next_160 (by decide) ?_
    refine j_sub (L' := []) [] rfl ?_
    exact tX3_next_b164    hm
def mX3_next_b104   : Nat → Int32 → jMem → Option jMem
  | 0, _, _ => none
  | n + 1, a1, V => (if a1 = (0 : Int32) then (mX3_next_b147 V) else (if (V.1 36 1) ≤ (V.1 36 3) then (mX3_next_b147 V) else ((mX3_tokenAt (V.1 36 3) V).bind (fun (r3 : Int32) => (if r3 = (V.1 36 4) then (jl (jsI V 36 3 ((V.1 36 3) + (1 : Int32))) (fun (V5 : jMem) => (mX3_next_b104 n a1 V5))) else (mX3_next_b147 V))))))
set_option maxHeartbeats 4000000 in
set_option maxRecDepth 20000 in
theorem tX3_next_b104 {l : Launch} {Z : jZ} {q : Nat → Nat}  {V' : jMem}   (n : Nat) : ∀ (a1 : Int32) (V : jMem), mX3_next_b104 n a1 V = some V' → J l Z RX3 "next" cX3_next 2 none 2 0 0 (fun r' w => r' = none ∧ w = jw Z q V' dX) 104 [(0, .ref (q 36)), (1, .int a1)] [] (jw Z q V dX) 0 0 := by
  induction n with
  | zero => intro a1 V hm; cases hm
  | succ n ih =>
    intro a1 V hm
    rw [mX3_next_b104] at hm
    refine j_iload_n dX3_next_104 rfl rfl ?_
    refine j_if_eq (tgt := 147) dX3_next_105 rfl (by decide) (fun c1 => ?_) (fun c1 => ?_)
    · have hm := jif_pos c1 hm
      refine j_sub (L' := [(0, _)]) [0] rfl ?_
      exact tX3_next_b147    hm
    · have hm := jif_neg c1 hm
      refine j_aload_n dX3_next_108 rfl rfl ?_
      refine m_geti (k := 3) fX3_19 dX3_next_109 rfl rfl rfl ?_
      refine j_aload_n dX3_next_112 rfl rfl ?_
      refine m_geti (k := 1) fX3_15 dX3_next_113 rfl rfl rfl ?_
      refine j_icmp_ge (tgt := 147) dX3_next_116 rfl (by decide) (fun c2 => ?_) (fun c2 => ?_)
      · have hm := jif_pos c2 hm
        refine j_sub (L' := [(0, _)]) [0] rfl ?_
        exact tX3_next_b147    hm
      · have hm := jif_neg c2 hm
        refine j_aload_n dX3_next_119 rfl rfl ?_
        refine j_aload_n dX3_next_120 rfl rfl ?_
        refine m_geti (k := 3) fX3_19 dX3_next_121 rfl rfl rfl ?_
        obtain ⟨r3, er3, hm⟩ := jb_of hm
        refine o_callV_i kX3_28 dX3_next_124 rfl (tX3_tokenAt  er3) rfl rfl rfl rfl rfl (Nat.le_of_ble_eq_true rfl) (by decide) ?_
        refine j_aload_n dX3_next_127 rfl rfl ?_
        refine m_geti (k := 4) fX3_32 dX3_next_128 rfl rfl rfl ?_
        refine j_icmp_ne (tgt := 147) dX3_next_131 rfl (by decide) (fun c4 => ?_) (fun c4 => ?_)
        · have hm := jif_neg c4 hm
          refine j_sub (L' := [(0, _)]) [0] rfl ?_
          exact tX3_next_b147    hm
        · have hm := jif_pos c4 hm
          refine j_aload_n dX3_next_134 rfl rfl ?_
          refine j_dup dX3_next_135 rfl rfl ?_
          refine m_geti (k := 3) fX3_19 dX3_next_136 rfl rfl rfl ?_
          refine j_iconst (v := 1) dX3_next_139 rfl (by decide) ?_
          refine j_iadd dX3_next_140 rfl ?_
          refine m_puti (k := 3) fX3_19 dX3_next_141 rfl rfl rfl ?_
          obtain ⟨V5, eV5⟩ : ∃ y, y = (jsI V 36 3 ((V.1 36 3) + (1 : Int32))) := ⟨_, rfl⟩
          have hm := jl_of hm eV5
          rw [← eV5]
          refine j_goto (tgt := 104) dX3_next_144 (by decide) ?_
          exact ih _ _  hm
def mX3_next_b101   (a1 : Int32) (s0 : Int32) (V : jMem) : Option jMem := (jl (jsI V 36 3 s0) (fun (V1 : jMem) => (mX3_next_b104 2000 a1 V1)))
set_option maxHeartbeats 4000000 in
set_option maxRecDepth 20000 in
theorem tX3_next_b101 {l : Launch} {Z : jZ} {q : Nat → Nat} {a1 : Int32} {s0 : Int32} {V : jMem} {V' : jMem}    (hm : mX3_next_b101 a1 s0 V = some V') : J l Z RX3 "next" cX3_next 2 none 2 0 0 (fun r' w => r' = none ∧ w = jw Z q V' dX) 101 [(0, .ref (q 36)), (1, .int a1)] [.int s0, .ref (q 36)] (jw Z q V dX) 0 0 := by
  unfold mX3_next_b101 at hm
  refine m_puti (k := 3) fX3_19 dX3_next_101 rfl rfl rfl ?_
  obtain ⟨V1, eV1⟩ : ∃ y, y = (jsI V 36 3 s0) := ⟨_, rfl⟩
  have hm := jl_of hm eV1
  rw [← eV1]
  exact tX3_next_b104   _ _ _  hm
def mX3_next_b78   (s0 : Int32) (V : jMem) : Option jMem := (if (V.1 36 4) = (2 : Int32) then (mX3_next_b101 s0 ((V.1 36 2) + (1 : Int32)) V) else (mX3_next_b101 s0 (V.1 36 2) V))
set_option maxHeartbeats 4000000 in
set_option maxRecDepth 20000 in
theorem tX3_next_b78 {l : Launch} {Z : jZ} {q : Nat → Nat} {s0 : Int32} {V : jMem} {V' : jMem}    (hm : mX3_next_b78 s0 V = some V') : J l Z RX3 "next" cX3_next 2 none 2 0 0 (fun r' w => r' = none ∧ w = jw Z q V' dX) 78 [(0, .ref (q 36))] [.int s0] (jw Z q V dX) 0 0 := by
  unfold mX3_next_b78 at hm
  refine j_istore_n (i := 1) (L' := [(1, _), (0, _)]) dX3_next_78 rfl rfl (by decide) rfl ?_
  refine j_aload_n dX3_next_79 rfl rfl ?_
  refine j_aload_n dX3_next_80 rfl rfl ?_
  refine m_geti (k := 4) fX3_32 dX3_next_81 rfl rfl rfl ?_
  refine j_iconst (v := 2) dX3_next_84 rfl (by decide) ?_
  refine j_icmp_ne (tgt := 97) dX3_next_85 rfl (by decide) (fun c1 => ?_) (fun c1 => ?_)
  · have hm := jif_neg c1 hm
    refine j_aload_n dX3_next_97 rfl rfl ?_
    refine m_geti (k := 2) fX3_25 dX3_next_98 rfl rfl rfl ?_
    refine j_sub (L' := [(0, _), (1, _)]) [1, 0] rfl ?_
    exact tX3_next_b101    hm
  · have hm := jif_pos c1 hm
    refine j_aload_n dX3_next_88 rfl rfl ?_
    refine m_geti (k := 2) fX3_25 dX3_next_89 rfl rfl rfl ?_
    refine j_iconst (v := 1) dX3_next_92 rfl (by decide) ?_
    refine j_iadd dX3_next_93 rfl ?_
    refine j_goto (tgt := 101) dX3_next_94 (by decide) ?_
    refine j_sub (L' := [(0, _), (1, _)]) [1, 0] rfl ?_
    exact tX3_next_b101    hm
def mX3_next_b73   (V : jMem) : Option jMem := (mX3_next_b78 (1 : Int32) V)
set_option maxHeartbeats 4000000 in
set_option maxRecDepth 20000 in
theorem tX3_next_b73 {l : Launch} {Z : jZ} {q : Nat → Nat} {V : jMem} {V' : jMem}    (hm : mX3_next_b73 V = some V') : J l Z RX3 "next" cX3_next 2 none 2 0 0 (fun r' w => r' = none ∧ w = jw Z q V' dX) 73 [(0, .ref (q 36))] [] (jw Z q V dX) 0 0 := by
  unfold mX3_next_b73 at hm
  refine j_iconst (v := 1) dX3_next_73 rfl (by decide) ?_
  refine j_goto (tgt := 78) dX3_next_74 (by decide) ?_
  exact tX3_next_b78    hm
def mX3_next_b46   (V : jMem) : Option jMem := ((mX3_tokenAt (V.1 36 2) V).bind (fun (r1 : Int32) => (jl (jsI V 36 4 r1) (fun (V2 : jMem) => (if (V2.1 36 4) = (0 : Int32) then (mX3_next_b73 V2) else (if (V2.1 36 4) = (1 : Int32) then (mX3_next_b73 V2) else (mX3_next_b78 (0 : Int32) V2)))))))
set_option maxHeartbeats 4000000 in
set_option maxRecDepth 20000 in
theorem tX3_next_b46 {l : Launch} {Z : jZ} {q : Nat → Nat} {V : jMem} {V' : jMem}    (hm : mX3_next_b46 V = some V') : J l Z RX3 "next" cX3_next 2 none 2 0 0 (fun r' w => r' = none ∧ w = jw Z q V' dX) 46 [(0, .ref (q 36))] [] (jw Z q V dX) 0 0 := by
  unfold mX3_next_b46 at hm
  refine j_aload_n dX3_next_46 rfl rfl ?_
  refine j_aload_n dX3_next_47 rfl rfl ?_
  refine j_aload_n dX3_next_48 rfl rfl ?_
  refine m_geti (k := 2) fX3_25 dX3_next_49 rfl rfl rfl ?_
  obtain ⟨r1, er1, hm⟩ := jb_of hm
  refine o_callV_i kX3_28 dX3_next_52 rfl (tX3_tokenAt  er1) rfl rfl rfl rfl rfl (Nat.le_of_ble_eq_true rfl) (by decide) ?_
  refine m_puti (k := 4) fX3_32 dX3_next_55 rfl rfl rfl ?_
  obtain ⟨V2, eV2⟩ : ∃ y, y = (jsI V 36 4 r1) := ⟨_, rfl⟩
  have hm := jl_of hm eV2
  rw [← eV2]
  refine j_aload_n dX3_next_58 rfl rfl ?_
  refine m_geti (k := 4) fX3_32 dX3_next_59 rfl rfl rfl ?_
  refine j_if_eq (tgt := 73) dX3_next_62 rfl (by decide) (fun c3 => ?_) (fun c3 => ?_)
  · have hm := jif_pos c3 hm
    exact tX3_next_b73    hm
  · have hm := jif_neg c3 hm
    refine j_aload_n dX3_next_65 rfl rfl ?_
    refine m_geti (k := 4) fX3_32 dX3_next_66 rfl rfl rfl ?_
    refine j_iconst (v := 1) dX3_next_69 rfl (by decide) ?_
    refine j_icmp_ne (tgt := 77) dX3_next_70 rfl (by decide) (fun c4 => ?_) (fun c4 => ?_)
    · have hm := jif_neg c4 hm
      refine j_iconst (v := 0) dX3_next_77 rfl (by decide) ?_
      exact tX3_next_b78    hm
    · have hm := jif_pos c4 hm
      exact tX3_next_b73    hm
def mX3_next_b8   : Nat → jMem → Option jMem
  | 0, _ => none
  | n + 1, V => (if (V.1 36 1) ≤ (V.1 36 2) then (mX3_next_b46 V) else (jg (jin (V.1 36 2) 120) (if (V.1 37 (Int32.toNatClampNeg (V.1 36 2))) = (32 : Int32) then (jl (jsI V 36 2 ((V.1 36 2) + (1 : Int32))) (fun (V4 : jMem) => (mX3_next_b8 n V4))) else (mX3_next_b46 V))))
set_option maxHeartbeats 4000000 in
set_option maxRecDepth 20000 in
theorem tX3_next_b8 {l : Launch} {Z : jZ} {q : Nat → Nat}  {V' : jMem}   (n : Nat) : ∀ (V : jMem), mX3_next_b8 n V = some V' → J l Z RX3 "next" cX3_next 2 none 2 0 0 (fun r' w => r' = none ∧ w = jw Z q V' dX) 8 [(0, .ref (q 36))] [] (jw Z q V dX) 0 0 := by
  induction n with
  | zero => intro V hm; cases hm
  | succ n ih =>
    intro V hm
    rw [mX3_next_b8] at hm
    refine j_aload_n dX3_next_8 rfl rfl ?_
    refine m_geti (k := 2) fX3_25 dX3_next_9 rfl rfl rfl ?_
    refine j_aload_n dX3_next_12 rfl rfl ?_
    refine m_geti (k := 1) fX3_15 dX3_next_13 rfl rfl rfl ?_
    refine j_icmp_ge (tgt := 46) dX3_next_16 rfl (by decide) (fun c1 => ?_) (fun c1 => ?_)
    · have hm := jif_pos c1 hm
      exact tX3_next_b46    hm
    · have hm := jif_neg c1 hm
      refine j_aload_n dX3_next_19 rfl rfl ?_
      refine m_getr (k := 0) (r := 37) fX3_9 dX3_next_20 rfl rfl rfl ?_
      refine j_aload_n dX3_next_23 rfl rfl ?_
      refine m_geti (k := 2) fX3_25 dX3_next_24 rfl rfl rfl ?_
      obtain ⟨g2, hm⟩ := jg_of hm
      refine o_iald (k := (Int32.toNatClampNeg (V.1 36 2))) rfl dX3_next_27 rfl rfl (jin_vp g2) ?_
      refine j_bipush (v := 32) dX3_next_28 rfl (by decide) ?_
      refine j_icmp_ne (tgt := 46) dX3_next_30 rfl (by decide) (fun c3 => ?_) (fun c3 => ?_)
      · have hm := jif_neg c3 hm
        exact tX3_next_b46    hm
      · have hm := jif_pos c3 hm
        refine j_aload_n dX3_next_33 rfl rfl ?_
        refine j_dup dX3_next_34 rfl rfl ?_
        refine m_geti (k := 2) fX3_25 dX3_next_35 rfl rfl rfl ?_
        refine j_iconst (v := 1) dX3_next_38 rfl (by decide) ?_
        refine j_iadd dX3_next_39 rfl ?_
        refine m_puti (k := 2) fX3_25 dX3_next_40 rfl rfl rfl ?_
        obtain ⟨V4, eV4⟩ : ∃ y, y = (jsI V 36 2 ((V.1 36 2) + (1 : Int32))) := ⟨_, rfl⟩
        have hm := jl_of hm eV4
        rw [← eV4]
        refine j_goto (tgt := 8) dX3_next_43 (by decide) ?_
        exact ih _  hm
def mX3_next (V : jMem) : Option jMem := (jl (jsI V 36 2 (V.1 36 3)) (fun (V1 : jMem) => (mX3_next_b8 2000 V1)))
set_option maxHeartbeats 4000000 in
set_option maxRecDepth 20000 in
theorem tX3_next {l : Launch} {Z : jZ} {q : Nat → Nat} {V : jMem} {V' : jMem}  (hm : mX3_next V = some V') : CtD l Z yX3_next cX3_next 2 none 2 q dX [.ref (q 36)] V none V' := by
  refine Ct_of (L := [(0, .ref (q 36))]) (own := RX3) (nm := "next") rfl rfl (by decide +kernel) rfl (Nat.le_of_ble_eq_true rfl) ?_
  unfold mX3_next at hm
  refine j_aload_n dX3_next_0 rfl rfl ?_
  refine j_aload_n dX3_next_1 rfl rfl ?_
  refine m_geti (k := 3) fX3_19 dX3_next_2 rfl rfl rfl ?_
  refine m_puti (k := 2) fX3_25 dX3_next_5 rfl rfl rfl ?_
  obtain ⟨V1, eV1⟩ : ∃ y, y = (jsI V 36 2 (V.1 36 3)) := ⟨_, rfl⟩
  have hm := jl_of hm eV1
  rw [← eV1]
  exact tX3_next_b8   _ _  hm
theorem dX3_start_0 : decode cX3_start 0 = .ok (.aload_n 0, 1) := by decide +kernel
theorem dX3_start_1 : decode cX3_start 1 = .ok (.iconst 0, 1) := by decide +kernel
theorem dX3_start_2 : decode cX3_start 2 = .ok (.putfield 19, 3) := by decide +kernel
theorem dX3_start_5 : decode cX3_start 5 = .ok (.aload_n 0, 1) := by decide +kernel
theorem dX3_start_6 : decode cX3_start 6 = .ok (.invokevirtual 22, 3) := by decide +kernel
theorem dX3_start_9 : decode cX3_start 9 = .ok (.return_, 1) := by decide +kernel
def mX3_start (V : jMem) : Option jMem := (jl (jsI V 36 3 (0 : Int32)) (fun (V1 : jMem) => ((mX3_next V1).bind (fun (p2 : jMem) => (some p2)))))
set_option maxHeartbeats 4000000 in
set_option maxRecDepth 20000 in
theorem tX3_start {l : Launch} {Z : jZ} {q : Nat → Nat} {V : jMem} {V' : jMem}  (hm : mX3_start V = some V') : CtD l Z yX3_start cX3_start 1 none 3 q dX [.ref (q 36)] V none V' := by
  refine Ct_of (L := [(0, .ref (q 36))]) (own := RX3) (nm := "start") rfl rfl (by decide +kernel) rfl (Nat.le_of_ble_eq_true rfl) ?_
  unfold mX3_start at hm
  refine j_aload_n dX3_start_0 rfl rfl ?_
  refine j_iconst (v := 0) dX3_start_1 rfl (by decide) ?_
  refine m_puti (k := 3) fX3_19 dX3_start_2 rfl rfl rfl ?_
  obtain ⟨V1, eV1⟩ : ∃ y, y = (jsI V 36 3 (0 : Int32)) := ⟨_, rfl⟩
  have hm := jl_of hm eV1
  rw [← eV1]
  refine j_aload_n dX3_start_5 rfl rfl ?_
  obtain ⟨p2, ep2, hm⟩ := jb_of hm
  refine o_callV_v kX3_22 dX3_start_6 rfl (tX3_next  ep2) rfl rfl rfl rfl rfl (Nat.le_of_ble_eq_true rfl) (by decide) ?_
  exact j_return dX3_start_9 rfl ⟨Nat.le_refl _, Nat.le_refl _⟩ (jf_v hm)
theorem dX3_isWord_0 : decode cX3_isWord 0 = .ok (.aload_n 0, 1) := by decide +kernel
theorem dX3_isWord_1 : decode cX3_isWord 1 = .ok (.getfield 32, 3) := by decide +kernel
theorem dX3_isWord_4 : decode cX3_isWord 4 = .ok (.ifCond .ne 19, 3) := by decide +kernel
theorem dX3_isWord_7 : decode cX3_isWord 7 = .ok (.aload_n 0, 1) := by decide +kernel
theorem dX3_isWord_8 : decode cX3_isWord 8 = .ok (.getfield 19, 3) := by decide +kernel
theorem dX3_isWord_11 : decode cX3_isWord 11 = .ok (.aload_n 0, 1) := by decide +kernel
theorem dX3_isWord_12 : decode cX3_isWord 12 = .ok (.getfield 25, 3) := by decide +kernel
theorem dX3_isWord_15 : decode cX3_isWord 15 = .ok (.isub, 1) := by decide +kernel
theorem dX3_isWord_16 : decode cX3_isWord 16 = .ok (.aload_n 1, 1) := by decide +kernel
theorem dX3_isWord_17 : decode cX3_isWord 17 = .ok (.invokevirtual 48, 3) := by decide +kernel
theorem dX3_isWord_20 : decode cX3_isWord 20 = .ok (.if_icmp .eq 5, 3) := by decide +kernel
theorem dX3_isWord_23 : decode cX3_isWord 23 = .ok (.iconst 0, 1) := by decide +kernel
theorem dX3_isWord_24 : decode cX3_isWord 24 = .ok (.ireturn, 1) := by decide +kernel
theorem dX3_isWord_25 : decode cX3_isWord 25 = .ok (.iconst 0, 1) := by decide +kernel
theorem dX3_isWord_26 : decode cX3_isWord 26 = .ok (.istore_n 2, 1) := by decide +kernel
theorem dX3_isWord_27 : decode cX3_isWord 27 = .ok (.iload_n 2, 1) := by decide +kernel
theorem dX3_isWord_28 : decode cX3_isWord 28 = .ok (.aload_n 1, 1) := by decide +kernel
theorem dX3_isWord_29 : decode cX3_isWord 29 = .ok (.invokevirtual 48, 3) := by decide +kernel
theorem dX3_isWord_32 : decode cX3_isWord 32 = .ok (.if_icmp .ge 30, 3) := by decide +kernel
theorem dX3_isWord_35 : decode cX3_isWord 35 = .ok (.aload_n 0, 1) := by decide +kernel
theorem dX3_isWord_36 : decode cX3_isWord 36 = .ok (.getfield 9, 3) := by decide +kernel
theorem dX3_isWord_39 : decode cX3_isWord 39 = .ok (.aload_n 0, 1) := by decide +kernel
theorem dX3_isWord_40 : decode cX3_isWord 40 = .ok (.getfield 25, 3) := by decide +kernel
theorem dX3_isWord_43 : decode cX3_isWord 43 = .ok (.iload_n 2, 1) := by decide +kernel
theorem dX3_isWord_44 : decode cX3_isWord 44 = .ok (.iadd, 1) := by decide +kernel
theorem dX3_isWord_45 : decode cX3_isWord 45 = .ok (.iaload, 1) := by decide +kernel
theorem dX3_isWord_46 : decode cX3_isWord 46 = .ok (.aload_n 1, 1) := by decide +kernel
theorem dX3_isWord_47 : decode cX3_isWord 47 = .ok (.iload_n 2, 1) := by decide +kernel
theorem dX3_isWord_48 : decode cX3_isWord 48 = .ok (.invokevirtual 53, 3) := by decide +kernel
theorem dX3_isWord_51 : decode cX3_isWord 51 = .ok (.if_icmp .eq 5, 3) := by decide +kernel
theorem dX3_isWord_54 : decode cX3_isWord 54 = .ok (.iconst 0, 1) := by decide +kernel
theorem dX3_isWord_55 : decode cX3_isWord 55 = .ok (.ireturn, 1) := by decide +kernel
theorem dX3_isWord_56 : decode cX3_isWord 56 = .ok (.iinc 2 1, 3) := by decide +kernel
theorem dX3_isWord_59 : decode cX3_isWord 59 = .ok (.goto (-32), 3) := by decide +kernel
theorem dX3_isWord_62 : decode cX3_isWord 62 = .ok (.iconst 1, 1) := by decide +kernel
theorem dX3_isWord_63 : decode cX3_isWord 63 = .ok (.ireturn, 1) := by decide +kernel
def mX3_isWord_b27 (c : Nat) (V : jMem)  : Nat → Int32 → Option Int32
  | 0, _ => none
  | n + 1, a2 => (if (mJ0_length_8abf5 c) ≤ a2 then (some (1 : Int32)) else (jg (jin ((V.1 36 2) + a2) 120) ((mJ0_charAt_5068e c a2).bind (fun (r3 : Int32) => (if (V.1 37 (Int32.toNatClampNeg ((V.1 36 2) + a2))) = r3 then (mX3_isWord_b27 c V n (a2 + (1 : Int32))) else (some (0 : Int32)))))))
set_option maxHeartbeats 4000000 in
set_option maxRecDepth 20000 in
theorem tX3_isWord_b27 {l : Launch} {Z : jZ} {q : Nat → Nat} {c : Nat} {V : jMem} {r : Int32} (hc : c < 15)  (n : Nat) : ∀ (a2 : Int32), mX3_isWord_b27 c V n a2 = some r → J l Z RX3 "isWord" cX3_isWord 3 (some .boolean) 4 0 0 (fun r' w => r' = some (.int r) ∧ w = jw Z q V dX) 27 [(0, .ref (q 36)), (1, .ref (Z.2.2.1 c)), (2, .int a2)] [] (jw Z q V dX) 0 0 := by
  induction n with
  | zero => intro a2 hm; cases hm
  | succ n ih =>
    intro a2 hm
    rw [mX3_isWord_b27] at hm
    refine j_iload_n dX3_isWord_27 rfl rfl ?_
    refine j_aload_n dX3_isWord_28 rfl rfl ?_
    refine o_callT_i hc rfl kX3_48 dX3_isWord_29 rfl (tJ0_length_8abf5 hc rfl) rfl rfl (Nat.le_of_ble_eq_true rfl) (by decide) ?_
    refine j_icmp_ge (tgt := 62) dX3_isWord_32 rfl (by decide) (fun c1 => ?_) (fun c1 => ?_)
    · have hm := jif_pos c1 hm
      refine j_iconst (v := 1) dX3_isWord_62 rfl (by decide) ?_
      exact j_zreturn dX3_isWord_63 rfl (by decide) ⟨Nat.le_refl _, Nat.le_refl _⟩ (jf_p (fun z => .int z) hm)
    · have hm := jif_neg c1 hm
      refine j_aload_n dX3_isWord_35 rfl rfl ?_
      refine m_getr (k := 0) (r := 37) fX3_9 dX3_isWord_36 rfl rfl rfl ?_
      refine j_aload_n dX3_isWord_39 rfl rfl ?_
      refine m_geti (k := 2) fX3_25 dX3_isWord_40 rfl rfl rfl ?_
      refine j_iload_n dX3_isWord_43 rfl rfl ?_
      refine j_iadd dX3_isWord_44 rfl ?_
      obtain ⟨g2, hm⟩ := jg_of hm
      refine o_iald (k := (Int32.toNatClampNeg ((V.1 36 2) + a2))) rfl dX3_isWord_45 rfl rfl (jin_vp g2) ?_
      refine j_aload_n dX3_isWord_46 rfl rfl ?_
      refine j_iload_n dX3_isWord_47 rfl rfl ?_
      obtain ⟨r3, er3, hm⟩ := jb_of hm
      refine o_callT_i hc rfl kX3_53 dX3_isWord_48 rfl (tJ0_charAt_5068e hc er3) rfl rfl (Nat.le_of_ble_eq_true rfl) (by decide) ?_
      refine j_icmp_eq (tgt := 56) dX3_isWord_51 rfl (by decide) (fun c4 => ?_) (fun c4 => ?_)
      · have hm := jif_pos c4 hm
        refine j_iinc (v := (a2 + (1 : Int32))) (L' := [(2, _), (0, _), (1, _)]) dX3_isWord_56 rfl rfl rfl (by decide) rfl ?_
        refine j_goto (tgt := 27) dX3_isWord_59 (by decide) ?_
        refine j_sub (L' := [(0, _), (1, _), (2, _)]) [1, 2, 0] rfl ?_
        exact ih _  hm
      · have hm := jif_neg c4 hm
        refine j_iconst (v := 0) dX3_isWord_54 rfl (by decide) ?_
        exact j_zreturn dX3_isWord_55 rfl (by decide) ⟨Nat.le_refl _, Nat.le_refl _⟩ (jf_p (fun z => .int z) hm)
def mX3_isWord (c : Nat) (V : jMem) : Option Int32 := (if (V.1 36 4) = (0 : Int32) then (if ((V.1 36 3) - (V.1 36 2)) = (mJ0_length_8abf5 c) then (mX3_isWord_b27 c V 2000 (0 : Int32)) else (some (0 : Int32))) else (some (0 : Int32)))
set_option maxHeartbeats 4000000 in
set_option maxRecDepth 20000 in
theorem tX3_isWord {l : Launch} {Z : jZ} {q : Nat → Nat} {c : Nat} {V : jMem} {r : Int32} (hc : c < 15) (hm : mX3_isWord c V = some r) : CtD l Z yX3_isWord cX3_isWord 3 (some .boolean) 4 q dX [.ref (q 36), .ref (Z.2.2.1 c)] V (some (.int r)) V := by
  refine Ct_of (L := [(0, .ref (q 36)), (1, .ref (Z.2.2.1 c))]) (own := RX3) (nm := "isWord") rfl rfl (by decide +kernel) rfl (Nat.le_of_ble_eq_true rfl) ?_
  unfold mX3_isWord at hm
  refine j_aload_n dX3_isWord_0 rfl rfl ?_
  refine m_geti (k := 4) fX3_32 dX3_isWord_1 rfl rfl rfl ?_
  refine j_if_ne (tgt := 23) dX3_isWord_4 rfl (by decide) (fun c1 => ?_) (fun c1 => ?_)
  · have hm := jif_neg c1 hm
    refine j_iconst (v := 0) dX3_isWord_23 rfl (by decide) ?_
    exact j_zreturn dX3_isWord_24 rfl (by decide) ⟨Nat.le_refl _, Nat.le_refl _⟩ (jf_p (fun z => .int z) hm)
  · have hm := jif_pos c1 hm
    refine j_aload_n dX3_isWord_7 rfl rfl ?_
    refine m_geti (k := 3) fX3_19 dX3_isWord_8 rfl rfl rfl ?_
    refine j_aload_n dX3_isWord_11 rfl rfl ?_
    refine m_geti (k := 2) fX3_25 dX3_isWord_12 rfl rfl rfl ?_
    refine j_isub dX3_isWord_15 rfl ?_
    refine j_aload_n dX3_isWord_16 rfl rfl ?_
    refine o_callT_i hc rfl kX3_48 dX3_isWord_17 rfl (tJ0_length_8abf5 hc rfl) rfl rfl (Nat.le_of_ble_eq_true rfl) (by decide) ?_
    refine j_icmp_eq (tgt := 25) dX3_isWord_20 rfl (by decide) (fun c2 => ?_) (fun c2 => ?_)
    · have hm := jif_pos c2 hm
      refine j_iconst (v := 0) dX3_isWord_25 rfl (by decide) ?_
      refine j_istore_n (i := 2) (L' := [(2, _), (0, _), (1, _)]) dX3_isWord_26 rfl rfl (by decide) rfl ?_
      refine j_sub (L' := [(0, _), (1, _), (2, _)]) [1, 2, 0] rfl ?_
      exact tX3_isWord_b27 hc  _ _  hm
    · have hm := jif_neg c2 hm
      refine j_iconst (v := 0) dX3_isWord_23 rfl (by decide) ?_
      exact j_zreturn dX3_isWord_24 rfl (by decide) ⟨Nat.le_refl _, Nat.le_refl _⟩ (jf_p (fun z => .int z) hm)
theorem dX4_isKind_0 : decode cX4_isKind 0 = .ok (.iload_n 0, 1) := by decide +kernel
theorem dX4_isKind_1 : decode cX4_isKind 1 = .ok (.iconst 0, 1) := by decide +kernel
theorem dX4_isKind_2 : decode cX4_isKind 2 = .ok (.iconst 5, 1) := by decide +kernel
theorem dX4_isKind_3 : decode cX4_isKind 3 = .ok (.invokestatic 55, 3) := by decide +kernel
theorem dX4_isKind_6 : decode cX4_isKind 6 = .ok (.ireturn, 1) := by decide +kernel
def mX4_isKind (a0 : Int32) : Int32 := (mX4_isWithin a0 (0 : Int32) (5 : Int32))
set_option maxHeartbeats 4000000 in
set_option maxRecDepth 20000 in
theorem tX4_isKind {l : Launch} {Z : jZ} {q : Nat → Nat} {V : jMem} {a0 : Int32} {r : Int32}  (hm : mX4_isKind a0 = r) : CtD l Z yX4_isKind cX4_isKind 1 (some .boolean) 1 q dX [.int a0] V (some (.int r)) V := by
  refine Ct_of (L := [(0, .int a0)]) (own := RX4) (nm := "isKind") rfl rfl (by decide +kernel) rfl (Nat.le_of_ble_eq_true rfl) ?_
  unfold mX4_isKind at hm
  refine j_iload_n dX4_isKind_0 rfl rfl ?_
  refine j_iconst (v := 0) dX4_isKind_1 rfl (by decide) ?_
  refine j_iconst (v := 5) dX4_isKind_2 rfl (by decide) ?_
  refine o_callS_i kX4_55 dX4_isKind_3 rfl (tX4_isWithin  rfl) rfl rfl (Nat.le_of_ble_eq_true rfl) (by decide) ?_
  exact j_zreturn dX4_isKind_6 rfl zzX4_isWithin ⟨Nat.le_refl _, Nat.le_refl _⟩ (jf_t (fun z => .int z) hm)
theorem zzX4_isKind {a0 : Int32} : mX4_isKind a0 = 0 ∨ mX4_isKind a0 = 1 := by
  unfold mX4_isKind
  (repeat' split) <;> first | exact Or.inl rfl | exact Or.inr rfl | exact zzX4_isWithin
