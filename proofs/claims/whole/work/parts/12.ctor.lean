theorem c_q4 (c : ClassId) {f g : Nat → Option Nat} (h : ∀ j, j < 4 → f j = g j) : vp_cell c (4, .inr (.inr (.inr (.inr f)))) = vp_cell c (4, .inr (.inr (.inr (.inr g)))) := by
  rw [vp_cell_q, vp_cell_q]
  unfold arrV
  congr 1
  apply Array.ext
  · simp
  · intro i h1 h2
    have hi : i < 4 := by simpa using h1
    simp [h i hi]
theorem c_cell {D : va_G} {cl : List vw_C} {ws : va_W} {k a : Nat} {c : ClassId} {e e' : vp_A} (he : ws[k]? = some (a, .inl (c, e))) (hv : vp_cell c e = vp_cell c e') : (∀ H, va_P D cl ws H → va_P D cl (ws.set k (a, .inl (c, e'))) H) ∧ (∀ A : Nat → Prop, va_D A ws → va_D A (ws.set k (a, .inl (c, e')))) := by
  refine ⟨fun H h i q hq => ?_, fun A h => h.set he⟩
  rw [List.getElem?_set] at hq
  by_cases hik : k = i
  · subst hik
    rw [if_pos rfl] at hq
    split at hq
    · cases hq
      have h1 : H[a]? = some (vp_cell c e) := h k _ he
      show H[a]? = some (vp_cell c e')
      rw [h1, hv]
    · cases hq
  · rw [if_neg hik] at hq
    exact h i q hq
theorem pX0_9 : jFF RX0 9 0 1 (.array .int) := ⟨TX0, 17, tyX0, rfl, by decide, inX0, tyX0_ok, nmX0, rfl, rfl, rfl, jT_of 118 (by decide +kernel) rfl⟩
theorem pX0_15 : jFF RX0 15 0 2 (.array .int) := ⟨TX0, 17, tyX0, rfl, by decide, inX0, tyX0_ok, nmX0, rfl, rfl, rfl, jT_of 120 (by decide +kernel) rfl⟩
theorem pX0_18 : jFF RX0 18 0 3 (.array .int) := ⟨TX0, 17, tyX0, rfl, by decide, inX0, tyX0_ok, nmX0, rfl, rfl, rfl, jT_of 122 (by decide +kernel) rfl⟩
theorem pX0_21 : jFF RX0 21 0 4 (.array .int) := ⟨TX0, 17, tyX0, rfl, by decide, inX0, tyX0_ok, nmX0, rfl, rfl, rfl, jT_of 124 (by decide +kernel) rfl⟩
theorem pX0_24 : jFF RX0 24 0 8 (.array .int) := ⟨TX0, 17, tyX0, rfl, by decide, inX0, tyX0_ok, nmX0, rfl, rfl, rfl, jT_of 133 (by decide +kernel) rfl⟩
theorem pX0_27 : jFF RX0 27 0 9 (.array .int) := ⟨TX0, 17, tyX0, rfl, by decide, inX0, tyX0_ok, nmX0, rfl, rfl, rfl, jT_of 135 (by decide +kernel) rfl⟩
theorem pX0_34 : jFF RX0 34 0 13 (.array .int) := ⟨TX0, 17, tyX0, rfl, by decide, inX0, tyX0_ok, nmX0, rfl, rfl, rfl, jT_of 143 (by decide +kernel) rfl⟩
theorem pX0_37 : jFF RX0 37 0 15 (.array .int) := ⟨TX0, 17, tyX0, rfl, by decide, inX0, tyX0_ok, nmX0, rfl, rfl, rfl, jT_of 147 (by decide +kernel) rfl⟩
theorem pX0_40 : jFF RX0 40 0 16 (.array .int) := ⟨TX0, 17, tyX0, rfl, by decide, inX0, tyX0_ok, nmX0, rfl, rfl, rfl, jT_of 149 (by decide +kernel) rfl⟩
theorem pX1_9 : jFF RX1 9 1 1 (.array .int) := ⟨TX1, 5, tyX1, rfl, by decide, inX1, tyX1_ok, nmX1, rfl, rfl, rfl, jT_of 194 (by decide +kernel) rfl⟩
theorem pX1_15 : jFF RX1 15 1 2 (.array .int) := ⟨TX1, 5, tyX1, rfl, by decide, inX1, tyX1_ok, nmX1, rfl, rfl, rfl, jT_of 195 (by decide +kernel) rfl⟩
theorem pX1_18 : jFF RX1 18 1 3 (.array .int) := ⟨TX1, 5, tyX1, rfl, by decide, inX1, tyX1_ok, nmX1, rfl, rfl, rfl, jT_of 196 (by decide +kernel) rfl⟩
theorem pX1_21 : jFF RX1 21 1 4 (.array .int) := ⟨TX1, 5, tyX1, rfl, by decide, inX1, tyX1_ok, nmX1, rfl, rfl, rfl, jT_of 197 (by decide +kernel) rfl⟩
theorem pX2_9 : jFF RX2 9 2 2 (.array .long) := ⟨TX2, 3, tyX2, rfl, by decide, inX2, tyX2_ok, nmX2, rfl, rfl, rfl, jT_of 249 (by decide +kernel) rfl⟩
theorem pX3_9 : jFF RX3 9 3 0 (.array .int) := ⟨TX3, 6, tyX3, rfl, by decide, inX3, tyX3_ok, nmX3, rfl, rfl, rfl, jT_of 215 (by decide +kernel) rfl⟩
theorem nX4_9 : jNew RX4 9 0 17 [.int 0, .null, .null, .null, .null, .int 0, .int 0, .int 0, .null, .null, .int 0, .long 0, .int 0, .null, .int 0, .null, .null] := ⟨RX0, TX0, tyX0, rfl, inX0, tyX0_ok, by decide +kernel, jT_of 109 (by decide +kernel) rfl, jT_of 110 (by decide +kernel) rfl, jT_of 88 (by decide +kernel) rfl⟩
theorem pX4_12 : jFF RX4 12 4 0 (.object "AcreBuys$Land") := ⟨TX4, 8, tyX4, rfl, by decide, inX4, tyX4_ok, nmX4, rfl, rfl, rfl, jT_of 259 (by decide +kernel) rfl⟩
theorem pX4_16 : jFF RX4 16 4 1 (.object "AcreBuys$Land") := ⟨TX4, 8, tyX4, rfl, by decide, inX4, tyX4_ok, nmX4, rfl, rfl, rfl, jT_of 260 (by decide +kernel) rfl⟩
theorem pX4_19 : jFF RX4 19 4 2 (.object "AcreBuys$Land") := ⟨TX4, 8, tyX4, rfl, by decide, inX4, tyX4_ok, nmX4, rfl, rfl, rfl, jT_of 261 (by decide +kernel) rfl⟩
theorem nX4_22 : jNew RX4 22 1 5 [.int 0, .null, .null, .null, .null] := ⟨RX1, TX1, tyX1, rfl, inX1, tyX1_ok, by decide +kernel, jT_of 187 (by decide +kernel) rfl, jT_of 188 (by decide +kernel) rfl, jT_of 89 (by decide +kernel) rfl⟩
theorem pX4_25 : jFF RX4 25 4 3 (.object "AcreBuys$OrderSearch") := ⟨TX4, 8, tyX4, rfl, by decide, inX4, tyX4_ok, nmX4, rfl, rfl, rfl, jT_of 262 (by decide +kernel) rfl⟩
theorem nX4_29 : jNew RX4 29 3 6 [.null, .int 0, .int 0, .int 0, .int 0, .int 0] := ⟨RX3, TX3, tyX3, rfl, inX3, tyX3_ok, by decide +kernel, jT_of 209 (by decide +kernel) rfl, jT_of 210 (by decide +kernel) rfl, jT_of 90 (by decide +kernel) rfl⟩
theorem pX4_32 : jFF RX4 32 4 4 (.object "AcreBuys$Tape") := ⟨TX4, 8, tyX4, rfl, by decide, inX4, tyX4_ok, nmX4, rfl, rfl, rfl, jT_of 263 (by decide +kernel) rfl⟩
theorem qX4_36 : Cond.classLink RX4 36 RX2 ∈ jT := jT_of 238 (by decide +kernel) rfl
theorem pX4_38 : jFF RX4 38 4 5 (.array (.object "AcreBuys$Sheet")) := ⟨TX4, 8, tyX4, rfl, by decide, inX4, tyX4_ok, nmX4, rfl, rfl, rfl, jT_of 264 (by decide +kernel) rfl⟩
theorem nX4_36 : jNew RX4 36 2 3 [.int 0, .int 0, .null] := ⟨RX2, TX2, tyX2, rfl, inX2, tyX2_ok, by decide +kernel, jT_of 238 (by decide +kernel) rfl, jT_of 240 (by decide +kernel) rfl, jT_of 91 (by decide +kernel) rfl⟩
theorem pX4_43 : jFF RX4 43 4 6 (.array .int) := ⟨TX4, 8, tyX4, rfl, by decide, inX4, tyX4_ok, nmX4, rfl, rfl, rfl, jT_of 265 (by decide +kernel) rfl⟩
theorem pX5_7 : jFF RX5 7 5 0 (.array .int) := ⟨TX5, 22, tyX5, rfl, by decide, inX5, tyX5_ok, nmX5, rfl, rfl, rfl, jT_of 822 (by decide +kernel) rfl⟩
theorem pX5_13 : jFF RX5 13 5 1 (.array .int) := ⟨TX5, 22, tyX5, rfl, by decide, inX5, tyX5_ok, nmX5, rfl, rfl, rfl, jT_of 823 (by decide +kernel) rfl⟩
theorem pX5_16 : jFF RX5 16 5 2 (.array .int) := ⟨TX5, 22, tyX5, rfl, by decide, inX5, tyX5_ok, nmX5, rfl, rfl, rfl, jT_of 824 (by decide +kernel) rfl⟩
theorem pX5_19 : jFF RX5 19 5 6 (.array .int) := ⟨TX5, 22, tyX5, rfl, by decide, inX5, tyX5_ok, nmX5, rfl, rfl, rfl, jT_of 828 (by decide +kernel) rfl⟩
theorem pX5_22 : jFF RX5 22 5 7 (.array .int) := ⟨TX5, 22, tyX5, rfl, by decide, inX5, tyX5_ok, nmX5, rfl, rfl, rfl, jT_of 829 (by decide +kernel) rfl⟩
theorem pX5_25 : jFF RX5 25 5 9 (.array .int) := ⟨TX5, 22, tyX5, rfl, by decide, inX5, tyX5_ok, nmX5, rfl, rfl, rfl, jT_of 831 (by decide +kernel) rfl⟩
theorem pX5_28 : jFF RX5 28 5 10 (.array .int) := ⟨TX5, 22, tyX5, rfl, by decide, inX5, tyX5_ok, nmX5, rfl, rfl, rfl, jT_of 832 (by decide +kernel) rfl⟩
theorem pX5_31 : jFF RX5 31 5 11 (.array .long) := ⟨TX5, 22, tyX5, rfl, by decide, inX5, tyX5_ok, nmX5, rfl, rfl, rfl, jT_of 833 (by decide +kernel) rfl⟩
theorem pX5_35 : jFF RX5 35 5 12 (.array .int) := ⟨TX5, 22, tyX5, rfl, by decide, inX5, tyX5_ok, nmX5, rfl, rfl, rfl, jT_of 834 (by decide +kernel) rfl⟩
theorem pX5_38 : jFF RX5 38 5 14 (.array .int) := ⟨TX5, 22, tyX5, rfl, by decide, inX5, tyX5_ok, nmX5, rfl, rfl, rfl, jT_of 836 (by decide +kernel) rfl⟩
theorem pX5_41 : jFF RX5 41 5 21 (.array .int) := ⟨TX5, 22, tyX5, rfl, by decide, inX5, tyX5_ok, nmX5, rfl, rfl, rfl, jT_of 843 (by decide +kernel) rfl⟩
theorem dX0_init_0 : decode cX0_init 0 = .ok (.aload_n 0, 1) := by decide +kernel
theorem dX0_init_1 : decode cX0_init 1 = .ok (.invokespecial 3, 3) := by decide +kernel
theorem dX0_init_4 : decode cX0_init 4 = .ok (.aload_n 0, 1) := by decide +kernel
theorem dX0_init_5 : decode cX0_init 5 = .ok (.bipush 14, 2) := by decide +kernel
theorem dX0_init_7 : decode cX0_init 7 = .ok (.newarray .int, 2) := by decide +kernel
theorem dX0_init_9 : decode cX0_init 9 = .ok (.putfield 9, 3) := by decide +kernel
theorem dX0_init_12 : decode cX0_init 12 = .ok (.aload_n 0, 1) := by decide +kernel
theorem dX0_init_13 : decode cX0_init 13 = .ok (.bipush 14, 2) := by decide +kernel
theorem dX0_init_15 : decode cX0_init 15 = .ok (.newarray .int, 2) := by decide +kernel
theorem dX0_init_17 : decode cX0_init 17 = .ok (.putfield 15, 3) := by decide +kernel
theorem dX0_init_20 : decode cX0_init 20 = .ok (.aload_n 0, 1) := by decide +kernel
theorem dX0_init_21 : decode cX0_init 21 = .ok (.bipush 14, 2) := by decide +kernel
theorem dX0_init_23 : decode cX0_init 23 = .ok (.newarray .int, 2) := by decide +kernel
theorem dX0_init_25 : decode cX0_init 25 = .ok (.putfield 18, 3) := by decide +kernel
theorem dX0_init_28 : decode cX0_init 28 = .ok (.aload_n 0, 1) := by decide +kernel
theorem dX0_init_29 : decode cX0_init 29 = .ok (.bipush 14, 2) := by decide +kernel
theorem dX0_init_31 : decode cX0_init 31 = .ok (.newarray .int, 2) := by decide +kernel
theorem dX0_init_33 : decode cX0_init 33 = .ok (.putfield 21, 3) := by decide +kernel
theorem dX0_init_36 : decode cX0_init 36 = .ok (.aload_n 0, 1) := by decide +kernel
theorem dX0_init_37 : decode cX0_init 37 = .ok (.bipush 14, 2) := by decide +kernel
theorem dX0_init_39 : decode cX0_init 39 = .ok (.newarray .int, 2) := by decide +kernel
theorem dX0_init_41 : decode cX0_init 41 = .ok (.putfield 24, 3) := by decide +kernel
theorem dX0_init_44 : decode cX0_init 44 = .ok (.aload_n 0, 1) := by decide +kernel
theorem dX0_init_45 : decode cX0_init 45 = .ok (.bipush 14, 2) := by decide +kernel
theorem dX0_init_47 : decode cX0_init 47 = .ok (.newarray .int, 2) := by decide +kernel
theorem dX0_init_49 : decode cX0_init 49 = .ok (.putfield 27, 3) := by decide +kernel
theorem dX0_init_52 : decode cX0_init 52 = .ok (.aload_n 0, 1) := by decide +kernel
theorem dX0_init_53 : decode cX0_init 53 = .ok (.iconst 1, 1) := by decide +kernel
theorem dX0_init_54 : decode cX0_init 54 = .ok (.putfield 30, 3) := by decide +kernel
theorem dX0_init_57 : decode cX0_init 57 = .ok (.aload_n 0, 1) := by decide +kernel
theorem dX0_init_58 : decode cX0_init 58 = .ok (.iconst 4, 1) := by decide +kernel
theorem dX0_init_59 : decode cX0_init 59 = .ok (.newarray .int, 2) := by decide +kernel
theorem dX0_init_61 : decode cX0_init 61 = .ok (.putfield 34, 3) := by decide +kernel
theorem dX0_init_64 : decode cX0_init 64 = .ok (.aload_n 0, 1) := by decide +kernel
theorem dX0_init_65 : decode cX0_init 65 = .ok (.getfield 34, 3) := by decide +kernel
theorem dX0_init_68 : decode cX0_init 68 = .ok (.iconst 1, 1) := by decide +kernel
theorem dX0_init_69 : decode cX0_init 69 = .ok (.bipush 9, 2) := by decide +kernel
theorem dX0_init_71 : decode cX0_init 71 = .ok (.iastore, 1) := by decide +kernel
theorem dX0_init_72 : decode cX0_init 72 = .ok (.aload_n 0, 1) := by decide +kernel
theorem dX0_init_73 : decode cX0_init 73 = .ok (.getfield 34, 3) := by decide +kernel
theorem dX0_init_76 : decode cX0_init 76 = .ok (.iconst 2, 1) := by decide +kernel
theorem dX0_init_77 : decode cX0_init 77 = .ok (.sipush 150, 3) := by decide +kernel
theorem dX0_init_80 : decode cX0_init 80 = .ok (.iastore, 1) := by decide +kernel
theorem dX0_init_81 : decode cX0_init 81 = .ok (.aload_n 0, 1) := by decide +kernel
theorem dX0_init_82 : decode cX0_init 82 = .ok (.bipush 6, 2) := by decide +kernel
theorem dX0_init_84 : decode cX0_init 84 = .ok (.newarray .int, 2) := by decide +kernel
theorem dX0_init_86 : decode cX0_init 86 = .ok (.putfield 37, 3) := by decide +kernel
theorem dX0_init_89 : decode cX0_init 89 = .ok (.aload_n 0, 1) := by decide +kernel
theorem dX0_init_90 : decode cX0_init 90 = .ok (.bipush 6, 2) := by decide +kernel
theorem dX0_init_92 : decode cX0_init 92 = .ok (.newarray .int, 2) := by decide +kernel
theorem dX0_init_94 : decode cX0_init 94 = .ok (.putfield 40, 3) := by decide +kernel
theorem dX0_init_97 : decode cX0_init 97 = .ok (.return_, 1) := by decide +kernel
theorem dX1_init_0 : decode cX1_init 0 = .ok (.aload_n 0, 1) := by decide +kernel
theorem dX1_init_1 : decode cX1_init 1 = .ok (.invokespecial 3, 3) := by decide +kernel
theorem dX1_init_4 : decode cX1_init 4 = .ok (.aload_n 0, 1) := by decide +kernel
theorem dX1_init_5 : decode cX1_init 5 = .ok (.bipush 10, 2) := by decide +kernel
theorem dX1_init_7 : decode cX1_init 7 = .ok (.newarray .int, 2) := by decide +kernel
theorem dX1_init_9 : decode cX1_init 9 = .ok (.putfield 9, 3) := by decide +kernel
theorem dX1_init_12 : decode cX1_init 12 = .ok (.aload_n 0, 1) := by decide +kernel
theorem dX1_init_13 : decode cX1_init 13 = .ok (.bipush 10, 2) := by decide +kernel
theorem dX1_init_15 : decode cX1_init 15 = .ok (.newarray .int, 2) := by decide +kernel
theorem dX1_init_17 : decode cX1_init 17 = .ok (.putfield 15, 3) := by decide +kernel
theorem dX1_init_20 : decode cX1_init 20 = .ok (.aload_n 0, 1) := by decide +kernel
theorem dX1_init_21 : decode cX1_init 21 = .ok (.bipush 100, 2) := by decide +kernel
theorem dX1_init_23 : decode cX1_init 23 = .ok (.newarray .int, 2) := by decide +kernel
theorem dX1_init_25 : decode cX1_init 25 = .ok (.putfield 18, 3) := by decide +kernel
theorem dX1_init_28 : decode cX1_init 28 = .ok (.aload_n 0, 1) := by decide +kernel
theorem dX1_init_29 : decode cX1_init 29 = .ok (.sipush 1024, 3) := by decide +kernel
theorem dX1_init_32 : decode cX1_init 32 = .ok (.newarray .int, 2) := by decide +kernel
theorem dX1_init_34 : decode cX1_init 34 = .ok (.putfield 21, 3) := by decide +kernel
theorem dX1_init_37 : decode cX1_init 37 = .ok (.return_, 1) := by decide +kernel
theorem dX2_init_0 : decode cX2_init 0 = .ok (.aload_n 0, 1) := by decide +kernel
theorem dX2_init_1 : decode cX2_init 1 = .ok (.invokespecial 3, 3) := by decide +kernel
theorem dX2_init_4 : decode cX2_init 4 = .ok (.aload_n 0, 1) := by decide +kernel
theorem dX2_init_5 : decode cX2_init 5 = .ok (.bipush 40, 2) := by decide +kernel
theorem dX2_init_7 : decode cX2_init 7 = .ok (.newarray .long, 2) := by decide +kernel
theorem dX2_init_9 : decode cX2_init 9 = .ok (.putfield 9, 3) := by decide +kernel
theorem dX2_init_12 : decode cX2_init 12 = .ok (.return_, 1) := by decide +kernel
theorem dX3_init_0 : decode cX3_init 0 = .ok (.aload_n 0, 1) := by decide +kernel
theorem dX3_init_1 : decode cX3_init 1 = .ok (.invokespecial 3, 3) := by decide +kernel
theorem dX3_init_4 : decode cX3_init 4 = .ok (.aload_n 0, 1) := by decide +kernel
theorem dX3_init_5 : decode cX3_init 5 = .ok (.bipush 120, 2) := by decide +kernel
theorem dX3_init_7 : decode cX3_init 7 = .ok (.newarray .int, 2) := by decide +kernel
theorem dX3_init_9 : decode cX3_init 9 = .ok (.putfield 9, 3) := by decide +kernel
theorem dX3_init_12 : decode cX3_init 12 = .ok (.return_, 1) := by decide +kernel
theorem dX4_init_0 : decode cX4_init 0 = .ok (.aload_n 0, 1) := by decide +kernel
theorem dX4_init_1 : decode cX4_init 1 = .ok (.invokespecial 3, 3) := by decide +kernel
theorem dX4_init_4 : decode cX4_init 4 = .ok (.aload_n 0, 1) := by decide +kernel
theorem dX4_init_5 : decode cX4_init 5 = .ok (.new 9, 3) := by decide +kernel
theorem dX4_init_8 : decode cX4_init 8 = .ok (.dup, 1) := by decide +kernel
theorem dX4_init_9 : decode cX4_init 9 = .ok (.invokespecial 11, 3) := by decide +kernel
theorem dX4_init_12 : decode cX4_init 12 = .ok (.putfield 12, 3) := by decide +kernel
theorem dX4_init_15 : decode cX4_init 15 = .ok (.aload_n 0, 1) := by decide +kernel
theorem dX4_init_16 : decode cX4_init 16 = .ok (.new 9, 3) := by decide +kernel
theorem dX4_init_19 : decode cX4_init 19 = .ok (.dup, 1) := by decide +kernel
theorem dX4_init_20 : decode cX4_init 20 = .ok (.invokespecial 11, 3) := by decide +kernel
theorem dX4_init_23 : decode cX4_init 23 = .ok (.putfield 16, 3) := by decide +kernel
theorem dX4_init_26 : decode cX4_init 26 = .ok (.aload_n 0, 1) := by decide +kernel
theorem dX4_init_27 : decode cX4_init 27 = .ok (.new 9, 3) := by decide +kernel
theorem dX4_init_30 : decode cX4_init 30 = .ok (.dup, 1) := by decide +kernel
theorem dX4_init_31 : decode cX4_init 31 = .ok (.invokespecial 11, 3) := by decide +kernel
theorem dX4_init_34 : decode cX4_init 34 = .ok (.putfield 19, 3) := by decide +kernel
theorem dX4_init_37 : decode cX4_init 37 = .ok (.aload_n 0, 1) := by decide +kernel
theorem dX4_init_38 : decode cX4_init 38 = .ok (.new 22, 3) := by decide +kernel
theorem dX4_init_41 : decode cX4_init 41 = .ok (.dup, 1) := by decide +kernel
theorem dX4_init_42 : decode cX4_init 42 = .ok (.invokespecial 24, 3) := by decide +kernel
theorem dX4_init_45 : decode cX4_init 45 = .ok (.putfield 25, 3) := by decide +kernel
theorem dX4_init_48 : decode cX4_init 48 = .ok (.aload_n 0, 1) := by decide +kernel
theorem dX4_init_49 : decode cX4_init 49 = .ok (.new 29, 3) := by decide +kernel
theorem dX4_init_52 : decode cX4_init 52 = .ok (.dup, 1) := by decide +kernel
theorem dX4_init_53 : decode cX4_init 53 = .ok (.invokespecial 31, 3) := by decide +kernel
theorem dX4_init_56 : decode cX4_init 56 = .ok (.putfield 32, 3) := by decide +kernel
theorem dX4_init_59 : decode cX4_init 59 = .ok (.aload_n 0, 1) := by decide +kernel
theorem dX4_init_60 : decode cX4_init 60 = .ok (.iconst 4, 1) := by decide +kernel
theorem dX4_init_61 : decode cX4_init 61 = .ok (.anewarray 36, 3) := by decide +kernel
theorem dX4_init_64 : decode cX4_init 64 = .ok (.putfield 38, 3) := by decide +kernel
theorem dX4_init_67 : decode cX4_init 67 = .ok (.iconst 0, 1) := by decide +kernel
theorem dX4_init_68 : decode cX4_init 68 = .ok (.istore_n 1, 1) := by decide +kernel
theorem dX4_init_69 : decode cX4_init 69 = .ok (.iload_n 1, 1) := by decide +kernel
theorem dX4_init_70 : decode cX4_init 70 = .ok (.iconst 4, 1) := by decide +kernel
theorem dX4_init_71 : decode cX4_init 71 = .ok (.if_icmp .ge 22, 3) := by decide +kernel
theorem dX4_init_74 : decode cX4_init 74 = .ok (.aload_n 0, 1) := by decide +kernel
theorem dX4_init_75 : decode cX4_init 75 = .ok (.getfield 38, 3) := by decide +kernel
theorem dX4_init_78 : decode cX4_init 78 = .ok (.iload_n 1, 1) := by decide +kernel
theorem dX4_init_79 : decode cX4_init 79 = .ok (.new 36, 3) := by decide +kernel
theorem dX4_init_82 : decode cX4_init 82 = .ok (.dup, 1) := by decide +kernel
theorem dX4_init_83 : decode cX4_init 83 = .ok (.invokespecial 42, 3) := by decide +kernel
theorem dX4_init_86 : decode cX4_init 86 = .ok (.aastore, 1) := by decide +kernel
theorem dX4_init_87 : decode cX4_init 87 = .ok (.iinc 1 1, 3) := by decide +kernel
theorem dX4_init_90 : decode cX4_init 90 = .ok (.goto (-21), 3) := by decide +kernel
theorem dX4_init_93 : decode cX4_init 93 = .ok (.aload_n 0, 1) := by decide +kernel
theorem dX4_init_94 : decode cX4_init 94 = .ok (.bipush 7, 2) := by decide +kernel
theorem dX4_init_96 : decode cX4_init 96 = .ok (.newarray .int, 2) := by decide +kernel
theorem dX4_init_98 : decode cX4_init 98 = .ok (.putfield 43, 3) := by decide +kernel
theorem dX4_init_101 : decode cX4_init 101 = .ok (.aload_n 0, 1) := by decide +kernel
theorem dX4_init_102 : decode cX4_init 102 = .ok (.iconst 0, 1) := by decide +kernel
theorem dX4_init_103 : decode cX4_init 103 = .ok (.putfield 47, 3) := by decide +kernel
theorem dX4_init_106 : decode cX4_init 106 = .ok (.return_, 1) := by decide +kernel
theorem dX5_init_0 : decode cX5_init 0 = .ok (.aload_n 0, 1) := by decide +kernel
theorem dX5_init_1 : decode cX5_init 1 = .ok (.invokespecial 1, 3) := by decide +kernel
theorem dX5_init_4 : decode cX5_init 4 = .ok (.aload_n 0, 1) := by decide +kernel
theorem dX5_init_5 : decode cX5_init 5 = .ok (.bipush 120, 2) := by decide +kernel
theorem dX5_init_7 : decode cX5_init 7 = .ok (.newarray .int, 2) := by decide +kernel
theorem dX5_init_9 : decode cX5_init 9 = .ok (.putfield 7, 3) := by decide +kernel
theorem dX5_init_12 : decode cX5_init 12 = .ok (.aload_n 0, 1) := by decide +kernel
theorem dX5_init_13 : decode cX5_init 13 = .ok (.bipush 120, 2) := by decide +kernel
theorem dX5_init_15 : decode cX5_init 15 = .ok (.newarray .int, 2) := by decide +kernel
theorem dX5_init_17 : decode cX5_init 17 = .ok (.putfield 13, 3) := by decide +kernel
theorem dX5_init_20 : decode cX5_init 20 = .ok (.aload_n 0, 1) := by decide +kernel
theorem dX5_init_21 : decode cX5_init 21 = .ok (.bipush 120, 2) := by decide +kernel
theorem dX5_init_23 : decode cX5_init 23 = .ok (.newarray .int, 2) := by decide +kernel
theorem dX5_init_25 : decode cX5_init 25 = .ok (.putfield 16, 3) := by decide +kernel
theorem dX5_init_28 : decode cX5_init 28 = .ok (.aload_n 0, 1) := by decide +kernel
theorem dX5_init_29 : decode cX5_init 29 = .ok (.bipush 8, 2) := by decide +kernel
theorem dX5_init_31 : decode cX5_init 31 = .ok (.newarray .int, 2) := by decide +kernel
theorem dX5_init_33 : decode cX5_init 33 = .ok (.putfield 19, 3) := by decide +kernel
theorem dX5_init_36 : decode cX5_init 36 = .ok (.aload_n 0, 1) := by decide +kernel
theorem dX5_init_37 : decode cX5_init 37 = .ok (.bipush 120, 2) := by decide +kernel
theorem dX5_init_39 : decode cX5_init 39 = .ok (.newarray .int, 2) := by decide +kernel
theorem dX5_init_41 : decode cX5_init 41 = .ok (.putfield 22, 3) := by decide +kernel
theorem dX5_init_44 : decode cX5_init 44 = .ok (.aload_n 0, 1) := by decide +kernel
theorem dX5_init_45 : decode cX5_init 45 = .ok (.iconst 4, 1) := by decide +kernel
theorem dX5_init_46 : decode cX5_init 46 = .ok (.newarray .int, 2) := by decide +kernel
theorem dX5_init_48 : decode cX5_init 48 = .ok (.dup, 1) := by decide +kernel
theorem dX5_init_49 : decode cX5_init 49 = .ok (.iconst 0, 1) := by decide +kernel
theorem dX5_init_50 : decode cX5_init 50 = .ok (.iconst (-1), 1) := by decide +kernel
theorem dX5_init_51 : decode cX5_init 51 = .ok (.iastore, 1) := by decide +kernel
theorem dX5_init_52 : decode cX5_init 52 = .ok (.dup, 1) := by decide +kernel
theorem dX5_init_53 : decode cX5_init 53 = .ok (.iconst 1, 1) := by decide +kernel
theorem dX5_init_54 : decode cX5_init 54 = .ok (.iconst (-1), 1) := by decide +kernel
theorem dX5_init_55 : decode cX5_init 55 = .ok (.iastore, 1) := by decide +kernel
theorem dX5_init_56 : decode cX5_init 56 = .ok (.dup, 1) := by decide +kernel
theorem dX5_init_57 : decode cX5_init 57 = .ok (.iconst 2, 1) := by decide +kernel
theorem dX5_init_58 : decode cX5_init 58 = .ok (.iconst (-1), 1) := by decide +kernel
theorem dX5_init_59 : decode cX5_init 59 = .ok (.iastore, 1) := by decide +kernel
theorem dX5_init_60 : decode cX5_init 60 = .ok (.dup, 1) := by decide +kernel
theorem dX5_init_61 : decode cX5_init 61 = .ok (.iconst 3, 1) := by decide +kernel
theorem dX5_init_62 : decode cX5_init 62 = .ok (.iconst (-1), 1) := by decide +kernel
theorem dX5_init_63 : decode cX5_init 63 = .ok (.iastore, 1) := by decide +kernel
theorem dX5_init_64 : decode cX5_init 64 = .ok (.putfield 25, 3) := by decide +kernel
theorem dX5_init_67 : decode cX5_init 67 = .ok (.aload_n 0, 1) := by decide +kernel
theorem dX5_init_68 : decode cX5_init 68 = .ok (.iconst 4, 1) := by decide +kernel
theorem dX5_init_69 : decode cX5_init 69 = .ok (.newarray .int, 2) := by decide +kernel
theorem dX5_init_71 : decode cX5_init 71 = .ok (.putfield 28, 3) := by decide +kernel
theorem dX5_init_74 : decode cX5_init 74 = .ok (.aload_n 0, 1) := by decide +kernel
theorem dX5_init_75 : decode cX5_init 75 = .ok (.sipush 160, 3) := by decide +kernel
theorem dX5_init_78 : decode cX5_init 78 = .ok (.newarray .long, 2) := by decide +kernel
theorem dX5_init_80 : decode cX5_init 80 = .ok (.putfield 31, 3) := by decide +kernel
theorem dX5_init_83 : decode cX5_init 83 = .ok (.aload_n 0, 1) := by decide +kernel
theorem dX5_init_84 : decode cX5_init 84 = .ok (.bipush 14, 2) := by decide +kernel
theorem dX5_init_86 : decode cX5_init 86 = .ok (.newarray .int, 2) := by decide +kernel
theorem dX5_init_88 : decode cX5_init 88 = .ok (.putfield 35, 3) := by decide +kernel
theorem dX5_init_91 : decode cX5_init 91 = .ok (.aload_n 0, 1) := by decide +kernel
theorem dX5_init_92 : decode cX5_init 92 = .ok (.sipush 1024, 3) := by decide +kernel
theorem dX5_init_95 : decode cX5_init 95 = .ok (.newarray .int, 2) := by decide +kernel
theorem dX5_init_97 : decode cX5_init 97 = .ok (.putfield 38, 3) := by decide +kernel
theorem dX5_init_100 : decode cX5_init 100 = .ok (.aload_n 0, 1) := by decide +kernel
theorem dX5_init_101 : decode cX5_init 101 = .ok (.bipush 83, 2) := by decide +kernel
theorem dX5_init_103 : decode cX5_init 103 = .ok (.newarray .int, 2) := by decide +kernel
theorem dX5_init_105 : decode cX5_init 105 = .ok (.dup, 1) := by decide +kernel
theorem dX5_init_106 : decode cX5_init 106 = .ok (.iconst 0, 1) := by decide +kernel
theorem dX5_init_107 : decode cX5_init 107 = .ok (.bipush 111, 2) := by decide +kernel
theorem dX5_init_109 : decode cX5_init 109 = .ok (.iastore, 1) := by decide +kernel
theorem dX5_init_110 : decode cX5_init 110 = .ok (.dup, 1) := by decide +kernel
theorem dX5_init_111 : decode cX5_init 111 = .ok (.iconst 1, 1) := by decide +kernel
theorem dX5_init_112 : decode cX5_init 112 = .ok (.bipush 119, 2) := by decide +kernel
theorem dX5_init_114 : decode cX5_init 114 = .ok (.iastore, 1) := by decide +kernel
theorem dX5_init_115 : decode cX5_init 115 = .ok (.dup, 1) := by decide +kernel
theorem dX5_init_116 : decode cX5_init 116 = .ok (.iconst 2, 1) := by decide +kernel
theorem dX5_init_117 : decode cX5_init 117 = .ok (.bipush 110, 2) := by decide +kernel
theorem dX5_init_119 : decode cX5_init 119 = .ok (.iastore, 1) := by decide +kernel
theorem dX5_init_120 : decode cX5_init 120 = .ok (.dup, 1) := by decide +kernel
theorem dX5_init_121 : decode cX5_init 121 = .ok (.iconst 3, 1) := by decide +kernel
theorem dX5_init_122 : decode cX5_init 122 = .ok (.bipush 101, 2) := by decide +kernel
theorem dX5_init_124 : decode cX5_init 124 = .ok (.iastore, 1) := by decide +kernel
theorem dX5_init_125 : decode cX5_init 125 = .ok (.dup, 1) := by decide +kernel
theorem dX5_init_126 : decode cX5_init 126 = .ok (.iconst 4, 1) := by decide +kernel
theorem dX5_init_127 : decode cX5_init 127 = .ok (.bipush 114, 2) := by decide +kernel
theorem dX5_init_129 : decode cX5_init 129 = .ok (.iastore, 1) := by decide +kernel
theorem dX5_init_130 : decode cX5_init 130 = .ok (.dup, 1) := by decide +kernel
theorem dX5_init_131 : decode cX5_init 131 = .ok (.iconst 5, 1) := by decide +kernel
theorem dX5_init_132 : decode cX5_init 132 = .ok (.iconst 0, 1) := by decide +kernel
theorem dX5_init_133 : decode cX5_init 133 = .ok (.iastore, 1) := by decide +kernel
theorem dX5_init_134 : decode cX5_init 134 = .ok (.dup, 1) := by decide +kernel
theorem dX5_init_135 : decode cX5_init 135 = .ok (.bipush 6, 2) := by decide +kernel
theorem dX5_init_137 : decode cX5_init 137 = .ok (.bipush 107, 2) := by decide +kernel
theorem dX5_init_139 : decode cX5_init 139 = .ok (.iastore, 1) := by decide +kernel
theorem dX5_init_140 : decode cX5_init 140 = .ok (.dup, 1) := by decide +kernel
theorem dX5_init_141 : decode cX5_init 141 = .ok (.bipush 7, 2) := by decide +kernel
theorem dX5_init_143 : decode cX5_init 143 = .ok (.bipush 101, 2) := by decide +kernel
theorem dX5_init_145 : decode cX5_init 145 = .ok (.iastore, 1) := by decide +kernel
theorem dX5_init_146 : decode cX5_init 146 = .ok (.dup, 1) := by decide +kernel
theorem dX5_init_147 : decode cX5_init 147 = .ok (.bipush 8, 2) := by decide +kernel
theorem dX5_init_149 : decode cX5_init 149 = .ok (.bipush 101, 2) := by decide +kernel
theorem dX5_init_151 : decode cX5_init 151 = .ok (.iastore, 1) := by decide +kernel
theorem dX5_init_152 : decode cX5_init 152 = .ok (.dup, 1) := by decide +kernel
theorem dX5_init_153 : decode cX5_init 153 = .ok (.bipush 9, 2) := by decide +kernel
theorem dX5_init_155 : decode cX5_init 155 = .ok (.bipush 110, 2) := by decide +kernel
theorem dX5_init_157 : decode cX5_init 157 = .ok (.iastore, 1) := by decide +kernel
theorem dX5_init_158 : decode cX5_init 158 = .ok (.dup, 1) := by decide +kernel
theorem dX5_init_159 : decode cX5_init 159 = .ok (.bipush 10, 2) := by decide +kernel
theorem dX5_init_161 : decode cX5_init 161 = .ok (.iconst 0, 1) := by decide +kernel
theorem dX5_init_162 : decode cX5_init 162 = .ok (.iastore, 1) := by decide +kernel
theorem dX5_init_163 : decode cX5_init 163 = .ok (.dup, 1) := by decide +kernel
theorem dX5_init_164 : decode cX5_init 164 = .ok (.bipush 11, 2) := by decide +kernel
theorem dX5_init_166 : decode cX5_init 166 = .ok (.bipush 115, 2) := by decide +kernel
theorem dX5_init_168 : decode cX5_init 168 = .ok (.iastore, 1) := by decide +kernel
theorem dX5_init_169 : decode cX5_init 169 = .ok (.dup, 1) := by decide +kernel
theorem dX5_init_170 : decode cX5_init 170 = .ok (.bipush 12, 2) := by decide +kernel
theorem dX5_init_172 : decode cX5_init 172 = .ok (.bipush 116, 2) := by decide +kernel
theorem dX5_init_174 : decode cX5_init 174 = .ok (.iastore, 1) := by decide +kernel
theorem dX5_init_175 : decode cX5_init 175 = .ok (.dup, 1) := by decide +kernel
theorem dX5_init_176 : decode cX5_init 176 = .ok (.bipush 13, 2) := by decide +kernel
theorem dX5_init_178 : decode cX5_init 178 = .ok (.bipush 117, 2) := by decide +kernel
theorem dX5_init_180 : decode cX5_init 180 = .ok (.iastore, 1) := by decide +kernel
theorem dX5_init_181 : decode cX5_init 181 = .ok (.dup, 1) := by decide +kernel
theorem dX5_init_182 : decode cX5_init 182 = .ok (.bipush 14, 2) := by decide +kernel
theorem dX5_init_184 : decode cX5_init 184 = .ok (.bipush 98, 2) := by decide +kernel
theorem dX5_init_186 : decode cX5_init 186 = .ok (.iastore, 1) := by decide +kernel
theorem dX5_init_187 : decode cX5_init 187 = .ok (.dup, 1) := by decide +kernel
theorem dX5_init_188 : decode cX5_init 188 = .ok (.bipush 15, 2) := by decide +kernel
theorem dX5_init_190 : decode cX5_init 190 = .ok (.bipush 98, 2) := by decide +kernel
theorem dX5_init_192 : decode cX5_init 192 = .ok (.iastore, 1) := by decide +kernel
theorem dX5_init_193 : decode cX5_init 193 = .ok (.dup, 1) := by decide +kernel
theorem dX5_init_194 : decode cX5_init 194 = .ok (.bipush 16, 2) := by decide +kernel
theorem dX5_init_196 : decode cX5_init 196 = .ok (.bipush 111, 2) := by decide +kernel
theorem dX5_init_198 : decode cX5_init 198 = .ok (.iastore, 1) := by decide +kernel
theorem dX5_init_199 : decode cX5_init 199 = .ok (.dup, 1) := by decide +kernel
theorem dX5_init_200 : decode cX5_init 200 = .ok (.bipush 17, 2) := by decide +kernel
theorem dX5_init_202 : decode cX5_init 202 = .ok (.bipush 114, 2) := by decide +kernel
theorem dX5_init_204 : decode cX5_init 204 = .ok (.iastore, 1) := by decide +kernel
theorem dX5_init_205 : decode cX5_init 205 = .ok (.dup, 1) := by decide +kernel
theorem dX5_init_206 : decode cX5_init 206 = .ok (.bipush 18, 2) := by decide +kernel
theorem dX5_init_208 : decode cX5_init 208 = .ok (.bipush 110, 2) := by decide +kernel
theorem dX5_init_210 : decode cX5_init 210 = .ok (.iastore, 1) := by decide +kernel
theorem dX5_init_211 : decode cX5_init 211 = .ok (.dup, 1) := by decide +kernel
theorem dX5_init_212 : decode cX5_init 212 = .ok (.bipush 19, 2) := by decide +kernel
theorem dX5_init_214 : decode cX5_init 214 = .ok (.iconst 0, 1) := by decide +kernel
theorem dX5_init_215 : decode cX5_init 215 = .ok (.iastore, 1) := by decide +kernel
theorem dX5_init_216 : decode cX5_init 216 = .ok (.dup, 1) := by decide +kernel
theorem dX5_init_217 : decode cX5_init 217 = .ok (.bipush 20, 2) := by decide +kernel
theorem dX5_init_219 : decode cX5_init 219 = .ok (.bipush 116, 2) := by decide +kernel
theorem dX5_init_221 : decode cX5_init 221 = .ok (.iastore, 1) := by decide +kernel
theorem dX5_init_222 : decode cX5_init 222 = .ok (.dup, 1) := by decide +kernel
theorem dX5_init_223 : decode cX5_init 223 = .ok (.bipush 21, 2) := by decide +kernel
theorem dX5_init_225 : decode cX5_init 225 = .ok (.bipush 97, 2) := by decide +kernel
theorem dX5_init_227 : decode cX5_init 227 = .ok (.iastore, 1) := by decide +kernel
theorem dX5_init_228 : decode cX5_init 228 = .ok (.dup, 1) := by decide +kernel
theorem dX5_init_229 : decode cX5_init 229 = .ok (.bipush 22, 2) := by decide +kernel
theorem dX5_init_231 : decode cX5_init 231 = .ok (.bipush 108, 2) := by decide +kernel
theorem dX5_init_233 : decode cX5_init 233 = .ok (.iastore, 1) := by decide +kernel
theorem dX5_init_234 : decode cX5_init 234 = .ok (.dup, 1) := by decide +kernel
theorem dX5_init_235 : decode cX5_init 235 = .ok (.bipush 23, 2) := by decide +kernel
theorem dX5_init_237 : decode cX5_init 237 = .ok (.bipush 107, 2) := by decide +kernel
theorem dX5_init_239 : decode cX5_init 239 = .ok (.iastore, 1) := by decide +kernel
theorem dX5_init_240 : decode cX5_init 240 = .ok (.dup, 1) := by decide +kernel
theorem dX5_init_241 : decode cX5_init 241 = .ok (.bipush 24, 2) := by decide +kernel
theorem dX5_init_243 : decode cX5_init 243 = .ok (.bipush 101, 2) := by decide +kernel
theorem dX5_init_245 : decode cX5_init 245 = .ok (.iastore, 1) := by decide +kernel
theorem dX5_init_246 : decode cX5_init 246 = .ok (.dup, 1) := by decide +kernel
theorem dX5_init_247 : decode cX5_init 247 = .ok (.bipush 25, 2) := by decide +kernel
theorem dX5_init_249 : decode cX5_init 249 = .ok (.bipush 114, 2) := by decide +kernel
theorem dX5_init_251 : decode cX5_init 251 = .ok (.iastore, 1) := by decide +kernel
theorem dX5_init_252 : decode cX5_init 252 = .ok (.dup, 1) := by decide +kernel
theorem dX5_init_253 : decode cX5_init 253 = .ok (.bipush 26, 2) := by decide +kernel
theorem dX5_init_255 : decode cX5_init 255 = .ok (.iconst 0, 1) := by decide +kernel
theorem dX5_init_256 : decode cX5_init 256 = .ok (.iastore, 1) := by decide +kernel
theorem dX5_init_257 : decode cX5_init 257 = .ok (.dup, 1) := by decide +kernel
theorem dX5_init_258 : decode cX5_init 258 = .ok (.bipush 27, 2) := by decide +kernel
theorem dX5_init_260 : decode cX5_init 260 = .ok (.bipush 108, 2) := by decide +kernel
theorem dX5_init_262 : decode cX5_init 262 = .ok (.iastore, 1) := by decide +kernel
theorem dX5_init_263 : decode cX5_init 263 = .ok (.dup, 1) := by decide +kernel
theorem dX5_init_264 : decode cX5_init 264 = .ok (.bipush 28, 2) := by decide +kernel
theorem dX5_init_266 : decode cX5_init 266 = .ok (.bipush 111, 2) := by decide +kernel
theorem dX5_init_268 : decode cX5_init 268 = .ok (.iastore, 1) := by decide +kernel
theorem dX5_init_269 : decode cX5_init 269 = .ok (.dup, 1) := by decide +kernel
theorem dX5_init_270 : decode cX5_init 270 = .ok (.bipush 29, 2) := by decide +kernel
theorem dX5_init_272 : decode cX5_init 272 = .ok (.bipush 114, 2) := by decide +kernel
theorem dX5_init_274 : decode cX5_init 274 = .ok (.iastore, 1) := by decide +kernel
theorem dX5_init_275 : decode cX5_init 275 = .ok (.dup, 1) := by decide +kernel
theorem dX5_init_276 : decode cX5_init 276 = .ok (.bipush 30, 2) := by decide +kernel
theorem dX5_init_278 : decode cX5_init 278 = .ok (.bipush 100, 2) := by decide +kernel
theorem dX5_init_280 : decode cX5_init 280 = .ok (.iastore, 1) := by decide +kernel
theorem dX5_init_281 : decode cX5_init 281 = .ok (.dup, 1) := by decide +kernel
theorem dX5_init_282 : decode cX5_init 282 = .ok (.bipush 31, 2) := by decide +kernel
theorem dX5_init_284 : decode cX5_init 284 = .ok (.iconst 0, 1) := by decide +kernel
theorem dX5_init_285 : decode cX5_init 285 = .ok (.iastore, 1) := by decide +kernel
theorem dX5_init_286 : decode cX5_init 286 = .ok (.dup, 1) := by decide +kernel
theorem dX5_init_287 : decode cX5_init 287 = .ok (.bipush 32, 2) := by decide +kernel
theorem dX5_init_289 : decode cX5_init 289 = .ok (.bipush 98, 2) := by decide +kernel
theorem dX5_init_291 : decode cX5_init 291 = .ok (.iastore, 1) := by decide +kernel
theorem dX5_init_292 : decode cX5_init 292 = .ok (.dup, 1) := by decide +kernel
theorem dX5_init_293 : decode cX5_init 293 = .ok (.bipush 33, 2) := by decide +kernel
theorem dX5_init_295 : decode cX5_init 295 = .ok (.bipush 114, 2) := by decide +kernel
theorem dX5_init_297 : decode cX5_init 297 = .ok (.iastore, 1) := by decide +kernel
theorem dX5_init_298 : decode cX5_init 298 = .ok (.dup, 1) := by decide +kernel
theorem dX5_init_299 : decode cX5_init 299 = .ok (.bipush 34, 2) := by decide +kernel
theorem dX5_init_301 : decode cX5_init 301 = .ok (.bipush 111, 2) := by decide +kernel
theorem dX5_init_303 : decode cX5_init 303 = .ok (.iastore, 1) := by decide +kernel
theorem dX5_init_304 : decode cX5_init 304 = .ok (.dup, 1) := by decide +kernel
theorem dX5_init_305 : decode cX5_init 305 = .ok (.bipush 35, 2) := by decide +kernel
theorem dX5_init_307 : decode cX5_init 307 = .ok (.bipush 116, 2) := by decide +kernel
theorem dX5_init_309 : decode cX5_init 309 = .ok (.iastore, 1) := by decide +kernel
theorem dX5_init_310 : decode cX5_init 310 = .ok (.dup, 1) := by decide +kernel
theorem dX5_init_311 : decode cX5_init 311 = .ok (.bipush 36, 2) := by decide +kernel
theorem dX5_init_313 : decode cX5_init 313 = .ok (.bipush 104, 2) := by decide +kernel
theorem dX5_init_315 : decode cX5_init 315 = .ok (.iastore, 1) := by decide +kernel
theorem dX5_init_316 : decode cX5_init 316 = .ok (.dup, 1) := by decide +kernel
theorem dX5_init_317 : decode cX5_init 317 = .ok (.bipush 37, 2) := by decide +kernel
theorem dX5_init_319 : decode cX5_init 319 = .ok (.bipush 101, 2) := by decide +kernel
theorem dX5_init_321 : decode cX5_init 321 = .ok (.iastore, 1) := by decide +kernel
theorem dX5_init_322 : decode cX5_init 322 = .ok (.dup, 1) := by decide +kernel
theorem dX5_init_323 : decode cX5_init 323 = .ok (.bipush 38, 2) := by decide +kernel
theorem dX5_init_325 : decode cX5_init 325 = .ok (.bipush 114, 2) := by decide +kernel
theorem dX5_init_327 : decode cX5_init 327 = .ok (.iastore, 1) := by decide +kernel
theorem dX5_init_328 : decode cX5_init 328 = .ok (.dup, 1) := by decide +kernel
theorem dX5_init_329 : decode cX5_init 329 = .ok (.bipush 39, 2) := by decide +kernel
theorem dX5_init_331 : decode cX5_init 331 = .ok (.iconst 0, 1) := by decide +kernel
theorem dX5_init_332 : decode cX5_init 332 = .ok (.iastore, 1) := by decide +kernel
theorem dX5_init_333 : decode cX5_init 333 = .ok (.dup, 1) := by decide +kernel
theorem dX5_init_334 : decode cX5_init 334 = .ok (.bipush 40, 2) := by decide +kernel
theorem dX5_init_336 : decode cX5_init 336 = .ok (.bipush 122, 2) := by decide +kernel
theorem dX5_init_338 : decode cX5_init 338 = .ok (.iastore, 1) := by decide +kernel
theorem dX5_init_339 : decode cX5_init 339 = .ok (.dup, 1) := by decide +kernel
theorem dX5_init_340 : decode cX5_init 340 = .ok (.bipush 41, 2) := by decide +kernel
theorem dX5_init_342 : decode cX5_init 342 = .ok (.bipush 101, 2) := by decide +kernel
theorem dX5_init_344 : decode cX5_init 344 = .ok (.iastore, 1) := by decide +kernel
theorem dX5_init_345 : decode cX5_init 345 = .ok (.dup, 1) := by decide +kernel
theorem dX5_init_346 : decode cX5_init 346 = .ok (.bipush 42, 2) := by decide +kernel
theorem dX5_init_348 : decode cX5_init 348 = .ok (.bipush 97, 2) := by decide +kernel
theorem dX5_init_350 : decode cX5_init 350 = .ok (.iastore, 1) := by decide +kernel
theorem dX5_init_351 : decode cX5_init 351 = .ok (.dup, 1) := by decide +kernel
theorem dX5_init_352 : decode cX5_init 352 = .ok (.bipush 43, 2) := by decide +kernel
theorem dX5_init_354 : decode cX5_init 354 = .ok (.bipush 108, 2) := by decide +kernel
theorem dX5_init_356 : decode cX5_init 356 = .ok (.iastore, 1) := by decide +kernel
theorem dX5_init_357 : decode cX5_init 357 = .ok (.dup, 1) := by decide +kernel
theorem dX5_init_358 : decode cX5_init 358 = .ok (.bipush 44, 2) := by decide +kernel
theorem dX5_init_360 : decode cX5_init 360 = .ok (.iconst 0, 1) := by decide +kernel
theorem dX5_init_361 : decode cX5_init 361 = .ok (.iastore, 1) := by decide +kernel
theorem dX5_init_362 : decode cX5_init 362 = .ok (.dup, 1) := by decide +kernel
theorem dX5_init_363 : decode cX5_init 363 = .ok (.bipush 45, 2) := by decide +kernel
theorem dX5_init_365 : decode cX5_init 365 = .ok (.bipush 99, 2) := by decide +kernel
theorem dX5_init_367 : decode cX5_init 367 = .ok (.iastore, 1) := by decide +kernel
theorem dX5_init_368 : decode cX5_init 368 = .ok (.dup, 1) := by decide +kernel
theorem dX5_init_369 : decode cX5_init 369 = .ok (.bipush 46, 2) := by decide +kernel
theorem dX5_init_371 : decode cX5_init 371 = .ok (.bipush 97, 2) := by decide +kernel
theorem dX5_init_373 : decode cX5_init 373 = .ok (.iastore, 1) := by decide +kernel
theorem dX5_init_374 : decode cX5_init 374 = .ok (.dup, 1) := by decide +kernel
theorem dX5_init_375 : decode cX5_init 375 = .ok (.bipush 47, 2) := by decide +kernel
theorem dX5_init_377 : decode cX5_init 377 = .ok (.bipush 108, 2) := by decide +kernel
theorem dX5_init_379 : decode cX5_init 379 = .ok (.iastore, 1) := by decide +kernel
theorem dX5_init_380 : decode cX5_init 380 = .ok (.dup, 1) := by decide +kernel
theorem dX5_init_381 : decode cX5_init 381 = .ok (.bipush 48, 2) := by decide +kernel
theorem dX5_init_383 : decode cX5_init 383 = .ok (.bipush 109, 2) := by decide +kernel
theorem dX5_init_385 : decode cX5_init 385 = .ok (.iastore, 1) := by decide +kernel
theorem dX5_init_386 : decode cX5_init 386 = .ok (.dup, 1) := by decide +kernel
theorem dX5_init_387 : decode cX5_init 387 = .ok (.bipush 49, 2) := by decide +kernel
theorem dX5_init_389 : decode cX5_init 389 = .ok (.iconst 0, 1) := by decide +kernel
theorem dX5_init_390 : decode cX5_init 390 = .ok (.iastore, 1) := by decide +kernel
theorem dX5_init_391 : decode cX5_init 391 = .ok (.dup, 1) := by decide +kernel
theorem dX5_init_392 : decode cX5_init 392 = .ok (.bipush 50, 2) := by decide +kernel
theorem dX5_init_394 : decode cX5_init 394 = .ok (.bipush 108, 2) := by decide +kernel
theorem dX5_init_396 : decode cX5_init 396 = .ok (.iastore, 1) := by decide +kernel
theorem dX5_init_397 : decode cX5_init 397 = .ok (.dup, 1) := by decide +kernel
theorem dX5_init_398 : decode cX5_init 398 = .ok (.bipush 51, 2) := by decide +kernel
theorem dX5_init_400 : decode cX5_init 400 = .ok (.bipush 97, 2) := by decide +kernel
theorem dX5_init_402 : decode cX5_init 402 = .ok (.iastore, 1) := by decide +kernel
theorem dX5_init_403 : decode cX5_init 403 = .ok (.dup, 1) := by decide +kernel
theorem dX5_init_404 : decode cX5_init 404 = .ok (.bipush 52, 2) := by decide +kernel
theorem dX5_init_406 : decode cX5_init 406 = .ok (.bipush 119, 2) := by decide +kernel
theorem dX5_init_408 : decode cX5_init 408 = .ok (.iastore, 1) := by decide +kernel
theorem dX5_init_409 : decode cX5_init 409 = .ok (.dup, 1) := by decide +kernel
theorem dX5_init_410 : decode cX5_init 410 = .ok (.bipush 53, 2) := by decide +kernel
theorem dX5_init_412 : decode cX5_init 412 = .ok (.iconst 0, 1) := by decide +kernel
theorem dX5_init_413 : decode cX5_init 413 = .ok (.iastore, 1) := by decide +kernel
theorem dX5_init_414 : decode cX5_init 414 = .ok (.dup, 1) := by decide +kernel
theorem dX5_init_415 : decode cX5_init 415 = .ok (.bipush 54, 2) := by decide +kernel
theorem dX5_init_417 : decode cX5_init 417 = .ok (.bipush 112, 2) := by decide +kernel
theorem dX5_init_419 : decode cX5_init 419 = .ok (.iastore, 1) := by decide +kernel
theorem dX5_init_420 : decode cX5_init 420 = .ok (.dup, 1) := by decide +kernel
theorem dX5_init_421 : decode cX5_init 421 = .ok (.bipush 55, 2) := by decide +kernel
theorem dX5_init_423 : decode cX5_init 423 = .ok (.bipush 111, 2) := by decide +kernel
theorem dX5_init_425 : decode cX5_init 425 = .ok (.iastore, 1) := by decide +kernel
theorem dX5_init_426 : decode cX5_init 426 = .ok (.dup, 1) := by decide +kernel
theorem dX5_init_427 : decode cX5_init 427 = .ok (.bipush 56, 2) := by decide +kernel
theorem dX5_init_429 : decode cX5_init 429 = .ok (.bipush 119, 2) := by decide +kernel
theorem dX5_init_431 : decode cX5_init 431 = .ok (.iastore, 1) := by decide +kernel
theorem dX5_init_432 : decode cX5_init 432 = .ok (.dup, 1) := by decide +kernel
theorem dX5_init_433 : decode cX5_init 433 = .ok (.bipush 57, 2) := by decide +kernel
theorem dX5_init_435 : decode cX5_init 435 = .ok (.bipush 101, 2) := by decide +kernel
theorem dX5_init_437 : decode cX5_init 437 = .ok (.iastore, 1) := by decide +kernel
theorem dX5_init_438 : decode cX5_init 438 = .ok (.dup, 1) := by decide +kernel
theorem dX5_init_439 : decode cX5_init 439 = .ok (.bipush 58, 2) := by decide +kernel
theorem dX5_init_441 : decode cX5_init 441 = .ok (.bipush 114, 2) := by decide +kernel
theorem dX5_init_443 : decode cX5_init 443 = .ok (.iastore, 1) := by decide +kernel
theorem dX5_init_444 : decode cX5_init 444 = .ok (.dup, 1) := by decide +kernel
theorem dX5_init_445 : decode cX5_init 445 = .ok (.bipush 59, 2) := by decide +kernel
theorem dX5_init_447 : decode cX5_init 447 = .ok (.iconst 0, 1) := by decide +kernel
theorem dX5_init_448 : decode cX5_init 448 = .ok (.iastore, 1) := by decide +kernel
theorem dX5_init_449 : decode cX5_init 449 = .ok (.dup, 1) := by decide +kernel
theorem dX5_init_450 : decode cX5_init 450 = .ok (.bipush 60, 2) := by decide +kernel
theorem dX5_init_452 : decode cX5_init 452 = .ok (.bipush 115, 2) := by decide +kernel
theorem dX5_init_454 : decode cX5_init 454 = .ok (.iastore, 1) := by decide +kernel
theorem dX5_init_455 : decode cX5_init 455 = .ok (.dup, 1) := by decide +kernel
theorem dX5_init_456 : decode cX5_init 456 = .ok (.bipush 61, 2) := by decide +kernel
theorem dX5_init_458 : decode cX5_init 458 = .ok (.bipush 116, 2) := by decide +kernel
theorem dX5_init_460 : decode cX5_init 460 = .ok (.iastore, 1) := by decide +kernel
theorem dX5_init_461 : decode cX5_init 461 = .ok (.dup, 1) := by decide +kernel
theorem dX5_init_462 : decode cX5_init 462 = .ok (.bipush 62, 2) := by decide +kernel
theorem dX5_init_464 : decode cX5_init 464 = .ok (.bipush 114, 2) := by decide +kernel
theorem dX5_init_466 : decode cX5_init 466 = .ok (.iastore, 1) := by decide +kernel
theorem dX5_init_467 : decode cX5_init 467 = .ok (.dup, 1) := by decide +kernel
theorem dX5_init_468 : decode cX5_init 468 = .ok (.bipush 63, 2) := by decide +kernel
theorem dX5_init_470 : decode cX5_init 470 = .ok (.bipush 105, 2) := by decide +kernel
theorem dX5_init_472 : decode cX5_init 472 = .ok (.iastore, 1) := by decide +kernel
theorem dX5_init_473 : decode cX5_init 473 = .ok (.dup, 1) := by decide +kernel
theorem dX5_init_474 : decode cX5_init 474 = .ok (.bipush 64, 2) := by decide +kernel
theorem dX5_init_476 : decode cX5_init 476 = .ok (.bipush 112, 2) := by decide +kernel
theorem dX5_init_478 : decode cX5_init 478 = .ok (.iastore, 1) := by decide +kernel
theorem dX5_init_479 : decode cX5_init 479 = .ok (.dup, 1) := by decide +kernel
theorem dX5_init_480 : decode cX5_init 480 = .ok (.bipush 65, 2) := by decide +kernel
theorem dX5_init_482 : decode cX5_init 482 = .ok (.iconst 0, 1) := by decide +kernel
theorem dX5_init_483 : decode cX5_init 483 = .ok (.iastore, 1) := by decide +kernel
theorem dX5_init_484 : decode cX5_init 484 = .ok (.dup, 1) := by decide +kernel
theorem dX5_init_485 : decode cX5_init 485 = .ok (.bipush 66, 2) := by decide +kernel
theorem dX5_init_487 : decode cX5_init 487 = .ok (.bipush 119, 2) := by decide +kernel
theorem dX5_init_489 : decode cX5_init 489 = .ok (.iastore, 1) := by decide +kernel
theorem dX5_init_490 : decode cX5_init 490 = .ok (.dup, 1) := by decide +kernel
theorem dX5_init_491 : decode cX5_init 491 = .ok (.bipush 67, 2) := by decide +kernel
theorem dX5_init_493 : decode cX5_init 493 = .ok (.bipush 97, 2) := by decide +kernel
theorem dX5_init_495 : decode cX5_init 495 = .ok (.iastore, 1) := by decide +kernel
theorem dX5_init_496 : decode cX5_init 496 = .ok (.dup, 1) := by decide +kernel
theorem dX5_init_497 : decode cX5_init 497 = .ok (.bipush 68, 2) := by decide +kernel
theorem dX5_init_499 : decode cX5_init 499 = .ok (.bipush 114, 2) := by decide +kernel
theorem dX5_init_501 : decode cX5_init 501 = .ok (.iastore, 1) := by decide +kernel
theorem dX5_init_502 : decode cX5_init 502 = .ok (.dup, 1) := by decide +kernel
theorem dX5_init_503 : decode cX5_init 503 = .ok (.bipush 69, 2) := by decide +kernel
theorem dX5_init_505 : decode cX5_init 505 = .ok (.bipush 121, 2) := by decide +kernel
theorem dX5_init_507 : decode cX5_init 507 = .ok (.iastore, 1) := by decide +kernel
theorem dX5_init_508 : decode cX5_init 508 = .ok (.dup, 1) := by decide +kernel
theorem dX5_init_509 : decode cX5_init 509 = .ok (.bipush 70, 2) := by decide +kernel
theorem dX5_init_511 : decode cX5_init 511 = .ok (.iconst 0, 1) := by decide +kernel
theorem dX5_init_512 : decode cX5_init 512 = .ok (.iastore, 1) := by decide +kernel
theorem dX5_init_513 : decode cX5_init 513 = .ok (.dup, 1) := by decide +kernel
theorem dX5_init_514 : decode cX5_init 514 = .ok (.bipush 71, 2) := by decide +kernel
theorem dX5_init_516 : decode cX5_init 516 = .ok (.bipush 116, 2) := by decide +kernel
theorem dX5_init_518 : decode cX5_init 518 = .ok (.iastore, 1) := by decide +kernel
theorem dX5_init_519 : decode cX5_init 519 = .ok (.dup, 1) := by decide +kernel
theorem dX5_init_520 : decode cX5_init 520 = .ok (.bipush 72, 2) := by decide +kernel
theorem dX5_init_522 : decode cX5_init 522 = .ok (.bipush 101, 2) := by decide +kernel
theorem dX5_init_524 : decode cX5_init 524 = .ok (.iastore, 1) := by decide +kernel
theorem dX5_init_525 : decode cX5_init 525 = .ok (.dup, 1) := by decide +kernel
theorem dX5_init_526 : decode cX5_init 526 = .ok (.bipush 73, 2) := by decide +kernel
theorem dX5_init_528 : decode cX5_init 528 = .ok (.bipush 108, 2) := by decide +kernel
theorem dX5_init_530 : decode cX5_init 530 = .ok (.iastore, 1) := by decide +kernel
theorem dX5_init_531 : decode cX5_init 531 = .ok (.dup, 1) := by decide +kernel
theorem dX5_init_532 : decode cX5_init 532 = .ok (.bipush 74, 2) := by decide +kernel
theorem dX5_init_534 : decode cX5_init 534 = .ok (.bipush 108, 2) := by decide +kernel
theorem dX5_init_536 : decode cX5_init 536 = .ok (.iastore, 1) := by decide +kernel
theorem dX5_init_537 : decode cX5_init 537 = .ok (.dup, 1) := by decide +kernel
theorem dX5_init_538 : decode cX5_init 538 = .ok (.bipush 75, 2) := by decide +kernel
theorem dX5_init_540 : decode cX5_init 540 = .ok (.bipush 115, 2) := by decide +kernel
theorem dX5_init_542 : decode cX5_init 542 = .ok (.iastore, 1) := by decide +kernel
theorem dX5_init_543 : decode cX5_init 543 = .ok (.dup, 1) := by decide +kernel
theorem dX5_init_544 : decode cX5_init 544 = .ok (.bipush 76, 2) := by decide +kernel
theorem dX5_init_546 : decode cX5_init 546 = .ok (.iconst 0, 1) := by decide +kernel
theorem dX5_init_547 : decode cX5_init 547 = .ok (.iastore, 1) := by decide +kernel
theorem dX5_init_548 : decode cX5_init 548 = .ok (.dup, 1) := by decide +kernel
theorem dX5_init_549 : decode cX5_init 549 = .ok (.bipush 77, 2) := by decide +kernel
theorem dX5_init_551 : decode cX5_init 551 = .ok (.bipush 114, 2) := by decide +kernel
theorem dX5_init_553 : decode cX5_init 553 = .ok (.iastore, 1) := by decide +kernel
theorem dX5_init_554 : decode cX5_init 554 = .ok (.dup, 1) := by decide +kernel
theorem dX5_init_555 : decode cX5_init 555 = .ok (.bipush 78, 2) := by decide +kernel
theorem dX5_init_557 : decode cX5_init 557 = .ok (.bipush 111, 2) := by decide +kernel
theorem dX5_init_559 : decode cX5_init 559 = .ok (.iastore, 1) := by decide +kernel
theorem dX5_init_560 : decode cX5_init 560 = .ok (.dup, 1) := by decide +kernel
theorem dX5_init_561 : decode cX5_init 561 = .ok (.bipush 79, 2) := by decide +kernel
theorem dX5_init_563 : decode cX5_init 563 = .ok (.bipush 117, 2) := by decide +kernel
theorem dX5_init_565 : decode cX5_init 565 = .ok (.iastore, 1) := by decide +kernel
theorem dX5_init_566 : decode cX5_init 566 = .ok (.dup, 1) := by decide +kernel
theorem dX5_init_567 : decode cX5_init 567 = .ok (.bipush 80, 2) := by decide +kernel
theorem dX5_init_569 : decode cX5_init 569 = .ok (.bipush 110, 2) := by decide +kernel
theorem dX5_init_571 : decode cX5_init 571 = .ok (.iastore, 1) := by decide +kernel
theorem dX5_init_572 : decode cX5_init 572 = .ok (.dup, 1) := by decide +kernel
theorem dX5_init_573 : decode cX5_init 573 = .ok (.bipush 81, 2) := by decide +kernel
theorem dX5_init_575 : decode cX5_init 575 = .ok (.bipush 100, 2) := by decide +kernel
theorem dX5_init_577 : decode cX5_init 577 = .ok (.iastore, 1) := by decide +kernel
theorem dX5_init_578 : decode cX5_init 578 = .ok (.dup, 1) := by decide +kernel
theorem dX5_init_579 : decode cX5_init 579 = .ok (.bipush 82, 2) := by decide +kernel
theorem dX5_init_581 : decode cX5_init 581 = .ok (.iconst 0, 1) := by decide +kernel
theorem dX5_init_582 : decode cX5_init 582 = .ok (.iastore, 1) := by decide +kernel
theorem dX5_init_583 : decode cX5_init 583 = .ok (.putfield 41, 3) := by decide +kernel
theorem dX5_init_586 : decode cX5_init 586 = .ok (.aload_n 0, 1) := by decide +kernel
theorem dX5_init_587 : decode cX5_init 587 = .ok (.getfield 7, 3) := by decide +kernel
theorem dX5_init_590 : decode cX5_init 590 = .ok (.iconst 4, 1) := by decide +kernel
theorem dX5_init_591 : decode cX5_init 591 = .ok (.bipush 9, 2) := by decide +kernel
theorem dX5_init_593 : decode cX5_init 593 = .ok (.iastore, 1) := by decide +kernel
theorem dX5_init_594 : decode cX5_init 594 = .ok (.aload_n 0, 1) := by decide +kernel
theorem dX5_init_595 : decode cX5_init 595 = .ok (.getfield 7, 3) := by decide +kernel
theorem dX5_init_598 : decode cX5_init 598 = .ok (.iconst 5, 1) := by decide +kernel
theorem dX5_init_599 : decode cX5_init 599 = .ok (.sipush 150, 3) := by decide +kernel
theorem dX5_init_602 : decode cX5_init 602 = .ok (.iastore, 1) := by decide +kernel
theorem dX5_init_603 : decode cX5_init 603 = .ok (.aload_n 0, 1) := by decide +kernel
theorem dX5_init_604 : decode cX5_init 604 = .ok (.getfield 7, 3) := by decide +kernel
theorem dX5_init_607 : decode cX5_init 607 = .ok (.bipush 7, 2) := by decide +kernel
theorem dX5_init_609 : decode cX5_init 609 = .ok (.iconst 1, 1) := by decide +kernel
theorem dX5_init_610 : decode cX5_init 610 = .ok (.iastore, 1) := by decide +kernel
theorem dX5_init_611 : decode cX5_init 611 = .ok (.return_, 1) := by decide +kernel
set_option maxHeartbeats 16000000 in
set_option maxRecDepth 100000 in
theorem tX0_init {l : Launch} {Z : jZ} (a0 : Nat) : Ct l Z yX0_init cX0_init 1 none 1 9 100 [.ref a0] [(a0, .inr (0, [.int 0, .null, .null, .null, .null, .int 0, .int 0, .int 0, .null, .null, .int 0, .long 0, .int 0, .null, .int 0, .null, .null]))] (fun r w => r = none ∧ ∃ a1 a2 a3 a4 a5 a6 a7 a8 a9 : Nat, w = [(a0, .inr (0, [.int 0, .ref a1, .ref a2, .ref a3, .ref a4, .int 0, .int 0, .int 0, .ref a5, .ref a6, .int 0, .long 0, .int 1, .ref a7, .int 0, .ref a8, .ref a9])), (a1, .inl (Z.2.1 0, 14, .inl (fun _ => 0))), (a2, .inl (Z.2.1 0, 14, .inl (fun _ => 0))), (a3, .inl (Z.2.1 0, 14, .inl (fun _ => 0))), (a4, .inl (Z.2.1 0, 14, .inl (fun _ => 0))), (a5, .inl (Z.2.1 0, 14, .inl (fun _ => 0))), (a6, .inl (Z.2.1 0, 14, .inl (fun _ => 0))), (a7, .inl (Z.2.1 0, 4, .inl (upd (upd (fun _ => 0) 1 9) 2 150))), (a8, .inl (Z.2.1 0, 6, .inl (fun _ => 0))), (a9, .inl (Z.2.1 0, 6, .inl (fun _ => 0)))]) := by
  refine Ct_of (L := [(0, .ref a0)]) (own := RX0) (nm := "<init>") rfl rfl (by decide +kernel) rfl (Nat.le_of_ble_eq_true rfl) ?_
  refine j_aload_n dX0_init_0 rfl rfl ?_
  refine j_obj kX0_3 oi_link0 oi_code dX0_init_1 rfl (by decide) (Nat.le_of_ble_eq_true rfl) ?_
  refine j_aload_n dX0_init_4 rfl rfl ?_
  refine j_bipush (v := 14) dX0_init_5 rfl (by decide) ?_
  refine c_newi (N := 14) ac_int dX0_init_7 rfl (by decide) (by decide) (Nat.le_of_ble_eq_true rfl) (Nat.le_of_ble_eq_true rfl) (Nat.le_of_ble_eq_true rfl) (fun a1 => ?_)
  refine c_putF (k := 1) (p0 := 0) (ws' := [_, _]) pX0_9 rfl dX0_init_9 rfl rfl (Nat.le_of_ble_eq_true rfl) rfl rfl rfl ?_
  refine j_aload_n dX0_init_12 rfl rfl ?_
  refine j_bipush (v := 14) dX0_init_13 rfl (by decide) ?_
  refine c_newi (N := 14) ac_int dX0_init_15 rfl (by decide) (by decide) (Nat.le_of_ble_eq_true rfl) (Nat.le_of_ble_eq_true rfl) (Nat.le_of_ble_eq_true rfl) (fun a2 => ?_)
  refine c_putF (k := 2) (p0 := 0) (ws' := [_, _, _]) pX0_15 rfl dX0_init_17 rfl rfl (Nat.le_of_ble_eq_true rfl) rfl rfl rfl ?_
  refine j_aload_n dX0_init_20 rfl rfl ?_
  refine j_bipush (v := 14) dX0_init_21 rfl (by decide) ?_
  refine c_newi (N := 14) ac_int dX0_init_23 rfl (by decide) (by decide) (Nat.le_of_ble_eq_true rfl) (Nat.le_of_ble_eq_true rfl) (Nat.le_of_ble_eq_true rfl) (fun a3 => ?_)
  refine c_putF (k := 3) (p0 := 0) (ws' := [_, _, _, _]) pX0_18 rfl dX0_init_25 rfl rfl (Nat.le_of_ble_eq_true rfl) rfl rfl rfl ?_
  refine j_aload_n dX0_init_28 rfl rfl ?_
  refine j_bipush (v := 14) dX0_init_29 rfl (by decide) ?_
  refine c_newi (N := 14) ac_int dX0_init_31 rfl (by decide) (by decide) (Nat.le_of_ble_eq_true rfl) (Nat.le_of_ble_eq_true rfl) (Nat.le_of_ble_eq_true rfl) (fun a4 => ?_)
  refine c_putF (k := 4) (p0 := 0) (ws' := [_, _, _, _, _]) pX0_21 rfl dX0_init_33 rfl rfl (Nat.le_of_ble_eq_true rfl) rfl rfl rfl ?_
  refine j_aload_n dX0_init_36 rfl rfl ?_
  refine j_bipush (v := 14) dX0_init_37 rfl (by decide) ?_
  refine c_newi (N := 14) ac_int dX0_init_39 rfl (by decide) (by decide) (Nat.le_of_ble_eq_true rfl) (Nat.le_of_ble_eq_true rfl) (Nat.le_of_ble_eq_true rfl) (fun a5 => ?_)
  refine c_putF (k := 8) (p0 := 0) (ws' := [_, _, _, _, _, _]) pX0_24 rfl dX0_init_41 rfl rfl (Nat.le_of_ble_eq_true rfl) rfl rfl rfl ?_
  refine j_aload_n dX0_init_44 rfl rfl ?_
  refine j_bipush (v := 14) dX0_init_45 rfl (by decide) ?_
  refine c_newi (N := 14) ac_int dX0_init_47 rfl (by decide) (by decide) (Nat.le_of_ble_eq_true rfl) (Nat.le_of_ble_eq_true rfl) (Nat.le_of_ble_eq_true rfl) (fun a6 => ?_)
  refine c_putF (k := 9) (p0 := 0) (ws' := [_, _, _, _, _, _, _]) pX0_27 rfl dX0_init_49 rfl rfl (Nat.le_of_ble_eq_true rfl) rfl rfl rfl ?_
  refine j_aload_n dX0_init_52 rfl rfl ?_
  refine j_iconst (v := 1) dX0_init_53 rfl (by decide) ?_
  refine c_put (k := 12) (p0 := 0) (ws' := [_, _, _, _, _, _, _]) fX0_30 dX0_init_54 rfl rfl (Nat.le_of_ble_eq_true rfl) (by decide) (by decide) rfl ?_
  refine j_aload_n dX0_init_57 rfl rfl ?_
  refine j_iconst (v := 4) dX0_init_58 rfl (by decide) ?_
  refine c_newi (N := 4) ac_int dX0_init_59 rfl (by decide) (by decide) (Nat.le_of_ble_eq_true rfl) (Nat.le_of_ble_eq_true rfl) (Nat.le_of_ble_eq_true rfl) (fun a7 => ?_)
  refine c_putF (k := 13) (p0 := 0) (ws' := [_, _, _, _, _, _, _, _]) pX0_34 rfl dX0_init_61 rfl rfl (Nat.le_of_ble_eq_true rfl) rfl rfl rfl ?_
  refine j_aload_n dX0_init_64 rfl rfl ?_
  refine j_get (k := 13) (p0 := 0) fX0_34 dX0_init_65 rfl rfl rfl ?_
  refine j_iconst (v := 1) dX0_init_68 rfl (by decide) ?_
  refine j_bipush (v := 9) dX0_init_69 rfl (by decide) ?_
  refine c_iast (k := 1) (p0 := 7) (ws' := [_, _, _, _, _, _, _, _]) (by decide) dX0_init_71 rfl rfl (jin_vp (by decide)) rfl ?_
  refine j_aload_n dX0_init_72 rfl rfl ?_
  refine j_get (k := 13) (p0 := 0) fX0_34 dX0_init_73 rfl rfl rfl ?_
  refine j_iconst (v := 2) dX0_init_76 rfl (by decide) ?_
  refine j_sipush (v := 150) dX0_init_77 rfl (by decide) ?_
  refine c_iast (k := 2) (p0 := 7) (ws' := [_, _, _, _, _, _, _, _]) (by decide) dX0_init_80 rfl rfl (jin_vp (by decide)) rfl ?_
  refine j_aload_n dX0_init_81 rfl rfl ?_
  refine j_bipush (v := 6) dX0_init_82 rfl (by decide) ?_
  refine c_newi (N := 6) ac_int dX0_init_84 rfl (by decide) (by decide) (Nat.le_of_ble_eq_true rfl) (Nat.le_of_ble_eq_true rfl) (Nat.le_of_ble_eq_true rfl) (fun a8 => ?_)
  refine c_putF (k := 15) (p0 := 0) (ws' := [_, _, _, _, _, _, _, _, _]) pX0_37 rfl dX0_init_86 rfl rfl (Nat.le_of_ble_eq_true rfl) rfl rfl rfl ?_
  refine j_aload_n dX0_init_89 rfl rfl ?_
  refine j_bipush (v := 6) dX0_init_90 rfl (by decide) ?_
  refine c_newi (N := 6) ac_int dX0_init_92 rfl (by decide) (by decide) (Nat.le_of_ble_eq_true rfl) (Nat.le_of_ble_eq_true rfl) (Nat.le_of_ble_eq_true rfl) (fun a9 => ?_)
  refine c_putF (k := 16) (p0 := 0) (ws' := [_, _, _, _, _, _, _, _, _, _]) pX0_40 rfl dX0_init_94 rfl rfl (Nat.le_of_ble_eq_true rfl) rfl rfl rfl ?_
  exact j_return dX0_init_97 rfl ⟨(Nat.le_of_ble_eq_true rfl), (Nat.le_of_ble_eq_true rfl)⟩ ⟨rfl, a1, a2, a3, a4, a5, a6, a7, a8, a9, rfl⟩
set_option maxHeartbeats 16000000 in
set_option maxRecDepth 100000 in
theorem tX1_init {l : Launch} {Z : jZ} (a0 : Nat) : Ct l Z yX1_init cX1_init 1 none 1 4 1144 [.ref a0] [(a0, .inr (1, [.int 0, .null, .null, .null, .null]))] (fun r w => r = none ∧ ∃ a1 a2 a3 a4 : Nat, w = [(a0, .inr (1, [.int 0, .ref a1, .ref a2, .ref a3, .ref a4])), (a1, .inl (Z.2.1 0, 10, .inl (fun _ => 0))), (a2, .inl (Z.2.1 0, 10, .inl (fun _ => 0))), (a3, .inl (Z.2.1 0, 100, .inl (fun _ => 0))), (a4, .inl (Z.2.1 0, 1024, .inl (fun _ => 0)))]) := by
  refine Ct_of (L := [(0, .ref a0)]) (own := RX1) (nm := "<init>") rfl rfl (by decide +kernel) rfl (Nat.le_of_ble_eq_true rfl) ?_
  refine j_aload_n dX1_init_0 rfl rfl ?_
  refine j_obj kX1_3 oi_link0 oi_code dX1_init_1 rfl (by decide) (Nat.le_of_ble_eq_true rfl) ?_
  refine j_aload_n dX1_init_4 rfl rfl ?_
  refine j_bipush (v := 10) dX1_init_5 rfl (by decide) ?_
  refine c_newi (N := 10) ac_int dX1_init_7 rfl (by decide) (by decide) (Nat.le_of_ble_eq_true rfl) (Nat.le_of_ble_eq_true rfl) (Nat.le_of_ble_eq_true rfl) (fun a1 => ?_)
  refine c_putF (k := 1) (p0 := 0) (ws' := [_, _]) pX1_9 rfl dX1_init_9 rfl rfl (Nat.le_of_ble_eq_true rfl) rfl rfl rfl ?_
  refine j_aload_n dX1_init_12 rfl rfl ?_
  refine j_bipush (v := 10) dX1_init_13 rfl (by decide) ?_
  refine c_newi (N := 10) ac_int dX1_init_15 rfl (by decide) (by decide) (Nat.le_of_ble_eq_true rfl) (Nat.le_of_ble_eq_true rfl) (Nat.le_of_ble_eq_true rfl) (fun a2 => ?_)
  refine c_putF (k := 2) (p0 := 0) (ws' := [_, _, _]) pX1_15 rfl dX1_init_17 rfl rfl (Nat.le_of_ble_eq_true rfl) rfl rfl rfl ?_
  refine j_aload_n dX1_init_20 rfl rfl ?_
  refine j_bipush (v := 100) dX1_init_21 rfl (by decide) ?_
  refine c_newi (N := 100) ac_int dX1_init_23 rfl (by decide) (by decide) (Nat.le_of_ble_eq_true rfl) (Nat.le_of_ble_eq_true rfl) (Nat.le_of_ble_eq_true rfl) (fun a3 => ?_)
  refine c_putF (k := 3) (p0 := 0) (ws' := [_, _, _, _]) pX1_18 rfl dX1_init_25 rfl rfl (Nat.le_of_ble_eq_true rfl) rfl rfl rfl ?_
  refine j_aload_n dX1_init_28 rfl rfl ?_
  refine j_sipush (v := 1024) dX1_init_29 rfl (by decide) ?_
  refine c_newi (N := 1024) ac_int dX1_init_32 rfl (by decide) (by decide) (Nat.le_of_ble_eq_true rfl) (Nat.le_of_ble_eq_true rfl) (Nat.le_of_ble_eq_true rfl) (fun a4 => ?_)
  refine c_putF (k := 4) (p0 := 0) (ws' := [_, _, _, _, _]) pX1_21 rfl dX1_init_34 rfl rfl (Nat.le_of_ble_eq_true rfl) rfl rfl rfl ?_
  exact j_return dX1_init_37 rfl ⟨(Nat.le_of_ble_eq_true rfl), (Nat.le_of_ble_eq_true rfl)⟩ ⟨rfl, a1, a2, a3, a4, rfl⟩
set_option maxHeartbeats 16000000 in
set_option maxRecDepth 100000 in
theorem tX2_init {l : Launch} {Z : jZ} (a0 : Nat) : Ct l Z yX2_init cX2_init 1 none 1 1 40 [.ref a0] [(a0, .inr (2, [.int 0, .int 0, .null]))] (fun r w => r = none ∧ ∃ a1 : Nat, w = [(a0, .inr (2, [.int 0, .int 0, .ref a1])), (a1, .inl (Z.2.1 1, 40, .inr (.inl (fun _ => 0))))]) := by
  refine Ct_of (L := [(0, .ref a0)]) (own := RX2) (nm := "<init>") rfl rfl (by decide +kernel) rfl (Nat.le_of_ble_eq_true rfl) ?_
  refine j_aload_n dX2_init_0 rfl rfl ?_
  refine j_obj kX2_3 oi_link0 oi_code dX2_init_1 rfl (by decide) (Nat.le_of_ble_eq_true rfl) ?_
  refine j_aload_n dX2_init_4 rfl rfl ?_
  refine j_bipush (v := 40) dX2_init_5 rfl (by decide) ?_
  refine c_newl (N := 40) ac_long dX2_init_7 rfl (by decide) (by decide) (Nat.le_of_ble_eq_true rfl) (Nat.le_of_ble_eq_true rfl) (Nat.le_of_ble_eq_true rfl) (fun a1 => ?_)
  refine c_putF (k := 2) (p0 := 0) (ws' := [_, _]) pX2_9 rfl dX2_init_9 rfl rfl (Nat.le_of_ble_eq_true rfl) rfl rfl rfl ?_
  exact j_return dX2_init_12 rfl ⟨(Nat.le_of_ble_eq_true rfl), (Nat.le_of_ble_eq_true rfl)⟩ ⟨rfl, a1, rfl⟩
set_option maxHeartbeats 16000000 in
set_option maxRecDepth 100000 in
theorem tX3_init {l : Launch} {Z : jZ} (a0 : Nat) : Ct l Z yX3_init cX3_init 1 none 1 1 120 [.ref a0] [(a0, .inr (3, [.null, .int 0, .int 0, .int 0, .int 0, .int 0]))] (fun r w => r = none ∧ ∃ a1 : Nat, w = [(a0, .inr (3, [.ref a1, .int 0, .int 0, .int 0, .int 0, .int 0])), (a1, .inl (Z.2.1 0, 120, .inl (fun _ => 0)))]) := by
  refine Ct_of (L := [(0, .ref a0)]) (own := RX3) (nm := "<init>") rfl rfl (by decide +kernel) rfl (Nat.le_of_ble_eq_true rfl) ?_
  refine j_aload_n dX3_init_0 rfl rfl ?_
  refine j_obj kX3_3 oi_link0 oi_code dX3_init_1 rfl (by decide) (Nat.le_of_ble_eq_true rfl) ?_
  refine j_aload_n dX3_init_4 rfl rfl ?_
  refine j_bipush (v := 120) dX3_init_5 rfl (by decide) ?_
  refine c_newi (N := 120) ac_int dX3_init_7 rfl (by decide) (by decide) (Nat.le_of_ble_eq_true rfl) (Nat.le_of_ble_eq_true rfl) (Nat.le_of_ble_eq_true rfl) (fun a1 => ?_)
  refine c_putF (k := 0) (p0 := 0) (ws' := [_, _]) pX3_9 rfl dX3_init_9 rfl rfl (Nat.le_of_ble_eq_true rfl) rfl rfl rfl ?_
  exact j_return dX3_init_12 rfl ⟨(Nat.le_of_ble_eq_true rfl), (Nat.le_of_ble_eq_true rfl)⟩ ⟨rfl, a1, rfl⟩
def V0x : jMem := (fun j => match j with
  | 1 => (upd (fun _ => 0) 12 1)
  | 8 => (upd (upd (fun _ => 0) 1 9) 2 150)
  | 11 => (upd (fun _ => 0) 12 1)
  | 18 => (upd (upd (fun _ => 0) 1 9) 2 150)
  | 21 => (upd (fun _ => 0) 12 1)
  | 28 => (upd (upd (fun _ => 0) 1 9) 2 150)
  | _ => (fun _ => 0), fun _ _ => 0)
set_option maxHeartbeats 16000000 in
set_option maxRecDepth 100000 in
theorem tX4_init {l : Launch} {Z : jZ} (a0 : Nat) : Ct l Z yX4_init cX4_init 2 none 2 47 1809 [.ref a0] [(a0, .inr (4, [.null, .null, .null, .null, .null, .null, .null, .int 0]))] (fun r w => r = none ∧ ∃ q : Nat → Nat, q 0 = a0 ∧ w = jw Z q V0x dX) := by
  refine Ct_of (L := [(0, .ref a0)]) (own := RX4) (nm := "<init>") rfl rfl (by decide +kernel) rfl (Nat.le_of_ble_eq_true rfl) ?_
  refine j_aload_n dX4_init_0 rfl rfl ?_
  refine j_obj kX4_3 oi_link0 oi_code dX4_init_1 rfl (by decide) (Nat.le_of_ble_eq_true rfl) ?_
  refine j_aload_n dX4_init_4 rfl rfl ?_
  refine c_new nX4_9 dX4_init_5 rfl (Nat.le_of_ble_eq_true rfl) (Nat.le_of_ble_eq_true rfl) (fun a1 => ?_)
  refine j_dup dX4_init_8 rfl rfl ?_
  refine c_callI (wr := [_]) [1] [0] kX4_11 rfl dX4_init_9 rfl (tX0_init a1) rfl rfl rfl rfl (by decide) rfl rfl (Nat.le_of_ble_eq_true rfl) (by decide) ⟨(Nat.le_of_ble_eq_true rfl), (Nat.le_of_ble_eq_true rfl)⟩ (fun r w1 h => ?_)
  obtain ⟨rfl, a2, a3, a4, a5, a6, a7, a8, a9, a10, rfl⟩ := h
  refine c_putF (k := 0) (p0 := 0) (ws' := [_, _, _, _, _, _, _, _, _, _, _]) pX4_12 rfl dX4_init_12 rfl rfl (Nat.le_of_ble_eq_true rfl) rfl rfl rfl ?_
  refine j_aload_n dX4_init_15 rfl rfl ?_
  refine c_new nX4_9 dX4_init_16 rfl (Nat.le_of_ble_eq_true rfl) (Nat.le_of_ble_eq_true rfl) (fun a11 => ?_)
  refine j_dup dX4_init_19 rfl rfl ?_
  refine c_callI (wr := [_, _, _, _, _, _, _, _, _, _, _]) [11] [0, 1, 2, 3, 4, 5, 6, 7, 8, 9, 10] kX4_11 rfl dX4_init_20 rfl (tX0_init a11) rfl rfl rfl rfl (by decide) rfl rfl (Nat.le_of_ble_eq_true rfl) (by decide) ⟨(Nat.le_of_ble_eq_true rfl), (Nat.le_of_ble_eq_true rfl)⟩ (fun r w1 h => ?_)
  obtain ⟨rfl, a12, a13, a14, a15, a16, a17, a18, a19, a20, rfl⟩ := h
  refine c_putF (k := 1) (p0 := 0) (ws' := [_, _, _, _, _, _, _, _, _, _, _, _, _, _, _, _, _, _, _, _, _]) pX4_16 rfl dX4_init_23 rfl rfl (Nat.le_of_ble_eq_true rfl) rfl rfl rfl ?_
  refine j_aload_n dX4_init_26 rfl rfl ?_
  refine c_new nX4_9 dX4_init_27 rfl (Nat.le_of_ble_eq_true rfl) (Nat.le_of_ble_eq_true rfl) (fun a21 => ?_)
  refine j_dup dX4_init_30 rfl rfl ?_
  refine c_callI (wr := [_, _, _, _, _, _, _, _, _, _, _, _, _, _, _, _, _, _, _, _, _]) [21] [0, 1, 2, 3, 4, 5, 6, 7, 8, 9, 10, 11, 12, 13, 14, 15, 16, 17, 18, 19, 20] kX4_11 rfl dX4_init_31 rfl (tX0_init a21) rfl rfl rfl rfl (by decide) rfl rfl (Nat.le_of_ble_eq_true rfl) (by decide) ⟨(Nat.le_of_ble_eq_true rfl), (Nat.le_of_ble_eq_true rfl)⟩ (fun r w1 h => ?_)
  obtain ⟨rfl, a22, a23, a24, a25, a26, a27, a28, a29, a30, rfl⟩ := h
  refine c_putF (k := 2) (p0 := 0) (ws' := [_, _, _, _, _, _, _, _, _, _, _, _, _, _, _, _, _, _, _, _, _, _, _, _, _, _, _, _, _, _, _]) pX4_19 rfl dX4_init_34 rfl rfl (Nat.le_of_ble_eq_true rfl) rfl rfl rfl ?_
  refine j_aload_n dX4_init_37 rfl rfl ?_
  refine c_new nX4_22 dX4_init_38 rfl (Nat.le_of_ble_eq_true rfl) (Nat.le_of_ble_eq_true rfl) (fun a31 => ?_)
  refine j_dup dX4_init_41 rfl rfl ?_
  refine c_callI (wr := [_, _, _, _, _, _, _, _, _, _, _, _, _, _, _, _, _, _, _, _, _, _, _, _, _, _, _, _, _, _, _]) [31] [0, 1, 2, 3, 4, 5, 6, 7, 8, 9, 10, 11, 12, 13, 14, 15, 16, 17, 18, 19, 20, 21, 22, 23, 24, 25, 26, 27, 28, 29, 30] kX4_24 rfl dX4_init_42 rfl (tX1_init a31) rfl rfl rfl rfl (by decide) rfl rfl (Nat.le_of_ble_eq_true rfl) (by decide) ⟨(Nat.le_of_ble_eq_true rfl), (Nat.le_of_ble_eq_true rfl)⟩ (fun r w1 h => ?_)
  obtain ⟨rfl, a32, a33, a34, a35, rfl⟩ := h
  refine c_putF (k := 3) (p0 := 0) (ws' := [_, _, _, _, _, _, _, _, _, _, _, _, _, _, _, _, _, _, _, _, _, _, _, _, _, _, _, _, _, _, _, _, _, _, _, _]) pX4_25 rfl dX4_init_45 rfl rfl (Nat.le_of_ble_eq_true rfl) rfl rfl rfl ?_
  refine j_aload_n dX4_init_48 rfl rfl ?_
  refine c_new nX4_29 dX4_init_49 rfl (Nat.le_of_ble_eq_true rfl) (Nat.le_of_ble_eq_true rfl) (fun a36 => ?_)
  refine j_dup dX4_init_52 rfl rfl ?_
  refine c_callI (wr := [_, _, _, _, _, _, _, _, _, _, _, _, _, _, _, _, _, _, _, _, _, _, _, _, _, _, _, _, _, _, _, _, _, _, _, _]) [36] [0, 1, 2, 3, 4, 5, 6, 7, 8, 9, 10, 11, 12, 13, 14, 15, 16, 17, 18, 19, 20, 21, 22, 23, 24, 25, 26, 27, 28, 29, 30, 31, 32, 33, 34, 35] kX4_31 rfl dX4_init_53 rfl (tX3_init a36) rfl rfl rfl rfl (by decide) rfl rfl (Nat.le_of_ble_eq_true rfl) (by decide) ⟨(Nat.le_of_ble_eq_true rfl), (Nat.le_of_ble_eq_true rfl)⟩ (fun r w1 h => ?_)
  obtain ⟨rfl, a37, rfl⟩ := h
  refine c_putF (k := 4) (p0 := 0) (ws' := [_, _, _, _, _, _, _, _, _, _, _, _, _, _, _, _, _, _, _, _, _, _, _, _, _, _, _, _, _, _, _, _, _, _, _, _, _, _]) pX4_32 rfl dX4_init_56 rfl rfl (Nat.le_of_ble_eq_true rfl) rfl rfl rfl ?_
  refine j_aload_n dX4_init_59 rfl rfl ?_
  refine j_iconst (v := 4) dX4_init_60 rfl (by decide) ?_
  refine c_newq (N := 4) qX4_36 dX4_init_61 rfl (by decide) (by decide) (Nat.le_of_ble_eq_true rfl) (Nat.le_of_ble_eq_true rfl) (Nat.le_of_ble_eq_true rfl) (fun a38 => ?_)
  refine c_putF (k := 5) (p0 := 0) (ws' := [_, _, _, _, _, _, _, _, _, _, _, _, _, _, _, _, _, _, _, _, _, _, _, _, _, _, _, _, _, _, _, _, _, _, _, _, _, _, _]) pX4_38 rfl dX4_init_64 rfl rfl (Nat.le_of_ble_eq_true rfl) rfl rfl rfl ?_
  refine j_iconst (v := 0) dX4_init_67 rfl (by decide) ?_
  refine j_istore_n (i := 1) (L' := [(1, _), (0, _)]) dX4_init_68 rfl rfl (by decide) rfl ?_
  refine j_iload_n dX4_init_69 rfl rfl ?_
  refine j_iconst (v := 4) dX4_init_70 rfl (by decide) ?_
  refine j_icmp_ge (tgt := 93) dX4_init_71 rfl (by decide) (fun c => absurd c (by decide)) (fun c => ?_)
  refine j_aload_n dX4_init_74 rfl rfl ?_
  refine j_get (k := 5) (p0 := 0) fX4_38 dX4_init_75 rfl rfl rfl ?_
  refine j_iload_n dX4_init_78 rfl rfl ?_
  refine c_new nX4_36 dX4_init_79 rfl (Nat.le_of_ble_eq_true rfl) (Nat.le_of_ble_eq_true rfl) (fun a39 => ?_)
  refine j_dup dX4_init_82 rfl rfl ?_
  refine c_callI (wr := [_, _, _, _, _, _, _, _, _, _, _, _, _, _, _, _, _, _, _, _, _, _, _, _, _, _, _, _, _, _, _, _, _, _, _, _, _, _, _]) [39] [0, 1, 2, 3, 4, 5, 6, 7, 8, 9, 10, 11, 12, 13, 14, 15, 16, 17, 18, 19, 20, 21, 22, 23, 24, 25, 26, 27, 28, 29, 30, 31, 32, 33, 34, 35, 36, 37, 38] kX4_42 rfl dX4_init_83 rfl (tX2_init a39) rfl rfl rfl rfl (by decide) rfl rfl (Nat.le_of_ble_eq_true rfl) (by decide) ⟨(Nat.le_of_ble_eq_true rfl), (Nat.le_of_ble_eq_true rfl)⟩ (fun r w1 h => ?_)
  obtain ⟨rfl, a40, rfl⟩ := h
  refine c_aast (k := 0) (p0 := 38) (qk := 39) (ws' := [_, _, _, _, _, _, _, _, _, _, _, _, _, _, _, _, _, _, _, _, _, _, _, _, _, _, _, _, _, _, _, _, _, _, _, _, _, _, _, _, _]) (by decide) rfl rfl dX4_init_86 rfl rfl rfl (jin_vp (by decide)) rfl ?_
  refine j_iinc (v := 1) (L' := [(1, _), (0, _)]) dX4_init_87 rfl rfl (by decide) (by decide) rfl ?_
  refine j_goto (tgt := 69) dX4_init_90 (by decide) ?_
  refine j_iload_n dX4_init_69 rfl rfl ?_
  refine j_iconst (v := 4) dX4_init_70 rfl (by decide) ?_
  refine j_icmp_ge (tgt := 93) dX4_init_71 rfl (by decide) (fun c => absurd c (by decide)) (fun c => ?_)
  refine j_aload_n dX4_init_74 rfl rfl ?_
  refine j_get (k := 5) (p0 := 0) fX4_38 dX4_init_75 rfl rfl rfl ?_
  refine j_iload_n dX4_init_78 rfl rfl ?_
  refine c_new nX4_36 dX4_init_79 rfl (Nat.le_of_ble_eq_true rfl) (Nat.le_of_ble_eq_true rfl) (fun a41 => ?_)
  refine j_dup dX4_init_82 rfl rfl ?_
  refine c_callI (wr := [_, _, _, _, _, _, _, _, _, _, _, _, _, _, _, _, _, _, _, _, _, _, _, _, _, _, _, _, _, _, _, _, _, _, _, _, _, _, _, _, _]) [41] [0, 1, 2, 3, 4, 5, 6, 7, 8, 9, 10, 11, 12, 13, 14, 15, 16, 17, 18, 19, 20, 21, 22, 23, 24, 25, 26, 27, 28, 29, 30, 31, 32, 33, 34, 35, 36, 37, 38, 39, 40] kX4_42 rfl dX4_init_83 rfl (tX2_init a41) rfl rfl rfl rfl (by decide) rfl rfl (Nat.le_of_ble_eq_true rfl) (by decide) ⟨(Nat.le_of_ble_eq_true rfl), (Nat.le_of_ble_eq_true rfl)⟩ (fun r w1 h => ?_)
  obtain ⟨rfl, a42, rfl⟩ := h
  refine c_aast (k := 1) (p0 := 38) (qk := 41) (ws' := [_, _, _, _, _, _, _, _, _, _, _, _, _, _, _, _, _, _, _, _, _, _, _, _, _, _, _, _, _, _, _, _, _, _, _, _, _, _, _, _, _, _, _]) (by decide) rfl rfl dX4_init_86 rfl rfl rfl (jin_vp (by decide)) rfl ?_
  refine j_iinc (v := 2) (L' := [(1, _), (0, _)]) dX4_init_87 rfl rfl (by decide) (by decide) rfl ?_
  refine j_goto (tgt := 69) dX4_init_90 (by decide) ?_
  refine j_iload_n dX4_init_69 rfl rfl ?_
  refine j_iconst (v := 4) dX4_init_70 rfl (by decide) ?_
  refine j_icmp_ge (tgt := 93) dX4_init_71 rfl (by decide) (fun c => absurd c (by decide)) (fun c => ?_)
  refine j_aload_n dX4_init_74 rfl rfl ?_
  refine j_get (k := 5) (p0 := 0) fX4_38 dX4_init_75 rfl rfl rfl ?_
  refine j_iload_n dX4_init_78 rfl rfl ?_
  refine c_new nX4_36 dX4_init_79 rfl (Nat.le_of_ble_eq_true rfl) (Nat.le_of_ble_eq_true rfl) (fun a43 => ?_)
  refine j_dup dX4_init_82 rfl rfl ?_
  refine c_callI (wr := [_, _, _, _, _, _, _, _, _, _, _, _, _, _, _, _, _, _, _, _, _, _, _, _, _, _, _, _, _, _, _, _, _, _, _, _, _, _, _, _, _, _, _]) [43] [0, 1, 2, 3, 4, 5, 6, 7, 8, 9, 10, 11, 12, 13, 14, 15, 16, 17, 18, 19, 20, 21, 22, 23, 24, 25, 26, 27, 28, 29, 30, 31, 32, 33, 34, 35, 36, 37, 38, 39, 40, 41, 42] kX4_42 rfl dX4_init_83 rfl (tX2_init a43) rfl rfl rfl rfl (by decide) rfl rfl (Nat.le_of_ble_eq_true rfl) (by decide) ⟨(Nat.le_of_ble_eq_true rfl), (Nat.le_of_ble_eq_true rfl)⟩ (fun r w1 h => ?_)
  obtain ⟨rfl, a44, rfl⟩ := h
  refine c_aast (k := 2) (p0 := 38) (qk := 43) (ws' := [_, _, _, _, _, _, _, _, _, _, _, _, _, _, _, _, _, _, _, _, _, _, _, _, _, _, _, _, _, _, _, _, _, _, _, _, _, _, _, _, _, _, _, _, _]) (by decide) rfl rfl dX4_init_86 rfl rfl rfl (jin_vp (by decide)) rfl ?_
  refine j_iinc (v := 3) (L' := [(1, _), (0, _)]) dX4_init_87 rfl rfl (by decide) (by decide) rfl ?_
  refine j_goto (tgt := 69) dX4_init_90 (by decide) ?_
  refine j_iload_n dX4_init_69 rfl rfl ?_
  refine j_iconst (v := 4) dX4_init_70 rfl (by decide) ?_
  refine j_icmp_ge (tgt := 93) dX4_init_71 rfl (by decide) (fun c => absurd c (by decide)) (fun c => ?_)
  refine j_aload_n dX4_init_74 rfl rfl ?_
  refine j_get (k := 5) (p0 := 0) fX4_38 dX4_init_75 rfl rfl rfl ?_
  refine j_iload_n dX4_init_78 rfl rfl ?_
  refine c_new nX4_36 dX4_init_79 rfl (Nat.le_of_ble_eq_true rfl) (Nat.le_of_ble_eq_true rfl) (fun a45 => ?_)
  refine j_dup dX4_init_82 rfl rfl ?_
  refine c_callI (wr := [_, _, _, _, _, _, _, _, _, _, _, _, _, _, _, _, _, _, _, _, _, _, _, _, _, _, _, _, _, _, _, _, _, _, _, _, _, _, _, _, _, _, _, _, _]) [45] [0, 1, 2, 3, 4, 5, 6, 7, 8, 9, 10, 11, 12, 13, 14, 15, 16, 17, 18, 19, 20, 21, 22, 23, 24, 25, 26, 27, 28, 29, 30, 31, 32, 33, 34, 35, 36, 37, 38, 39, 40, 41, 42, 43, 44] kX4_42 rfl dX4_init_83 rfl (tX2_init a45) rfl rfl rfl rfl (by decide) rfl rfl (Nat.le_of_ble_eq_true rfl) (by decide) ⟨(Nat.le_of_ble_eq_true rfl), (Nat.le_of_ble_eq_true rfl)⟩ (fun r w1 h => ?_)
  obtain ⟨rfl, a46, rfl⟩ := h
  refine c_aast (k := 3) (p0 := 38) (qk := 45) (ws' := [_, _, _, _, _, _, _, _, _, _, _, _, _, _, _, _, _, _, _, _, _, _, _, _, _, _, _, _, _, _, _, _, _, _, _, _, _, _, _, _, _, _, _, _, _, _, _]) (by decide) rfl rfl dX4_init_86 rfl rfl rfl (jin_vp (by decide)) rfl ?_
  refine j_iinc (v := 4) (L' := [(1, _), (0, _)]) dX4_init_87 rfl rfl (by decide) (by decide) rfl ?_
  refine j_goto (tgt := 69) dX4_init_90 (by decide) ?_
  refine j_iload_n dX4_init_69 rfl rfl ?_
  refine j_iconst (v := 4) dX4_init_70 rfl (by decide) ?_
  refine j_icmp_ge (tgt := 93) dX4_init_71 rfl (by decide) (fun c => ?_) (fun c => absurd (by decide) c)
  refine j_aload_n dX4_init_93 rfl rfl ?_
  refine j_bipush (v := 7) dX4_init_94 rfl (by decide) ?_
  refine c_newi (N := 7) ac_int dX4_init_96 rfl (by decide) (by decide) (Nat.le_of_ble_eq_true rfl) (Nat.le_of_ble_eq_true rfl) (Nat.le_of_ble_eq_true rfl) (fun a47 => ?_)
  refine c_putF (k := 6) (p0 := 0) (ws' := [_, _, _, _, _, _, _, _, _, _, _, _, _, _, _, _, _, _, _, _, _, _, _, _, _, _, _, _, _, _, _, _, _, _, _, _, _, _, _, _, _, _, _, _, _, _, _, _]) pX4_43 rfl dX4_init_98 rfl rfl (Nat.le_of_ble_eq_true rfl) rfl rfl rfl ?_
  refine j_aload_n dX4_init_101 rfl rfl ?_
  refine j_iconst (v := 0) dX4_init_102 rfl (by decide) ?_
  refine c_put (k := 7) (p0 := 0) (ws' := [_, _, _, _, _, _, _, _, _, _, _, _, _, _, _, _, _, _, _, _, _, _, _, _, _, _, _, _, _, _, _, _, _, _, _, _, _, _, _, _, _, _, _, _, _, _, _, _]) fX4_47 dX4_init_103 rfl rfl (Nat.le_of_ble_eq_true rfl) (by decide) (by decide) rfl ?_
  refine c_re (ws' := jw Z (fun j => [a0, a1, a2, a3, a4, a5, a6, a7, a8, a9, a10, a11, a12, a13, a14, a15, a16, a17, a18, a19, a20, a21, a22, a23, a24, a25, a26, a27, a28, a29, a30, a31, a32, a33, a34, a35, a36, a37, a38, a39, a40, a41, a42, a43, a44, a45, a46, a47].getD j 0) V0x dX) (fun H h => ?_) (fun A h => ?_) ?_
  · exact (c_cell (k := 38) (e' := (4, .inr (.inr (.inr (.inr (fun i => some ((fun j => [a0, a1, a2, a3, a4, a5, a6, a7, a8, a9, a10, a11, a12, a13, a14, a15, a16, a17, a18, a19, a20, a21, a22, a23, a24, a25, a26, a27, a28, a29, a30, a31, a32, a33, a34, a35, a36, a37, a38, a39, a40, a41, a42, a43, a44, a45, a46, a47].getD j 0) (39 + 2 * i)))))))) rfl (c_q4 _ (fun j hj => by rcases (show j = 0 ∨ j = 1 ∨ j = 2 ∨ j = 3 by omega) with rfl | rfl | rfl | rfl <;> rfl))).1 H h
  · exact (c_cell (D := Z.1) (cl := vwCl) (k := 38) (e' := (4, .inr (.inr (.inr (.inr (fun i => some ((fun j => [a0, a1, a2, a3, a4, a5, a6, a7, a8, a9, a10, a11, a12, a13, a14, a15, a16, a17, a18, a19, a20, a21, a22, a23, a24, a25, a26, a27, a28, a29, a30, a31, a32, a33, a34, a35, a36, a37, a38, a39, a40, a41, a42, a43, a44, a45, a46, a47].getD j 0) (39 + 2 * i)))))))) rfl (c_q4 _ (fun j hj => by rcases (show j = 0 ∨ j = 1 ∨ j = 2 ∨ j = 3 by omega) with rfl | rfl | rfl | rfl <;> rfl))).2 A h
  exact j_return dX4_init_106 rfl ⟨(Nat.le_of_ble_eq_true rfl), (Nat.le_of_ble_eq_true rfl)⟩ ⟨rfl, (fun j => [a0, a1, a2, a3, a4, a5, a6, a7, a8, a9, a10, a11, a12, a13, a14, a15, a16, a17, a18, a19, a20, a21, a22, a23, a24, a25, a26, a27, a28, a29, a30, a31, a32, a33, a34, a35, a36, a37, a38, a39, a40, a41, a42, a43, a44, a45, a46, a47].getD j 0), rfl, rfl⟩
def V0m : jMem := (fun j => match j with
  | 1 => (upd (upd (upd (fun _ => 0) 4 9) 5 150) 7 1)
  | 6 => (upd (upd (upd (upd (fun _ => 0) 0 (-1)) 1 (-1)) 2 (-1)) 3 (-1))
  | 11 => (upd (upd (upd (upd (upd (upd (upd (upd (upd (upd (upd (upd (upd (upd (upd (upd (upd (upd (upd (upd (upd (upd (upd (upd (upd (upd (upd (upd (upd (upd (upd (upd (upd (upd (upd (upd (upd (upd (upd (upd (upd (upd (upd (upd (upd (upd (upd (upd (upd (upd (upd (upd (upd (upd (upd (upd (upd (upd (upd (upd (upd (upd (upd (upd (upd (upd (upd (upd (upd (upd (upd (upd (upd (upd (upd (upd (upd (upd (upd (upd (upd (upd (upd (fun _ => 0) 0 111) 1 119) 2 110) 3 101) 4 114) 5 0) 6 107) 7 101) 8 101) 9 110) 10 0) 11 115) 12 116) 13 117) 14 98) 15 98) 16 111) 17 114) 18 110) 19 0) 20 116) 21 97) 22 108) 23 107) 24 101) 25 114) 26 0) 27 108) 28 111) 29 114) 30 100) 31 0) 32 98) 33 114) 34 111) 35 116) 36 104) 37 101) 38 114) 39 0) 40 122) 41 101) 42 97) 43 108) 44 0) 45 99) 46 97) 47 108) 48 109) 49 0) 50 108) 51 97) 52 119) 53 0) 54 112) 55 111) 56 119) 57 101) 58 114) 59 0) 60 115) 61 116) 62 114) 63 105) 64 112) 65 0) 66 119) 67 97) 68 114) 69 121) 70 0) 71 116) 72 101) 73 108) 74 108) 75 115) 76 0) 77 114) 78 111) 79 117) 80 110) 81 100) 82 0)
  | _ => (fun _ => 0), fun _ _ => 0)
set_option maxHeartbeats 16000000 in
set_option maxRecDepth 100000 in
theorem tX5_init {l : Launch} {Z : jZ} (a0 : Nat) : Ct l Z yX5_init cX5_init 1 none 1 11 1777 [.ref a0] [(a0, .inr (5, [.null, .null, .null, .long 0, .long 0, .int 0, .null, .null, .int 0, .null, .null, .null, .null, .int 0, .null, .int 0, .int 0, .int 0, .int 0, .int 0, .int 0, .null]))] (fun r w => r = none ∧ ∃ q : Nat → Nat, q 0 = a0 ∧ w = jw Z q V0m dM) := by
  refine Ct_of (L := [(0, .ref a0)]) (own := RX5) (nm := "<init>") rfl rfl (by decide +kernel) rfl (Nat.le_of_ble_eq_true rfl) ?_
  refine j_aload_n dX5_init_0 rfl rfl ?_
  refine j_obj kX5_1 oi_link0 oi_code dX5_init_1 rfl (by decide) (Nat.le_of_ble_eq_true rfl) ?_
  refine j_aload_n dX5_init_4 rfl rfl ?_
  refine j_bipush (v := 120) dX5_init_5 rfl (by decide) ?_
  refine c_newi (N := 120) ac_int dX5_init_7 rfl (by decide) (by decide) (Nat.le_of_ble_eq_true rfl) (Nat.le_of_ble_eq_true rfl) (Nat.le_of_ble_eq_true rfl) (fun a1 => ?_)
  refine c_putF (k := 0) (p0 := 0) (ws' := [_, _]) pX5_7 rfl dX5_init_9 rfl rfl (Nat.le_of_ble_eq_true rfl) rfl rfl rfl ?_
  refine j_aload_n dX5_init_12 rfl rfl ?_
  refine j_bipush (v := 120) dX5_init_13 rfl (by decide) ?_
  refine c_newi (N := 120) ac_int dX5_init_15 rfl (by decide) (by decide) (Nat.le_of_ble_eq_true rfl) (Nat.le_of_ble_eq_true rfl) (Nat.le_of_ble_eq_true rfl) (fun a2 => ?_)
  refine c_putF (k := 1) (p0 := 0) (ws' := [_, _, _]) pX5_13 rfl dX5_init_17 rfl rfl (Nat.le_of_ble_eq_true rfl) rfl rfl rfl ?_
  refine j_aload_n dX5_init_20 rfl rfl ?_
  refine j_bipush (v := 120) dX5_init_21 rfl (by decide) ?_
  refine c_newi (N := 120) ac_int dX5_init_23 rfl (by decide) (by decide) (Nat.le_of_ble_eq_true rfl) (Nat.le_of_ble_eq_true rfl) (Nat.le_of_ble_eq_true rfl) (fun a3 => ?_)
  refine c_putF (k := 2) (p0 := 0) (ws' := [_, _, _, _]) pX5_16 rfl dX5_init_25 rfl rfl (Nat.le_of_ble_eq_true rfl) rfl rfl rfl ?_
  refine j_aload_n dX5_init_28 rfl rfl ?_
  refine j_bipush (v := 8) dX5_init_29 rfl (by decide) ?_
  refine c_newi (N := 8) ac_int dX5_init_31 rfl (by decide) (by decide) (Nat.le_of_ble_eq_true rfl) (Nat.le_of_ble_eq_true rfl) (Nat.le_of_ble_eq_true rfl) (fun a4 => ?_)
  refine c_putF (k := 6) (p0 := 0) (ws' := [_, _, _, _, _]) pX5_19 rfl dX5_init_33 rfl rfl (Nat.le_of_ble_eq_true rfl) rfl rfl rfl ?_
  refine j_aload_n dX5_init_36 rfl rfl ?_
  refine j_bipush (v := 120) dX5_init_37 rfl (by decide) ?_
  refine c_newi (N := 120) ac_int dX5_init_39 rfl (by decide) (by decide) (Nat.le_of_ble_eq_true rfl) (Nat.le_of_ble_eq_true rfl) (Nat.le_of_ble_eq_true rfl) (fun a5 => ?_)
  refine c_putF (k := 7) (p0 := 0) (ws' := [_, _, _, _, _, _]) pX5_22 rfl dX5_init_41 rfl rfl (Nat.le_of_ble_eq_true rfl) rfl rfl rfl ?_
  refine j_aload_n dX5_init_44 rfl rfl ?_
  refine j_iconst (v := 4) dX5_init_45 rfl (by decide) ?_
  refine c_newi (N := 4) ac_int dX5_init_46 rfl (by decide) (by decide) (Nat.le_of_ble_eq_true rfl) (Nat.le_of_ble_eq_true rfl) (Nat.le_of_ble_eq_true rfl) (fun a6 => ?_)
  refine j_dup dX5_init_48 rfl rfl ?_
  refine j_iconst (v := 0) dX5_init_49 rfl (by decide) ?_
  refine j_iconst (v := -1) dX5_init_50 rfl (by decide) ?_
  refine c_iast (k := 0) (p0 := 6) (ws' := [_, _, _, _, _, _, _]) (by decide) dX5_init_51 rfl rfl (jin_vp (by decide)) rfl ?_
  refine j_dup dX5_init_52 rfl rfl ?_
  refine j_iconst (v := 1) dX5_init_53 rfl (by decide) ?_
  refine j_iconst (v := -1) dX5_init_54 rfl (by decide) ?_
  refine c_iast (k := 1) (p0 := 6) (ws' := [_, _, _, _, _, _, _]) (by decide) dX5_init_55 rfl rfl (jin_vp (by decide)) rfl ?_
  refine j_dup dX5_init_56 rfl rfl ?_
  refine j_iconst (v := 2) dX5_init_57 rfl (by decide) ?_
  refine j_iconst (v := -1) dX5_init_58 rfl (by decide) ?_
  refine c_iast (k := 2) (p0 := 6) (ws' := [_, _, _, _, _, _, _]) (by decide) dX5_init_59 rfl rfl (jin_vp (by decide)) rfl ?_
  refine j_dup dX5_init_60 rfl rfl ?_
  refine j_iconst (v := 3) dX5_init_61 rfl (by decide) ?_
  refine j_iconst (v := -1) dX5_init_62 rfl (by decide) ?_
  refine c_iast (k := 3) (p0 := 6) (ws' := [_, _, _, _, _, _, _]) (by decide) dX5_init_63 rfl rfl (jin_vp (by decide)) rfl ?_
  refine c_putF (k := 9) (p0 := 0) (ws' := [_, _, _, _, _, _, _]) pX5_25 rfl dX5_init_64 rfl rfl (Nat.le_of_ble_eq_true rfl) rfl rfl rfl ?_
  refine j_aload_n dX5_init_67 rfl rfl ?_
  refine j_iconst (v := 4) dX5_init_68 rfl (by decide) ?_
  refine c_newi (N := 4) ac_int dX5_init_69 rfl (by decide) (by decide) (Nat.le_of_ble_eq_true rfl) (Nat.le_of_ble_eq_true rfl) (Nat.le_of_ble_eq_true rfl) (fun a7 => ?_)
  refine c_putF (k := 10) (p0 := 0) (ws' := [_, _, _, _, _, _, _, _]) pX5_28 rfl dX5_init_71 rfl rfl (Nat.le_of_ble_eq_true rfl) rfl rfl rfl ?_
  refine j_aload_n dX5_init_74 rfl rfl ?_
  refine j_sipush (v := 160) dX5_init_75 rfl (by decide) ?_
  refine c_newl (N := 160) ac_long dX5_init_78 rfl (by decide) (by decide) (Nat.le_of_ble_eq_true rfl) (Nat.le_of_ble_eq_true rfl) (Nat.le_of_ble_eq_true rfl) (fun a8 => ?_)
  refine c_putF (k := 11) (p0 := 0) (ws' := [_, _, _, _, _, _, _, _, _]) pX5_31 rfl dX5_init_80 rfl rfl (Nat.le_of_ble_eq_true rfl) rfl rfl rfl ?_
  refine j_aload_n dX5_init_83 rfl rfl ?_
  refine j_bipush (v := 14) dX5_init_84 rfl (by decide) ?_
  refine c_newi (N := 14) ac_int dX5_init_86 rfl (by decide) (by decide) (Nat.le_of_ble_eq_true rfl) (Nat.le_of_ble_eq_true rfl) (Nat.le_of_ble_eq_true rfl) (fun a9 => ?_)
  refine c_putF (k := 12) (p0 := 0) (ws' := [_, _, _, _, _, _, _, _, _, _]) pX5_35 rfl dX5_init_88 rfl rfl (Nat.le_of_ble_eq_true rfl) rfl rfl rfl ?_
  refine j_aload_n dX5_init_91 rfl rfl ?_
  refine j_sipush (v := 1024) dX5_init_92 rfl (by decide) ?_
  refine c_newi (N := 1024) ac_int dX5_init_95 rfl (by decide) (by decide) (Nat.le_of_ble_eq_true rfl) (Nat.le_of_ble_eq_true rfl) (Nat.le_of_ble_eq_true rfl) (fun a10 => ?_)
  refine c_putF (k := 14) (p0 := 0) (ws' := [_, _, _, _, _, _, _, _, _, _, _]) pX5_38 rfl dX5_init_97 rfl rfl (Nat.le_of_ble_eq_true rfl) rfl rfl rfl ?_
  refine j_aload_n dX5_init_100 rfl rfl ?_
  refine j_bipush (v := 83) dX5_init_101 rfl (by decide) ?_
  refine c_newi (N := 83) ac_int dX5_init_103 rfl (by decide) (by decide) (Nat.le_of_ble_eq_true rfl) (Nat.le_of_ble_eq_true rfl) (Nat.le_of_ble_eq_true rfl) (fun a11 => ?_)
  refine j_dup dX5_init_105 rfl rfl ?_
  refine j_iconst (v := 0) dX5_init_106 rfl (by decide) ?_
  refine j_bipush (v := 111) dX5_init_107 rfl (by decide) ?_
  refine c_iast (k := 0) (p0 := 11) (ws' := [_, _, _, _, _, _, _, _, _, _, _, _]) (by decide) dX5_init_109 rfl rfl (jin_vp (by decide)) rfl ?_
  refine j_dup dX5_init_110 rfl rfl ?_
  refine j_iconst (v := 1) dX5_init_111 rfl (by decide) ?_
  refine j_bipush (v := 119) dX5_init_112 rfl (by decide) ?_
  refine c_iast (k := 1) (p0 := 11) (ws' := [_, _, _, _, _, _, _, _, _, _, _, _]) (by decide) dX5_init_114 rfl rfl (jin_vp (by decide)) rfl ?_
  refine j_dup dX5_init_115 rfl rfl ?_
  refine j_iconst (v := 2) dX5_init_116 rfl (by decide) ?_
  refine j_bipush (v := 110) dX5_init_117 rfl (by decide) ?_
  refine c_iast (k := 2) (p0 := 11) (ws' := [_, _, _, _, _, _, _, _, _, _, _, _]) (by decide) dX5_init_119 rfl rfl (jin_vp (by decide)) rfl ?_
  refine j_dup dX5_init_120 rfl rfl ?_
  refine j_iconst (v := 3) dX5_init_121 rfl (by decide) ?_
  refine j_bipush (v := 101) dX5_init_122 rfl (by decide) ?_
  refine c_iast (k := 3) (p0 := 11) (ws' := [_, _, _, _, _, _, _, _, _, _, _, _]) (by decide) dX5_init_124 rfl rfl (jin_vp (by decide)) rfl ?_
  refine j_dup dX5_init_125 rfl rfl ?_
  refine j_iconst (v := 4) dX5_init_126 rfl (by decide) ?_
  refine j_bipush (v := 114) dX5_init_127 rfl (by decide) ?_
  refine c_iast (k := 4) (p0 := 11) (ws' := [_, _, _, _, _, _, _, _, _, _, _, _]) (by decide) dX5_init_129 rfl rfl (jin_vp (by decide)) rfl ?_
  refine j_dup dX5_init_130 rfl rfl ?_
  refine j_iconst (v := 5) dX5_init_131 rfl (by decide) ?_
  refine j_iconst (v := 0) dX5_init_132 rfl (by decide) ?_
  refine c_iast (k := 5) (p0 := 11) (ws' := [_, _, _, _, _, _, _, _, _, _, _, _]) (by decide) dX5_init_133 rfl rfl (jin_vp (by decide)) rfl ?_
  refine j_dup dX5_init_134 rfl rfl ?_
  refine j_bipush (v := 6) dX5_init_135 rfl (by decide) ?_
  refine j_bipush (v := 107) dX5_init_137 rfl (by decide) ?_
  refine c_iast (k := 6) (p0 := 11) (ws' := [_, _, _, _, _, _, _, _, _, _, _, _]) (by decide) dX5_init_139 rfl rfl (jin_vp (by decide)) rfl ?_
  refine j_dup dX5_init_140 rfl rfl ?_
  refine j_bipush (v := 7) dX5_init_141 rfl (by decide) ?_
  refine j_bipush (v := 101) dX5_init_143 rfl (by decide) ?_
  refine c_iast (k := 7) (p0 := 11) (ws' := [_, _, _, _, _, _, _, _, _, _, _, _]) (by decide) dX5_init_145 rfl rfl (jin_vp (by decide)) rfl ?_
  refine j_dup dX5_init_146 rfl rfl ?_
  refine j_bipush (v := 8) dX5_init_147 rfl (by decide) ?_
  refine j_bipush (v := 101) dX5_init_149 rfl (by decide) ?_
  refine c_iast (k := 8) (p0 := 11) (ws' := [_, _, _, _, _, _, _, _, _, _, _, _]) (by decide) dX5_init_151 rfl rfl (jin_vp (by decide)) rfl ?_
  refine j_dup dX5_init_152 rfl rfl ?_
  refine j_bipush (v := 9) dX5_init_153 rfl (by decide) ?_
  refine j_bipush (v := 110) dX5_init_155 rfl (by decide) ?_
  refine c_iast (k := 9) (p0 := 11) (ws' := [_, _, _, _, _, _, _, _, _, _, _, _]) (by decide) dX5_init_157 rfl rfl (jin_vp (by decide)) rfl ?_
  refine j_dup dX5_init_158 rfl rfl ?_
  refine j_bipush (v := 10) dX5_init_159 rfl (by decide) ?_
  refine j_iconst (v := 0) dX5_init_161 rfl (by decide) ?_
  refine c_iast (k := 10) (p0 := 11) (ws' := [_, _, _, _, _, _, _, _, _, _, _, _]) (by decide) dX5_init_162 rfl rfl (jin_vp (by decide)) rfl ?_
  refine j_dup dX5_init_163 rfl rfl ?_
  refine j_bipush (v := 11) dX5_init_164 rfl (by decide) ?_
  refine j_bipush (v := 115) dX5_init_166 rfl (by decide) ?_
  refine c_iast (k := 11) (p0 := 11) (ws' := [_, _, _, _, _, _, _, _, _, _, _, _]) (by decide) dX5_init_168 rfl rfl (jin_vp (by decide)) rfl ?_
  refine j_dup dX5_init_169 rfl rfl ?_
  refine j_bipush (v := 12) dX5_init_170 rfl (by decide) ?_
  refine j_bipush (v := 116) dX5_init_172 rfl (by decide) ?_
  refine c_iast (k := 12) (p0 := 11) (ws' := [_, _, _, _, _, _, _, _, _, _, _, _]) (by decide) dX5_init_174 rfl rfl (jin_vp (by decide)) rfl ?_
  refine j_dup dX5_init_175 rfl rfl ?_
  refine j_bipush (v := 13) dX5_init_176 rfl (by decide) ?_
  refine j_bipush (v := 117) dX5_init_178 rfl (by decide) ?_
  refine c_iast (k := 13) (p0 := 11) (ws' := [_, _, _, _, _, _, _, _, _, _, _, _]) (by decide) dX5_init_180 rfl rfl (jin_vp (by decide)) rfl ?_
  refine j_dup dX5_init_181 rfl rfl ?_
  refine j_bipush (v := 14) dX5_init_182 rfl (by decide) ?_
  refine j_bipush (v := 98) dX5_init_184 rfl (by decide) ?_
  refine c_iast (k := 14) (p0 := 11) (ws' := [_, _, _, _, _, _, _, _, _, _, _, _]) (by decide) dX5_init_186 rfl rfl (jin_vp (by decide)) rfl ?_
  refine j_dup dX5_init_187 rfl rfl ?_
  refine j_bipush (v := 15) dX5_init_188 rfl (by decide) ?_
  refine j_bipush (v := 98) dX5_init_190 rfl (by decide) ?_
  refine c_iast (k := 15) (p0 := 11) (ws' := [_, _, _, _, _, _, _, _, _, _, _, _]) (by decide) dX5_init_192 rfl rfl (jin_vp (by decide)) rfl ?_
  refine j_dup dX5_init_193 rfl rfl ?_
  refine j_bipush (v := 16) dX5_init_194 rfl (by decide) ?_
  refine j_bipush (v := 111) dX5_init_196 rfl (by decide) ?_
  refine c_iast (k := 16) (p0 := 11) (ws' := [_, _, _, _, _, _, _, _, _, _, _, _]) (by decide) dX5_init_198 rfl rfl (jin_vp (by decide)) rfl ?_
  refine j_dup dX5_init_199 rfl rfl ?_
  refine j_bipush (v := 17) dX5_init_200 rfl (by decide) ?_
  refine j_bipush (v := 114) dX5_init_202 rfl (by decide) ?_
  refine c_iast (k := 17) (p0 := 11) (ws' := [_, _, _, _, _, _, _, _, _, _, _, _]) (by decide) dX5_init_204 rfl rfl (jin_vp (by decide)) rfl ?_
  refine j_dup dX5_init_205 rfl rfl ?_
  refine j_bipush (v := 18) dX5_init_206 rfl (by decide) ?_
  refine j_bipush (v := 110) dX5_init_208 rfl (by decide) ?_
  refine c_iast (k := 18) (p0 := 11) (ws' := [_, _, _, _, _, _, _, _, _, _, _, _]) (by decide) dX5_init_210 rfl rfl (jin_vp (by decide)) rfl ?_
  refine j_dup dX5_init_211 rfl rfl ?_
  refine j_bipush (v := 19) dX5_init_212 rfl (by decide) ?_
  refine j_iconst (v := 0) dX5_init_214 rfl (by decide) ?_
  refine c_iast (k := 19) (p0 := 11) (ws' := [_, _, _, _, _, _, _, _, _, _, _, _]) (by decide) dX5_init_215 rfl rfl (jin_vp (by decide)) rfl ?_
  refine j_dup dX5_init_216 rfl rfl ?_
  refine j_bipush (v := 20) dX5_init_217 rfl (by decide) ?_
  refine j_bipush (v := 116) dX5_init_219 rfl (by decide) ?_
  refine c_iast (k := 20) (p0 := 11) (ws' := [_, _, _, _, _, _, _, _, _, _, _, _]) (by decide) dX5_init_221 rfl rfl (jin_vp (by decide)) rfl ?_
  refine j_dup dX5_init_222 rfl rfl ?_
  refine j_bipush (v := 21) dX5_init_223 rfl (by decide) ?_
  refine j_bipush (v := 97) dX5_init_225 rfl (by decide) ?_
  refine c_iast (k := 21) (p0 := 11) (ws' := [_, _, _, _, _, _, _, _, _, _, _, _]) (by decide) dX5_init_227 rfl rfl (jin_vp (by decide)) rfl ?_
  refine j_dup dX5_init_228 rfl rfl ?_
  refine j_bipush (v := 22) dX5_init_229 rfl (by decide) ?_
  refine j_bipush (v := 108) dX5_init_231 rfl (by decide) ?_
  refine c_iast (k := 22) (p0 := 11) (ws' := [_, _, _, _, _, _, _, _, _, _, _, _]) (by decide) dX5_init_233 rfl rfl (jin_vp (by decide)) rfl ?_
  refine j_dup dX5_init_234 rfl rfl ?_
  refine j_bipush (v := 23) dX5_init_235 rfl (by decide) ?_
  refine j_bipush (v := 107) dX5_init_237 rfl (by decide) ?_
  refine c_iast (k := 23) (p0 := 11) (ws' := [_, _, _, _, _, _, _, _, _, _, _, _]) (by decide) dX5_init_239 rfl rfl (jin_vp (by decide)) rfl ?_
  refine j_dup dX5_init_240 rfl rfl ?_
  refine j_bipush (v := 24) dX5_init_241 rfl (by decide) ?_
  refine j_bipush (v := 101) dX5_init_243 rfl (by decide) ?_
  refine c_iast (k := 24) (p0 := 11) (ws' := [_, _, _, _, _, _, _, _, _, _, _, _]) (by decide) dX5_init_245 rfl rfl (jin_vp (by decide)) rfl ?_
  refine j_dup dX5_init_246 rfl rfl ?_
  refine j_bipush (v := 25) dX5_init_247 rfl (by decide) ?_
  refine j_bipush (v := 114) dX5_init_249 rfl (by decide) ?_
  refine c_iast (k := 25) (p0 := 11) (ws' := [_, _, _, _, _, _, _, _, _, _, _, _]) (by decide) dX5_init_251 rfl rfl (jin_vp (by decide)) rfl ?_
  refine j_dup dX5_init_252 rfl rfl ?_
  refine j_bipush (v := 26) dX5_init_253 rfl (by decide) ?_
  refine j_iconst (v := 0) dX5_init_255 rfl (by decide) ?_
  refine c_iast (k := 26) (p0 := 11) (ws' := [_, _, _, _, _, _, _, _, _, _, _, _]) (by decide) dX5_init_256 rfl rfl (jin_vp (by decide)) rfl ?_
  refine j_dup dX5_init_257 rfl rfl ?_
  refine j_bipush (v := 27) dX5_init_258 rfl (by decide) ?_
  refine j_bipush (v := 108) dX5_init_260 rfl (by decide) ?_
  refine c_iast (k := 27) (p0 := 11) (ws' := [_, _, _, _, _, _, _, _, _, _, _, _]) (by decide) dX5_init_262 rfl rfl (jin_vp (by decide)) rfl ?_
  refine j_dup dX5_init_263 rfl rfl ?_
  refine j_bipush (v := 28) dX5_init_264 rfl (by decide) ?_
  refine j_bipush (v := 111) dX5_init_266 rfl (by decide) ?_
  refine c_iast (k := 28) (p0 := 11) (ws' := [_, _, _, _, _, _, _, _, _, _, _, _]) (by decide) dX5_init_268 rfl rfl (jin_vp (by decide)) rfl ?_
  refine j_dup dX5_init_269 rfl rfl ?_
  refine j_bipush (v := 29) dX5_init_270 rfl (by decide) ?_
  refine j_bipush (v := 114) dX5_init_272 rfl (by decide) ?_
  refine c_iast (k := 29) (p0 := 11) (ws' := [_, _, _, _, _, _, _, _, _, _, _, _]) (by decide) dX5_init_274 rfl rfl (jin_vp (by decide)) rfl ?_
  refine j_dup dX5_init_275 rfl rfl ?_
  refine j_bipush (v := 30) dX5_init_276 rfl (by decide) ?_
  refine j_bipush (v := 100) dX5_init_278 rfl (by decide) ?_
  refine c_iast (k := 30) (p0 := 11) (ws' := [_, _, _, _, _, _, _, _, _, _, _, _]) (by decide) dX5_init_280 rfl rfl (jin_vp (by decide)) rfl ?_
  refine j_dup dX5_init_281 rfl rfl ?_
  refine j_bipush (v := 31) dX5_init_282 rfl (by decide) ?_
  refine j_iconst (v := 0) dX5_init_284 rfl (by decide) ?_
  refine c_iast (k := 31) (p0 := 11) (ws' := [_, _, _, _, _, _, _, _, _, _, _, _]) (by decide) dX5_init_285 rfl rfl (jin_vp (by decide)) rfl ?_
  refine j_dup dX5_init_286 rfl rfl ?_
  refine j_bipush (v := 32) dX5_init_287 rfl (by decide) ?_
  refine j_bipush (v := 98) dX5_init_289 rfl (by decide) ?_
  refine c_iast (k := 32) (p0 := 11) (ws' := [_, _, _, _, _, _, _, _, _, _, _, _]) (by decide) dX5_init_291 rfl rfl (jin_vp (by decide)) rfl ?_
  refine j_dup dX5_init_292 rfl rfl ?_
  refine j_bipush (v := 33) dX5_init_293 rfl (by decide) ?_
  refine j_bipush (v := 114) dX5_init_295 rfl (by decide) ?_
  refine c_iast (k := 33) (p0 := 11) (ws' := [_, _, _, _, _, _, _, _, _, _, _, _]) (by decide) dX5_init_297 rfl rfl (jin_vp (by decide)) rfl ?_
  refine j_dup dX5_init_298 rfl rfl ?_
  refine j_bipush (v := 34) dX5_init_299 rfl (by decide) ?_
  refine j_bipush (v := 111) dX5_init_301 rfl (by decide) ?_
  refine c_iast (k := 34) (p0 := 11) (ws' := [_, _, _, _, _, _, _, _, _, _, _, _]) (by decide) dX5_init_303 rfl rfl (jin_vp (by decide)) rfl ?_
  refine j_dup dX5_init_304 rfl rfl ?_
  refine j_bipush (v := 35) dX5_init_305 rfl (by decide) ?_
  refine j_bipush (v := 116) dX5_init_307 rfl (by decide) ?_
  refine c_iast (k := 35) (p0 := 11) (ws' := [_, _, _, _, _, _, _, _, _, _, _, _]) (by decide) dX5_init_309 rfl rfl (jin_vp (by decide)) rfl ?_
  refine j_dup dX5_init_310 rfl rfl ?_
  refine j_bipush (v := 36) dX5_init_311 rfl (by decide) ?_
  refine j_bipush (v := 104) dX5_init_313 rfl (by decide) ?_
  refine c_iast (k := 36) (p0 := 11) (ws' := [_, _, _, _, _, _, _, _, _, _, _, _]) (by decide) dX5_init_315 rfl rfl (jin_vp (by decide)) rfl ?_
  refine j_dup dX5_init_316 rfl rfl ?_
  refine j_bipush (v := 37) dX5_init_317 rfl (by decide) ?_
  refine j_bipush (v := 101) dX5_init_319 rfl (by decide) ?_
  refine c_iast (k := 37) (p0 := 11) (ws' := [_, _, _, _, _, _, _, _, _, _, _, _]) (by decide) dX5_init_321 rfl rfl (jin_vp (by decide)) rfl ?_
  refine j_dup dX5_init_322 rfl rfl ?_
  refine j_bipush (v := 38) dX5_init_323 rfl (by decide) ?_
  refine j_bipush (v := 114) dX5_init_325 rfl (by decide) ?_
  refine c_iast (k := 38) (p0 := 11) (ws' := [_, _, _, _, _, _, _, _, _, _, _, _]) (by decide) dX5_init_327 rfl rfl (jin_vp (by decide)) rfl ?_
  refine j_dup dX5_init_328 rfl rfl ?_
  refine j_bipush (v := 39) dX5_init_329 rfl (by decide) ?_
  refine j_iconst (v := 0) dX5_init_331 rfl (by decide) ?_
  refine c_iast (k := 39) (p0 := 11) (ws' := [_, _, _, _, _, _, _, _, _, _, _, _]) (by decide) dX5_init_332 rfl rfl (jin_vp (by decide)) rfl ?_
  refine j_dup dX5_init_333 rfl rfl ?_
  refine j_bipush (v := 40) dX5_init_334 rfl (by decide) ?_
  refine j_bipush (v := 122) dX5_init_336 rfl (by decide) ?_
  refine c_iast (k := 40) (p0 := 11) (ws' := [_, _, _, _, _, _, _, _, _, _, _, _]) (by decide) dX5_init_338 rfl rfl (jin_vp (by decide)) rfl ?_
  refine j_dup dX5_init_339 rfl rfl ?_
  refine j_bipush (v := 41) dX5_init_340 rfl (by decide) ?_
  refine j_bipush (v := 101) dX5_init_342 rfl (by decide) ?_
  refine c_iast (k := 41) (p0 := 11) (ws' := [_, _, _, _, _, _, _, _, _, _, _, _]) (by decide) dX5_init_344 rfl rfl (jin_vp (by decide)) rfl ?_
  refine j_dup dX5_init_345 rfl rfl ?_
  refine j_bipush (v := 42) dX5_init_346 rfl (by decide) ?_
  refine j_bipush (v := 97) dX5_init_348 rfl (by decide) ?_
  refine c_iast (k := 42) (p0 := 11) (ws' := [_, _, _, _, _, _, _, _, _, _, _, _]) (by decide) dX5_init_350 rfl rfl (jin_vp (by decide)) rfl ?_
  refine j_dup dX5_init_351 rfl rfl ?_
  refine j_bipush (v := 43) dX5_init_352 rfl (by decide) ?_
  refine j_bipush (v := 108) dX5_init_354 rfl (by decide) ?_
  refine c_iast (k := 43) (p0 := 11) (ws' := [_, _, _, _, _, _, _, _, _, _, _, _]) (by decide) dX5_init_356 rfl rfl (jin_vp (by decide)) rfl ?_
  refine j_dup dX5_init_357 rfl rfl ?_
  refine j_bipush (v := 44) dX5_init_358 rfl (by decide) ?_
  refine j_iconst (v := 0) dX5_init_360 rfl (by decide) ?_
  refine c_iast (k := 44) (p0 := 11) (ws' := [_, _, _, _, _, _, _, _, _, _, _, _]) (by decide) dX5_init_361 rfl rfl (jin_vp (by decide)) rfl ?_
  refine j_dup dX5_init_362 rfl rfl ?_
  refine j_bipush (v := 45) dX5_init_363 rfl (by decide) ?_
  refine j_bipush (v := 99) dX5_init_365 rfl (by decide) ?_
  refine c_iast (k := 45) (p0 := 11) (ws' := [_, _, _, _, _, _, _, _, _, _, _, _]) (by decide) dX5_init_367 rfl rfl (jin_vp (by decide)) rfl ?_
  refine j_dup dX5_init_368 rfl rfl ?_
  refine j_bipush (v := 46) dX5_init_369 rfl (by decide) ?_
  refine j_bipush (v := 97) dX5_init_371 rfl (by decide) ?_
  refine c_iast (k := 46) (p0 := 11) (ws' := [_, _, _, _, _, _, _, _, _, _, _, _]) (by decide) dX5_init_373 rfl rfl (jin_vp (by decide)) rfl ?_
  refine j_dup dX5_init_374 rfl rfl ?_
  refine j_bipush (v := 47) dX5_init_375 rfl (by decide) ?_
  refine j_bipush (v := 108) dX5_init_377 rfl (by decide) ?_
  refine c_iast (k := 47) (p0 := 11) (ws' := [_, _, _, _, _, _, _, _, _, _, _, _]) (by decide) dX5_init_379 rfl rfl (jin_vp (by decide)) rfl ?_
  refine j_dup dX5_init_380 rfl rfl ?_
  refine j_bipush (v := 48) dX5_init_381 rfl (by decide) ?_
  refine j_bipush (v := 109) dX5_init_383 rfl (by decide) ?_
  refine c_iast (k := 48) (p0 := 11) (ws' := [_, _, _, _, _, _, _, _, _, _, _, _]) (by decide) dX5_init_385 rfl rfl (jin_vp (by decide)) rfl ?_
  refine j_dup dX5_init_386 rfl rfl ?_
  refine j_bipush (v := 49) dX5_init_387 rfl (by decide) ?_
  refine j_iconst (v := 0) dX5_init_389 rfl (by decide) ?_
  refine c_iast (k := 49) (p0 := 11) (ws' := [_, _, _, _, _, _, _, _, _, _, _, _]) (by decide) dX5_init_390 rfl rfl (jin_vp (by decide)) rfl ?_
  refine j_dup dX5_init_391 rfl rfl ?_
  refine j_bipush (v := 50) dX5_init_392 rfl (by decide) ?_
  refine j_bipush (v := 108) dX5_init_394 rfl (by decide) ?_
  refine c_iast (k := 50) (p0 := 11) (ws' := [_, _, _, _, _, _, _, _, _, _, _, _]) (by decide) dX5_init_396 rfl rfl (jin_vp (by decide)) rfl ?_
  refine j_dup dX5_init_397 rfl rfl ?_
  refine j_bipush (v := 51) dX5_init_398 rfl (by decide) ?_
  refine j_bipush (v := 97) dX5_init_400 rfl (by decide) ?_
  refine c_iast (k := 51) (p0 := 11) (ws' := [_, _, _, _, _, _, _, _, _, _, _, _]) (by decide) dX5_init_402 rfl rfl (jin_vp (by decide)) rfl ?_
  refine j_dup dX5_init_403 rfl rfl ?_
  refine j_bipush (v := 52) dX5_init_404 rfl (by decide) ?_
  refine j_bipush (v := 119) dX5_init_406 rfl (by decide) ?_
  refine c_iast (k := 52) (p0 := 11) (ws' := [_, _, _, _, _, _, _, _, _, _, _, _]) (by decide) dX5_init_408 rfl rfl (jin_vp (by decide)) rfl ?_
  refine j_dup dX5_init_409 rfl rfl ?_
  refine j_bipush (v := 53) dX5_init_410 rfl (by decide) ?_
  refine j_iconst (v := 0) dX5_init_412 rfl (by decide) ?_
  refine c_iast (k := 53) (p0 := 11) (ws' := [_, _, _, _, _, _, _, _, _, _, _, _]) (by decide) dX5_init_413 rfl rfl (jin_vp (by decide)) rfl ?_
  refine j_dup dX5_init_414 rfl rfl ?_
  refine j_bipush (v := 54) dX5_init_415 rfl (by decide) ?_
  refine j_bipush (v := 112) dX5_init_417 rfl (by decide) ?_
  refine c_iast (k := 54) (p0 := 11) (ws' := [_, _, _, _, _, _, _, _, _, _, _, _]) (by decide) dX5_init_419 rfl rfl (jin_vp (by decide)) rfl ?_
  refine j_dup dX5_init_420 rfl rfl ?_
  refine j_bipush (v := 55) dX5_init_421 rfl (by decide) ?_
  refine j_bipush (v := 111) dX5_init_423 rfl (by decide) ?_
  refine c_iast (k := 55) (p0 := 11) (ws' := [_, _, _, _, _, _, _, _, _, _, _, _]) (by decide) dX5_init_425 rfl rfl (jin_vp (by decide)) rfl ?_
  refine j_dup dX5_init_426 rfl rfl ?_
  refine j_bipush (v := 56) dX5_init_427 rfl (by decide) ?_
  refine j_bipush (v := 119) dX5_init_429 rfl (by decide) ?_
  refine c_iast (k := 56) (p0 := 11) (ws' := [_, _, _, _, _, _, _, _, _, _, _, _]) (by decide) dX5_init_431 rfl rfl (jin_vp (by decide)) rfl ?_
  refine j_dup dX5_init_432 rfl rfl ?_
  refine j_bipush (v := 57) dX5_init_433 rfl (by decide) ?_
  refine j_bipush (v := 101) dX5_init_435 rfl (by decide) ?_
  refine c_iast (k := 57) (p0 := 11) (ws' := [_, _, _, _, _, _, _, _, _, _, _, _]) (by decide) dX5_init_437 rfl rfl (jin_vp (by decide)) rfl ?_
  refine j_dup dX5_init_438 rfl rfl ?_
  refine j_bipush (v := 58) dX5_init_439 rfl (by decide) ?_
  refine j_bipush (v := 114) dX5_init_441 rfl (by decide) ?_
  refine c_iast (k := 58) (p0 := 11) (ws' := [_, _, _, _, _, _, _, _, _, _, _, _]) (by decide) dX5_init_443 rfl rfl (jin_vp (by decide)) rfl ?_
  refine j_dup dX5_init_444 rfl rfl ?_
  refine j_bipush (v := 59) dX5_init_445 rfl (by decide) ?_
  refine j_iconst (v := 0) dX5_init_447 rfl (by decide) ?_
  refine c_iast (k := 59) (p0 := 11) (ws' := [_, _, _, _, _, _, _, _, _, _, _, _]) (by decide) dX5_init_448 rfl rfl (jin_vp (by decide)) rfl ?_
  refine j_dup dX5_init_449 rfl rfl ?_
  refine j_bipush (v := 60) dX5_init_450 rfl (by decide) ?_
  refine j_bipush (v := 115) dX5_init_452 rfl (by decide) ?_
  refine c_iast (k := 60) (p0 := 11) (ws' := [_, _, _, _, _, _, _, _, _, _, _, _]) (by decide) dX5_init_454 rfl rfl (jin_vp (by decide)) rfl ?_
  refine j_dup dX5_init_455 rfl rfl ?_
  refine j_bipush (v := 61) dX5_init_456 rfl (by decide) ?_
  refine j_bipush (v := 116) dX5_init_458 rfl (by decide) ?_
  refine c_iast (k := 61) (p0 := 11) (ws' := [_, _, _, _, _, _, _, _, _, _, _, _]) (by decide) dX5_init_460 rfl rfl (jin_vp (by decide)) rfl ?_
  refine j_dup dX5_init_461 rfl rfl ?_
  refine j_bipush (v := 62) dX5_init_462 rfl (by decide) ?_
  refine j_bipush (v := 114) dX5_init_464 rfl (by decide) ?_
  refine c_iast (k := 62) (p0 := 11) (ws' := [_, _, _, _, _, _, _, _, _, _, _, _]) (by decide) dX5_init_466 rfl rfl (jin_vp (by decide)) rfl ?_
  refine j_dup dX5_init_467 rfl rfl ?_
  refine j_bipush (v := 63) dX5_init_468 rfl (by decide) ?_
  refine j_bipush (v := 105) dX5_init_470 rfl (by decide) ?_
  refine c_iast (k := 63) (p0 := 11) (ws' := [_, _, _, _, _, _, _, _, _, _, _, _]) (by decide) dX5_init_472 rfl rfl (jin_vp (by decide)) rfl ?_
  refine j_dup dX5_init_473 rfl rfl ?_
  refine j_bipush (v := 64) dX5_init_474 rfl (by decide) ?_
  refine j_bipush (v := 112) dX5_init_476 rfl (by decide) ?_
  refine c_iast (k := 64) (p0 := 11) (ws' := [_, _, _, _, _, _, _, _, _, _, _, _]) (by decide) dX5_init_478 rfl rfl (jin_vp (by decide)) rfl ?_
  refine j_dup dX5_init_479 rfl rfl ?_
  refine j_bipush (v := 65) dX5_init_480 rfl (by decide) ?_
  refine j_iconst (v := 0) dX5_init_482 rfl (by decide) ?_
  refine c_iast (k := 65) (p0 := 11) (ws' := [_, _, _, _, _, _, _, _, _, _, _, _]) (by decide) dX5_init_483 rfl rfl (jin_vp (by decide)) rfl ?_
  refine j_dup dX5_init_484 rfl rfl ?_
  refine j_bipush (v := 66) dX5_init_485 rfl (by decide) ?_
  refine j_bipush (v := 119) dX5_init_487 rfl (by decide) ?_
  refine c_iast (k := 66) (p0 := 11) (ws' := [_, _, _, _, _, _, _, _, _, _, _, _]) (by decide) dX5_init_489 rfl rfl (jin_vp (by decide)) rfl ?_
  refine j_dup dX5_init_490 rfl rfl ?_
  refine j_bipush (v := 67) dX5_init_491 rfl (by decide) ?_
  refine j_bipush (v := 97) dX5_init_493 rfl (by decide) ?_
  refine c_iast (k := 67) (p0 := 11) (ws' := [_, _, _, _, _, _, _, _, _, _, _, _]) (by decide) dX5_init_495 rfl rfl (jin_vp (by decide)) rfl ?_
  refine j_dup dX5_init_496 rfl rfl ?_
  refine j_bipush (v := 68) dX5_init_497 rfl (by decide) ?_
  refine j_bipush (v := 114) dX5_init_499 rfl (by decide) ?_
  refine c_iast (k := 68) (p0 := 11) (ws' := [_, _, _, _, _, _, _, _, _, _, _, _]) (by decide) dX5_init_501 rfl rfl (jin_vp (by decide)) rfl ?_
  refine j_dup dX5_init_502 rfl rfl ?_
  refine j_bipush (v := 69) dX5_init_503 rfl (by decide) ?_
  refine j_bipush (v := 121) dX5_init_505 rfl (by decide) ?_
  refine c_iast (k := 69) (p0 := 11) (ws' := [_, _, _, _, _, _, _, _, _, _, _, _]) (by decide) dX5_init_507 rfl rfl (jin_vp (by decide)) rfl ?_
  refine j_dup dX5_init_508 rfl rfl ?_
  refine j_bipush (v := 70) dX5_init_509 rfl (by decide) ?_
  refine j_iconst (v := 0) dX5_init_511 rfl (by decide) ?_
  refine c_iast (k := 70) (p0 := 11) (ws' := [_, _, _, _, _, _, _, _, _, _, _, _]) (by decide) dX5_init_512 rfl rfl (jin_vp (by decide)) rfl ?_
  refine j_dup dX5_init_513 rfl rfl ?_
  refine j_bipush (v := 71) dX5_init_514 rfl (by decide) ?_
  refine j_bipush (v := 116) dX5_init_516 rfl (by decide) ?_
  refine c_iast (k := 71) (p0 := 11) (ws' := [_, _, _, _, _, _, _, _, _, _, _, _]) (by decide) dX5_init_518 rfl rfl (jin_vp (by decide)) rfl ?_
  refine j_dup dX5_init_519 rfl rfl ?_
  refine j_bipush (v := 72) dX5_init_520 rfl (by decide) ?_
  refine j_bipush (v := 101) dX5_init_522 rfl (by decide) ?_
  refine c_iast (k := 72) (p0 := 11) (ws' := [_, _, _, _, _, _, _, _, _, _, _, _]) (by decide) dX5_init_524 rfl rfl (jin_vp (by decide)) rfl ?_
  refine j_dup dX5_init_525 rfl rfl ?_
  refine j_bipush (v := 73) dX5_init_526 rfl (by decide) ?_
  refine j_bipush (v := 108) dX5_init_528 rfl (by decide) ?_
  refine c_iast (k := 73) (p0 := 11) (ws' := [_, _, _, _, _, _, _, _, _, _, _, _]) (by decide) dX5_init_530 rfl rfl (jin_vp (by decide)) rfl ?_
  refine j_dup dX5_init_531 rfl rfl ?_
  refine j_bipush (v := 74) dX5_init_532 rfl (by decide) ?_
  refine j_bipush (v := 108) dX5_init_534 rfl (by decide) ?_
  refine c_iast (k := 74) (p0 := 11) (ws' := [_, _, _, _, _, _, _, _, _, _, _, _]) (by decide) dX5_init_536 rfl rfl (jin_vp (by decide)) rfl ?_
  refine j_dup dX5_init_537 rfl rfl ?_
  refine j_bipush (v := 75) dX5_init_538 rfl (by decide) ?_
  refine j_bipush (v := 115) dX5_init_540 rfl (by decide) ?_
  refine c_iast (k := 75) (p0 := 11) (ws' := [_, _, _, _, _, _, _, _, _, _, _, _]) (by decide) dX5_init_542 rfl rfl (jin_vp (by decide)) rfl ?_
  refine j_dup dX5_init_543 rfl rfl ?_
  refine j_bipush (v := 76) dX5_init_544 rfl (by decide) ?_
  refine j_iconst (v := 0) dX5_init_546 rfl (by decide) ?_
  refine c_iast (k := 76) (p0 := 11) (ws' := [_, _, _, _, _, _, _, _, _, _, _, _]) (by decide) dX5_init_547 rfl rfl (jin_vp (by decide)) rfl ?_
  refine j_dup dX5_init_548 rfl rfl ?_
  refine j_bipush (v := 77) dX5_init_549 rfl (by decide) ?_
  refine j_bipush (v := 114) dX5_init_551 rfl (by decide) ?_
  refine c_iast (k := 77) (p0 := 11) (ws' := [_, _, _, _, _, _, _, _, _, _, _, _]) (by decide) dX5_init_553 rfl rfl (jin_vp (by decide)) rfl ?_
  refine j_dup dX5_init_554 rfl rfl ?_
  refine j_bipush (v := 78) dX5_init_555 rfl (by decide) ?_
  refine j_bipush (v := 111) dX5_init_557 rfl (by decide) ?_
  refine c_iast (k := 78) (p0 := 11) (ws' := [_, _, _, _, _, _, _, _, _, _, _, _]) (by decide) dX5_init_559 rfl rfl (jin_vp (by decide)) rfl ?_
  refine j_dup dX5_init_560 rfl rfl ?_
  refine j_bipush (v := 79) dX5_init_561 rfl (by decide) ?_
  refine j_bipush (v := 117) dX5_init_563 rfl (by decide) ?_
  refine c_iast (k := 79) (p0 := 11) (ws' := [_, _, _, _, _, _, _, _, _, _, _, _]) (by decide) dX5_init_565 rfl rfl (jin_vp (by decide)) rfl ?_
  refine j_dup dX5_init_566 rfl rfl ?_
  refine j_bipush (v := 80) dX5_init_567 rfl (by decide) ?_
  refine j_bipush (v := 110) dX5_init_569 rfl (by decide) ?_
  refine c_iast (k := 80) (p0 := 11) (ws' := [_, _, _, _, _, _, _, _, _, _, _, _]) (by decide) dX5_init_571 rfl rfl (jin_vp (by decide)) rfl ?_
  refine j_dup dX5_init_572 rfl rfl ?_
  refine j_bipush (v := 81) dX5_init_573 rfl (by decide) ?_
  refine j_bipush (v := 100) dX5_init_575 rfl (by decide) ?_
  refine c_iast (k := 81) (p0 := 11) (ws' := [_, _, _, _, _, _, _, _, _, _, _, _]) (by decide) dX5_init_577 rfl rfl (jin_vp (by decide)) rfl ?_
  refine j_dup dX5_init_578 rfl rfl ?_
  refine j_bipush (v := 82) dX5_init_579 rfl (by decide) ?_
  refine j_iconst (v := 0) dX5_init_581 rfl (by decide) ?_
  refine c_iast (k := 82) (p0 := 11) (ws' := [_, _, _, _, _, _, _, _, _, _, _, _]) (by decide) dX5_init_582 rfl rfl (jin_vp (by decide)) rfl ?_
  refine c_putF (k := 21) (p0 := 0) (ws' := [_, _, _, _, _, _, _, _, _, _, _, _]) pX5_41 rfl dX5_init_583 rfl rfl (Nat.le_of_ble_eq_true rfl) rfl rfl rfl ?_
  refine j_aload_n dX5_init_586 rfl rfl ?_
  refine j_get (k := 0) (p0 := 0) fX5_7 dX5_init_587 rfl rfl rfl ?_
  refine j_iconst (v := 4) dX5_init_590 rfl (by decide) ?_
  refine j_bipush (v := 9) dX5_init_591 rfl (by decide) ?_
  refine c_iast (k := 4) (p0 := 1) (ws' := [_, _, _, _, _, _, _, _, _, _, _, _]) (by decide) dX5_init_593 rfl rfl (jin_vp (by decide)) rfl ?_
  refine j_aload_n dX5_init_594 rfl rfl ?_
  refine j_get (k := 0) (p0 := 0) fX5_7 dX5_init_595 rfl rfl rfl ?_
  refine j_iconst (v := 5) dX5_init_598 rfl (by decide) ?_
  refine j_sipush (v := 150) dX5_init_599 rfl (by decide) ?_
  refine c_iast (k := 5) (p0 := 1) (ws' := [_, _, _, _, _, _, _, _, _, _, _, _]) (by decide) dX5_init_602 rfl rfl (jin_vp (by decide)) rfl ?_
  refine j_aload_n dX5_init_603 rfl rfl ?_
  refine j_get (k := 0) (p0 := 0) fX5_7 dX5_init_604 rfl rfl rfl ?_
  refine j_bipush (v := 7) dX5_init_607 rfl (by decide) ?_
  refine j_iconst (v := 1) dX5_init_609 rfl (by decide) ?_
  refine c_iast (k := 7) (p0 := 1) (ws' := [_, _, _, _, _, _, _, _, _, _, _, _]) (by decide) dX5_init_610 rfl rfl (jin_vp (by decide)) rfl ?_
  exact j_return dX5_init_611 rfl ⟨(Nat.le_of_ble_eq_true rfl), (Nat.le_of_ble_eq_true rfl)⟩ ⟨rfl, (fun j => [a0, a1, a2, a3, a4, a5, a6, a7, a8, a9, a10, a11].getD j 0), rfl, rfl⟩
