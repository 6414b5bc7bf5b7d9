abbrev pJm (κ : Nat → ClassId) (q : Nat → Nat) (r_tape : Nat) (r_teller : Nat) (r_balance : Nat) (r_equations : Nat) (r_images : Nat) (r_sheets : Nat) (r_frame : Nat) (r_draft : Nat) (kept : Nat → Int32) (textFault : Int32) (readFault : Int32) : va_W := [(q 0, .inr (6, [.ref r_tape, .ref r_teller, .ref r_balance, .ref r_equations, .ref r_images, .ref (q 1), .ref r_sheets, .ref r_frame, .ref r_draft, .int textFault, .int readFault])), (q 1, .inl (κ 1, 2, .inl kept))]
theorem hd_X1_write : yX1_write.cls = RX1 ∧ yX1_write.cls ≠ "java/lang/invoke/MethodHandle" ∧ yX1_write.cls ≠ "java/lang/invoke/VarHandle" ∧ (parseMethodDescriptor yX1_write.desc).map (fun d => d.parameters.length) = some 1 := by decide +kernel
theorem cv_RX1_20 : cv_ RX1 20 yX1_write RX1 cX1_write 6 none 1 := ⟨uw_3 (List.mem_of_getElem? (i := 25) rfl) rfl, uw_3 (List.mem_of_getElem? (i := 27) rfl) rfl, uw_0 (List.mem_of_getElem? (i := 13) rfl) rfl, uw_1 (List.mem_of_getElem? (i := 5) rfl) rfl, uw_3 (List.mem_of_getElem? (i := 28) rfl) rfl, hd_X1_write⟩
theorem hd_X1_numerator : yX1_numerator.cls = RX1 ∧ yX1_numerator.cls ≠ "java/lang/invoke/MethodHandle" ∧ yX1_numerator.cls ≠ "java/lang/invoke/VarHandle" ∧ (parseMethodDescriptor yX1_numerator.desc).map (fun d => d.parameters.length) = some 1 := by decide +kernel
theorem cv_RX1_41 : cv_ RX1 41 yX1_numerator RX1 cX1_numerator 2 (some .long) 1 := ⟨uw_3 (List.mem_of_getElem? (i := 46) rfl) rfl, uw_3 (List.mem_of_getElem? (i := 48) rfl) rfl, uw_0 (List.mem_of_getElem? (i := 15) rfl) rfl, uw_1 (List.mem_of_getElem? (i := 5) rfl) rfl, uw_3 (List.mem_of_getElem? (i := 49) rfl) rfl, hd_X1_numerator⟩
theorem kl_X1_51 : Cond.constantLong RX1 51 (2) ∈ uw := uw_3 (List.mem_of_getElem? (i := 50) rfl) rfl
theorem hs_J9_floorDiv_f86c9 : yJ9_floorDiv_f86c9.cls ≠ "java/lang/invoke/MethodHandle" ∧ yJ9_floorDiv_f86c9.cls ≠ "java/lang/invoke/VarHandle" ∧ (parseMethodDescriptor yJ9_floorDiv_f86c9.desc).map (fun d => d.parameters.length) = some 2 := by decide +kernel
theorem cs_X1_53 : cs_ RX1 53 yJ9_floorDiv_f86c9 cJ9_floorDiv_f86c9 6 (some .long) 2 := ⟨uw_3 (List.mem_of_getElem? (i := 51) rfl) rfl, uw_3 (List.mem_of_getElem? (i := 52) rfl) rfl, uw_1 (List.mem_of_getElem? (i := 13) rfl) rfl, uw_3 (List.mem_of_getElem? (i := 53) rfl) rfl, hs_J9_floorDiv_f86c9⟩
theorem lk_X6_20 : Cond.fieldLink RX6 20 (TX6 0).1 (TX6 0).2.1 (TX6 0).2.2.1 ∈ uw := uw_1 (List.mem_of_getElem? (i := 223) rfl) rfl
theorem lk_X6_60 : Cond.fieldLink RX6 60 (TX4 1).1 (TX4 1).2.1 (TX4 1).2.2.1 ∈ uw := uw_1 (List.mem_of_getElem? (i := 38) rfl) rfl
theorem hd_X4_append : yX4_append.cls = RX4 ∧ yX4_append.cls ≠ "java/lang/invoke/MethodHandle" ∧ yX4_append.cls ≠ "java/lang/invoke/VarHandle" ∧ (parseMethodDescriptor yX4_append.desc).map (fun d => d.parameters.length) = some 1 := by decide +kernel
theorem cv_RX6_66 : cv_ RX6 66 yX4_append RX4 cX4_append 2 none 1 := ⟨uw_2 (List.mem_of_getElem? (i := 21) rfl) rfl, uw_2 (List.mem_of_getElem? (i := 22) rfl) rfl, uw_2 (List.mem_of_getElem? (i := 23) rfl) rfl, uw_1 (List.mem_of_getElem? (i := 3) rfl) rfl, uw_2 (List.mem_of_getElem? (i := 24) rfl) rfl, hd_X4_append⟩
theorem lk_X6_77 : Cond.fieldLink RX6 77 (TX6 9).1 (TX6 9).2.1 (TX6 9).2.2.1 ∈ uw := uw_1 (List.mem_of_getElem? (i := 232) rfl) rfl
theorem lk_X6_257 : Cond.fieldLink RX6 257 (TX6 10).1 (TX6 10).2.1 (TX6 10).2.2.1 ∈ uw := uw_1 (List.mem_of_getElem? (i := 233) rfl) rfl
theorem lk_X6_38 : Cond.fieldLink RX6 38 (TX6 7).1 (TX6 7).2.1 (TX6 7).2.2.1 ∈ uw := uw_1 (List.mem_of_getElem? (i := 230) rfl) rfl
theorem lk_X6_90 : Cond.fieldLink RX6 90 (TX2 8).1 (TX2 8).2.1 (TX2 8).2.2.1 ∈ uw := uw_1 (List.mem_of_getElem? (i := 170) rfl) rfl
theorem cv_RX6_93 : cv_ RX6 93 yX2_turning RX2 cX2_turning 3 (some .int) 0 := ⟨uw_2 (List.mem_of_getElem? (i := 198) rfl) rfl, uw_2 (List.mem_of_getElem? (i := 119) rfl) rfl, uw_2 (List.mem_of_getElem? (i := 120) rfl) rfl, uw_1 (List.mem_of_getElem? (i := 6) rfl) rfl, uw_2 (List.mem_of_getElem? (i := 121) rfl) rfl, hd_X2_turning⟩
theorem lk_X6_97 : Cond.fieldLink RX6 97 (TX2 9).1 (TX2 9).2.1 (TX2 9).2.2.1 ∈ uw := uw_1 (List.mem_of_getElem? (i := 175) rfl) rfl
theorem lk_X6_100 : Cond.fieldLink RX6 100 (TX2 10).1 (TX2 10).2.1 (TX2 10).2.2.1 ∈ uw := uw_1 (List.mem_of_getElem? (i := 177) rfl) rfl
theorem lk_X6_24 : Cond.fieldLink RX6 24 (TX6 2).1 (TX6 2).2.1 (TX6 2).2.2.1 ∈ uw := uw_1 (List.mem_of_getElem? (i := 225) rfl) rfl
theorem lk_X6_103 : Cond.fieldLink RX6 103 (TX0 8).1 (TX0 8).2.1 (TX0 8).2.2.1 ∈ uw := uw_1 (List.mem_of_getElem? (i := 96) rfl) rfl
theorem hd_X0_loose : yX0_loose.cls = RX0 ∧ yX0_loose.cls ≠ "java/lang/invoke/MethodHandle" ∧ yX0_loose.cls ≠ "java/lang/invoke/VarHandle" ∧ (parseMethodDescriptor yX0_loose.desc).map (fun d => d.parameters.length) = some 1 := by decide +kernel
theorem cv_RX6_106 : cv_ RX6 106 yX0_loose RX0 cX0_loose 4 (some .int) 1 := ⟨uw_2 (List.mem_of_getElem? (i := 199) rfl) rfl, uw_2 (List.mem_of_getElem? (i := 200) rfl) rfl, uw_2 (List.mem_of_getElem? (i := 201) rfl) rfl, uw_1 (List.mem_of_getElem? (i := 4) rfl) rfl, uw_2 (List.mem_of_getElem? (i := 202) rfl) rfl, hd_X0_loose⟩
theorem hd_X0_left : yX0_left.cls = RX0 ∧ yX0_left.cls ≠ "java/lang/invoke/MethodHandle" ∧ yX0_left.cls ≠ "java/lang/invoke/VarHandle" ∧ (parseMethodDescriptor yX0_left.desc).map (fun d => d.parameters.length) = some 1 := by decide +kernel
theorem cv_RX6_110 : cv_ RX6 110 yX0_left RX0 cX0_left 4 (some .int) 1 := ⟨uw_2 (List.mem_of_getElem? (i := 211) rfl) rfl, uw_2 (List.mem_of_getElem? (i := 212) rfl) rfl, uw_2 (List.mem_of_getElem? (i := 213) rfl) rfl, uw_1 (List.mem_of_getElem? (i := 4) rfl) rfl, uw_2 (List.mem_of_getElem? (i := 214) rfl) rfl, hd_X0_left⟩
theorem lk_X6_113 : Cond.fieldLink RX6 113 (TX0 9).1 (TX0 9).2.1 (TX0 9).2.2.1 ∈ uw := uw_1 (List.mem_of_getElem? (i := 98) rfl) rfl
theorem cv_RX6_116 : cv_ RX6 116 yX2_isJoint RX2 cX2_isJoint 2 (some .boolean) 1 := ⟨uw_2 (List.mem_of_getElem? (i := 222) rfl) rfl, uw_2 (List.mem_of_getElem? (i := 163) rfl) rfl, uw_2 (List.mem_of_getElem? (i := 164) rfl) rfl, uw_1 (List.mem_of_getElem? (i := 6) rfl) rfl, uw_2 (List.mem_of_getElem? (i := 165) rfl) rfl, hd_X2_isJoint⟩
theorem lk_X6_120 : Cond.fieldLink RX6 120 (TX2 0).1 (TX2 0).2.1 (TX2 0).2.2.1 ∈ uw := uw_1 (List.mem_of_getElem? (i := 150) rfl) rfl
theorem lk_X6_123 : Cond.fieldLink RX6 123 (TX0 5).1 (TX0 5).2.1 (TX0 5).2.2.1 ∈ uw := uw_1 (List.mem_of_getElem? (i := 90) rfl) rfl
theorem lk_X6_127 : Cond.fieldLink RX6 127 (TX0 6).1 (TX0 6).2.1 (TX0 6).2.2.1 ∈ uw := uw_1 (List.mem_of_getElem? (i := 92) rfl) rfl
theorem lk_X6_130 : Cond.fieldLink RX6 130 (TX0 7).1 (TX0 7).2.1 (TX0 7).2.2.1 ∈ uw := uw_1 (List.mem_of_getElem? (i := 94) rfl) rfl
theorem cv_RX6_133 : cv_ RX6 133 yX0_isLoose RX0 cX0_isLoose 3 (some .boolean) 2 := ⟨uw_2 (List.mem_of_getElem? (i := 223) rfl) rfl, uw_2 (List.mem_of_getElem? (i := 204) rfl) rfl, uw_2 (List.mem_of_getElem? (i := 205) rfl) rfl, uw_1 (List.mem_of_getElem? (i := 4) rfl) rfl, uw_2 (List.mem_of_getElem? (i := 206) rfl) rfl, hd_X0_isLoose⟩
theorem lk_X6_138 : Cond.fieldLink RX6 138 (TX2 1).1 (TX2 1).2.1 (TX2 1).2.2.1 ∈ uw := uw_1 (List.mem_of_getElem? (i := 154) rfl) rfl
theorem lk_X6_141 : Cond.fieldLink RX6 141 (TX0 4).1 (TX0 4).2.1 (TX0 4).2.2.1 ∈ uw := uw_1 (List.mem_of_getElem? (i := 88) rfl) rfl
theorem kc_X6_137 : Cond.constant RX6 137 (2000000000) ∈ uw := uw_2 (List.mem_of_getElem? (i := 228) rfl) rfl
theorem cv_RX6_144 : cv_ RX6 144 yX2_jointOf RX2 cX2_jointOf 2 (some .int) 1 := ⟨uw_2 (List.mem_of_getElem? (i := 233) rfl) rfl, uw_2 (List.mem_of_getElem? (i := 175) rfl) rfl, uw_2 (List.mem_of_getElem? (i := 176) rfl) rfl, uw_1 (List.mem_of_getElem? (i := 6) rfl) rfl, uw_2 (List.mem_of_getElem? (i := 177) rfl) rfl, hd_X2_jointOf⟩
theorem cv_RX6_148 : cv_ RX6 148 yX2_isBeam RX2 cX2_isBeam 2 (some .boolean) 1 := ⟨uw_2 (List.mem_of_getElem? (i := 238) rfl) rfl, uw_2 (List.mem_of_getElem? (i := 167) rfl) rfl, uw_2 (List.mem_of_getElem? (i := 168) rfl) rfl, uw_1 (List.mem_of_getElem? (i := 6) rfl) rfl, uw_2 (List.mem_of_getElem? (i := 169) rfl) rfl, hd_X2_isBeam⟩
theorem lk_X6_151 : Cond.fieldLink RX6 151 (TX2 3).1 (TX2 3).2.1 (TX2 3).2.2.1 ∈ uw := uw_1 (List.mem_of_getElem? (i := 157) rfl) rfl
theorem lk_X6_154 : Cond.fieldLink RX6 154 (TX2 4).1 (TX2 4).2.1 (TX2 4).2.2.1 ∈ uw := uw_1 (List.mem_of_getElem? (i := 159) rfl) rfl
theorem cv_RX6_157 : cv_ RX6 157 yX2_stiffness RX2 cX2_stiffness 2 (some .int) 1 := ⟨uw_2 (List.mem_of_getElem? (i := 239) rfl) rfl, uw_2 (List.mem_of_getElem? (i := 179) rfl) rfl, uw_2 (List.mem_of_getElem? (i := 180) rfl) rfl, uw_1 (List.mem_of_getElem? (i := 6) rfl) rfl, uw_2 (List.mem_of_getElem? (i := 181) rfl) rfl, hd_X2_stiffness⟩
theorem hd_X2_loadsOn : yX2_loadsOn.cls = RX2 ∧ yX2_loadsOn.cls ≠ "java/lang/invoke/MethodHandle" ∧ yX2_loadsOn.cls ≠ "java/lang/invoke/VarHandle" ∧ (parseMethodDescriptor yX2_loadsOn.desc).map (fun d => d.parameters.length) = some 1 := by decide +kernel
theorem cv_RX6_160 : cv_ RX6 160 yX2_loadsOn RX2 cX2_loadsOn 4 (some .int) 1 := ⟨uw_3 (List.mem_of_getElem? (i := 0) rfl) rfl, uw_3 (List.mem_of_getElem? (i := 1) rfl) rfl, uw_3 (List.mem_of_getElem? (i := 2) rfl) rfl, uw_1 (List.mem_of_getElem? (i := 6) rfl) rfl, uw_3 (List.mem_of_getElem? (i := 3) rfl) rfl, hd_X2_loadsOn⟩
theorem hd_X2_isLoad : yX2_isLoad.cls = RX2 ∧ yX2_isLoad.cls ≠ "java/lang/invoke/MethodHandle" ∧ yX2_isLoad.cls ≠ "java/lang/invoke/VarHandle" ∧ (parseMethodDescriptor yX2_isLoad.desc).map (fun d => d.parameters.length) = some 1 := by decide +kernel
theorem cv_RX6_163 : cv_ RX6 163 yX2_isLoad RX2 cX2_isLoad 2 (some .boolean) 1 := ⟨uw_3 (List.mem_of_getElem? (i := 8) rfl) rfl, uw_3 (List.mem_of_getElem? (i := 9) rfl) rfl, uw_3 (List.mem_of_getElem? (i := 10) rfl) rfl, uw_1 (List.mem_of_getElem? (i := 6) rfl) rfl, uw_3 (List.mem_of_getElem? (i := 11) rfl) rfl, hd_X2_isLoad⟩
theorem lk_X6_166 : Cond.fieldLink RX6 166 (TX2 7).1 (TX2 7).2.1 (TX2 7).2.2.1 ∈ uw := uw_1 (List.mem_of_getElem? (i := 165) rfl) rfl
theorem lk_X6_169 : Cond.fieldLink RX6 169 (TX2 5).1 (TX2 5).2.1 (TX2 5).2.2.1 ∈ uw := uw_1 (List.mem_of_getElem? (i := 161) rfl) rfl
theorem lk_X6_172 : Cond.fieldLink RX6 172 (TX2 6).1 (TX2 6).2.1 (TX2 6).2.2.1 ∈ uw := uw_1 (List.mem_of_getElem? (i := 163) rfl) rfl
theorem hd_X2_isEnd : yX2_isEnd.cls = RX2 ∧ yX2_isEnd.cls ≠ "java/lang/invoke/MethodHandle" ∧ yX2_isEnd.cls ≠ "java/lang/invoke/VarHandle" ∧ (parseMethodDescriptor yX2_isEnd.desc).map (fun d => d.parameters.length) = some 1 := by decide +kernel
theorem cv_RX6_175 : cv_ RX6 175 yX2_isEnd RX2 cX2_isEnd 2 (some .boolean) 1 := ⟨uw_3 (List.mem_of_getElem? (i := 16) rfl) rfl, uw_3 (List.mem_of_getElem? (i := 17) rfl) rfl, uw_3 (List.mem_of_getElem? (i := 18) rfl) rfl, uw_1 (List.mem_of_getElem? (i := 6) rfl) rfl, uw_3 (List.mem_of_getElem? (i := 19) rfl) rfl, hd_X2_isEnd⟩
theorem cv_RX6_178 : cv_ RX6 178 yX2_first RX2 cX2_first 4 (some .int) 1 := ⟨uw_3 (List.mem_of_getElem? (i := 20) rfl) rfl, uw_2 (List.mem_of_getElem? (i := 183) rfl) rfl, uw_2 (List.mem_of_getElem? (i := 184) rfl) rfl, uw_1 (List.mem_of_getElem? (i := 6) rfl) rfl, uw_2 (List.mem_of_getElem? (i := 185) rfl) rfl, hd_X2_first⟩
theorem lk_X6_181 : Cond.fieldLink RX6 181 (TX0 0).1 (TX0 0).2.1 (TX0 0).2.2.1 ∈ uw := uw_1 (List.mem_of_getElem? (i := 82) rfl) rfl
theorem lk_X6_31 : Cond.fieldLink RX6 31 (TX6 3).1 (TX6 3).2.1 (TX6 3).2.2.1 ∈ uw := uw_1 (List.mem_of_getElem? (i := 226) rfl) rfl
theorem hd_X1_sure : yX1_sure.cls = RX1 ∧ yX1_sure.cls ≠ "java/lang/invoke/MethodHandle" ∧ yX1_sure.cls ≠ "java/lang/invoke/VarHandle" ∧ (parseMethodDescriptor yX1_sure.desc).map (fun d => d.parameters.length) = some 2 := by decide +kernel
theorem cv_RX6_184 : cv_ RX6 184 yX1_sure RX1 cX1_sure 12 (some .int) 2 := ⟨uw_3 (List.mem_of_getElem? (i := 21) rfl) rfl, uw_3 (List.mem_of_getElem? (i := 22) rfl) rfl, uw_3 (List.mem_of_getElem? (i := 23) rfl) rfl, uw_1 (List.mem_of_getElem? (i := 5) rfl) rfl, uw_3 (List.mem_of_getElem? (i := 24) rfl) rfl, hd_X1_sure⟩
theorem cv_RX6_188 : cv_ RX6 188 yX0_shareOut RX0 cX0_shareOut 10 none 2 := ⟨uw_3 (List.mem_of_getElem? (i := 58) rfl) rfl, uw_3 (List.mem_of_getElem? (i := 59) rfl) rfl, uw_3 (List.mem_of_getElem? (i := 60) rfl) rfl, uw_1 (List.mem_of_getElem? (i := 4) rfl) rfl, uw_3 (List.mem_of_getElem? (i := 61) rfl) rfl, hd_X0_shareOut⟩
theorem lk_X6_192 : Cond.fieldLink RX6 192 (TX0 1).1 (TX0 1).2.1 (TX0 1).2.2.1 ∈ uw := uw_1 (List.mem_of_getElem? (i := 84) rfl) rfl
theorem hd_X0_ranked : yX0_ranked.cls = RX0 ∧ yX0_ranked.cls ≠ "java/lang/invoke/MethodHandle" ∧ yX0_ranked.cls ≠ "java/lang/invoke/VarHandle" ∧ (parseMethodDescriptor yX0_ranked.desc).map (fun d => d.parameters.length) = some 2 := by decide +kernel
theorem cv_RX6_195 : cv_ RX6 195 yX0_ranked RX0 cX0_ranked 4 (some .int) 2 := ⟨uw_3 (List.mem_of_getElem? (i := 70) rfl) rfl, uw_3 (List.mem_of_getElem? (i := 71) rfl) rfl, uw_3 (List.mem_of_getElem? (i := 72) rfl) rfl, uw_1 (List.mem_of_getElem? (i := 4) rfl) rfl, uw_3 (List.mem_of_getElem? (i := 73) rfl) rfl, hd_X0_ranked⟩
theorem hs_X6_isWay : yX6_isWay.cls ≠ "java/lang/invoke/MethodHandle" ∧ yX6_isWay.cls ≠ "java/lang/invoke/VarHandle" ∧ (parseMethodDescriptor yX6_isWay.desc).map (fun d => d.parameters.length) = some 1 := by decide +kernel
theorem cs_X6_198 : cs_ RX6 198 yX6_isWay cX6_isWay 1 (some .boolean) 1 := ⟨uw_3 (List.mem_of_getElem? (i := 82) rfl) rfl, uw_3 (List.mem_of_getElem? (i := 83) rfl) rfl, uw_1 (List.mem_of_getElem? (i := 1) rfl) rfl, uw_3 (List.mem_of_getElem? (i := 84) rfl) rfl, hs_X6_isWay⟩
theorem hd_X0_chosen : yX0_chosen.cls = RX0 ∧ yX0_chosen.cls ≠ "java/lang/invoke/MethodHandle" ∧ yX0_chosen.cls ≠ "java/lang/invoke/VarHandle" ∧ (parseMethodDescriptor yX0_chosen.desc).map (fun d => d.parameters.length) = some 2 := by decide +kernel
theorem cv_RX6_201 : cv_ RX6 201 yX0_chosen RX0 cX0_chosen 3 (some .int) 2 := ⟨uw_3 (List.mem_of_getElem? (i := 85) rfl) rfl, uw_3 (List.mem_of_getElem? (i := 86) rfl) rfl, uw_3 (List.mem_of_getElem? (i := 87) rfl) rfl, uw_1 (List.mem_of_getElem? (i := 4) rfl) rfl, uw_3 (List.mem_of_getElem? (i := 88) rfl) rfl, hd_X0_chosen⟩
theorem cv_RX6_204 : cv_ RX6 204 yX0_canTurn RX0 cX0_canTurn 3 (some .boolean) 2 := ⟨uw_3 (List.mem_of_getElem? (i := 101) rfl) rfl, uw_2 (List.mem_of_getElem? (i := 208) rfl) rfl, uw_2 (List.mem_of_getElem? (i := 209) rfl) rfl, uw_1 (List.mem_of_getElem? (i := 4) rfl) rfl, uw_2 (List.mem_of_getElem? (i := 210) rfl) rfl, hd_X0_canTurn⟩
theorem hd_X0_letGo : yX0_letGo.cls = RX0 ∧ yX0_letGo.cls ≠ "java/lang/invoke/MethodHandle" ∧ yX0_letGo.cls ≠ "java/lang/invoke/VarHandle" ∧ (parseMethodDescriptor yX0_letGo.desc).map (fun d => d.parameters.length) = some 2 := by decide +kernel
theorem cv_RX6_207 : cv_ RX6 207 yX0_letGo RX0 cX0_letGo 4 none 2 := ⟨uw_3 (List.mem_of_getElem? (i := 102) rfl) rfl, uw_3 (List.mem_of_getElem? (i := 103) rfl) rfl, uw_3 (List.mem_of_getElem? (i := 104) rfl) rfl, uw_1 (List.mem_of_getElem? (i := 4) rfl) rfl, uw_3 (List.mem_of_getElem? (i := 105) rfl) rfl, hd_X0_letGo⟩
theorem hd_X0_anew : yX0_anew.cls = RX0 ∧ yX0_anew.cls ≠ "java/lang/invoke/MethodHandle" ∧ yX0_anew.cls ≠ "java/lang/invoke/VarHandle" ∧ (parseMethodDescriptor yX0_anew.desc).map (fun d => d.parameters.length) = some 1 := by decide +kernel
theorem cv_RX6_83 : cv_ RX6 83 yX0_anew RX0 cX0_anew 4 none 1 := ⟨uw_2 (List.mem_of_getElem? (i := 170) rfl) rfl, uw_2 (List.mem_of_getElem? (i := 171) rfl) rfl, uw_2 (List.mem_of_getElem? (i := 172) rfl) rfl, uw_1 (List.mem_of_getElem? (i := 4) rfl) rfl, uw_2 (List.mem_of_getElem? (i := 173) rfl) rfl, hd_X0_anew⟩
theorem hd_X6_mayCouple : yX6_mayCouple.cls = RX6 ∧ yX6_mayCouple.cls ≠ "java/lang/invoke/MethodHandle" ∧ yX6_mayCouple.cls ≠ "java/lang/invoke/VarHandle" ∧ (parseMethodDescriptor yX6_mayCouple.desc).map (fun d => d.parameters.length) = some 2 := by decide +kernel
theorem cv_RX6_210 : cv_ RX6 210 yX6_mayCouple RX6 cX6_mayCouple 3 (some .boolean) 2 := ⟨uw_3 (List.mem_of_getElem? (i := 124) rfl) rfl, uw_3 (List.mem_of_getElem? (i := 126) rfl) rfl, uw_0 (List.mem_of_getElem? (i := 21) rfl) rfl, uw_1 (List.mem_of_getElem? (i := 1) rfl) rfl, uw_3 (List.mem_of_getElem? (i := 127) rfl) rfl, hd_X6_mayCouple⟩
theorem cv_RX6_214 : cv_ RX6 214 yX2_addLoad RX2 cX2_addLoad 4 none 3 := ⟨uw_3 (List.mem_of_getElem? (i := 140) rfl) rfl, uw_2 (List.mem_of_getElem? (i := 154) rfl) rfl, uw_2 (List.mem_of_getElem? (i := 155) rfl) rfl, uw_1 (List.mem_of_getElem? (i := 6) rfl) rfl, uw_2 (List.mem_of_getElem? (i := 156) rfl) rfl, hd_X2_addLoad⟩
theorem hd_X2_removeLoad : yX2_removeLoad.cls = RX2 ∧ yX2_removeLoad.cls ≠ "java/lang/invoke/MethodHandle" ∧ yX2_removeLoad.cls ≠ "java/lang/invoke/VarHandle" ∧ (parseMethodDescriptor yX2_removeLoad.desc).map (fun d => d.parameters.length) = some 1 := by decide +kernel
theorem cv_RX6_218 : cv_ RX6 218 yX2_removeLoad RX2 cX2_removeLoad 3 none 1 := ⟨uw_3 (List.mem_of_getElem? (i := 145) rfl) rfl, uw_3 (List.mem_of_getElem? (i := 146) rfl) rfl, uw_3 (List.mem_of_getElem? (i := 147) rfl) rfl, uw_1 (List.mem_of_getElem? (i := 6) rfl) rfl, uw_3 (List.mem_of_getElem? (i := 148) rfl) rfl, hd_X2_removeLoad⟩
theorem kc_X6_221 : Cond.constant RX6 221 (1103515245) ∈ uw := uw_3 (List.mem_of_getElem? (i := 153) rfl) rfl
theorem hd_X2_drop : yX2_drop.cls = RX2 ∧ yX2_drop.cls ≠ "java/lang/invoke/MethodHandle" ∧ yX2_drop.cls ≠ "java/lang/invoke/VarHandle" ∧ (parseMethodDescriptor yX2_drop.desc).map (fun d => d.parameters.length) = some 1 := by decide +kernel
theorem cv_RX6_222 : cv_ RX6 222 yX2_drop RX2 cX2_drop 6 none 1 := ⟨uw_3 (List.mem_of_getElem? (i := 154) rfl) rfl, uw_3 (List.mem_of_getElem? (i := 155) rfl) rfl, uw_3 (List.mem_of_getElem? (i := 156) rfl) rfl, uw_1 (List.mem_of_getElem? (i := 6) rfl) rfl, uw_3 (List.mem_of_getElem? (i := 157) rfl) rfl, hd_X2_drop⟩
def FEq_sure (u_unknowns : Nat → Int32) (g_M : Nat → Nat → Int64) (f_held f_couples f_endJoints f_lengths f_stiffs f_loadBeams f_loadSizes f_loadPlaces : Nat → Int32) (f_joints f_beams f_loads a2 : Int32) : Option (Int32 × (Nat → Int32) × Int32 × (Nat → Nat → Int64)) :=
  b3_ (FEq_write u_unknowns g_M f_held f_couples f_endJoints f_lengths f_stiffs f_loadBeams f_loadSizes f_loadPlaces f_joints f_beams f_loads) fun w1 w2 w3 =>
  b1_ (FEq_determinant w3 8 w2 (-4 : Int32) (0 : Int32) (0 : Int32)) fun r6 =>
  b1_ (FFr_first f_lengths f_loadBeams f_loadSizes f_loadPlaces f_loads a2) fun r9 =>
  if 0 ≤ (lg_cmp r6 (1 : Int64)) then
    b1_ (FFr_jointOf f_endJoints a2) fun r13 =>
    b1_ (FEq_numerator w1 w2 w3 r13) fun r16 =>
    b1_ (FFr_otherEnd a2) fun r19 =>
    b1_ (FFr_jointOf f_endJoints r19) fun r22 =>
    b1_ (FEq_numerator w1 w2 w3 r22) fun r25 =>
    b1_ (FFr_stiffness f_lengths f_stiffs (a2 / (2 : Int32))) fun r28 =>
    lt_ (((r9.toInt64) * r6) + ((r28.toInt64) * (((2 : Int64) * r16) + r25))) fun v31 =>
    b1_ (FMt_floorDiv v31 r6) fun r32 =>
    some ((r32.toInt32), w1, w2, w3)
  else
    some (r9, w1, w2, w3)
set_option maxHeartbeats 4000000 in
set_option maxRecDepth 100000 in
theorem cEq_sure (l : Launch) (D : va_G) (κ : Nat → ClassId) (qu : Nat → Nat) (u_unknowns : Nat → Int32) (u_size : Int32) (qg : Nat → Nat) (g_M : Nat → Nat → Int64) (qf : Nat → Nat) (f_held f_couples f_endJoints f_lengths f_stiffs f_loadBeams f_loadSizes f_loadPlaces : Nat → Int32) (f_joints f_beams f_loads a2 zr : Int32) (z1 : Nat → Int32) (z2 : Int32) (z3 : Nat → Nat → Int64) (hf : FEq_sure u_unknowns g_M f_held f_couples f_endJoints f_lengths f_stiffs f_loadBeams f_loadSizes f_loadPlaces f_joints f_beams f_loads a2 = some (zr, z1, z2, z3)) : mI_ l yX1_sure (Cond.code yX1_sure cX1_sure 12 (some .int) :: uw) ({ frames := 10, cells := 0, slots := 0, locals := 309 } : Room) D (tys0 κ) [.ref (qu 0), .ref (qf 0), .int a2] (List.flatten [pEq κ qu (qg 0) u_unknowns u_size, pGr κ qg g_M, pFr κ qf f_held f_couples f_endJoints f_lengths f_stiffs f_loadBeams f_loadSizes f_loadPlaces f_joints f_beams f_loads]) nT_ zr (List.flatten [pEq κ qu (qg 0) z1 z2, pGr κ qg z3, pFr κ qf f_held f_couples f_endJoints f_lengths f_stiffs f_loadBeams f_loadSizes f_loadPlaces f_joints f_beams f_loads]) := by
  unfold FEq_sure at hf
  refine mI_of (by decide) (Nat.le_of_ble_eq_true rfl) ?_
  intro p e s m below meth c A ls H locs C0 hw hl
  obtain ⟨hx, hb, -, hml, hown, hts, -, -⟩ := id C0
  have hl : lv_has ls 12 [(0, .ref (qu 0)), (1, .ref (qf 0)), (2, .int a2)] := hl
  refine lv_aload_n hx hb dX1_sure_0 rfl (lv_at hl 0 rfl) ?_
  refine lv_aload_n hx hb dX1_sure_1 rfl (lv_at hl 1 rfl) ?_
  obtain ⟨w1, w2, w3, hk4, hf⟩ := b3_s hf
  refine rv_v (vq := (RX1, TX1, 3)) (As := [.ref (qf 0)]) (rest := []) (bs' := [pEq κ qu (qg 0) w1 w2, pGr κ qg w3, pFr κ qf f_held f_couples f_endJoints f_lengths f_stiffs f_loadBeams f_loadSizes f_loadPlaces f_joints f_beams f_loads]) C0 hw (cEq_write l D κ qu u_unknowns u_size qg g_M qf f_held f_couples f_endJoints f_lengths f_stiffs f_loadBeams f_loadSizes f_loadPlaces f_joints f_beams f_loads w1 w2 w3 hk4) cv_RX1_20 ⟨rfl, rfl, Nat.le_of_ble_eq_true rfl, Nat.le_of_ble_eq_true rfl⟩ ⟨Nat.zero_le _, Nat.zero_le _⟩ [0, 1, 2] [] [0, 1, 2] rfl rfl rfl rfl (by decide) rfl rfl rfl rfl rfl hl.1 (by simp only [List.map, List.sum_cons, List.sum_nil, Value.category]; decide) dX1_sure_2 (fun H locs hw => ?_)
  refine lv_aload_n hx hb dX1_sure_5 rfl (lv_at hl 0 rfl) ?_
  refine r_get C0 hw 0 0 (v := .ref (qg 0)) rfl rfl inX1 (by decide) lk_X1_11 rfl dX1_sure_6 ?_
  refine lv_aload_n hx hb dX1_sure_9 rfl (lv_at hl 0 rfl) ?_
  refine r_get C0 hw 0 2 (v := .int w2) rfl rfl inX1 (by decide) lk_X1_24 rfl dX1_sure_10 ?_
  refine lv_bipush (v := -4) hx hb dX1_sure_13 (by decide) ?_
  refine lv_iconst (v := 0) hx hb dX1_sure_15 (by decide) ?_
  refine lv_iconst (v := 0) hx hb dX1_sure_16 (by decide) ?_
  obtain ⟨r6, hk7, hf⟩ := b1_s hf
  refine rs_l (As := [.ref (qg 0), .int w2, .int (-4 : Int32), .int (0 : Int32), .int (0 : Int32)]) (rest := []) (bs' := [pEq κ qu (qg 0) w1 w2, pGr κ qg w3, pFr κ qf f_held f_couples f_endJoints f_lengths f_stiffs f_loadBeams f_loadSizes f_loadPlaces f_joints f_beams f_loads]) C0 hw (cEq_determinant l D κ qg w3 8 w2 (-4 : Int32) (0 : Int32) (0 : Int32) r6 hk7) cs_X1_28 ⟨rfl, rfl, Nat.le_of_ble_eq_true rfl, Nat.le_of_ble_eq_true rfl⟩ ⟨Nat.zero_le _, Nat.zero_le _⟩ [1] [0, 2] [0, 2, 1] rfl rfl rfl rfl (by decide) rfl rfl rfl hl.1 (by simp only [List.map, List.sum_cons, List.sum_nil, Value.category]; decide) dX1_sure_17 (fun H locs hw => ?_)
  refine lv_lstore_n (lv' := [(3, .long r6), (0, .ref (qu 0)), (1, .ref (qf 0)), (2, .int a2)]) hx hb dX1_sure_20 rfl hl (by decide) rfl (fun ls hl => ?_)
  refine lv_aload_n hx hb dX1_sure_21 rfl (lv_at hl 2 rfl) ?_
  refine lv_iload_n hx hb dX1_sure_22 rfl (lv_at hl 3 rfl) ?_
  obtain ⟨r9, hk10, hf⟩ := b1_s hf
  refine rv_i (vq := (RX2, TX2, 11)) (As := [.int a2]) (rest := []) (bs' := [pEq κ qu (qg 0) w1 w2, pGr κ qg w3, pFr κ qf f_held f_couples f_endJoints f_lengths f_stiffs f_loadBeams f_loadSizes f_loadPlaces f_joints f_beams f_loads]) C0 hw (cFr_first l D κ qf f_held f_couples f_endJoints f_lengths f_stiffs f_loadBeams f_loadSizes f_loadPlaces f_joints f_beams f_loads a2 r9 hk10) cv_RX1_32 ⟨rfl, rfl, Nat.le_of_ble_eq_true rfl, Nat.le_of_ble_eq_true rfl⟩ ⟨Nat.zero_le _, Nat.zero_le _⟩ [2] [0, 1] [0, 1, 2] rfl rfl rfl rfl (by decide) rfl rfl rfl rfl rfl hl.1 (by simp only [List.map, List.sum_cons, List.sum_nil, Value.category]; decide) dX1_sure_23 (fun H locs hw hn11 => ?_)
  refine lv_istore (lv' := [(5, .int r9), (3, .long r6), (0, .ref (qu 0)), (1, .ref (qf 0)), (2, .int a2)]) hx hb dX1_sure_26 hl (by decide) rfl (fun ls hl => ?_)
  refine lv_lload_n hx hb dX1_sure_28 rfl (lv_at hl 1 rfl) ?_
  refine lv_lconst (v := 1) hx hb dX1_sure_29 (by decide) ?_
  refine W.lcmp hx hb dX1_sure_30 ?_
  refine lv_if_ge (tgt := 37) hx hb dX1_sure_31 (by decide) (fun hc12 => ?_) (fun hc12 => ?_)
  · have hf := if_t hc12 hf
    refine lv_aload_n hx hb dX1_sure_37 rfl (lv_at hl 2 rfl) ?_
    refine lv_aload_n hx hb dX1_sure_38 rfl (lv_at hl 3 rfl) ?_
    refine lv_iload_n hx hb dX1_sure_39 rfl (lv_at hl 4 rfl) ?_
    obtain ⟨r13, hk14, hf⟩ := b1_s hf
    refine rv_i (vq := (RX2, TX2, 11)) (As := [.int a2]) (rest := [.ref (qu 0)]) (bs' := [pEq κ qu (qg 0) w1 w2, pGr κ qg w3, pFr κ qf f_held f_couples f_endJoints f_lengths f_stiffs f_loadBeams f_loadSizes f_loadPlaces f_joints f_beams f_loads]) C0 hw (cFr_jointOf l D κ qf f_held f_couples f_endJoints f_lengths f_stiffs f_loadBeams f_loadSizes f_loadPlaces f_joints f_beams f_loads a2 r13 hk14) cv_RX1_38 ⟨rfl, rfl, Nat.le_of_ble_eq_true rfl, Nat.le_of_ble_eq_true rfl⟩ ⟨Nat.zero_le _, Nat.zero_le _⟩ [2] [0, 1] [0, 1, 2] rfl rfl rfl rfl (by decide) rfl rfl rfl rfl rfl hl.1 (by simp only [List.map, List.sum_cons, List.sum_nil, Value.category]; decide) dX1_sure_40 (fun H locs hw hn15 => ?_)
    obtain ⟨r16, hk17, hf⟩ := b1_s hf
    refine rv_l (vq := (RX1, TX1, 3)) (As := [.int r13]) (rest := []) (bs' := [pEq κ qu (qg 0) w1 w2, pGr κ qg w3, pFr κ qf f_held f_couples f_endJoints f_lengths f_stiffs f_loadBeams f_loadSizes f_loadPlaces f_joints f_beams f_loads]) C0 hw (cEq_numerator l D κ qu w1 w2 qg w3 r13 r16 hk17) cv_RX1_41 ⟨rfl, rfl, Nat.le_of_ble_eq_true rfl, Nat.le_of_ble_eq_true rfl⟩ ⟨Nat.zero_le _, Nat.zero_le _⟩ [0, 1] [2] [1, 2, 0] rfl rfl rfl rfl (by decide) rfl rfl rfl rfl rfl hl.1 (by simp only [List.map, List.sum_cons, List.sum_nil, Value.category]; decide) dX1_sure_43 (fun H locs hw => ?_)
    refine lv_lstore (lv' := [(6, .long r16), (5, .int r9), (3, .long r6), (0, .ref (qu 0)), (1, .ref (qf 0)), (2, .int a2)]) hx hb dX1_sure_46 hl (by decide) rfl (fun ls hl => ?_)
    refine lv_aload_n hx hb dX1_sure_48 rfl (lv_at hl 3 rfl) ?_
    refine lv_aload_n hx hb dX1_sure_49 rfl (lv_at hl 4 rfl) ?_
    refine lv_aload_n hx hb dX1_sure_50 rfl (lv_at hl 4 rfl) ?_
    refine lv_iload_n hx hb dX1_sure_51 rfl (lv_at hl 5 rfl) ?_
    obtain ⟨r19, hk20, hf⟩ := b1_s hf
    refine rv_i (vq := (RX2, TX2, 11)) (As := [.int a2]) (rest := [.ref (qf 0), .ref (qu 0)]) (bs' := [pEq κ qu (qg 0) w1 w2, pGr κ qg w3, pFr κ qf f_held f_couples f_endJoints f_lengths f_stiffs f_loadBeams f_loadSizes f_loadPlaces f_joints f_beams f_loads]) C0 hw (cFr_otherEnd l D κ qf f_held f_couples f_endJoints f_lengths f_stiffs f_loadBeams f_loadSizes f_loadPlaces f_joints f_beams f_loads a2 r19 hk20) cv_RX1_45 ⟨rfl, rfl, Nat.le_of_ble_eq_true rfl, Nat.le_of_ble_eq_true rfl⟩ ⟨Nat.zero_le _, Nat.zero_le _⟩ [2] [0, 1] [0, 1, 2] rfl rfl rfl rfl (by decide) rfl rfl rfl rfl rfl hl.1 (by simp only [List.map, List.sum_cons, List.sum_nil, Value.category]; decide) dX1_sure_52 (fun H locs hw hn21 => ?_)
    obtain ⟨r22, hk23, hf⟩ := b1_s hf
    refine rv_i (vq := (RX2, TX2, 11)) (As := [.int r19]) (rest := [.ref (qu 0)]) (bs' := [pEq κ qu (qg 0) w1 w2, pGr κ qg w3, pFr κ qf f_held f_couples f_endJoints f_lengths f_stiffs f_loadBeams f_loadSizes f_loadPlaces f_joints f_beams f_loads]) C0 hw (cFr_jointOf l D κ qf f_held f_couples f_endJoints f_lengths f_stiffs f_loadBeams f_loadSizes f_loadPlaces f_joints f_beams f_loads r19 r22 hk23) cv_RX1_38 ⟨rfl, rfl, Nat.le_of_ble_eq_true rfl, Nat.le_of_ble_eq_true rfl⟩ ⟨Nat.zero_le _, Nat.zero_le _⟩ [2] [0, 1] [0, 1, 2] rfl rfl rfl rfl (by decide) rfl rfl rfl rfl rfl hl.1 (by simp only [List.map, List.sum_cons, List.sum_nil, Value.category]; decide) dX1_sure_55 (fun H locs hw hn24 => ?_)
    obtain ⟨r25, hk26, hf⟩ := b1_s hf
    refine rv_l (vq := (RX1, TX1, 3)) (As := [.int r22]) (rest := []) (bs' := [pEq κ qu (qg 0) w1 w2, pGr κ qg w3, pFr κ qf f_held f_couples f_endJoints f_lengths f_stiffs f_loadBeams f_loadSizes f_loadPlaces f_joints f_beams f_loads]) C0 hw (cEq_numerator l D κ qu w1 w2 qg w3 r22 r25 hk26) cv_RX1_41 ⟨rfl, rfl, Nat.le_of_ble_eq_true rfl, Nat.le_of_ble_eq_true rfl⟩ ⟨Nat.zero_le _, Nat.zero_le _⟩ [0, 1] [2] [1, 2, 0] rfl rfl rfl rfl (by decide) rfl rfl rfl rfl rfl hl.1 (by simp only [List.map, List.sum_cons, List.sum_nil, Value.category]; decide) dX1_sure_58 (fun H locs hw => ?_)
    refine lv_lstore (lv' := [(8, .long r25), (6, .long r16), (5, .int r9), (3, .long r6), (0, .ref (qu 0)), (1, .ref (qf 0)), (2, .int a2)]) hx hb dX1_sure_61 hl (by decide) rfl (fun ls hl => ?_)
    refine lv_iload hx hb dX1_sure_63 (lv_at hl 2 rfl) ?_
    refine lv_i2l hx hb dX1_sure_65 rfl ?_
    refine lv_lload_n hx hb dX1_sure_66 rfl (lv_at hl 3 rfl) ?_
    refine lv_lmul hx hb dX1_sure_67 ?_
    refine lv_aload_n hx hb dX1_sure_68 rfl (lv_at hl 5 rfl) ?_
    refine lv_iload_n hx hb dX1_sure_69 rfl (lv_at hl 6 rfl) ?_
    refine lv_iconst (v := 2) hx hb dX1_sure_70 (by decide) ?_
    refine lv_idiv hx hb dX1_sure_71 (by decide) ?_
    obtain ⟨r28, hk29, hf⟩ := b1_s hf
    refine rv_i (vq := (RX2, TX2, 11)) (As := [.int (a2 / (2 : Int32))]) (rest := [.long ((r9.toInt64) * r6)]) (bs' := [pEq κ qu (qg 0) w1 w2, pGr κ qg w3, pFr κ qf f_held f_couples f_endJoints f_lengths f_stiffs f_loadBeams f_loadSizes f_loadPlaces f_joints f_beams f_loads]) C0 hw (cFr_stiffness l D κ qf f_held f_couples f_endJoints f_lengths f_stiffs f_loadBeams f_loadSizes f_loadPlaces f_joints f_beams f_loads (a2 / (2 : Int32)) r28 hk29) cv_RX1_48 ⟨rfl, rfl, Nat.le_of_ble_eq_true rfl, Nat.le_of_ble_eq_true rfl⟩ ⟨Nat.zero_le _, Nat.zero_le _⟩ [2] [0, 1] [0, 1, 2] rfl rfl rfl rfl (by decide) rfl rfl rfl rfl rfl hl.1 (by simp only [List.map, List.sum_cons, List.sum_nil, Value.category]; decide) dX1_sure_72 (fun H locs hw hn30 => ?_)
    refine lv_i2l hx hb dX1_sure_75 rfl ?_
    refine lv_ldc2 (v := 2) hx hb hown (hts _ kl_X1_51) dX1_sure_76 ?_
    refine lv_lload hx hb dX1_sure_79 (lv_at hl 1 rfl) ?_
    refine lv_lmul hx hb dX1_sure_81 ?_
    refine lv_lload hx hb dX1_sure_82 (lv_at hl 0 rfl) ?_
    refine lv_ladd hx hb dX1_sure_84 ?_
    refine lv_lmul hx hb dX1_sure_85 ?_
    refine lv_ladd hx hb dX1_sure_86 ?_
    refine lv_topl (fun v31 ev31 => ?_)
    have hf := lt_s_ hf v31 ev31
    refine lv_lstore (lv' := [(10, .long v31), (8, .long r25), (6, .long r16), (5, .int r9), (3, .long r6), (0, .ref (qu 0)), (1, .ref (qf 0)), (2, .int a2)]) hx hb dX1_sure_87 hl (by decide) rfl (fun ls hl => ?_)
    refine lv_lload hx hb dX1_sure_89 (lv_at hl 0 rfl) ?_
    refine lv_lload_n hx hb dX1_sure_91 rfl (lv_at hl 4 rfl) ?_
    obtain ⟨r32, hk33, hf⟩ := b1_s hf
    refine rs_l (As := [.long v31, .long r6]) (rest := []) (bs' := [pEq κ qu (qg 0) w1 w2, pGr κ qg w3, pFr κ qf f_held f_couples f_endJoints f_lengths f_stiffs f_loadBeams f_loadSizes f_loadPlaces f_joints f_beams f_loads]) C0 hw (cMt_floorDiv l D κ v31 r6 r32 hk33) cs_X1_53 ⟨rfl, rfl, Nat.le_of_ble_eq_true rfl, Nat.le_of_ble_eq_true rfl⟩ ⟨Nat.zero_le _, Nat.zero_le _⟩ [] [0, 1, 2] [0, 1, 2] rfl rfl rfl rfl (by decide) rfl rfl rfl hl.1 (by simp only [List.map, List.sum_cons, List.sum_nil, Value.category]; decide) dX1_sure_92 (fun H locs hw => ?_)
    refine lv_l2i hx hb dX1_sure_95 rfl ?_
    obtain ⟨rfl, rfl, rfl, rfl⟩ := e4_ hf
    exact r_iret C0 hw trivial dX1_sure_96
  · have hf := if_f hc12 hf
    refine lv_iload hx hb dX1_sure_34 (lv_at hl 0 rfl) ?_
    obtain ⟨rfl, rfl, rfl, rfl⟩ := e4_ hf
    exact r_iret C0 hw trivial dX1_sure_36
def FJm_isWay (a1 : Int32) : Option (Int32) :=
  if a1 = 0 then
    some ((1 : Int32))
  else
    if a1 = (1 : Int32) then
      some ((1 : Int32))
    else
      some ((0 : Int32))
set_option maxHeartbeats 4000000 in
set_option maxRecDepth 100000 in
theorem cJm_isWay (l : Launch) (D : va_G) (κ : Nat → ClassId) (a1 zr : Int32) (hf : FJm_isWay a1 = some zr) : mI_ l yX6_isWay (Cond.code yX6_isWay cX6_isWay 1 (some .boolean) :: uw) ({ frames := 0, cells := 0, slots := 0, locals := 0 } : Room) D (tys0 κ) [.int a1] (List.flatten ([] : List va_W)) nB_ zr (List.flatten ([] : List va_W)) := by
  unfold FJm_isWay at hf
  refine mI_of (by decide) (Nat.le_of_ble_eq_true rfl) ?_
  intro p e s m below meth c A ls H locs C0 hw hl
  obtain ⟨hx, hb, -, hml, hown, hts, -, -⟩ := id C0
  have hl : lv_has ls 1 [(0, .int a1)] := hl
  refine lv_iload_n hx hb dX6_isWay_0 rfl (lv_at hl 0 rfl) ?_
  refine lv_if_eq (tgt := 9) hx hb dX6_isWay_1 (by decide) (fun hc1 => ?_) (fun hc1 => ?_)
  · have hf := if_t hc1 hf
    refine lv_iconst (v := 1) hx hb dX6_isWay_9 (by decide) ?_
    refine lv_goto (tgt := 14) hx hb dX6_isWay_10 (by decide) ?_
    obtain rfl := e1_ hf
    exact r_zret C0 hw (Or.inr rfl) dX6_isWay_14
  · have hf := if_f hc1 hf
    refine lv_iload_n hx hb dX6_isWay_4 rfl (lv_at hl 0 rfl) ?_
    refine lv_iconst (v := 1) hx hb dX6_isWay_5 (by decide) ?_
    refine lv_icmp_ne (tgt := 13) hx hb dX6_isWay_6 (by decide) (fun hc2 => ?_) (fun hc2 => ?_)
    · have hf := if_f hc2 hf
      refine lv_iconst (v := 0) hx hb dX6_isWay_13 (by decide) ?_
      obtain rfl := e1_ hf
      exact r_zret C0 hw (Or.inl rfl) dX6_isWay_14
    · have hf := if_t hc2 hf
      refine lv_iconst (v := 1) hx hb dX6_isWay_9 (by decide) ?_
      refine lv_goto (tgt := 14) hx hb dX6_isWay_10 (by decide) ?_
      obtain rfl := e1_ hf
      exact r_zret C0 hw (Or.inr rfl) dX6_isWay_14
def FJm_isImage (a1 : Int32) : Option (Int32) :=
  if a1 < 0 then
    some ((0 : Int32))
  else
    if (2 : Int32) ≤ a1 then
      some ((0 : Int32))
    else
      some ((1 : Int32))
set_option maxHeartbeats 4000000 in
set_option maxRecDepth 100000 in
theorem cJm_isImage (l : Launch) (D : va_G) (κ : Nat → ClassId) (a1 zr : Int32) (hf : FJm_isImage a1 = some zr) : mI_ l yX6_isImage (Cond.code yX6_isImage cX6_isImage 1 (some .boolean) :: uw) ({ frames := 0, cells := 0, slots := 0, locals := 0 } : Room) D (tys0 κ) [.int a1] (List.flatten ([] : List va_W)) nB_ zr (List.flatten ([] : List va_W)) := by
  unfold FJm_isImage at hf
  refine mI_of (by decide) (Nat.le_of_ble_eq_true rfl) ?_
  intro p e s m below meth c A ls H locs C0 hw hl
  obtain ⟨hx, hb, -, hml, hown, hts, -, -⟩ := id C0
  have hl : lv_has ls 1 [(0, .int a1)] := hl
  refine lv_iload_n hx hb dX6_isImage_0 rfl (lv_at hl 0 rfl) ?_
  refine lv_if_lt (tgt := 13) hx hb dX6_isImage_1 (by decide) (fun hc1 => ?_) (fun hc1 => ?_)
  · have hf := if_t hc1 hf
    refine lv_iconst (v := 0) hx hb dX6_isImage_13 (by decide) ?_
    obtain rfl := e1_ hf
    exact r_zret C0 hw (Or.inl rfl) dX6_isImage_14
  · have hf := if_f hc1 hf
    refine lv_iload_n hx hb dX6_isImage_4 rfl (lv_at hl 0 rfl) ?_
    refine lv_iconst (v := 2) hx hb dX6_isImage_5 (by decide) ?_
    refine lv_icmp_ge (tgt := 13) hx hb dX6_isImage_6 (by decide) (fun hc2 => ?_) (fun hc2 => ?_)
    · have hf := if_t hc2 hf
      refine lv_iconst (v := 0) hx hb dX6_isImage_13 (by decide) ?_
      obtain rfl := e1_ hf
      exact r_zret C0 hw (Or.inl rfl) dX6_isImage_14
    · have hf := if_f hc2 hf
      refine lv_iconst (v := 1) hx hb dX6_isImage_9 (by decide) ?_
      refine lv_goto (tgt := 14) hx hb dX6_isImage_10 (by decide) ?_
      obtain rfl := e1_ hf
      exact r_zret C0 hw (Or.inr rfl) dX6_isImage_14
def FJm_isSheet (a1 : Int32) : Option (Int32) :=
  if a1 < 0 then
    some ((0 : Int32))
  else
    if (4 : Int32) ≤ a1 then
      some ((0 : Int32))
    else
      some ((1 : Int32))
set_option maxHeartbeats 4000000 in
set_option maxRecDepth 100000 in
theorem cJm_isSheet (l : Launch) (D : va_G) (κ : Nat → ClassId) (a1 zr : Int32) (hf : FJm_isSheet a1 = some zr) : mI_ l yX6_isSheet (Cond.code yX6_isSheet cX6_isSheet 1 (some .boolean) :: uw) ({ frames := 0, cells := 0, slots := 0, locals := 0 } : Room) D (tys0 κ) [.int a1] (List.flatten ([] : List va_W)) nB_ zr (List.flatten ([] : List va_W)) := by
  unfold FJm_isSheet at hf
  refine mI_of (by decide) (Nat.le_of_ble_eq_true rfl) ?_
  intro p e s m below meth c A ls H locs C0 hw hl
  obtain ⟨hx, hb, -, hml, hown, hts, -, -⟩ := id C0
  have hl : lv_has ls 1 [(0, .int a1)] := hl
  refine lv_iload_n hx hb dX6_isSheet_0 rfl (lv_at hl 0 rfl) ?_
  refine lv_if_lt (tgt := 13) hx hb dX6_isSheet_1 (by decide) (fun hc1 => ?_) (fun hc1 => ?_)
  · have hf := if_t hc1 hf
    refine lv_iconst (v := 0) hx hb dX6_isSheet_13 (by decide) ?_
    obtain rfl := e1_ hf
    exact r_zret C0 hw (Or.inl rfl) dX6_isSheet_14
  · have hf := if_f hc1 hf
    refine lv_iload_n hx hb dX6_isSheet_4 rfl (lv_at hl 0 rfl) ?_
    refine lv_iconst (v := 4) hx hb dX6_isSheet_5 (by decide) ?_
    refine lv_icmp_ge (tgt := 13) hx hb dX6_isSheet_6 (by decide) (fun hc2 => ?_) (fun hc2 => ?_)
    · have hf := if_t hc2 hf
      refine lv_iconst (v := 0) hx hb dX6_isSheet_13 (by decide) ?_
      obtain rfl := e1_ hf
      exact r_zret C0 hw (Or.inl rfl) dX6_isSheet_14
    · have hf := if_f hc2 hf
      refine lv_iconst (v := 1) hx hb dX6_isSheet_9 (by decide) ?_
      refine lv_goto (tgt := 14) hx hb dX6_isSheet_10 (by decide) ?_
      obtain rfl := e1_ hf
      exact r_zret C0 hw (Or.inr rfl) dX6_isSheet_14
def FJm_isLane (a1 : Int32) : Option (Int32) :=
  if a1 < 0 then
    some ((0 : Int32))
  else
    if (2 : Int32) < a1 then
      some ((0 : Int32))
    else
      some ((1 : Int32))
set_option maxHeartbeats 4000000 in
set_option maxRecDepth 100000 in
theorem cJm_isLane (l : Launch) (D : va_G) (κ : Nat → ClassId) (a1 zr : Int32) (hf : FJm_isLane a1 = some zr) : mI_ l yX6_isLane (Cond.code yX6_isLane cX6_isLane 1 (some .boolean) :: uw) ({ frames := 0, cells := 0, slots := 0, locals := 0 } : Room) D (tys0 κ) [.int a1] (List.flatten ([] : List va_W)) nB_ zr (List.flatten ([] : List va_W)) := by
  unfold FJm_isLane at hf
  refine mI_of (by decide) (Nat.le_of_ble_eq_true rfl) ?_
  intro p e s m below meth c A ls H locs C0 hw hl
  obtain ⟨hx, hb, -, hml, hown, hts, -, -⟩ := id C0
  have hl : lv_has ls 1 [(0, .int a1)] := hl
  refine lv_iload_n hx hb dX6_isLane_0 rfl (lv_at hl 0 rfl) ?_
  refine lv_if_lt (tgt := 13) hx hb dX6_isLane_1 (by decide) (fun hc1 => ?_) (fun hc1 => ?_)
  · have hf := if_t hc1 hf
    refine lv_iconst (v := 0) hx hb dX6_isLane_13 (by decide) ?_
    obtain rfl := e1_ hf
    exact r_zret C0 hw (Or.inl rfl) dX6_isLane_14
  · have hf := if_f hc1 hf
    refine lv_iload_n hx hb dX6_isLane_4 rfl (lv_at hl 0 rfl) ?_
    refine lv_iconst (v := 2) hx hb dX6_isLane_5 (by decide) ?_
    refine lv_icmp_gt (tgt := 13) hx hb dX6_isLane_6 (by decide) (fun hc2 => ?_) (fun hc2 => ?_)
    · have hf := if_t hc2 hf
      refine lv_iconst (v := 0) hx hb dX6_isLane_13 (by decide) ?_
      obtain rfl := e1_ hf
      exact r_zret C0 hw (Or.inl rfl) dX6_isLane_14
    · have hf := if_f hc2 hf
      refine lv_iconst (v := 1) hx hb dX6_isLane_9 (by decide) ?_
      refine lv_goto (tgt := 14) hx hb dX6_isLane_10 (by decide) ?_
      obtain rfl := e1_ hf
      exact r_zret C0 hw (Or.inr rfl) dX6_isLane_14
def FJm_feed (p_bytes : Nat → Int32) (p_size a1 : Int32) : Option (Int32 × (Nat → Int32) × Int32) :=
  if a1 < 0 then
    some ((-1 : Int32), p_bytes, p_size)
  else
    if a1 ≤ (127 : Int32) then
      if p_size < (320 : Int32) then
        b2_ (FTa_append p_bytes p_size a1) fun w4 w5 =>
        some (w5, w4, w5)
      else
        some ((-3 : Int32), p_bytes, p_size)
    else
      some ((-1 : Int32), p_bytes, p_size)
set_option maxHeartbeats 4000000 in
set_option maxRecDepth 100000 in
theorem cJm_feed (l : Launch) (D : va_G) (κ : Nat → ClassId) (qx : Nat → Nat) (rx_teller rx_balance rx_equations rx_images rx_sheets rx_frame rx_draft : Nat) (x_kept : Nat → Int32) (x_textFault x_readFault : Int32) (qp : Nat → Nat) (p_bytes : Nat → Int32) (p_size a1 zr : Int32) (z1 : Nat → Int32) (z2 : Int32) (hf : FJm_feed p_bytes p_size a1 = some (zr, z1, z2)) : mI_ l yX6_feed (Cond.code yX6_feed cX6_feed 2 (some .int) :: uw) ({ frames := 1, cells := 0, slots := 0, locals := 21 } : Room) D (tys0 κ) [.ref (qx 0), .int a1] (List.flatten [pJm κ qx (qp 0) rx_teller rx_balance rx_equations rx_images rx_sheets rx_frame rx_draft x_kept x_textFault x_readFault, pTa κ qp p_bytes p_size]) nT_ zr (List.flatten [pJm κ qx (qp 0) rx_teller rx_balance rx_equations rx_images rx_sheets rx_frame rx_draft x_kept x_textFault x_readFault, pTa κ qp z1 z2]) := by
  unfold FJm_feed at hf
  refine mI_of (by decide) (Nat.le_of_ble_eq_true rfl) ?_
  intro p e s m below meth c A ls H locs C0 hw hl
  obtain ⟨hx, hb, -, hml, hown, hts, -, -⟩ := id C0
  have hl : lv_has ls 2 [(0, .ref (qx 0)), (1, .int a1)] := hl
  refine lv_iload_n hx hb dX6_feed_0 rfl (lv_at hl 1 rfl) ?_
  refine lv_if_lt (tgt := 10) hx hb dX6_feed_1 (by decide) (fun hc1 => ?_) (fun hc1 => ?_)
  · have hf := if_t hc1 hf
    refine lv_iconst (v := -1) hx hb dX6_feed_10 (by decide) ?_
    obtain ⟨rfl, rfl, rfl⟩ := e3_ hf
    exact r_iret C0 hw trivial dX6_feed_11
  · have hf := if_f hc1 hf
    refine lv_iload_n hx hb dX6_feed_4 rfl (lv_at hl 1 rfl) ?_
    refine lv_bipush (v := 127) hx hb dX6_feed_5 (by decide) ?_
    refine lv_icmp_le (tgt := 12) hx hb dX6_feed_7 (by decide) (fun hc2 => ?_) (fun hc2 => ?_)
    · have hf := if_t hc2 hf
      refine lv_aload_n hx hb dX6_feed_12 rfl (lv_at hl 0 rfl) ?_
      refine r_get C0 hw 0 0 (v := .ref (qp 0)) rfl rfl inX6 (by decide) lk_X6_20 rfl dX6_feed_13 ?_
      refine r_get C0 hw 2 1 (v := .int p_size) rfl rfl inX4 (by decide) lk_X6_60 rfl dX6_feed_16 ?_
      refine lv_sipush (v := 320) hx hb dX6_feed_19 (by decide) ?_
      refine lv_icmp_lt (tgt := 28) hx hb dX6_feed_22 (by decide) (fun hc3 => ?_) (fun hc3 => ?_)
      · have hf := if_t hc3 hf
        refine lv_aload_n hx hb dX6_feed_28 rfl (lv_at hl 0 rfl) ?_
        refine r_get C0 hw 0 0 (v := .ref (qp 0)) rfl rfl inX6 (by decide) lk_X6_20 rfl dX6_feed_29 ?_
        refine lv_iload_n hx hb dX6_feed_32 rfl (lv_at hl 1 rfl) ?_
        obtain ⟨w4, w5, hk6, hf⟩ := b2_s hf
        refine rv_v (vq := (RX4, TX4, 2)) (As := [.int a1]) (rest := []) (bs' := [pJm κ qx (qp 0) rx_teller rx_balance rx_equations rx_images rx_sheets rx_frame rx_draft x_kept x_textFault x_readFault, pTa κ qp w4 w5]) C0 hw (cTa_append l D κ qp p_bytes p_size a1 w4 w5 hk6) cv_RX6_66 ⟨rfl, rfl, Nat.le_of_ble_eq_true rfl, Nat.le_of_ble_eq_true rfl⟩ ⟨Nat.zero_le _, Nat.zero_le _⟩ [1] [0] [0, 1] rfl rfl rfl rfl (by decide) rfl rfl rfl rfl rfl hl.1 (by simp only [List.map, List.sum_cons, List.sum_nil, Value.category]; decide) dX6_feed_33 (fun H locs hw => ?_)
        refine lv_aload_n hx hb dX6_feed_36 rfl (lv_at hl 0 rfl) ?_
        refine r_get C0 hw 0 0 (v := .ref (qp 0)) rfl rfl inX6 (by decide) lk_X6_20 rfl dX6_feed_37 ?_
        refine r_get C0 hw 2 1 (v := .int w5) rfl rfl inX4 (by decide) lk_X6_60 rfl dX6_feed_40 ?_
        obtain ⟨rfl, rfl, rfl⟩ := e3_ hf
        exact r_iret C0 hw trivial dX6_feed_43
      · have hf := if_f hc3 hf
        refine lv_bipush (v := -3) hx hb dX6_feed_25 (by decide) ?_
        obtain ⟨rfl, rfl, rfl⟩ := e3_ hf
        exact r_iret C0 hw trivial dX6_feed_27
    · have hf := if_f hc2 hf
      refine lv_iconst (v := -1) hx hb dX6_feed_10 (by decide) ?_
      obtain ⟨rfl, rfl, rfl⟩ := e3_ hf
      exact r_iret C0 hw trivial dX6_feed_11
def FJm_end (p_size a1 : Int32) : Option (Int32 × Int32) :=
  if a1 < 0 then
    some ((-1 : Int32), p_size)
  else
    if a1 ≤ p_size then
      some (p_size, a1)
    else
      some ((-1 : Int32), p_size)
set_option maxHeartbeats 4000000 in
set_option maxRecDepth 100000 in
theorem cJm_end (l : Launch) (D : va_G) (κ : Nat → ClassId) (qx : Nat → Nat) (rx_teller rx_balance rx_equations rx_images rx_sheets rx_frame rx_draft : Nat) (x_kept : Nat → Int32) (x_textFault x_readFault : Int32) (qp : Nat → Nat) (p_bytes : Nat → Int32) (p_size a1 zr z1 : Int32) (hf : FJm_end p_size a1 = some (zr, z1)) : mI_ l yX6_end (Cond.code yX6_end cX6_end 3 (some .int) :: uw) ({ frames := 0, cells := 0, slots := 0, locals := 0 } : Room) D (tys0 κ) [.ref (qx 0), .int a1] (List.flatten [pJm κ qx (qp 0) rx_teller rx_balance rx_equations rx_images rx_sheets rx_frame rx_draft x_kept x_textFault x_readFault, pTa κ qp p_bytes p_size]) nT_ zr (List.flatten [pJm κ qx (qp 0) rx_teller rx_balance rx_equations rx_images rx_sheets rx_frame rx_draft x_kept x_textFault x_readFault, pTa κ qp p_bytes z1]) := by
  unfold FJm_end at hf
  refine mI_of (by decide) (Nat.le_of_ble_eq_true rfl) ?_
  intro p e s m below meth c A ls H locs C0 hw hl
  obtain ⟨hx, hb, -, hml, hown, hts, -, -⟩ := id C0
  have hl : lv_has ls 3 [(0, .ref (qx 0)), (1, .int a1)] := hl
  refine lv_iload_n hx hb dX6_end_0 rfl (lv_at hl 1 rfl) ?_
  refine lv_if_lt (tgt := 15) hx hb dX6_end_1 (by decide) (fun hc1 => ?_) (fun hc1 => ?_)
  · have hf := if_t hc1 hf
    refine lv_iconst (v := -1) hx hb dX6_end_15 (by decide) ?_
    obtain ⟨rfl, rfl⟩ := e2_ hf
    exact r_iret C0 hw trivial dX6_end_16
  · have hf := if_f hc1 hf
    refine lv_iload_n hx hb dX6_end_4 rfl (lv_at hl 1 rfl) ?_
    refine lv_aload_n hx hb dX6_end_5 rfl (lv_at hl 0 rfl) ?_
    refine r_get C0 hw 0 0 (v := .ref (qp 0)) rfl rfl inX6 (by decide) lk_X6_20 rfl dX6_end_6 ?_
    refine r_get C0 hw 2 1 (v := .int p_size) rfl rfl inX4 (by decide) lk_X6_60 rfl dX6_end_9 ?_
    refine lv_icmp_le (tgt := 17) hx hb dX6_end_12 (by decide) (fun hc2 => ?_) (fun hc2 => ?_)
    · have hf := if_t hc2 hf
      refine lv_aload_n hx hb dX6_end_17 rfl (lv_at hl 0 rfl) ?_
      refine r_get C0 hw 0 0 (v := .ref (qp 0)) rfl rfl inX6 (by decide) lk_X6_20 rfl dX6_end_18 ?_
      refine r_get C0 hw 2 1 (v := .int p_size) rfl rfl inX4 (by decide) lk_X6_60 rfl dX6_end_21 ?_
      refine lv_istore_n (lv' := [(2, .int p_size), (0, .ref (qx 0)), (1, .int a1)]) hx hb dX6_end_24 rfl hl (by decide) rfl (fun ls hl => ?_)
      refine lv_aload_n hx hb dX6_end_25 rfl (lv_at hl 1 rfl) ?_
      refine r_get C0 hw 0 0 (v := .ref (qp 0)) rfl rfl inX6 (by decide) lk_X6_20 rfl dX6_end_26 ?_
      refine lv_iload_n hx hb dX6_end_29 rfl (lv_at hl 2 rfl) ?_
      refine r_put C0 hw 2 1 (v := .int a1) (ws' := List.flatten [pJm κ qx (qp 0) rx_teller rx_balance rx_equations rx_images rx_sheets rx_frame rx_draft x_kept x_textFault x_readFault, pTa κ qp p_bytes a1]) rfl rfl inX4 tyX4_ok nmX4 (by decide) lk_X6_60 rfl rfl rfl rfl (Nat.le_of_ble_eq_true rfl) dX6_end_30 rfl (fun H locs hw => ?_)
      refine lv_iload_n hx hb dX6_end_33 rfl (lv_at hl 0 rfl) ?_
      obtain ⟨rfl, rfl⟩ := e2_ hf
      exact r_iret C0 hw trivial dX6_end_34
    · have hf := if_f hc2 hf
      refine lv_iconst (v := -1) hx hb dX6_end_15 (by decide) ?_
      obtain ⟨rfl, rfl⟩ := e2_ hf
      exact r_iret C0 hw trivial dX6_end_16
def FJm_fault (x_textFault : Int32) : Option (Int32) :=
  some (x_textFault)
set_option maxHeartbeats 4000000 in
set_option maxRecDepth 100000 in
theorem cJm_fault (l : Launch) (D : va_G) (κ : Nat → ClassId) (qx : Nat → Nat) (rx_tape rx_teller rx_balance rx_equations rx_images rx_sheets rx_frame rx_draft : Nat) (x_kept : Nat → Int32) (x_textFault x_readFault zr : Int32) (hf : FJm_fault x_textFault = some zr) : mI_ l yX6_fault (Cond.code yX6_fault cX6_fault 1 (some .int) :: uw) ({ frames := 0, cells := 0, slots := 0, locals := 0 } : Room) D (tys0 κ) [.ref (qx 0)] (List.flatten [pJm κ qx rx_tape rx_teller rx_balance rx_equations rx_images rx_sheets rx_frame rx_draft x_kept x_textFault x_readFault]) nT_ zr (List.flatten [pJm κ qx rx_tape rx_teller rx_balance rx_equations rx_images rx_sheets rx_frame rx_draft x_kept x_textFault x_readFault]) := by
  unfold FJm_fault at hf
  refine mI_of (by decide) (Nat.le_of_ble_eq_true rfl) ?_
  intro p e s m below meth c A ls H locs C0 hw hl
  obtain ⟨hx, hb, -, hml, hown, hts, -, -⟩ := id C0
  have hl : lv_has ls 1 [(0, .ref (qx 0))] := hl
  refine lv_aload_n hx hb dX6_fault_0 rfl (lv_at hl 0 rfl) ?_
  refine r_get C0 hw 0 9 (v := .int x_textFault) rfl rfl inX6 (by decide) lk_X6_77 rfl dX6_fault_1 ?_
  obtain rfl := e1_ hf
  exact r_iret C0 hw trivial dX6_fault_4
def FJm_torn (x_readFault : Int32) : Option (Int32) :=
  some (x_readFault)
set_option maxHeartbeats 4000000 in
set_option maxRecDepth 100000 in
theorem cJm_torn (l : Launch) (D : va_G) (κ : Nat → ClassId) (qx : Nat → Nat) (rx_tape rx_teller rx_balance rx_equations rx_images rx_sheets rx_frame rx_draft : Nat) (x_kept : Nat → Int32) (x_textFault x_readFault zr : Int32) (hf : FJm_torn x_readFault = some zr) : mI_ l yX6_torn (Cond.code yX6_torn cX6_torn 1 (some .int) :: uw) ({ frames := 0, cells := 0, slots := 0, locals := 0 } : Room) D (tys0 κ) [.ref (qx 0)] (List.flatten [pJm κ qx rx_tape rx_teller rx_balance rx_equations rx_images rx_sheets rx_frame rx_draft x_kept x_textFault x_readFault]) nT_ zr (List.flatten [pJm κ qx rx_tape rx_teller rx_balance rx_equations rx_images rx_sheets rx_frame rx_draft x_kept x_textFault x_readFault]) := by
  unfold FJm_torn at hf
  refine mI_of (by decide) (Nat.le_of_ble_eq_true rfl) ?_
  intro p e s m below meth c A ls H locs C0 hw hl
  obtain ⟨hx, hb, -, hml, hown, hts, -, -⟩ := id C0
  have hl : lv_has ls 1 [(0, .ref (qx 0))] := hl
  refine lv_aload_n hx hb dX6_torn_0 rfl (lv_at hl 0 rfl) ?_
  refine r_get C0 hw 0 10 (v := .int x_readFault) rfl rfl inX6 (by decide) lk_X6_257 rfl dX6_torn_1 ?_
  obtain rfl := e1_ hf
  exact r_iret C0 hw trivial dX6_torn_4
def FJm_rule (b_outs b_endsAt : Nat → Int32) (b_steps b_latest : Int32) (f_held : Nat → Int32) (f_joints f_beams f_loads a1 : Int32) : Option (Int32) :=
  if a1 = 0 then
    some (f_joints)
  else
  if a1 = 1 then
    b1_ (FFr_turning f_held f_joints) fun r3 =>
    some (r3)
  else
  if a1 = 2 then
    some (f_beams)
  else
  if a1 = 3 then
    some (f_loads)
  else
  if a1 = 4 then
    some (b_steps)
  else
  if a1 = 5 then
    b1_ (FBa_loose b_outs b_endsAt f_held f_joints) fun r10 =>
    some (r10)
  else
  if a1 = 6 then
    b1_ (FBa_left b_outs b_endsAt f_held f_joints) fun r14 =>
    some (r14)
  else
  if a1 = 7 then
    some (b_latest)
  else
  some ((-1 : Int32))
set_option maxHeartbeats 4000000 in
set_option maxRecDepth 100000 in
theorem cJm_rule (l : Launch) (D : va_G) (κ : Nat → ClassId) (qx : Nat → Nat) (rx_tape rx_teller rx_equations rx_images rx_sheets rx_draft : Nat) (x_kept : Nat → Int32) (x_textFault x_readFault : Int32) (qb : Nat → Nat) (b_moments b_gains b_topped b_endStiffs b_outs b_endsAt b_stiffAt b_stepsAt : Nat → Int32) (b_steps b_latest : Int32) (qf : Nat → Nat) (f_held f_couples f_endJoints f_lengths f_stiffs f_loadBeams f_loadSizes f_loadPlaces : Nat → Int32) (f_joints f_beams f_loads a1 zr : Int32) (hf : FJm_rule b_outs b_endsAt b_steps b_latest f_held f_joints f_beams f_loads a1 = some zr) : mI_ l yX6_rule (Cond.code yX6_rule cX6_rule 2 (some .int) :: uw) ({ frames := 3, cells := 0, slots := 0, locals := 67 } : Room) D (tys0 κ) [.ref (qx 0), .int a1] (List.flatten [pJm κ qx rx_tape rx_teller (qb 0) rx_equations rx_images rx_sheets (qf 0) rx_draft x_kept x_textFault x_readFault, pBa κ qb b_moments b_gains b_topped b_endStiffs b_outs b_endsAt b_stiffAt b_stepsAt b_steps b_latest, pFr κ qf f_held f_couples f_endJoints f_lengths f_stiffs f_loadBeams f_loadSizes f_loadPlaces f_joints f_beams f_loads]) nT_ zr (List.flatten [pJm κ qx rx_tape rx_teller (qb 0) rx_equations rx_images rx_sheets (qf 0) rx_draft x_kept x_textFault x_readFault, pBa κ qb b_moments b_gains b_topped b_endStiffs b_outs b_endsAt b_stiffAt b_stepsAt b_steps b_latest, pFr κ qf f_held f_couples f_endJoints f_lengths f_stiffs f_loadBeams f_loadSizes f_loadPlaces f_joints f_beams f_loads]) := by
  unfold FJm_rule at hf
  refine mI_of (by decide) (Nat.le_of_ble_eq_true rfl) ?_
  intro p e s m below meth c A ls H locs C0 hw hl
  obtain ⟨hx, hb, -, hml, hown, hts, -, -⟩ := id C0
  have hl : lv_has ls 2 [(0, .ref (qx 0)), (1, .int a1)] := hl
  refine lv_iload_n hx hb dX6_rule_0 rfl (lv_at hl 1 rfl) ?_
  by_cases hc1 : a1 = 0
  · have hf := if_t hc1 hf
    refine lv_tableIn (tgt := 48) hx hb dX6_rule_1 (by rw [hc1]; decide) (by rw [hc1]; decide) (by rw [hc1]; rfl) (by decide) ?_
    refine lv_aload_n hx hb dX6_rule_48 rfl (lv_at hl 0 rfl) ?_
    refine r_get C0 hw 0 7 (v := .ref (qf 0)) rfl rfl inX6 (by decide) lk_X6_38 rfl dX6_rule_49 ?_
    refine r_get C0 hw 11 8 (v := .int f_joints) rfl rfl inX2 (by decide) lk_X6_90 rfl dX6_rule_52 ?_
    obtain rfl := e1_ hf
    exact r_iret C0 hw trivial dX6_rule_55
  have hf := if_f hc1 hf
  by_cases hc2 : a1 = 1
  · have hf := if_t hc2 hf
    refine lv_tableIn (tgt := 56) hx hb dX6_rule_1 (by rw [hc2]; decide) (by rw [hc2]; decide) (by rw [hc2]; rfl) (by decide) ?_
    refine lv_aload_n hx hb dX6_rule_56 rfl (lv_at hl 0 rfl) ?_
    refine r_get C0 hw 0 7 (v := .ref (qf 0)) rfl rfl inX6 (by decide) lk_X6_38 rfl dX6_rule_57 ?_
    obtain ⟨r3, hk4, hf⟩ := b1_s hf
    refine rv_i (vq := (RX2, TX2, 11)) (As := []) (rest := []) (bs' := [pJm κ qx rx_tape rx_teller (qb 0) rx_equations rx_images rx_sheets (qf 0) rx_draft x_kept x_textFault x_readFault, pBa κ qb b_moments b_gains b_topped b_endStiffs b_outs b_endsAt b_stiffAt b_stepsAt b_steps b_latest, pFr κ qf f_held f_couples f_endJoints f_lengths f_stiffs f_loadBeams f_loadSizes f_loadPlaces f_joints f_beams f_loads]) C0 hw (cFr_turning l D κ qf f_held f_couples f_endJoints f_lengths f_stiffs f_loadBeams f_loadSizes f_loadPlaces f_joints f_beams f_loads r3 hk4) cv_RX6_93 ⟨rfl, rfl, Nat.le_of_ble_eq_true rfl, Nat.le_of_ble_eq_true rfl⟩ ⟨Nat.zero_le _, Nat.zero_le _⟩ [2] [0, 1] [0, 1, 2] rfl rfl rfl rfl (by decide) rfl rfl rfl rfl rfl hl.1 (by simp only [List.map, List.sum_cons, List.sum_nil, Value.category]; decide) dX6_rule_60 (fun H locs hw hn5 => ?_)
    obtain rfl := e1_ hf
    exact r_iret C0 hw trivial dX6_rule_63
  have hf := if_f hc2 hf
  by_cases hc6 : a1 = 2
  · have hf := if_t hc6 hf
    refine lv_tableIn (tgt := 64) hx hb dX6_rule_1 (by rw [hc6]; decide) (by rw [hc6]; decide) (by rw [hc6]; rfl) (by decide) ?_
    refine lv_aload_n hx hb dX6_rule_64 rfl (lv_at hl 0 rfl) ?_
    refine r_get C0 hw 0 7 (v := .ref (qf 0)) rfl rfl inX6 (by decide) lk_X6_38 rfl dX6_rule_65 ?_
    refine r_get C0 hw 11 9 (v := .int f_beams) rfl rfl inX2 (by decide) lk_X6_97 rfl dX6_rule_68 ?_
    obtain rfl := e1_ hf
    exact r_iret C0 hw trivial dX6_rule_71
  have hf := if_f hc6 hf
  by_cases hc7 : a1 = 3
  · have hf := if_t hc7 hf
    refine lv_tableIn (tgt := 72) hx hb dX6_rule_1 (by rw [hc7]; decide) (by rw [hc7]; decide) (by rw [hc7]; rfl) (by decide) ?_
    refine lv_aload_n hx hb dX6_rule_72 rfl (lv_at hl 0 rfl) ?_
    refine r_get C0 hw 0 7 (v := .ref (qf 0)) rfl rfl inX6 (by decide) lk_X6_38 rfl dX6_rule_73 ?_
    refine r_get C0 hw 11 10 (v := .int f_loads) rfl rfl inX2 (by decide) lk_X6_100 rfl dX6_rule_76 ?_
    obtain rfl := e1_ hf
    exact r_iret C0 hw trivial dX6_rule_79
  have hf := if_f hc7 hf
  by_cases hc8 : a1 = 4
  · have hf := if_t hc8 hf
    refine lv_tableIn (tgt := 80) hx hb dX6_rule_1 (by rw [hc8]; decide) (by rw [hc8]; decide) (by rw [hc8]; rfl) (by decide) ?_
    refine lv_aload_n hx hb dX6_rule_80 rfl (lv_at hl 0 rfl) ?_
    refine r_get C0 hw 0 2 (v := .ref (qb 0)) rfl rfl inX6 (by decide) lk_X6_24 rfl dX6_rule_81 ?_
    refine r_get C0 hw 2 8 (v := .int b_steps) rfl rfl inX0 (by decide) lk_X6_103 rfl dX6_rule_84 ?_
    obtain rfl := e1_ hf
    exact r_iret C0 hw trivial dX6_rule_87
  have hf := if_f hc8 hf
  by_cases hc9 : a1 = 5
  · have hf := if_t hc9 hf
    refine lv_tableIn (tgt := 88) hx hb dX6_rule_1 (by rw [hc9]; decide) (by rw [hc9]; decide) (by rw [hc9]; rfl) (by decide) ?_
    refine lv_aload_n hx hb dX6_rule_88 rfl (lv_at hl 0 rfl) ?_
    refine r_get C0 hw 0 2 (v := .ref (qb 0)) rfl rfl inX6 (by decide) lk_X6_24 rfl dX6_rule_89 ?_
    refine lv_aload_n hx hb dX6_rule_92 rfl (lv_at hl 0 rfl) ?_
    refine r_get C0 hw 0 7 (v := .ref (qf 0)) rfl rfl inX6 (by decide) lk_X6_38 rfl dX6_rule_93 ?_
    obtain ⟨r10, hk11, hf⟩ := b1_s hf
    refine rv_i (vq := (RX0, TX0, 10)) (As := [.ref (qf 0)]) (rest := []) (bs' := [pJm κ qx rx_tape rx_teller (qb 0) rx_equations rx_images rx_sheets (qf 0) rx_draft x_kept x_textFault x_readFault, pBa κ qb b_moments b_gains b_topped b_endStiffs b_outs b_endsAt b_stiffAt b_stepsAt b_steps b_latest, pFr κ qf f_held f_couples f_endJoints f_lengths f_stiffs f_loadBeams f_loadSizes f_loadPlaces f_joints f_beams f_loads]) C0 hw (cBa_loose l D κ qb b_moments b_gains b_topped b_endStiffs b_outs b_endsAt b_stiffAt b_stepsAt b_steps b_latest qf f_held f_couples f_endJoints f_lengths f_stiffs f_loadBeams f_loadSizes f_loadPlaces f_joints f_beams f_loads r10 hk11) cv_RX6_106 ⟨rfl, rfl, Nat.le_of_ble_eq_true rfl, Nat.le_of_ble_eq_true rfl⟩ ⟨Nat.zero_le _, Nat.zero_le _⟩ [1, 2] [0] [0, 1, 2] rfl rfl rfl rfl (by decide) rfl rfl rfl rfl rfl hl.1 (by simp only [List.map, List.sum_cons, List.sum_nil, Value.category]; decide) dX6_rule_96 (fun H locs hw hn12 => ?_)
    obtain rfl := e1_ hf
    exact r_iret C0 hw trivial dX6_rule_99
  have hf := if_f hc9 hf
  by_cases hc13 : a1 = 6
  · have hf := if_t hc13 hf
    refine lv_tableIn (tgt := 100) hx hb dX6_rule_1 (by rw [hc13]; decide) (by rw [hc13]; decide) (by rw [hc13]; rfl) (by decide) ?_
    refine lv_aload_n hx hb dX6_rule_100 rfl (lv_at hl 0 rfl) ?_
    refine r_get C0 hw 0 2 (v := .ref (qb 0)) rfl rfl inX6 (by decide) lk_X6_24 rfl dX6_rule_101 ?_
    refine lv_aload_n hx hb dX6_rule_104 rfl (lv_at hl 0 rfl) ?_
    refine r_get C0 hw 0 7 (v := .ref (qf 0)) rfl rfl inX6 (by decide) lk_X6_38 rfl dX6_rule_105 ?_
    obtain ⟨r14, hk15, hf⟩ := b1_s hf
    refine rv_i (vq := (RX0, TX0, 10)) (As := [.ref (qf 0)]) (rest := []) (bs' := [pJm κ qx rx_tape rx_teller (qb 0) rx_equations rx_images rx_sheets (qf 0) rx_draft x_kept x_textFault x_readFault, pBa κ qb b_moments b_gains b_topped b_endStiffs b_outs b_endsAt b_stiffAt b_stepsAt b_steps b_latest, pFr κ qf f_held f_couples f_endJoints f_lengths f_stiffs f_loadBeams f_loadSizes f_loadPlaces f_joints f_beams f_loads]) C0 hw (cBa_left l D κ qb b_moments b_gains b_topped b_endStiffs b_outs b_endsAt b_stiffAt b_stepsAt b_steps b_latest qf f_held f_couples f_endJoints f_lengths f_stiffs f_loadBeams f_loadSizes f_loadPlaces f_joints f_beams f_loads r14 hk15) cv_RX6_110 ⟨rfl, rfl, Nat.le_of_ble_eq_true rfl, Nat.le_of_ble_eq_true rfl⟩ ⟨Nat.zero_le _, Nat.zero_le _⟩ [1, 2] [0] [0, 1, 2] rfl rfl rfl rfl (by decide) rfl rfl rfl rfl rfl hl.1 (by simp only [List.map, List.sum_cons, List.sum_nil, Value.category]; decide) dX6_rule_108 (fun H locs hw hn16 => ?_)
    obtain rfl := e1_ hf
    exact r_iret C0 hw trivial dX6_rule_111
  have hf := if_f hc13 hf
  by_cases hc17 : a1 = 7
  · have hf := if_t hc17 hf
    refine lv_tableIn (tgt := 112) hx hb dX6_rule_1 (by rw [hc17]; decide) (by rw [hc17]; decide) (by rw [hc17]; rfl) (by decide) ?_
    refine lv_aload_n hx hb dX6_rule_112 rfl (lv_at hl 0 rfl) ?_
    refine r_get C0 hw 0 2 (v := .ref (qb 0)) rfl rfl inX6 (by decide) lk_X6_24 rfl dX6_rule_113 ?_
    refine r_get C0 hw 2 9 (v := .int b_latest) rfl rfl inX0 (by decide) lk_X6_113 rfl dX6_rule_116 ?_
    obtain rfl := e1_ hf
    exact r_iret C0 hw trivial dX6_rule_119
  have hf := if_f hc17 hf
  have hc1 := lv_neT (a := 0) hc1 (by decide)
  have hc2 := lv_neT (a := 1) hc2 (by decide)
  have hc6 := lv_neT (a := 2) hc6 (by decide)
  have hc7 := lv_neT (a := 3) hc7 (by decide)
  have hc8 := lv_neT (a := 4) hc8 (by decide)
  have hc9 := lv_neT (a := 5) hc9 (by decide)
  have hc13 := lv_neT (a := 6) hc13 (by decide)
  have hc17 := lv_neT (a := 7) hc17 (by decide)
  refine lv_tableOut (tgt := 120) hx hb dX6_rule_1 (by omega) (by decide) ?_
  refine lv_iconst (v := -1) hx hb dX6_rule_120 (by decide) ?_
  obtain rfl := e1_ hf
  exact r_iret C0 hw trivial dX6_rule_121
def FJm_joint (b_outs b_endsAt b_stiffAt b_stepsAt f_held : Nat → Int32) (f_joints a1 a2 : Int32) : Option (Int32) :=
  b1_ (FFr_isJoint f_joints a1) fun r1 =>
  if r1 = 0 then
    some ((-1 : Int32))
  else
    if a2 = 0 then
      gd_ a1 6 <|
      if (f_held a1.toNatClampNeg) = 0 then
        some ((0 : Int32))
      else
        some ((1 : Int32))
    else
    if a2 = 1 then
      gd_ a1 6 <|
      some ((b_endsAt a1.toNatClampNeg))
    else
    if a2 = 2 then
      gd_ a1 6 <|
      some ((b_stiffAt a1.toNatClampNeg))
    else
    if a2 = 3 then
      gd_ a1 6 <|
      some ((b_stepsAt a1.toNatClampNeg))
    else
    if a2 = 4 then
      b1_ (FBa_isLoose b_outs b_endsAt f_held a1) fun r15 =>
      if r15 = 0 then
        some ((0 : Int32))
      else
        some ((1 : Int32))
    else
    some ((-1 : Int32))
set_option maxHeartbeats 4000000 in
set_option maxRecDepth 100000 in
theorem cJm_joint (l : Launch) (D : va_G) (κ : Nat → ClassId) (qx : Nat → Nat) (rx_tape rx_teller rx_equations rx_images rx_sheets rx_draft : Nat) (x_kept : Nat → Int32) (x_textFault x_readFault : Int32) (qb : Nat → Nat) (b_moments b_gains b_topped b_endStiffs b_outs b_endsAt b_stiffAt b_stepsAt : Nat → Int32) (b_steps b_latest : Int32) (qf : Nat → Nat) (f_held f_couples f_endJoints f_lengths f_stiffs f_loadBeams f_loadSizes f_loadPlaces : Nat → Int32) (f_joints f_beams f_loads a1 a2 zr : Int32) (hf : FJm_joint b_outs b_endsAt b_stiffAt b_stepsAt f_held f_joints a1 a2 = some zr) : mI_ l yX6_joint (Cond.code yX6_joint cX6_joint 3 (some .int) :: uw) ({ frames := 2, cells := 0, slots := 0, locals := 44 } : Room) D (tys0 κ) [.ref (qx 0), .int a1, .int a2] (List.flatten [pJm κ qx rx_tape rx_teller (qb 0) rx_equations rx_images rx_sheets (qf 0) rx_draft x_kept x_textFault x_readFault, pBa κ qb b_moments b_gains b_topped b_endStiffs b_outs b_endsAt b_stiffAt b_stepsAt b_steps b_latest, pFr κ qf f_held f_couples f_endJoints f_lengths f_stiffs f_loadBeams f_loadSizes f_loadPlaces f_joints f_beams f_loads]) nT_ zr (List.flatten [pJm κ qx rx_tape rx_teller (qb 0) rx_equations rx_images rx_sheets (qf 0) rx_draft x_kept x_textFault x_readFault, pBa κ qb b_moments b_gains b_topped b_endStiffs b_outs b_endsAt b_stiffAt b_stepsAt b_steps b_latest, pFr κ qf f_held f_couples f_endJoints f_lengths f_stiffs f_loadBeams f_loadSizes f_loadPlaces f_joints f_beams f_loads]) := by
  unfold FJm_joint at hf
  refine mI_of (by decide) (Nat.le_of_ble_eq_true rfl) ?_
  intro p e s m below meth c A ls H locs C0 hw hl
  obtain ⟨hx, hb, -, hml, hown, hts, -, -⟩ := id C0
  have hl : lv_has ls 3 [(0, .ref (qx 0)), (1, .int a1), (2, .int a2)] := hl
  refine lv_aload_n hx hb dX6_joint_0 rfl (lv_at hl 0 rfl) ?_
  refine r_get C0 hw 0 7 (v := .ref (qf 0)) rfl rfl inX6 (by decide) lk_X6_38 rfl dX6_joint_1 ?_
  refine lv_iload_n hx hb dX6_joint_4 rfl (lv_at hl 1 rfl) ?_
  obtain ⟨r1, hk2, hf⟩ := b1_s hf
  refine rv_i (vq := (RX2, TX2, 11)) (As := [.int a1]) (rest := []) (bs' := [pJm κ qx rx_tape rx_teller (qb 0) rx_equations rx_images rx_sheets (qf 0) rx_draft x_kept x_textFault x_readFault, pBa κ qb b_moments b_gains b_topped b_endStiffs b_outs b_endsAt b_stiffAt b_stepsAt b_steps b_latest, pFr κ qf f_held f_couples f_endJoints f_lengths f_stiffs f_loadBeams f_loadSizes f_loadPlaces f_joints f_beams f_loads]) C0 hw (cFr_isJoint l D κ qf f_held f_couples f_endJoints f_lengths f_stiffs f_loadBeams f_loadSizes f_loadPlaces f_joints f_beams f_loads a1 r1 hk2) cv_RX6_116 ⟨rfl, rfl, Nat.le_of_ble_eq_true rfl, Nat.le_of_ble_eq_true rfl⟩ ⟨Nat.zero_le _, Nat.zero_le _⟩ [2] [0, 1] [0, 1, 2] rfl rfl rfl rfl (by decide) rfl rfl rfl rfl rfl hl.1 (by simp only [List.map, List.sum_cons, List.sum_nil, Value.category]; decide) dX6_joint_5 (fun H locs hw hn3 => ?_)
  refine lv_if_ne (tgt := 13) hx hb dX6_joint_8 (by decide) (fun hc4 => ?_) (fun hc4 => ?_)
  · have hf := if_f hc4 hf
    refine lv_iload_n hx hb dX6_joint_13 rfl (lv_at hl 2 rfl) ?_
    by_cases hc5 : a2 = 0
    · have hf := if_t hc5 hf
      refine lv_tableIn (tgt := 48) hx hb dX6_joint_14 (by rw [hc5]; decide) (by rw [hc5]; decide) (by rw [hc5]; rfl) (by decide) ?_
      refine lv_aload_n hx hb dX6_joint_48 rfl (lv_at hl 0 rfl) ?_
      refine r_get C0 hw 0 7 (v := .ref (qf 0)) rfl rfl inX6 (by decide) lk_X6_38 rfl dX6_joint_49 ?_
      refine r_get C0 hw 11 0 (v := .ref (qf 1)) rfl rfl inX2 (by decide) lk_X6_120 rfl dX6_joint_52 ?_
      refine lv_iload_n hx hb dX6_joint_55 rfl (lv_at hl 1 rfl) ?_
      obtain ⟨hi6, hf⟩ := gd_s hf
      refine r_zald C0 hw 12 1 rfl rfl hi6 dX6_joint_56 ?_
      refine lv_if_eq (tgt := 64) hx hb dX6_joint_57 (by decide) (fun hc7 => ?_) (fun hc7 => ?_)
      · have hf := if_t hc7 hf
        refine lv_iconst (v := 0) hx hb dX6_joint_64 (by decide) ?_
        obtain rfl := e1_ hf
        exact r_iret C0 hw trivial dX6_joint_65
      · have hf := if_f hc7 hf
        refine lv_iconst (v := 1) hx hb dX6_joint_60 (by decide) ?_
        refine lv_goto (tgt := 65) hx hb dX6_joint_61 (by decide) ?_
        obtain rfl := e1_ hf
        exact r_iret C0 hw trivial dX6_joint_65
    have hf := if_f hc5 hf
    by_cases hc8 : a2 = 1
    · have hf := if_t hc8 hf
      refine lv_tableIn (tgt := 66) hx hb dX6_joint_14 (by rw [hc8]; decide) (by rw [hc8]; decide) (by rw [hc8]; rfl) (by decide) ?_
      refine lv_aload_n hx hb dX6_joint_66 rfl (lv_at hl 0 rfl) ?_
      refine r_get C0 hw 0 2 (v := .ref (qb 0)) rfl rfl inX6 (by decide) lk_X6_24 rfl dX6_joint_67 ?_
      refine r_get C0 hw 2 5 (v := .ref (qb 6)) rfl rfl inX0 (by decide) lk_X6_123 rfl dX6_joint_70 ?_
      refine lv_iload_n hx hb dX6_joint_73 rfl (lv_at hl 1 rfl) ?_
      obtain ⟨hi9, hf⟩ := gd_s hf
      refine r_iald C0 hw 8 0 rfl rfl hi9 dX6_joint_74 ?_
      obtain rfl := e1_ hf
      exact r_iret C0 hw trivial dX6_joint_75
    have hf := if_f hc8 hf
    by_cases hc10 : a2 = 2
    · have hf := if_t hc10 hf
      refine lv_tableIn (tgt := 76) hx hb dX6_joint_14 (by rw [hc10]; decide) (by rw [hc10]; decide) (by rw [hc10]; rfl) (by decide) ?_
      refine lv_aload_n hx hb dX6_joint_76 rfl (lv_at hl 0 rfl) ?_
      refine r_get C0 hw 0 2 (v := .ref (qb 0)) rfl rfl inX6 (by decide) lk_X6_24 rfl dX6_joint_77 ?_
      refine r_get C0 hw 2 6 (v := .ref (qb 7)) rfl rfl inX0 (by decide) lk_X6_127 rfl dX6_joint_80 ?_
      refine lv_iload_n hx hb dX6_joint_83 rfl (lv_at hl 1 rfl) ?_
      obtain ⟨hi11, hf⟩ := gd_s hf
      refine r_iald C0 hw 9 0 rfl rfl hi11 dX6_joint_84 ?_
      obtain rfl := e1_ hf
      exact r_iret C0 hw trivial dX6_joint_85
    have hf := if_f hc10 hf
    by_cases hc12 : a2 = 3
    · have hf := if_t hc12 hf
      refine lv_tableIn (tgt := 86) hx hb dX6_joint_14 (by rw [hc12]; decide) (by rw [hc12]; decide) (by rw [hc12]; rfl) (by decide) ?_
      refine lv_aload_n hx hb dX6_joint_86 rfl (lv_at hl 0 rfl) ?_
      refine r_get C0 hw 0 2 (v := .ref (qb 0)) rfl rfl inX6 (by decide) lk_X6_24 rfl dX6_joint_87 ?_
      refine r_get C0 hw 2 7 (v := .ref (qb 8)) rfl rfl inX0 (by decide) lk_X6_130 rfl dX6_joint_90 ?_
      refine lv_iload_n hx hb dX6_joint_93 rfl (lv_at hl 1 rfl) ?_
      obtain ⟨hi13, hf⟩ := gd_s hf
      refine r_iald C0 hw 10 0 rfl rfl hi13 dX6_joint_94 ?_
      obtain rfl := e1_ hf
      exact r_iret C0 hw trivial dX6_joint_95
    have hf := if_f hc12 hf
    by_cases hc14 : a2 = 4
    · have hf := if_t hc14 hf
      refine lv_tableIn (tgt := 96) hx hb dX6_joint_14 (by rw [hc14]; decide) (by rw [hc14]; decide) (by rw [hc14]; rfl) (by decide) ?_
      refine lv_aload_n hx hb dX6_joint_96 rfl (lv_at hl 0 rfl) ?_
      refine r_get C0 hw 0 2 (v := .ref (qb 0)) rfl rfl inX6 (by decide) lk_X6_24 rfl dX6_joint_97 ?_
      refine lv_aload_n hx hb dX6_joint_100 rfl (lv_at hl 0 rfl) ?_
      refine r_get C0 hw 0 7 (v := .ref (qf 0)) rfl rfl inX6 (by decide) lk_X6_38 rfl dX6_joint_101 ?_
      refine lv_iload_n hx hb dX6_joint_104 rfl (lv_at hl 1 rfl) ?_
      obtain ⟨r15, hk16, hf⟩ := b1_s hf
      refine rv_i (vq := (RX0, TX0, 10)) (As := [.ref (qf 0), .int a1]) (rest := []) (bs' := [pJm κ qx rx_tape rx_teller (qb 0) rx_equations rx_images rx_sheets (qf 0) rx_draft x_kept x_textFault x_readFault, pBa κ qb b_moments b_gains b_topped b_endStiffs b_outs b_endsAt b_stiffAt b_stepsAt b_steps b_latest, pFr κ qf f_held f_couples f_endJoints f_lengths f_stiffs f_loadBeams f_loadSizes f_loadPlaces f_joints f_beams f_loads]) C0 hw (cBa_isLoose l D κ qb b_moments b_gains b_topped b_endStiffs b_outs b_endsAt b_stiffAt b_stepsAt b_steps b_latest qf f_held f_couples f_endJoints f_lengths f_stiffs f_loadBeams f_loadSizes f_loadPlaces f_joints f_beams f_loads a1 r15 hk16) cv_RX6_133 ⟨rfl, rfl, Nat.le_of_ble_eq_true rfl, Nat.le_of_ble_eq_true rfl⟩ ⟨Nat.zero_le _, Nat.zero_le _⟩ [1, 2] [0] [0, 1, 2] rfl rfl rfl rfl (by decide) rfl rfl rfl rfl rfl hl.1 (by simp only [List.map, List.sum_cons, List.sum_nil, Value.category]; decide) dX6_joint_105 (fun H locs hw hn17 => ?_)
      refine lv_if_eq (tgt := 115) hx hb dX6_joint_108 (by decide) (fun hc18 => ?_) (fun hc18 => ?_)
      · have hf := if_t hc18 hf
        refine lv_iconst (v := 0) hx hb dX6_joint_115 (by decide) ?_
        obtain rfl := e1_ hf
        exact r_iret C0 hw trivial dX6_joint_116
      · have hf := if_f hc18 hf
        refine lv_iconst (v := 1) hx hb dX6_joint_111 (by decide) ?_
        refine lv_goto (tgt := 116) hx hb dX6_joint_112 (by decide) ?_
        obtain rfl := e1_ hf
        exact r_iret C0 hw trivial dX6_joint_116
    have hf := if_f hc14 hf
    have hc5 := lv_neT (a := 0) hc5 (by decide)
    have hc8 := lv_neT (a := 1) hc8 (by decide)
    have hc10 := lv_neT (a := 2) hc10 (by decide)
    have hc12 := lv_neT (a := 3) hc12 (by decide)
    have hc14 := lv_neT (a := 4) hc14 (by decide)
    refine lv_tableOut (tgt := 117) hx hb dX6_joint_14 (by omega) (by decide) ?_
    refine lv_iconst (v := -1) hx hb dX6_joint_117 (by decide) ?_
    obtain rfl := e1_ hf
    exact r_iret C0 hw trivial dX6_joint_118
  · have hf := if_t hc4 hf
    refine lv_iconst (v := -1) hx hb dX6_joint_11 (by decide) ?_
    obtain rfl := e1_ hf
    exact r_iret C0 hw trivial dX6_joint_12
def FJm_out (b_outs f_couples : Nat → Int32) (f_joints a1 a2 : Int32) : Option (Int32) :=
  b1_ (FFr_isJoint f_joints a1) fun r1 =>
  if r1 = 0 then
    some ((2000000000 : Int32))
  else
    if a2 = 0 then
      gd_ a1 6 <|
      some ((f_couples a1.toNatClampNeg))
    else
    if a2 = 1 then
      gd_ a1 6 <|
      some ((b_outs a1.toNatClampNeg))
    else
    some ((2000000000 : Int32))
set_option maxHeartbeats 4000000 in
set_option maxRecDepth 100000 in
theorem cJm_out (l : Launch) (D : va_G) (κ : Nat → ClassId) (qx : Nat → Nat) (rx_tape rx_teller rx_equations rx_images rx_sheets rx_draft : Nat) (x_kept : Nat → Int32) (x_textFault x_readFault : Int32) (qb : Nat → Nat) (b_moments b_gains b_topped b_endStiffs b_outs b_endsAt b_stiffAt b_stepsAt : Nat → Int32) (b_steps b_latest : Int32) (qf : Nat → Nat) (f_held f_couples f_endJoints f_lengths f_stiffs f_loadBeams f_loadSizes f_loadPlaces : Nat → Int32) (f_joints f_beams f_loads a1 a2 zr : Int32) (hf : FJm_out b_outs f_couples f_joints a1 a2 = some zr) : mI_ l yX6_out (Cond.code yX6_out cX6_out 3 (some .int) :: uw) ({ frames := 1, cells := 0, slots := 0, locals := 21 } : Room) D (tys0 κ) [.ref (qx 0), .int a1, .int a2] (List.flatten [pJm κ qx rx_tape rx_teller (qb 0) rx_equations rx_images rx_sheets (qf 0) rx_draft x_kept x_textFault x_readFault, pBa κ qb b_moments b_gains b_topped b_endStiffs b_outs b_endsAt b_stiffAt b_stepsAt b_steps b_latest, pFr κ qf f_held f_couples f_endJoints f_lengths f_stiffs f_loadBeams f_loadSizes f_loadPlaces f_joints f_beams f_loads]) nT_ zr (List.flatten [pJm κ qx rx_tape rx_teller (qb 0) rx_equations rx_images rx_sheets (qf 0) rx_draft x_kept x_textFault x_readFault, pBa κ qb b_moments b_gains b_topped b_endStiffs b_outs b_endsAt b_stiffAt b_stepsAt b_steps b_latest, pFr κ qf f_held f_couples f_endJoints f_lengths f_stiffs f_loadBeams f_loadSizes f_loadPlaces f_joints f_beams f_loads]) := by
  unfold FJm_out at hf
  refine mI_of (by decide) (Nat.le_of_ble_eq_true rfl) ?_
  intro p e s m below meth c A ls H locs C0 hw hl
  obtain ⟨hx, hb, -, hml, hown, hts, -, -⟩ := id C0
  have hl : lv_has ls 3 [(0, .ref (qx 0)), (1, .int a1), (2, .int a2)] := hl
  refine lv_aload_n hx hb dX6_out_0 rfl (lv_at hl 0 rfl) ?_
  refine r_get C0 hw 0 7 (v := .ref (qf 0)) rfl rfl inX6 (by decide) lk_X6_38 rfl dX6_out_1 ?_
  refine lv_iload_n hx hb dX6_out_4 rfl (lv_at hl 1 rfl) ?_
  obtain ⟨r1, hk2, hf⟩ := b1_s hf
  refine rv_i (vq := (RX2, TX2, 11)) (As := [.int a1]) (rest := []) (bs' := [pJm κ qx rx_tape rx_teller (qb 0) rx_equations rx_images rx_sheets (qf 0) rx_draft x_kept x_textFault x_readFault, pBa κ qb b_moments b_gains b_topped b_endStiffs b_outs b_endsAt b_stiffAt b_stepsAt b_steps b_latest, pFr κ qf f_held f_couples f_endJoints f_lengths f_stiffs f_loadBeams f_loadSizes f_loadPlaces f_joints f_beams f_loads]) C0 hw (cFr_isJoint l D κ qf f_held f_couples f_endJoints f_lengths f_stiffs f_loadBeams f_loadSizes f_loadPlaces f_joints f_beams f_loads a1 r1 hk2) cv_RX6_116 ⟨rfl, rfl, Nat.le_of_ble_eq_true rfl, Nat.le_of_ble_eq_true rfl⟩ ⟨Nat.zero_le _, Nat.zero_le _⟩ [2] [0, 1] [0, 1, 2] rfl rfl rfl rfl (by decide) rfl rfl rfl rfl rfl hl.1 (by simp only [List.map, List.sum_cons, List.sum_nil, Value.category]; decide) dX6_out_5 (fun H locs hw hn3 => ?_)
  refine lv_if_ne (tgt := 14) hx hb dX6_out_8 (by decide) (fun hc4 => ?_) (fun hc4 => ?_)
  · have hf := if_f hc4 hf
    refine lv_iload_n hx hb dX6_out_14 rfl (lv_at hl 2 rfl) ?_
    by_cases hc5 : a2 = 0
    · have hf := if_t hc5 hf
      refine lv_lookup (off := 25) (tgt := 40) hx hb dX6_out_15 (by decide) (by rw [hc5]; first | done | rfl) (by decide) ?_
      refine lv_aload_n hx hb dX6_out_40 rfl (lv_at hl 0 rfl) ?_
      refine r_get C0 hw 0 7 (v := .ref (qf 0)) rfl rfl inX6 (by decide) lk_X6_38 rfl dX6_out_41 ?_
      refine r_get C0 hw 11 1 (v := .ref (qf 2)) rfl rfl inX2 (by decide) lk_X6_138 rfl dX6_out_44 ?_
      refine lv_iload_n hx hb dX6_out_47 rfl (lv_at hl 1 rfl) ?_
      obtain ⟨hi6, hf⟩ := gd_s hf
      refine r_iald C0 hw 13 0 rfl rfl hi6 dX6_out_48 ?_
      obtain rfl := e1_ hf
      exact r_iret C0 hw trivial dX6_out_49
    have hf := if_f hc5 hf
    by_cases hc7 : a2 = 1
    · have hf := if_t hc7 hf
      refine lv_lookup (off := 35) (tgt := 50) hx hb dX6_out_15 (by decide) (by rw [hc7]; first | done | rfl) (by decide) ?_
      refine lv_aload_n hx hb dX6_out_50 rfl (lv_at hl 0 rfl) ?_
      refine r_get C0 hw 0 2 (v := .ref (qb 0)) rfl rfl inX6 (by decide) lk_X6_24 rfl dX6_out_51 ?_
      refine r_get C0 hw 2 4 (v := .ref (qb 5)) rfl rfl inX0 (by decide) lk_X6_141 rfl dX6_out_54 ?_
      refine lv_iload_n hx hb dX6_out_57 rfl (lv_at hl 1 rfl) ?_
      obtain ⟨hi8, hf⟩ := gd_s hf
      refine r_iald C0 hw 7 0 rfl rfl hi8 dX6_out_58 ?_
      obtain rfl := e1_ hf
      exact r_iret C0 hw trivial dX6_out_59
    have hf := if_f hc7 hf
    refine lv_lookup (off := 45) (tgt := 60) hx hb dX6_out_15 (by decide) ((lv_osw (k := 0) hc5 (by decide)).trans ((lv_osw (k := 1) hc7 (by decide)).trans (rfl))) (by decide) ?_
    refine lv_ldc (v := 2000000000) hx hb hown (hts _ kc_X6_137) dX6_out_60 ?_
    obtain rfl := e1_ hf
    exact r_iret C0 hw trivial dX6_out_62
  · have hf := if_t hc4 hf
    refine lv_ldc (v := 2000000000) hx hb hown (hts _ kc_X6_137) dX6_out_11 ?_
    obtain rfl := e1_ hf
    exact r_iret C0 hw trivial dX6_out_13
def FJm_at_L22 (f_endJoints : Nat → Int32) (f_beams l1 l2 : Int32) : Nat → Int32 → Int32 → Option (Int32)
  | 0, _, _ => none
  | n + 1, l3, l4 =>
      if ((2 : Int32) * f_beams) ≤ l4 then
        some ((-4 : Int32))
      else
        b1_ (FFr_jointOf f_endJoints l4) fun r7 =>
        if r7 = l1 then
          if l3 = l2 then
            some (l4)
          else
            lt_ (l3 + (1 : Int32)) fun v12 =>
            lt_ (l4 + (1 : Int32)) fun v13 =>
            FJm_at_L22 f_endJoints f_beams l1 l2 n v12 v13
        else
          lt_ (l4 + (1 : Int32)) fun v14 =>
          FJm_at_L22 f_endJoints f_beams l1 l2 n l3 v14
def FJm_at (f_endJoints : Nat → Int32) (f_joints f_beams a1 a2 : Int32) : Option (Int32) :=
  b1_ (FFr_isJoint f_joints a1) fun r1 =>
  if r1 = 0 then
    some ((-1 : Int32))
  else
    if 0 ≤ a2 then
      FJm_at_L22 f_endJoints f_beams a1 a2 1000 (0 : Int32) (0 : Int32)
    else
      some ((-1 : Int32))
set_option maxHeartbeats 4000000 in
set_option maxRecDepth 100000 in
theorem wJm_at_L22 {p : Program} {l : Launch} {e : Env} {s : State} {m : MethodId} {args : Array Value} {below : List Frame} {meth : Method} {c : Code} {A : Nat → Prop} {D : va_G} {κ : Nat → ClassId} (C0 : cx_ p s m meth c args cX6_at RX6 (some .int) 5 A) (qx : Nat → Nat) (rx_tape rx_teller rx_balance rx_equations rx_images rx_sheets rx_draft : Nat) (x_kept : Nat → Int32) (x_textFault x_readFault : Int32) (qf : Nat → Nat) (f_held f_couples f_endJoints f_lengths f_stiffs f_loadBeams f_loadSizes f_loadPlaces : Nat → Int32) (f_joints f_beams f_loads l1 l2 : Int32) (zr : Int32) : ∀ (n : Nat) (l3 : Int32) (l4 : Int32) (H : Heap) (locs : List Loc) (ls : Array Slot), wd_ D (tys0 κ) A s (List.flatten [pJm κ qx rx_tape rx_teller rx_balance rx_equations rx_images rx_sheets (qf 0) rx_draft x_kept x_textFault x_readFault, pFr κ qf f_held f_couples f_endJoints f_lengths f_stiffs f_loadBeams f_loadSizes f_loadPlaces f_joints f_beams f_loads]) H locs → lv_has ls 5 [(0, .ref (qx 0)), (1, .int l1), (2, .int l2), (3, .int l3), (4, .int l4)] → FJm_at_L22 f_endJoints f_beams l1 l2 n l3 l4 = some zr → W p l e ({ frames := 1, cells := 0, slots := 0, locals := 21 } : Room) s m args below meth c H locs 0 0 (qI_ D (tys0 κ) A nT_ zr (List.flatten [pJm κ qx rx_tape rx_teller rx_balance rx_equations rx_images rx_sheets (qf 0) rx_draft x_kept x_textFault x_readFault, pFr κ qf f_held f_couples f_endJoints f_lengths f_stiffs f_loadBeams f_loadSizes f_loadPlaces f_joints f_beams f_loads]) below args s) (F0 m 22 ls []) := by
  obtain ⟨hx, hb, -, hml, hown, hts, -, -⟩ := id C0
  intro n
  induction n with
  | zero =>
    intro l3 l4 H locs ls hw hl  hf
    cases hf
  | succ n ih =>
    intro l3 l4 H locs ls hw hl  hf
    rw [FJm_at_L22.eq_2] at hf
    refine lv_iload hx hb dX6_at_22 (lv_at hl 4 rfl) ?_
    refine lv_iconst (v := 2) hx hb dX6_at_24 (by decide) ?_
    refine lv_aload_n hx hb dX6_at_25 rfl (lv_at hl 0 rfl) ?_
    refine r_get C0 hw 0 7 (v := .ref (qf 0)) rfl rfl inX6 (by decide) lk_X6_38 rfl dX6_at_26 ?_
    refine r_get C0 hw 2 9 (v := .int f_beams) rfl rfl inX2 (by decide) lk_X6_97 rfl dX6_at_29 ?_
    refine lv_imul hx hb dX6_at_32 ?_
    refine lv_icmp_ge (tgt := 69) hx hb dX6_at_33 (by decide) (fun hc6 => ?_) (fun hc6 => ?_)
    · have hf := if_t hc6 hf
      refine lv_bipush (v := -4) hx hb dX6_at_69 (by decide) ?_
      obtain rfl := e1_ hf
      exact r_iret C0 hw trivial dX6_at_71
    · have hf := if_f hc6 hf
      refine lv_aload_n hx hb dX6_at_36 rfl (lv_at hl 0 rfl) ?_
      refine r_get C0 hw 0 7 (v := .ref (qf 0)) rfl rfl inX6 (by decide) lk_X6_38 rfl dX6_at_37 ?_
      refine lv_iload hx hb dX6_at_40 (lv_at hl 4 rfl) ?_
      obtain ⟨r7, hk8, hf⟩ := b1_s hf
      refine rv_i (vq := (RX2, TX2, 11)) (As := [.int l4]) (rest := []) (bs' := [pJm κ qx rx_tape rx_teller rx_balance rx_equations rx_images rx_sheets (qf 0) rx_draft x_kept x_textFault x_readFault, pFr κ qf f_held f_couples f_endJoints f_lengths f_stiffs f_loadBeams f_loadSizes f_loadPlaces f_joints f_beams f_loads]) C0 hw (cFr_jointOf l D κ qf f_held f_couples f_endJoints f_lengths f_stiffs f_loadBeams f_loadSizes f_loadPlaces f_joints f_beams f_loads l4 r7 hk8) cv_RX6_144 ⟨rfl, rfl, Nat.le_of_ble_eq_true rfl, Nat.le_of_ble_eq_true rfl⟩ ⟨Nat.zero_le _, Nat.zero_le _⟩ [1] [0] [0, 1] rfl rfl rfl rfl (by decide) rfl rfl rfl rfl rfl hl.1 (by simp only [List.map, List.sum_cons, List.sum_nil, Value.category]; decide) dX6_at_42 (fun H locs hw hn9 => ?_)
      refine lv_iload_n hx hb dX6_at_45 rfl (lv_at hl 1 rfl) ?_
      refine lv_icmp_eq (tgt := 52) hx hb dX6_at_46 (by decide) (fun hc10 => ?_) (fun hc10 => ?_)
      · have hf := if_t hc10 hf
        refine lv_iload_n hx hb dX6_at_52 rfl (lv_at hl 3 rfl) ?_
        refine lv_iload_n hx hb dX6_at_53 rfl (lv_at hl 2 rfl) ?_
        refine lv_icmp_ne (tgt := 60) hx hb dX6_at_54 (by decide) (fun hc11 => ?_) (fun hc11 => ?_)
        · have hf := if_f hc11 hf
          obtain ⟨v12, ev12⟩ : ∃ z : Int32, z = (l3 + (1 : Int32)) := ⟨_, rfl⟩
          have hf := lt_s_ hf v12 ev12
          refine lv_iinc (v := v12) (lv' := [(3, .int v12), (0, .ref (qx 0)), (1, .int l1), (2, .int l2), (4, .int l4)]) hx hb dX6_at_60 hl (k := 3) rfl (by rw [ev12]; rfl) (by decide) rfl (fun ls hl => ?_)
          obtain ⟨v13, ev13⟩ : ∃ z : Int32, z = (l4 + (1 : Int32)) := ⟨_, rfl⟩
          have hf := lt_s_ hf v13 ev13
          refine lv_iinc (v := v13) (lv' := [(4, .int v13), (3, .int v12), (0, .ref (qx 0)), (1, .int l1), (2, .int l2)]) hx hb dX6_at_63 hl (k := 4) rfl (by rw [ev13]; rfl) (by decide) rfl (fun ls hl => ?_)
          refine lv_goto (tgt := 22) hx hb dX6_at_66 (by decide) ?_
          exact ih v12 v13 H locs ls hw (lv_sub hl [2, 3, 4, 1, 0] rfl)  hf
        · have hf := if_t hc11 hf
          refine lv_iload hx hb dX6_at_57 (lv_at hl 4 rfl) ?_
          obtain rfl := e1_ hf
          exact r_iret C0 hw trivial dX6_at_59
      · have hf := if_f hc10 hf
        refine lv_goto (tgt := 63) hx hb dX6_at_49 (by decide) ?_
        obtain ⟨v14, ev14⟩ : ∃ z : Int32, z = (l4 + (1 : Int32)) := ⟨_, rfl⟩
        have hf := lt_s_ hf v14 ev14
        refine lv_iinc (v := v14) (lv' := [(4, .int v14), (0, .ref (qx 0)), (1, .int l1), (2, .int l2), (3, .int l3)]) hx hb dX6_at_63 hl (k := 4) rfl (by rw [ev14]; rfl) (by decide) rfl (fun ls hl => ?_)
        refine lv_goto (tgt := 22) hx hb dX6_at_66 (by decide) ?_
        exact ih l3 v14 H locs ls hw (lv_sub hl [1, 2, 3, 4, 0] rfl)  hf
set_option maxHeartbeats 4000000 in
set_option maxRecDepth 100000 in
theorem cJm_at (l : Launch) (D : va_G) (κ : Nat → ClassId) (qx : Nat → Nat) (rx_tape rx_teller rx_balance rx_equations rx_images rx_sheets rx_draft : Nat) (x_kept : Nat → Int32) (x_textFault x_readFault : Int32) (qf : Nat → Nat) (f_held f_couples f_endJoints f_lengths f_stiffs f_loadBeams f_loadSizes f_loadPlaces : Nat → Int32) (f_joints f_beams f_loads a1 a2 zr : Int32) (hf : FJm_at f_endJoints f_joints f_beams a1 a2 = some zr) : mI_ l yX6_at (Cond.code yX6_at cX6_at 5 (some .int) :: uw) ({ frames := 1, cells := 0, slots := 0, locals := 21 } : Room) D (tys0 κ) [.ref (qx 0), .int a1, .int a2] (List.flatten [pJm κ qx rx_tape rx_teller rx_balance rx_equations rx_images rx_sheets (qf 0) rx_draft x_kept x_textFault x_readFault, pFr κ qf f_held f_couples f_endJoints f_lengths f_stiffs f_loadBeams f_loadSizes f_loadPlaces f_joints f_beams f_loads]) nT_ zr (List.flatten [pJm κ qx rx_tape rx_teller rx_balance rx_equations rx_images rx_sheets (qf 0) rx_draft x_kept x_textFault x_readFault, pFr κ qf f_held f_couples f_endJoints f_lengths f_stiffs f_loadBeams f_loadSizes f_loadPlaces f_joints f_beams f_loads]) := by
  unfold FJm_at at hf
  refine mI_of (by decide) (Nat.le_of_ble_eq_true rfl) ?_
  intro p e s m below meth c A ls H locs C0 hw hl
  obtain ⟨hx, hb, -, hml, hown, hts, -, -⟩ := id C0
  have hl : lv_has ls 5 [(0, .ref (qx 0)), (1, .int a1), (2, .int a2)] := hl
  refine lv_aload_n hx hb dX6_at_0 rfl (lv_at hl 0 rfl) ?_
  refine r_get C0 hw 0 7 (v := .ref (qf 0)) rfl rfl inX6 (by decide) lk_X6_38 rfl dX6_at_1 ?_
  refine lv_iload_n hx hb dX6_at_4 rfl (lv_at hl 1 rfl) ?_
  obtain ⟨r1, hk2, hf⟩ := b1_s hf
  refine rv_i (vq := (RX2, TX2, 11)) (As := [.int a1]) (rest := []) (bs' := [pJm κ qx rx_tape rx_teller rx_balance rx_equations rx_images rx_sheets (qf 0) rx_draft x_kept x_textFault x_readFault, pFr κ qf f_held f_couples f_endJoints f_lengths f_stiffs f_loadBeams f_loadSizes f_loadPlaces f_joints f_beams f_loads]) C0 hw (cFr_isJoint l D κ qf f_held f_couples f_endJoints f_lengths f_stiffs f_loadBeams f_loadSizes f_loadPlaces f_joints f_beams f_loads a1 r1 hk2) cv_RX6_116 ⟨rfl, rfl, Nat.le_of_ble_eq_true rfl, Nat.le_of_ble_eq_true rfl⟩ ⟨Nat.zero_le _, Nat.zero_le _⟩ [1] [0] [0, 1] rfl rfl rfl rfl (by decide) rfl rfl rfl rfl rfl hl.1 (by simp only [List.map, List.sum_cons, List.sum_nil, Value.category]; decide) dX6_at_5 (fun H locs hw hn3 => ?_)
  refine lv_if_eq (tgt := 15) hx hb dX6_at_8 (by decide) (fun hc4 => ?_) (fun hc4 => ?_)
  · have hf := if_t hc4 hf
    refine lv_iconst (v := -1) hx hb dX6_at_15 (by decide) ?_
    obtain rfl := e1_ hf
    exact r_iret C0 hw trivial dX6_at_16
  · have hf := if_f hc4 hf
    refine lv_iload_n hx hb dX6_at_11 rfl (lv_at hl 2 rfl) ?_
    refine lv_if_ge (tgt := 17) hx hb dX6_at_12 (by decide) (fun hc5 => ?_) (fun hc5 => ?_)
    · have hf := if_t hc5 hf
      refine lv_iconst (v := 0) hx hb dX6_at_17 (by decide) ?_
      refine lv_istore_n (lv' := [(3, .int (0 : Int32)), (0, .ref (qx 0)), (1, .int a1), (2, .int a2)]) hx hb dX6_at_18 rfl hl (by decide) rfl (fun ls hl => ?_)
      refine lv_iconst (v := 0) hx hb dX6_at_19 (by decide) ?_
      refine lv_istore (lv' := [(4, .int (0 : Int32)), (3, .int (0 : Int32)), (0, .ref (qx 0)), (1, .int a1), (2, .int a2)]) hx hb dX6_at_20 hl (by decide) rfl (fun ls hl => ?_)
      exact wJm_at_L22 C0 qx rx_tape rx_teller rx_balance rx_equations rx_images rx_sheets rx_draft x_kept x_textFault x_readFault qf f_held f_couples f_endJoints f_lengths f_stiffs f_loadBeams f_loadSizes f_loadPlaces f_joints f_beams f_loads a1 a2 zr 1000 (0 : Int32) (0 : Int32) H locs ls hw (lv_sub hl [2, 3, 4, 1, 0] rfl)  hf
    · have hf := if_f hc5 hf
      refine lv_iconst (v := -1) hx hb dX6_at_15 (by decide) ?_
      obtain rfl := e1_ hf
      exact r_iret C0 hw trivial dX6_at_16
def FJm_beam (f_endJoints f_lengths f_stiffs f_loadBeams : Nat → Int32) (f_beams f_loads a1 a2 : Int32) : Option (Int32) :=
  b1_ (FFr_isBeam f_beams a1) fun r1 =>
  if r1 = 0 then
    some ((-1 : Int32))
  else
    if a2 = 0 then
      b1_ (FFr_jointOf f_endJoints ((2 : Int32) * a1)) fun r6 =>
      some (r6)
    else
    if a2 = 1 then
      b1_ (FFr_jointOf f_endJoints (((2 : Int32) * a1) + (1 : Int32))) fun r10 =>
      some (r10)
    else
    if a2 = 2 then
      gd_ a1 10 <|
      some ((f_lengths a1.toNatClampNeg))
    else
    if a2 = 3 then
      gd_ a1 10 <|
      some ((f_stiffs a1.toNatClampNeg))
    else
    if a2 = 4 then
      b1_ (FFr_stiffness f_lengths f_stiffs a1) fun r18 =>
      some (r18)
    else
    if a2 = 5 then
      b1_ (FFr_loadsOn f_loadBeams f_loads a1) fun r22 =>
      some (r22)
    else
    some ((-1 : Int32))
set_option maxHeartbeats 4000000 in
set_option maxRecDepth 100000 in
theorem cJm_beam (l : Launch) (D : va_G) (κ : Nat → ClassId) (qx : Nat → Nat) (rx_tape rx_teller rx_balance rx_equations rx_images rx_sheets rx_draft : Nat) (x_kept : Nat → Int32) (x_textFault x_readFault : Int32) (qf : Nat → Nat) (f_held f_couples f_endJoints f_lengths f_stiffs f_loadBeams f_loadSizes f_loadPlaces : Nat → Int32) (f_joints f_beams f_loads a1 a2 zr : Int32) (hf : FJm_beam f_endJoints f_lengths f_stiffs f_loadBeams f_beams f_loads a1 a2 = some zr) : mI_ l yX6_beam (Cond.code yX6_beam cX6_beam 3 (some .int) :: uw) ({ frames := 1, cells := 0, slots := 0, locals := 23 } : Room) D (tys0 κ) [.ref (qx 0), .int a1, .int a2] (List.flatten [pJm κ qx rx_tape rx_teller rx_balance rx_equations rx_images rx_sheets (qf 0) rx_draft x_kept x_textFault x_readFault, pFr κ qf f_held f_couples f_endJoints f_lengths f_stiffs f_loadBeams f_loadSizes f_loadPlaces f_joints f_beams f_loads]) nT_ zr (List.flatten [pJm κ qx rx_tape rx_teller rx_balance rx_equations rx_images rx_sheets (qf 0) rx_draft x_kept x_textFault x_readFault, pFr κ qf f_held f_couples f_endJoints f_lengths f_stiffs f_loadBeams f_loadSizes f_loadPlaces f_joints f_beams f_loads]) := by
  unfold FJm_beam at hf
  refine mI_of (by decide) (Nat.le_of_ble_eq_true rfl) ?_
  intro p e s m below meth c A ls H locs C0 hw hl
  obtain ⟨hx, hb, -, hml, hown, hts, -, -⟩ := id C0
  have hl : lv_has ls 3 [(0, .ref (qx 0)), (1, .int a1), (2, .int a2)] := hl
  refine lv_aload_n hx hb dX6_beam_0 rfl (lv_at hl 0 rfl) ?_
  refine r_get C0 hw 0 7 (v := .ref (qf 0)) rfl rfl inX6 (by decide) lk_X6_38 rfl dX6_beam_1 ?_
  refine lv_iload_n hx hb dX6_beam_4 rfl (lv_at hl 1 rfl) ?_
  obtain ⟨r1, hk2, hf⟩ := b1_s hf
  refine rv_i (vq := (RX2, TX2, 11)) (As := [.int a1]) (rest := []) (bs' := [pJm κ qx rx_tape rx_teller rx_balance rx_equations rx_images rx_sheets (qf 0) rx_draft x_kept x_textFault x_readFault, pFr κ qf f_held f_couples f_endJoints f_lengths f_stiffs f_loadBeams f_loadSizes f_loadPlaces f_joints f_beams f_loads]) C0 hw (cFr_isBeam l D κ qf f_held f_couples f_endJoints f_lengths f_stiffs f_loadBeams f_loadSizes f_loadPlaces f_joints f_beams f_loads a1 r1 hk2) cv_RX6_148 ⟨rfl, rfl, Nat.le_of_ble_eq_true rfl, Nat.le_of_ble_eq_true rfl⟩ ⟨Nat.zero_le _, Nat.zero_le _⟩ [1] [0] [0, 1] rfl rfl rfl rfl (by decide) rfl rfl rfl rfl rfl hl.1 (by simp only [List.map, List.sum_cons, List.sum_nil, Value.category]; decide) dX6_beam_5 (fun H locs hw hn3 => ?_)
  refine lv_if_ne (tgt := 13) hx hb dX6_beam_8 (by decide) (fun hc4 => ?_) (fun hc4 => ?_)
  · have hf := if_f hc4 hf
    refine lv_iload_n hx hb dX6_beam_13 rfl (lv_at hl 2 rfl) ?_
    by_cases hc5 : a2 = 0
    · have hf := if_t hc5 hf
      refine lv_tableIn (tgt := 52) hx hb dX6_beam_14 (by rw [hc5]; decide) (by rw [hc5]; decide) (by rw [hc5]; rfl) (by decide) ?_
      refine lv_aload_n hx hb dX6_beam_52 rfl (lv_at hl 0 rfl) ?_
      refine r_get C0 hw 0 7 (v := .ref (qf 0)) rfl rfl inX6 (by decide) lk_X6_38 rfl dX6_beam_53 ?_
      refine lv_iconst (v := 2) hx hb dX6_beam_56 (by decide) ?_
      refine lv_iload_n hx hb dX6_beam_57 rfl (lv_at hl 1 rfl) ?_
      refine lv_imul hx hb dX6_beam_58 ?_
      obtain ⟨r6, hk7, hf⟩ := b1_s hf
      refine rv_i (vq := (RX2, TX2, 11)) (As := [.int ((2 : Int32) * a1)]) (rest := []) (bs' := [pJm κ qx rx_tape rx_teller rx_balance rx_equations rx_images rx_sheets (qf 0) rx_draft x_kept x_textFault x_readFault, pFr κ qf f_held f_couples f_endJoints f_lengths f_stiffs f_loadBeams f_loadSizes f_loadPlaces f_joints f_beams f_loads]) C0 hw (cFr_jointOf l D κ qf f_held f_couples f_endJoints f_lengths f_stiffs f_loadBeams f_loadSizes f_loadPlaces f_joints f_beams f_loads ((2 : Int32) * a1) r6 hk7) cv_RX6_144 ⟨rfl, rfl, Nat.le_of_ble_eq_true rfl, Nat.le_of_ble_eq_true rfl⟩ ⟨Nat.zero_le _, Nat.zero_le _⟩ [1] [0] [0, 1] rfl rfl rfl rfl (by decide) rfl rfl rfl rfl rfl hl.1 (by simp only [List.map, List.sum_cons, List.sum_nil, Value.category]; decide) dX6_beam_59 (fun H locs hw hn8 => ?_)
      obtain rfl := e1_ hf
      exact r_iret C0 hw trivial dX6_beam_62
    have hf := if_f hc5 hf
    by_cases hc9 : a2 = 1
    · have hf := if_t hc9 hf
      refine lv_tableIn (tgt := 63) hx hb dX6_beam_14 (by rw [hc9]; decide) (by rw [hc9]; decide) (by rw [hc9]; rfl) (by decide) ?_
      refine lv_aload_n hx hb dX6_beam_63 rfl (lv_at hl 0 rfl) ?_
      refine r_get C0 hw 0 7 (v := .ref (qf 0)) rfl rfl inX6 (by decide) lk_X6_38 rfl dX6_beam_64 ?_
      refine lv_iconst (v := 2) hx hb dX6_beam_67 (by decide) ?_
      refine lv_iload_n hx hb dX6_beam_68 rfl (lv_at hl 1 rfl) ?_
      refine lv_imul hx hb dX6_beam_69 ?_
      refine lv_iconst (v := 1) hx hb dX6_beam_70 (by decide) ?_
      refine lv_iadd hx hb dX6_beam_71 ?_
      obtain ⟨r10, hk11, hf⟩ := b1_s hf
      refine rv_i (vq := (RX2, TX2, 11)) (As := [.int (((2 : Int32) * a1) + (1 : Int32))]) (rest := []) (bs' := [pJm κ qx rx_tape rx_teller rx_balance rx_equations rx_images rx_sheets (qf 0) rx_draft x_kept x_textFault x_readFault, pFr κ qf f_held f_couples f_endJoints f_lengths f_stiffs f_loadBeams f_loadSizes f_loadPlaces f_joints f_beams f_loads]) C0 hw (cFr_jointOf l D κ qf f_held f_couples f_endJoints f_lengths f_stiffs f_loadBeams f_loadSizes f_loadPlaces f_joints f_beams f_loads (((2 : Int32) * a1) + (1 : Int32)) r10 hk11) cv_RX6_144 ⟨rfl, rfl, Nat.le_of_ble_eq_true rfl, Nat.le_of_ble_eq_true rfl⟩ ⟨Nat.zero_le _, Nat.zero_le _⟩ [1] [0] [0, 1] rfl rfl rfl rfl (by decide) rfl rfl rfl rfl rfl hl.1 (by simp only [List.map, List.sum_cons, List.sum_nil, Value.category]; decide) dX6_beam_72 (fun H locs hw hn12 => ?_)
      obtain rfl := e1_ hf
      exact r_iret C0 hw trivial dX6_beam_75
    have hf := if_f hc9 hf
    by_cases hc13 : a2 = 2
    · have hf := if_t hc13 hf
      refine lv_tableIn (tgt := 76) hx hb dX6_beam_14 (by rw [hc13]; decide) (by rw [hc13]; decide) (by rw [hc13]; rfl) (by decide) ?_
      refine lv_aload_n hx hb dX6_beam_76 rfl (lv_at hl 0 rfl) ?_
      refine r_get C0 hw 0 7 (v := .ref (qf 0)) rfl rfl inX6 (by decide) lk_X6_38 rfl dX6_beam_77 ?_
      refine r_get C0 hw 2 3 (v := .ref (qf 4)) rfl rfl inX2 (by decide) lk_X6_151 rfl dX6_beam_80 ?_
      refine lv_iload_n hx hb dX6_beam_83 rfl (lv_at hl 1 rfl) ?_
      obtain ⟨hi14, hf⟩ := gd_s hf
      refine r_iald C0 hw 6 0 rfl rfl hi14 dX6_beam_84 ?_
      obtain rfl := e1_ hf
      exact r_iret C0 hw trivial dX6_beam_85
    have hf := if_f hc13 hf
    by_cases hc15 : a2 = 3
    · have hf := if_t hc15 hf
      refine lv_tableIn (tgt := 86) hx hb dX6_beam_14 (by rw [hc15]; decide) (by rw [hc15]; decide) (by rw [hc15]; rfl) (by decide) ?_
      refine lv_aload_n hx hb dX6_beam_86 rfl (lv_at hl 0 rfl) ?_
      refine r_get C0 hw 0 7 (v := .ref (qf 0)) rfl rfl inX6 (by decide) lk_X6_38 rfl dX6_beam_87 ?_
      refine r_get C0 hw 2 4 (v := .ref (qf 5)) rfl rfl inX2 (by decide) lk_X6_154 rfl dX6_beam_90 ?_
      refine lv_iload_n hx hb dX6_beam_93 rfl (lv_at hl 1 rfl) ?_
      obtain ⟨hi16, hf⟩ := gd_s hf
      refine r_iald C0 hw 7 0 rfl rfl hi16 dX6_beam_94 ?_
      obtain rfl := e1_ hf
      exact r_iret C0 hw trivial dX6_beam_95
    have hf := if_f hc15 hf
    by_cases hc17 : a2 = 4
    · have hf := if_t hc17 hf
      refine lv_tableIn (tgt := 96) hx hb dX6_beam_14 (by rw [hc17]; decide) (by rw [hc17]; decide) (by rw [hc17]; rfl) (by decide) ?_
      refine lv_aload_n hx hb dX6_beam_96 rfl (lv_at hl 0 rfl) ?_
      refine r_get C0 hw 0 7 (v := .ref (qf 0)) rfl rfl inX6 (by decide) lk_X6_38 rfl dX6_beam_97 ?_
      refine lv_iload_n hx hb dX6_beam_100 rfl (lv_at hl 1 rfl) ?_
      obtain ⟨r18, hk19, hf⟩ := b1_s hf
      refine rv_i (vq := (RX2, TX2, 11)) (As := [.int a1]) (rest := []) (bs' := [pJm κ qx rx_tape rx_teller rx_balance rx_equations rx_images rx_sheets (qf 0) rx_draft x_kept x_textFault x_readFault, pFr κ qf f_held f_couples f_endJoints f_lengths f_stiffs f_loadBeams f_loadSizes f_loadPlaces f_joints f_beams f_loads]) C0 hw (cFr_stiffness l D κ qf f_held f_couples f_endJoints f_lengths f_stiffs f_loadBeams f_loadSizes f_loadPlaces f_joints f_beams f_loads a1 r18 hk19) cv_RX6_157 ⟨rfl, rfl, Nat.le_of_ble_eq_true rfl, Nat.le_of_ble_eq_true rfl⟩ ⟨Nat.zero_le _, Nat.zero_le _⟩ [1] [0] [0, 1] rfl rfl rfl rfl (by decide) rfl rfl rfl rfl rfl hl.1 (by simp only [List.map, List.sum_cons, List.sum_nil, Value.category]; decide) dX6_beam_101 (fun H locs hw hn20 => ?_)
      obtain rfl := e1_ hf
      exact r_iret C0 hw trivial dX6_beam_104
    have hf := if_f hc17 hf
    by_cases hc21 : a2 = 5
    · have hf := if_t hc21 hf
      refine lv_tableIn (tgt := 105) hx hb dX6_beam_14 (by rw [hc21]; decide) (by rw [hc21]; decide) (by rw [hc21]; rfl) (by decide) ?_
      refine lv_aload_n hx hb dX6_beam_105 rfl (lv_at hl 0 rfl) ?_
      refine r_get C0 hw 0 7 (v := .ref (qf 0)) rfl rfl inX6 (by decide) lk_X6_38 rfl dX6_beam_106 ?_
      refine lv_iload_n hx hb dX6_beam_109 rfl (lv_at hl 1 rfl) ?_
      obtain ⟨r22, hk23, hf⟩ := b1_s hf
      refine rv_i (vq := (RX2, TX2, 11)) (As := [.int a1]) (rest := []) (bs' := [pJm κ qx rx_tape rx_teller rx_balance rx_equations rx_images rx_sheets (qf 0) rx_draft x_kept x_textFault x_readFault, pFr κ qf f_held f_couples f_endJoints f_lengths f_stiffs f_loadBeams f_loadSizes f_loadPlaces f_joints f_beams f_loads]) C0 hw (cFr_loadsOn l D κ qf f_held f_couples f_endJoints f_lengths f_stiffs f_loadBeams f_loadSizes f_loadPlaces f_joints f_beams f_loads a1 r22 hk23) cv_RX6_160 ⟨rfl, rfl, Nat.le_of_ble_eq_true rfl, Nat.le_of_ble_eq_true rfl⟩ ⟨Nat.zero_le _, Nat.zero_le _⟩ [1] [0] [0, 1] rfl rfl rfl rfl (by decide) rfl rfl rfl rfl rfl hl.1 (by simp only [List.map, List.sum_cons, List.sum_nil, Value.category]; decide) dX6_beam_110 (fun H locs hw hn24 => ?_)
      obtain rfl := e1_ hf
      exact r_iret C0 hw trivial dX6_beam_113
    have hf := if_f hc21 hf
    have hc5 := lv_neT (a := 0) hc5 (by decide)
    have hc9 := lv_neT (a := 1) hc9 (by decide)
    have hc13 := lv_neT (a := 2) hc13 (by decide)
    have hc15 := lv_neT (a := 3) hc15 (by decide)
    have hc17 := lv_neT (a := 4) hc17 (by decide)
    have hc21 := lv_neT (a := 5) hc21 (by decide)
    refine lv_tableOut (tgt := 114) hx hb dX6_beam_14 (by omega) (by decide) ?_
    refine lv_iconst (v := -1) hx hb dX6_beam_114 (by decide) ?_
    obtain rfl := e1_ hf
    exact r_iret C0 hw trivial dX6_beam_115
  · have hf := if_t hc4 hf
    refine lv_iconst (v := -1) hx hb dX6_beam_11 (by decide) ?_
    obtain rfl := e1_ hf
    exact r_iret C0 hw trivial dX6_beam_12
def FJm_load (f_loadBeams f_loadSizes f_loadPlaces : Nat → Int32) (f_loads a1 a2 : Int32) : Option (Int32) :=
  b1_ (FFr_isLoad f_loads a1) fun r1 =>
  if r1 = 0 then
    some ((-1 : Int32))
  else
    gd_ a1 8 <|
    lt_ (fun (v6 : Int32) =>
      if a2 = 0 then
        gd_ a1 8 <|
        some ((f_loadBeams a1.toNatClampNeg))
      else
      if a2 = 1 then
        if v6 = 0 then
          some ((0 : Int32))
        else
          some ((1 : Int32))
      else
      if a2 = 2 then
        gd_ a1 8 <|
        some ((f_loadSizes a1.toNatClampNeg))
      else
      if a2 = 3 then
        if v6 = 0 then
          some ((-4 : Int32))
        else
          gd_ a1 8 <|
          some ((f_loadPlaces a1.toNatClampNeg))
      else
      some ((-1 : Int32)) : Int32 → Option (Int32)) fun j16 =>
    if (f_loadPlaces a1.toNatClampNeg) ≤ 0 then
      j16 (0 : Int32)
    else
      j16 (1 : Int32)
set_option maxHeartbeats 4000000 in
set_option maxRecDepth 100000 in
theorem cJm_load (l : Launch) (D : va_G) (κ : Nat → ClassId) (qx : Nat → Nat) (rx_tape rx_teller rx_balance rx_equations rx_images rx_sheets rx_draft : Nat) (x_kept : Nat → Int32) (x_textFault x_readFault : Int32) (qf : Nat → Nat) (f_held f_couples f_endJoints f_lengths f_stiffs f_loadBeams f_loadSizes f_loadPlaces : Nat → Int32) (f_joints f_beams f_loads a1 a2 zr : Int32) (hf : FJm_load f_loadBeams f_loadSizes f_loadPlaces f_loads a1 a2 = some zr) : mI_ l yX6_load (Cond.code yX6_load cX6_load 4 (some .int) :: uw) ({ frames := 1, cells := 0, slots := 0, locals := 21 } : Room) D (tys0 κ) [.ref (qx 0), .int a1, .int a2] (List.flatten [pJm κ qx rx_tape rx_teller rx_balance rx_equations rx_images rx_sheets (qf 0) rx_draft x_kept x_textFault x_readFault, pFr κ qf f_held f_couples f_endJoints f_lengths f_stiffs f_loadBeams f_loadSizes f_loadPlaces f_joints f_beams f_loads]) nT_ zr (List.flatten [pJm κ qx rx_tape rx_teller rx_balance rx_equations rx_images rx_sheets (qf 0) rx_draft x_kept x_textFault x_readFault, pFr κ qf f_held f_couples f_endJoints f_lengths f_stiffs f_loadBeams f_loadSizes f_loadPlaces f_joints f_beams f_loads]) := by
  unfold FJm_load at hf
  refine mI_of (by decide) (Nat.le_of_ble_eq_true rfl) ?_
  intro p e s m below meth c A ls H locs C0 hw hl
  obtain ⟨hx, hb, -, hml, hown, hts, -, -⟩ := id C0
  have hl : lv_has ls 4 [(0, .ref (qx 0)), (1, .int a1), (2, .int a2)] := hl
  refine lv_aload_n hx hb dX6_load_0 rfl (lv_at hl 0 rfl) ?_
  refine r_get C0 hw 0 7 (v := .ref (qf 0)) rfl rfl inX6 (by decide) lk_X6_38 rfl dX6_load_1 ?_
  refine lv_iload_n hx hb dX6_load_4 rfl (lv_at hl 1 rfl) ?_
  obtain ⟨r1, hk2, hf⟩ := b1_s hf
  refine rv_i (vq := (RX2, TX2, 11)) (As := [.int a1]) (rest := []) (bs' := [pJm κ qx rx_tape rx_teller rx_balance rx_equations rx_images rx_sheets (qf 0) rx_draft x_kept x_textFault x_readFault, pFr κ qf f_held f_couples f_endJoints f_lengths f_stiffs f_loadBeams f_loadSizes f_loadPlaces f_joints f_beams f_loads]) C0 hw (cFr_isLoad l D κ qf f_held f_couples f_endJoints f_lengths f_stiffs f_loadBeams f_loadSizes f_loadPlaces f_joints f_beams f_loads a1 r1 hk2) cv_RX6_163 ⟨rfl, rfl, Nat.le_of_ble_eq_true rfl, Nat.le_of_ble_eq_true rfl⟩ ⟨Nat.zero_le _, Nat.zero_le _⟩ [1] [0] [0, 1] rfl rfl rfl rfl (by decide) rfl rfl rfl rfl rfl hl.1 (by simp only [List.map, List.sum_cons, List.sum_nil, Value.category]; decide) dX6_load_5 (fun H locs hw hn3 => ?_)
  refine lv_if_ne (tgt := 13) hx hb dX6_load_8 (by decide) (fun hc4 => ?_) (fun hc4 => ?_)
  · have hf := if_f hc4 hf
    refine lv_aload_n hx hb dX6_load_13 rfl (lv_at hl 0 rfl) ?_
    refine r_get C0 hw 0 7 (v := .ref (qf 0)) rfl rfl inX6 (by decide) lk_X6_38 rfl dX6_load_14 ?_
    refine r_get C0 hw 2 7 (v := .ref (qf 8)) rfl rfl inX2 (by decide) lk_X6_166 rfl dX6_load_17 ?_
    refine lv_iload_n hx hb dX6_load_20 rfl (lv_at hl 1 rfl) ?_
    obtain ⟨hi5, hf⟩ := gd_s hf
    refine r_iald C0 hw 10 0 rfl rfl hi5 dX6_load_21 ?_
    obtain ⟨j16, ej16, hf⟩ := lt_e hf
    have hj17 : ∀ (v6 : Int32) (H : Heap) (locs : List Loc) (ls : Array Slot), wd_ D (tys0 κ) A s (List.flatten [pJm κ qx rx_tape rx_teller rx_balance rx_equations rx_images rx_sheets (qf 0) rx_draft x_kept x_textFault x_readFault, pFr κ qf f_held f_couples f_endJoints f_lengths f_stiffs f_loadBeams f_loadSizes f_loadPlaces f_joints f_beams f_loads]) H locs → lv_has ls 4 [(0, .ref (qx 0)), (1, .int a1), (2, .int a2)] → j16 v6 = some zr → W p l e ({ frames := 1, cells := 0, slots := 0, locals := 21 } : Room) s m ([.ref (qx 0), .int a1, .int a2] : List Value).toArray below meth c H locs 0 0 (qI_ D (tys0 κ) A nT_ zr (List.flatten [pJm κ qx rx_tape rx_teller rx_balance rx_equations rx_images rx_sheets (qf 0) rx_draft x_kept x_textFault x_readFault, pFr κ qf f_held f_couples f_endJoints f_lengths f_stiffs f_loadBeams f_loadSizes f_loadPlaces f_joints f_beams f_loads]) below ([.ref (qx 0), .int a1, .int a2] : List Value).toArray s) (F0 m 30 ls [.int v6]) := by
      intro v6 H locs ls hw hl  hf
      have hf : (if a2 = 0 then gd_ a1 8 <| some ((f_loadBeams a1.toNatClampNeg)) else if a2 = 1 then if v6 = 0 then some ((0 : Int32)) else some ((1 : Int32)) else if a2 = 2 then gd_ a1 8 <| some ((f_loadSizes a1.toNatClampNeg)) else if a2 = 3 then if v6 = 0 then some ((-4 : Int32)) else gd_ a1 8 <| some ((f_loadPlaces a1.toNatClampNeg)) else some ((-1 : Int32))) = some zr := by rw [ej16] at hf; exact hf
      refine lv_istore_n (lv' := [(3, .int v6), (0, .ref (qx 0)), (1, .int a1), (2, .int a2)]) hx hb dX6_load_30 rfl hl (by decide) rfl (fun ls hl => ?_)
      refine lv_iload_n hx hb dX6_load_31 rfl (lv_at hl 3 rfl) ?_
      by_cases hc7 : a2 = 0
      · have hf := if_t hc7 hf
        refine lv_tableIn (tgt := 64) hx hb dX6_load_32 (by rw [hc7]; decide) (by rw [hc7]; decide) (by rw [hc7]; rfl) (by decide) ?_
        refine lv_aload_n hx hb dX6_load_64 rfl (lv_at hl 1 rfl) ?_
        refine r_get C0 hw 0 7 (v := .ref (qf 0)) rfl rfl inX6 (by decide) lk_X6_38 rfl dX6_load_65 ?_
        refine r_get C0 hw 2 5 (v := .ref (qf 6)) rfl rfl inX2 (by decide) lk_X6_169 rfl dX6_load_68 ?_
        refine lv_iload_n hx hb dX6_load_71 rfl (lv_at hl 2 rfl) ?_
        obtain ⟨hi8, hf⟩ := gd_s hf
        refine r_iald C0 hw 8 0 rfl rfl hi8 dX6_load_72 ?_
        obtain rfl := e1_ hf
        exact r_iret C0 hw trivial dX6_load_73
      have hf := if_f hc7 hf
      by_cases hc9 : a2 = 1
      · have hf := if_t hc9 hf
        refine lv_tableIn (tgt := 74) hx hb dX6_load_32 (by rw [hc9]; decide) (by rw [hc9]; decide) (by rw [hc9]; rfl) (by decide) ?_
        refine lv_iload_n hx hb dX6_load_74 rfl (lv_at hl 0 rfl) ?_
        refine lv_if_eq (tgt := 82) hx hb dX6_load_75 (by decide) (fun hc10 => ?_) (fun hc10 => ?_)
        · have hf := if_t hc10 hf
          refine lv_iconst (v := 0) hx hb dX6_load_82 (by decide) ?_
          obtain rfl := e1_ hf
          exact r_iret C0 hw trivial dX6_load_83
        · have hf := if_f hc10 hf
          refine lv_iconst (v := 1) hx hb dX6_load_78 (by decide) ?_
          refine lv_goto (tgt := 83) hx hb dX6_load_79 (by decide) ?_
          obtain rfl := e1_ hf
          exact r_iret C0 hw trivial dX6_load_83
      have hf := if_f hc9 hf
      by_cases hc11 : a2 = 2
      · have hf := if_t hc11 hf
        refine lv_tableIn (tgt := 84) hx hb dX6_load_32 (by rw [hc11]; decide) (by rw [hc11]; decide) (by rw [hc11]; rfl) (by decide) ?_
        refine lv_aload_n hx hb dX6_load_84 rfl (lv_at hl 1 rfl) ?_
        refine r_get C0 hw 0 7 (v := .ref (qf 0)) rfl rfl inX6 (by decide) lk_X6_38 rfl dX6_load_85 ?_
        refine r_get C0 hw 2 6 (v := .ref (qf 7)) rfl rfl inX2 (by decide) lk_X6_172 rfl dX6_load_88 ?_
        refine lv_iload_n hx hb dX6_load_91 rfl (lv_at hl 2 rfl) ?_
        obtain ⟨hi12, hf⟩ := gd_s hf
        refine r_iald C0 hw 9 0 rfl rfl hi12 dX6_load_92 ?_
        obtain rfl := e1_ hf
        exact r_iret C0 hw trivial dX6_load_93
      have hf := if_f hc11 hf
      by_cases hc13 : a2 = 3
      · have hf := if_t hc13 hf
        refine lv_tableIn (tgt := 94) hx hb dX6_load_32 (by rw [hc13]; decide) (by rw [hc13]; decide) (by rw [hc13]; rfl) (by decide) ?_
        refine lv_iload_n hx hb dX6_load_94 rfl (lv_at hl 0 rfl) ?_
        refine lv_if_eq (tgt := 110) hx hb dX6_load_95 (by decide) (fun hc14 => ?_) (fun hc14 => ?_)
        · have hf := if_t hc14 hf
          refine lv_bipush (v := -4) hx hb dX6_load_110 (by decide) ?_
          obtain rfl := e1_ hf
          exact r_iret C0 hw trivial dX6_load_112
        · have hf := if_f hc14 hf
          refine lv_aload_n hx hb dX6_load_98 rfl (lv_at hl 1 rfl) ?_
          refine r_get C0 hw 0 7 (v := .ref (qf 0)) rfl rfl inX6 (by decide) lk_X6_38 rfl dX6_load_99 ?_
          refine r_get C0 hw 2 7 (v := .ref (qf 8)) rfl rfl inX2 (by decide) lk_X6_166 rfl dX6_load_102 ?_
          refine lv_iload_n hx hb dX6_load_105 rfl (lv_at hl 2 rfl) ?_
          obtain ⟨hi15, hf⟩ := gd_s hf
          refine r_iald C0 hw 10 0 rfl rfl hi15 dX6_load_106 ?_
          refine lv_goto (tgt := 112) hx hb dX6_load_107 (by decide) ?_
          obtain rfl := e1_ hf
          exact r_iret C0 hw trivial dX6_load_112
      have hf := if_f hc13 hf
      have hc7 := lv_neT (a := 0) hc7 (by decide)
      have hc9 := lv_neT (a := 1) hc9 (by decide)
      have hc11 := lv_neT (a := 2) hc11 (by decide)
      have hc13 := lv_neT (a := 3) hc13 (by decide)
      refine lv_tableOut (tgt := 113) hx hb dX6_load_32 (by omega) (by decide) ?_
      refine lv_iconst (v := -1) hx hb dX6_load_113 (by decide) ?_
      obtain rfl := e1_ hf
      exact r_iret C0 hw trivial dX6_load_114
    refine lv_if_le (tgt := 29) hx hb dX6_load_22 (by decide) (fun hc18 => ?_) (fun hc18 => ?_)
    · have hf := if_t hc18 hf
      refine lv_iconst (v := 0) hx hb dX6_load_29 (by decide) ?_
      exact hj17 (0 : Int32) H locs ls hw (lv_sub hl [0, 1, 2] rfl)  hf
    · have hf := if_f hc18 hf
      refine lv_iconst (v := 1) hx hb dX6_load_25 (by decide) ?_
      refine lv_goto (tgt := 30) hx hb dX6_load_26 (by decide) ?_
      exact hj17 (1 : Int32) H locs ls hw (lv_sub hl [0, 1, 2] rfl)  hf
  · have hf := if_t hc4 hf
    refine lv_iconst (v := -1) hx hb dX6_load_11 (by decide) ?_
    obtain rfl := e1_ hf
    exact r_iret C0 hw trivial dX6_load_12
def FJm_moment (b_moments u_unknowns : Nat → Int32) (u_size : Int32) (g_M : Nat → Nat → Int64) (f_held f_couples f_endJoints f_lengths f_stiffs f_loadBeams f_loadSizes f_loadPlaces : Nat → Int32) (f_joints f_beams f_loads a1 a2 : Int32) : Option (Int32 × (Nat → Int32) × Int32 × (Nat → Nat → Int64)) :=
  b1_ (FFr_isEnd f_beams a1) fun r1 =>
  if r1 = 0 then
    some ((2000000000 : Int32), u_unknowns, u_size, g_M)
  else
    if a2 = 0 then
      b1_ (FFr_first f_lengths f_loadBeams f_loadSizes f_loadPlaces f_loads a1) fun r6 =>
      some (r6, u_unknowns, u_size, g_M)
    else
    if a2 = 1 then
      gd_ a1 20 <|
      some ((b_moments a1.toNatClampNeg), u_unknowns, u_size, g_M)
    else
    if a2 = 2 then
      b4_ (FEq_sure u_unknowns g_M f_held f_couples f_endJoints f_lengths f_stiffs f_loadBeams f_loadSizes f_loadPlaces f_joints f_beams f_loads a1) fun r12 w13 w14 w15 =>
      some (r12, w13, w14, w15)
    else
    if a2 = 3 then
      gd_ a1 20 <|
      b4_ (FEq_sure u_unknowns g_M f_held f_couples f_endJoints f_lengths f_stiffs f_loadBeams f_loadSizes f_loadPlaces f_joints f_beams f_loads a1) fun r20 w21 w22 w23 =>
      some (((b_moments a1.toNatClampNeg) - r20), w21, w22, w23)
    else
    some ((2000000000 : Int32), u_unknowns, u_size, g_M)
set_option maxHeartbeats 4000000 in
set_option maxRecDepth 100000 in
theorem cJm_moment (l : Launch) (D : va_G) (κ : Nat → ClassId) (qx : Nat → Nat) (rx_tape rx_teller rx_images rx_sheets rx_draft : Nat) (x_kept : Nat → Int32) (x_textFault x_readFault : Int32) (qb : Nat → Nat) (b_moments b_gains b_topped b_endStiffs b_outs b_endsAt b_stiffAt b_stepsAt : Nat → Int32) (b_steps b_latest : Int32) (qu : Nat → Nat) (u_unknowns : Nat → Int32) (u_size : Int32) (qg : Nat → Nat) (g_M : Nat → Nat → Int64) (qf : Nat → Nat) (f_held f_couples f_endJoints f_lengths f_stiffs f_loadBeams f_loadSizes f_loadPlaces : Nat → Int32) (f_joints f_beams f_loads a1 a2 zr : Int32) (z1 : Nat → Int32) (z2 : Int32) (z3 : Nat → Nat → Int64) (hf : FJm_moment b_moments u_unknowns u_size g_M f_held f_couples f_endJoints f_lengths f_stiffs f_loadBeams f_loadSizes f_loadPlaces f_joints f_beams f_loads a1 a2 = some (zr, z1, z2, z3)) : mI_ l yX6_moment (Cond.code yX6_moment cX6_moment 3 (some .int) :: uw) ({ frames := 11, cells := 0, slots := 0, locals := 340 } : Room) D (tys0 κ) [.ref (qx 0), .int a1, .int a2] (List.flatten [pJm κ qx rx_tape rx_teller (qb 0) (qu 0) rx_images rx_sheets (qf 0) rx_draft x_kept x_textFault x_readFault, pBa κ qb b_moments b_gains b_topped b_endStiffs b_outs b_endsAt b_stiffAt b_stepsAt b_steps b_latest, pEq κ qu (qg 0) u_unknowns u_size, pGr κ qg g_M, pFr κ qf f_held f_couples f_endJoints f_lengths f_stiffs f_loadBeams f_loadSizes f_loadPlaces f_joints f_beams f_loads]) nT_ zr (List.flatten [pJm κ qx rx_tape rx_teller (qb 0) (qu 0) rx_images rx_sheets (qf 0) rx_draft x_kept x_textFault x_readFault, pBa κ qb b_moments b_gains b_topped b_endStiffs b_outs b_endsAt b_stiffAt b_stepsAt b_steps b_latest, pEq κ qu (qg 0) z1 z2, pGr κ qg z3, pFr κ qf f_held f_couples f_endJoints f_lengths f_stiffs f_loadBeams f_loadSizes f_loadPlaces f_joints f_beams f_loads]) := by
  unfold FJm_moment at hf
  refine mI_of (by decide) (Nat.le_of_ble_eq_true rfl) ?_
  intro p e s m below meth c A ls H locs C0 hw hl
  obtain ⟨hx, hb, -, hml, hown, hts, -, -⟩ := id C0
  have hl : lv_has ls 3 [(0, .ref (qx 0)), (1, .int a1), (2, .int a2)] := hl
  refine lv_aload_n hx hb dX6_moment_0 rfl (lv_at hl 0 rfl) ?_
  refine r_get C0 hw 0 7 (v := .ref (qf 0)) rfl rfl inX6 (by decide) lk_X6_38 rfl dX6_moment_1 ?_
  refine lv_iload_n hx hb dX6_moment_4 rfl (lv_at hl 1 rfl) ?_
  obtain ⟨r1, hk2, hf⟩ := b1_s hf
  refine rv_i (vq := (RX2, TX2, 11)) (As := [.int a1]) (rest := []) (bs' := [pJm κ qx rx_tape rx_teller (qb 0) (qu 0) rx_images rx_sheets (qf 0) rx_draft x_kept x_textFault x_readFault, pBa κ qb b_moments b_gains b_topped b_endStiffs b_outs b_endsAt b_stiffAt b_stepsAt b_steps b_latest, pEq κ qu (qg 0) u_unknowns u_size, pGr κ qg g_M, pFr κ qf f_held f_couples f_endJoints f_lengths f_stiffs f_loadBeams f_loadSizes f_loadPlaces f_joints f_beams f_loads]) C0 hw (cFr_isEnd l D κ qf f_held f_couples f_endJoints f_lengths f_stiffs f_loadBeams f_loadSizes f_loadPlaces f_joints f_beams f_loads a1 r1 hk2) cv_RX6_175 ⟨rfl, rfl, Nat.le_of_ble_eq_true rfl, Nat.le_of_ble_eq_true rfl⟩ ⟨Nat.zero_le _, Nat.zero_le _⟩ [4] [0, 1, 2, 3] [0, 1, 2, 3, 4] rfl rfl rfl rfl (by decide) rfl rfl rfl rfl rfl hl.1 (by simp only [List.map, List.sum_cons, List.sum_nil, Value.category]; decide) dX6_moment_5 (fun H locs hw hn3 => ?_)
  refine lv_if_ne (tgt := 14) hx hb dX6_moment_8 (by decide) (fun hc4 => ?_) (fun hc4 => ?_)
  · have hf := if_f hc4 hf
    refine lv_iload_n hx hb dX6_moment_14 rfl (lv_at hl 2 rfl) ?_
    by_cases hc5 : a2 = 0
    · have hf := if_t hc5 hf
      refine lv_tableIn (tgt := 44) hx hb dX6_moment_15 (by rw [hc5]; decide) (by rw [hc5]; decide) (by rw [hc5]; rfl) (by decide) ?_
      refine lv_aload_n hx hb dX6_moment_44 rfl (lv_at hl 0 rfl) ?_
      refine r_get C0 hw 0 7 (v := .ref (qf 0)) rfl rfl inX6 (by decide) lk_X6_38 rfl dX6_moment_45 ?_
      refine lv_iload_n hx hb dX6_moment_48 rfl (lv_at hl 1 rfl) ?_
      obtain ⟨r6, hk7, hf⟩ := b1_s hf
      refine rv_i (vq := (RX2, TX2, 11)) (As := [.int a1]) (rest := []) (bs' := [pJm κ qx rx_tape rx_teller (qb 0) (qu 0) rx_images rx_sheets (qf 0) rx_draft x_kept x_textFault x_readFault, pBa κ qb b_moments b_gains b_topped b_endStiffs b_outs b_endsAt b_stiffAt b_stepsAt b_steps b_latest, pEq κ qu (qg 0) u_unknowns u_size, pGr κ qg g_M, pFr κ qf f_held f_couples f_endJoints f_lengths f_stiffs f_loadBeams f_loadSizes f_loadPlaces f_joints f_beams f_loads]) C0 hw (cFr_first l D κ qf f_held f_couples f_endJoints f_lengths f_stiffs f_loadBeams f_loadSizes f_loadPlaces f_joints f_beams f_loads a1 r6 hk7) cv_RX6_178 ⟨rfl, rfl, Nat.le_of_ble_eq_true rfl, Nat.le_of_ble_eq_true rfl⟩ ⟨Nat.zero_le _, Nat.zero_le _⟩ [4] [0, 1, 2, 3] [0, 1, 2, 3, 4] rfl rfl rfl rfl (by decide) rfl rfl rfl rfl rfl hl.1 (by simp only [List.map, List.sum_cons, List.sum_nil, Value.category]; decide) dX6_moment_49 (fun H locs hw hn8 => ?_)
      obtain ⟨rfl, rfl, rfl, rfl⟩ := e4_ hf
      exact r_iret C0 hw trivial dX6_moment_52
    have hf := if_f hc5 hf
    by_cases hc9 : a2 = 1
    · have hf := if_t hc9 hf
      refine lv_tableIn (tgt := 53) hx hb dX6_moment_15 (by rw [hc9]; decide) (by rw [hc9]; decide) (by rw [hc9]; rfl) (by decide) ?_
      refine lv_aload_n hx hb dX6_moment_53 rfl (lv_at hl 0 rfl) ?_
      refine r_get C0 hw 0 2 (v := .ref (qb 0)) rfl rfl inX6 (by decide) lk_X6_24 rfl dX6_moment_54 ?_
      refine r_get C0 hw 2 0 (v := .ref (qb 1)) rfl rfl inX0 (by decide) lk_X6_181 rfl dX6_moment_57 ?_
      refine lv_iload_n hx hb dX6_moment_60 rfl (lv_at hl 1 rfl) ?_
      obtain ⟨hi10, hf⟩ := gd_s hf
      refine r_iald C0 hw 3 0 rfl rfl hi10 dX6_moment_61 ?_
      obtain ⟨rfl, rfl, rfl, rfl⟩ := e4_ hf
      exact r_iret C0 hw trivial dX6_moment_62
    have hf := if_f hc9 hf
    by_cases hc11 : a2 = 2
    · have hf := if_t hc11 hf
      refine lv_tableIn (tgt := 63) hx hb dX6_moment_15 (by rw [hc11]; decide) (by rw [hc11]; decide) (by rw [hc11]; rfl) (by decide) ?_
      refine lv_aload_n hx hb dX6_moment_63 rfl (lv_at hl 0 rfl) ?_
      refine r_get C0 hw 0 3 (v := .ref (qu 0)) rfl rfl inX6 (by decide) lk_X6_31 rfl dX6_moment_64 ?_
      refine lv_aload_n hx hb dX6_moment_67 rfl (lv_at hl 0 rfl) ?_
      refine r_get C0 hw 0 7 (v := .ref (qf 0)) rfl rfl inX6 (by decide) lk_X6_38 rfl dX6_moment_68 ?_
      refine lv_iload_n hx hb dX6_moment_71 rfl (lv_at hl 1 rfl) ?_
      obtain ⟨r12, w13, w14, w15, hk16, hf⟩ := b4_s hf
      refine rv_i (vq := (RX1, TX1, 3)) (As := [.ref (qf 0), .int a1]) (rest := []) (bs' := [pJm κ qx rx_tape rx_teller (qb 0) (qu 0) rx_images rx_sheets (qf 0) rx_draft x_kept x_textFault x_readFault, pBa κ qb b_moments b_gains b_topped b_endStiffs b_outs b_endsAt b_stiffAt b_stepsAt b_steps b_latest, pEq κ qu (qg 0) w13 w14, pGr κ qg w15, pFr κ qf f_held f_couples f_endJoints f_lengths f_stiffs f_loadBeams f_loadSizes f_loadPlaces f_joints f_beams f_loads]) C0 hw (cEq_sure l D κ qu u_unknowns u_size qg g_M qf f_held f_couples f_endJoints f_lengths f_stiffs f_loadBeams f_loadSizes f_loadPlaces f_joints f_beams f_loads a1 r12 w13 w14 w15 hk16) cv_RX6_184 ⟨rfl, rfl, Nat.le_of_ble_eq_true rfl, Nat.le_of_ble_eq_true rfl⟩ ⟨Nat.zero_le _, Nat.zero_le _⟩ [2, 3, 4] [0, 1] [0, 1, 2, 3, 4] rfl rfl rfl rfl (by decide) rfl rfl rfl rfl rfl hl.1 (by simp only [List.map, List.sum_cons, List.sum_nil, Value.category]; decide) dX6_moment_72 (fun H locs hw hn17 => ?_)
      obtain ⟨rfl, rfl, rfl, rfl⟩ := e4_ hf
      exact r_iret C0 hw trivial dX6_moment_75
    have hf := if_f hc11 hf
    by_cases hc18 : a2 = 3
    · have hf := if_t hc18 hf
      refine lv_tableIn (tgt := 76) hx hb dX6_moment_15 (by rw [hc18]; decide) (by rw [hc18]; decide) (by rw [hc18]; rfl) (by decide) ?_
      refine lv_aload_n hx hb dX6_moment_76 rfl (lv_at hl 0 rfl) ?_
      refine r_get C0 hw 0 2 (v := .ref (qb 0)) rfl rfl inX6 (by decide) lk_X6_24 rfl dX6_moment_77 ?_
      refine r_get C0 hw 2 0 (v := .ref (qb 1)) rfl rfl inX0 (by decide) lk_X6_181 rfl dX6_moment_80 ?_
      refine lv_iload_n hx hb dX6_moment_83 rfl (lv_at hl 1 rfl) ?_
      obtain ⟨hi19, hf⟩ := gd_s hf
      refine r_iald C0 hw 3 0 rfl rfl hi19 dX6_moment_84 ?_
      refine lv_aload_n hx hb dX6_moment_85 rfl (lv_at hl 0 rfl) ?_
      refine r_get C0 hw 0 3 (v := .ref (qu 0)) rfl rfl inX6 (by decide) lk_X6_31 rfl dX6_moment_86 ?_
      refine lv_aload_n hx hb dX6_moment_89 rfl (lv_at hl 0 rfl) ?_
      refine r_get C0 hw 0 7 (v := .ref (qf 0)) rfl rfl inX6 (by decide) lk_X6_38 rfl dX6_moment_90 ?_
      refine lv_iload_n hx hb dX6_moment_93 rfl (lv_at hl 1 rfl) ?_
      obtain ⟨r20, w21, w22, w23, hk24, hf⟩ := b4_s hf
      refine rv_i (vq := (RX1, TX1, 3)) (As := [.ref (qf 0), .int a1]) (rest := [.int (b_moments a1.toNatClampNeg)]) (bs' := [pJm κ qx rx_tape rx_teller (qb 0) (qu 0) rx_images rx_sheets (qf 0) rx_draft x_kept x_textFault x_readFault, pBa κ qb b_moments b_gains b_topped b_endStiffs b_outs b_endsAt b_stiffAt b_stepsAt b_steps b_latest, pEq κ qu (qg 0) w21 w22, pGr κ qg w23, pFr κ qf f_held f_couples f_endJoints f_lengths f_stiffs f_loadBeams f_loadSizes f_loadPlaces f_joints f_beams f_loads]) C0 hw (cEq_sure l D κ qu u_unknowns u_size qg g_M qf f_held f_couples f_endJoints f_lengths f_stiffs f_loadBeams f_loadSizes f_loadPlaces f_joints f_beams f_loads a1 r20 w21 w22 w23 hk24) cv_RX6_184 ⟨rfl, rfl, Nat.le_of_ble_eq_true rfl, Nat.le_of_ble_eq_true rfl⟩ ⟨Nat.zero_le _, Nat.zero_le _⟩ [2, 3, 4] [0, 1] [0, 1, 2, 3, 4] rfl rfl rfl rfl (by decide) rfl rfl rfl rfl rfl hl.1 (by simp only [List.map, List.sum_cons, List.sum_nil, Value.category]; decide) dX6_moment_94 (fun H locs hw hn25 => ?_)
      refine lv_isub hx hb dX6_moment_97 ?_
      obtain ⟨rfl, rfl, rfl, rfl⟩ := e4_ hf
      exact r_iret C0 hw trivial dX6_moment_98
    have hf := if_f hc18 hf
    have hc5 := lv_neT (a := 0) hc5 (by decide)
    have hc9 := lv_neT (a := 1) hc9 (by decide)
    have hc11 := lv_neT (a := 2) hc11 (by decide)
    have hc18 := lv_neT (a := 3) hc18 (by decide)
    refine lv_tableOut (tgt := 99) hx hb dX6_moment_15 (by omega) (by decide) ?_
    refine lv_ldc (v := 2000000000) hx hb hown (hts _ kc_X6_137) dX6_moment_99 ?_
    obtain ⟨rfl, rfl, rfl, rfl⟩ := e4_ hf
    exact r_iret C0 hw trivial dX6_moment_101
  · have hf := if_t hc4 hf
    refine lv_ldc (v := 2000000000) hx hb hown (hts _ kc_X6_137) dX6_moment_11 ?_
    obtain ⟨rfl, rfl, rfl, rfl⟩ := e4_ hf
    exact r_iret C0 hw trivial dX6_moment_13
def FJm_share (b_gains b_topped b_endStiffs b_outs b_stiffAt f_held f_endJoints : Nat → Int32) (f_beams a1 a2 : Int32) : Option (Int32 × (Nat → Int32) × (Nat → Int32)) :=
  b1_ (FFr_isEnd f_beams a1) fun r1 =>
  if r1 = 0 then
    some ((2000000000 : Int32), b_gains, b_topped)
  else
    if a2 < 0 then
      some ((2000000000 : Int32), b_gains, b_topped)
    else
      if a2 ≤ (1 : Int32) then
        b1_ (FFr_jointOf f_endJoints a1) fun r7 =>
        gd_ r7 6 <|
        if (f_held r7.toNatClampNeg) = 0 then
          b2_ (FBa_shareOut b_gains b_topped b_endStiffs b_outs b_stiffAt f_endJoints f_beams r7) fun w12 w13 =>
          if a2 = 0 then
            gd_ a1 20 <|
            some ((w12 a1.toNatClampNeg), w12, w13)
          else
            gd_ a1 20 <|
            some (((w12 a1.toNatClampNeg) / (2 : Int32)), w12, w13)
        else
          some ((2000000000 : Int32), b_gains, b_topped)
      else
        some ((2000000000 : Int32), b_gains, b_topped)
set_option maxHeartbeats 4000000 in
set_option maxRecDepth 100000 in
theorem cJm_share (l : Launch) (D : va_G) (κ : Nat → ClassId) (qx : Nat → Nat) (rx_tape rx_teller rx_equations rx_images rx_sheets rx_draft : Nat) (x_kept : Nat → Int32) (x_textFault x_readFault : Int32) (qb : Nat → Nat) (b_moments b_gains b_topped b_endStiffs b_outs b_endsAt b_stiffAt b_stepsAt : Nat → Int32) (b_steps b_latest : Int32) (qf : Nat → Nat) (f_held f_couples f_endJoints f_lengths f_stiffs f_loadBeams f_loadSizes f_loadPlaces : Nat → Int32) (f_joints f_beams f_loads a1 a2 zr : Int32) (z1 z2 : Nat → Int32) (hf : FJm_share b_gains b_topped b_endStiffs b_outs b_stiffAt f_held f_endJoints f_beams a1 a2 = some (zr, z1, z2)) : mI_ l yX6_share (Cond.code yX6_share cX6_share 4 (some .int) :: uw) ({ frames := 3, cells := 0, slots := 0, locals := 75 } : Room) D (tys0 κ) [.ref (qx 0), .int a1, .int a2] (List.flatten [pJm κ qx rx_tape rx_teller (qb 0) rx_equations rx_images rx_sheets (qf 0) rx_draft x_kept x_textFault x_readFault, pBa κ qb b_moments b_gains b_topped b_endStiffs b_outs b_endsAt b_stiffAt b_stepsAt b_steps b_latest, pFr κ qf f_held f_couples f_endJoints f_lengths f_stiffs f_loadBeams f_loadSizes f_loadPlaces f_joints f_beams f_loads]) nT_ zr (List.flatten [pJm κ qx rx_tape rx_teller (qb 0) rx_equations rx_images rx_sheets (qf 0) rx_draft x_kept x_textFault x_readFault, pBa κ qb b_moments z1 z2 b_endStiffs b_outs b_endsAt b_stiffAt b_stepsAt b_steps b_latest, pFr κ qf f_held f_couples f_endJoints f_lengths f_stiffs f_loadBeams f_loadSizes f_loadPlaces f_joints f_beams f_loads]) := by
  unfold FJm_share at hf
  refine mI_of (by decide) (Nat.le_of_ble_eq_true rfl) ?_
  intro p e s m below meth c A ls H locs C0 hw hl
  obtain ⟨hx, hb, -, hml, hown, hts, -, -⟩ := id C0
  have hl : lv_has ls 4 [(0, .ref (qx 0)), (1, .int a1), (2, .int a2)] := hl
  refine lv_aload_n hx hb dX6_share_0 rfl (lv_at hl 0 rfl) ?_
  refine r_get C0 hw 0 7 (v := .ref (qf 0)) rfl rfl inX6 (by decide) lk_X6_38 rfl dX6_share_1 ?_
  refine lv_iload_n hx hb dX6_share_4 rfl (lv_at hl 1 rfl) ?_
  obtain ⟨r1, hk2, hf⟩ := b1_s hf
  refine rv_i (vq := (RX2, TX2, 11)) (As := [.int a1]) (rest := []) (bs' := [pJm κ qx rx_tape rx_teller (qb 0) rx_equations rx_images rx_sheets (qf 0) rx_draft x_kept x_textFault x_readFault, pBa κ qb b_moments b_gains b_topped b_endStiffs b_outs b_endsAt b_stiffAt b_stepsAt b_steps b_latest, pFr κ qf f_held f_couples f_endJoints f_lengths f_stiffs f_loadBeams f_loadSizes f_loadPlaces f_joints f_beams f_loads]) C0 hw (cFr_isEnd l D κ qf f_held f_couples f_endJoints f_lengths f_stiffs f_loadBeams f_loadSizes f_loadPlaces f_joints f_beams f_loads a1 r1 hk2) cv_RX6_175 ⟨rfl, rfl, Nat.le_of_ble_eq_true rfl, Nat.le_of_ble_eq_true rfl⟩ ⟨Nat.zero_le _, Nat.zero_le _⟩ [2] [0, 1] [0, 1, 2] rfl rfl rfl rfl (by decide) rfl rfl rfl rfl rfl hl.1 (by simp only [List.map, List.sum_cons, List.sum_nil, Value.category]; decide) dX6_share_5 (fun H locs hw hn3 => ?_)
  refine lv_if_eq (tgt := 20) hx hb dX6_share_8 (by decide) (fun hc4 => ?_) (fun hc4 => ?_)
  · have hf := if_t hc4 hf
    refine lv_ldc (v := 2000000000) hx hb hown (hts _ kc_X6_137) dX6_share_20 ?_
    obtain ⟨rfl, rfl, rfl⟩ := e3_ hf
    exact r_iret C0 hw trivial dX6_share_22
  · have hf := if_f hc4 hf
    refine lv_iload_n hx hb dX6_share_11 rfl (lv_at hl 2 rfl) ?_
    refine lv_if_lt (tgt := 20) hx hb dX6_share_12 (by decide) (fun hc5 => ?_) (fun hc5 => ?_)
    · have hf := if_t hc5 hf
      refine lv_ldc (v := 2000000000) hx hb hown (hts _ kc_X6_137) dX6_share_20 ?_
      obtain ⟨rfl, rfl, rfl⟩ := e3_ hf
      exact r_iret C0 hw trivial dX6_share_22
    · have hf := if_f hc5 hf
      refine lv_iload_n hx hb dX6_share_15 rfl (lv_at hl 2 rfl) ?_
      refine lv_iconst (v := 1) hx hb dX6_share_16 (by decide) ?_
      refine lv_icmp_le (tgt := 23) hx hb dX6_share_17 (by decide) (fun hc6 => ?_) (fun hc6 => ?_)
      · have hf := if_t hc6 hf
        refine lv_aload_n hx hb dX6_share_23 rfl (lv_at hl 0 rfl) ?_
        refine r_get C0 hw 0 7 (v := .ref (qf 0)) rfl rfl inX6 (by decide) lk_X6_38 rfl dX6_share_24 ?_
        refine lv_iload_n hx hb dX6_share_27 rfl (lv_at hl 1 rfl) ?_
        obtain ⟨r7, hk8, hf⟩ := b1_s hf
        refine rv_i (vq := (RX2, TX2, 11)) (As := [.int a1]) (rest := []) (bs' := [pJm κ qx rx_tape rx_teller (qb 0) rx_equations rx_images rx_sheets (qf 0) rx_draft x_kept x_textFault x_readFault, pBa κ qb b_moments b_gains b_topped b_endStiffs b_outs b_endsAt b_stiffAt b_stepsAt b_steps b_latest, pFr κ qf f_held f_couples f_endJoints f_lengths f_stiffs f_loadBeams f_loadSizes f_loadPlaces f_joints f_beams f_loads]) C0 hw (cFr_jointOf l D κ qf f_held f_couples f_endJoints f_lengths f_stiffs f_loadBeams f_loadSizes f_loadPlaces f_joints f_beams f_loads a1 r7 hk8) cv_RX6_144 ⟨rfl, rfl, Nat.le_of_ble_eq_true rfl, Nat.le_of_ble_eq_true rfl⟩ ⟨Nat.zero_le _, Nat.zero_le _⟩ [2] [0, 1] [0, 1, 2] rfl rfl rfl rfl (by decide) rfl rfl rfl rfl rfl hl.1 (by simp only [List.map, List.sum_cons, List.sum_nil, Value.category]; decide) dX6_share_28 (fun H locs hw hn9 => ?_)
        refine lv_istore_n (lv' := [(3, .int r7), (0, .ref (qx 0)), (1, .int a1), (2, .int a2)]) hx hb dX6_share_31 rfl hl (by decide) rfl (fun ls hl => ?_)
        refine lv_aload_n hx hb dX6_share_32 rfl (lv_at hl 1 rfl) ?_
        refine r_get C0 hw 0 7 (v := .ref (qf 0)) rfl rfl inX6 (by decide) lk_X6_38 rfl dX6_share_33 ?_
        refine r_get C0 hw 11 0 (v := .ref (qf 1)) rfl rfl inX2 (by decide) lk_X6_120 rfl dX6_share_36 ?_
        refine lv_iload_n hx hb dX6_share_39 rfl (lv_at hl 0 rfl) ?_
        obtain ⟨hi10, hf⟩ := gd_s hf
        refine r_zald C0 hw 12 1 rfl rfl hi10 dX6_share_40 ?_
        refine lv_if_eq (tgt := 47) hx hb dX6_share_41 (by decide) (fun hc11 => ?_) (fun hc11 => ?_)
        · have hf := if_t hc11 hf
          refine lv_aload_n hx hb dX6_share_47 rfl (lv_at hl 1 rfl) ?_
          refine r_get C0 hw 0 2 (v := .ref (qb 0)) rfl rfl inX6 (by decide) lk_X6_24 rfl dX6_share_48 ?_
          refine lv_aload_n hx hb dX6_share_51 rfl (lv_at hl 1 rfl) ?_
          refine r_get C0 hw 0 7 (v := .ref (qf 0)) rfl rfl inX6 (by decide) lk_X6_38 rfl dX6_share_52 ?_
          refine lv_iload_n hx hb dX6_share_55 rfl (lv_at hl 0 rfl) ?_
          obtain ⟨w12, w13, hk14, hf⟩ := b2_s hf
          refine rv_v (vq := (RX0, TX0, 10)) (As := [.ref (qf 0), .int r7]) (rest := []) (bs' := [pJm κ qx rx_tape rx_teller (qb 0) rx_equations rx_images rx_sheets (qf 0) rx_draft x_kept x_textFault x_readFault, pBa κ qb b_moments w12 w13 b_endStiffs b_outs b_endsAt b_stiffAt b_stepsAt b_steps b_latest, pFr κ qf f_held f_couples f_endJoints f_lengths f_stiffs f_loadBeams f_loadSizes f_loadPlaces f_joints f_beams f_loads]) C0 hw (cBa_shareOut l D κ qb b_moments b_gains b_topped b_endStiffs b_outs b_endsAt b_stiffAt b_stepsAt b_steps b_latest qf f_held f_couples f_endJoints f_lengths f_stiffs f_loadBeams f_loadSizes f_loadPlaces f_joints f_beams f_loads r7 w12 w13 hk14) cv_RX6_188 ⟨rfl, rfl, Nat.le_of_ble_eq_true rfl, Nat.le_of_ble_eq_true rfl⟩ ⟨Nat.zero_le _, Nat.zero_le _⟩ [1, 2] [0] [0, 1, 2] rfl rfl rfl rfl (by decide) rfl rfl rfl rfl rfl hl.1 (by simp only [List.map, List.sum_cons, List.sum_nil, Value.category]; decide) dX6_share_56 (fun H locs hw => ?_)
          refine lv_iload_n hx hb dX6_share_59 rfl (lv_at hl 3 rfl) ?_
          refine lv_if_ne (tgt := 75) hx hb dX6_share_60 (by decide) (fun hc16 => ?_) (fun hc16 => ?_)
          · have hf := if_f hc16 hf
            refine lv_aload_n hx hb dX6_share_75 rfl (lv_at hl 1 rfl) ?_
            refine r_get C0 hw 0 2 (v := .ref (qb 0)) rfl rfl inX6 (by decide) lk_X6_24 rfl dX6_share_76 ?_
            refine r_get C0 hw 2 1 (v := .ref (qb 2)) rfl rfl inX0 (by decide) lk_X6_192 rfl dX6_share_79 ?_
            refine lv_iload_n hx hb dX6_share_82 rfl (lv_at hl 2 rfl) ?_
            obtain ⟨hi17, hf⟩ := gd_s hf
            refine r_iald C0 hw 4 0 rfl rfl hi17 dX6_share_83 ?_
            refine lv_iconst (v := 2) hx hb dX6_share_84 (by decide) ?_
            refine lv_idiv hx hb dX6_share_85 (by decide) ?_
            obtain ⟨rfl, rfl, rfl⟩ := e3_ hf
            exact r_iret C0 hw trivial dX6_share_86
          · have hf := if_t hc16 hf
            refine lv_aload_n hx hb dX6_share_63 rfl (lv_at hl 1 rfl) ?_
            refine r_get C0 hw 0 2 (v := .ref (qb 0)) rfl rfl inX6 (by decide) lk_X6_24 rfl dX6_share_64 ?_
            refine r_get C0 hw 2 1 (v := .ref (qb 2)) rfl rfl inX0 (by decide) lk_X6_192 rfl dX6_share_67 ?_
            refine lv_iload_n hx hb dX6_share_70 rfl (lv_at hl 2 rfl) ?_
            obtain ⟨hi18, hf⟩ := gd_s hf
            refine r_iald C0 hw 4 0 rfl rfl hi18 dX6_share_71 ?_
            refine lv_goto (tgt := 86) hx hb dX6_share_72 (by decide) ?_
            obtain ⟨rfl, rfl, rfl⟩ := e3_ hf
            exact r_iret C0 hw trivial dX6_share_86
        · have hf := if_f hc11 hf
          refine lv_ldc (v := 2000000000) hx hb hown (hts _ kc_X6_137) dX6_share_44 ?_
          obtain ⟨rfl, rfl, rfl⟩ := e3_ hf
          exact r_iret C0 hw trivial dX6_share_46
      · have hf := if_f hc6 hf
        refine lv_ldc (v := 2000000000) hx hb hown (hts _ kc_X6_137) dX6_share_20 ?_
        obtain ⟨rfl, rfl, rfl⟩ := e3_ hf
        exact r_iret C0 hw trivial dX6_share_22
def FJm_rank (b_outs b_endsAt f_held : Nat → Int32) (f_joints a1 : Int32) : Option (Int32) :=
  if 0 ≤ a1 then
    b1_ (FBa_ranked b_outs b_endsAt f_held f_joints a1) fun r2 =>
    some (r2)
  else
    some ((-1 : Int32))
set_option maxHeartbeats 4000000 in
set_option maxRecDepth 100000 in
theorem cJm_rank (l : Launch) (D : va_G) (κ : Nat → ClassId) (qx : Nat → Nat) (rx_tape rx_teller rx_equations rx_images rx_sheets rx_draft : Nat) (x_kept : Nat → Int32) (x_textFault x_readFault : Int32) (qb : Nat → Nat) (b_moments b_gains b_topped b_endStiffs b_outs b_endsAt b_stiffAt b_stepsAt : Nat → Int32) (b_steps b_latest : Int32) (qf : Nat → Nat) (f_held f_couples f_endJoints f_lengths f_stiffs f_loadBeams f_loadSizes f_loadPlaces : Nat → Int32) (f_joints f_beams f_loads a1 zr : Int32) (hf : FJm_rank b_outs b_endsAt f_held f_joints a1 = some zr) : mI_ l yX6_rank (Cond.code yX6_rank cX6_rank 2 (some .int) :: uw) ({ frames := 4, cells := 0, slots := 0, locals := 93 } : Room) D (tys0 κ) [.ref (qx 0), .int a1] (List.flatten [pJm κ qx rx_tape rx_teller (qb 0) rx_equations rx_images rx_sheets (qf 0) rx_draft x_kept x_textFault x_readFault, pBa κ qb b_moments b_gains b_topped b_endStiffs b_outs b_endsAt b_stiffAt b_stepsAt b_steps b_latest, pFr κ qf f_held f_couples f_endJoints f_lengths f_stiffs f_loadBeams f_loadSizes f_loadPlaces f_joints f_beams f_loads]) nT_ zr (List.flatten [pJm κ qx rx_tape rx_teller (qb 0) rx_equations rx_images rx_sheets (qf 0) rx_draft x_kept x_textFault x_readFault, pBa κ qb b_moments b_gains b_topped b_endStiffs b_outs b_endsAt b_stiffAt b_stepsAt b_steps b_latest, pFr κ qf f_held f_couples f_endJoints f_lengths f_stiffs f_loadBeams f_loadSizes f_loadPlaces f_joints f_beams f_loads]) := by
  unfold FJm_rank at hf
  refine mI_of (by decide) (Nat.le_of_ble_eq_true rfl) ?_
  intro p e s m below meth c A ls H locs C0 hw hl
  obtain ⟨hx, hb, -, hml, hown, hts, -, -⟩ := id C0
  have hl : lv_has ls 2 [(0, .ref (qx 0)), (1, .int a1)] := hl
  refine lv_iload_n hx hb dX6_rank_0 rfl (lv_at hl 1 rfl) ?_
  refine lv_if_ge (tgt := 8) hx hb dX6_rank_1 (by decide) (fun hc1 => ?_) (fun hc1 => ?_)
  · have hf := if_t hc1 hf
    refine lv_aload_n hx hb dX6_rank_8 rfl (lv_at hl 0 rfl) ?_
    refine r_get C0 hw 0 2 (v := .ref (qb 0)) rfl rfl inX6 (by decide) lk_X6_24 rfl dX6_rank_9 ?_
    refine lv_aload_n hx hb dX6_rank_12 rfl (lv_at hl 0 rfl) ?_
    refine r_get C0 hw 0 7 (v := .ref (qf 0)) rfl rfl inX6 (by decide) lk_X6_38 rfl dX6_rank_13 ?_
    refine lv_iload_n hx hb dX6_rank_16 rfl (lv_at hl 1 rfl) ?_
    obtain ⟨r2, hk3, hf⟩ := b1_s hf
    refine rv_i (vq := (RX0, TX0, 10)) (As := [.ref (qf 0), .int a1]) (rest := []) (bs' := [pJm κ qx rx_tape rx_teller (qb 0) rx_equations rx_images rx_sheets (qf 0) rx_draft x_kept x_textFault x_readFault, pBa κ qb b_moments b_gains b_topped b_endStiffs b_outs b_endsAt b_stiffAt b_stepsAt b_steps b_latest, pFr κ qf f_held f_couples f_endJoints f_lengths f_stiffs f_loadBeams f_loadSizes f_loadPlaces f_joints f_beams f_loads]) C0 hw (cBa_ranked l D κ qb b_moments b_gains b_topped b_endStiffs b_outs b_endsAt b_stiffAt b_stepsAt b_steps b_latest qf f_held f_couples f_endJoints f_lengths f_stiffs f_loadBeams f_loadSizes f_loadPlaces f_joints f_beams f_loads a1 r2 hk3) cv_RX6_195 ⟨rfl, rfl, Nat.le_of_ble_eq_true rfl, Nat.le_of_ble_eq_true rfl⟩ ⟨Nat.zero_le _, Nat.zero_le _⟩ [1, 2] [0] [0, 1, 2] rfl rfl rfl rfl (by decide) rfl rfl rfl rfl rfl hl.1 (by simp only [List.map, List.sum_cons, List.sum_nil, Value.category]; decide) dX6_rank_17 (fun H locs hw hn4 => ?_)
    obtain rfl := e1_ hf
    exact r_iret C0 hw trivial dX6_rank_20
  · have hf := if_f hc1 hf
    refine lv_iconst (v := -1) hx hb dX6_rank_4 (by decide) ?_
    refine lv_goto (tgt := 20) hx hb dX6_rank_5 (by decide) ?_
    obtain rfl := e1_ hf
    exact r_iret C0 hw trivial dX6_rank_20
def FJm_next (b_outs b_endsAt : Nat → Int32) (b_latest : Int32) (f_held : Nat → Int32) (f_joints a1 : Int32) : Option (Int32) :=
  b1_ (FJm_isWay a1) fun r1 =>
  if r1 = 0 then
    some ((-1 : Int32))
  else
    b1_ (FBa_chosen b_outs b_endsAt b_latest f_held f_joints a1) fun r5 =>
    some (r5)
set_option maxHeartbeats 4000000 in
set_option maxRecDepth 100000 in
theorem cJm_next (l : Launch) (D : va_G) (κ : Nat → ClassId) (qx : Nat → Nat) (rx_tape rx_teller rx_equations rx_images rx_sheets rx_draft : Nat) (x_kept : Nat → Int32) (x_textFault x_readFault : Int32) (qb : Nat → Nat) (b_moments b_gains b_topped b_endStiffs b_outs b_endsAt b_stiffAt b_stepsAt : Nat → Int32) (b_steps b_latest : Int32) (qf : Nat → Nat) (f_held f_couples f_endJoints f_lengths f_stiffs f_loadBeams f_loadSizes f_loadPlaces : Nat → Int32) (f_joints f_beams f_loads a1 zr : Int32) (hf : FJm_next b_outs b_endsAt b_latest f_held f_joints a1 = some zr) : mI_ l yX6_next (Cond.code yX6_next cX6_next 2 (some .int) :: uw) ({ frames := 4, cells := 0, slots := 0, locals := 90 } : Room) D (tys0 κ) [.ref (qx 0), .int a1] (List.flatten [pJm κ qx rx_tape rx_teller (qb 0) rx_equations rx_images rx_sheets (qf 0) rx_draft x_kept x_textFault x_readFault, pBa κ qb b_moments b_gains b_topped b_endStiffs b_outs b_endsAt b_stiffAt b_stepsAt b_steps b_latest, pFr κ qf f_held f_couples f_endJoints f_lengths f_stiffs f_loadBeams f_loadSizes f_loadPlaces f_joints f_beams f_loads]) nT_ zr (List.flatten [pJm κ qx rx_tape rx_teller (qb 0) rx_equations rx_images rx_sheets (qf 0) rx_draft x_kept x_textFault x_readFault, pBa κ qb b_moments b_gains b_topped b_endStiffs b_outs b_endsAt b_stiffAt b_stepsAt b_steps b_latest, pFr κ qf f_held f_couples f_endJoints f_lengths f_stiffs f_loadBeams f_loadSizes f_loadPlaces f_joints f_beams f_loads]) := by
  unfold FJm_next at hf
  refine mI_of (by decide) (Nat.le_of_ble_eq_true rfl) ?_
  intro p e s m below meth c A ls H locs C0 hw hl
  obtain ⟨hx, hb, -, hml, hown, hts, -, -⟩ := id C0
  have hl : lv_has ls 2 [(0, .ref (qx 0)), (1, .int a1)] := hl
  refine lv_iload_n hx hb dX6_next_0 rfl (lv_at hl 1 rfl) ?_
  obtain ⟨r1, hk2, hf⟩ := b1_s hf
  refine rs_i (As := [.int a1]) (rest := []) (bs' := [pJm κ qx rx_tape rx_teller (qb 0) rx_equations rx_images rx_sheets (qf 0) rx_draft x_kept x_textFault x_readFault, pBa κ qb b_moments b_gains b_topped b_endStiffs b_outs b_endsAt b_stiffAt b_stepsAt b_steps b_latest, pFr κ qf f_held f_couples f_endJoints f_lengths f_stiffs f_loadBeams f_loadSizes f_loadPlaces f_joints f_beams f_loads]) C0 hw (cJm_isWay l D κ a1 r1 hk2) cs_X6_198 ⟨rfl, rfl, Nat.le_of_ble_eq_true rfl, Nat.le_of_ble_eq_true rfl⟩ ⟨Nat.zero_le _, Nat.zero_le _⟩ [] [0, 1, 2] [0, 1, 2] rfl rfl rfl rfl (by decide) rfl rfl rfl hl.1 (by simp only [List.map, List.sum_cons, List.sum_nil, Value.category]; decide) dX6_next_1 (fun H locs hw hn3 => ?_)
  refine lv_if_eq (tgt := 22) hx hb dX6_next_4 (by decide) (fun hc4 => ?_) (fun hc4 => ?_)
  · have hf := if_t hc4 hf
    refine lv_iconst (v := -1) hx hb dX6_next_22 (by decide) ?_
    obtain rfl := e1_ hf
    exact r_iret C0 hw trivial dX6_next_23
  · have hf := if_f hc4 hf
    refine lv_aload_n hx hb dX6_next_7 rfl (lv_at hl 0 rfl) ?_
    refine r_get C0 hw 0 2 (v := .ref (qb 0)) rfl rfl inX6 (by decide) lk_X6_24 rfl dX6_next_8 ?_
    refine lv_aload_n hx hb dX6_next_11 rfl (lv_at hl 0 rfl) ?_
    refine r_get C0 hw 0 7 (v := .ref (qf 0)) rfl rfl inX6 (by decide) lk_X6_38 rfl dX6_next_12 ?_
    refine lv_iload_n hx hb dX6_next_15 rfl (lv_at hl 1 rfl) ?_
    obtain ⟨r5, hk6, hf⟩ := b1_s hf
    refine rv_i (vq := (RX0, TX0, 10)) (As := [.ref (qf 0), .int a1]) (rest := []) (bs' := [pJm κ qx rx_tape rx_teller (qb 0) rx_equations rx_images rx_sheets (qf 0) rx_draft x_kept x_textFault x_readFault, pBa κ qb b_moments b_gains b_topped b_endStiffs b_outs b_endsAt b_stiffAt b_stepsAt b_steps b_latest, pFr κ qf f_held f_couples f_endJoints f_lengths f_stiffs f_loadBeams f_loadSizes f_loadPlaces f_joints f_beams f_loads]) C0 hw (cBa_chosen l D κ qb b_moments b_gains b_topped b_endStiffs b_outs b_endsAt b_stiffAt b_stepsAt b_steps b_latest qf f_held f_couples f_endJoints f_lengths f_stiffs f_loadBeams f_loadSizes f_loadPlaces f_joints f_beams f_loads a1 r5 hk6) cv_RX6_201 ⟨rfl, rfl, Nat.le_of_ble_eq_true rfl, Nat.le_of_ble_eq_true rfl⟩ ⟨Nat.zero_le _, Nat.zero_le _⟩ [1, 2] [0] [0, 1, 2] rfl rfl rfl rfl (by decide) rfl rfl rfl rfl rfl hl.1 (by simp only [List.map, List.sum_cons, List.sum_nil, Value.category]; decide) dX6_next_16 (fun H locs hw hn7 => ?_)
    refine lv_goto (tgt := 23) hx hb dX6_next_19 (by decide) ?_
    obtain rfl := e1_ hf
    exact r_iret C0 hw trivial dX6_next_23
def FJm_step (b_moments b_gains b_topped b_endStiffs b_outs b_endsAt b_stiffAt b_stepsAt : Nat → Int32) (b_steps b_latest : Int32) (f_held f_endJoints : Nat → Int32) (f_joints f_beams a1 : Int32) : Option (Int32 × (Nat → Int32) × (Nat → Int32) × (Nat → Int32) × (Nat → Int32) × (Nat → Int32) × Int32 × Int32) :=
  b1_ (FFr_isJoint f_joints a1) fun r1 =>
  if r1 = 0 then
    some ((-1 : Int32), b_moments, b_gains, b_topped, b_outs, b_stepsAt, b_steps, b_latest)
  else
    b1_ (FBa_canTurn b_endsAt f_held a1) fun r5 =>
    if r5 = 0 then
      some ((-2 : Int32), b_moments, b_gains, b_topped, b_outs, b_stepsAt, b_steps, b_latest)
    else
      b7_ (FBa_letGo b_moments b_gains b_topped b_endStiffs b_outs b_stiffAt b_stepsAt b_steps f_endJoints f_beams a1) fun w9 w10 w11 w12 w13 w14 w15 =>
      some (w14, w9, w10, w11, w12, w13, w14, w15)
set_option maxHeartbeats 4000000 in
set_option maxRecDepth 100000 in
theorem cJm_step (l : Launch) (D : va_G) (κ : Nat → ClassId) (qx : Nat → Nat) (rx_tape rx_teller rx_equations rx_images rx_sheets rx_draft : Nat) (x_kept : Nat → Int32) (x_textFault x_readFault : Int32) (qb : Nat → Nat) (b_moments b_gains b_topped b_endStiffs b_outs b_endsAt b_stiffAt b_stepsAt : Nat → Int32) (b_steps b_latest : Int32) (qf : Nat → Nat) (f_held f_couples f_endJoints f_lengths f_stiffs f_loadBeams f_loadSizes f_loadPlaces : Nat → Int32) (f_joints f_beams f_loads a1 zr : Int32) (z1 z2 z3 z4 z5 : Nat → Int32) (z6 z7 : Int32) (hf : FJm_step b_moments b_gains b_topped b_endStiffs b_outs b_endsAt b_stiffAt b_stepsAt b_steps b_latest f_held f_endJoints f_joints f_beams a1 = some (zr, z1, z2, z3, z4, z5, z6, z7)) : mI_ l yX6_step (Cond.code yX6_step cX6_step 2 (some .int) :: uw) ({ frames := 4, cells := 0, slots := 0, locals := 98 } : Room) D (tys0 κ) [.ref (qx 0), .int a1] (List.flatten [pJm κ qx rx_tape rx_teller (qb 0) rx_equations rx_images rx_sheets (qf 0) rx_draft x_kept x_textFault x_readFault, pBa κ qb b_moments b_gains b_topped b_endStiffs b_outs b_endsAt b_stiffAt b_stepsAt b_steps b_latest, pFr κ qf f_held f_couples f_endJoints f_lengths f_stiffs f_loadBeams f_loadSizes f_loadPlaces f_joints f_beams f_loads]) nT_ zr (List.flatten [pJm κ qx rx_tape rx_teller (qb 0) rx_equations rx_images rx_sheets (qf 0) rx_draft x_kept x_textFault x_readFault, pBa κ qb z1 z2 z3 b_endStiffs z4 b_endsAt b_stiffAt z5 z6 z7, pFr κ qf f_held f_couples f_endJoints f_lengths f_stiffs f_loadBeams f_loadSizes f_loadPlaces f_joints f_beams f_loads]) := by
  unfold FJm_step at hf
  refine mI_of (by decide) (Nat.le_of_ble_eq_true rfl) ?_
  intro p e s m below meth c A ls H locs C0 hw hl
  obtain ⟨hx, hb, -, hml, hown, hts, -, -⟩ := id C0
  have hl : lv_has ls 2 [(0, .ref (qx 0)), (1, .int a1)] := hl
  refine lv_aload_n hx hb dX6_step_0 rfl (lv_at hl 0 rfl) ?_
  refine r_get C0 hw 0 7 (v := .ref (qf 0)) rfl rfl inX6 (by decide) lk_X6_38 rfl dX6_step_1 ?_
  refine lv_iload_n hx hb dX6_step_4 rfl (lv_at hl 1 rfl) ?_
  obtain ⟨r1, hk2, hf⟩ := b1_s hf
  refine rv_i (vq := (RX2, TX2, 11)) (As := [.int a1]) (rest := []) (bs' := [pJm κ qx rx_tape rx_teller (qb 0) rx_equations rx_images rx_sheets (qf 0) rx_draft x_kept x_textFault x_readFault, pBa κ qb b_moments b_gains b_topped b_endStiffs b_outs b_endsAt b_stiffAt b_stepsAt b_steps b_latest, pFr κ qf f_held f_couples f_endJoints f_lengths f_stiffs f_loadBeams f_loadSizes f_loadPlaces f_joints f_beams f_loads]) C0 hw (cFr_isJoint l D κ qf f_held f_couples f_endJoints f_lengths f_stiffs f_loadBeams f_loadSizes f_loadPlaces f_joints f_beams f_loads a1 r1 hk2) cv_RX6_116 ⟨rfl, rfl, Nat.le_of_ble_eq_true rfl, Nat.le_of_ble_eq_true rfl⟩ ⟨Nat.zero_le _, Nat.zero_le _⟩ [2] [0, 1] [0, 1, 2] rfl rfl rfl rfl (by decide) rfl rfl rfl rfl rfl hl.1 (by simp only [List.map, List.sum_cons, List.sum_nil, Value.category]; decide) dX6_step_5 (fun H locs hw hn3 => ?_)
  refine lv_if_ne (tgt := 13) hx hb dX6_step_8 (by decide) (fun hc4 => ?_) (fun hc4 => ?_)
  · have hf := if_f hc4 hf
    refine lv_aload_n hx hb dX6_step_13 rfl (lv_at hl 0 rfl) ?_
    refine r_get C0 hw 0 2 (v := .ref (qb 0)) rfl rfl inX6 (by decide) lk_X6_24 rfl dX6_step_14 ?_
    refine lv_aload_n hx hb dX6_step_17 rfl (lv_at hl 0 rfl) ?_
    refine r_get C0 hw 0 7 (v := .ref (qf 0)) rfl rfl inX6 (by decide) lk_X6_38 rfl dX6_step_18 ?_
    refine lv_iload_n hx hb dX6_step_21 rfl (lv_at hl 1 rfl) ?_
    obtain ⟨r5, hk6, hf⟩ := b1_s hf
    refine rv_i (vq := (RX0, TX0, 10)) (As := [.ref (qf 0), .int a1]) (rest := []) (bs' := [pJm κ qx rx_tape rx_teller (qb 0) rx_equations rx_images rx_sheets (qf 0) rx_draft x_kept x_textFault x_readFault, pBa κ qb b_moments b_gains b_topped b_endStiffs b_outs b_endsAt b_stiffAt b_stepsAt b_steps b_latest, pFr κ qf f_held f_couples f_endJoints f_lengths f_stiffs f_loadBeams f_loadSizes f_loadPlaces f_joints f_beams f_loads]) C0 hw (cBa_canTurn l D κ qb b_moments b_gains b_topped b_endStiffs b_outs b_endsAt b_stiffAt b_stepsAt b_steps b_latest qf f_held f_couples f_endJoints f_lengths f_stiffs f_loadBeams f_loadSizes f_loadPlaces f_joints f_beams f_loads a1 r5 hk6) cv_RX6_204 ⟨rfl, rfl, Nat.le_of_ble_eq_true rfl, Nat.le_of_ble_eq_true rfl⟩ ⟨Nat.zero_le _, Nat.zero_le _⟩ [1, 2] [0] [0, 1, 2] rfl rfl rfl rfl (by decide) rfl rfl rfl rfl rfl hl.1 (by simp only [List.map, List.sum_cons, List.sum_nil, Value.category]; decide) dX6_step_22 (fun H locs hw hn7 => ?_)
    refine lv_if_ne (tgt := 31) hx hb dX6_step_25 (by decide) (fun hc8 => ?_) (fun hc8 => ?_)
    · have hf := if_f hc8 hf
      refine lv_aload_n hx hb dX6_step_31 rfl (lv_at hl 0 rfl) ?_
      refine r_get C0 hw 0 2 (v := .ref (qb 0)) rfl rfl inX6 (by decide) lk_X6_24 rfl dX6_step_32 ?_
      refine lv_aload_n hx hb dX6_step_35 rfl (lv_at hl 0 rfl) ?_
      refine r_get C0 hw 0 7 (v := .ref (qf 0)) rfl rfl inX6 (by decide) lk_X6_38 rfl dX6_step_36 ?_
      refine lv_iload_n hx hb dX6_step_39 rfl (lv_at hl 1 rfl) ?_
      obtain ⟨w9, w10, w11, w12, w13, w14, w15, hk16, hf⟩ := b7_s hf
      refine rv_v (vq := (RX0, TX0, 10)) (As := [.ref (qf 0), .int a1]) (rest := []) (bs' := [pJm κ qx rx_tape rx_teller (qb 0) rx_equations rx_images rx_sheets (qf 0) rx_draft x_kept x_textFault x_readFault, pBa κ qb w9 w10 w11 b_endStiffs w12 b_endsAt b_stiffAt w13 w14 w15, pFr κ qf f_held f_couples f_endJoints f_lengths f_stiffs f_loadBeams f_loadSizes f_loadPlaces f_joints f_beams f_loads]) C0 hw (cBa_letGo l D κ qb b_moments b_gains b_topped b_endStiffs b_outs b_endsAt b_stiffAt b_stepsAt b_steps b_latest qf f_held f_couples f_endJoints f_lengths f_stiffs f_loadBeams f_loadSizes f_loadPlaces f_joints f_beams f_loads a1 w9 w10 w11 w12 w13 w14 w15 hk16) cv_RX6_207 ⟨rfl, rfl, Nat.le_of_ble_eq_true rfl, Nat.le_of_ble_eq_true rfl⟩ ⟨Nat.zero_le _, Nat.zero_le _⟩ [1, 2] [0] [0, 1, 2] rfl rfl rfl rfl (by decide) rfl rfl rfl rfl rfl hl.1 (by simp only [List.map, List.sum_cons, List.sum_nil, Value.category]; decide) dX6_step_40 (fun H locs hw => ?_)
      refine lv_aload_n hx hb dX6_step_43 rfl (lv_at hl 0 rfl) ?_
      refine r_get C0 hw 0 2 (v := .ref (qb 0)) rfl rfl inX6 (by decide) lk_X6_24 rfl dX6_step_44 ?_
      refine r_get C0 hw 2 8 (v := .int w14) rfl rfl inX0 (by decide) lk_X6_103 rfl dX6_step_47 ?_
      obtain ⟨rfl, rfl, rfl, rfl, rfl, rfl, rfl, rfl⟩ := e8_ hf
      exact r_iret C0 hw trivial dX6_step_50
    · have hf := if_t hc8 hf
      refine lv_bipush (v := -2) hx hb dX6_step_28 (by decide) ?_
      obtain ⟨rfl, rfl, rfl, rfl, rfl, rfl, rfl, rfl⟩ := e8_ hf
      exact r_iret C0 hw trivial dX6_step_30
  · have hf := if_t hc4 hf
    refine lv_iconst (v := -1) hx hb dX6_step_11 (by decide) ?_
    obtain ⟨rfl, rfl, rfl, rfl, rfl, rfl, rfl, rfl⟩ := e8_ hf
    exact r_iret C0 hw trivial dX6_step_12
def FJm_sweep_L23 (b_endStiffs b_endsAt b_stiffAt f_held f_endJoints : Nat → Int32) (f_joints f_beams l1 l2 : Int32) : Nat → Int32 → (Nat → Int32) → (Nat → Int32) → (Nat → Int32) → (Nat → Int32) → (Nat → Int32) → Int32 → Int32 → Option (Int32 × (Nat → Int32) × (Nat → Int32) × (Nat → Int32) × (Nat → Int32) × (Nat → Int32) × Int32 × Int32)
  | 0, _, _, _, _, _, _, _, _ => none
  | n + 1, l3, b_moments, b_gains, b_topped, b_outs, b_stepsAt, b_steps, b_latest =>
      if l2 ≤ l3 then
        some (l2, b_moments, b_gains, b_topped, b_outs, b_stepsAt, b_steps, b_latest)
      else
        b1_ (FBa_chosen b_outs b_endsAt b_latest f_held f_joints l1) fun r8 =>
        if 0 ≤ r8 then
          b7_ (FBa_letGo b_moments b_gains b_topped b_endStiffs b_outs b_stiffAt b_stepsAt b_steps f_endJoints f_beams r8) fun w12 w13 w14 w15 w16 w17 w18 =>
          lt_ (l3 + (1 : Int32)) fun v21 =>
          FJm_sweep_L23 b_endStiffs b_endsAt b_stiffAt f_held f_endJoints f_joints f_beams l1 l2 n v21 w12 w13 w14 w15 w16 w17 w18
        else
          some (l3, b_moments, b_gains, b_topped, b_outs, b_stepsAt, b_steps, b_latest)
def FJm_sweep (b_moments b_gains b_topped b_endStiffs b_outs b_endsAt b_stiffAt b_stepsAt : Nat → Int32) (b_steps b_latest : Int32) (f_held f_endJoints : Nat → Int32) (f_joints f_beams a1 a2 : Int32) : Option (Int32 × (Nat → Int32) × (Nat → Int32) × (Nat → Int32) × (Nat → Int32) × (Nat → Int32) × Int32 × Int32) :=
  b1_ (FJm_isWay a1) fun r1 =>
  if r1 = 0 then
    some ((-1 : Int32), b_moments, b_gains, b_topped, b_outs, b_stepsAt, b_steps, b_latest)
  else
    if a2 < (1 : Int32) then
      some ((-1 : Int32), b_moments, b_gains, b_topped, b_outs, b_stepsAt, b_steps, b_latest)
    else
      if a2 ≤ (200 : Int32) then
        FJm_sweep_L23 b_endStiffs b_endsAt b_stiffAt f_held f_endJoints f_joints f_beams a1 a2 1000 (0 : Int32) b_moments b_gains b_topped b_outs b_stepsAt b_steps b_latest
      else
        some ((-1 : Int32), b_moments, b_gains, b_topped, b_outs, b_stepsAt, b_steps, b_latest)
set_option maxHeartbeats 4000000 in
set_option maxRecDepth 100000 in
theorem wJm_sweep_L23 {p : Program} {l : Launch} {e : Env} {s : State} {m : MethodId} {args : Array Value} {below : List Frame} {meth : Method} {c : Code} {A : Nat → Prop} {D : va_G} {κ : Nat → ClassId} (C0 : cx_ p s m meth c args cX6_sweep RX6 (some .int) 5 A) (qx : Nat → Nat) (rx_tape rx_teller rx_equations rx_images rx_sheets rx_draft : Nat) (x_kept : Nat → Int32) (x_textFault x_readFault : Int32) (qb : Nat → Nat) (b_endStiffs b_endsAt b_stiffAt : Nat → Int32) (qf : Nat → Nat) (f_held f_couples f_endJoints f_lengths f_stiffs f_loadBeams f_loadSizes f_loadPlaces : Nat → Int32) (f_joints f_beams f_loads l1 l2 : Int32) (zr : Int32) (z1 z2 z3 z4 z5 : Nat → Int32) (z6 z7 : Int32) : ∀ (n : Nat) (l3 : Int32) (b_moments : Nat → Int32) (b_gains : Nat → Int32) (b_topped : Nat → Int32) (b_outs : Nat → Int32) (b_stepsAt : Nat → Int32) (b_steps : Int32) (b_latest : Int32) (H : Heap) (locs : List Loc) (ls : Array Slot), wd_ D (tys0 κ) A s (List.flatten [pJm κ qx rx_tape rx_teller (qb 0) rx_equations rx_images rx_sheets (qf 0) rx_draft x_kept x_textFault x_readFault, pBa κ qb b_moments b_gains b_topped b_endStiffs b_outs b_endsAt b_stiffAt b_stepsAt b_steps b_latest, pFr κ qf f_held f_couples f_endJoints f_lengths f_stiffs f_loadBeams f_loadSizes f_loadPlaces f_joints f_beams f_loads]) H locs → lv_has ls 5 [(0, .ref (qx 0)), (1, .int l1), (2, .int l2), (3, .int l3)] → FJm_sweep_L23 b_endStiffs b_endsAt b_stiffAt f_held f_endJoints f_joints f_beams l1 l2 n l3 b_moments b_gains b_topped b_outs b_stepsAt b_steps b_latest = some (zr, z1, z2, z3, z4, z5, z6, z7) → W p l e ({ frames := 4, cells := 0, slots := 0, locals := 98 } : Room) s m args below meth c H locs 0 0 (qI_ D (tys0 κ) A nT_ zr (List.flatten [pJm κ qx rx_tape rx_teller (qb 0) rx_equations rx_images rx_sheets (qf 0) rx_draft x_kept x_textFault x_readFault, pBa κ qb z1 z2 z3 b_endStiffs z4 b_endsAt b_stiffAt z5 z6 z7, pFr κ qf f_held f_couples f_endJoints f_lengths f_stiffs f_loadBeams f_loadSizes f_loadPlaces f_joints f_beams f_loads]) below args s) (F0 m 23 ls []) := by
  obtain ⟨hx, hb, -, hml, hown, hts, -, -⟩ := id C0
  intro n
  induction n with
  | zero =>
    intro l3 b_moments b_gains b_topped b_outs b_stepsAt b_steps b_latest H locs ls hw hl  hf
    cases hf
  | succ n ih =>
    intro l3 b_moments b_gains b_topped b_outs b_stepsAt b_steps b_latest H locs ls hw hl  hf
    rw [FJm_sweep_L23.eq_2] at hf
    refine lv_iload_n hx hb dX6_sweep_23 rfl (lv_at hl 3 rfl) ?_
    refine lv_iload_n hx hb dX6_sweep_24 rfl (lv_at hl 2 rfl) ?_
    refine lv_icmp_ge (tgt := 68) hx hb dX6_sweep_25 (by decide) (fun hc7 => ?_) (fun hc7 => ?_)
    · have hf := if_t hc7 hf
      refine lv_iload_n hx hb dX6_sweep_68 rfl (lv_at hl 2 rfl) ?_
      obtain ⟨rfl, rfl, rfl, rfl, rfl, rfl, rfl, rfl⟩ := e8_ hf
      exact r_iret C0 hw trivial dX6_sweep_69
    · have hf := if_f hc7 hf
      refine lv_aload_n hx hb dX6_sweep_28 rfl (lv_at hl 0 rfl) ?_
      refine r_get C0 hw 0 2 (v := .ref (qb 0)) rfl rfl inX6 (by decide) lk_X6_24 rfl dX6_sweep_29 ?_
      refine lv_aload_n hx hb dX6_sweep_32 rfl (lv_at hl 0 rfl) ?_
      refine r_get C0 hw 0 7 (v := .ref (qf 0)) rfl rfl inX6 (by decide) lk_X6_38 rfl dX6_sweep_33 ?_
      refine lv_iload_n hx hb dX6_sweep_36 rfl (lv_at hl 1 rfl) ?_
      obtain ⟨r8, hk9, hf⟩ := b1_s hf
      refine rv_i (vq := (RX0, TX0, 10)) (As := [.ref (qf 0), .int l1]) (rest := []) (bs' := [pJm κ qx rx_tape rx_teller (qb 0) rx_equations rx_images rx_sheets (qf 0) rx_draft x_kept x_textFault x_readFault, pBa κ qb b_moments b_gains b_topped b_endStiffs b_outs b_endsAt b_stiffAt b_stepsAt b_steps b_latest, pFr κ qf f_held f_couples f_endJoints f_lengths f_stiffs f_loadBeams f_loadSizes f_loadPlaces f_joints f_beams f_loads]) C0 hw (cBa_chosen l D κ qb b_moments b_gains b_topped b_endStiffs b_outs b_endsAt b_stiffAt b_stepsAt b_steps b_latest qf f_held f_couples f_endJoints f_lengths f_stiffs f_loadBeams f_loadSizes f_loadPlaces f_joints f_beams f_loads l1 r8 hk9) cv_RX6_201 ⟨rfl, rfl, Nat.le_of_ble_eq_true rfl, Nat.le_of_ble_eq_true rfl⟩ ⟨Nat.zero_le _, Nat.zero_le _⟩ [1, 2] [0] [0, 1, 2] rfl rfl rfl rfl (by decide) rfl rfl rfl rfl rfl hl.1 (by simp only [List.map, List.sum_cons, List.sum_nil, Value.category]; decide) dX6_sweep_37 (fun H locs hw hn10 => ?_)
      refine lv_istore (lv' := [(4, .int r8), (0, .ref (qx 0)), (1, .int l1), (2, .int l2), (3, .int l3)]) hx hb dX6_sweep_40 hl (by decide) rfl (fun ls hl => ?_)
      refine lv_iload hx hb dX6_sweep_42 (lv_at hl 0 rfl) ?_
      refine lv_if_ge (tgt := 49) hx hb dX6_sweep_44 (by decide) (fun hc11 => ?_) (fun hc11 => ?_)
      · have hf := if_t hc11 hf
        refine lv_aload_n hx hb dX6_sweep_49 rfl (lv_at hl 1 rfl) ?_
        refine r_get C0 hw 0 2 (v := .ref (qb 0)) rfl rfl inX6 (by decide) lk_X6_24 rfl dX6_sweep_50 ?_
        refine lv_aload_n hx hb dX6_sweep_53 rfl (lv_at hl 1 rfl) ?_
        refine r_get C0 hw 0 7 (v := .ref (qf 0)) rfl rfl inX6 (by decide) lk_X6_38 rfl dX6_sweep_54 ?_
        refine lv_iload hx hb dX6_sweep_57 (lv_at hl 0 rfl) ?_
        obtain ⟨w12, w13, w14, w15, w16, w17, w18, hk19, hf⟩ := b7_s hf
        refine rv_v (vq := (RX0, TX0, 10)) (As := [.ref (qf 0), .int r8]) (rest := []) (bs' := [pJm κ qx rx_tape rx_teller (qb 0) rx_equations rx_images rx_sheets (qf 0) rx_draft x_kept x_textFault x_readFault, pBa κ qb w12 w13 w14 b_endStiffs w15 b_endsAt b_stiffAt w16 w17 w18, pFr κ qf f_held f_couples f_endJoints f_lengths f_stiffs f_loadBeams f_loadSizes f_loadPlaces f_joints f_beams f_loads]) C0 hw (cBa_letGo l D κ qb b_moments b_gains b_topped b_endStiffs b_outs b_endsAt b_stiffAt b_stepsAt b_steps b_latest qf f_held f_couples f_endJoints f_lengths f_stiffs f_loadBeams f_loadSizes f_loadPlaces f_joints f_beams f_loads r8 w12 w13 w14 w15 w16 w17 w18 hk19) cv_RX6_207 ⟨rfl, rfl, Nat.le_of_ble_eq_true rfl, Nat.le_of_ble_eq_true rfl⟩ ⟨Nat.zero_le _, Nat.zero_le _⟩ [1, 2] [0] [0, 1, 2] rfl rfl rfl rfl (by decide) rfl rfl rfl rfl rfl hl.1 (by simp only [List.map, List.sum_cons, List.sum_nil, Value.category]; decide) dX6_sweep_59 (fun H locs hw => ?_)
        obtain ⟨v21, ev21⟩ : ∃ z : Int32, z = (l3 + (1 : Int32)) := ⟨_, rfl⟩
        have hf := lt_s_ hf v21 ev21
        refine lv_iinc (v := v21) (lv' := [(3, .int v21), (4, .int r8), (0, .ref (qx 0)), (1, .int l1), (2, .int l2)]) hx hb dX6_sweep_62 hl (k := 4) rfl (by rw [ev21]; rfl) (by decide) rfl (fun ls hl => ?_)
        refine lv_goto (tgt := 23) hx hb dX6_sweep_65 (by decide) ?_
        exact ih v21 w12 w13 w14 w15 w16 w17 w18 H locs ls hw (lv_sub hl [2, 3, 4, 0] rfl)  hf
      · have hf := if_f hc11 hf
        refine lv_iload_n hx hb dX6_sweep_47 rfl (lv_at hl 4 rfl) ?_
        obtain ⟨rfl, rfl, rfl, rfl, rfl, rfl, rfl, rfl⟩ := e8_ hf
        exact r_iret C0 hw trivial dX6_sweep_48
set_option maxHeartbeats 4000000 in
set_option maxRecDepth 100000 in
theorem cJm_sweep (l : Launch) (D : va_G) (κ : Nat → ClassId) (qx : Nat → Nat) (rx_tape rx_teller rx_equations rx_images rx_sheets rx_draft : Nat) (x_kept : Nat → Int32) (x_textFault x_readFault : Int32) (qb : Nat → Nat) (b_moments b_gains b_topped b_endStiffs b_outs b_endsAt b_stiffAt b_stepsAt : Nat → Int32) (b_steps b_latest : Int32) (qf : Nat → Nat) (f_held f_couples f_endJoints f_lengths f_stiffs f_loadBeams f_loadSizes f_loadPlaces : Nat → Int32) (f_joints f_beams f_loads a1 a2 zr : Int32) (z1 z2 z3 z4 z5 : Nat → Int32) (z6 z7 : Int32) (hf : FJm_sweep b_moments b_gains b_topped b_endStiffs b_outs b_endsAt b_stiffAt b_stepsAt b_steps b_latest f_held f_endJoints f_joints f_beams a1 a2 = some (zr, z1, z2, z3, z4, z5, z6, z7)) : mI_ l yX6_sweep (Cond.code yX6_sweep cX6_sweep 5 (some .int) :: uw) ({ frames := 4, cells := 0, slots := 0, locals := 98 } : Room) D (tys0 κ) [.ref (qx 0), .int a1, .int a2] (List.flatten [pJm κ qx rx_tape rx_teller (qb 0) rx_equations rx_images rx_sheets (qf 0) rx_draft x_kept x_textFault x_readFault, pBa κ qb b_moments b_gains b_topped b_endStiffs b_outs b_endsAt b_stiffAt b_stepsAt b_steps b_latest, pFr κ qf f_held f_couples f_endJoints f_lengths f_stiffs f_loadBeams f_loadSizes f_loadPlaces f_joints f_beams f_loads]) nT_ zr (List.flatten [pJm κ qx rx_tape rx_teller (qb 0) rx_equations rx_images rx_sheets (qf 0) rx_draft x_kept x_textFault x_readFault, pBa κ qb z1 z2 z3 b_endStiffs z4 b_endsAt b_stiffAt z5 z6 z7, pFr κ qf f_held f_couples f_endJoints f_lengths f_stiffs f_loadBeams f_loadSizes f_loadPlaces f_joints f_beams f_loads]) := by
  unfold FJm_sweep at hf
  refine mI_of (by decide) (Nat.le_of_ble_eq_true rfl) ?_
  intro p e s m below meth c A ls H locs C0 hw hl
  obtain ⟨hx, hb, -, hml, hown, hts, -, -⟩ := id C0
  have hl : lv_has ls 5 [(0, .ref (qx 0)), (1, .int a1), (2, .int a2)] := hl
  refine lv_iload_n hx hb dX6_sweep_0 rfl (lv_at hl 1 rfl) ?_
  obtain ⟨r1, hk2, hf⟩ := b1_s hf
  refine rs_i (As := [.int a1]) (rest := []) (bs' := [pJm κ qx rx_tape rx_teller (qb 0) rx_equations rx_images rx_sheets (qf 0) rx_draft x_kept x_textFault x_readFault, pBa κ qb b_moments b_gains b_topped b_endStiffs b_outs b_endsAt b_stiffAt b_stepsAt b_steps b_latest, pFr κ qf f_held f_couples f_endJoints f_lengths f_stiffs f_loadBeams f_loadSizes f_loadPlaces f_joints f_beams f_loads]) C0 hw (cJm_isWay l D κ a1 r1 hk2) cs_X6_198 ⟨rfl, rfl, Nat.le_of_ble_eq_true rfl, Nat.le_of_ble_eq_true rfl⟩ ⟨Nat.zero_le _, Nat.zero_le _⟩ [] [0, 1, 2] [0, 1, 2] rfl rfl rfl rfl (by decide) rfl rfl rfl hl.1 (by simp only [List.map, List.sum_cons, List.sum_nil, Value.category]; decide) dX6_sweep_1 (fun H locs hw hn3 => ?_)
  refine lv_if_eq (tgt := 19) hx hb dX6_sweep_4 (by decide) (fun hc4 => ?_) (fun hc4 => ?_)
  · have hf := if_t hc4 hf
    refine lv_iconst (v := -1) hx hb dX6_sweep_19 (by decide) ?_
    obtain ⟨rfl, rfl, rfl, rfl, rfl, rfl, rfl, rfl⟩ := e8_ hf
    exact r_iret C0 hw trivial dX6_sweep_20
  · have hf := if_f hc4 hf
    refine lv_iload_n hx hb dX6_sweep_7 rfl (lv_at hl 2 rfl) ?_
    refine lv_iconst (v := 1) hx hb dX6_sweep_8 (by decide) ?_
    refine lv_icmp_lt (tgt := 19) hx hb dX6_sweep_9 (by decide) (fun hc5 => ?_) (fun hc5 => ?_)
    · have hf := if_t hc5 hf
      refine lv_iconst (v := -1) hx hb dX6_sweep_19 (by decide) ?_
      obtain ⟨rfl, rfl, rfl, rfl, rfl, rfl, rfl, rfl⟩ := e8_ hf
      exact r_iret C0 hw trivial dX6_sweep_20
    · have hf := if_f hc5 hf
      refine lv_iload_n hx hb dX6_sweep_12 rfl (lv_at hl 2 rfl) ?_
      refine lv_sipush (v := 200) hx hb dX6_sweep_13 (by decide) ?_
      refine lv_icmp_le (tgt := 21) hx hb dX6_sweep_16 (by decide) (fun hc6 => ?_) (fun hc6 => ?_)
      · have hf := if_t hc6 hf
        refine lv_iconst (v := 0) hx hb dX6_sweep_21 (by decide) ?_
        refine lv_istore_n (lv' := [(3, .int (0 : Int32)), (0, .ref (qx 0)), (1, .int a1), (2, .int a2)]) hx hb dX6_sweep_22 rfl hl (by decide) rfl (fun ls hl => ?_)
        exact wJm_sweep_L23 C0 qx rx_tape rx_teller rx_equations rx_images rx_sheets rx_draft x_kept x_textFault x_readFault qb b_endStiffs b_endsAt b_stiffAt qf f_held f_couples f_endJoints f_lengths f_stiffs f_loadBeams f_loadSizes f_loadPlaces f_joints f_beams f_loads a1 a2 zr z1 z2 z3 z4 z5 z6 z7 1000 (0 : Int32) b_moments b_gains b_topped b_outs b_stepsAt b_steps b_latest H locs ls hw (lv_sub hl [1, 2, 3, 0] rfl)  hf
      · have hf := if_f hc6 hf
        refine lv_iconst (v := -1) hx hb dX6_sweep_19 (by decide) ?_
        obtain ⟨rfl, rfl, rfl, rfl, rfl, rfl, rfl, rfl⟩ := e8_ hf
        exact r_iret C0 hw trivial dX6_sweep_20
def FJm_begin (b_moments b_endStiffs b_outs b_endsAt b_stiffAt b_stepsAt : Nat → Int32) (b_steps : Int32) (f_couples f_endJoints f_lengths f_stiffs f_loadBeams f_loadSizes f_loadPlaces : Nat → Int32) (f_beams f_loads : Int32) : Option (Int32 × (Nat → Int32) × (Nat → Int32) × (Nat → Int32) × (Nat → Int32) × (Nat → Int32) × (Nat → Int32) × Int32 × Int32) :=
  b8_ (FBa_anew b_moments b_endStiffs b_outs b_endsAt b_stiffAt b_stepsAt f_couples f_endJoints f_lengths f_stiffs f_loadBeams f_loadSizes f_loadPlaces f_beams f_loads) fun w1 w2 w3 w4 w5 w6 w7 w8 =>
  some (b_steps, w1, w2, w3, w4, w5, w6, w7, w8)
set_option maxHeartbeats 4000000 in
set_option maxRecDepth 100000 in
theorem cJm_begin (l : Launch) (D : va_G) (κ : Nat → ClassId) (qx : Nat → Nat) (rx_tape rx_teller rx_equations rx_images rx_sheets rx_draft : Nat) (x_kept : Nat → Int32) (x_textFault x_readFault : Int32) (qb : Nat → Nat) (b_moments b_gains b_topped b_endStiffs b_outs b_endsAt b_stiffAt b_stepsAt : Nat → Int32) (b_steps b_latest : Int32) (qf : Nat → Nat) (f_held f_couples f_endJoints f_lengths f_stiffs f_loadBeams f_loadSizes f_loadPlaces : Nat → Int32) (f_joints f_beams f_loads zr : Int32) (z1 z2 z3 z4 z5 z6 : Nat → Int32) (z7 z8 : Int32) (hf : FJm_begin b_moments b_endStiffs b_outs b_endsAt b_stiffAt b_stepsAt b_steps f_couples f_endJoints f_lengths f_stiffs f_loadBeams f_loadSizes f_loadPlaces f_beams f_loads = some (zr, z1, z2, z3, z4, z5, z6, z7, z8)) : mI_ l yX6_begin (Cond.code yX6_begin cX6_begin 2 (some .int) :: uw) ({ frames := 3, cells := 0, slots := 0, locals := 72 } : Room) D (tys0 κ) [.ref (qx 0)] (List.flatten [pJm κ qx rx_tape rx_teller (qb 0) rx_equations rx_images rx_sheets (qf 0) rx_draft x_kept x_textFault x_readFault, pBa κ qb b_moments b_gains b_topped b_endStiffs b_outs b_endsAt b_stiffAt b_stepsAt b_steps b_latest, pFr κ qf f_held f_couples f_endJoints f_lengths f_stiffs f_loadBeams f_loadSizes f_loadPlaces f_joints f_beams f_loads]) nT_ zr (List.flatten [pJm κ qx rx_tape rx_teller (qb 0) rx_equations rx_images rx_sheets (qf 0) rx_draft x_kept x_textFault x_readFault, pBa κ qb z1 b_gains b_topped z2 z3 z4 z5 z6 z7 z8, pFr κ qf f_held f_couples f_endJoints f_lengths f_stiffs f_loadBeams f_loadSizes f_loadPlaces f_joints f_beams f_loads]) := by
  unfold FJm_begin at hf
  refine mI_of (by decide) (Nat.le_of_ble_eq_true rfl) ?_
  intro p e s m below meth c A ls H locs C0 hw hl
  obtain ⟨hx, hb, -, hml, hown, hts, -, -⟩ := id C0
  have hl : lv_has ls 2 [(0, .ref (qx 0))] := hl
  refine lv_aload_n hx hb dX6_begin_0 rfl (lv_at hl 0 rfl) ?_
  refine r_get C0 hw 0 2 (v := .ref (qb 0)) rfl rfl inX6 (by decide) lk_X6_24 rfl dX6_begin_1 ?_
  refine r_get C0 hw 2 8 (v := .int b_steps) rfl rfl inX0 (by decide) lk_X6_103 rfl dX6_begin_4 ?_
  refine lv_istore_n (lv' := [(1, .int b_steps), (0, .ref (qx 0))]) hx hb dX6_begin_7 rfl hl (by decide) rfl (fun ls hl => ?_)
  refine lv_aload_n hx hb dX6_begin_8 rfl (lv_at hl 1 rfl) ?_
  refine r_get C0 hw 0 2 (v := .ref (qb 0)) rfl rfl inX6 (by decide) lk_X6_24 rfl dX6_begin_9 ?_
  refine lv_aload_n hx hb dX6_begin_12 rfl (lv_at hl 1 rfl) ?_
  refine r_get C0 hw 0 7 (v := .ref (qf 0)) rfl rfl inX6 (by decide) lk_X6_38 rfl dX6_begin_13 ?_
  obtain ⟨w1, w2, w3, w4, w5, w6, w7, w8, hk9, hf⟩ := b8_s hf
  refine rv_v (vq := (RX0, TX0, 10)) (As := [.ref (qf 0)]) (rest := []) (bs' := [pJm κ qx rx_tape rx_teller (qb 0) rx_equations rx_images rx_sheets (qf 0) rx_draft x_kept x_textFault x_readFault, pBa κ qb w1 b_gains b_topped w2 w3 w4 w5 w6 w7 w8, pFr κ qf f_held f_couples f_endJoints f_lengths f_stiffs f_loadBeams f_loadSizes f_loadPlaces f_joints f_beams f_loads]) C0 hw (cBa_anew l D κ qb b_moments b_gains b_topped b_endStiffs b_outs b_endsAt b_stiffAt b_stepsAt b_steps b_latest qf f_held f_couples f_endJoints f_lengths f_stiffs f_loadBeams f_loadSizes f_loadPlaces f_joints f_beams f_loads w1 w2 w3 w4 w5 w6 w7 w8 hk9) cv_RX6_83 ⟨rfl, rfl, Nat.le_of_ble_eq_true rfl, Nat.le_of_ble_eq_true rfl⟩ ⟨Nat.zero_le _, Nat.zero_le _⟩ [1, 2] [0] [0, 1, 2] rfl rfl rfl rfl (by decide) rfl rfl rfl rfl rfl hl.1 (by simp only [List.map, List.sum_cons, List.sum_nil, Value.category]; decide) dX6_begin_16 (fun H locs hw => ?_)
  refine lv_iload_n hx hb dX6_begin_19 rfl (lv_at hl 0 rfl) ?_
  obtain ⟨rfl, rfl, rfl, rfl, rfl, rfl, rfl, rfl, rfl⟩ := e9_ hf
  exact r_iret C0 hw trivial dX6_begin_20
def FJm_mayCouple (f_joints a1 a2 : Int32) : Option (Int32) :=
  b1_ (FFr_isJoint f_joints a1) fun r1 =>
  if r1 = 0 then
    some ((0 : Int32))
  else
    if a2 < (-9999 : Int32) then
      some ((0 : Int32))
    else
      if (9999 : Int32) < a2 then
        some ((0 : Int32))
      else
        some ((1 : Int32))
set_option maxHeartbeats 4000000 in
set_option maxRecDepth 100000 in
theorem cJm_mayCouple (l : Launch) (D : va_G) (κ : Nat → ClassId) (qx : Nat → Nat) (rx_tape rx_teller rx_balance rx_equations rx_images rx_sheets rx_draft : Nat) (x_kept : Nat → Int32) (x_textFault x_readFault : Int32) (qf : Nat → Nat) (f_held f_couples f_endJoints f_lengths f_stiffs f_loadBeams f_loadSizes f_loadPlaces : Nat → Int32) (f_joints f_beams f_loads a1 a2 zr : Int32) (hf : FJm_mayCouple f_joints a1 a2 = some zr) : mI_ l yX6_mayCouple (Cond.code yX6_mayCouple cX6_mayCouple 3 (some .boolean) :: uw) ({ frames := 1, cells := 0, slots := 0, locals := 21 } : Room) D (tys0 κ) [.ref (qx 0), .int a1, .int a2] (List.flatten [pJm κ qx rx_tape rx_teller rx_balance rx_equations rx_images rx_sheets (qf 0) rx_draft x_kept x_textFault x_readFault, pFr κ qf f_held f_couples f_endJoints f_lengths f_stiffs f_loadBeams f_loadSizes f_loadPlaces f_joints f_beams f_loads]) nB_ zr (List.flatten [pJm κ qx rx_tape rx_teller rx_balance rx_equations rx_images rx_sheets (qf 0) rx_draft x_kept x_textFault x_readFault, pFr κ qf f_held f_couples f_endJoints f_lengths f_stiffs f_loadBeams f_loadSizes f_loadPlaces f_joints f_beams f_loads]) := by
  unfold FJm_mayCouple at hf
  refine mI_of (by decide) (Nat.le_of_ble_eq_true rfl) ?_
  intro p e s m below meth c A ls H locs C0 hw hl
  obtain ⟨hx, hb, -, hml, hown, hts, -, -⟩ := id C0
  have hl : lv_has ls 3 [(0, .ref (qx 0)), (1, .int a1), (2, .int a2)] := hl
  refine lv_aload_n hx hb dX6_mayCouple_0 rfl (lv_at hl 0 rfl) ?_
  refine r_get C0 hw 0 7 (v := .ref (qf 0)) rfl rfl inX6 (by decide) lk_X6_38 rfl dX6_mayCouple_1 ?_
  refine lv_iload_n hx hb dX6_mayCouple_4 rfl (lv_at hl 1 rfl) ?_
  obtain ⟨r1, hk2, hf⟩ := b1_s hf
  refine rv_i (vq := (RX2, TX2, 11)) (As := [.int a1]) (rest := []) (bs' := [pJm κ qx rx_tape rx_teller rx_balance rx_equations rx_images rx_sheets (qf 0) rx_draft x_kept x_textFault x_readFault, pFr κ qf f_held f_couples f_endJoints f_lengths f_stiffs f_loadBeams f_loadSizes f_loadPlaces f_joints f_beams f_loads]) C0 hw (cFr_isJoint l D κ qf f_held f_couples f_endJoints f_lengths f_stiffs f_loadBeams f_loadSizes f_loadPlaces f_joints f_beams f_loads a1 r1 hk2) cv_RX6_116 ⟨rfl, rfl, Nat.le_of_ble_eq_true rfl, Nat.le_of_ble_eq_true rfl⟩ ⟨Nat.zero_le _, Nat.zero_le _⟩ [1] [0] [0, 1] rfl rfl rfl rfl (by decide) rfl rfl rfl rfl rfl hl.1 (by simp only [List.map, List.sum_cons, List.sum_nil, Value.category]; decide) dX6_mayCouple_5 (fun H locs hw hn3 => ?_)
  refine lv_if_eq (tgt := 29) hx hb dX6_mayCouple_8 (by decide) (fun hc4 => ?_) (fun hc4 => ?_)
  · have hf := if_t hc4 hf
    refine lv_iconst (v := 0) hx hb dX6_mayCouple_29 (by decide) ?_
    obtain rfl := e1_ hf
    exact r_zret C0 hw (Or.inl rfl) dX6_mayCouple_30
  · have hf := if_f hc4 hf
    refine lv_iload_n hx hb dX6_mayCouple_11 rfl (lv_at hl 2 rfl) ?_
    refine lv_sipush (v := -9999) hx hb dX6_mayCouple_12 (by decide) ?_
    refine lv_icmp_lt (tgt := 29) hx hb dX6_mayCouple_15 (by decide) (fun hc5 => ?_) (fun hc5 => ?_)
    · have hf := if_t hc5 hf
      refine lv_iconst (v := 0) hx hb dX6_mayCouple_29 (by decide) ?_
      obtain rfl := e1_ hf
      exact r_zret C0 hw (Or.inl rfl) dX6_mayCouple_30
    · have hf := if_f hc5 hf
      refine lv_iload_n hx hb dX6_mayCouple_18 rfl (lv_at hl 2 rfl) ?_
      refine lv_sipush (v := 9999) hx hb dX6_mayCouple_19 (by decide) ?_
      refine lv_icmp_gt (tgt := 29) hx hb dX6_mayCouple_22 (by decide) (fun hc6 => ?_) (fun hc6 => ?_)
      · have hf := if_t hc6 hf
        refine lv_iconst (v := 0) hx hb dX6_mayCouple_29 (by decide) ?_
        obtain rfl := e1_ hf
        exact r_zret C0 hw (Or.inl rfl) dX6_mayCouple_30
      · have hf := if_f hc6 hf
        refine lv_iconst (v := 1) hx hb dX6_mayCouple_25 (by decide) ?_
        refine lv_goto (tgt := 30) hx hb dX6_mayCouple_26 (by decide) ?_
        obtain rfl := e1_ hf
        exact r_zret C0 hw (Or.inr rfl) dX6_mayCouple_30
def FJm_couple (b_moments b_endStiffs b_outs b_endsAt b_stiffAt b_stepsAt : Nat → Int32) (b_steps b_latest : Int32) (f_couples f_endJoints f_lengths f_stiffs f_loadBeams f_loadSizes f_loadPlaces : Nat → Int32) (f_joints f_beams f_loads a1 a2 : Int32) : Option (Int32 × (Nat → Int32) × (Nat → Int32) × (Nat → Int32) × (Nat → Int32) × (Nat → Int32) × (Nat → Int32) × Int32 × Int32 × (Nat → Int32)) :=
  b1_ (FJm_mayCouple f_joints a1 a2) fun r1 =>
  if r1 = 0 then
    some ((-1 : Int32), b_moments, b_endStiffs, b_outs, b_endsAt, b_stiffAt, b_stepsAt, b_steps, b_latest, f_couples)
  else
    gd_ a1 6 <|
    lt_ (upd f_couples a1.toNatClampNeg a2) fun w6 =>
    b8_ (FBa_anew b_moments b_endStiffs b_outs b_endsAt b_stiffAt b_stepsAt w6 f_endJoints f_lengths f_stiffs f_loadBeams f_loadSizes f_loadPlaces f_beams f_loads) fun w7 w8 w9 w10 w11 w12 w13 w14 =>
    some ((1 : Int32), w7, w8, w9, w10, w11, w12, w13, w14, w6)
set_option maxHeartbeats 4000000 in
set_option maxRecDepth 100000 in
theorem cJm_couple (l : Launch) (D : va_G) (κ : Nat → ClassId) (qx : Nat → Nat) (rx_tape rx_teller rx_equations rx_images rx_sheets rx_draft : Nat) (x_kept : Nat → Int32) (x_textFault x_readFault : Int32) (qb : Nat → Nat) (b_moments b_gains b_topped b_endStiffs b_outs b_endsAt b_stiffAt b_stepsAt : Nat → Int32) (b_steps b_latest : Int32) (qf : Nat → Nat) (f_held f_couples f_endJoints f_lengths f_stiffs f_loadBeams f_loadSizes f_loadPlaces : Nat → Int32) (f_joints f_beams f_loads a1 a2 zr : Int32) (z1 z2 z3 z4 z5 z6 : Nat → Int32) (z7 z8 : Int32) (z9 : Nat → Int32) (hf : FJm_couple b_moments b_endStiffs b_outs b_endsAt b_stiffAt b_stepsAt b_steps b_latest f_couples f_endJoints f_lengths f_stiffs f_loadBeams f_loadSizes f_loadPlaces f_joints f_beams f_loads a1 a2 = some (zr, z1, z2, z3, z4, z5, z6, z7, z8, z9)) : mI_ l yX6_couple (Cond.code yX6_couple cX6_couple 3 (some .int) :: uw) ({ frames := 3, cells := 0, slots := 0, locals := 72 } : Room) D (tys0 κ) [.ref (qx 0), .int a1, .int a2] (List.flatten [pJm κ qx rx_tape rx_teller (qb 0) rx_equations rx_images rx_sheets (qf 0) rx_draft x_kept x_textFault x_readFault, pBa κ qb b_moments b_gains b_topped b_endStiffs b_outs b_endsAt b_stiffAt b_stepsAt b_steps b_latest, pFr κ qf f_held f_couples f_endJoints f_lengths f_stiffs f_loadBeams f_loadSizes f_loadPlaces f_joints f_beams f_loads]) nT_ zr (List.flatten [pJm κ qx rx_tape rx_teller (qb 0) rx_equations rx_images rx_sheets (qf 0) rx_draft x_kept x_textFault x_readFault, pBa κ qb z1 b_gains b_topped z2 z3 z4 z5 z6 z7 z8, pFr κ qf f_held z9 f_endJoints f_lengths f_stiffs f_loadBeams f_loadSizes f_loadPlaces f_joints f_beams f_loads]) := by
  unfold FJm_couple at hf
  refine mI_of (by decide) (Nat.le_of_ble_eq_true rfl) ?_
  intro p e s m below meth c A ls H locs C0 hw hl
  obtain ⟨hx, hb, -, hml, hown, hts, -, -⟩ := id C0
  have hl : lv_has ls 3 [(0, .ref (qx 0)), (1, .int a1), (2, .int a2)] := hl
  refine lv_aload_n hx hb dX6_couple_0 rfl (lv_at hl 0 rfl) ?_
  refine lv_iload_n hx hb dX6_couple_1 rfl (lv_at hl 1 rfl) ?_
  refine lv_iload_n hx hb dX6_couple_2 rfl (lv_at hl 2 rfl) ?_
  obtain ⟨r1, hk2, hf⟩ := b1_s hf
  refine rv_i (vq := (RX6, TX6, 11)) (As := [.int a1, .int a2]) (rest := []) (bs' := [pJm κ qx rx_tape rx_teller (qb 0) rx_equations rx_images rx_sheets (qf 0) rx_draft x_kept x_textFault x_readFault, pBa κ qb b_moments b_gains b_topped b_endStiffs b_outs b_endsAt b_stiffAt b_stepsAt b_steps b_latest, pFr κ qf f_held f_couples f_endJoints f_lengths f_stiffs f_loadBeams f_loadSizes f_loadPlaces f_joints f_beams f_loads]) C0 hw (cJm_mayCouple l D κ qx _ _ _ _ _ _ _ x_kept x_textFault x_readFault qf f_held f_couples f_endJoints f_lengths f_stiffs f_loadBeams f_loadSizes f_loadPlaces f_joints f_beams f_loads a1 a2 r1 hk2) cv_RX6_210 ⟨rfl, rfl, Nat.le_of_ble_eq_true rfl, Nat.le_of_ble_eq_true rfl⟩ ⟨Nat.zero_le _, Nat.zero_le _⟩ [0, 2] [1] [1, 0, 2] rfl rfl rfl rfl (by decide) rfl rfl rfl rfl rfl hl.1 (by simp only [List.map, List.sum_cons, List.sum_nil, Value.category]; decide) dX6_couple_3 (fun H locs hw hn3 => ?_)
  refine lv_if_ne (tgt := 11) hx hb dX6_couple_6 (by decide) (fun hc4 => ?_) (fun hc4 => ?_)
  · have hf := if_f hc4 hf
    refine lv_aload_n hx hb dX6_couple_11 rfl (lv_at hl 0 rfl) ?_
    refine r_get C0 hw 0 7 (v := .ref (qf 0)) rfl rfl inX6 (by decide) lk_X6_38 rfl dX6_couple_12 ?_
    refine r_get C0 hw 11 1 (v := .ref (qf 2)) rfl rfl inX2 (by decide) lk_X6_138 rfl dX6_couple_15 ?_
    refine lv_iload_n hx hb dX6_couple_18 rfl (lv_at hl 1 rfl) ?_
    refine lv_iload_n hx hb dX6_couple_19 rfl (lv_at hl 2 rfl) ?_
    obtain ⟨hi5, hf⟩ := gd_s hf
    obtain ⟨w6, ew6⟩ : ∃ z : Nat → Int32, z = (upd f_couples a1.toNatClampNeg a2) := ⟨_, rfl⟩
    have hf := lt_s_ hf w6 ew6
    refine r_iast C0 hw 13 0 rfl rfl hi5 dX6_couple_20 (ws' := List.flatten [pJm κ qx rx_tape rx_teller (qb 0) rx_equations rx_images rx_sheets (qf 0) rx_draft x_kept x_textFault x_readFault, pBa κ qb b_moments b_gains b_topped b_endStiffs b_outs b_endsAt b_stiffAt b_stepsAt b_steps b_latest, pFr κ qf f_held w6 f_endJoints f_lengths f_stiffs f_loadBeams f_loadSizes f_loadPlaces f_joints f_beams f_loads]) (by subst ew6; rfl) (fun H locs hw => ?_)
    refine lv_aload_n hx hb dX6_couple_21 rfl (lv_at hl 0 rfl) ?_
    refine r_get C0 hw 0 2 (v := .ref (qb 0)) rfl rfl inX6 (by decide) lk_X6_24 rfl dX6_couple_22 ?_
    refine lv_aload_n hx hb dX6_couple_25 rfl (lv_at hl 0 rfl) ?_
    refine r_get C0 hw 0 7 (v := .ref (qf 0)) rfl rfl inX6 (by decide) lk_X6_38 rfl dX6_couple_26 ?_
    obtain ⟨w7, w8, w9, w10, w11, w12, w13, w14, hk15, hf⟩ := b8_s hf
    refine rv_v (vq := (RX0, TX0, 10)) (As := [.ref (qf 0)]) (rest := []) (bs' := [pJm κ qx rx_tape rx_teller (qb 0) rx_equations rx_images rx_sheets (qf 0) rx_draft x_kept x_textFault x_readFault, pBa κ qb w7 b_gains b_topped w8 w9 w10 w11 w12 w13 w14, pFr κ qf f_held w6 f_endJoints f_lengths f_stiffs f_loadBeams f_loadSizes f_loadPlaces f_joints f_beams f_loads]) C0 hw (cBa_anew l D κ qb b_moments b_gains b_topped b_endStiffs b_outs b_endsAt b_stiffAt b_stepsAt b_steps b_latest qf f_held w6 f_endJoints f_lengths f_stiffs f_loadBeams f_loadSizes f_loadPlaces f_joints f_beams f_loads w7 w8 w9 w10 w11 w12 w13 w14 hk15) cv_RX6_83 ⟨rfl, rfl, Nat.le_of_ble_eq_true rfl, Nat.le_of_ble_eq_true rfl⟩ ⟨Nat.zero_le _, Nat.zero_le _⟩ [1, 2] [0] [0, 1, 2] rfl rfl rfl rfl (by decide) rfl rfl rfl rfl rfl hl.1 (by simp only [List.map, List.sum_cons, List.sum_nil, Value.category]; decide) dX6_couple_29 (fun H locs hw => ?_)
    refine lv_iconst (v := 1) hx hb dX6_couple_32 (by decide) ?_
    obtain ⟨rfl, rfl, rfl, rfl, rfl, rfl, rfl, rfl, rfl, rfl⟩ := e10_ hf
    exact r_iret C0 hw trivial dX6_couple_33
  · have hf := if_t hc4 hf
    refine lv_iconst (v := -1) hx hb dX6_couple_9 (by decide) ?_
    obtain ⟨rfl, rfl, rfl, rfl, rfl, rfl, rfl, rfl, rfl, rfl⟩ := e10_ hf
    exact r_iret C0 hw trivial dX6_couple_10
def FJm_hold (b_moments b_endStiffs b_outs b_endsAt b_stiffAt b_stepsAt : Nat → Int32) (b_steps b_latest : Int32) (f_held f_couples f_endJoints f_lengths f_stiffs f_loadBeams f_loadSizes f_loadPlaces : Nat → Int32) (f_joints f_beams f_loads a1 a2 : Int32) : Option (Int32 × (Nat → Int32) × (Nat → Int32) × (Nat → Int32) × (Nat → Int32) × (Nat → Int32) × (Nat → Int32) × Int32 × Int32 × (Nat → Int32)) :=
  b1_ (FFr_isJoint f_joints a1) fun r1 =>
  if r1 = 0 then
    some ((-1 : Int32), b_moments, b_endStiffs, b_outs, b_endsAt, b_stiffAt, b_stepsAt, b_steps, b_latest, f_held)
  else
    if a2 < 0 then
      some ((-1 : Int32), b_moments, b_endStiffs, b_outs, b_endsAt, b_stiffAt, b_stepsAt, b_steps, b_latest, f_held)
    else
      if a2 ≤ (1 : Int32) then
        gd_ a1 6 <|
        lt_ (f_held a1.toNatClampNeg) fun v8 =>
        lt_ (fun (_ : Unit) =>
          lt_ (fun (v9 : Int32) =>
            gd_ a1 6 <|
            lt_ (upd f_held a1.toNatClampNeg (vp_nar .boolean v9)) fun w11 =>
            b8_ (FBa_anew b_moments b_endStiffs b_outs b_endsAt b_stiffAt b_stepsAt f_couples f_endJoints f_lengths f_stiffs f_loadBeams f_loadSizes f_loadPlaces f_beams f_loads) fun w12 w13 w14 w15 w16 w17 w18 w19 =>
            if v8 = 0 then
              some ((0 : Int32), w12, w13, w14, w15, w16, w17, w18, w19, w11)
            else
              some ((1 : Int32), w12, w13, w14, w15, w16, w17, w18, w19, w11) : Int32 → Option (Int32 × (Nat → Int32) × (Nat → Int32) × (Nat → Int32) × (Nat → Int32) × (Nat → Int32) × (Nat → Int32) × Int32 × Int32 × (Nat → Int32))) fun j23 =>
          if a2 = (1 : Int32) then
            j23 (1 : Int32)
          else
            j23 (0 : Int32) : Unit → Option (Int32 × (Nat → Int32) × (Nat → Int32) × (Nat → Int32) × (Nat → Int32) × (Nat → Int32) × (Nat → Int32) × Int32 × Int32 × (Nat → Int32))) fun j26 =>
        if v8 = 0 then
          j26 ()
        else
          if a2 = 0 then
            b1_ (FFr_turning f_held f_joints) fun r30 =>
            if r30 < (4 : Int32) then
              j26 ()
            else
              some ((-3 : Int32), b_moments, b_endStiffs, b_outs, b_endsAt, b_stiffAt, b_stepsAt, b_steps, b_latest, f_held)
          else
            j26 ()
      else
        some ((-1 : Int32), b_moments, b_endStiffs, b_outs, b_endsAt, b_stiffAt, b_stepsAt, b_steps, b_latest, f_held)
set_option maxHeartbeats 4000000 in
set_option maxRecDepth 100000 in
theorem cJm_hold (l : Launch) (D : va_G) (κ : Nat → ClassId) (qx : Nat → Nat) (rx_tape rx_teller rx_equations rx_images rx_sheets rx_draft : Nat) (x_kept : Nat → Int32) (x_textFault x_readFault : Int32) (qb : Nat → Nat) (b_moments b_gains b_topped b_endStiffs b_outs b_endsAt b_stiffAt b_stepsAt : Nat → Int32) (b_steps b_latest : Int32) (qf : Nat → Nat) (f_held f_couples f_endJoints f_lengths f_stiffs f_loadBeams f_loadSizes f_loadPlaces : Nat → Int32) (f_joints f_beams f_loads a1 a2 zr : Int32) (z1 z2 z3 z4 z5 z6 : Nat → Int32) (z7 z8 : Int32) (z9 : Nat → Int32) (hf : FJm_hold b_moments b_endStiffs b_outs b_endsAt b_stiffAt b_stepsAt b_steps b_latest f_held f_couples f_endJoints f_lengths f_stiffs f_loadBeams f_loadSizes f_loadPlaces f_joints f_beams f_loads a1 a2 = some (zr, z1, z2, z3, z4, z5, z6, z7, z8, z9)) : mI_ l yX6_hold (Cond.code yX6_hold cX6_hold 4 (some .int) :: uw) ({ frames := 3, cells := 0, slots := 0, locals := 72 } : Room) D (tys0 κ) [.ref (qx 0), .int a1, .int a2] (List.flatten [pJm κ qx rx_tape rx_teller (qb 0) rx_equations rx_images rx_sheets (qf 0) rx_draft x_kept x_textFault x_readFault, pBa κ qb b_moments b_gains b_topped b_endStiffs b_outs b_endsAt b_stiffAt b_stepsAt b_steps b_latest, pFr κ qf f_held f_couples f_endJoints f_lengths f_stiffs f_loadBeams f_loadSizes f_loadPlaces f_joints f_beams f_loads]) nT_ zr (List.flatten [pJm κ qx rx_tape rx_teller (qb 0) rx_equations rx_images rx_sheets (qf 0) rx_draft x_kept x_textFault x_readFault, pBa κ qb z1 b_gains b_topped z2 z3 z4 z5 z6 z7 z8, pFr κ qf z9 f_couples f_endJoints f_lengths f_stiffs f_loadBeams f_loadSizes f_loadPlaces f_joints f_beams f_loads]) := by
  unfold FJm_hold at hf
  refine mI_of (by decide) (Nat.le_of_ble_eq_true rfl) ?_
  intro p e s m below meth c A ls H locs C0 hw hl
  obtain ⟨hx, hb, -, hml, hown, hts, -, -⟩ := id C0
  have hl : lv_has ls 4 [(0, .ref (qx 0)), (1, .int a1), (2, .int a2)] := hl
  refine lv_aload_n hx hb dX6_hold_0 rfl (lv_at hl 0 rfl) ?_
  refine r_get C0 hw 0 7 (v := .ref (qf 0)) rfl rfl inX6 (by decide) lk_X6_38 rfl dX6_hold_1 ?_
  refine lv_iload_n hx hb dX6_hold_4 rfl (lv_at hl 1 rfl) ?_
  obtain ⟨r1, hk2, hf⟩ := b1_s hf
  refine rv_i (vq := (RX2, TX2, 11)) (As := [.int a1]) (rest := []) (bs' := [pJm κ qx rx_tape rx_teller (qb 0) rx_equations rx_images rx_sheets (qf 0) rx_draft x_kept x_textFault x_readFault, pBa κ qb b_moments b_gains b_topped b_endStiffs b_outs b_endsAt b_stiffAt b_stepsAt b_steps b_latest, pFr κ qf f_held f_couples f_endJoints f_lengths f_stiffs f_loadBeams f_loadSizes f_loadPlaces f_joints f_beams f_loads]) C0 hw (cFr_isJoint l D κ qf f_held f_couples f_endJoints f_lengths f_stiffs f_loadBeams f_loadSizes f_loadPlaces f_joints f_beams f_loads a1 r1 hk2) cv_RX6_116 ⟨rfl, rfl, Nat.le_of_ble_eq_true rfl, Nat.le_of_ble_eq_true rfl⟩ ⟨Nat.zero_le _, Nat.zero_le _⟩ [2] [0, 1] [0, 1, 2] rfl rfl rfl rfl (by decide) rfl rfl rfl rfl rfl hl.1 (by simp only [List.map, List.sum_cons, List.sum_nil, Value.category]; decide) dX6_hold_5 (fun H locs hw hn3 => ?_)
  refine lv_if_eq (tgt := 20) hx hb dX6_hold_8 (by decide) (fun hc4 => ?_) (fun hc4 => ?_)
  · have hf := if_t hc4 hf
    refine lv_iconst (v := -1) hx hb dX6_hold_20 (by decide) ?_
    obtain ⟨rfl, rfl, rfl, rfl, rfl, rfl, rfl, rfl, rfl, rfl⟩ := e10_ hf
    exact r_iret C0 hw trivial dX6_hold_21
  · have hf := if_f hc4 hf
    refine lv_iload_n hx hb dX6_hold_11 rfl (lv_at hl 2 rfl) ?_
    refine lv_if_lt (tgt := 20) hx hb dX6_hold_12 (by decide) (fun hc5 => ?_) (fun hc5 => ?_)
    · have hf := if_t hc5 hf
      refine lv_iconst (v := -1) hx hb dX6_hold_20 (by decide) ?_
      obtain ⟨rfl, rfl, rfl, rfl, rfl, rfl, rfl, rfl, rfl, rfl⟩ := e10_ hf
      exact r_iret C0 hw trivial dX6_hold_21
    · have hf := if_f hc5 hf
      refine lv_iload_n hx hb dX6_hold_15 rfl (lv_at hl 2 rfl) ?_
      refine lv_iconst (v := 1) hx hb dX6_hold_16 (by decide) ?_
      refine lv_icmp_le (tgt := 22) hx hb dX6_hold_17 (by decide) (fun hc6 => ?_) (fun hc6 => ?_)
      · have hf := if_t hc6 hf
        refine lv_aload_n hx hb dX6_hold_22 rfl (lv_at hl 0 rfl) ?_
        refine r_get C0 hw 0 7 (v := .ref (qf 0)) rfl rfl inX6 (by decide) lk_X6_38 rfl dX6_hold_23 ?_
        refine r_get C0 hw 11 0 (v := .ref (qf 1)) rfl rfl inX2 (by decide) lk_X6_120 rfl dX6_hold_26 ?_
        refine lv_iload_n hx hb dX6_hold_29 rfl (lv_at hl 1 rfl) ?_
        obtain ⟨hi7, hf⟩ := gd_s hf
        refine r_zald C0 hw 12 1 rfl rfl hi7 dX6_hold_30 ?_
        refine lv_topi (fun v8 ev8 => ?_)
        have hf := lt_s_ hf v8 ev8
        refine lv_istore_n (lv' := [(3, .int v8), (0, .ref (qx 0)), (1, .int a1), (2, .int a2)]) hx hb dX6_hold_31 rfl hl (by decide) rfl (fun ls hl => ?_)
        refine lv_iload_n hx hb dX6_hold_32 rfl (lv_at hl 0 rfl) ?_
        obtain ⟨j26, ej26, hf⟩ := lt_e hf
        have hj27 : ∀  (H : Heap) (locs : List Loc) (ls : Array Slot), wd_ D (tys0 κ) A s (List.flatten [pJm κ qx rx_tape rx_teller (qb 0) rx_equations rx_images rx_sheets (qf 0) rx_draft x_kept x_textFault x_readFault, pBa κ qb b_moments b_gains b_topped b_endStiffs b_outs b_endsAt b_stiffAt b_stepsAt b_steps b_latest, pFr κ qf f_held f_couples f_endJoints f_lengths f_stiffs f_loadBeams f_loadSizes f_loadPlaces f_joints f_beams f_loads]) H locs → lv_has ls 4 [(3, .int v8), (0, .ref (qx 0)), (1, .int a1), (2, .int a2)] → j26 () = some (zr, z1, z2, z3, z4, z5, z6, z7, z8, z9) → W p l e ({ frames := 3, cells := 0, slots := 0, locals := 72 } : Room) s m ([.ref (qx 0), .int a1, .int a2] : List Value).toArray below meth c H locs 0 0 (qI_ D (tys0 κ) A nT_ zr (List.flatten [pJm κ qx rx_tape rx_teller (qb 0) rx_equations rx_images rx_sheets (qf 0) rx_draft x_kept x_textFault x_readFault, pBa κ qb z1 b_gains b_topped z2 z3 z4 z5 z6 z7 z8, pFr κ qf z9 f_couples f_endJoints f_lengths f_stiffs f_loadBeams f_loadSizes f_loadPlaces f_joints f_beams f_loads]) below ([.ref (qx 0), .int a1, .int a2] : List Value).toArray s) (F0 m 54 ls []) := by
          intro  H locs ls hw hl  hf
          have hf : (lt_ (fun (v9 : Int32) => gd_ a1 6 <| lt_ (upd f_held a1.toNatClampNeg (vp_nar .boolean v9)) fun w11 => b8_ (FBa_anew b_moments b_endStiffs b_outs b_endsAt b_stiffAt b_stepsAt f_couples f_endJoints f_lengths f_stiffs f_loadBeams f_loadSizes f_loadPlaces f_beams f_loads) fun w12 w13 w14 w15 w16 w17 w18 w19 => if v8 = 0 then some ((0 : Int32), w12, w13, w14, w15, w16, w17, w18, w19, w11) else some ((1 : Int32), w12, w13, w14, w15, w16, w17, w18, w19, w11) : Int32 → Option (Int32 × (Nat → Int32) × (Nat → Int32) × (Nat → Int32) × (Nat → Int32) × (Nat → Int32) × (Nat → Int32) × Int32 × Int32 × (Nat → Int32))) fun j23 => if a2 = (1 : Int32) then j23 (1 : Int32) else j23 (0 : Int32)) = some (zr, z1, z2, z3, z4, z5, z6, z7, z8, z9) := by rw [ej26] at hf; exact hf
          refine lv_aload_n hx hb dX6_hold_54 rfl (lv_at hl 1 rfl) ?_
          refine r_get C0 hw 0 7 (v := .ref (qf 0)) rfl rfl inX6 (by decide) lk_X6_38 rfl dX6_hold_55 ?_
          refine r_get C0 hw 11 0 (v := .ref (qf 1)) rfl rfl inX2 (by decide) lk_X6_120 rfl dX6_hold_58 ?_
          refine lv_iload_n hx hb dX6_hold_61 rfl (lv_at hl 2 rfl) ?_
          refine lv_iload_n hx hb dX6_hold_62 rfl (lv_at hl 3 rfl) ?_
          refine lv_iconst (v := 1) hx hb dX6_hold_63 (by decide) ?_
          obtain ⟨j23, ej23, hf⟩ := lt_e hf
          have hj24 : ∀ (v9 : Int32) (H : Heap) (locs : List Loc) (ls : Array Slot), wd_ D (tys0 κ) A s (List.flatten [pJm κ qx rx_tape rx_teller (qb 0) rx_equations rx_images rx_sheets (qf 0) rx_draft x_kept x_textFault x_readFault, pBa κ qb b_moments b_gains b_topped b_endStiffs b_outs b_endsAt b_stiffAt b_stepsAt b_steps b_latest, pFr κ qf f_held f_couples f_endJoints f_lengths f_stiffs f_loadBeams f_loadSizes f_loadPlaces f_joints f_beams f_loads]) H locs → lv_has ls 4 [(3, .int v8), (0, .ref (qx 0))] → j23 v9 = some (zr, z1, z2, z3, z4, z5, z6, z7, z8, z9) → W p l e ({ frames := 3, cells := 0, slots := 0, locals := 72 } : Room) s m ([.ref (qx 0), .int a1, .int a2] : List Value).toArray below meth c H locs 0 0 (qI_ D (tys0 κ) A nT_ zr (List.flatten [pJm κ qx rx_tape rx_teller (qb 0) rx_equations rx_images rx_sheets (qf 0) rx_draft x_kept x_textFault x_readFault, pBa κ qb z1 b_gains b_topped z2 z3 z4 z5 z6 z7 z8, pFr κ qf z9 f_couples f_endJoints f_lengths f_stiffs f_loadBeams f_loadSizes f_loadPlaces f_joints f_beams f_loads]) below ([.ref (qx 0), .int a1, .int a2] : List Value).toArray s) (F0 m 72 ls [.int v9, .int a1, .ref (qf 1)]) := by
            intro v9 H locs ls hw hl  hf
            have hf : (gd_ a1 6 <| lt_ (upd f_held a1.toNatClampNeg (vp_nar .boolean v9)) fun w11 => b8_ (FBa_anew b_moments b_endStiffs b_outs b_endsAt b_stiffAt b_stepsAt f_couples f_endJoints f_lengths f_stiffs f_loadBeams f_loadSizes f_loadPlaces f_beams f_loads) fun w12 w13 w14 w15 w16 w17 w18 w19 => if v8 = 0 then some ((0 : Int32), w12, w13, w14, w15, w16, w17, w18, w19, w11) else some ((1 : Int32), w12, w13, w14, w15, w16, w17, w18, w19, w11)) = some (zr, z1, z2, z3, z4, z5, z6, z7, z8, z9) := by rw [ej23] at hf; exact hf
            obtain ⟨hi10, hf⟩ := gd_s hf
            obtain ⟨w11, ew11⟩ : ∃ z : Nat → Int32, z = (upd f_held a1.toNatClampNeg (vp_nar .boolean v9)) := ⟨_, rfl⟩
            have hf := lt_s_ hf w11 ew11
            refine r_zast C0 hw 12 1 rfl rfl hi10 dX6_hold_72 (ws' := List.flatten [pJm κ qx rx_tape rx_teller (qb 0) rx_equations rx_images rx_sheets (qf 0) rx_draft x_kept x_textFault x_readFault, pBa κ qb b_moments b_gains b_topped b_endStiffs b_outs b_endsAt b_stiffAt b_stepsAt b_steps b_latest, pFr κ qf w11 f_couples f_endJoints f_lengths f_stiffs f_loadBeams f_loadSizes f_loadPlaces f_joints f_beams f_loads]) (by subst ew11; rfl) (fun H locs hw => ?_)
            refine lv_aload_n hx hb dX6_hold_73 rfl (lv_at hl 1 rfl) ?_
            refine r_get C0 hw 0 2 (v := .ref (qb 0)) rfl rfl inX6 (by decide) lk_X6_24 rfl dX6_hold_74 ?_
            refine lv_aload_n hx hb dX6_hold_77 rfl (lv_at hl 1 rfl) ?_
            refine r_get C0 hw 0 7 (v := .ref (qf 0)) rfl rfl inX6 (by decide) lk_X6_38 rfl dX6_hold_78 ?_
            obtain ⟨w12, w13, w14, w15, w16, w17, w18, w19, hk20, hf⟩ := b8_s hf
            refine rv_v (vq := (RX0, TX0, 10)) (As := [.ref (qf 0)]) (rest := []) (bs' := [pJm κ qx rx_tape rx_teller (qb 0) rx_equations rx_images rx_sheets (qf 0) rx_draft x_kept x_textFault x_readFault, pBa κ qb w12 b_gains b_topped w13 w14 w15 w16 w17 w18 w19, pFr κ qf w11 f_couples f_endJoints f_lengths f_stiffs f_loadBeams f_loadSizes f_loadPlaces f_joints f_beams f_loads]) C0 hw (cBa_anew l D κ qb b_moments b_gains b_topped b_endStiffs b_outs b_endsAt b_stiffAt b_stepsAt b_steps b_latest qf w11 f_couples f_endJoints f_lengths f_stiffs f_loadBeams f_loadSizes f_loadPlaces f_joints f_beams f_loads w12 w13 w14 w15 w16 w17 w18 w19 hk20) cv_RX6_83 ⟨rfl, rfl, Nat.le_of_ble_eq_true rfl, Nat.le_of_ble_eq_true rfl⟩ ⟨Nat.zero_le _, Nat.zero_le _⟩ [1, 2] [0] [0, 1, 2] rfl rfl rfl rfl (by decide) rfl rfl rfl rfl rfl hl.1 (by simp only [List.map, List.sum_cons, List.sum_nil, Value.category]; decide) dX6_hold_81 (fun H locs hw => ?_)
            refine lv_iload_n hx hb dX6_hold_84 rfl (lv_at hl 0 rfl) ?_
            refine lv_if_eq (tgt := 92) hx hb dX6_hold_85 (by decide) (fun hc22 => ?_) (fun hc22 => ?_)
            · have hf := if_t hc22 hf
              refine lv_iconst (v := 0) hx hb dX6_hold_92 (by decide) ?_
              obtain ⟨rfl, rfl, rfl, rfl, rfl, rfl, rfl, rfl, rfl, rfl⟩ := e10_ hf
              exact r_iret C0 hw trivial dX6_hold_93
            · have hf := if_f hc22 hf
              refine lv_iconst (v := 1) hx hb dX6_hold_88 (by decide) ?_
              refine lv_goto (tgt := 93) hx hb dX6_hold_89 (by decide) ?_
              obtain ⟨rfl, rfl, rfl, rfl, rfl, rfl, rfl, rfl, rfl, rfl⟩ := e10_ hf
              exact r_iret C0 hw trivial dX6_hold_93
          refine lv_icmp_ne (tgt := 71) hx hb dX6_hold_64 (by decide) (fun hc25 => ?_) (fun hc25 => ?_)
          · have hf := if_f hc25 hf
            refine lv_iconst (v := 0) hx hb dX6_hold_71 (by decide) ?_
            exact hj24 (0 : Int32) H locs ls hw (lv_sub hl [0, 1] rfl)  hf
          · have hf := if_t hc25 hf
            refine lv_iconst (v := 1) hx hb dX6_hold_67 (by decide) ?_
            refine lv_goto (tgt := 72) hx hb dX6_hold_68 (by decide) ?_
            exact hj24 (1 : Int32) H locs ls hw (lv_sub hl [0, 1] rfl)  hf
        refine lv_if_eq (tgt := 54) hx hb dX6_hold_33 (by decide) (fun hc28 => ?_) (fun hc28 => ?_)
        · have hf := if_t hc28 hf
          exact hj27  H locs ls hw (lv_sub hl [0, 1, 2, 3] rfl)  hf
        · have hf := if_f hc28 hf
          refine lv_iload_n hx hb dX6_hold_36 rfl (lv_at hl 3 rfl) ?_
          refine lv_if_ne (tgt := 54) hx hb dX6_hold_37 (by decide) (fun hc29 => ?_) (fun hc29 => ?_)
          · have hf := if_f hc29 hf
            exact hj27  H locs ls hw (lv_sub hl [0, 1, 2, 3] rfl)  hf
          · have hf := if_t hc29 hf
            refine lv_aload_n hx hb dX6_hold_40 rfl (lv_at hl 1 rfl) ?_
            refine r_get C0 hw 0 7 (v := .ref (qf 0)) rfl rfl inX6 (by decide) lk_X6_38 rfl dX6_hold_41 ?_
            obtain ⟨r30, hk31, hf⟩ := b1_s hf
            refine rv_i (vq := (RX2, TX2, 11)) (As := []) (rest := []) (bs' := [pJm κ qx rx_tape rx_teller (qb 0) rx_equations rx_images rx_sheets (qf 0) rx_draft x_kept x_textFault x_readFault, pBa κ qb b_moments b_gains b_topped b_endStiffs b_outs b_endsAt b_stiffAt b_stepsAt b_steps b_latest, pFr κ qf f_held f_couples f_endJoints f_lengths f_stiffs f_loadBeams f_loadSizes f_loadPlaces f_joints f_beams f_loads]) C0 hw (cFr_turning l D κ qf f_held f_couples f_endJoints f_lengths f_stiffs f_loadBeams f_loadSizes f_loadPlaces f_joints f_beams f_loads r30 hk31) cv_RX6_93 ⟨rfl, rfl, Nat.le_of_ble_eq_true rfl, Nat.le_of_ble_eq_true rfl⟩ ⟨Nat.zero_le _, Nat.zero_le _⟩ [2] [0, 1] [0, 1, 2] rfl rfl rfl rfl (by decide) rfl rfl rfl rfl rfl hl.1 (by simp only [List.map, List.sum_cons, List.sum_nil, Value.category]; decide) dX6_hold_44 (fun H locs hw hn32 => ?_)
            refine lv_iconst (v := 4) hx hb dX6_hold_47 (by decide) ?_
            refine lv_icmp_lt (tgt := 54) hx hb dX6_hold_48 (by decide) (fun hc33 => ?_) (fun hc33 => ?_)
            · have hf := if_t hc33 hf
              exact hj27  H locs ls hw (lv_sub hl [0, 1, 2, 3] rfl)  hf
            · have hf := if_f hc33 hf
              refine lv_bipush (v := -3) hx hb dX6_hold_51 (by decide) ?_
              obtain ⟨rfl, rfl, rfl, rfl, rfl, rfl, rfl, rfl, rfl, rfl⟩ := e10_ hf
              exact r_iret C0 hw trivial dX6_hold_53
      · have hf := if_f hc6 hf
        refine lv_iconst (v := -1) hx hb dX6_hold_20 (by decide) ?_
        obtain ⟨rfl, rfl, rfl, rfl, rfl, rfl, rfl, rfl, rfl, rfl⟩ := e10_ hf
        exact r_iret C0 hw trivial dX6_hold_21
def FJm_stiffen (b_moments b_endStiffs b_outs b_endsAt b_stiffAt b_stepsAt : Nat → Int32) (b_steps b_latest : Int32) (f_couples f_endJoints f_lengths f_stiffs f_loadBeams f_loadSizes f_loadPlaces : Nat → Int32) (f_beams f_loads a1 a2 : Int32) : Option (Int32 × (Nat → Int32) × (Nat → Int32) × (Nat → Int32) × (Nat → Int32) × (Nat → Int32) × (Nat → Int32) × Int32 × Int32 × (Nat → Int32)) :=
  b1_ (FFr_isBeam f_beams a1) fun r1 =>
  if r1 = 0 then
    some ((-1 : Int32), b_moments, b_endStiffs, b_outs, b_endsAt, b_stiffAt, b_stepsAt, b_steps, b_latest, f_stiffs)
  else
    if a2 < (1 : Int32) then
      some ((-1 : Int32), b_moments, b_endStiffs, b_outs, b_endsAt, b_stiffAt, b_stepsAt, b_steps, b_latest, f_stiffs)
    else
      if a2 ≤ (10 : Int32) then
        gd_ a1 10 <|
        lt_ (f_stiffs a1.toNatClampNeg) fun v8 =>
        gd_ a1 10 <|
        lt_ (upd f_stiffs a1.toNatClampNeg a2) fun w10 =>
        b8_ (FBa_anew b_moments b_endStiffs b_outs b_endsAt b_stiffAt b_stepsAt f_couples f_endJoints f_lengths w10 f_loadBeams f_loadSizes f_loadPlaces f_beams f_loads) fun w11 w12 w13 w14 w15 w16 w17 w18 =>
        some (v8, w11, w12, w13, w14, w15, w16, w17, w18, w10)
      else
        some ((-1 : Int32), b_moments, b_endStiffs, b_outs, b_endsAt, b_stiffAt, b_stepsAt, b_steps, b_latest, f_stiffs)
set_option maxHeartbeats 4000000 in
set_option maxRecDepth 100000 in
theorem cJm_stiffen (l : Launch) (D : va_G) (κ : Nat → ClassId) (qx : Nat → Nat) (rx_tape rx_teller rx_equations rx_images rx_sheets rx_draft : Nat) (x_kept : Nat → Int32) (x_textFault x_readFault : Int32) (qb : Nat → Nat) (b_moments b_gains b_topped b_endStiffs b_outs b_endsAt b_stiffAt b_stepsAt : Nat → Int32) (b_steps b_latest : Int32) (qf : Nat → Nat) (f_held f_couples f_endJoints f_lengths f_stiffs f_loadBeams f_loadSizes f_loadPlaces : Nat → Int32) (f_joints f_beams f_loads a1 a2 zr : Int32) (z1 z2 z3 z4 z5 z6 : Nat → Int32) (z7 z8 : Int32) (z9 : Nat → Int32) (hf : FJm_stiffen b_moments b_endStiffs b_outs b_endsAt b_stiffAt b_stepsAt b_steps b_latest f_couples f_endJoints f_lengths f_stiffs f_loadBeams f_loadSizes f_loadPlaces f_beams f_loads a1 a2 = some (zr, z1, z2, z3, z4, z5, z6, z7, z8, z9)) : mI_ l yX6_stiffen (Cond.code yX6_stiffen cX6_stiffen 4 (some .int) :: uw) ({ frames := 3, cells := 0, slots := 0, locals := 72 } : Room) D (tys0 κ) [.ref (qx 0), .int a1, .int a2] (List.flatten [pJm κ qx rx_tape rx_teller (qb 0) rx_equations rx_images rx_sheets (qf 0) rx_draft x_kept x_textFault x_readFault, pBa κ qb b_moments b_gains b_topped b_endStiffs b_outs b_endsAt b_stiffAt b_stepsAt b_steps b_latest, pFr κ qf f_held f_couples f_endJoints f_lengths f_stiffs f_loadBeams f_loadSizes f_loadPlaces f_joints f_beams f_loads]) nT_ zr (List.flatten [pJm κ qx rx_tape rx_teller (qb 0) rx_equations rx_images rx_sheets (qf 0) rx_draft x_kept x_textFault x_readFault, pBa κ qb z1 b_gains b_topped z2 z3 z4 z5 z6 z7 z8, pFr κ qf f_held f_couples f_endJoints f_lengths z9 f_loadBeams f_loadSizes f_loadPlaces f_joints f_beams f_loads]) := by
  unfold FJm_stiffen at hf
  refine mI_of (by decide) (Nat.le_of_ble_eq_true rfl) ?_
  intro p e s m below meth c A ls H locs C0 hw hl
  obtain ⟨hx, hb, -, hml, hown, hts, -, -⟩ := id C0
  have hl : lv_has ls 4 [(0, .ref (qx 0)), (1, .int a1), (2, .int a2)] := hl
  refine lv_aload_n hx hb dX6_stiffen_0 rfl (lv_at hl 0 rfl) ?_
  refine r_get C0 hw 0 7 (v := .ref (qf 0)) rfl rfl inX6 (by decide) lk_X6_38 rfl dX6_stiffen_1 ?_
  refine lv_iload_n hx hb dX6_stiffen_4 rfl (lv_at hl 1 rfl) ?_
  obtain ⟨r1, hk2, hf⟩ := b1_s hf
  refine rv_i (vq := (RX2, TX2, 11)) (As := [.int a1]) (rest := []) (bs' := [pJm κ qx rx_tape rx_teller (qb 0) rx_equations rx_images rx_sheets (qf 0) rx_draft x_kept x_textFault x_readFault, pBa κ qb b_moments b_gains b_topped b_endStiffs b_outs b_endsAt b_stiffAt b_stepsAt b_steps b_latest, pFr κ qf f_held f_couples f_endJoints f_lengths f_stiffs f_loadBeams f_loadSizes f_loadPlaces f_joints f_beams f_loads]) C0 hw (cFr_isBeam l D κ qf f_held f_couples f_endJoints f_lengths f_stiffs f_loadBeams f_loadSizes f_loadPlaces f_joints f_beams f_loads a1 r1 hk2) cv_RX6_148 ⟨rfl, rfl, Nat.le_of_ble_eq_true rfl, Nat.le_of_ble_eq_true rfl⟩ ⟨Nat.zero_le _, Nat.zero_le _⟩ [2] [0, 1] [0, 1, 2] rfl rfl rfl rfl (by decide) rfl rfl rfl rfl rfl hl.1 (by simp only [List.map, List.sum_cons, List.sum_nil, Value.category]; decide) dX6_stiffen_5 (fun H locs hw hn3 => ?_)
  refine lv_if_eq (tgt := 22) hx hb dX6_stiffen_8 (by decide) (fun hc4 => ?_) (fun hc4 => ?_)
  · have hf := if_t hc4 hf
    refine lv_iconst (v := -1) hx hb dX6_stiffen_22 (by decide) ?_
    obtain ⟨rfl, rfl, rfl, rfl, rfl, rfl, rfl, rfl, rfl, rfl⟩ := e10_ hf
    exact r_iret C0 hw trivial dX6_stiffen_23
  · have hf := if_f hc4 hf
    refine lv_iload_n hx hb dX6_stiffen_11 rfl (lv_at hl 2 rfl) ?_
    refine lv_iconst (v := 1) hx hb dX6_stiffen_12 (by decide) ?_
    refine lv_icmp_lt (tgt := 22) hx hb dX6_stiffen_13 (by decide) (fun hc5 => ?_) (fun hc5 => ?_)
    · have hf := if_t hc5 hf
      refine lv_iconst (v := -1) hx hb dX6_stiffen_22 (by decide) ?_
      obtain ⟨rfl, rfl, rfl, rfl, rfl, rfl, rfl, rfl, rfl, rfl⟩ := e10_ hf
      exact r_iret C0 hw trivial dX6_stiffen_23
    · have hf := if_f hc5 hf
      refine lv_iload_n hx hb dX6_stiffen_16 rfl (lv_at hl 2 rfl) ?_
      refine lv_bipush (v := 10) hx hb dX6_stiffen_17 (by decide) ?_
      refine lv_icmp_le (tgt := 24) hx hb dX6_stiffen_19 (by decide) (fun hc6 => ?_) (fun hc6 => ?_)
      · have hf := if_t hc6 hf
        refine lv_aload_n hx hb dX6_stiffen_24 rfl (lv_at hl 0 rfl) ?_
        refine r_get C0 hw 0 7 (v := .ref (qf 0)) rfl rfl inX6 (by decide) lk_X6_38 rfl dX6_stiffen_25 ?_
        refine r_get C0 hw 11 4 (v := .ref (qf 5)) rfl rfl inX2 (by decide) lk_X6_154 rfl dX6_stiffen_28 ?_
        refine lv_iload_n hx hb dX6_stiffen_31 rfl (lv_at hl 1 rfl) ?_
        obtain ⟨hi7, hf⟩ := gd_s hf
        refine r_iald C0 hw 16 0 rfl rfl hi7 dX6_stiffen_32 ?_
        refine lv_topi (fun v8 ev8 => ?_)
        have hf := lt_s_ hf v8 ev8
        refine lv_istore_n (lv' := [(3, .int v8), (0, .ref (qx 0)), (1, .int a1), (2, .int a2)]) hx hb dX6_stiffen_33 rfl hl (by decide) rfl (fun ls hl => ?_)
        refine lv_aload_n hx hb dX6_stiffen_34 rfl (lv_at hl 1 rfl) ?_
        refine r_get C0 hw 0 7 (v := .ref (qf 0)) rfl rfl inX6 (by decide) lk_X6_38 rfl dX6_stiffen_35 ?_
        refine r_get C0 hw 11 4 (v := .ref (qf 5)) rfl rfl inX2 (by decide) lk_X6_154 rfl dX6_stiffen_38 ?_
        refine lv_iload_n hx hb dX6_stiffen_41 rfl (lv_at hl 2 rfl) ?_
        refine lv_iload_n hx hb dX6_stiffen_42 rfl (lv_at hl 3 rfl) ?_
        obtain ⟨hi9, hf⟩ := gd_s hf
        obtain ⟨w10, ew10⟩ : ∃ z : Nat → Int32, z = (upd f_stiffs a1.toNatClampNeg a2) := ⟨_, rfl⟩
        have hf := lt_s_ hf w10 ew10
        refine r_iast C0 hw 16 0 rfl rfl hi9 dX6_stiffen_43 (ws' := List.flatten [pJm κ qx rx_tape rx_teller (qb 0) rx_equations rx_images rx_sheets (qf 0) rx_draft x_kept x_textFault x_readFault, pBa κ qb b_moments b_gains b_topped b_endStiffs b_outs b_endsAt b_stiffAt b_stepsAt b_steps b_latest, pFr κ qf f_held f_couples f_endJoints f_lengths w10 f_loadBeams f_loadSizes f_loadPlaces f_joints f_beams f_loads]) (by subst ew10; rfl) (fun H locs hw => ?_)
        refine lv_aload_n hx hb dX6_stiffen_44 rfl (lv_at hl 1 rfl) ?_
        refine r_get C0 hw 0 2 (v := .ref (qb 0)) rfl rfl inX6 (by decide) lk_X6_24 rfl dX6_stiffen_45 ?_
        refine lv_aload_n hx hb dX6_stiffen_48 rfl (lv_at hl 1 rfl) ?_
        refine r_get C0 hw 0 7 (v := .ref (qf 0)) rfl rfl inX6 (by decide) lk_X6_38 rfl dX6_stiffen_49 ?_
        obtain ⟨w11, w12, w13, w14, w15, w16, w17, w18, hk19, hf⟩ := b8_s hf
        refine rv_v (vq := (RX0, TX0, 10)) (As := [.ref (qf 0)]) (rest := []) (bs' := [pJm κ qx rx_tape rx_teller (qb 0) rx_equations rx_images rx_sheets (qf 0) rx_draft x_kept x_textFault x_readFault, pBa κ qb w11 b_gains b_topped w12 w13 w14 w15 w16 w17 w18, pFr κ qf f_held f_couples f_endJoints f_lengths w10 f_loadBeams f_loadSizes f_loadPlaces f_joints f_beams f_loads]) C0 hw (cBa_anew l D κ qb b_moments b_gains b_topped b_endStiffs b_outs b_endsAt b_stiffAt b_stepsAt b_steps b_latest qf f_held f_couples f_endJoints f_lengths w10 f_loadBeams f_loadSizes f_loadPlaces f_joints f_beams f_loads w11 w12 w13 w14 w15 w16 w17 w18 hk19) cv_RX6_83 ⟨rfl, rfl, Nat.le_of_ble_eq_true rfl, Nat.le_of_ble_eq_true rfl⟩ ⟨Nat.zero_le _, Nat.zero_le _⟩ [1, 2] [0] [0, 1, 2] rfl rfl rfl rfl (by decide) rfl rfl rfl rfl rfl hl.1 (by simp only [List.map, List.sum_cons, List.sum_nil, Value.category]; decide) dX6_stiffen_52 (fun H locs hw => ?_)
        refine lv_iload_n hx hb dX6_stiffen_55 rfl (lv_at hl 0 rfl) ?_
        obtain ⟨rfl, rfl, rfl, rfl, rfl, rfl, rfl, rfl, rfl, rfl⟩ := e10_ hf
        exact r_iret C0 hw trivial dX6_stiffen_56
      · have hf := if_f hc6 hf
        refine lv_iconst (v := -1) hx hb dX6_stiffen_22 (by decide) ?_
        obtain ⟨rfl, rfl, rfl, rfl, rfl, rfl, rfl, rfl, rfl, rfl⟩ := e10_ hf
        exact r_iret C0 hw trivial dX6_stiffen_23
def FJm_put (b_moments b_endStiffs b_outs b_endsAt b_stiffAt b_stepsAt : Nat → Int32) (b_steps b_latest : Int32) (f_couples f_endJoints f_lengths f_stiffs f_loadBeams f_loadSizes f_loadPlaces : Nat → Int32) (f_beams f_loads a1 a2 a3 : Int32) : Option (Int32 × (Nat → Int32) × (Nat → Int32) × (Nat → Int32) × (Nat → Int32) × (Nat → Int32) × (Nat → Int32) × Int32 × Int32 × (Nat → Int32) × (Nat → Int32) × (Nat → Int32) × Int32) :=
  b1_ (FFr_isBeam f_beams a1) fun r1 =>
  if r1 = 0 then
    some ((-1 : Int32), b_moments, b_endStiffs, b_outs, b_endsAt, b_stiffAt, b_stepsAt, b_steps, b_latest, f_loadBeams, f_loadSizes, f_loadPlaces, f_loads)
  else
    if a3 < 0 then
      some ((-1 : Int32), b_moments, b_endStiffs, b_outs, b_endsAt, b_stiffAt, b_stepsAt, b_steps, b_latest, f_loadBeams, f_loadSizes, f_loadPlaces, f_loads)
    else
      gd_ a1 10 <|
      if a3 < (f_lengths a1.toNatClampNeg) then
        if a2 < (1 : Int32) then
          some ((-1 : Int32), b_moments, b_endStiffs, b_outs, b_endsAt, b_stiffAt, b_stepsAt, b_steps, b_latest, f_loadBeams, f_loadSizes, f_loadPlaces, f_loads)
        else
          lt_ (fun (v9 : Int32) =>
            if a2 ≤ v9 then
              if f_loads < (8 : Int32) then
                b4_ (FFr_addLoad f_loadBeams f_loadSizes f_loadPlaces f_loads a1 a2 a3) fun w12 w13 w14 w15 =>
                b8_ (FBa_anew b_moments b_endStiffs b_outs b_endsAt b_stiffAt b_stepsAt f_couples f_endJoints f_lengths f_stiffs w12 w13 w14 f_beams w15) fun w18 w19 w20 w21 w22 w23 w24 w25 =>
                some (w15, w18, w19, w20, w21, w22, w23, w24, w25, w12, w13, w14, w15)
              else
                some ((-3 : Int32), b_moments, b_endStiffs, b_outs, b_endsAt, b_stiffAt, b_stepsAt, b_steps, b_latest, f_loadBeams, f_loadSizes, f_loadPlaces, f_loads)
            else
              some ((-1 : Int32), b_moments, b_endStiffs, b_outs, b_endsAt, b_stiffAt, b_stepsAt, b_steps, b_latest, f_loadBeams, f_loadSizes, f_loadPlaces, f_loads) : Int32 → Option (Int32 × (Nat → Int32) × (Nat → Int32) × (Nat → Int32) × (Nat → Int32) × (Nat → Int32) × (Nat → Int32) × Int32 × Int32 × (Nat → Int32) × (Nat → Int32) × (Nat → Int32) × Int32)) fun j28 =>
          if a3 = 0 then
            j28 (99 : Int32)
          else
            j28 (999 : Int32)
      else
        some ((-1 : Int32), b_moments, b_endStiffs, b_outs, b_endsAt, b_stiffAt, b_stepsAt, b_steps, b_latest, f_loadBeams, f_loadSizes, f_loadPlaces, f_loads)
set_option maxHeartbeats 4000000 in
set_option maxRecDepth 100000 in
theorem cJm_put (l : Launch) (D : va_G) (κ : Nat → ClassId) (qx : Nat → Nat) (rx_tape rx_teller rx_equations rx_images rx_sheets rx_draft : Nat) (x_kept : Nat → Int32) (x_textFault x_readFault : Int32) (qb : Nat → Nat) (b_moments b_gains b_topped b_endStiffs b_outs b_endsAt b_stiffAt b_stepsAt : Nat → Int32) (b_steps b_latest : Int32) (qf : Nat → Nat) (f_held f_couples f_endJoints f_lengths f_stiffs f_loadBeams f_loadSizes f_loadPlaces : Nat → Int32) (f_joints f_beams f_loads a1 a2 a3 zr : Int32) (z1 z2 z3 z4 z5 z6 : Nat → Int32) (z7 z8 : Int32) (z9 z10 z11 : Nat → Int32) (z12 : Int32) (hf : FJm_put b_moments b_endStiffs b_outs b_endsAt b_stiffAt b_stepsAt b_steps b_latest f_couples f_endJoints f_lengths f_stiffs f_loadBeams f_loadSizes f_loadPlaces f_beams f_loads a1 a2 a3 = some (zr, z1, z2, z3, z4, z5, z6, z7, z8, z9, z10, z11, z12)) : mI_ l yX6_put (Cond.code yX6_put cX6_put 4 (some .int) :: uw) ({ frames := 3, cells := 0, slots := 0, locals := 72 } : Room) D (tys0 κ) [.ref (qx 0), .int a1, .int a2, .int a3] (List.flatten [pJm κ qx rx_tape rx_teller (qb 0) rx_equations rx_images rx_sheets (qf 0) rx_draft x_kept x_textFault x_readFault, pBa κ qb b_moments b_gains b_topped b_endStiffs b_outs b_endsAt b_stiffAt b_stepsAt b_steps b_latest, pFr κ qf f_held f_couples f_endJoints f_lengths f_stiffs f_loadBeams f_loadSizes f_loadPlaces f_joints f_beams f_loads]) nT_ zr (List.flatten [pJm κ qx rx_tape rx_teller (qb 0) rx_equations rx_images rx_sheets (qf 0) rx_draft x_kept x_textFault x_readFault, pBa κ qb z1 b_gains b_topped z2 z3 z4 z5 z6 z7 z8, pFr κ qf f_held f_couples f_endJoints f_lengths f_stiffs z9 z10 z11 f_joints f_beams z12]) := by
  unfold FJm_put at hf
  refine mI_of (by decide) (Nat.le_of_ble_eq_true rfl) ?_
  intro p e s m below meth c A ls H locs C0 hw hl
  obtain ⟨hx, hb, -, hml, hown, hts, -, -⟩ := id C0
  have hl : lv_has ls 4 [(0, .ref (qx 0)), (1, .int a1), (2, .int a2), (3, .int a3)] := hl
  refine lv_aload_n hx hb dX6_put_0 rfl (lv_at hl 0 rfl) ?_
  refine r_get C0 hw 0 7 (v := .ref (qf 0)) rfl rfl inX6 (by decide) lk_X6_38 rfl dX6_put_1 ?_
  refine lv_iload_n hx hb dX6_put_4 rfl (lv_at hl 1 rfl) ?_
  obtain ⟨r1, hk2, hf⟩ := b1_s hf
  refine rv_i (vq := (RX2, TX2, 11)) (As := [.int a1]) (rest := []) (bs' := [pJm κ qx rx_tape rx_teller (qb 0) rx_equations rx_images rx_sheets (qf 0) rx_draft x_kept x_textFault x_readFault, pBa κ qb b_moments b_gains b_topped b_endStiffs b_outs b_endsAt b_stiffAt b_stepsAt b_steps b_latest, pFr κ qf f_held f_couples f_endJoints f_lengths f_stiffs f_loadBeams f_loadSizes f_loadPlaces f_joints f_beams f_loads]) C0 hw (cFr_isBeam l D κ qf f_held f_couples f_endJoints f_lengths f_stiffs f_loadBeams f_loadSizes f_loadPlaces f_joints f_beams f_loads a1 r1 hk2) cv_RX6_148 ⟨rfl, rfl, Nat.le_of_ble_eq_true rfl, Nat.le_of_ble_eq_true rfl⟩ ⟨Nat.zero_le _, Nat.zero_le _⟩ [2] [0, 1] [0, 1, 2] rfl rfl rfl rfl (by decide) rfl rfl rfl rfl rfl hl.1 (by simp only [List.map, List.sum_cons, List.sum_nil, Value.category]; decide) dX6_put_5 (fun H locs hw hn3 => ?_)
  refine lv_if_eq (tgt := 28) hx hb dX6_put_8 (by decide) (fun hc4 => ?_) (fun hc4 => ?_)
  · have hf := if_t hc4 hf
    refine lv_iconst (v := -1) hx hb dX6_put_28 (by decide) ?_
    obtain ⟨rfl, rfl, rfl, rfl, rfl, rfl, rfl, rfl, rfl, rfl, rfl, rfl, rfl⟩ := e13_ hf
    exact r_iret C0 hw trivial dX6_put_29
  · have hf := if_f hc4 hf
    refine lv_iload_n hx hb dX6_put_11 rfl (lv_at hl 3 rfl) ?_
    refine lv_if_lt (tgt := 28) hx hb dX6_put_12 (by decide) (fun hc5 => ?_) (fun hc5 => ?_)
    · have hf := if_t hc5 hf
      refine lv_iconst (v := -1) hx hb dX6_put_28 (by decide) ?_
      obtain ⟨rfl, rfl, rfl, rfl, rfl, rfl, rfl, rfl, rfl, rfl, rfl, rfl, rfl⟩ := e13_ hf
      exact r_iret C0 hw trivial dX6_put_29
    · have hf := if_f hc5 hf
      refine lv_iload_n hx hb dX6_put_15 rfl (lv_at hl 3 rfl) ?_
      refine lv_aload_n hx hb dX6_put_16 rfl (lv_at hl 0 rfl) ?_
      refine r_get C0 hw 0 7 (v := .ref (qf 0)) rfl rfl inX6 (by decide) lk_X6_38 rfl dX6_put_17 ?_
      refine r_get C0 hw 11 3 (v := .ref (qf 4)) rfl rfl inX2 (by decide) lk_X6_151 rfl dX6_put_20 ?_
      refine lv_iload_n hx hb dX6_put_23 rfl (lv_at hl 1 rfl) ?_
      obtain ⟨hi6, hf⟩ := gd_s hf
      refine r_iald C0 hw 15 0 rfl rfl hi6 dX6_put_24 ?_
      refine lv_icmp_lt (tgt := 30) hx hb dX6_put_25 (by decide) (fun hc7 => ?_) (fun hc7 => ?_)
      · have hf := if_t hc7 hf
        refine lv_iload_n hx hb dX6_put_30 rfl (lv_at hl 2 rfl) ?_
        refine lv_iconst (v := 1) hx hb dX6_put_31 (by decide) ?_
        refine lv_icmp_lt (tgt := 51) hx hb dX6_put_32 (by decide) (fun hc8 => ?_) (fun hc8 => ?_)
        · have hf := if_t hc8 hf
          refine lv_iconst (v := -1) hx hb dX6_put_51 (by decide) ?_
          obtain ⟨rfl, rfl, rfl, rfl, rfl, rfl, rfl, rfl, rfl, rfl, rfl, rfl, rfl⟩ := e13_ hf
          exact r_iret C0 hw trivial dX6_put_52
        · have hf := if_f hc8 hf
          refine lv_iload_n hx hb dX6_put_35 rfl (lv_at hl 2 rfl) ?_
          refine lv_iload_n hx hb dX6_put_36 rfl (lv_at hl 3 rfl) ?_
          obtain ⟨j28, ej28, hf⟩ := lt_e hf
          have hj29 : ∀ (v9 : Int32) (H : Heap) (locs : List Loc) (ls : Array Slot), wd_ D (tys0 κ) A s (List.flatten [pJm κ qx rx_tape rx_teller (qb 0) rx_equations rx_images rx_sheets (qf 0) rx_draft x_kept x_textFault x_readFault, pBa κ qb b_moments b_gains b_topped b_endStiffs b_outs b_endsAt b_stiffAt b_stepsAt b_steps b_latest, pFr κ qf f_held f_couples f_endJoints f_lengths f_stiffs f_loadBeams f_loadSizes f_loadPlaces f_joints f_beams f_loads]) H locs → lv_has ls 4 [(0, .ref (qx 0)), (1, .int a1), (2, .int a2), (3, .int a3)] → j28 v9 = some (zr, z1, z2, z3, z4, z5, z6, z7, z8, z9, z10, z11, z12) → W p l e ({ frames := 3, cells := 0, slots := 0, locals := 72 } : Room) s m ([.ref (qx 0), .int a1, .int a2, .int a3] : List Value).toArray below meth c H locs 0 0 (qI_ D (tys0 κ) A nT_ zr (List.flatten [pJm κ qx rx_tape rx_teller (qb 0) rx_equations rx_images rx_sheets (qf 0) rx_draft x_kept x_textFault x_readFault, pBa κ qb z1 b_gains b_topped z2 z3 z4 z5 z6 z7 z8, pFr κ qf f_held f_couples f_endJoints f_lengths f_stiffs z9 z10 z11 f_joints f_beams z12]) below ([.ref (qx 0), .int a1, .int a2, .int a3] : List Value).toArray s) (F0 m 48 ls [.int v9, .int a2]) := by
            intro v9 H locs ls hw hl  hf
            have hf : (if a2 ≤ v9 then if f_loads < (8 : Int32) then b4_ (FFr_addLoad f_loadBeams f_loadSizes f_loadPlaces f_loads a1 a2 a3) fun w12 w13 w14 w15 => b8_ (FBa_anew b_moments b_endStiffs b_outs b_endsAt b_stiffAt b_stepsAt f_couples f_endJoints f_lengths f_stiffs w12 w13 w14 f_beams w15) fun w18 w19 w20 w21 w22 w23 w24 w25 => some (w15, w18, w19, w20, w21, w22, w23, w24, w25, w12, w13, w14, w15) else some ((-3 : Int32), b_moments, b_endStiffs, b_outs, b_endsAt, b_stiffAt, b_stepsAt, b_steps, b_latest, f_loadBeams, f_loadSizes, f_loadPlaces, f_loads) else some ((-1 : Int32), b_moments, b_endStiffs, b_outs, b_endsAt, b_stiffAt, b_stepsAt, b_steps, b_latest, f_loadBeams, f_loadSizes, f_loadPlaces, f_loads)) = some (zr, z1, z2, z3, z4, z5, z6, z7, z8, z9, z10, z11, z12) := by rw [ej28] at hf; exact hf
            refine lv_icmp_le (tgt := 53) hx hb dX6_put_48 (by decide) (fun hc10 => ?_) (fun hc10 => ?_)
            · have hf := if_t hc10 hf
              refine lv_aload_n hx hb dX6_put_53 rfl (lv_at hl 0 rfl) ?_
              refine r_get C0 hw 0 7 (v := .ref (qf 0)) rfl rfl inX6 (by decide) lk_X6_38 rfl dX6_put_54 ?_
              refine r_get C0 hw 11 10 (v := .int f_loads) rfl rfl inX2 (by decide) lk_X6_100 rfl dX6_put_57 ?_
              refine lv_bipush (v := 8) hx hb dX6_put_60 (by decide) ?_
              refine lv_icmp_lt (tgt := 68) hx hb dX6_put_62 (by decide) (fun hc11 => ?_) (fun hc11 => ?_)
              · have hf := if_t hc11 hf
                refine lv_aload_n hx hb dX6_put_68 rfl (lv_at hl 0 rfl) ?_
                refine r_get C0 hw 0 7 (v := .ref (qf 0)) rfl rfl inX6 (by decide) lk_X6_38 rfl dX6_put_69 ?_
                refine lv_iload_n hx hb dX6_put_72 rfl (lv_at hl 1 rfl) ?_
                refine lv_iload_n hx hb dX6_put_73 rfl (lv_at hl 2 rfl) ?_
                refine lv_iload_n hx hb dX6_put_74 rfl (lv_at hl 3 rfl) ?_
                obtain ⟨w12, w13, w14, w15, hk16, hf⟩ := b4_s hf
                refine rv_v (vq := (RX2, TX2, 11)) (As := [.int a1, .int a2, .int a3]) (rest := []) (bs' := [pJm κ qx rx_tape rx_teller (qb 0) rx_equations rx_images rx_sheets (qf 0) rx_draft x_kept x_textFault x_readFault, pBa κ qb b_moments b_gains b_topped b_endStiffs b_outs b_endsAt b_stiffAt b_stepsAt b_steps b_latest, pFr κ qf f_held f_couples f_endJoints f_lengths f_stiffs w12 w13 w14 f_joints f_beams w15]) C0 hw (cFr_addLoad l D κ qf f_held f_couples f_endJoints f_lengths f_stiffs f_loadBeams f_loadSizes f_loadPlaces f_joints f_beams f_loads a1 a2 a3 w12 w13 w14 w15 hk16) cv_RX6_214 ⟨rfl, rfl, Nat.le_of_ble_eq_true rfl, Nat.le_of_ble_eq_true rfl⟩ ⟨Nat.zero_le _, Nat.zero_le _⟩ [2] [0, 1] [0, 1, 2] rfl rfl rfl rfl (by decide) rfl rfl rfl rfl rfl hl.1 (by simp only [List.map, List.sum_cons, List.sum_nil, Value.category]; decide) dX6_put_75 (fun H locs hw => ?_)
                refine lv_aload_n hx hb dX6_put_78 rfl (lv_at hl 0 rfl) ?_
                refine r_get C0 hw 0 2 (v := .ref (qb 0)) rfl rfl inX6 (by decide) lk_X6_24 rfl dX6_put_79 ?_
                refine lv_aload_n hx hb dX6_put_82 rfl (lv_at hl 0 rfl) ?_
                refine r_get C0 hw 0 7 (v := .ref (qf 0)) rfl rfl inX6 (by decide) lk_X6_38 rfl dX6_put_83 ?_
                obtain ⟨w18, w19, w20, w21, w22, w23, w24, w25, hk26, hf⟩ := b8_s hf
                refine rv_v (vq := (RX0, TX0, 10)) (As := [.ref (qf 0)]) (rest := []) (bs' := [pJm κ qx rx_tape rx_teller (qb 0) rx_equations rx_images rx_sheets (qf 0) rx_draft x_kept x_textFault x_readFault, pBa κ qb w18 b_gains b_topped w19 w20 w21 w22 w23 w24 w25, pFr κ qf f_held f_couples f_endJoints f_lengths f_stiffs w12 w13 w14 f_joints f_beams w15]) C0 hw (cBa_anew l D κ qb b_moments b_gains b_topped b_endStiffs b_outs b_endsAt b_stiffAt b_stepsAt b_steps b_latest qf f_held f_couples f_endJoints f_lengths f_stiffs w12 w13 w14 f_joints f_beams w15 w18 w19 w20 w21 w22 w23 w24 w25 hk26) cv_RX6_83 ⟨rfl, rfl, Nat.le_of_ble_eq_true rfl, Nat.le_of_ble_eq_true rfl⟩ ⟨Nat.zero_le _, Nat.zero_le _⟩ [1, 2] [0] [0, 1, 2] rfl rfl rfl rfl (by decide) rfl rfl rfl rfl rfl hl.1 (by simp only [List.map, List.sum_cons, List.sum_nil, Value.category]; decide) dX6_put_86 (fun H locs hw => ?_)
                refine lv_aload_n hx hb dX6_put_89 rfl (lv_at hl 0 rfl) ?_
                refine r_get C0 hw 0 7 (v := .ref (qf 0)) rfl rfl inX6 (by decide) lk_X6_38 rfl dX6_put_90 ?_
                refine r_get C0 hw 11 10 (v := .int w15) rfl rfl inX2 (by decide) lk_X6_100 rfl dX6_put_93 ?_
                obtain ⟨rfl, rfl, rfl, rfl, rfl, rfl, rfl, rfl, rfl, rfl, rfl, rfl, rfl⟩ := e13_ hf
                exact r_iret C0 hw trivial dX6_put_96
              · have hf := if_f hc11 hf
                refine lv_bipush (v := -3) hx hb dX6_put_65 (by decide) ?_
                obtain ⟨rfl, rfl, rfl, rfl, rfl, rfl, rfl, rfl, rfl, rfl, rfl, rfl, rfl⟩ := e13_ hf
                exact r_iret C0 hw trivial dX6_put_67
            · have hf := if_f hc10 hf
              refine lv_iconst (v := -1) hx hb dX6_put_51 (by decide) ?_
              obtain ⟨rfl, rfl, rfl, rfl, rfl, rfl, rfl, rfl, rfl, rfl, rfl, rfl, rfl⟩ := e13_ hf
              exact r_iret C0 hw trivial dX6_put_52
          refine lv_if_ne (tgt := 45) hx hb dX6_put_37 (by decide) (fun hc30 => ?_) (fun hc30 => ?_)
          · have hf := if_f hc30 hf
            refine lv_sipush (v := 999) hx hb dX6_put_45 (by decide) ?_
            exact hj29 (999 : Int32) H locs ls hw (lv_sub hl [0, 1, 2, 3] rfl)  hf
          · have hf := if_t hc30 hf
            refine lv_bipush (v := 99) hx hb dX6_put_40 (by decide) ?_
            refine lv_goto (tgt := 48) hx hb dX6_put_42 (by decide) ?_
            exact hj29 (99 : Int32) H locs ls hw (lv_sub hl [0, 1, 2, 3] rfl)  hf
      · have hf := if_f hc7 hf
        refine lv_iconst (v := -1) hx hb dX6_put_28 (by decide) ?_
        obtain ⟨rfl, rfl, rfl, rfl, rfl, rfl, rfl, rfl, rfl, rfl, rfl, rfl, rfl⟩ := e13_ hf
        exact r_iret C0 hw trivial dX6_put_29
def FJm_lift (b_moments b_endStiffs b_outs b_endsAt b_stiffAt b_stepsAt : Nat → Int32) (b_steps b_latest : Int32) (f_couples f_endJoints f_lengths f_stiffs f_loadBeams f_loadSizes f_loadPlaces : Nat → Int32) (f_beams f_loads a1 : Int32) : Option (Int32 × (Nat → Int32) × (Nat → Int32) × (Nat → Int32) × (Nat → Int32) × (Nat → Int32) × (Nat → Int32) × Int32 × Int32 × (Nat → Int32) × (Nat → Int32) × (Nat → Int32) × Int32) :=
  b1_ (FFr_isLoad f_loads a1) fun r1 =>
  if r1 = 0 then
    some ((-1 : Int32), b_moments, b_endStiffs, b_outs, b_endsAt, b_stiffAt, b_stepsAt, b_steps, b_latest, f_loadBeams, f_loadSizes, f_loadPlaces, f_loads)
  else
    b4_ (FFr_removeLoad f_loadBeams f_loadSizes f_loadPlaces f_loads a1) fun w5 w6 w7 w8 =>
    b8_ (FBa_anew b_moments b_endStiffs b_outs b_endsAt b_stiffAt b_stepsAt f_couples f_endJoints f_lengths f_stiffs w5 w6 w7 f_beams w8) fun w11 w12 w13 w14 w15 w16 w17 w18 =>
    some (w8, w11, w12, w13, w14, w15, w16, w17, w18, w5, w6, w7, w8)
set_option maxHeartbeats 4000000 in
set_option maxRecDepth 100000 in
theorem cJm_lift (l : Launch) (D : va_G) (κ : Nat → ClassId) (qx : Nat → Nat) (rx_tape rx_teller rx_equations rx_images rx_sheets rx_draft : Nat) (x_kept : Nat → Int32) (x_textFault x_readFault : Int32) (qb : Nat → Nat) (b_moments b_gains b_topped b_endStiffs b_outs b_endsAt b_stiffAt b_stepsAt : Nat → Int32) (b_steps b_latest : Int32) (qf : Nat → Nat) (f_held f_couples f_endJoints f_lengths f_stiffs f_loadBeams f_loadSizes f_loadPlaces : Nat → Int32) (f_joints f_beams f_loads a1 zr : Int32) (z1 z2 z3 z4 z5 z6 : Nat → Int32) (z7 z8 : Int32) (z9 z10 z11 : Nat → Int32) (z12 : Int32) (hf : FJm_lift b_moments b_endStiffs b_outs b_endsAt b_stiffAt b_stepsAt b_steps b_latest f_couples f_endJoints f_lengths f_stiffs f_loadBeams f_loadSizes f_loadPlaces f_beams f_loads a1 = some (zr, z1, z2, z3, z4, z5, z6, z7, z8, z9, z10, z11, z12)) : mI_ l yX6_lift (Cond.code yX6_lift cX6_lift 2 (some .int) :: uw) ({ frames := 3, cells := 0, slots := 0, locals := 72 } : Room) D (tys0 κ) [.ref (qx 0), .int a1] (List.flatten [pJm κ qx rx_tape rx_teller (qb 0) rx_equations rx_images rx_sheets (qf 0) rx_draft x_kept x_textFault x_readFault, pBa κ qb b_moments b_gains b_topped b_endStiffs b_outs b_endsAt b_stiffAt b_stepsAt b_steps b_latest, pFr κ qf f_held f_couples f_endJoints f_lengths f_stiffs f_loadBeams f_loadSizes f_loadPlaces f_joints f_beams f_loads]) nT_ zr (List.flatten [pJm κ qx rx_tape rx_teller (qb 0) rx_equations rx_images rx_sheets (qf 0) rx_draft x_kept x_textFault x_readFault, pBa κ qb z1 b_gains b_topped z2 z3 z4 z5 z6 z7 z8, pFr κ qf f_held f_couples f_endJoints f_lengths f_stiffs z9 z10 z11 f_joints f_beams z12]) := by
  unfold FJm_lift at hf
  refine mI_of (by decide) (Nat.le_of_ble_eq_true rfl) ?_
  intro p e s m below meth c A ls H locs C0 hw hl
  obtain ⟨hx, hb, -, hml, hown, hts, -, -⟩ := id C0
  have hl : lv_has ls 2 [(0, .ref (qx 0)), (1, .int a1)] := hl
  refine lv_aload_n hx hb dX6_lift_0 rfl (lv_at hl 0 rfl) ?_
  refine r_get C0 hw 0 7 (v := .ref (qf 0)) rfl rfl inX6 (by decide) lk_X6_38 rfl dX6_lift_1 ?_
  refine lv_iload_n hx hb dX6_lift_4 rfl (lv_at hl 1 rfl) ?_
  obtain ⟨r1, hk2, hf⟩ := b1_s hf
  refine rv_i (vq := (RX2, TX2, 11)) (As := [.int a1]) (rest := []) (bs' := [pJm κ qx rx_tape rx_teller (qb 0) rx_equations rx_images rx_sheets (qf 0) rx_draft x_kept x_textFault x_readFault, pBa κ qb b_moments b_gains b_topped b_endStiffs b_outs b_endsAt b_stiffAt b_stepsAt b_steps b_latest, pFr κ qf f_held f_couples f_endJoints f_lengths f_stiffs f_loadBeams f_loadSizes f_loadPlaces f_joints f_beams f_loads]) C0 hw (cFr_isLoad l D κ qf f_held f_couples f_endJoints f_lengths f_stiffs f_loadBeams f_loadSizes f_loadPlaces f_joints f_beams f_loads a1 r1 hk2) cv_RX6_163 ⟨rfl, rfl, Nat.le_of_ble_eq_true rfl, Nat.le_of_ble_eq_true rfl⟩ ⟨Nat.zero_le _, Nat.zero_le _⟩ [2] [0, 1] [0, 1, 2] rfl rfl rfl rfl (by decide) rfl rfl rfl rfl rfl hl.1 (by simp only [List.map, List.sum_cons, List.sum_nil, Value.category]; decide) dX6_lift_5 (fun H locs hw hn3 => ?_)
  refine lv_if_ne (tgt := 13) hx hb dX6_lift_8 (by decide) (fun hc4 => ?_) (fun hc4 => ?_)
  · have hf := if_f hc4 hf
    refine lv_aload_n hx hb dX6_lift_13 rfl (lv_at hl 0 rfl) ?_
    refine r_get C0 hw 0 7 (v := .ref (qf 0)) rfl rfl inX6 (by decide) lk_X6_38 rfl dX6_lift_14 ?_
    refine lv_iload_n hx hb dX6_lift_17 rfl (lv_at hl 1 rfl) ?_
    obtain ⟨w5, w6, w7, w8, hk9, hf⟩ := b4_s hf
    refine rv_v (vq := (RX2, TX2, 11)) (As := [.int a1]) (rest := []) (bs' := [pJm κ qx rx_tape rx_teller (qb 0) rx_equations rx_images rx_sheets (qf 0) rx_draft x_kept x_textFault x_readFault, pBa κ qb b_moments b_gains b_topped b_endStiffs b_outs b_endsAt b_stiffAt b_stepsAt b_steps b_latest, pFr κ qf f_held f_couples f_endJoints f_lengths f_stiffs w5 w6 w7 f_joints f_beams w8]) C0 hw (cFr_removeLoad l D κ qf f_held f_couples f_endJoints f_lengths f_stiffs f_loadBeams f_loadSizes f_loadPlaces f_joints f_beams f_loads a1 w5 w6 w7 w8 hk9) cv_RX6_218 ⟨rfl, rfl, Nat.le_of_ble_eq_true rfl, Nat.le_of_ble_eq_true rfl⟩ ⟨Nat.zero_le _, Nat.zero_le _⟩ [2] [0, 1] [0, 1, 2] rfl rfl rfl rfl (by decide) rfl rfl rfl rfl rfl hl.1 (by simp only [List.map, List.sum_cons, List.sum_nil, Value.category]; decide) dX6_lift_18 (fun H locs hw => ?_)
    refine lv_aload_n hx hb dX6_lift_21 rfl (lv_at hl 0 rfl) ?_
    refine r_get C0 hw 0 2 (v := .ref (qb 0)) rfl rfl inX6 (by decide) lk_X6_24 rfl dX6_lift_22 ?_
    refine lv_aload_n hx hb dX6_lift_25 rfl (lv_at hl 0 rfl) ?_
    refine r_get C0 hw 0 7 (v := .ref (qf 0)) rfl rfl inX6 (by decide) lk_X6_38 rfl dX6_lift_26 ?_
    obtain ⟨w11, w12, w13, w14, w15, w16, w17, w18, hk19, hf⟩ := b8_s hf
    refine rv_v (vq := (RX0, TX0, 10)) (As := [.ref (qf 0)]) (rest := []) (bs' := [pJm κ qx rx_tape rx_teller (qb 0) rx_equations rx_images rx_sheets (qf 0) rx_draft x_kept x_textFault x_readFault, pBa κ qb w11 b_gains b_topped w12 w13 w14 w15 w16 w17 w18, pFr κ qf f_held f_couples f_endJoints f_lengths f_stiffs w5 w6 w7 f_joints f_beams w8]) C0 hw (cBa_anew l D κ qb b_moments b_gains b_topped b_endStiffs b_outs b_endsAt b_stiffAt b_stepsAt b_steps b_latest qf f_held f_couples f_endJoints f_lengths f_stiffs w5 w6 w7 f_joints f_beams w8 w11 w12 w13 w14 w15 w16 w17 w18 hk19) cv_RX6_83 ⟨rfl, rfl, Nat.le_of_ble_eq_true rfl, Nat.le_of_ble_eq_true rfl⟩ ⟨Nat.zero_le _, Nat.zero_le _⟩ [1, 2] [0] [0, 1, 2] rfl rfl rfl rfl (by decide) rfl rfl rfl rfl rfl hl.1 (by simp only [List.map, List.sum_cons, List.sum_nil, Value.category]; decide) dX6_lift_29 (fun H locs hw => ?_)
    refine lv_aload_n hx hb dX6_lift_32 rfl (lv_at hl 0 rfl) ?_
    refine r_get C0 hw 0 7 (v := .ref (qf 0)) rfl rfl inX6 (by decide) lk_X6_38 rfl dX6_lift_33 ?_
    refine r_get C0 hw 11 10 (v := .int w8) rfl rfl inX2 (by decide) lk_X6_100 rfl dX6_lift_36 ?_
    obtain ⟨rfl, rfl, rfl, rfl, rfl, rfl, rfl, rfl, rfl, rfl, rfl, rfl, rfl⟩ := e13_ hf
    exact r_iret C0 hw trivial dX6_lift_39
  · have hf := if_t hc4 hf
    refine lv_iconst (v := -1) hx hb dX6_lift_11 (by decide) ?_
    obtain ⟨rfl, rfl, rfl, rfl, rfl, rfl, rfl, rfl, rfl, rfl, rfl, rfl, rfl⟩ := e13_ hf
    exact r_iret C0 hw trivial dX6_lift_12
def FJm_fall_L31 (f_lengths : Nat → Int32) (f_beams l2 : Int32) (k_ : Int32 → Int32 → (Nat → Int32) → (Nat → Int32) → (Nat → Int32) → Int32 → Option (Int32 × (Nat → Int32) × (Nat → Int32) × (Nat → Int32) × (Nat → Int32) × (Nat → Int32) × (Nat → Int32) × Int32 × Int32 × (Nat → Int32) × (Nat → Int32) × (Nat → Int32) × Int32)) : Nat → Int32 → Int32 → (Nat → Int32) → (Nat → Int32) → (Nat → Int32) → Int32 → Option (Int32 × (Nat → Int32) × (Nat → Int32) × (Nat → Int32) × (Nat → Int32) × (Nat → Int32) × (Nat → Int32) × Int32 × Int32 × (Nat → Int32) × (Nat → Int32) × (Nat → Int32) × Int32)
  | 0, _, _, _, _, _, _ => none
  | n + 1, l3, l4, f_loadBeams, f_loadSizes, f_loadPlaces, f_loads =>
      lt_ (fun (_ : Unit) =>
        k_ (0 : Int32) l4 f_loadBeams f_loadSizes f_loadPlaces f_loads : Unit → Option (Int32 × (Nat → Int32) × (Nat → Int32) × (Nat → Int32) × (Nat → Int32) × (Nat → Int32) × (Nat → Int32) × Int32 × Int32 × (Nat → Int32) × (Nat → Int32) × (Nat → Int32) × Int32)) fun j4 =>
      if l2 ≤ l4 then
        j4 ()
      else
        if (8 : Int32) ≤ f_loads then
          j4 ()
        else
          lt_ ((l3 * (1103515245 : Int32)) + (12345 : Int32)) fun v8 =>
          b4_ (FFr_drop f_lengths f_loadBeams f_loadSizes f_loadPlaces f_beams f_loads (((v8.toUInt32 >>> ((16 : Int32).toUInt32 &&& Int32.toUInt32 31)).toInt32) &&& (32767 : Int32))) fun w9 w10 w11 w12 =>
          lt_ (l4 + (1 : Int32)) fun v15 =>
          FJm_fall_L31 f_lengths f_beams l2 k_ n v8 v15 w9 w10 w11 w12
def FJm_fall (b_moments b_endStiffs b_outs b_endsAt b_stiffAt b_stepsAt : Nat → Int32) (b_steps b_latest : Int32) (f_couples f_endJoints f_lengths f_stiffs f_loadBeams f_loadSizes f_loadPlaces : Nat → Int32) (f_beams f_loads a1 a2 : Int32) : Option (Int32 × (Nat → Int32) × (Nat → Int32) × (Nat → Int32) × (Nat → Int32) × (Nat → Int32) × (Nat → Int32) × Int32 × Int32 × (Nat → Int32) × (Nat → Int32) × (Nat → Int32) × Int32) :=
  if a2 < (1 : Int32) then
    some ((-1 : Int32), b_moments, b_endStiffs, b_outs, b_endsAt, b_stiffAt, b_stepsAt, b_steps, b_latest, f_loadBeams, f_loadSizes, f_loadPlaces, f_loads)
  else
    if a2 ≤ (8 : Int32) then
      if f_beams = 0 then
        some ((-2 : Int32), b_moments, b_endStiffs, b_outs, b_endsAt, b_stiffAt, b_stepsAt, b_steps, b_latest, f_loadBeams, f_loadSizes, f_loadPlaces, f_loads)
      else
        FJm_fall_L31 f_lengths f_beams a2 (fun (v17 : Int32) (v18 : Int32) (w19 : Nat → Int32) (w20 : Nat → Int32) (w21 : Nat → Int32) (w22 : Int32) =>
            if v18 ≤ 0 then
              some (v18, b_moments, b_endStiffs, b_outs, b_endsAt, b_stiffAt, b_stepsAt, b_steps, b_latest, w19, w20, w21, w22)
            else
              b8_ (FBa_anew b_moments b_endStiffs b_outs b_endsAt b_stiffAt b_stepsAt f_couples f_endJoints f_lengths f_stiffs w19 w20 w21 f_beams w22) fun w24 w25 w26 w27 w28 w29 w30 w31 =>
              some (v18, w24, w25, w26, w27, w28, w29, w30, w31, w19, w20, w21, w22)) 1000 a1 (0 : Int32) f_loadBeams f_loadSizes f_loadPlaces f_loads
    else
      some ((-1 : Int32), b_moments, b_endStiffs, b_outs, b_endsAt, b_stiffAt, b_stepsAt, b_steps, b_latest, f_loadBeams, f_loadSizes, f_loadPlaces, f_loads)
set_option maxHeartbeats 4000000 in
set_option maxRecDepth 100000 in
theorem wJm_fall_L31 {p : Program} {l : Launch} {e : Env} {s : State} {m : MethodId} {args : Array Value} {below : List Frame} {meth : Method} {c : Code} {A : Nat → Prop} {D : va_G} {κ : Nat → ClassId} (C0 : cx_ p s m meth c args cX6_fall RX6 (some .int) 5 A) (qx : Nat → Nat) (rx_tape rx_teller rx_equations rx_images rx_sheets rx_draft : Nat) (x_kept : Nat → Int32) (x_textFault x_readFault : Int32) (qb : Nat → Nat) (b_moments b_gains b_topped b_endStiffs b_outs b_endsAt b_stiffAt b_stepsAt : Nat → Int32) (b_steps b_latest : Int32) (qf : Nat → Nat) (f_held f_couples f_endJoints f_lengths f_stiffs : Nat → Int32) (f_joints f_beams l2 : Int32) (zr : Int32) (z1 z2 z3 z4 z5 z6 : Nat → Int32) (z7 z8 : Int32) (z9 z10 z11 : Nat → Int32) (z12 : Int32) (k_ : Int32 → Int32 → (Nat → Int32) → (Nat → Int32) → (Nat → Int32) → Int32 → Option (Int32 × (Nat → Int32) × (Nat → Int32) × (Nat → Int32) × (Nat → Int32) × (Nat → Int32) × (Nat → Int32) × Int32 × Int32 × (Nat → Int32) × (Nat → Int32) × (Nat → Int32) × Int32)) (hk_ : ∀ (l3 : Int32) (l4 : Int32) (f_loadBeams : Nat → Int32) (f_loadSizes : Nat → Int32) (f_loadPlaces : Nat → Int32) (f_loads : Int32) (H : Heap) (locs : List Loc) (ls : Array Slot), wd_ D (tys0 κ) A s (List.flatten [pJm κ qx rx_tape rx_teller (qb 0) rx_equations rx_images rx_sheets (qf 0) rx_draft x_kept x_textFault x_readFault, pBa κ qb b_moments b_gains b_topped b_endStiffs b_outs b_endsAt b_stiffAt b_stepsAt b_steps b_latest, pFr κ qf f_held f_couples f_endJoints f_lengths f_stiffs f_loadBeams f_loadSizes f_loadPlaces f_joints f_beams f_loads]) H locs → lv_has ls 5 [(0, .ref (qx 0)), (4, .int l4)] → k_ l3 l4 f_loadBeams f_loadSizes f_loadPlaces f_loads = some (zr, z1, z2, z3, z4, z5, z6, z7, z8, z9, z10, z11, z12) → W p l e ({ frames := 3, cells := 0, slots := 0, locals := 72 } : Room) s m args below meth c H locs 0 0 (qI_ D (tys0 κ) A nT_ zr (List.flatten [pJm κ qx rx_tape rx_teller (qb 0) rx_equations rx_images rx_sheets (qf 0) rx_draft x_kept x_textFault x_readFault, pBa κ qb z1 b_gains b_topped z2 z3 z4 z5 z6 z7 z8, pFr κ qf f_held f_couples f_endJoints f_lengths f_stiffs z9 z10 z11 f_joints f_beams z12]) below args s) (F0 m 79 ls [])) : ∀ (n : Nat) (l3 : Int32) (l4 : Int32) (f_loadBeams : Nat → Int32) (f_loadSizes : Nat → Int32) (f_loadPlaces : Nat → Int32) (f_loads : Int32) (H : Heap) (locs : List Loc) (ls : Array Slot), wd_ D (tys0 κ) A s (List.flatten [pJm κ qx rx_tape rx_teller (qb 0) rx_equations rx_images rx_sheets (qf 0) rx_draft x_kept x_textFault x_readFault, pBa κ qb b_moments b_gains b_topped b_endStiffs b_outs b_endsAt b_stiffAt b_stepsAt b_steps b_latest, pFr κ qf f_held f_couples f_endJoints f_lengths f_stiffs f_loadBeams f_loadSizes f_loadPlaces f_joints f_beams f_loads]) H locs → lv_has ls 5 [(0, .ref (qx 0)), (2, .int l2), (3, .int l3), (4, .int l4)] → FJm_fall_L31 f_lengths f_beams l2 k_ n l3 l4 f_loadBeams f_loadSizes f_loadPlaces f_loads = some (zr, z1, z2, z3, z4, z5, z6, z7, z8, z9, z10, z11, z12) → W p l e ({ frames := 3, cells := 0, slots := 0, locals := 72 } : Room) s m args below meth c H locs 0 0 (qI_ D (tys0 κ) A nT_ zr (List.flatten [pJm κ qx rx_tape rx_teller (qb 0) rx_equations rx_images rx_sheets (qf 0) rx_draft x_kept x_textFault x_readFault, pBa κ qb z1 b_gains b_topped z2 z3 z4 z5 z6 z7 z8, pFr κ qf f_held f_couples f_endJoints f_lengths f_stiffs z9 z10 z11 f_joints f_beams z12]) below args s) (F0 m 31 ls []) := by
  obtain ⟨hx, hb, -, hml, hown, hts, -, -⟩ := id C0
  intro n
  induction n with
  | zero =>
    intro l3 l4 f_loadBeams f_loadSizes f_loadPlaces f_loads H locs ls hw hl  hf
    cases hf
  | succ n ih =>
    intro l3 l4 f_loadBeams f_loadSizes f_loadPlaces f_loads H locs ls hw hl  hf
    rw [FJm_fall_L31.eq_2] at hf
    refine lv_iload hx hb dX6_fall_31 (lv_at hl 3 rfl) ?_
    refine lv_iload_n hx hb dX6_fall_33 rfl (lv_at hl 1 rfl) ?_
    obtain ⟨j4, ej4, hf⟩ := lt_e hf
    have hj5 : ∀  (H : Heap) (locs : List Loc) (ls : Array Slot), wd_ D (tys0 κ) A s (List.flatten [pJm κ qx rx_tape rx_teller (qb 0) rx_equations rx_images rx_sheets (qf 0) rx_draft x_kept x_textFault x_readFault, pBa κ qb b_moments b_gains b_topped b_endStiffs b_outs b_endsAt b_stiffAt b_stepsAt b_steps b_latest, pFr κ qf f_held f_couples f_endJoints f_lengths f_stiffs f_loadBeams f_loadSizes f_loadPlaces f_joints f_beams f_loads]) H locs → lv_has ls 5 [(0, .ref (qx 0)), (4, .int l4)] → j4 () = some (zr, z1, z2, z3, z4, z5, z6, z7, z8, z9, z10, z11, z12) → W p l e ({ frames := 3, cells := 0, slots := 0, locals := 72 } : Room) s m args below meth c H locs 0 0 (qI_ D (tys0 κ) A nT_ zr (List.flatten [pJm κ qx rx_tape rx_teller (qb 0) rx_equations rx_images rx_sheets (qf 0) rx_draft x_kept x_textFault x_readFault, pBa κ qb z1 b_gains b_topped z2 z3 z4 z5 z6 z7 z8, pFr κ qf f_held f_couples f_endJoints f_lengths f_stiffs z9 z10 z11 f_joints f_beams z12]) below args s) (F0 m 79 ls []) := by
      intro  H locs ls hw hl  hf
      have hf : (k_ (0 : Int32) l4 f_loadBeams f_loadSizes f_loadPlaces f_loads) = some (zr, z1, z2, z3, z4, z5, z6, z7, z8, z9, z10, z11, z12) := by rw [ej4] at hf; exact hf
      exact hk_ (0 : Int32) l4 f_loadBeams f_loadSizes f_loadPlaces f_loads H locs ls hw (lv_sub hl [0, 1] rfl)  hf
    refine lv_icmp_ge (tgt := 79) hx hb dX6_fall_34 (by decide) (fun hc6 => ?_) (fun hc6 => ?_)
    · have hf := if_t hc6 hf
      exact hj5  H locs ls hw (lv_sub hl [0, 3] rfl)  hf
    · have hf := if_f hc6 hf
      refine lv_aload_n hx hb dX6_fall_37 rfl (lv_at hl 0 rfl) ?_
      refine r_get C0 hw 0 7 (v := .ref (qf 0)) rfl rfl inX6 (by decide) lk_X6_38 rfl dX6_fall_38 ?_
      refine r_get C0 hw 11 10 (v := .int f_loads) rfl rfl inX2 (by decide) lk_X6_100 rfl dX6_fall_41 ?_
      refine lv_bipush (v := 8) hx hb dX6_fall_44 (by decide) ?_
      refine lv_icmp_ge (tgt := 79) hx hb dX6_fall_46 (by decide) (fun hc7 => ?_) (fun hc7 => ?_)
      · have hf := if_t hc7 hf
        exact hj5  H locs ls hw (lv_sub hl [0, 3] rfl)  hf
      · have hf := if_f hc7 hf
        refine lv_iload_n hx hb dX6_fall_49 rfl (lv_at hl 2 rfl) ?_
        refine lv_ldc (v := 1103515245) hx hb hown (hts _ kc_X6_221) dX6_fall_50 ?_
        refine lv_imul hx hb dX6_fall_52 ?_
        refine lv_sipush (v := 12345) hx hb dX6_fall_53 (by decide) ?_
        refine lv_iadd hx hb dX6_fall_56 ?_
        refine lv_topi (fun v8 ev8 => ?_)
        have hf := lt_s_ hf v8 ev8
        refine lv_istore_n (lv' := [(3, .int v8), (0, .ref (qx 0)), (2, .int l2), (4, .int l4)]) hx hb dX6_fall_57 rfl hl (by decide) rfl (fun ls hl => ?_)
        refine lv_aload_n hx hb dX6_fall_58 rfl (lv_at hl 1 rfl) ?_
        refine r_get C0 hw 0 7 (v := .ref (qf 0)) rfl rfl inX6 (by decide) lk_X6_38 rfl dX6_fall_59 ?_
        refine lv_iload_n hx hb dX6_fall_62 rfl (lv_at hl 0 rfl) ?_
        refine lv_bipush (v := 16) hx hb dX6_fall_63 (by decide) ?_
        refine lv_iushr hx hb dX6_fall_65 rfl ?_
        refine lv_sipush (v := 32767) hx hb dX6_fall_66 (by decide) ?_
        refine lv_iand hx hb dX6_fall_69 ?_
        obtain ⟨w9, w10, w11, w12, hk13, hf⟩ := b4_s hf
        refine rv_v (vq := (RX2, TX2, 11)) (As := [.int (((v8.toUInt32 >>> ((16 : Int32).toUInt32 &&& Int32.toUInt32 31)).toInt32) &&& (32767 : Int32))]) (rest := []) (bs' := [pJm κ qx rx_tape rx_teller (qb 0) rx_equations rx_images rx_sheets (qf 0) rx_draft x_kept x_textFault x_readFault, pBa κ qb b_moments b_gains b_topped b_endStiffs b_outs b_endsAt b_stiffAt b_stepsAt b_steps b_latest, pFr κ qf f_held f_couples f_endJoints f_lengths f_stiffs w9 w10 w11 f_joints f_beams w12]) C0 hw (cFr_drop l D κ qf f_held f_couples f_endJoints f_lengths f_stiffs f_loadBeams f_loadSizes f_loadPlaces f_joints f_beams f_loads (((v8.toUInt32 >>> ((16 : Int32).toUInt32 &&& Int32.toUInt32 31)).toInt32) &&& (32767 : Int32)) w9 w10 w11 w12 hk13) cv_RX6_222 ⟨rfl, rfl, Nat.le_of_ble_eq_true rfl, Nat.le_of_ble_eq_true rfl⟩ ⟨Nat.zero_le _, Nat.zero_le _⟩ [2] [0, 1] [0, 1, 2] rfl rfl rfl rfl (by decide) rfl rfl rfl rfl rfl hl.1 (by simp only [List.map, List.sum_cons, List.sum_nil, Value.category]; decide) dX6_fall_70 (fun H locs hw => ?_)
        obtain ⟨v15, ev15⟩ : ∃ z : Int32, z = (l4 + (1 : Int32)) := ⟨_, rfl⟩
        have hf := lt_s_ hf v15 ev15
        refine lv_iinc (v := v15) (lv' := [(4, .int v15), (3, .int v8), (0, .ref (qx 0)), (2, .int l2)]) hx hb dX6_fall_73 hl (k := 3) rfl (by rw [ev15]; rfl) (by decide) rfl (fun ls hl => ?_)
        refine lv_goto (tgt := 31) hx hb dX6_fall_76 (by decide) ?_
        exact ih v8 v15 w9 w10 w11 w12 H locs ls hw (lv_sub hl [2, 3, 1, 0] rfl)  hf
set_option maxHeartbeats 4000000 in
set_option maxRecDepth 100000 in
theorem cJm_fall (l : Launch) (D : va_G) (κ : Nat → ClassId) (qx : Nat → Nat) (rx_tape rx_teller rx_equations rx_images rx_sheets rx_draft : Nat) (x_kept : Nat → Int32) (x_textFault x_readFault : Int32) (qb : Nat → Nat) (b_moments b_gains b_topped b_endStiffs b_outs b_endsAt b_stiffAt b_stepsAt : Nat → Int32) (b_steps b_latest : Int32) (qf : Nat → Nat) (f_held f_couples f_endJoints f_lengths f_stiffs f_loadBeams f_loadSizes f_loadPlaces : Nat → Int32) (f_joints f_beams f_loads a1 a2 zr : Int32) (z1 z2 z3 z4 z5 z6 : Nat → Int32) (z7 z8 : Int32) (z9 z10 z11 : Nat → Int32) (z12 : Int32) (hf : FJm_fall b_moments b_endStiffs b_outs b_endsAt b_stiffAt b_stepsAt b_steps b_latest f_couples f_endJoints f_lengths f_stiffs f_loadBeams f_loadSizes f_loadPlaces f_beams f_loads a1 a2 = some (zr, z1, z2, z3, z4, z5, z6, z7, z8, z9, z10, z11, z12)) : mI_ l yX6_fall (Cond.code yX6_fall cX6_fall 5 (some .int) :: uw) ({ frames := 3, cells := 0, slots := 0, locals := 72 } : Room) D (tys0 κ) [.ref (qx 0), .int a1, .int a2] (List.flatten [pJm κ qx rx_tape rx_teller (qb 0) rx_equations rx_images rx_sheets (qf 0) rx_draft x_kept x_textFault x_readFault, pBa κ qb b_moments b_gains b_topped b_endStiffs b_outs b_endsAt b_stiffAt b_stepsAt b_steps b_latest, pFr κ qf f_held f_couples f_endJoints f_lengths f_stiffs f_loadBeams f_loadSizes f_loadPlaces f_joints f_beams f_loads]) nT_ zr (List.flatten [pJm κ qx rx_tape rx_teller (qb 0) rx_equations rx_images rx_sheets (qf 0) rx_draft x_kept x_textFault x_readFault, pBa κ qb z1 b_gains b_topped z2 z3 z4 z5 z6 z7 z8, pFr κ qf f_held f_couples f_endJoints f_lengths f_stiffs z9 z10 z11 f_joints f_beams z12]) := by
  unfold FJm_fall at hf
  refine mI_of (by decide) (Nat.le_of_ble_eq_true rfl) ?_
  intro p e s m below meth c A ls H locs C0 hw hl
  obtain ⟨hx, hb, -, hml, hown, hts, -, -⟩ := id C0
  have hl : lv_has ls 5 [(0, .ref (qx 0)), (1, .int a1), (2, .int a2)] := hl
  refine lv_iload_n hx hb dX6_fall_0 rfl (lv_at hl 2 rfl) ?_
  refine lv_iconst (v := 1) hx hb dX6_fall_1 (by decide) ?_
  refine lv_icmp_lt (tgt := 11) hx hb dX6_fall_2 (by decide) (fun hc1 => ?_) (fun hc1 => ?_)
  · have hf := if_t hc1 hf
    refine lv_iconst (v := -1) hx hb dX6_fall_11 (by decide) ?_
    obtain ⟨rfl, rfl, rfl, rfl, rfl, rfl, rfl, rfl, rfl, rfl, rfl, rfl, rfl⟩ := e13_ hf
    exact r_iret C0 hw trivial dX6_fall_12
  · have hf := if_f hc1 hf
    refine lv_iload_n hx hb dX6_fall_5 rfl (lv_at hl 2 rfl) ?_
    refine lv_bipush (v := 8) hx hb dX6_fall_6 (by decide) ?_
    refine lv_icmp_le (tgt := 13) hx hb dX6_fall_8 (by decide) (fun hc2 => ?_) (fun hc2 => ?_)
    · have hf := if_t hc2 hf
      refine lv_aload_n hx hb dX6_fall_13 rfl (lv_at hl 0 rfl) ?_
      refine r_get C0 hw 0 7 (v := .ref (qf 0)) rfl rfl inX6 (by decide) lk_X6_38 rfl dX6_fall_14 ?_
      refine r_get C0 hw 11 9 (v := .int f_beams) rfl rfl inX2 (by decide) lk_X6_97 rfl dX6_fall_17 ?_
      refine lv_if_ne (tgt := 26) hx hb dX6_fall_20 (by decide) (fun hc3 => ?_) (fun hc3 => ?_)
      · have hf := if_f hc3 hf
        refine lv_iload_n hx hb dX6_fall_26 rfl (lv_at hl 1 rfl) ?_
        refine lv_istore_n (lv' := [(3, .int a1), (0, .ref (qx 0)), (1, .int a1), (2, .int a2)]) hx hb dX6_fall_27 rfl hl (by decide) rfl (fun ls hl => ?_)
        refine lv_iconst (v := 0) hx hb dX6_fall_28 (by decide) ?_
        refine lv_istore (lv' := [(4, .int (0 : Int32)), (3, .int a1), (0, .ref (qx 0)), (1, .int a1), (2, .int a2)]) hx hb dX6_fall_29 hl (by decide) rfl (fun ls hl => ?_)
        refine wJm_fall_L31 C0 qx rx_tape rx_teller rx_equations rx_images rx_sheets rx_draft x_kept x_textFault x_readFault qb b_moments b_gains b_topped b_endStiffs b_outs b_endsAt b_stiffAt b_stepsAt b_steps b_latest qf f_held f_couples f_endJoints f_lengths f_stiffs f_joints f_beams a2 zr z1 z2 z3 z4 z5 z6 z7 z8 z9 z10 z11 z12 _ (fun v17 v18 w19 w20 w21 w22 H locs ls hw hl  hf => ?_) 1000 a1 (0 : Int32) f_loadBeams f_loadSizes f_loadPlaces f_loads H locs ls hw (lv_sub hl [2, 4, 1, 0] rfl)  hf
        refine lv_iload hx hb dX6_fall_79 (lv_at hl 1 rfl) ?_
        refine lv_if_le (tgt := 95) hx hb dX6_fall_81 (by decide) (fun hc23 => ?_) (fun hc23 => ?_)
        · have hf := if_t hc23 hf
          refine lv_iload hx hb dX6_fall_95 (lv_at hl 1 rfl) ?_
          obtain ⟨rfl, rfl, rfl, rfl, rfl, rfl, rfl, rfl, rfl, rfl, rfl, rfl, rfl⟩ := e13_ hf
          exact r_iret C0 hw trivial dX6_fall_97
        · have hf := if_f hc23 hf
          refine lv_aload_n hx hb dX6_fall_84 rfl (lv_at hl 0 rfl) ?_
          refine r_get C0 hw 0 2 (v := .ref (qb 0)) rfl rfl inX6 (by decide) lk_X6_24 rfl dX6_fall_85 ?_
          refine lv_aload_n hx hb dX6_fall_88 rfl (lv_at hl 0 rfl) ?_
          refine r_get C0 hw 0 7 (v := .ref (qf 0)) rfl rfl inX6 (by decide) lk_X6_38 rfl dX6_fall_89 ?_
          obtain ⟨w24, w25, w26, w27, w28, w29, w30, w31, hk32, hf⟩ := b8_s hf
          refine rv_v (vq := (RX0, TX0, 10)) (As := [.ref (qf 0)]) (rest := []) (bs' := [pJm κ qx rx_tape rx_teller (qb 0) rx_equations rx_images rx_sheets (qf 0) rx_draft x_kept x_textFault x_readFault, pBa κ qb w24 b_gains b_topped w25 w26 w27 w28 w29 w30 w31, pFr κ qf f_held f_couples f_endJoints f_lengths f_stiffs w19 w20 w21 f_joints f_beams w22]) C0 hw (cBa_anew l D κ qb b_moments b_gains b_topped b_endStiffs b_outs b_endsAt b_stiffAt b_stepsAt b_steps b_latest qf f_held f_couples f_endJoints f_lengths f_stiffs w19 w20 w21 f_joints f_beams w22 w24 w25 w26 w27 w28 w29 w30 w31 hk32) cv_RX6_83 ⟨rfl, rfl, Nat.le_of_ble_eq_true rfl, Nat.le_of_ble_eq_true rfl⟩ ⟨Nat.zero_le _, Nat.zero_le _⟩ [1, 2] [0] [0, 1, 2] rfl rfl rfl rfl (by decide) rfl rfl rfl rfl rfl hl.1 (by simp only [List.map, List.sum_cons, List.sum_nil, Value.category]; decide) dX6_fall_92 (fun H locs hw => ?_)
          refine lv_iload hx hb dX6_fall_95 (lv_at hl 1 rfl) ?_
          obtain ⟨rfl, rfl, rfl, rfl, rfl, rfl, rfl, rfl, rfl, rfl, rfl, rfl, rfl⟩ := e13_ hf
          exact r_iret C0 hw trivial dX6_fall_97
      · have hf := if_t hc3 hf
        refine lv_bipush (v := -2) hx hb dX6_fall_23 (by decide) ?_
        obtain ⟨rfl, rfl, rfl, rfl, rfl, rfl, rfl, rfl, rfl, rfl, rfl, rfl, rfl⟩ := e13_ hf
        exact r_iret C0 hw trivial dX6_fall_25
    · have hf := if_f hc2 hf
      refine lv_iconst (v := -1) hx hb dX6_fall_11 (by decide) ?_
      obtain ⟨rfl, rfl, rfl, rfl, rfl, rfl, rfl, rfl, rfl, rfl, rfl, rfl, rfl⟩ := e13_ hf
      exact r_iret C0 hw trivial dX6_fall_12
