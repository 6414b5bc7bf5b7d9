theorem kl_X7_64 : Cond.constantLong RX7 64 (127) ∈ uw := uw_4 (List.mem_of_getElem? (i := 83) rfl) rfl
theorem hs_X7_in : yX7_in.cls ≠ "java/lang/invoke/MethodHandle" ∧ yX7_in.cls ≠ "java/lang/invoke/VarHandle" ∧ (parseMethodDescriptor yX7_in.desc).map (fun d => d.parameters.length) = some 3 := by decide +kernel
theorem cs_X7_66 : cs_ RX7 66 yX7_in cX7_in 6 (some .boolean) 3 := ⟨uw_4 (List.mem_of_getElem? (i := 84) rfl) rfl, uw_4 (List.mem_of_getElem? (i := 85) rfl) rfl, uw_1 (List.mem_of_getElem? (i := 8) rfl) rfl, uw_4 (List.mem_of_getElem? (i := 86) rfl) rfl, hs_X7_in⟩
theorem lk_X7_70 : Cond.fieldLink RX7 70 (TX7 2).1 (TX7 2).2.1 (TX7 2).2.2.1 ∈ uw := uw_3 (List.mem_of_getElem? (i := 236) rfl) rfl
theorem lk_X7_13 : Cond.fieldLink RX7 13 (TX7 1).1 (TX7 1).2.1 (TX7 1).2.2.1 ∈ uw := uw_3 (List.mem_of_getElem? (i := 235) rfl) rfl
theorem lk_X7_73 : Cond.fieldLink RX7 73 (TX7 4).1 (TX7 4).2.1 (TX7 4).2.2.1 ∈ uw := uw_3 (List.mem_of_getElem? (i := 238) rfl) rfl
theorem lk_X7_76 : Cond.fieldLink RX7 76 (TX7 7).1 (TX7 7).2.1 (TX7 7).2.2.1 ∈ uw := uw_4 (List.mem_of_getElem? (i := 1) rfl) rfl
theorem lk_X7_79 : Cond.fieldLink RX7 79 (TX7 5).1 (TX7 5).2.1 (TX7 5).2.2.1 ∈ uw := uw_3 (List.mem_of_getElem? (i := 239) rfl) rfl
theorem lk_X7_82 : Cond.fieldLink RX7 82 (TX7 8).1 (TX7 8).2.1 (TX7 8).2.2.1 ∈ uw := uw_4 (List.mem_of_getElem? (i := 2) rfl) rfl
theorem lk_X7_85 : Cond.fieldLink RX7 85 (TX7 6).1 (TX7 6).2.1 (TX7 6).2.2.1 ∈ uw := uw_4 (List.mem_of_getElem? (i := 0) rfl) rfl
theorem lk_X7_16 : Cond.fieldLink RX7 16 (TX7 10).1 (TX7 10).2.1 (TX7 10).2.2.1 ∈ uw := uw_4 (List.mem_of_getElem? (i := 4) rfl) rfl
theorem hd_X7_byteAt : yX7_byteAt.cls = RX7 ∧ yX7_byteAt.cls ≠ "java/lang/invoke/MethodHandle" ∧ yX7_byteAt.cls ≠ "java/lang/invoke/VarHandle" ∧ (parseMethodDescriptor yX7_byteAt.desc).map (fun d => d.parameters.length) = some 1 := by decide +kernel
theorem cv_RX7_88 : cv_ RX7 88 yX7_byteAt RX7 cX7_byteAt 2 (some .int) 1 := ⟨uw_4 (List.mem_of_getElem? (i := 99) rfl) rfl, uw_4 (List.mem_of_getElem? (i := 101) rfl) rfl, uw_0 (List.mem_of_getElem? (i := 24) rfl) rfl, uw_1 (List.mem_of_getElem? (i := 8) rfl) rfl, uw_4 (List.mem_of_getElem? (i := 102) rfl) rfl, hd_X7_byteAt⟩
theorem lk_X7_19 : Cond.fieldLink RX7 19 (TX7 11).1 (TX7 11).2.1 (TX7 11).2.2.1 ∈ uw := uw_4 (List.mem_of_getElem? (i := 5) rfl) rfl
theorem lk_X7_92 : Cond.fieldLink RX7 92 (TX7 9).1 (TX7 9).2.1 (TX7 9).2.2.1 ∈ uw := uw_4 (List.mem_of_getElem? (i := 3) rfl) rfl
theorem kl_X7_95 : Cond.constantLong RX7 95 (97) ∈ uw := uw_4 (List.mem_of_getElem? (i := 103) rfl) rfl
theorem kl_X7_97 : Cond.constantLong RX7 97 (122) ∈ uw := uw_4 (List.mem_of_getElem? (i := 104) rfl) rfl
theorem kl_X7_99 : Cond.constantLong RX7 99 (48) ∈ uw := uw_4 (List.mem_of_getElem? (i := 105) rfl) rfl
theorem kl_X7_101 : Cond.constantLong RX7 101 (57) ∈ uw := uw_4 (List.mem_of_getElem? (i := 106) rfl) rfl
theorem hd_X7_fails : yX7_fails.cls = RX7 ∧ yX7_fails.cls ≠ "java/lang/invoke/MethodHandle" ∧ yX7_fails.cls ≠ "java/lang/invoke/VarHandle" ∧ (parseMethodDescriptor yX7_fails.desc).map (fun d => d.parameters.length) = some 1 := by decide +kernel
theorem cv_RX7_103 : cv_ RX7 103 yX7_fails RX7 cX7_fails 2 none 1 := ⟨uw_4 (List.mem_of_getElem? (i := 107) rfl) rfl, uw_4 (List.mem_of_getElem? (i := 109) rfl) rfl, uw_0 (List.mem_of_getElem? (i := 25) rfl) rfl, uw_1 (List.mem_of_getElem? (i := 8) rfl) rfl, uw_4 (List.mem_of_getElem? (i := 110) rfl) rfl, hd_X7_fails⟩
theorem hd_X7_readsOn : yX7_readsOn.cls = RX7 ∧ yX7_readsOn.cls ≠ "java/lang/invoke/MethodHandle" ∧ yX7_readsOn.cls ≠ "java/lang/invoke/VarHandle" ∧ (parseMethodDescriptor yX7_readsOn.desc).map (fun d => d.parameters.length) = some 0 := by decide +kernel
theorem cv_RX7_107 : cv_ RX7 107 yX7_readsOn RX7 cX7_readsOn 2 none 0 := ⟨uw_4 (List.mem_of_getElem? (i := 95) rfl) rfl, uw_4 (List.mem_of_getElem? (i := 97) rfl) rfl, uw_0 (List.mem_of_getElem? (i := 23) rfl) rfl, uw_1 (List.mem_of_getElem? (i := 8) rfl) rfl, uw_4 (List.mem_of_getElem? (i := 98) rfl) rfl, hd_X7_readsOn⟩
theorem lk_X7_7 : Cond.fieldLink RX7 7 (TX7 0).1 (TX7 0).2.1 (TX7 0).2.2.1 ∈ uw := uw_3 (List.mem_of_getElem? (i := 234) rfl) rfl
theorem hd_X7_numberRead : yX7_numberRead.cls = RX7 ∧ yX7_numberRead.cls ≠ "java/lang/invoke/MethodHandle" ∧ yX7_numberRead.cls ≠ "java/lang/invoke/VarHandle" ∧ (parseMethodDescriptor yX7_numberRead.desc).map (fun d => d.parameters.length) = some 2 := by decide +kernel
theorem cv_RX7_113 : cv_ RX7 113 yX7_numberRead RX7 cX7_numberRead 4 (some .int) 2 := ⟨uw_4 (List.mem_of_getElem? (i := 127) rfl) rfl, uw_4 (List.mem_of_getElem? (i := 129) rfl) rfl, uw_0 (List.mem_of_getElem? (i := 30) rfl) rfl, uw_1 (List.mem_of_getElem? (i := 8) rfl) rfl, uw_4 (List.mem_of_getElem? (i := 130) rfl) rfl, hd_X7_numberRead⟩
theorem hd_X7_turning : yX7_turning.cls = RX7 ∧ yX7_turning.cls ≠ "java/lang/invoke/MethodHandle" ∧ yX7_turning.cls ≠ "java/lang/invoke/VarHandle" ∧ (parseMethodDescriptor yX7_turning.desc).map (fun d => d.parameters.length) = some 1 := by decide +kernel
theorem cv_RX7_110 : cv_ RX7 110 yX7_turning RX7 cX7_turning 4 (some .int) 1 := ⟨uw_4 (List.mem_of_getElem? (i := 123) rfl) rfl, uw_4 (List.mem_of_getElem? (i := 125) rfl) rfl, uw_0 (List.mem_of_getElem? (i := 29) rfl) rfl, uw_1 (List.mem_of_getElem? (i := 8) rfl) rfl, uw_4 (List.mem_of_getElem? (i := 126) rfl) rfl, hd_X7_turning⟩
theorem hs_X7_isLength : yX7_isLength.cls ≠ "java/lang/invoke/MethodHandle" ∧ yX7_isLength.cls ≠ "java/lang/invoke/VarHandle" ∧ (parseMethodDescriptor yX7_isLength.desc).map (fun d => d.parameters.length) = some 1 := by decide +kernel
theorem cs_X7_117 : cs_ RX7 117 yX7_isLength cX7_isLength 1 (some .boolean) 1 := ⟨uw_4 (List.mem_of_getElem? (i := 135) rfl) rfl, uw_4 (List.mem_of_getElem? (i := 136) rfl) rfl, uw_1 (List.mem_of_getElem? (i := 8) rfl) rfl, uw_4 (List.mem_of_getElem? (i := 137) rfl) rfl, hs_X7_isLength⟩
theorem hd_X7_nameHere : yX7_nameHere.cls = RX7 ∧ yX7_nameHere.cls ≠ "java/lang/invoke/MethodHandle" ∧ yX7_nameHere.cls ≠ "java/lang/invoke/VarHandle" ∧ (parseMethodDescriptor yX7_nameHere.desc).map (fun d => d.parameters.length) = some 0 := by decide +kernel
theorem cv_RX7_121 : cv_ RX7 121 yX7_nameHere RX7 cX7_nameHere 4 (some .int) 0 := ⟨uw_4 (List.mem_of_getElem? (i := 115) rfl) rfl, uw_4 (List.mem_of_getElem? (i := 117) rfl) rfl, uw_0 (List.mem_of_getElem? (i := 27) rfl) rfl, uw_1 (List.mem_of_getElem? (i := 8) rfl) rfl, uw_4 (List.mem_of_getElem? (i := 118) rfl) rfl, hd_X7_nameHere⟩
theorem hd_X7_readJoint : yX7_readJoint.cls = RX7 ∧ yX7_readJoint.cls ≠ "java/lang/invoke/MethodHandle" ∧ yX7_readJoint.cls ≠ "java/lang/invoke/VarHandle" ∧ (parseMethodDescriptor yX7_readJoint.desc).map (fun d => d.parameters.length) = some 1 := by decide +kernel
theorem cv_RX7_125 : cv_ RX7 125 yX7_readJoint RX7 cX7_readJoint 5 none 1 := ⟨uw_4 (List.mem_of_getElem? (i := 119) rfl) rfl, uw_4 (List.mem_of_getElem? (i := 121) rfl) rfl, uw_0 (List.mem_of_getElem? (i := 28) rfl) rfl, uw_1 (List.mem_of_getElem? (i := 8) rfl) rfl, uw_4 (List.mem_of_getElem? (i := 122) rfl) rfl, hd_X7_readJoint⟩
theorem hd_X7_readLoad : yX7_readLoad.cls = RX7 ∧ yX7_readLoad.cls ≠ "java/lang/invoke/MethodHandle" ∧ yX7_readLoad.cls ≠ "java/lang/invoke/VarHandle" ∧ (parseMethodDescriptor yX7_readLoad.desc).map (fun d => d.parameters.length) = some 1 := by decide +kernel
theorem cv_RX7_131 : cv_ RX7 131 yX7_readLoad RX7 cX7_readLoad 3 none 1 := ⟨uw_4 (List.mem_of_getElem? (i := 138) rfl) rfl, uw_4 (List.mem_of_getElem? (i := 140) rfl) rfl, uw_0 (List.mem_of_getElem? (i := 32) rfl) rfl, uw_1 (List.mem_of_getElem? (i := 8) rfl) rfl, uw_4 (List.mem_of_getElem? (i := 141) rfl) rfl, hd_X7_readLoad⟩
theorem hd_X7_readBeam : yX7_readBeam.cls = RX7 ∧ yX7_readBeam.cls ≠ "java/lang/invoke/MethodHandle" ∧ yX7_readBeam.cls ≠ "java/lang/invoke/VarHandle" ∧ (parseMethodDescriptor yX7_readBeam.desc).map (fun d => d.parameters.length) = some 0 := by decide +kernel
theorem cv_RX7_128 : cv_ RX7 128 yX7_readBeam RX7 cX7_readBeam 3 none 0 := ⟨uw_4 (List.mem_of_getElem? (i := 131) rfl) rfl, uw_4 (List.mem_of_getElem? (i := 133) rfl) rfl, uw_0 (List.mem_of_getElem? (i := 31) rfl) rfl, uw_1 (List.mem_of_getElem? (i := 8) rfl) rfl, uw_4 (List.mem_of_getElem? (i := 134) rfl) rfl, hd_X7_readBeam⟩
theorem hd_X7_loads : yX7_loads.cls = RX7 ∧ yX7_loads.cls ≠ "java/lang/invoke/MethodHandle" ∧ yX7_loads.cls ≠ "java/lang/invoke/VarHandle" ∧ (parseMethodDescriptor yX7_loads.desc).map (fun d => d.parameters.length) = some 0 := by decide +kernel
theorem cv_RX7_152 : cv_ RX7 152 yX7_loads RX7 cX7_loads 1 (some .int) 0 := ⟨uw_4 (List.mem_of_getElem? (i := 162) rfl) rfl, uw_4 (List.mem_of_getElem? (i := 164) rfl) rfl, uw_0 (List.mem_of_getElem? (i := 38) rfl) rfl, uw_1 (List.mem_of_getElem? (i := 8) rfl) rfl, uw_4 (List.mem_of_getElem? (i := 165) rfl) rfl, hd_X7_loads⟩
theorem hd_X7_pressed : yX7_pressed.cls = RX7 ∧ yX7_pressed.cls ≠ "java/lang/invoke/MethodHandle" ∧ yX7_pressed.cls ≠ "java/lang/invoke/VarHandle" ∧ (parseMethodDescriptor yX7_pressed.desc).map (fun d => d.parameters.length) = some 2 := by decide +kernel
theorem cv_RX7_155 : cv_ RX7 155 yX7_pressed RX7 cX7_pressed 7 (some .int) 2 := ⟨uw_4 (List.mem_of_getElem? (i := 166) rfl) rfl, uw_4 (List.mem_of_getElem? (i := 168) rfl) rfl, uw_0 (List.mem_of_getElem? (i := 39) rfl) rfl, uw_1 (List.mem_of_getElem? (i := 8) rfl) rfl, uw_4 (List.mem_of_getElem? (i := 169) rfl) rfl, hd_X7_pressed⟩
theorem lk_X7_159 : Cond.fieldLink RX7 159 (TX7 14).1 (TX7 14).2.1 (TX7 14).2.2.1 ∈ uw := uw_4 (List.mem_of_getElem? (i := 8) rfl) rfl
theorem lk_X7_22 : Cond.fieldLink RX7 22 (TX7 12).1 (TX7 12).2.1 (TX7 12).2.2.1 ∈ uw := uw_4 (List.mem_of_getElem? (i := 6) rfl) rfl
theorem hd_X7_beams : yX7_beams.cls = RX7 ∧ yX7_beams.cls ≠ "java/lang/invoke/MethodHandle" ∧ yX7_beams.cls ≠ "java/lang/invoke/VarHandle" ∧ (parseMethodDescriptor yX7_beams.desc).map (fun d => d.parameters.length) = some 0 := by decide +kernel
theorem cv_RX7_162 : cv_ RX7 162 yX7_beams RX7 cX7_beams 1 (some .int) 0 := ⟨uw_4 (List.mem_of_getElem? (i := 154) rfl) rfl, uw_4 (List.mem_of_getElem? (i := 156) rfl) rfl, uw_0 (List.mem_of_getElem? (i := 36) rfl) rfl, uw_1 (List.mem_of_getElem? (i := 8) rfl) rfl, uw_4 (List.mem_of_getElem? (i := 157) rfl) rfl, hd_X7_beams⟩
theorem hd_X7_firstOf : yX7_firstOf.cls = RX7 ∧ yX7_firstOf.cls ≠ "java/lang/invoke/MethodHandle" ∧ yX7_firstOf.cls ≠ "java/lang/invoke/VarHandle" ∧ (parseMethodDescriptor yX7_firstOf.desc).map (fun d => d.parameters.length) = some 1 := by decide +kernel
theorem cv_RX7_165 : cv_ RX7 165 yX7_firstOf RX7 cX7_firstOf 4 (some .int) 1 := ⟨uw_4 (List.mem_of_getElem? (i := 158) rfl) rfl, uw_4 (List.mem_of_getElem? (i := 160) rfl) rfl, uw_0 (List.mem_of_getElem? (i := 37) rfl) rfl, uw_1 (List.mem_of_getElem? (i := 8) rfl) rfl, uw_4 (List.mem_of_getElem? (i := 161) rfl) rfl, hd_X7_firstOf⟩
theorem lk_X7_28 : Cond.fieldLink RX7 28 (TX7 15).1 (TX7 15).2.1 (TX7 15).2.2.1 ∈ uw := uw_4 (List.mem_of_getElem? (i := 9) rfl) rfl
theorem lk_X7_25 : Cond.fieldLink RX7 25 (TX7 13).1 (TX7 13).2.1 (TX7 13).2.2.1 ∈ uw := uw_4 (List.mem_of_getElem? (i := 7) rfl) rfl
theorem hd_X7_readLine : yX7_readLine.cls = RX7 ∧ yX7_readLine.cls ≠ "java/lang/invoke/MethodHandle" ∧ yX7_readLine.cls ≠ "java/lang/invoke/VarHandle" ∧ (parseMethodDescriptor yX7_readLine.desc).map (fun d => d.parameters.length) = some 0 := by decide +kernel
theorem cv_RX7_135 : cv_ RX7 135 yX7_readLine RX7 cX7_readLine 2 none 0 := ⟨uw_4 (List.mem_of_getElem? (i := 111) rfl) rfl, uw_4 (List.mem_of_getElem? (i := 113) rfl) rfl, uw_0 (List.mem_of_getElem? (i := 26) rfl) rfl, uw_1 (List.mem_of_getElem? (i := 8) rfl) rfl, uw_4 (List.mem_of_getElem? (i := 114) rfl) rfl, hd_X7_readLine⟩
theorem lk_X7_142 : Cond.fieldLink RX7 142 (TX7 3).1 (TX7 3).2.1 (TX7 3).2.2.1 ∈ uw := uw_3 (List.mem_of_getElem? (i := 237) rfl) rfl
theorem hd_X7_copies : yX7_copies.cls = RX7 ∧ yX7_copies.cls ≠ "java/lang/invoke/MethodHandle" ∧ yX7_copies.cls ≠ "java/lang/invoke/VarHandle" ∧ (parseMethodDescriptor yX7_copies.desc).map (fun d => d.parameters.length) = some 2 := by decide +kernel
theorem cv_RX7_145 : cv_ RX7 145 yX7_copies RX7 cX7_copies 4 none 2 := ⟨uw_4 (List.mem_of_getElem? (i := 146) rfl) rfl, uw_4 (List.mem_of_getElem? (i := 148) rfl) rfl, uw_0 (List.mem_of_getElem? (i := 34) rfl) rfl, uw_1 (List.mem_of_getElem? (i := 8) rfl) rfl, uw_4 (List.mem_of_getElem? (i := 149) rfl) rfl, hd_X7_copies⟩
theorem hd_X7_begins : yX7_begins.cls = RX7 ∧ yX7_begins.cls ≠ "java/lang/invoke/MethodHandle" ∧ yX7_begins.cls ≠ "java/lang/invoke/VarHandle" ∧ (parseMethodDescriptor yX7_begins.desc).map (fun d => d.parameters.length) = some 0 := by decide +kernel
theorem cv_RX7_149 : cv_ RX7 149 yX7_begins RX7 cX7_begins 3 (some .int) 0 := ⟨uw_4 (List.mem_of_getElem? (i := 150) rfl) rfl, uw_4 (List.mem_of_getElem? (i := 152) rfl) rfl, uw_0 (List.mem_of_getElem? (i := 35) rfl) rfl, uw_1 (List.mem_of_getElem? (i := 8) rfl) rfl, uw_4 (List.mem_of_getElem? (i := 153) rfl) rfl, hd_X7_begins⟩
theorem lk_X7_51 : Cond.fieldLink RX7 51 (TX7 23).1 (TX7 23).2.1 (TX7 23).2.2.1 ∈ uw := uw_4 (List.mem_of_getElem? (i := 17) rfl) rfl
theorem hd_X7_isWhole : yX7_isWhole.cls = RX7 ∧ yX7_isWhole.cls ≠ "java/lang/invoke/MethodHandle" ∧ yX7_isWhole.cls ≠ "java/lang/invoke/VarHandle" ∧ (parseMethodDescriptor yX7_isWhole.desc).map (fun d => d.parameters.length) = some 0 := by decide +kernel
theorem cv_RX7_138 : cv_ RX7 138 yX7_isWhole RX7 cX7_isWhole 4 (some .boolean) 0 := ⟨uw_4 (List.mem_of_getElem? (i := 142) rfl) rfl, uw_4 (List.mem_of_getElem? (i := 144) rfl) rfl, uw_0 (List.mem_of_getElem? (i := 33) rfl) rfl, uw_1 (List.mem_of_getElem? (i := 8) rfl) rfl, uw_4 (List.mem_of_getElem? (i := 145) rfl) rfl, hd_X7_isWhole⟩
theorem hd_X7_jointOf : yX7_jointOf.cls = RX7 ∧ yX7_jointOf.cls ≠ "java/lang/invoke/MethodHandle" ∧ yX7_jointOf.cls ≠ "java/lang/invoke/VarHandle" ∧ (parseMethodDescriptor yX7_jointOf.desc).map (fun d => d.parameters.length) = some 1 := by decide +kernel
theorem cv_RX7_168 : cv_ RX7 168 yX7_jointOf RX7 cX7_jointOf 2 (some .int) 1 := ⟨uw_4 (List.mem_of_getElem? (i := 198) rfl) rfl, uw_4 (List.mem_of_getElem? (i := 200) rfl) rfl, uw_0 (List.mem_of_getElem? (i := 45) rfl) rfl, uw_1 (List.mem_of_getElem? (i := 8) rfl) rfl, uw_4 (List.mem_of_getElem? (i := 201) rfl) rfl, hd_X7_jointOf⟩
theorem hd_X7_stiffOf : yX7_stiffOf.cls = RX7 ∧ yX7_stiffOf.cls ≠ "java/lang/invoke/MethodHandle" ∧ yX7_stiffOf.cls ≠ "java/lang/invoke/VarHandle" ∧ (parseMethodDescriptor yX7_stiffOf.desc).map (fun d => d.parameters.length) = some 1 := by decide +kernel
theorem cv_RX7_171 : cv_ RX7 171 yX7_stiffOf RX7 cX7_stiffOf 2 (some .int) 1 := ⟨uw_4 (List.mem_of_getElem? (i := 225) rfl) rfl, uw_4 (List.mem_of_getElem? (i := 227) rfl) rfl, uw_0 (List.mem_of_getElem? (i := 50) rfl) rfl, uw_1 (List.mem_of_getElem? (i := 8) rfl) rfl, uw_4 (List.mem_of_getElem? (i := 228) rfl) rfl, hd_X7_stiffOf⟩
theorem hd_X7_endsAt : yX7_endsAt.cls = RX7 ∧ yX7_endsAt.cls ≠ "java/lang/invoke/MethodHandle" ∧ yX7_endsAt.cls ≠ "java/lang/invoke/VarHandle" ∧ (parseMethodDescriptor yX7_endsAt.desc).map (fun d => d.parameters.length) = some 1 := by decide +kernel
theorem cv_RX7_174 : cv_ RX7 174 yX7_endsAt RX7 cX7_endsAt 4 (some .int) 1 := ⟨uw_4 (List.mem_of_getElem? (i := 194) rfl) rfl, uw_4 (List.mem_of_getElem? (i := 196) rfl) rfl, uw_0 (List.mem_of_getElem? (i := 44) rfl) rfl, uw_1 (List.mem_of_getElem? (i := 8) rfl) rfl, uw_4 (List.mem_of_getElem? (i := 197) rfl) rfl, hd_X7_endsAt⟩
theorem hd_X7_isTurning : yX7_isTurning.cls = RX7 ∧ yX7_isTurning.cls ≠ "java/lang/invoke/MethodHandle" ∧ yX7_isTurning.cls ≠ "java/lang/invoke/VarHandle" ∧ (parseMethodDescriptor yX7_isTurning.desc).map (fun d => d.parameters.length) = some 1 := by decide +kernel
theorem cv_RX7_177 : cv_ RX7 177 yX7_isTurning RX7 cX7_isTurning 2 (some .boolean) 1 := ⟨uw_4 (List.mem_of_getElem? (i := 190) rfl) rfl, uw_4 (List.mem_of_getElem? (i := 192) rfl) rfl, uw_0 (List.mem_of_getElem? (i := 43) rfl) rfl, uw_1 (List.mem_of_getElem? (i := 8) rfl) rfl, uw_4 (List.mem_of_getElem? (i := 193) rfl) rfl, hd_X7_isTurning⟩
theorem hd_X7_outOf : yX7_outOf.cls = RX7 ∧ yX7_outOf.cls ≠ "java/lang/invoke/MethodHandle" ∧ yX7_outOf.cls ≠ "java/lang/invoke/VarHandle" ∧ (parseMethodDescriptor yX7_outOf.desc).map (fun d => d.parameters.length) = some 1 := by decide +kernel
theorem cv_RX7_180 : cv_ RX7 180 yX7_outOf RX7 cX7_outOf 4 (some .int) 1 := ⟨uw_4 (List.mem_of_getElem? (i := 202) rfl) rfl, uw_4 (List.mem_of_getElem? (i := 204) rfl) rfl, uw_0 (List.mem_of_getElem? (i := 46) rfl) rfl, uw_1 (List.mem_of_getElem? (i := 8) rfl) rfl, uw_4 (List.mem_of_getElem? (i := 205) rfl) rfl, hd_X7_outOf⟩
theorem hd_X7_joints : yX7_joints.cls = RX7 ∧ yX7_joints.cls ≠ "java/lang/invoke/MethodHandle" ∧ yX7_joints.cls ≠ "java/lang/invoke/VarHandle" ∧ (parseMethodDescriptor yX7_joints.desc).map (fun d => d.parameters.length) = some 0 := by decide +kernel
theorem cv_RX7_183 : cv_ RX7 183 yX7_joints RX7 cX7_joints 1 (some .int) 0 := ⟨uw_4 (List.mem_of_getElem? (i := 178) rfl) rfl, uw_4 (List.mem_of_getElem? (i := 180) rfl) rfl, uw_0 (List.mem_of_getElem? (i := 40) rfl) rfl, uw_1 (List.mem_of_getElem? (i := 8) rfl) rfl, uw_4 (List.mem_of_getElem? (i := 181) rfl) rfl, hd_X7_joints⟩
theorem hd_X7_isLoose : yX7_isLoose.cls = RX7 ∧ yX7_isLoose.cls ≠ "java/lang/invoke/MethodHandle" ∧ yX7_isLoose.cls ≠ "java/lang/invoke/VarHandle" ∧ (parseMethodDescriptor yX7_isLoose.desc).map (fun d => d.parameters.length) = some 1 := by decide +kernel
theorem cv_RX7_186 : cv_ RX7 186 yX7_isLoose RX7 cX7_isLoose 2 (some .boolean) 1 := ⟨uw_4 (List.mem_of_getElem? (i := 186) rfl) rfl, uw_4 (List.mem_of_getElem? (i := 188) rfl) rfl, uw_0 (List.mem_of_getElem? (i := 42) rfl) rfl, uw_1 (List.mem_of_getElem? (i := 8) rfl) rfl, uw_4 (List.mem_of_getElem? (i := 189) rfl) rfl, hd_X7_isLoose⟩
theorem hs_X7_size : yX7_size.cls ≠ "java/lang/invoke/MethodHandle" ∧ yX7_size.cls ≠ "java/lang/invoke/VarHandle" ∧ (parseMethodDescriptor yX7_size.desc).map (fun d => d.parameters.length) = some 1 := by decide +kernel
theorem cs_X7_189 : cs_ RX7 189 yX7_size cX7_size 1 (some .int) 1 := ⟨uw_4 (List.mem_of_getElem? (i := 210) rfl) rfl, uw_4 (List.mem_of_getElem? (i := 211) rfl) rfl, uw_1 (List.mem_of_getElem? (i := 8) rfl) rfl, uw_4 (List.mem_of_getElem? (i := 212) rfl) rfl, hs_X7_size⟩
theorem hd_X7_looseMany : yX7_looseMany.cls = RX7 ∧ yX7_looseMany.cls ≠ "java/lang/invoke/MethodHandle" ∧ yX7_looseMany.cls ≠ "java/lang/invoke/VarHandle" ∧ (parseMethodDescriptor yX7_looseMany.desc).map (fun d => d.parameters.length) = some 0 := by decide +kernel
theorem cv_RX7_192 : cv_ RX7 192 yX7_looseMany RX7 cX7_looseMany 3 (some .int) 0 := ⟨uw_4 (List.mem_of_getElem? (i := 182) rfl) rfl, uw_4 (List.mem_of_getElem? (i := 184) rfl) rfl, uw_0 (List.mem_of_getElem? (i := 41) rfl) rfl, uw_1 (List.mem_of_getElem? (i := 8) rfl) rfl, uw_4 (List.mem_of_getElem? (i := 185) rfl) rfl, hd_X7_looseMany⟩
theorem hd_X7_outAll : yX7_outAll.cls = RX7 ∧ yX7_outAll.cls ≠ "java/lang/invoke/MethodHandle" ∧ yX7_outAll.cls ≠ "java/lang/invoke/VarHandle" ∧ (parseMethodDescriptor yX7_outAll.desc).map (fun d => d.parameters.length) = some 0 := by decide +kernel
theorem cv_RX7_195 : cv_ RX7 195 yX7_outAll RX7 cX7_outAll 3 (some .int) 0 := ⟨uw_4 (List.mem_of_getElem? (i := 206) rfl) rfl, uw_4 (List.mem_of_getElem? (i := 208) rfl) rfl, uw_0 (List.mem_of_getElem? (i := 47) rfl) rfl, uw_1 (List.mem_of_getElem? (i := 8) rfl) rfl, uw_4 (List.mem_of_getElem? (i := 209) rfl) rfl, hd_X7_outAll⟩
theorem hd_X7_isJoint : yX7_isJoint.cls = RX7 ∧ yX7_isJoint.cls ≠ "java/lang/invoke/MethodHandle" ∧ yX7_isJoint.cls ≠ "java/lang/invoke/VarHandle" ∧ (parseMethodDescriptor yX7_isJoint.desc).map (fun d => d.parameters.length) = some 1 := by decide +kernel
theorem cv_RX7_198 : cv_ RX7 198 yX7_isJoint RX7 cX7_isJoint 2 (some .boolean) 1 := ⟨uw_4 (List.mem_of_getElem? (i := 217) rfl) rfl, uw_4 (List.mem_of_getElem? (i := 219) rfl) rfl, uw_0 (List.mem_of_getElem? (i := 48) rfl) rfl, uw_1 (List.mem_of_getElem? (i := 8) rfl) rfl, uw_4 (List.mem_of_getElem? (i := 220) rfl) rfl, hd_X7_isJoint⟩
theorem hd_X7_stiffAt : yX7_stiffAt.cls = RX7 ∧ yX7_stiffAt.cls ≠ "java/lang/invoke/MethodHandle" ∧ yX7_stiffAt.cls ≠ "java/lang/invoke/VarHandle" ∧ (parseMethodDescriptor yX7_stiffAt.desc).map (fun d => d.parameters.length) = some 1 := by decide +kernel
theorem cv_RX7_201 : cv_ RX7 201 yX7_stiffAt RX7 cX7_stiffAt 4 (some .int) 1 := ⟨uw_4 (List.mem_of_getElem? (i := 221) rfl) rfl, uw_4 (List.mem_of_getElem? (i := 223) rfl) rfl, uw_0 (List.mem_of_getElem? (i := 49) rfl) rfl, uw_1 (List.mem_of_getElem? (i := 8) rfl) rfl, uw_4 (List.mem_of_getElem? (i := 224) rfl) rfl, hd_X7_stiffAt⟩
theorem kc_X7_204 : Cond.constant RX7 204 (2000000000) ∈ uw := uw_4 (List.mem_of_getElem? (i := 233) rfl) rfl
theorem hd_X7_isBeam : yX7_isBeam.cls = RX7 ∧ yX7_isBeam.cls ≠ "java/lang/invoke/MethodHandle" ∧ yX7_isBeam.cls ≠ "java/lang/invoke/VarHandle" ∧ (parseMethodDescriptor yX7_isBeam.desc).map (fun d => d.parameters.length) = some 1 := by decide +kernel
theorem cv_RX7_205 : cv_ RX7 205 yX7_isBeam RX7 cX7_isBeam 2 (some .boolean) 1 := ⟨uw_5 (List.mem_of_getElem? (i := 2) rfl) rfl, uw_5 (List.mem_of_getElem? (i := 4) rfl) rfl, uw_0 (List.mem_of_getElem? (i := 51) rfl) rfl, uw_1 (List.mem_of_getElem? (i := 8) rfl) rfl, uw_5 (List.mem_of_getElem? (i := 5) rfl) rfl, hd_X7_isBeam⟩
theorem kl_X7_208 : Cond.constantLong RX7 208 (5) ∈ uw := uw_5 (List.mem_of_getElem? (i := 6) rfl) rfl
theorem hd_X7_loadsOn : yX7_loadsOn.cls = RX7 ∧ yX7_loadsOn.cls ≠ "java/lang/invoke/MethodHandle" ∧ yX7_loadsOn.cls ≠ "java/lang/invoke/VarHandle" ∧ (parseMethodDescriptor yX7_loadsOn.desc).map (fun d => d.parameters.length) = some 1 := by decide +kernel
theorem cv_RX7_210 : cv_ RX7 210 yX7_loadsOn RX7 cX7_loadsOn 4 (some .int) 1 := ⟨uw_5 (List.mem_of_getElem? (i := 7) rfl) rfl, uw_5 (List.mem_of_getElem? (i := 9) rfl) rfl, uw_0 (List.mem_of_getElem? (i := 52) rfl) rfl, uw_1 (List.mem_of_getElem? (i := 8) rfl) rfl, uw_5 (List.mem_of_getElem? (i := 10) rfl) rfl, hd_X7_loadsOn⟩
theorem lk_X7_39 : Cond.fieldLink RX7 39 (TX7 18).1 (TX7 18).2.1 (TX7 18).2.2.1 ∈ uw := uw_4 (List.mem_of_getElem? (i := 12) rfl) rfl
theorem hd_X7_two : yX7_two.cls = RX7 ∧ yX7_two.cls ≠ "java/lang/invoke/MethodHandle" ∧ yX7_two.cls ≠ "java/lang/invoke/VarHandle" ∧ (parseMethodDescriptor yX7_two.desc).map (fun d => d.parameters.length) = some 3 := by decide +kernel
theorem cv_RX7_213 : cv_ RX7 213 yX7_two RX7 cX7_two 4 (some .long) 3 := ⟨uw_5 (List.mem_of_getElem? (i := 49) rfl) rfl, uw_5 (List.mem_of_getElem? (i := 51) rfl) rfl, uw_0 (List.mem_of_getElem? (i := 59) rfl) rfl, uw_1 (List.mem_of_getElem? (i := 8) rfl) rfl, uw_5 (List.mem_of_getElem? (i := 52) rfl) rfl, hd_X7_two⟩
theorem lk_X7_32 : Cond.fieldLink RX7 32 (TX7 16).1 (TX7 16).2.1 (TX7 16).2.2.1 ∈ uw := uw_4 (List.mem_of_getElem? (i := 10) rfl) rfl
theorem lk_X7_45 : Cond.fieldLink RX7 45 (TX7 20).1 (TX7 20).2.1 (TX7 20).2.2.1 ∈ uw := uw_4 (List.mem_of_getElem? (i := 14) rfl) rfl
theorem lk_X7_36 : Cond.fieldLink RX7 36 (TX7 17).1 (TX7 17).2.1 (TX7 17).2.2.1 ∈ uw := uw_4 (List.mem_of_getElem? (i := 11) rfl) rfl
theorem kl_X7_217 : Cond.constantLong RX7 217 (4) ∈ uw := uw_5 (List.mem_of_getElem? (i := 36) rfl) rfl
theorem hs_X7_otherOf : yX7_otherOf.cls ≠ "java/lang/invoke/MethodHandle" ∧ yX7_otherOf.cls ≠ "java/lang/invoke/VarHandle" ∧ (parseMethodDescriptor yX7_otherOf.desc).map (fun d => d.parameters.length) = some 1 := by decide +kernel
theorem cs_X7_219 : cs_ RX7 219 yX7_otherOf cX7_otherOf 1 (some .int) 1 := ⟨uw_5 (List.mem_of_getElem? (i := 37) rfl) rfl, uw_5 (List.mem_of_getElem? (i := 38) rfl) rfl, uw_1 (List.mem_of_getElem? (i := 8) rfl) rfl, uw_5 (List.mem_of_getElem? (i := 39) rfl) rfl, hs_X7_otherOf⟩
theorem kl_X7_222 : Cond.constantLong RX7 222 (2) ∈ uw := uw_5 (List.mem_of_getElem? (i := 40) rfl) rfl
theorem hd_X7_determinant : yX7_determinant.cls = RX7 ∧ yX7_determinant.cls ≠ "java/lang/invoke/MethodHandle" ∧ yX7_determinant.cls ≠ "java/lang/invoke/VarHandle" ∧ (parseMethodDescriptor yX7_determinant.desc).map (fun d => d.parameters.length) = some 0 := by decide +kernel
theorem cv_RX7_224 : cv_ RX7 224 yX7_determinant RX7 cX7_determinant 1 (some .long) 0 := ⟨uw_5 (List.mem_of_getElem? (i := 45) rfl) rfl, uw_5 (List.mem_of_getElem? (i := 47) rfl) rfl, uw_0 (List.mem_of_getElem? (i := 58) rfl) rfl, uw_1 (List.mem_of_getElem? (i := 8) rfl) rfl, uw_5 (List.mem_of_getElem? (i := 48) rfl) rfl, hd_X7_determinant⟩
theorem hd_X7_equations : yX7_equations.cls = RX7 ∧ yX7_equations.cls ≠ "java/lang/invoke/MethodHandle" ∧ yX7_equations.cls ≠ "java/lang/invoke/VarHandle" ∧ (parseMethodDescriptor yX7_equations.desc).map (fun d => d.parameters.length) = some 0 := by decide +kernel
theorem cv_RX7_228 : cv_ RX7 228 yX7_equations RX7 cX7_equations 5 none 0 := ⟨uw_5 (List.mem_of_getElem? (i := 32) rfl) rfl, uw_5 (List.mem_of_getElem? (i := 34) rfl) rfl, uw_0 (List.mem_of_getElem? (i := 56) rfl) rfl, uw_1 (List.mem_of_getElem? (i := 8) rfl) rfl, uw_5 (List.mem_of_getElem? (i := 35) rfl) rfl, hd_X7_equations⟩
theorem hd_X7_solved : yX7_solved.cls = RX7 ∧ yX7_solved.cls ≠ "java/lang/invoke/MethodHandle" ∧ yX7_solved.cls ≠ "java/lang/invoke/VarHandle" ∧ (parseMethodDescriptor yX7_solved.desc).map (fun d => d.parameters.length) = some 1 := by decide +kernel
theorem cv_RX7_231 : cv_ RX7 231 yX7_solved RX7 cX7_solved 3 (some .long) 1 := ⟨uw_5 (List.mem_of_getElem? (i := 41) rfl) rfl, uw_5 (List.mem_of_getElem? (i := 43) rfl) rfl, uw_0 (List.mem_of_getElem? (i := 57) rfl) rfl, uw_1 (List.mem_of_getElem? (i := 8) rfl) rfl, uw_5 (List.mem_of_getElem? (i := 44) rfl) rfl, hd_X7_solved⟩
theorem lk_X7_235 : Cond.fieldLink RX7 235 (TX7 21).1 (TX7 21).2.1 (TX7 21).2.2.1 ∈ uw := uw_4 (List.mem_of_getElem? (i := 15) rfl) rfl
theorem lk_X7_42 : Cond.fieldLink RX7 42 (TX7 19).1 (TX7 19).2.1 (TX7 19).2.2.1 ∈ uw := uw_4 (List.mem_of_getElem? (i := 13) rfl) rfl
theorem hd_X7_solves : yX7_solves.cls = RX7 ∧ yX7_solves.cls ≠ "java/lang/invoke/MethodHandle" ∧ yX7_solves.cls ≠ "java/lang/invoke/VarHandle" ∧ (parseMethodDescriptor yX7_solves.desc).map (fun d => d.parameters.length) = some 0 := by decide +kernel
theorem cv_RX7_239 : cv_ RX7 239 yX7_solves RX7 cX7_solves 2 none 0 := ⟨uw_5 (List.mem_of_getElem? (i := 28) rfl) rfl, uw_5 (List.mem_of_getElem? (i := 30) rfl) rfl, uw_0 (List.mem_of_getElem? (i := 55) rfl) rfl, uw_1 (List.mem_of_getElem? (i := 8) rfl) rfl, uw_5 (List.mem_of_getElem? (i := 31) rfl) rfl, hd_X7_solves⟩
theorem hs_X7_down : yX7_down.cls ≠ "java/lang/invoke/MethodHandle" ∧ yX7_down.cls ≠ "java/lang/invoke/VarHandle" ∧ (parseMethodDescriptor yX7_down.desc).map (fun d => d.parameters.length) = some 2 := by decide +kernel
theorem cs_X7_242 : cs_ RX7 242 yX7_down cX7_down 6 (some .long) 2 := ⟨uw_5 (List.mem_of_getElem? (i := 53) rfl) rfl, uw_5 (List.mem_of_getElem? (i := 54) rfl) rfl, uw_1 (List.mem_of_getElem? (i := 8) rfl) rfl, uw_5 (List.mem_of_getElem? (i := 55) rfl) rfl, hs_X7_down⟩
theorem hd_X7_isEnd : yX7_isEnd.cls = RX7 ∧ yX7_isEnd.cls ≠ "java/lang/invoke/MethodHandle" ∧ yX7_isEnd.cls ≠ "java/lang/invoke/VarHandle" ∧ (parseMethodDescriptor yX7_isEnd.desc).map (fun d => d.parameters.length) = some 1 := by decide +kernel
theorem cv_RX7_246 : cv_ RX7 246 yX7_isEnd RX7 cX7_isEnd 2 (some .boolean) 1 := ⟨uw_5 (List.mem_of_getElem? (i := 19) rfl) rfl, uw_5 (List.mem_of_getElem? (i := 21) rfl) rfl, uw_0 (List.mem_of_getElem? (i := 53) rfl) rfl, uw_1 (List.mem_of_getElem? (i := 8) rfl) rfl, uw_5 (List.mem_of_getElem? (i := 22) rfl) rfl, hd_X7_isEnd⟩
theorem kl_X7_249 : Cond.constantLong RX7 249 (3) ∈ uw := uw_5 (List.mem_of_getElem? (i := 23) rfl) rfl
theorem hd_X7_sureOf : yX7_sureOf.cls = RX7 ∧ yX7_sureOf.cls ≠ "java/lang/invoke/MethodHandle" ∧ yX7_sureOf.cls ≠ "java/lang/invoke/VarHandle" ∧ (parseMethodDescriptor yX7_sureOf.desc).map (fun d => d.parameters.length) = some 1 := by decide +kernel
theorem cv_RX7_251 : cv_ RX7 251 yX7_sureOf RX7 cX7_sureOf 14 (some .int) 1 := ⟨uw_5 (List.mem_of_getElem? (i := 24) rfl) rfl, uw_5 (List.mem_of_getElem? (i := 26) rfl) rfl, uw_0 (List.mem_of_getElem? (i := 54) rfl) rfl, uw_1 (List.mem_of_getElem? (i := 8) rfl) rfl, uw_5 (List.mem_of_getElem? (i := 27) rfl) rfl, hd_X7_sureOf⟩
theorem lk_X7_48 : Cond.fieldLink RX7 48 (TX7 22).1 (TX7 22).2.1 (TX7 22).2.2.1 ∈ uw := uw_4 (List.mem_of_getElem? (i := 16) rfl) rfl
theorem hd_X7_nextStiff : yX7_nextStiff.cls = RX7 ∧ yX7_nextStiff.cls ≠ "java/lang/invoke/MethodHandle" ∧ yX7_nextStiff.cls ≠ "java/lang/invoke/VarHandle" ∧ (parseMethodDescriptor yX7_nextStiff.desc).map (fun d => d.parameters.length) = some 2 := by decide +kernel
theorem cv_RX7_254 : cv_ RX7 254 yX7_nextStiff RX7 cX7_nextStiff 7 (some .int) 2 := ⟨uw_5 (List.mem_of_getElem? (i := 64) rfl) rfl, uw_5 (List.mem_of_getElem? (i := 66) rfl) rfl, uw_0 (List.mem_of_getElem? (i := 61) rfl) rfl, uw_1 (List.mem_of_getElem? (i := 8) rfl) rfl, uw_5 (List.mem_of_getElem? (i := 67) rfl) rfl, hd_X7_nextStiff⟩
theorem hd_X7_sharesOf : yX7_sharesOf.cls = RX7 ∧ yX7_sharesOf.cls ≠ "java/lang/invoke/MethodHandle" ∧ yX7_sharesOf.cls ≠ "java/lang/invoke/VarHandle" ∧ (parseMethodDescriptor yX7_sharesOf.desc).map (fun d => d.parameters.length) = some 1 := by decide +kernel
theorem cv_RX7_257 : cv_ RX7 257 yX7_sharesOf RX7 cX7_sharesOf 7 none 1 := ⟨uw_5 (List.mem_of_getElem? (i := 60) rfl) rfl, uw_5 (List.mem_of_getElem? (i := 62) rfl) rfl, uw_0 (List.mem_of_getElem? (i := 60) rfl) rfl, uw_1 (List.mem_of_getElem? (i := 8) rfl) rfl, uw_5 (List.mem_of_getElem? (i := 63) rfl) rfl, hd_X7_sharesOf⟩
theorem hd_X7_rank : yX7_rank.cls = RX7 ∧ yX7_rank.cls ≠ "java/lang/invoke/MethodHandle" ∧ yX7_rank.cls ≠ "java/lang/invoke/VarHandle" ∧ (parseMethodDescriptor yX7_rank.desc).map (fun d => d.parameters.length) = some 1 := by decide +kernel
theorem cv_RX7_260 : cv_ RX7 260 yX7_rank RX7 cX7_rank 7 (some .int) 1 := ⟨uw_5 (List.mem_of_getElem? (i := 80) rfl) rfl, uw_5 (List.mem_of_getElem? (i := 69) rfl) rfl, uw_5 (List.mem_of_getElem? (i := 70) rfl) rfl, uw_1 (List.mem_of_getElem? (i := 8) rfl) rfl, uw_5 (List.mem_of_getElem? (i := 71) rfl) rfl, hd_X7_rank⟩
theorem hd_X7_nextOf : yX7_nextOf.cls = RX7 ∧ yX7_nextOf.cls ≠ "java/lang/invoke/MethodHandle" ∧ yX7_nextOf.cls ≠ "java/lang/invoke/VarHandle" ∧ (parseMethodDescriptor yX7_nextOf.desc).map (fun d => d.parameters.length) = some 1 := by decide +kernel
theorem cv_RX7_263 : cv_ RX7 263 yX7_nextOf RX7 cX7_nextOf 4 (some .int) 1 := ⟨uw_5 (List.mem_of_getElem? (i := 76) rfl) rfl, uw_5 (List.mem_of_getElem? (i := 78) rfl) rfl, uw_0 (List.mem_of_getElem? (i := 62) rfl) rfl, uw_1 (List.mem_of_getElem? (i := 8) rfl) rfl, uw_5 (List.mem_of_getElem? (i := 79) rfl) rfl, hd_X7_nextOf⟩
theorem hd_X7_doesStep : yX7_doesStep.cls = RX7 ∧ yX7_doesStep.cls ≠ "java/lang/invoke/MethodHandle" ∧ yX7_doesStep.cls ≠ "java/lang/invoke/VarHandle" ∧ (parseMethodDescriptor yX7_doesStep.desc).map (fun d => d.parameters.length) = some 1 := by decide +kernel
theorem cv_RX7_266 : cv_ RX7 266 yX7_doesStep RX7 cX7_doesStep 3 none 1 := ⟨uw_5 (List.mem_of_getElem? (i := 85) rfl) rfl, uw_5 (List.mem_of_getElem? (i := 87) rfl) rfl, uw_0 (List.mem_of_getElem? (i := 63) rfl) rfl, uw_1 (List.mem_of_getElem? (i := 8) rfl) rfl, uw_5 (List.mem_of_getElem? (i := 88) rfl) rfl, hd_X7_doesStep⟩
theorem kl_X7_269 : Cond.constantLong RX7 269 (200) ∈ uw := uw_5 (List.mem_of_getElem? (i := 93) rfl) rfl
theorem kl_X7_271 : Cond.constantLong RX7 271 (-9999) ∈ uw := uw_5 (List.mem_of_getElem? (i := 106) rfl) rfl
theorem kl_X7_273 : Cond.constantLong RX7 273 (9999) ∈ uw := uw_5 (List.mem_of_getElem? (i := 107) rfl) rfl
theorem hd_X7_isCouple : yX7_isCouple.cls = RX7 ∧ yX7_isCouple.cls ≠ "java/lang/invoke/MethodHandle" ∧ yX7_isCouple.cls ≠ "java/lang/invoke/VarHandle" ∧ (parseMethodDescriptor yX7_isCouple.desc).map (fun d => d.parameters.length) = some 2 := by decide +kernel
theorem cv_RX7_275 : cv_ RX7 275 yX7_isCouple RX7 cX7_isCouple 3 (some .boolean) 2 := ⟨uw_5 (List.mem_of_getElem? (i := 102) rfl) rfl, uw_5 (List.mem_of_getElem? (i := 104) rfl) rfl, uw_0 (List.mem_of_getElem? (i := 64) rfl) rfl, uw_1 (List.mem_of_getElem? (i := 8) rfl) rfl, uw_5 (List.mem_of_getElem? (i := 105) rfl) rfl, hd_X7_isCouple⟩
theorem kl_X7_279 : Cond.constantLong RX7 279 (10) ∈ uw := uw_5 (List.mem_of_getElem? (i := 116) rfl) rfl
theorem hd_X7_puts : yX7_puts.cls = RX7 ∧ yX7_puts.cls ≠ "java/lang/invoke/MethodHandle" ∧ yX7_puts.cls ≠ "java/lang/invoke/VarHandle" ∧ (parseMethodDescriptor yX7_puts.desc).map (fun d => d.parameters.length) = some 3 := by decide +kernel
theorem cv_RX7_285 : cv_ RX7 285 yX7_puts RX7 cX7_puts 5 none 3 := ⟨uw_5 (List.mem_of_getElem? (i := 123) rfl) rfl, uw_5 (List.mem_of_getElem? (i := 125) rfl) rfl, uw_0 (List.mem_of_getElem? (i := 65) rfl) rfl, uw_1 (List.mem_of_getElem? (i := 8) rfl) rfl, uw_5 (List.mem_of_getElem? (i := 126) rfl) rfl, hd_X7_puts⟩
theorem kl_X7_283 : Cond.constantLong RX7 283 (999) ∈ uw := uw_5 (List.mem_of_getElem? (i := 122) rfl) rfl
theorem kl_X7_281 : Cond.constantLong RX7 281 (99) ∈ uw := uw_5 (List.mem_of_getElem? (i := 121) rfl) rfl
theorem kl_X7_289 : Cond.constantLong RX7 289 (8) ∈ uw := uw_5 (List.mem_of_getElem? (i := 135) rfl) rfl
theorem kc_X7_291 : Cond.constant RX7 291 (1103515245) ∈ uw := uw_5 (List.mem_of_getElem? (i := 136) rfl) rfl
theorem lk_X7_55 : Cond.fieldLink RX7 55 (TX7 24).1 (TX7 24).2.1 (TX7 24).2.2.1 ∈ uw := uw_4 (List.mem_of_getElem? (i := 18) rfl) rfl
theorem lk_X7_58 : Cond.fieldLink RX7 58 (TX7 25).1 (TX7 25).2.1 (TX7 25).2.2.1 ∈ uw := uw_4 (List.mem_of_getElem? (i := 19) rfl) rfl
theorem lk_X7_61 : Cond.fieldLink RX7 61 (TX7 26).1 (TX7 26).2.1 (TX7 26).2.2.1 ∈ uw := uw_4 (List.mem_of_getElem? (i := 20) rfl) rfl
theorem kl_X7_292 : Cond.constantLong RX7 292 (20) ∈ uw := uw_5 (List.mem_of_getElem? (i := 157) rfl) rfl
theorem lk_X7_294 : Cond.fieldLink RX7 294 (TX7 27).1 (TX7 27).2.1 (TX7 27).2.2.1 ∈ uw := uw_4 (List.mem_of_getElem? (i := 21) rfl) rfl
theorem hd_X7_bare : yX7_bare.cls = RX7 ∧ yX7_bare.cls ≠ "java/lang/invoke/MethodHandle" ∧ yX7_bare.cls ≠ "java/lang/invoke/VarHandle" ∧ (parseMethodDescriptor yX7_bare.desc).map (fun d => d.parameters.length) = some 0 := by decide +kernel
theorem cv_RX7_297 : cv_ RX7 297 yX7_bare RX7 cX7_bare 3 (some .int) 0 := ⟨uw_5 (List.mem_of_getElem? (i := 166) rfl) rfl, uw_5 (List.mem_of_getElem? (i := 168) rfl) rfl, uw_0 (List.mem_of_getElem? (i := 66) rfl) rfl, uw_1 (List.mem_of_getElem? (i := 8) rfl) rfl, uw_5 (List.mem_of_getElem? (i := 169) rfl) rfl, hd_X7_bare⟩
def FMo_in (a1 a2 a3 : Int64) : Option (Int32) :=
  if (lg_cmp a1 a2) < 0 then
    some ((0 : Int32))
  else
    if 0 < (lg_cmp a1 a3) then
      some ((0 : Int32))
    else
      some ((1 : Int32))
set_option maxHeartbeats 4000000 in
set_option maxRecDepth 100000 in
theorem cMo_in (l : Launch) (D : va_G) (κ : Nat → ClassId) (a1 a2 a3 : Int64) (zr : Int32) (hf : FMo_in a1 a2 a3 = some zr) : mI_ l yX7_in (Cond.code yX7_in cX7_in 6 (some .boolean) :: uw) ({ frames := 0, cells := 0, slots := 0, locals := 0 } : Room) D (tys0 κ) [.long a1, .long a2, .long a3] (List.flatten ([] : List va_W)) nB_ zr (List.flatten ([] : List va_W)) := by
  unfold FMo_in at hf
  refine mI_of (by decide) (Nat.le_of_ble_eq_true rfl) ?_
  intro p e s m below meth c A ls H locs C0 hw hl
  obtain ⟨hx, hb, -, hml, hown, hts, -, -⟩ := id C0
  have hl : lv_has ls 6 [(0, .long a1), (2, .long a2), (4, .long a3)] := hl
  refine lv_lload_n hx hb dX7_in_0 rfl (lv_at hl 0 rfl) ?_
  refine lv_lload_n hx hb dX7_in_1 rfl (lv_at hl 1 rfl) ?_
  refine W.lcmp hx hb dX7_in_2 ?_
  refine lv_if_lt (tgt := 17) hx hb dX7_in_3 (by decide) (fun hc1 => ?_) (fun hc1 => ?_)
  · have hf := if_t hc1 hf
    refine lv_iconst (v := 0) hx hb dX7_in_17 (by decide) ?_
    obtain rfl := e1_ hf
    exact r_zret C0 hw (Or.inl rfl) dX7_in_18
  · have hf := if_f hc1 hf
    refine lv_lload_n hx hb dX7_in_6 rfl (lv_at hl 0 rfl) ?_
    refine lv_lload hx hb dX7_in_7 (lv_at hl 2 rfl) ?_
    refine W.lcmp hx hb dX7_in_9 ?_
    refine lv_if_gt (tgt := 17) hx hb dX7_in_10 (by decide) (fun hc2 => ?_) (fun hc2 => ?_)
    · have hf := if_t hc2 hf
      refine lv_iconst (v := 0) hx hb dX7_in_17 (by decide) ?_
      obtain rfl := e1_ hf
      exact r_zret C0 hw (Or.inl rfl) dX7_in_18
    · have hf := if_f hc2 hf
      refine lv_iconst (v := 1) hx hb dX7_in_13 (by decide) ?_
      refine lv_goto (tgt := 18) hx hb dX7_in_14 (by decide) ?_
      obtain rfl := e1_ hf
      exact r_zret C0 hw (Or.inr rfl) dX7_in_18
def FMo_feed (m_tape : Nat → Int32) (m_taped a1 : Int32) : Option (Int32 × (Nat → Int32) × Int32) :=
  b1_ (FMo_in (a1.toInt64) (0 : Int64) (127 : Int64)) fun r1 =>
  if r1 = 0 then
    some ((-1 : Int32), m_tape, m_taped)
  else
    if m_taped = (320 : Int32) then
      some ((-3 : Int32), m_tape, m_taped)
    else
      gd_ m_taped 320 <|
      lt_ (upd m_tape m_taped.toNatClampNeg a1) fun w7 =>
      lt_ (m_taped + (1 : Int32)) fun v8 =>
      some (v8, w7, v8)
set_option maxHeartbeats 4000000 in
set_option maxRecDepth 100000 in
theorem cMo_feed (l : Launch) (D : va_G) (κ : Nat → ClassId) (qm : Nat → Nat) (m_state m_tape : Nat → Int32) (m_taped m_fault m_broken m_brokenAt m_spot m_here m_token m_value : Int32) (m_ends m_letters m_moments m_stepsAt : Nat → Int32) (m_steps m_latest : Int32) (m_matrix m_sides m_tried m_answers : Nat → Int64) (m_rowOf : Nat → Int32) (m_whole : Int64) (m_shares m_isKept m_lanes m_lengths m_cells : Nat → Int32) (m_torn a1 zr : Int32) (z1 : Nat → Int32) (z2 : Int32) (hf : FMo_feed m_tape m_taped a1 = some (zr, z1, z2)) : mI_ l yX7_feed (Cond.code yX7_feed cX7_feed 2 (some .int) :: uw) ({ frames := 1, cells := 0, slots := 0, locals := 25 } : Room) D (tys0 κ) [.ref (qm 0), .int a1] (List.flatten [pMo κ qm m_state m_tape m_taped m_fault m_broken m_brokenAt m_spot m_here m_token m_value m_ends m_letters m_moments m_stepsAt m_steps m_latest m_matrix m_sides m_tried m_answers m_rowOf m_whole m_shares m_isKept m_lanes m_lengths m_cells m_torn]) nT_ zr (List.flatten [pMo κ qm m_state z1 z2 m_fault m_broken m_brokenAt m_spot m_here m_token m_value m_ends m_letters m_moments m_stepsAt m_steps m_latest m_matrix m_sides m_tried m_answers m_rowOf m_whole m_shares m_isKept m_lanes m_lengths m_cells m_torn]) := by
  unfold FMo_feed at hf
  refine mI_of (by decide) (Nat.le_of_ble_eq_true rfl) ?_
  intro p e s m below meth c A ls H locs C0 hw hl
  obtain ⟨hx, hb, -, hml, hown, hts, -, -⟩ := id C0
  have hl : lv_has ls 2 [(0, .ref (qm 0)), (1, .int a1)] := hl
  refine lv_iload_n hx hb dX7_feed_0 rfl (lv_at hl 1 rfl) ?_
  refine lv_i2l hx hb dX7_feed_1 rfl ?_
  refine lv_lconst (v := 0) hx hb dX7_feed_2 (by decide) ?_
  refine lv_ldc2 (v := 127) hx hb hown (hts _ kl_X7_64) dX7_feed_3 ?_
  obtain ⟨r1, hk2, hf⟩ := b1_s hf
  refine rs_i (As := [.long (a1.toInt64), .long (0 : Int64), .long (127 : Int64)]) (rest := []) (bs' := [pMo κ qm m_state m_tape m_taped m_fault m_broken m_brokenAt m_spot m_here m_token m_value m_ends m_letters m_moments m_stepsAt m_steps m_latest m_matrix m_sides m_tried m_answers m_rowOf m_whole m_shares m_isKept m_lanes m_lengths m_cells m_torn]) C0 hw (cMo_in l D κ (a1.toInt64) (0 : Int64) (127 : Int64) r1 hk2) cs_X7_66 ⟨rfl, rfl, Nat.le_of_ble_eq_true rfl, Nat.le_of_ble_eq_true rfl⟩ ⟨Nat.zero_le _, Nat.zero_le _⟩ [] [0] [0] rfl rfl rfl rfl (by decide) rfl rfl rfl hl.1 (by simp only [List.map, List.sum_cons, List.sum_nil, Value.category]; decide) dX7_feed_6 (fun H locs hw hn3 => ?_)
  refine lv_if_ne (tgt := 14) hx hb dX7_feed_9 (by decide) (fun hc4 => ?_) (fun hc4 => ?_)
  · have hf := if_f hc4 hf
    refine lv_aload_n hx hb dX7_feed_14 rfl (lv_at hl 0 rfl) ?_
    refine r_get C0 hw 0 2 (v := .int m_taped) rfl rfl inX7 (by decide) lk_X7_70 rfl dX7_feed_15 ?_
    refine lv_sipush (v := 320) hx hb dX7_feed_18 (by decide) ?_
    refine lv_icmp_ne (tgt := 27) hx hb dX7_feed_21 (by decide) (fun hc5 => ?_) (fun hc5 => ?_)
    · have hf := if_f hc5 hf
      refine lv_aload_n hx hb dX7_feed_27 rfl (lv_at hl 0 rfl) ?_
      refine r_get C0 hw 0 1 (v := .ref (qm 2)) rfl rfl inX7 (by decide) lk_X7_13 rfl dX7_feed_28 ?_
      refine lv_aload_n hx hb dX7_feed_31 rfl (lv_at hl 0 rfl) ?_
      refine r_get C0 hw 0 2 (v := .int m_taped) rfl rfl inX7 (by decide) lk_X7_70 rfl dX7_feed_32 ?_
      refine lv_iload_n hx hb dX7_feed_35 rfl (lv_at hl 1 rfl) ?_
      obtain ⟨hi6, hf⟩ := gd_s hf
      obtain ⟨w7, ew7⟩ : ∃ z : Nat → Int32, z = (upd m_tape m_taped.toNatClampNeg a1) := ⟨_, rfl⟩
      have hf := lt_s_ hf w7 ew7
      refine r_iast C0 hw 2 0 rfl rfl hi6 dX7_feed_36 (ws' := List.flatten [pMo κ qm m_state w7 m_taped m_fault m_broken m_brokenAt m_spot m_here m_token m_value m_ends m_letters m_moments m_stepsAt m_steps m_latest m_matrix m_sides m_tried m_answers m_rowOf m_whole m_shares m_isKept m_lanes m_lengths m_cells m_torn]) (by subst ew7; rfl) (fun H locs hw => ?_)
      refine lv_aload_n hx hb dX7_feed_37 rfl (lv_at hl 0 rfl) ?_
      refine lv_dup hx hb dX7_feed_38 rfl ?_
      refine r_get C0 hw 0 2 (v := .int m_taped) rfl rfl inX7 (by decide) lk_X7_70 rfl dX7_feed_39 ?_
      refine lv_iconst (v := 1) hx hb dX7_feed_42 (by decide) ?_
      refine lv_iadd hx hb dX7_feed_43 ?_
      refine lv_topi (fun v8 ev8 => ?_)
      have hf := lt_s_ hf v8 ev8
      refine r_put C0 hw 0 2 (v := .int v8) (ws' := List.flatten [pMo κ qm m_state w7 v8 m_fault m_broken m_brokenAt m_spot m_here m_token m_value m_ends m_letters m_moments m_stepsAt m_steps m_latest m_matrix m_sides m_tried m_answers m_rowOf m_whole m_shares m_isKept m_lanes m_lengths m_cells m_torn]) rfl rfl inX7 tyX7_ok nmX7 (by decide) lk_X7_70 rfl rfl rfl rfl (Nat.le_of_ble_eq_true rfl) dX7_feed_44 rfl (fun H locs hw => ?_)
      refine lv_aload_n hx hb dX7_feed_47 rfl (lv_at hl 0 rfl) ?_
      refine r_get C0 hw 0 2 (v := .int v8) rfl rfl inX7 (by decide) lk_X7_70 rfl dX7_feed_48 ?_
      obtain ⟨rfl, rfl, rfl⟩ := e3_ hf
      exact r_iret C0 hw trivial dX7_feed_51
    · have hf := if_t hc5 hf
      refine lv_bipush (v := -3) hx hb dX7_feed_24 (by decide) ?_
      obtain ⟨rfl, rfl, rfl⟩ := e3_ hf
      exact r_iret C0 hw trivial dX7_feed_26
  · have hf := if_t hc4 hf
    refine lv_iconst (v := -1) hx hb dX7_feed_12 (by decide) ?_
    obtain ⟨rfl, rfl, rfl⟩ := e3_ hf
    exact r_iret C0 hw trivial dX7_feed_13
def FMo_end (m_taped a1 : Int32) : Option (Int32 × Int32) :=
  b1_ (FMo_in (a1.toInt64) (0 : Int64) (m_taped.toInt64)) fun r1 =>
  if r1 = 0 then
    some ((-1 : Int32), m_taped)
  else
    some (m_taped, a1)
set_option maxHeartbeats 4000000 in
set_option maxRecDepth 100000 in
theorem cMo_end (l : Launch) (D : va_G) (κ : Nat → ClassId) (qm : Nat → Nat) (m_state m_tape : Nat → Int32) (m_taped m_fault m_broken m_brokenAt m_spot m_here m_token m_value : Int32) (m_ends m_letters m_moments m_stepsAt : Nat → Int32) (m_steps m_latest : Int32) (m_matrix m_sides m_tried m_answers : Nat → Int64) (m_rowOf : Nat → Int32) (m_whole : Int64) (m_shares m_isKept m_lanes m_lengths m_cells : Nat → Int32) (m_torn a1 zr z1 : Int32) (hf : FMo_end m_taped a1 = some (zr, z1)) : mI_ l yX7_end (Cond.code yX7_end cX7_end 3 (some .int) :: uw) ({ frames := 1, cells := 0, slots := 0, locals := 25 } : Room) D (tys0 κ) [.ref (qm 0), .int a1] (List.flatten [pMo κ qm m_state m_tape m_taped m_fault m_broken m_brokenAt m_spot m_here m_token m_value m_ends m_letters m_moments m_stepsAt m_steps m_latest m_matrix m_sides m_tried m_answers m_rowOf m_whole m_shares m_isKept m_lanes m_lengths m_cells m_torn]) nT_ zr (List.flatten [pMo κ qm m_state m_tape z1 m_fault m_broken m_brokenAt m_spot m_here m_token m_value m_ends m_letters m_moments m_stepsAt m_steps m_latest m_matrix m_sides m_tried m_answers m_rowOf m_whole m_shares m_isKept m_lanes m_lengths m_cells m_torn]) := by
  unfold FMo_end at hf
  refine mI_of (by decide) (Nat.le_of_ble_eq_true rfl) ?_
  intro p e s m below meth c A ls H locs C0 hw hl
  obtain ⟨hx, hb, -, hml, hown, hts, -, -⟩ := id C0
  have hl : lv_has ls 3 [(0, .ref (qm 0)), (1, .int a1)] := hl
  refine lv_iload_n hx hb dX7_end_0 rfl (lv_at hl 1 rfl) ?_
  refine lv_i2l hx hb dX7_end_1 rfl ?_
  refine lv_lconst (v := 0) hx hb dX7_end_2 (by decide) ?_
  refine lv_aload_n hx hb dX7_end_3 rfl (lv_at hl 0 rfl) ?_
  refine r_get C0 hw 0 2 (v := .int m_taped) rfl rfl inX7 (by decide) lk_X7_70 rfl dX7_end_4 ?_
  refine lv_i2l hx hb dX7_end_7 rfl ?_
  obtain ⟨r1, hk2, hf⟩ := b1_s hf
  refine rs_i (As := [.long (a1.toInt64), .long (0 : Int64), .long (m_taped.toInt64)]) (rest := []) (bs' := [pMo κ qm m_state m_tape m_taped m_fault m_broken m_brokenAt m_spot m_here m_token m_value m_ends m_letters m_moments m_stepsAt m_steps m_latest m_matrix m_sides m_tried m_answers m_rowOf m_whole m_shares m_isKept m_lanes m_lengths m_cells m_torn]) C0 hw (cMo_in l D κ (a1.toInt64) (0 : Int64) (m_taped.toInt64) r1 hk2) cs_X7_66 ⟨rfl, rfl, Nat.le_of_ble_eq_true rfl, Nat.le_of_ble_eq_true rfl⟩ ⟨Nat.zero_le _, Nat.zero_le _⟩ [] [0] [0] rfl rfl rfl rfl (by decide) rfl rfl rfl hl.1 (by simp only [List.map, List.sum_cons, List.sum_nil, Value.category]; decide) dX7_end_8 (fun H locs hw hn3 => ?_)
  refine lv_if_ne (tgt := 16) hx hb dX7_end_11 (by decide) (fun hc4 => ?_) (fun hc4 => ?_)
  · have hf := if_f hc4 hf
    refine lv_aload_n hx hb dX7_end_16 rfl (lv_at hl 0 rfl) ?_
    refine r_get C0 hw 0 2 (v := .int m_taped) rfl rfl inX7 (by decide) lk_X7_70 rfl dX7_end_17 ?_
    refine lv_istore_n (lv' := [(2, .int m_taped), (0, .ref (qm 0)), (1, .int a1)]) hx hb dX7_end_20 rfl hl (by decide) rfl (fun ls hl => ?_)
    refine lv_aload_n hx hb dX7_end_21 rfl (lv_at hl 1 rfl) ?_
    refine lv_iload_n hx hb dX7_end_22 rfl (lv_at hl 2 rfl) ?_
    refine r_put C0 hw 0 2 (v := .int a1) (ws' := List.flatten [pMo κ qm m_state m_tape a1 m_fault m_broken m_brokenAt m_spot m_here m_token m_value m_ends m_letters m_moments m_stepsAt m_steps m_latest m_matrix m_sides m_tried m_answers m_rowOf m_whole m_shares m_isKept m_lanes m_lengths m_cells m_torn]) rfl rfl inX7 tyX7_ok nmX7 (by decide) lk_X7_70 rfl rfl rfl rfl (Nat.le_of_ble_eq_true rfl) dX7_end_23 rfl (fun H locs hw => ?_)
    refine lv_iload_n hx hb dX7_end_26 rfl (lv_at hl 0 rfl) ?_
    obtain ⟨rfl, rfl⟩ := e2_ hf
    exact r_iret C0 hw trivial dX7_end_27
  · have hf := if_t hc4 hf
    refine lv_iconst (v := -1) hx hb dX7_end_14 (by decide) ?_
    obtain ⟨rfl, rfl⟩ := e2_ hf
    exact r_iret C0 hw trivial dX7_end_15
def FMo_byteAt (m_tape : Nat → Int32) (m_taped a1 : Int32) : Option (Int32) :=
  if m_taped ≤ a1 then
    some ((-4 : Int32))
  else
    gd_ a1 320 <|
    some ((m_tape a1.toNatClampNeg))
set_option maxHeartbeats 4000000 in
set_option maxRecDepth 100000 in
theorem cMo_byteAt (l : Launch) (D : va_G) (κ : Nat → ClassId) (qm : Nat → Nat) (m_state m_tape : Nat → Int32) (m_taped m_fault m_broken m_brokenAt m_spot m_here m_token m_value : Int32) (m_ends m_letters m_moments m_stepsAt : Nat → Int32) (m_steps m_latest : Int32) (m_matrix m_sides m_tried m_answers : Nat → Int64) (m_rowOf : Nat → Int32) (m_whole : Int64) (m_shares m_isKept m_lanes m_lengths m_cells : Nat → Int32) (m_torn a1 zr : Int32) (hf : FMo_byteAt m_tape m_taped a1 = some zr) : mI_ l yX7_byteAt (Cond.code yX7_byteAt cX7_byteAt 2 (some .int) :: uw) ({ frames := 0, cells := 0, slots := 0, locals := 0 } : Room) D (tys0 κ) [.ref (qm 0), .int a1] (List.flatten [pMo κ qm m_state m_tape m_taped m_fault m_broken m_brokenAt m_spot m_here m_token m_value m_ends m_letters m_moments m_stepsAt m_steps m_latest m_matrix m_sides m_tried m_answers m_rowOf m_whole m_shares m_isKept m_lanes m_lengths m_cells m_torn]) nT_ zr (List.flatten [pMo κ qm m_state m_tape m_taped m_fault m_broken m_brokenAt m_spot m_here m_token m_value m_ends m_letters m_moments m_stepsAt m_steps m_latest m_matrix m_sides m_tried m_answers m_rowOf m_whole m_shares m_isKept m_lanes m_lengths m_cells m_torn]) := by
  unfold FMo_byteAt at hf
  refine mI_of (by decide) (Nat.le_of_ble_eq_true rfl) ?_
  intro p e s m below meth c A ls H locs C0 hw hl
  obtain ⟨hx, hb, -, hml, hown, hts, -, -⟩ := id C0
  have hl : lv_has ls 2 [(0, .ref (qm 0)), (1, .int a1)] := hl
  refine lv_iload_n hx hb dX7_byteAt_0 rfl (lv_at hl 1 rfl) ?_
  refine lv_aload_n hx hb dX7_byteAt_1 rfl (lv_at hl 0 rfl) ?_
  refine r_get C0 hw 0 2 (v := .int m_taped) rfl rfl inX7 (by decide) lk_X7_70 rfl dX7_byteAt_2 ?_
  refine lv_icmp_ge (tgt := 17) hx hb dX7_byteAt_5 (by decide) (fun hc1 => ?_) (fun hc1 => ?_)
  · have hf := if_t hc1 hf
    refine lv_bipush (v := -4) hx hb dX7_byteAt_17 (by decide) ?_
    obtain rfl := e1_ hf
    exact r_iret C0 hw trivial dX7_byteAt_19
  · have hf := if_f hc1 hf
    refine lv_aload_n hx hb dX7_byteAt_8 rfl (lv_at hl 0 rfl) ?_
    refine r_get C0 hw 0 1 (v := .ref (qm 2)) rfl rfl inX7 (by decide) lk_X7_13 rfl dX7_byteAt_9 ?_
    refine lv_iload_n hx hb dX7_byteAt_12 rfl (lv_at hl 1 rfl) ?_
    obtain ⟨hi2, hf⟩ := gd_s hf
    refine r_iald C0 hw 2 0 rfl rfl hi2 dX7_byteAt_13 ?_
    refine lv_goto (tgt := 19) hx hb dX7_byteAt_14 (by decide) ?_
    obtain rfl := e1_ hf
    exact r_iret C0 hw trivial dX7_byteAt_19
def FMo_fails (m_broken m_brokenAt m_here a1 : Int32) : Option (Int32 × Int32) :=
  if m_broken = 0 then
    some (a1, m_here)
  else
    some (m_broken, m_brokenAt)
set_option maxHeartbeats 4000000 in
set_option maxRecDepth 100000 in
theorem cMo_fails (l : Launch) (D : va_G) (κ : Nat → ClassId) (qm : Nat → Nat) (m_state m_tape : Nat → Int32) (m_taped m_fault m_broken m_brokenAt m_spot m_here m_token m_value : Int32) (m_ends m_letters m_moments m_stepsAt : Nat → Int32) (m_steps m_latest : Int32) (m_matrix m_sides m_tried m_answers : Nat → Int64) (m_rowOf : Nat → Int32) (m_whole : Int64) (m_shares m_isKept m_lanes m_lengths m_cells : Nat → Int32) (m_torn a1 z1 z2 : Int32) (hf : FMo_fails m_broken m_brokenAt m_here a1 = some (z1, z2)) : mV_ l yX7_fails (Cond.code yX7_fails cX7_fails 2 none :: uw) ({ frames := 0, cells := 0, slots := 0, locals := 0 } : Room) D (tys0 κ) [.ref (qm 0), .int a1] (List.flatten [pMo κ qm m_state m_tape m_taped m_fault m_broken m_brokenAt m_spot m_here m_token m_value m_ends m_letters m_moments m_stepsAt m_steps m_latest m_matrix m_sides m_tried m_answers m_rowOf m_whole m_shares m_isKept m_lanes m_lengths m_cells m_torn])  (List.flatten [pMo κ qm m_state m_tape m_taped m_fault z1 z2 m_spot m_here m_token m_value m_ends m_letters m_moments m_stepsAt m_steps m_latest m_matrix m_sides m_tried m_answers m_rowOf m_whole m_shares m_isKept m_lanes m_lengths m_cells m_torn]) := by
  unfold FMo_fails at hf
  refine mV_of (by decide) (Nat.le_of_ble_eq_true rfl) ?_
  intro p e s m below meth c A ls H locs C0 hw hl
  obtain ⟨hx, hb, -, hml, hown, hts, -, -⟩ := id C0
  have hl : lv_has ls 2 [(0, .ref (qm 0)), (1, .int a1)] := hl
  refine lv_aload_n hx hb dX7_fails_0 rfl (lv_at hl 0 rfl) ?_
  refine r_get C0 hw 0 4 (v := .int m_broken) rfl rfl inX7 (by decide) lk_X7_73 rfl dX7_fails_1 ?_
  refine lv_if_ne (tgt := 20) hx hb dX7_fails_4 (by decide) (fun hc1 => ?_) (fun hc1 => ?_)
  · have hf := if_f hc1 hf
    obtain ⟨rfl, rfl⟩ := e2_ hf
    exact r_vret C0 hw dX7_fails_20
  · have hf := if_t hc1 hf
    refine lv_aload_n hx hb dX7_fails_7 rfl (lv_at hl 0 rfl) ?_
    refine lv_iload_n hx hb dX7_fails_8 rfl (lv_at hl 1 rfl) ?_
    refine r_put C0 hw 0 4 (v := .int a1) (ws' := List.flatten [pMo κ qm m_state m_tape m_taped m_fault a1 m_brokenAt m_spot m_here m_token m_value m_ends m_letters m_moments m_stepsAt m_steps m_latest m_matrix m_sides m_tried m_answers m_rowOf m_whole m_shares m_isKept m_lanes m_lengths m_cells m_torn]) rfl rfl inX7 tyX7_ok nmX7 (by decide) lk_X7_73 rfl rfl rfl rfl (Nat.le_of_ble_eq_true rfl) dX7_fails_9 rfl (fun H locs hw => ?_)
    refine lv_aload_n hx hb dX7_fails_12 rfl (lv_at hl 0 rfl) ?_
    refine lv_aload_n hx hb dX7_fails_13 rfl (lv_at hl 0 rfl) ?_
    refine r_get C0 hw 0 7 (v := .int m_here) rfl rfl inX7 (by decide) lk_X7_76 rfl dX7_fails_14 ?_
    refine r_put C0 hw 0 5 (v := .int m_here) (ws' := List.flatten [pMo κ qm m_state m_tape m_taped m_fault a1 m_here m_spot m_here m_token m_value m_ends m_letters m_moments m_stepsAt m_steps m_latest m_matrix m_sides m_tried m_answers m_rowOf m_whole m_shares m_isKept m_lanes m_lengths m_cells m_torn]) rfl rfl inX7 tyX7_ok nmX7 (by decide) lk_X7_79 rfl rfl rfl rfl (Nat.le_of_ble_eq_true rfl) dX7_fails_17 rfl (fun H locs hw => ?_)
    obtain ⟨rfl, rfl⟩ := e2_ hf
    exact r_vret C0 hw dX7_fails_20
def FMo_nameHere_L50 (m_tape : Nat → Int32) (m_taped m_spot m_here : Int32) (m_ends m_letters : Nat → Int32) (l1 : Int32) (k_ : Int32 → Int32 → Option (Int32)) : Nat → Int32 → Int32 → Option (Int32)
  | 0, _, _ => none
  | n + 1, l2, l3 =>
      if l2 = 0 then
        k_ l2 l3
      else
        if (m_spot - m_here) ≤ l3 then
          k_ l2 l3
        else
          b1_ (FMo_byteAt m_tape m_taped (m_here + l3)) fun r8 =>
          gd_ l1 6 <|
          gd_ ((m_ends l1.toNatClampNeg) + l3) 20 <|
          if r8 = (m_letters ((m_ends l1.toNatClampNeg) + l3).toNatClampNeg) then
            lt_ (l3 + (1 : Int32)) fun v15 =>
            FMo_nameHere_L50 m_tape m_taped m_spot m_here m_ends m_letters l1 k_ n (1 : Int32) v15
          else
            lt_ (l3 + (1 : Int32)) fun v14 =>
            FMo_nameHere_L50 m_tape m_taped m_spot m_here m_ends m_letters l1 k_ n (0 : Int32) v14
def FMo_nameHere_L2 (m_tape : Nat → Int32) (m_taped m_spot m_here m_token : Int32) (m_ends m_letters : Nat → Int32) : Nat → Int32 → Option (Int32)
  | 0, _ => none
  | n + 1, l1 =>
      if (5 : Int32) ≤ l1 then
        some ((-4 : Int32))
      else
        if m_token = (1 : Int32) then
          gd_ (l1 + (1 : Int32)) 6 <|
          gd_ l1 6 <|
          lt_ (fun (v5 : Int32) =>
            FMo_nameHere_L50 m_tape m_taped m_spot m_here m_ends m_letters l1 (fun (v17 : Int32) (v18 : Int32) =>
                if v17 = 0 then
                  lt_ (l1 + (1 : Int32)) fun v20 =>
                  FMo_nameHere_L2 m_tape m_taped m_spot m_here m_token m_ends m_letters n v20
                else
                  some (l1)) 1000 v5 (0 : Int32) : Int32 → Option (Int32)) fun j21 =>
          if (m_spot - m_here) = ((m_ends (l1 + (1 : Int32)).toNatClampNeg) - (m_ends l1.toNatClampNeg)) then
            j21 (1 : Int32)
          else
            j21 (0 : Int32)
        else
          some ((-4 : Int32))
def FMo_nameHere (m_tape : Nat → Int32) (m_taped m_spot m_here m_token : Int32) (m_ends m_letters : Nat → Int32) : Option (Int32) :=
  FMo_nameHere_L2 m_tape m_taped m_spot m_here m_token m_ends m_letters 1000 (0 : Int32)
set_option maxHeartbeats 4000000 in
set_option maxRecDepth 100000 in
theorem wMo_nameHere_L50 {p : Program} {l : Launch} {e : Env} {s : State} {m : MethodId} {args : Array Value} {below : List Frame} {meth : Method} {c : Code} {A : Nat → Prop} {D : va_G} {κ : Nat → ClassId} (C0 : cx_ p s m meth c args cX7_nameHere RX7 (some .int) 4 A) (qm : Nat → Nat) (m_state m_tape : Nat → Int32) (m_taped m_fault m_broken m_brokenAt m_spot m_here m_token m_value : Int32) (m_ends m_letters m_moments m_stepsAt : Nat → Int32) (m_steps m_latest : Int32) (m_matrix m_sides m_tried m_answers : Nat → Int64) (m_rowOf : Nat → Int32) (m_whole : Int64) (m_shares m_isKept m_lanes m_lengths m_cells : Nat → Int32) (m_torn l1 : Int32) (zr : Int32) (k_ : Int32 → Int32 → Option (Int32)) (hk_ : ∀ (l2 : Int32) (l3 : Int32) (H : Heap) (locs : List Loc) (ls : Array Slot), wd_ D (tys0 κ) A s (List.flatten [pMo κ qm m_state m_tape m_taped m_fault m_broken m_brokenAt m_spot m_here m_token m_value m_ends m_letters m_moments m_stepsAt m_steps m_latest m_matrix m_sides m_tried m_answers m_rowOf m_whole m_shares m_isKept m_lanes m_lengths m_cells m_torn]) H locs → lv_has ls 4 [(0, .ref (qm 0)), (1, .int l1), (2, .int l2)] → k_ l2 l3 = some zr → W p l e ({ frames := 1, cells := 0, slots := 0, locals := 21 } : Room) s m args below meth c H locs 0 0 (qI_ D (tys0 κ) A nT_ zr (List.flatten [pMo κ qm m_state m_tape m_taped m_fault m_broken m_brokenAt m_spot m_here m_token m_value m_ends m_letters m_moments m_stepsAt m_steps m_latest m_matrix m_sides m_tried m_answers m_rowOf m_whole m_shares m_isKept m_lanes m_lengths m_cells m_torn]) below args s) (F0 m 105 ls [])) : ∀ (n : Nat) (l2 : Int32) (l3 : Int32) (H : Heap) (locs : List Loc) (ls : Array Slot), wd_ D (tys0 κ) A s (List.flatten [pMo κ qm m_state m_tape m_taped m_fault m_broken m_brokenAt m_spot m_here m_token m_value m_ends m_letters m_moments m_stepsAt m_steps m_latest m_matrix m_sides m_tried m_answers m_rowOf m_whole m_shares m_isKept m_lanes m_lengths m_cells m_torn]) H locs → lv_has ls 4 [(0, .ref (qm 0)), (1, .int l1), (2, .int l2), (3, .int l3)] → FMo_nameHere_L50 m_tape m_taped m_spot m_here m_ends m_letters l1 k_ n l2 l3 = some zr → W p l e ({ frames := 1, cells := 0, slots := 0, locals := 21 } : Room) s m args below meth c H locs 0 0 (qI_ D (tys0 κ) A nT_ zr (List.flatten [pMo κ qm m_state m_tape m_taped m_fault m_broken m_brokenAt m_spot m_here m_token m_value m_ends m_letters m_moments m_stepsAt m_steps m_latest m_matrix m_sides m_tried m_answers m_rowOf m_whole m_shares m_isKept m_lanes m_lengths m_cells m_torn]) below args s) (F0 m 50 ls []) := by
  obtain ⟨hx, hb, -, hml, hown, hts, -, -⟩ := id C0
  intro n
  induction n with
  | zero =>
    intro l2 l3 H locs ls hw hl  hf
    cases hf
  | succ n ih =>
    intro l2 l3 H locs ls hw hl  hf
    rw [FMo_nameHere_L50.eq_2] at hf
    refine lv_iload_n hx hb dX7_nameHere_50 rfl (lv_at hl 2 rfl) ?_
    refine lv_if_eq (tgt := 105) hx hb dX7_nameHere_51 (by decide) (fun hc6 => ?_) (fun hc6 => ?_)
    · have hf := if_t hc6 hf
      exact hk_ l2 l3 H locs ls hw (lv_sub hl [0, 1, 2] rfl)  hf
    · have hf := if_f hc6 hf
      refine lv_iload_n hx hb dX7_nameHere_54 rfl (lv_at hl 3 rfl) ?_
      refine lv_aload_n hx hb dX7_nameHere_55 rfl (lv_at hl 0 rfl) ?_
      refine r_get C0 hw 0 6 (v := .int m_spot) rfl rfl inX7 (by decide) lk_X7_85 rfl dX7_nameHere_56 ?_
      refine lv_aload_n hx hb dX7_nameHere_59 rfl (lv_at hl 0 rfl) ?_
      refine r_get C0 hw 0 7 (v := .int m_here) rfl rfl inX7 (by decide) lk_X7_76 rfl dX7_nameHere_60 ?_
      refine lv_isub hx hb dX7_nameHere_63 ?_
      refine lv_icmp_ge (tgt := 105) hx hb dX7_nameHere_64 (by decide) (fun hc7 => ?_) (fun hc7 => ?_)
      · have hf := if_t hc7 hf
        exact hk_ l2 l3 H locs ls hw (lv_sub hl [0, 1, 2] rfl)  hf
      · have hf := if_f hc7 hf
        refine lv_aload_n hx hb dX7_nameHere_67 rfl (lv_at hl 0 rfl) ?_
        refine lv_aload_n hx hb dX7_nameHere_68 rfl (lv_at hl 0 rfl) ?_
        refine r_get C0 hw 0 7 (v := .int m_here) rfl rfl inX7 (by decide) lk_X7_76 rfl dX7_nameHere_69 ?_
        refine lv_iload_n hx hb dX7_nameHere_72 rfl (lv_at hl 3 rfl) ?_
        refine lv_iadd hx hb dX7_nameHere_73 ?_
        obtain ⟨r8, hk9, hf⟩ := b1_s hf
        refine rv_i (vq := (RX7, TX7, 28)) (As := [.int (m_here + l3)]) (rest := []) (bs' := [pMo κ qm m_state m_tape m_taped m_fault m_broken m_brokenAt m_spot m_here m_token m_value m_ends m_letters m_moments m_stepsAt m_steps m_latest m_matrix m_sides m_tried m_answers m_rowOf m_whole m_shares m_isKept m_lanes m_lengths m_cells m_torn]) C0 hw (cMo_byteAt l D κ qm m_state m_tape m_taped m_fault m_broken m_brokenAt m_spot m_here m_token m_value m_ends m_letters m_moments m_stepsAt m_steps m_latest m_matrix m_sides m_tried m_answers m_rowOf m_whole m_shares m_isKept m_lanes m_lengths m_cells m_torn (m_here + l3) r8 hk9) cv_RX7_88 ⟨rfl, rfl, Nat.le_of_ble_eq_true rfl, Nat.le_of_ble_eq_true rfl⟩ ⟨Nat.zero_le _, Nat.zero_le _⟩ [0] [] [0] rfl rfl rfl rfl (by decide) rfl rfl rfl rfl rfl hl.1 (by simp only [List.map, List.sum_cons, List.sum_nil, Value.category]; decide) dX7_nameHere_74 (fun H locs hw hn10 => ?_)
        refine lv_aload_n hx hb dX7_nameHere_77 rfl (lv_at hl 0 rfl) ?_
        refine r_get C0 hw 0 11 (v := .ref (qm 4)) rfl rfl inX7 (by decide) lk_X7_19 rfl dX7_nameHere_78 ?_
        refine lv_aload_n hx hb dX7_nameHere_81 rfl (lv_at hl 0 rfl) ?_
        refine r_get C0 hw 0 10 (v := .ref (qm 3)) rfl rfl inX7 (by decide) lk_X7_16 rfl dX7_nameHere_82 ?_
        refine lv_iload_n hx hb dX7_nameHere_85 rfl (lv_at hl 1 rfl) ?_
        obtain ⟨hi11, hf⟩ := gd_s hf
        refine r_iald C0 hw 3 0 rfl rfl hi11 dX7_nameHere_86 ?_
        refine lv_iload_n hx hb dX7_nameHere_87 rfl (lv_at hl 3 rfl) ?_
        refine lv_iadd hx hb dX7_nameHere_88 ?_
        obtain ⟨hi12, hf⟩ := gd_s hf
        refine r_iald C0 hw 4 0 rfl rfl hi12 dX7_nameHere_89 ?_
        refine lv_icmp_ne (tgt := 97) hx hb dX7_nameHere_90 (by decide) (fun hc13 => ?_) (fun hc13 => ?_)
        · have hf := if_f hc13 hf
          refine lv_iconst (v := 0) hx hb dX7_nameHere_97 (by decide) ?_
          refine lv_istore_n (lv' := [(2, .int (0 : Int32)), (0, .ref (qm 0)), (1, .int l1), (3, .int l3)]) hx hb dX7_nameHere_98 rfl hl (by decide) rfl (fun ls hl => ?_)
          obtain ⟨v14, ev14⟩ : ∃ z : Int32, z = (l3 + (1 : Int32)) := ⟨_, rfl⟩
          have hf := lt_s_ hf v14 ev14
          refine lv_iinc (v := v14) (lv' := [(3, .int v14), (2, .int (0 : Int32)), (0, .ref (qm 0)), (1, .int l1)]) hx hb dX7_nameHere_99 hl (k := 3) rfl (by rw [ev14]; rfl) (by decide) rfl (fun ls hl => ?_)
          refine lv_goto (tgt := 50) hx hb dX7_nameHere_102 (by decide) ?_
          exact ih (0 : Int32) v14 H locs ls hw (lv_sub hl [2, 3, 1, 0] rfl)  hf
        · have hf := if_t hc13 hf
          refine lv_iconst (v := 1) hx hb dX7_nameHere_93 (by decide) ?_
          refine lv_goto (tgt := 98) hx hb dX7_nameHere_94 (by decide) ?_
          refine lv_istore_n (lv' := [(2, .int (1 : Int32)), (0, .ref (qm 0)), (1, .int l1), (3, .int l3)]) hx hb dX7_nameHere_98 rfl hl (by decide) rfl (fun ls hl => ?_)
          obtain ⟨v15, ev15⟩ : ∃ z : Int32, z = (l3 + (1 : Int32)) := ⟨_, rfl⟩
          have hf := lt_s_ hf v15 ev15
          refine lv_iinc (v := v15) (lv' := [(3, .int v15), (2, .int (1 : Int32)), (0, .ref (qm 0)), (1, .int l1)]) hx hb dX7_nameHere_99 hl (k := 3) rfl (by rw [ev15]; rfl) (by decide) rfl (fun ls hl => ?_)
          refine lv_goto (tgt := 50) hx hb dX7_nameHere_102 (by decide) ?_
          exact ih (1 : Int32) v15 H locs ls hw (lv_sub hl [2, 3, 1, 0] rfl)  hf
set_option maxHeartbeats 4000000 in
set_option maxRecDepth 100000 in
theorem wMo_nameHere_L2 {p : Program} {l : Launch} {e : Env} {s : State} {m : MethodId} {args : Array Value} {below : List Frame} {meth : Method} {c : Code} {A : Nat → Prop} {D : va_G} {κ : Nat → ClassId} (C0 : cx_ p s m meth c args cX7_nameHere RX7 (some .int) 4 A) (qm : Nat → Nat) (m_state m_tape : Nat → Int32) (m_taped m_fault m_broken m_brokenAt m_spot m_here m_token m_value : Int32) (m_ends m_letters m_moments m_stepsAt : Nat → Int32) (m_steps m_latest : Int32) (m_matrix m_sides m_tried m_answers : Nat → Int64) (m_rowOf : Nat → Int32) (m_whole : Int64) (m_shares m_isKept m_lanes m_lengths m_cells : Nat → Int32) (m_torn : Int32) (zr : Int32) : ∀ (n : Nat) (l1 : Int32) (H : Heap) (locs : List Loc) (ls : Array Slot), wd_ D (tys0 κ) A s (List.flatten [pMo κ qm m_state m_tape m_taped m_fault m_broken m_brokenAt m_spot m_here m_token m_value m_ends m_letters m_moments m_stepsAt m_steps m_latest m_matrix m_sides m_tried m_answers m_rowOf m_whole m_shares m_isKept m_lanes m_lengths m_cells m_torn]) H locs → lv_has ls 4 [(0, .ref (qm 0)), (1, .int l1)] → FMo_nameHere_L2 m_tape m_taped m_spot m_here m_token m_ends m_letters n l1 = some zr → W p l e ({ frames := 1, cells := 0, slots := 0, locals := 21 } : Room) s m args below meth c H locs 0 0 (qI_ D (tys0 κ) A nT_ zr (List.flatten [pMo κ qm m_state m_tape m_taped m_fault m_broken m_brokenAt m_spot m_here m_token m_value m_ends m_letters m_moments m_stepsAt m_steps m_latest m_matrix m_sides m_tried m_answers m_rowOf m_whole m_shares m_isKept m_lanes m_lengths m_cells m_torn]) below args s) (F0 m 2 ls []) := by
  obtain ⟨hx, hb, -, hml, hown, hts, -, -⟩ := id C0
  intro n
  induction n with
  | zero =>
    intro l1 H locs ls hw hl  hf
    cases hf
  | succ n ih =>
    intro l1 H locs ls hw hl  hf
    rw [FMo_nameHere_L2.eq_2] at hf
    refine lv_iload_n hx hb dX7_nameHere_2 rfl (lv_at hl 1 rfl) ?_
    refine lv_iconst (v := 5) hx hb dX7_nameHere_3 (by decide) ?_
    refine lv_icmp_ge (tgt := 117) hx hb dX7_nameHere_4 (by decide) (fun hc1 => ?_) (fun hc1 => ?_)
    · have hf := if_t hc1 hf
      refine lv_bipush (v := -4) hx hb dX7_nameHere_117 (by decide) ?_
      obtain rfl := e1_ hf
      exact r_iret C0 hw trivial dX7_nameHere_119
    · have hf := if_f hc1 hf
      refine lv_aload_n hx hb dX7_nameHere_7 rfl (lv_at hl 0 rfl) ?_
      refine r_get C0 hw 0 8 (v := .int m_token) rfl rfl inX7 (by decide) lk_X7_82 rfl dX7_nameHere_8 ?_
      refine lv_iconst (v := 1) hx hb dX7_nameHere_11 (by decide) ?_
      refine lv_icmp_ne (tgt := 117) hx hb dX7_nameHere_12 (by decide) (fun hc2 => ?_) (fun hc2 => ?_)
      · have hf := if_f hc2 hf
        refine lv_bipush (v := -4) hx hb dX7_nameHere_117 (by decide) ?_
        obtain rfl := e1_ hf
        exact r_iret C0 hw trivial dX7_nameHere_119
      · have hf := if_t hc2 hf
        refine lv_aload_n hx hb dX7_nameHere_15 rfl (lv_at hl 0 rfl) ?_
        refine r_get C0 hw 0 6 (v := .int m_spot) rfl rfl inX7 (by decide) lk_X7_85 rfl dX7_nameHere_16 ?_
        refine lv_aload_n hx hb dX7_nameHere_19 rfl (lv_at hl 0 rfl) ?_
        refine r_get C0 hw 0 7 (v := .int m_here) rfl rfl inX7 (by decide) lk_X7_76 rfl dX7_nameHere_20 ?_
        refine lv_isub hx hb dX7_nameHere_23 ?_
        refine lv_aload_n hx hb dX7_nameHere_24 rfl (lv_at hl 0 rfl) ?_
        refine r_get C0 hw 0 10 (v := .ref (qm 3)) rfl rfl inX7 (by decide) lk_X7_16 rfl dX7_nameHere_25 ?_
        refine lv_iload_n hx hb dX7_nameHere_28 rfl (lv_at hl 1 rfl) ?_
        refine lv_iconst (v := 1) hx hb dX7_nameHere_29 (by decide) ?_
        refine lv_iadd hx hb dX7_nameHere_30 ?_
        obtain ⟨hi3, hf⟩ := gd_s hf
        refine r_iald C0 hw 3 0 rfl rfl hi3 dX7_nameHere_31 ?_
        refine lv_aload_n hx hb dX7_nameHere_32 rfl (lv_at hl 0 rfl) ?_
        refine r_get C0 hw 0 10 (v := .ref (qm 3)) rfl rfl inX7 (by decide) lk_X7_16 rfl dX7_nameHere_33 ?_
        refine lv_iload_n hx hb dX7_nameHere_36 rfl (lv_at hl 1 rfl) ?_
        obtain ⟨hi4, hf⟩ := gd_s hf
        refine r_iald C0 hw 3 0 rfl rfl hi4 dX7_nameHere_37 ?_
        refine lv_isub hx hb dX7_nameHere_38 ?_
        obtain ⟨j21, ej21, hf⟩ := lt_e hf
        have hj22 : ∀ (v5 : Int32) (H : Heap) (locs : List Loc) (ls : Array Slot), wd_ D (tys0 κ) A s (List.flatten [pMo κ qm m_state m_tape m_taped m_fault m_broken m_brokenAt m_spot m_here m_token m_value m_ends m_letters m_moments m_stepsAt m_steps m_latest m_matrix m_sides m_tried m_answers m_rowOf m_whole m_shares m_isKept m_lanes m_lengths m_cells m_torn]) H locs → lv_has ls 4 [(0, .ref (qm 0)), (1, .int l1)] → j21 v5 = some zr → W p l e ({ frames := 1, cells := 0, slots := 0, locals := 21 } : Room) s m args below meth c H locs 0 0 (qI_ D (tys0 κ) A nT_ zr (List.flatten [pMo κ qm m_state m_tape m_taped m_fault m_broken m_brokenAt m_spot m_here m_token m_value m_ends m_letters m_moments m_stepsAt m_steps m_latest m_matrix m_sides m_tried m_answers m_rowOf m_whole m_shares m_isKept m_lanes m_lengths m_cells m_torn]) below args s) (F0 m 47 ls [.int v5]) := by
          intro v5 H locs ls hw hl  hf
          have hf : (FMo_nameHere_L50 m_tape m_taped m_spot m_here m_ends m_letters l1 (fun (v17 : Int32) (v18 : Int32) => if v17 = 0 then lt_ (l1 + (1 : Int32)) fun v20 => FMo_nameHere_L2 m_tape m_taped m_spot m_here m_token m_ends m_letters n v20 else some (l1)) 1000 v5 (0 : Int32)) = some zr := by rw [ej21] at hf; exact hf
          refine lv_istore_n (lv' := [(2, .int v5), (0, .ref (qm 0)), (1, .int l1)]) hx hb dX7_nameHere_47 rfl hl (by decide) rfl (fun ls hl => ?_)
          refine lv_iconst (v := 0) hx hb dX7_nameHere_48 (by decide) ?_
          refine lv_istore_n (lv' := [(3, .int (0 : Int32)), (2, .int v5), (0, .ref (qm 0)), (1, .int l1)]) hx hb dX7_nameHere_49 rfl hl (by decide) rfl (fun ls hl => ?_)
          refine wMo_nameHere_L50 C0 qm m_state m_tape m_taped m_fault m_broken m_brokenAt m_spot m_here m_token m_value m_ends m_letters m_moments m_stepsAt m_steps m_latest m_matrix m_sides m_tried m_answers m_rowOf m_whole m_shares m_isKept m_lanes m_lengths m_cells m_torn l1 zr _ (fun v17 v18 H locs ls hw hl  hf => ?_) 1000 v5 (0 : Int32) H locs ls hw (lv_sub hl [2, 3, 1, 0] rfl)  hf
          refine lv_iload_n hx hb dX7_nameHere_105 rfl (lv_at hl 2 rfl) ?_
          refine lv_if_eq (tgt := 111) hx hb dX7_nameHere_106 (by decide) (fun hc19 => ?_) (fun hc19 => ?_)
          · have hf := if_t hc19 hf
            obtain ⟨v20, ev20⟩ : ∃ z : Int32, z = (l1 + (1 : Int32)) := ⟨_, rfl⟩
            have hf := lt_s_ hf v20 ev20
            refine lv_iinc (v := v20) (lv' := [(1, .int v20), (0, .ref (qm 0)), (2, .int v17)]) hx hb dX7_nameHere_111 hl (k := 1) rfl (by rw [ev20]; rfl) (by decide) rfl (fun ls hl => ?_)
            refine lv_goto (tgt := 2) hx hb dX7_nameHere_114 (by decide) ?_
            exact ih v20 H locs ls hw (lv_sub hl [1, 0] rfl)  hf
          · have hf := if_f hc19 hf
            refine lv_iload_n hx hb dX7_nameHere_109 rfl (lv_at hl 1 rfl) ?_
            obtain rfl := e1_ hf
            exact r_iret C0 hw trivial dX7_nameHere_110
        refine lv_icmp_ne (tgt := 46) hx hb dX7_nameHere_39 (by decide) (fun hc23 => ?_) (fun hc23 => ?_)
        · have hf := if_f hc23 hf
          refine lv_iconst (v := 0) hx hb dX7_nameHere_46 (by decide) ?_
          exact hj22 (0 : Int32) H locs ls hw (lv_sub hl [0, 1] rfl)  hf
        · have hf := if_t hc23 hf
          refine lv_iconst (v := 1) hx hb dX7_nameHere_42 (by decide) ?_
          refine lv_goto (tgt := 47) hx hb dX7_nameHere_43 (by decide) ?_
          exact hj22 (1 : Int32) H locs ls hw (lv_sub hl [0, 1] rfl)  hf
set_option maxHeartbeats 4000000 in
set_option maxRecDepth 100000 in
theorem cMo_nameHere (l : Launch) (D : va_G) (κ : Nat → ClassId) (qm : Nat → Nat) (m_state m_tape : Nat → Int32) (m_taped m_fault m_broken m_brokenAt m_spot m_here m_token m_value : Int32) (m_ends m_letters m_moments m_stepsAt : Nat → Int32) (m_steps m_latest : Int32) (m_matrix m_sides m_tried m_answers : Nat → Int64) (m_rowOf : Nat → Int32) (m_whole : Int64) (m_shares m_isKept m_lanes m_lengths m_cells : Nat → Int32) (m_torn zr : Int32) (hf : FMo_nameHere m_tape m_taped m_spot m_here m_token m_ends m_letters = some zr) : mI_ l yX7_nameHere (Cond.code yX7_nameHere cX7_nameHere 4 (some .int) :: uw) ({ frames := 1, cells := 0, slots := 0, locals := 21 } : Room) D (tys0 κ) [.ref (qm 0)] (List.flatten [pMo κ qm m_state m_tape m_taped m_fault m_broken m_brokenAt m_spot m_here m_token m_value m_ends m_letters m_moments m_stepsAt m_steps m_latest m_matrix m_sides m_tried m_answers m_rowOf m_whole m_shares m_isKept m_lanes m_lengths m_cells m_torn]) nT_ zr (List.flatten [pMo κ qm m_state m_tape m_taped m_fault m_broken m_brokenAt m_spot m_here m_token m_value m_ends m_letters m_moments m_stepsAt m_steps m_latest m_matrix m_sides m_tried m_answers m_rowOf m_whole m_shares m_isKept m_lanes m_lengths m_cells m_torn]) := by
  unfold FMo_nameHere at hf
  refine mI_of (by decide) (Nat.le_of_ble_eq_true rfl) ?_
  intro p e s m below meth c A ls H locs C0 hw hl
  obtain ⟨hx, hb, -, hml, hown, hts, -, -⟩ := id C0
  have hl : lv_has ls 4 [(0, .ref (qm 0))] := hl
  refine lv_iconst (v := 0) hx hb dX7_nameHere_0 (by decide) ?_
  refine lv_istore_n (lv' := [(1, .int (0 : Int32)), (0, .ref (qm 0))]) hx hb dX7_nameHere_1 rfl hl (by decide) rfl (fun ls hl => ?_)
  exact wMo_nameHere_L2 C0 qm m_state m_tape m_taped m_fault m_broken m_brokenAt m_spot m_here m_token m_value m_ends m_letters m_moments m_stepsAt m_steps m_latest m_matrix m_sides m_tried m_answers m_rowOf m_whole m_shares m_isKept m_lanes m_lengths m_cells m_torn zr 1000 (0 : Int32) H locs ls hw (lv_sub hl [1, 0] rfl)  hf
def FMo_readsOn_L8 (m_tape : Nat → Int32) (m_taped : Int32) (k_ : Int32 → Option (Int32 × Int32 × Int32 × Int32 × Int32 × Int32)) : Nat → Int32 → Option (Int32 × Int32 × Int32 × Int32 × Int32 × Int32)
  | 0, _ => none
  | n + 1, m_spot =>
      b1_ (FMo_byteAt m_tape m_taped m_spot) fun r2 =>
      if r2 = (32 : Int32) then
        lt_ (m_spot + (1 : Int32)) fun v6 =>
        FMo_readsOn_L8 m_tape m_taped k_ n v6
      else
        k_ m_spot
def FMo_readsOn_L140 (m_tape : Nat → Int32) (m_taped m_here : Int32) (k_ : Int32 → Int32 → Option (Int32 × Int32 × Int32 × Int32 × Int32 × Int32)) : Nat → Int32 → Int32 → Option (Int32 × Int32 × Int32 × Int32 × Int32 × Int32)
  | 0, _, _ => none
  | n + 1, m_spot, m_value =>
      b1_ (FMo_byteAt m_tape m_taped m_spot) fun r31 =>
      b1_ (FMo_in (r31.toInt64) (48 : Int64) (57 : Int64)) fun r34 =>
      if r34 = 0 then
        k_ m_spot m_value
      else
        if (4 : Int32) ≤ (m_spot - m_here) then
          lt_ (m_spot + (1 : Int32)) fun v39 =>
          FMo_readsOn_L140 m_tape m_taped m_here k_ n v39 m_value
        else
          b1_ (FMo_byteAt m_tape m_taped m_spot) fun r40 =>
          lt_ ((((10 : Int32) * m_value) + r40) - (48 : Int32)) fun v43 =>
          lt_ (m_spot + (1 : Int32)) fun v44 =>
          FMo_readsOn_L140 m_tape m_taped m_here k_ n v44 v43
def FMo_readsOn_L84 (m_tape : Nat → Int32) (m_taped m_broken m_brokenAt m_here m_value : Int32) : Nat → Int32 → Option (Int32 × Int32 × Int32 × Int32 × Int32 × Int32)
  | 0, _ => none
  | n + 1, m_spot =>
      b1_ (FMo_byteAt m_tape m_taped m_spot) fun r52 =>
      b1_ (FMo_in (r52.toInt64) (97 : Int64) (122 : Int64)) fun r55 =>
      if r55 = 0 then
        some (m_broken, m_brokenAt, m_spot, m_here, (1 : Int32), m_value)
      else
        lt_ (m_spot + (1 : Int32)) fun v59 =>
        FMo_readsOn_L84 m_tape m_taped m_broken m_brokenAt m_here m_value n v59
def FMo_readsOn (m_tape : Nat → Int32) (m_taped m_broken m_brokenAt m_spot m_here m_token m_value : Int32) : Option (Int32 × Int32 × Int32 × Int32 × Int32 × Int32) :=
  if m_broken ≤ 0 then
    FMo_readsOn_L8 m_tape m_taped (fun (w7 : Int32) =>
        b1_ (FMo_byteAt m_tape m_taped w7) fun r8 =>
        if r8 = (-4 : Int32) then
          some (m_broken, m_brokenAt, w7, w7, (0 : Int32), (0 : Int32))
        else
          b1_ (FMo_in (r8.toInt64) (97 : Int64) (122 : Int64)) fun r12 =>
          if r12 = 0 then
            b1_ (FMo_in (r8.toInt64) (48 : Int64) (57 : Int64)) fun r16 =>
            if r16 = 0 then
              lt_ (fun (v20 : Int32) =>
                lt_ (w7 + (1 : Int32)) fun v21 =>
                if r8 = (59 : Int32) then
                  some (m_broken, m_brokenAt, v21, w7, v20, (0 : Int32))
                else
                  if r8 = (45 : Int32) then
                    some (m_broken, m_brokenAt, v21, w7, v20, (0 : Int32))
                  else
                    b2_ (FMo_fails m_broken m_brokenAt w7 (1 : Int32)) fun w24 w25 =>
                    some (w24, w25, v21, w7, v20, (0 : Int32)) : Int32 → Option (Int32 × Int32 × Int32 × Int32 × Int32 × Int32)) fun j28 =>
              if r8 = (45 : Int32) then
                j28 (4 : Int32)
              else
                j28 (3 : Int32)
            else
              FMo_readsOn_L140 m_tape m_taped w7 (fun (w45 : Int32) (w46 : Int32) =>
                  if (w45 - w7) ≤ (4 : Int32) then
                    some (m_broken, m_brokenAt, w45, w7, (2 : Int32), w46)
                  else
                    b2_ (FMo_fails m_broken m_brokenAt w7 (1 : Int32)) fun w48 w49 =>
                    some (w48, w49, w45, w7, (2 : Int32), w46)) 1000 w7 (0 : Int32)
          else
            FMo_readsOn_L84 m_tape m_taped m_broken m_brokenAt w7 (0 : Int32) 1000 w7) 1000 m_spot
  else
    some (m_broken, m_brokenAt, m_spot, m_here, m_token, m_value)
set_option maxHeartbeats 4000000 in
set_option maxRecDepth 100000 in
theorem wMo_readsOn_L8 {p : Program} {l : Launch} {e : Env} {s : State} {m : MethodId} {args : Array Value} {below : List Frame} {meth : Method} {c : Code} {A : Nat → Prop} {D : va_G} {κ : Nat → ClassId} (C0 : cx_ p s m meth c args cX7_readsOn RX7 none 2 A) (qm : Nat → Nat) (m_state m_tape : Nat → Int32) (m_taped m_fault m_broken m_brokenAt m_here m_token m_value : Int32) (m_ends m_letters m_moments m_stepsAt : Nat → Int32) (m_steps m_latest : Int32) (m_matrix m_sides m_tried m_answers : Nat → Int64) (m_rowOf : Nat → Int32) (m_whole : Int64) (m_shares m_isKept m_lanes m_lengths m_cells : Nat → Int32) (m_torn : Int32) (z1 z2 z3 z4 z5 z6 : Int32) (k_ : Int32 → Option (Int32 × Int32 × Int32 × Int32 × Int32 × Int32)) (hk_ : ∀ (m_spot : Int32) (H : Heap) (locs : List Loc) (ls : Array Slot), wd_ D (tys0 κ) A s (List.flatten [pMo κ qm m_state m_tape m_taped m_fault m_broken m_brokenAt m_spot m_here m_token m_value m_ends m_letters m_moments m_stepsAt m_steps m_latest m_matrix m_sides m_tried m_answers m_rowOf m_whole m_shares m_isKept m_lanes m_lengths m_cells m_torn]) H locs → lv_has ls 2 [(0, .ref (qm 0))] → k_ m_spot = some (z1, z2, z3, z4, z5, z6) → W p l e ({ frames := 1, cells := 0, slots := 0, locals := 25 } : Room) s m args below meth c H locs 0 0 (qV_ D (tys0 κ) A (List.flatten [pMo κ qm m_state m_tape m_taped m_fault z1 z2 z3 z4 z5 z6 m_ends m_letters m_moments m_stepsAt m_steps m_latest m_matrix m_sides m_tried m_answers m_rowOf m_whole m_shares m_isKept m_lanes m_lengths m_cells m_torn]) below args s) (F0 m 34 ls [])) : ∀ (n : Nat) (m_spot : Int32) (H : Heap) (locs : List Loc) (ls : Array Slot), wd_ D (tys0 κ) A s (List.flatten [pMo κ qm m_state m_tape m_taped m_fault m_broken m_brokenAt m_spot m_here m_token m_value m_ends m_letters m_moments m_stepsAt m_steps m_latest m_matrix m_sides m_tried m_answers m_rowOf m_whole m_shares m_isKept m_lanes m_lengths m_cells m_torn]) H locs → lv_has ls 2 [(0, .ref (qm 0))] → FMo_readsOn_L8 m_tape m_taped k_ n m_spot = some (z1, z2, z3, z4, z5, z6) → W p l e ({ frames := 1, cells := 0, slots := 0, locals := 25 } : Room) s m args below meth c H locs 0 0 (qV_ D (tys0 κ) A (List.flatten [pMo κ qm m_state m_tape m_taped m_fault z1 z2 z3 z4 z5 z6 m_ends m_letters m_moments m_stepsAt m_steps m_latest m_matrix m_sides m_tried m_answers m_rowOf m_whole m_shares m_isKept m_lanes m_lengths m_cells m_torn]) below args s) (F0 m 8 ls []) := by
  obtain ⟨hx, hb, -, hml, hown, hts, -, -⟩ := id C0
  intro n
  induction n with
  | zero =>
    intro m_spot H locs ls hw hl  hf
    cases hf
  | succ n ih =>
    intro m_spot H locs ls hw hl  hf
    rw [FMo_readsOn_L8.eq_2] at hf
    refine lv_aload_n hx hb dX7_readsOn_8 rfl (lv_at hl 0 rfl) ?_
    refine lv_aload_n hx hb dX7_readsOn_9 rfl (lv_at hl 0 rfl) ?_
    refine r_get C0 hw 0 6 (v := .int m_spot) rfl rfl inX7 (by decide) lk_X7_85 rfl dX7_readsOn_10 ?_
    obtain ⟨r2, hk3, hf⟩ := b1_s hf
    refine rv_i (vq := (RX7, TX7, 28)) (As := [.int m_spot]) (rest := []) (bs' := [pMo κ qm m_state m_tape m_taped m_fault m_broken m_brokenAt m_spot m_here m_token m_value m_ends m_letters m_moments m_stepsAt m_steps m_latest m_matrix m_sides m_tried m_answers m_rowOf m_whole m_shares m_isKept m_lanes m_lengths m_cells m_torn]) C0 hw (cMo_byteAt l D κ qm m_state m_tape m_taped m_fault m_broken m_brokenAt m_spot m_here m_token m_value m_ends m_letters m_moments m_stepsAt m_steps m_latest m_matrix m_sides m_tried m_answers m_rowOf m_whole m_shares m_isKept m_lanes m_lengths m_cells m_torn m_spot r2 hk3) cv_RX7_88 ⟨rfl, rfl, Nat.le_of_ble_eq_true rfl, Nat.le_of_ble_eq_true rfl⟩ ⟨Nat.zero_le _, Nat.zero_le _⟩ [0] [] [0] rfl rfl rfl rfl (by decide) rfl rfl rfl rfl rfl hl.1 (by simp only [List.map, List.sum_cons, List.sum_nil, Value.category]; decide) dX7_readsOn_13 (fun H locs hw hn4 => ?_)
    refine lv_bipush (v := 32) hx hb dX7_readsOn_16 (by decide) ?_
    refine lv_icmp_ne (tgt := 34) hx hb dX7_readsOn_18 (by decide) (fun hc5 => ?_) (fun hc5 => ?_)
    · have hf := if_f hc5 hf
      exact hk_ m_spot H locs ls hw (lv_sub hl [0] rfl)  hf
    · have hf := if_t hc5 hf
      refine lv_aload_n hx hb dX7_readsOn_21 rfl (lv_at hl 0 rfl) ?_
      refine lv_dup hx hb dX7_readsOn_22 rfl ?_
      refine r_get C0 hw 0 6 (v := .int m_spot) rfl rfl inX7 (by decide) lk_X7_85 rfl dX7_readsOn_23 ?_
      refine lv_iconst (v := 1) hx hb dX7_readsOn_26 (by decide) ?_
      refine lv_iadd hx hb dX7_readsOn_27 ?_
      refine lv_topi (fun v6 ev6 => ?_)
      have hf := lt_s_ hf v6 ev6
      refine r_put C0 hw 0 6 (v := .int v6) (ws' := List.flatten [pMo κ qm m_state m_tape m_taped m_fault m_broken m_brokenAt v6 m_here m_token m_value m_ends m_letters m_moments m_stepsAt m_steps m_latest m_matrix m_sides m_tried m_answers m_rowOf m_whole m_shares m_isKept m_lanes m_lengths m_cells m_torn]) rfl rfl inX7 tyX7_ok nmX7 (by decide) lk_X7_85 rfl rfl rfl rfl (Nat.le_of_ble_eq_true rfl) dX7_readsOn_28 rfl (fun H locs hw => ?_)
      refine lv_goto (tgt := 8) hx hb dX7_readsOn_31 (by decide) ?_
      exact ih v6 H locs ls hw (lv_sub hl [0] rfl)  hf
set_option maxHeartbeats 4000000 in
set_option maxRecDepth 100000 in
theorem wMo_readsOn_L140 {p : Program} {l : Launch} {e : Env} {s : State} {m : MethodId} {args : Array Value} {below : List Frame} {meth : Method} {c : Code} {A : Nat → Prop} {D : va_G} {κ : Nat → ClassId} (C0 : cx_ p s m meth c args cX7_readsOn RX7 none 2 A) (qm : Nat → Nat) (m_state m_tape : Nat → Int32) (m_taped m_fault m_broken m_brokenAt m_here m_token : Int32) (m_ends m_letters m_moments m_stepsAt : Nat → Int32) (m_steps m_latest : Int32) (m_matrix m_sides m_tried m_answers : Nat → Int64) (m_rowOf : Nat → Int32) (m_whole : Int64) (m_shares m_isKept m_lanes m_lengths m_cells : Nat → Int32) (m_torn : Int32) (z1 z2 z3 z4 z5 z6 : Int32) (k_ : Int32 → Int32 → Option (Int32 × Int32 × Int32 × Int32 × Int32 × Int32)) (hk_ : ∀ (m_spot : Int32) (m_value : Int32) (H : Heap) (locs : List Loc) (ls : Array Slot), wd_ D (tys0 κ) A s (List.flatten [pMo κ qm m_state m_tape m_taped m_fault m_broken m_brokenAt m_spot m_here m_token m_value m_ends m_letters m_moments m_stepsAt m_steps m_latest m_matrix m_sides m_tried m_answers m_rowOf m_whole m_shares m_isKept m_lanes m_lengths m_cells m_torn]) H locs → lv_has ls 2 [(0, .ref (qm 0))] → k_ m_spot m_value = some (z1, z2, z3, z4, z5, z6) → W p l e ({ frames := 1, cells := 0, slots := 0, locals := 25 } : Room) s m args below meth c H locs 0 0 (qV_ D (tys0 κ) A (List.flatten [pMo κ qm m_state m_tape m_taped m_fault z1 z2 z3 z4 z5 z6 m_ends m_letters m_moments m_stepsAt m_steps m_latest m_matrix m_sides m_tried m_answers m_rowOf m_whole m_shares m_isKept m_lanes m_lengths m_cells m_torn]) below args s) (F0 m 217 ls [])) : ∀ (n : Nat) (m_spot : Int32) (m_value : Int32) (H : Heap) (locs : List Loc) (ls : Array Slot), wd_ D (tys0 κ) A s (List.flatten [pMo κ qm m_state m_tape m_taped m_fault m_broken m_brokenAt m_spot m_here m_token m_value m_ends m_letters m_moments m_stepsAt m_steps m_latest m_matrix m_sides m_tried m_answers m_rowOf m_whole m_shares m_isKept m_lanes m_lengths m_cells m_torn]) H locs → lv_has ls 2 [(0, .ref (qm 0))] → FMo_readsOn_L140 m_tape m_taped m_here k_ n m_spot m_value = some (z1, z2, z3, z4, z5, z6) → W p l e ({ frames := 1, cells := 0, slots := 0, locals := 25 } : Room) s m args below meth c H locs 0 0 (qV_ D (tys0 κ) A (List.flatten [pMo κ qm m_state m_tape m_taped m_fault z1 z2 z3 z4 z5 z6 m_ends m_letters m_moments m_stepsAt m_steps m_latest m_matrix m_sides m_tried m_answers m_rowOf m_whole m_shares m_isKept m_lanes m_lengths m_cells m_torn]) below args s) (F0 m 140 ls []) := by
  obtain ⟨hx, hb, -, hml, hown, hts, -, -⟩ := id C0
  intro n
  induction n with
  | zero =>
    intro m_spot m_value H locs ls hw hl  hf
    cases hf
  | succ n ih =>
    intro m_spot m_value H locs ls hw hl  hf
    rw [FMo_readsOn_L140.eq_2] at hf
    refine lv_aload_n hx hb dX7_readsOn_140 rfl (lv_at hl 0 rfl) ?_
    refine lv_aload_n hx hb dX7_readsOn_141 rfl (lv_at hl 0 rfl) ?_
    refine r_get C0 hw 0 6 (v := .int m_spot) rfl rfl inX7 (by decide) lk_X7_85 rfl dX7_readsOn_142 ?_
    obtain ⟨r31, hk32, hf⟩ := b1_s hf
    refine rv_i (vq := (RX7, TX7, 28)) (As := [.int m_spot]) (rest := []) (bs' := [pMo κ qm m_state m_tape m_taped m_fault m_broken m_brokenAt m_spot m_here m_token m_value m_ends m_letters m_moments m_stepsAt m_steps m_latest m_matrix m_sides m_tried m_answers m_rowOf m_whole m_shares m_isKept m_lanes m_lengths m_cells m_torn]) C0 hw (cMo_byteAt l D κ qm m_state m_tape m_taped m_fault m_broken m_brokenAt m_spot m_here m_token m_value m_ends m_letters m_moments m_stepsAt m_steps m_latest m_matrix m_sides m_tried m_answers m_rowOf m_whole m_shares m_isKept m_lanes m_lengths m_cells m_torn m_spot r31 hk32) cv_RX7_88 ⟨rfl, rfl, Nat.le_of_ble_eq_true rfl, Nat.le_of_ble_eq_true rfl⟩ ⟨Nat.zero_le _, Nat.zero_le _⟩ [0] [] [0] rfl rfl rfl rfl (by decide) rfl rfl rfl rfl rfl hl.1 (by simp only [List.map, List.sum_cons, List.sum_nil, Value.category]; decide) dX7_readsOn_145 (fun H locs hw hn33 => ?_)
    refine lv_i2l hx hb dX7_readsOn_148 rfl ?_
    refine lv_ldc2 (v := 48) hx hb hown (hts _ kl_X7_99) dX7_readsOn_149 ?_
    refine lv_ldc2 (v := 57) hx hb hown (hts _ kl_X7_101) dX7_readsOn_152 ?_
    obtain ⟨r34, hk35, hf⟩ := b1_s hf
    refine rs_i (As := [.long (r31.toInt64), .long (48 : Int64), .long (57 : Int64)]) (rest := []) (bs' := [pMo κ qm m_state m_tape m_taped m_fault m_broken m_brokenAt m_spot m_here m_token m_value m_ends m_letters m_moments m_stepsAt m_steps m_latest m_matrix m_sides m_tried m_answers m_rowOf m_whole m_shares m_isKept m_lanes m_lengths m_cells m_torn]) C0 hw (cMo_in l D κ (r31.toInt64) (48 : Int64) (57 : Int64) r34 hk35) cs_X7_66 ⟨rfl, rfl, Nat.le_of_ble_eq_true rfl, Nat.le_of_ble_eq_true rfl⟩ ⟨Nat.zero_le _, Nat.zero_le _⟩ [] [0] [0] rfl rfl rfl rfl (by decide) rfl rfl rfl hl.1 (by simp only [List.map, List.sum_cons, List.sum_nil, Value.category]; decide) dX7_readsOn_155 (fun H locs hw hn36 => ?_)
    refine lv_if_eq (tgt := 217) hx hb dX7_readsOn_158 (by decide) (fun hc37 => ?_) (fun hc37 => ?_)
    · have hf := if_t hc37 hf
      exact hk_ m_spot m_value H locs ls hw (lv_sub hl [0] rfl)  hf
    · have hf := if_f hc37 hf
      refine lv_aload_n hx hb dX7_readsOn_161 rfl (lv_at hl 0 rfl) ?_
      refine lv_aload_n hx hb dX7_readsOn_162 rfl (lv_at hl 0 rfl) ?_
      refine r_get C0 hw 0 6 (v := .int m_spot) rfl rfl inX7 (by decide) lk_X7_85 rfl dX7_readsOn_163 ?_
      refine lv_aload_n hx hb dX7_readsOn_166 rfl (lv_at hl 0 rfl) ?_
      refine r_get C0 hw 0 7 (v := .int m_here) rfl rfl inX7 (by decide) lk_X7_76 rfl dX7_readsOn_167 ?_
      refine lv_isub hx hb dX7_readsOn_170 ?_
      refine lv_iconst (v := 4) hx hb dX7_readsOn_171 (by decide) ?_
      refine lv_icmp_ge (tgt := 197) hx hb dX7_readsOn_172 (by decide) (fun hc38 => ?_) (fun hc38 => ?_)
      · have hf := if_t hc38 hf
        refine lv_aload_n hx hb dX7_readsOn_197 rfl (lv_at hl 0 rfl) ?_
        refine r_get C0 hw 0 9 (v := .int m_value) rfl rfl inX7 (by decide) lk_X7_92 rfl dX7_readsOn_198 ?_
        refine r_put C0 hw 0 9 (v := .int m_value) (ws' := List.flatten [pMo κ qm m_state m_tape m_taped m_fault m_broken m_brokenAt m_spot m_here m_token m_value m_ends m_letters m_moments m_stepsAt m_steps m_latest m_matrix m_sides m_tried m_answers m_rowOf m_whole m_shares m_isKept m_lanes m_lengths m_cells m_torn]) rfl rfl inX7 tyX7_ok nmX7 (by decide) lk_X7_92 rfl rfl rfl rfl (Nat.le_of_ble_eq_true rfl) dX7_readsOn_201 rfl (fun H locs hw => ?_)
        refine lv_aload_n hx hb dX7_readsOn_204 rfl (lv_at hl 0 rfl) ?_
        refine lv_dup hx hb dX7_readsOn_205 rfl ?_
        refine r_get C0 hw 0 6 (v := .int m_spot) rfl rfl inX7 (by decide) lk_X7_85 rfl dX7_readsOn_206 ?_
        refine lv_iconst (v := 1) hx hb dX7_readsOn_209 (by decide) ?_
        refine lv_iadd hx hb dX7_readsOn_210 ?_
        refine lv_topi (fun v39 ev39 => ?_)
        have hf := lt_s_ hf v39 ev39
        refine r_put C0 hw 0 6 (v := .int v39) (ws' := List.flatten [pMo κ qm m_state m_tape m_taped m_fault m_broken m_brokenAt v39 m_here m_token m_value m_ends m_letters m_moments m_stepsAt m_steps m_latest m_matrix m_sides m_tried m_answers m_rowOf m_whole m_shares m_isKept m_lanes m_lengths m_cells m_torn]) rfl rfl inX7 tyX7_ok nmX7 (by decide) lk_X7_85 rfl rfl rfl rfl (Nat.le_of_ble_eq_true rfl) dX7_readsOn_211 rfl (fun H locs hw => ?_)
        refine lv_goto (tgt := 140) hx hb dX7_readsOn_214 (by decide) ?_
        exact ih v39 m_value H locs ls hw (lv_sub hl [0] rfl)  hf
      · have hf := if_f hc38 hf
        refine lv_bipush (v := 10) hx hb dX7_readsOn_175 (by decide) ?_
        refine lv_aload_n hx hb dX7_readsOn_177 rfl (lv_at hl 0 rfl) ?_
        refine r_get C0 hw 0 9 (v := .int m_value) rfl rfl inX7 (by decide) lk_X7_92 rfl dX7_readsOn_178 ?_
        refine lv_imul hx hb dX7_readsOn_181 ?_
        refine lv_aload_n hx hb dX7_readsOn_182 rfl (lv_at hl 0 rfl) ?_
        refine lv_aload_n hx hb dX7_readsOn_183 rfl (lv_at hl 0 rfl) ?_
        refine r_get C0 hw 0 6 (v := .int m_spot) rfl rfl inX7 (by decide) lk_X7_85 rfl dX7_readsOn_184 ?_
        obtain ⟨r40, hk41, hf⟩ := b1_s hf
        refine rv_i (vq := (RX7, TX7, 28)) (As := [.int m_spot]) (rest := [.int ((10 : Int32) * m_value), .ref (qm 0)]) (bs' := [pMo κ qm m_state m_tape m_taped m_fault m_broken m_brokenAt m_spot m_here m_token m_value m_ends m_letters m_moments m_stepsAt m_steps m_latest m_matrix m_sides m_tried m_answers m_rowOf m_whole m_shares m_isKept m_lanes m_lengths m_cells m_torn]) C0 hw (cMo_byteAt l D κ qm m_state m_tape m_taped m_fault m_broken m_brokenAt m_spot m_here m_token m_value m_ends m_letters m_moments m_stepsAt m_steps m_latest m_matrix m_sides m_tried m_answers m_rowOf m_whole m_shares m_isKept m_lanes m_lengths m_cells m_torn m_spot r40 hk41) cv_RX7_88 ⟨rfl, rfl, Nat.le_of_ble_eq_true rfl, Nat.le_of_ble_eq_true rfl⟩ ⟨Nat.zero_le _, Nat.zero_le _⟩ [0] [] [0] rfl rfl rfl rfl (by decide) rfl rfl rfl rfl rfl hl.1 (by simp only [List.map, List.sum_cons, List.sum_nil, Value.category]; decide) dX7_readsOn_187 (fun H locs hw hn42 => ?_)
        refine lv_iadd hx hb dX7_readsOn_190 ?_
        refine lv_bipush (v := 48) hx hb dX7_readsOn_191 (by decide) ?_
        refine lv_isub hx hb dX7_readsOn_193 ?_
        refine lv_goto (tgt := 201) hx hb dX7_readsOn_194 (by decide) ?_
        refine lv_topi (fun v43 ev43 => ?_)
        have hf := lt_s_ hf v43 ev43
        refine r_put C0 hw 0 9 (v := .int v43) (ws' := List.flatten [pMo κ qm m_state m_tape m_taped m_fault m_broken m_brokenAt m_spot m_here m_token v43 m_ends m_letters m_moments m_stepsAt m_steps m_latest m_matrix m_sides m_tried m_answers m_rowOf m_whole m_shares m_isKept m_lanes m_lengths m_cells m_torn]) rfl rfl inX7 tyX7_ok nmX7 (by decide) lk_X7_92 rfl rfl rfl rfl (Nat.le_of_ble_eq_true rfl) dX7_readsOn_201 rfl (fun H locs hw => ?_)
        refine lv_aload_n hx hb dX7_readsOn_204 rfl (lv_at hl 0 rfl) ?_
        refine lv_dup hx hb dX7_readsOn_205 rfl ?_
        refine r_get C0 hw 0 6 (v := .int m_spot) rfl rfl inX7 (by decide) lk_X7_85 rfl dX7_readsOn_206 ?_
        refine lv_iconst (v := 1) hx hb dX7_readsOn_209 (by decide) ?_
        refine lv_iadd hx hb dX7_readsOn_210 ?_
        refine lv_topi (fun v44 ev44 => ?_)
        have hf := lt_s_ hf v44 ev44
        refine r_put C0 hw 0 6 (v := .int v44) (ws' := List.flatten [pMo κ qm m_state m_tape m_taped m_fault m_broken m_brokenAt v44 m_here m_token v43 m_ends m_letters m_moments m_stepsAt m_steps m_latest m_matrix m_sides m_tried m_answers m_rowOf m_whole m_shares m_isKept m_lanes m_lengths m_cells m_torn]) rfl rfl inX7 tyX7_ok nmX7 (by decide) lk_X7_85 rfl rfl rfl rfl (Nat.le_of_ble_eq_true rfl) dX7_readsOn_211 rfl (fun H locs hw => ?_)
        refine lv_goto (tgt := 140) hx hb dX7_readsOn_214 (by decide) ?_
        exact ih v44 v43 H locs ls hw (lv_sub hl [0] rfl)  hf
set_option maxHeartbeats 4000000 in
set_option maxRecDepth 100000 in
theorem wMo_readsOn_L84 {p : Program} {l : Launch} {e : Env} {s : State} {m : MethodId} {args : Array Value} {below : List Frame} {meth : Method} {c : Code} {A : Nat → Prop} {D : va_G} {κ : Nat → ClassId} (C0 : cx_ p s m meth c args cX7_readsOn RX7 none 2 A) (qm : Nat → Nat) (m_state m_tape : Nat → Int32) (m_taped m_fault m_broken m_brokenAt m_here m_token m_value : Int32) (m_ends m_letters m_moments m_stepsAt : Nat → Int32) (m_steps m_latest : Int32) (m_matrix m_sides m_tried m_answers : Nat → Int64) (m_rowOf : Nat → Int32) (m_whole : Int64) (m_shares m_isKept m_lanes m_lengths m_cells : Nat → Int32) (m_torn : Int32) (z1 z2 z3 z4 z5 z6 : Int32) : ∀ (n : Nat) (m_spot : Int32) (H : Heap) (locs : List Loc) (ls : Array Slot), wd_ D (tys0 κ) A s (List.flatten [pMo κ qm m_state m_tape m_taped m_fault m_broken m_brokenAt m_spot m_here m_token m_value m_ends m_letters m_moments m_stepsAt m_steps m_latest m_matrix m_sides m_tried m_answers m_rowOf m_whole m_shares m_isKept m_lanes m_lengths m_cells m_torn]) H locs → lv_has ls 2 [(0, .ref (qm 0))] → FMo_readsOn_L84 m_tape m_taped m_broken m_brokenAt m_here m_value n m_spot = some (z1, z2, z3, z4, z5, z6) → W p l e ({ frames := 1, cells := 0, slots := 0, locals := 25 } : Room) s m args below meth c H locs 0 0 (qV_ D (tys0 κ) A (List.flatten [pMo κ qm m_state m_tape m_taped m_fault z1 z2 z3 z4 z5 z6 m_ends m_letters m_moments m_stepsAt m_steps m_latest m_matrix m_sides m_tried m_answers m_rowOf m_whole m_shares m_isKept m_lanes m_lengths m_cells m_torn]) below args s) (F0 m 84 ls []) := by
  obtain ⟨hx, hb, -, hml, hown, hts, -, -⟩ := id C0
  intro n
  induction n with
  | zero =>
    intro m_spot H locs ls hw hl  hf
    cases hf
  | succ n ih =>
    intro m_spot H locs ls hw hl  hf
    rw [FMo_readsOn_L84.eq_2] at hf
    refine lv_aload_n hx hb dX7_readsOn_84 rfl (lv_at hl 0 rfl) ?_
    refine lv_aload_n hx hb dX7_readsOn_85 rfl (lv_at hl 0 rfl) ?_
    refine r_get C0 hw 0 6 (v := .int m_spot) rfl rfl inX7 (by decide) lk_X7_85 rfl dX7_readsOn_86 ?_
    obtain ⟨r52, hk53, hf⟩ := b1_s hf
    refine rv_i (vq := (RX7, TX7, 28)) (As := [.int m_spot]) (rest := []) (bs' := [pMo κ qm m_state m_tape m_taped m_fault m_broken m_brokenAt m_spot m_here m_token m_value m_ends m_letters m_moments m_stepsAt m_steps m_latest m_matrix m_sides m_tried m_answers m_rowOf m_whole m_shares m_isKept m_lanes m_lengths m_cells m_torn]) C0 hw (cMo_byteAt l D κ qm m_state m_tape m_taped m_fault m_broken m_brokenAt m_spot m_here m_token m_value m_ends m_letters m_moments m_stepsAt m_steps m_latest m_matrix m_sides m_tried m_answers m_rowOf m_whole m_shares m_isKept m_lanes m_lengths m_cells m_torn m_spot r52 hk53) cv_RX7_88 ⟨rfl, rfl, Nat.le_of_ble_eq_true rfl, Nat.le_of_ble_eq_true rfl⟩ ⟨Nat.zero_le _, Nat.zero_le _⟩ [0] [] [0] rfl rfl rfl rfl (by decide) rfl rfl rfl rfl rfl hl.1 (by simp only [List.map, List.sum_cons, List.sum_nil, Value.category]; decide) dX7_readsOn_89 (fun H locs hw hn54 => ?_)
    refine lv_i2l hx hb dX7_readsOn_92 rfl ?_
    refine lv_ldc2 (v := 97) hx hb hown (hts _ kl_X7_95) dX7_readsOn_93 ?_
    refine lv_ldc2 (v := 122) hx hb hown (hts _ kl_X7_97) dX7_readsOn_96 ?_
    obtain ⟨r55, hk56, hf⟩ := b1_s hf
    refine rs_i (As := [.long (r52.toInt64), .long (97 : Int64), .long (122 : Int64)]) (rest := []) (bs' := [pMo κ qm m_state m_tape m_taped m_fault m_broken m_brokenAt m_spot m_here m_token m_value m_ends m_letters m_moments m_stepsAt m_steps m_latest m_matrix m_sides m_tried m_answers m_rowOf m_whole m_shares m_isKept m_lanes m_lengths m_cells m_torn]) C0 hw (cMo_in l D κ (r52.toInt64) (97 : Int64) (122 : Int64) r55 hk56) cs_X7_66 ⟨rfl, rfl, Nat.le_of_ble_eq_true rfl, Nat.le_of_ble_eq_true rfl⟩ ⟨Nat.zero_le _, Nat.zero_le _⟩ [] [0] [0] rfl rfl rfl rfl (by decide) rfl rfl rfl hl.1 (by simp only [List.map, List.sum_cons, List.sum_nil, Value.category]; decide) dX7_readsOn_99 (fun H locs hw hn57 => ?_)
    refine lv_if_eq (tgt := 118) hx hb dX7_readsOn_102 (by decide) (fun hc58 => ?_) (fun hc58 => ?_)
    · have hf := if_t hc58 hf
      refine lv_aload_n hx hb dX7_readsOn_118 rfl (lv_at hl 0 rfl) ?_
      refine lv_iconst (v := 1) hx hb dX7_readsOn_119 (by decide) ?_
      refine r_put C0 hw 0 8 (v := .int (1 : Int32)) (ws' := List.flatten [pMo κ qm m_state m_tape m_taped m_fault m_broken m_brokenAt m_spot m_here (1 : Int32) m_value m_ends m_letters m_moments m_stepsAt m_steps m_latest m_matrix m_sides m_tried m_answers m_rowOf m_whole m_shares m_isKept m_lanes m_lengths m_cells m_torn]) rfl rfl inX7 tyX7_ok nmX7 (by decide) lk_X7_82 rfl rfl rfl rfl (Nat.le_of_ble_eq_true rfl) dX7_readsOn_120 rfl (fun H locs hw => ?_)
      refine lv_goto (tgt := 285) hx hb dX7_readsOn_123 (by decide) ?_
      obtain ⟨rfl, rfl, rfl, rfl, rfl, rfl⟩ := e6_ hf
      exact r_vret C0 hw dX7_readsOn_285
    · have hf := if_f hc58 hf
      refine lv_aload_n hx hb dX7_readsOn_105 rfl (lv_at hl 0 rfl) ?_
      refine lv_dup hx hb dX7_readsOn_106 rfl ?_
      refine r_get C0 hw 0 6 (v := .int m_spot) rfl rfl inX7 (by decide) lk_X7_85 rfl dX7_readsOn_107 ?_
      refine lv_iconst (v := 1) hx hb dX7_readsOn_110 (by decide) ?_
      refine lv_iadd hx hb dX7_readsOn_111 ?_
      refine lv_topi (fun v59 ev59 => ?_)
      have hf := lt_s_ hf v59 ev59
      refine r_put C0 hw 0 6 (v := .int v59) (ws' := List.flatten [pMo κ qm m_state m_tape m_taped m_fault m_broken m_brokenAt v59 m_here m_token m_value m_ends m_letters m_moments m_stepsAt m_steps m_latest m_matrix m_sides m_tried m_answers m_rowOf m_whole m_shares m_isKept m_lanes m_lengths m_cells m_torn]) rfl rfl inX7 tyX7_ok nmX7 (by decide) lk_X7_85 rfl rfl rfl rfl (Nat.le_of_ble_eq_true rfl) dX7_readsOn_112 rfl (fun H locs hw => ?_)
      refine lv_goto (tgt := 84) hx hb dX7_readsOn_115 (by decide) ?_
      exact ih v59 H locs ls hw (lv_sub hl [0] rfl)  hf
set_option maxHeartbeats 4000000 in
set_option maxRecDepth 100000 in
theorem cMo_readsOn (l : Launch) (D : va_G) (κ : Nat → ClassId) (qm : Nat → Nat) (m_state m_tape : Nat → Int32) (m_taped m_fault m_broken m_brokenAt m_spot m_here m_token m_value : Int32) (m_ends m_letters m_moments m_stepsAt : Nat → Int32) (m_steps m_latest : Int32) (m_matrix m_sides m_tried m_answers : Nat → Int64) (m_rowOf : Nat → Int32) (m_whole : Int64) (m_shares m_isKept m_lanes m_lengths m_cells : Nat → Int32) (m_torn z1 z2 z3 z4 z5 z6 : Int32) (hf : FMo_readsOn m_tape m_taped m_broken m_brokenAt m_spot m_here m_token m_value = some (z1, z2, z3, z4, z5, z6)) : mV_ l yX7_readsOn (Cond.code yX7_readsOn cX7_readsOn 2 none :: uw) ({ frames := 1, cells := 0, slots := 0, locals := 25 } : Room) D (tys0 κ) [.ref (qm 0)] (List.flatten [pMo κ qm m_state m_tape m_taped m_fault m_broken m_brokenAt m_spot m_here m_token m_value m_ends m_letters m_moments m_stepsAt m_steps m_latest m_matrix m_sides m_tried m_answers m_rowOf m_whole m_shares m_isKept m_lanes m_lengths m_cells m_torn])  (List.flatten [pMo κ qm m_state m_tape m_taped m_fault z1 z2 z3 z4 z5 z6 m_ends m_letters m_moments m_stepsAt m_steps m_latest m_matrix m_sides m_tried m_answers m_rowOf m_whole m_shares m_isKept m_lanes m_lengths m_cells m_torn]) := by
  unfold FMo_readsOn at hf
  refine mV_of (by decide) (Nat.le_of_ble_eq_true rfl) ?_
  intro p e s m below meth c A ls H locs C0 hw hl
  obtain ⟨hx, hb, -, hml, hown, hts, -, -⟩ := id C0
  have hl : lv_has ls 2 [(0, .ref (qm 0))] := hl
  refine lv_aload_n hx hb dX7_readsOn_0 rfl (lv_at hl 0 rfl) ?_
  refine r_get C0 hw 0 4 (v := .int m_broken) rfl rfl inX7 (by decide) lk_X7_73 rfl dX7_readsOn_1 ?_
  refine lv_if_le (tgt := 8) hx hb dX7_readsOn_4 (by decide) (fun hc1 => ?_) (fun hc1 => ?_)
  · have hf := if_t hc1 hf
    refine wMo_readsOn_L8 C0 qm m_state m_tape m_taped m_fault m_broken m_brokenAt m_here m_token m_value m_ends m_letters m_moments m_stepsAt m_steps m_latest m_matrix m_sides m_tried m_answers m_rowOf m_whole m_shares m_isKept m_lanes m_lengths m_cells m_torn z1 z2 z3 z4 z5 z6 _ (fun w7 H locs ls hw hl  hf => ?_) 1000 m_spot H locs ls hw (lv_sub hl [0] rfl)  hf
    refine lv_aload_n hx hb dX7_readsOn_34 rfl (lv_at hl 0 rfl) ?_
    refine lv_aload_n hx hb dX7_readsOn_35 rfl (lv_at hl 0 rfl) ?_
    refine r_get C0 hw 0 6 (v := .int w7) rfl rfl inX7 (by decide) lk_X7_85 rfl dX7_readsOn_36 ?_
    refine r_put C0 hw 0 7 (v := .int w7) (ws' := List.flatten [pMo κ qm m_state m_tape m_taped m_fault m_broken m_brokenAt w7 w7 m_token m_value m_ends m_letters m_moments m_stepsAt m_steps m_latest m_matrix m_sides m_tried m_answers m_rowOf m_whole m_shares m_isKept m_lanes m_lengths m_cells m_torn]) rfl rfl inX7 tyX7_ok nmX7 (by decide) lk_X7_76 rfl rfl rfl rfl (Nat.le_of_ble_eq_true rfl) dX7_readsOn_39 rfl (fun H locs hw => ?_)
    refine lv_aload_n hx hb dX7_readsOn_42 rfl (lv_at hl 0 rfl) ?_
    refine lv_aload_n hx hb dX7_readsOn_43 rfl (lv_at hl 0 rfl) ?_
    refine r_get C0 hw 0 6 (v := .int w7) rfl rfl inX7 (by decide) lk_X7_85 rfl dX7_readsOn_44 ?_
    obtain ⟨r8, hk9, hf⟩ := b1_s hf
    refine rv_i (vq := (RX7, TX7, 28)) (As := [.int w7]) (rest := []) (bs' := [pMo κ qm m_state m_tape m_taped m_fault m_broken m_brokenAt w7 w7 m_token m_value m_ends m_letters m_moments m_stepsAt m_steps m_latest m_matrix m_sides m_tried m_answers m_rowOf m_whole m_shares m_isKept m_lanes m_lengths m_cells m_torn]) C0 hw (cMo_byteAt l D κ qm m_state m_tape m_taped m_fault m_broken m_brokenAt w7 w7 m_token m_value m_ends m_letters m_moments m_stepsAt m_steps m_latest m_matrix m_sides m_tried m_answers m_rowOf m_whole m_shares m_isKept m_lanes m_lengths m_cells m_torn w7 r8 hk9) cv_RX7_88 ⟨rfl, rfl, Nat.le_of_ble_eq_true rfl, Nat.le_of_ble_eq_true rfl⟩ ⟨Nat.zero_le _, Nat.zero_le _⟩ [0] [] [0] rfl rfl rfl rfl (by decide) rfl rfl rfl rfl rfl hl.1 (by simp only [List.map, List.sum_cons, List.sum_nil, Value.category]; decide) dX7_readsOn_47 (fun H locs hw hn10 => ?_)
    refine lv_istore_n (lv' := [(1, .int r8), (0, .ref (qm 0))]) hx hb dX7_readsOn_50 rfl hl (by decide) rfl (fun ls hl => ?_)
    refine lv_aload_n hx hb dX7_readsOn_51 rfl (lv_at hl 1 rfl) ?_
    refine lv_iconst (v := 0) hx hb dX7_readsOn_52 (by decide) ?_
    refine r_put C0 hw 0 9 (v := .int (0 : Int32)) (ws' := List.flatten [pMo κ qm m_state m_tape m_taped m_fault m_broken m_brokenAt w7 w7 m_token (0 : Int32) m_ends m_letters m_moments m_stepsAt m_steps m_latest m_matrix m_sides m_tried m_answers m_rowOf m_whole m_shares m_isKept m_lanes m_lengths m_cells m_torn]) rfl rfl inX7 tyX7_ok nmX7 (by decide) lk_X7_92 rfl rfl rfl rfl (Nat.le_of_ble_eq_true rfl) dX7_readsOn_53 rfl (fun H locs hw => ?_)
    refine lv_iload_n hx hb dX7_readsOn_56 rfl (lv_at hl 0 rfl) ?_
    refine lv_bipush (v := -4) hx hb dX7_readsOn_57 (by decide) ?_
    refine lv_icmp_ne (tgt := 70) hx hb dX7_readsOn_59 (by decide) (fun hc11 => ?_) (fun hc11 => ?_)
    · have hf := if_f hc11 hf
      refine lv_iload_n hx hb dX7_readsOn_70 rfl (lv_at hl 0 rfl) ?_
      refine lv_i2l hx hb dX7_readsOn_71 rfl ?_
      refine lv_ldc2 (v := 97) hx hb hown (hts _ kl_X7_95) dX7_readsOn_72 ?_
      refine lv_ldc2 (v := 122) hx hb hown (hts _ kl_X7_97) dX7_readsOn_75 ?_
      obtain ⟨r12, hk13, hf⟩ := b1_s hf
      refine rs_i (As := [.long (r8.toInt64), .long (97 : Int64), .long (122 : Int64)]) (rest := []) (bs' := [pMo κ qm m_state m_tape m_taped m_fault m_broken m_brokenAt w7 w7 m_token (0 : Int32) m_ends m_letters m_moments m_stepsAt m_steps m_latest m_matrix m_sides m_tried m_answers m_rowOf m_whole m_shares m_isKept m_lanes m_lengths m_cells m_torn]) C0 hw (cMo_in l D κ (r8.toInt64) (97 : Int64) (122 : Int64) r12 hk13) cs_X7_66 ⟨rfl, rfl, Nat.le_of_ble_eq_true rfl, Nat.le_of_ble_eq_true rfl⟩ ⟨Nat.zero_le _, Nat.zero_le _⟩ [] [0] [0] rfl rfl rfl rfl (by decide) rfl rfl rfl hl.1 (by simp only [List.map, List.sum_cons, List.sum_nil, Value.category]; decide) dX7_readsOn_78 (fun H locs hw hn14 => ?_)
      refine lv_if_eq (tgt := 126) hx hb dX7_readsOn_81 (by decide) (fun hc15 => ?_) (fun hc15 => ?_)
      · have hf := if_t hc15 hf
        refine lv_iload_n hx hb dX7_readsOn_126 rfl (lv_at hl 0 rfl) ?_
        refine lv_i2l hx hb dX7_readsOn_127 rfl ?_
        refine lv_ldc2 (v := 48) hx hb hown (hts _ kl_X7_99) dX7_readsOn_128 ?_
        refine lv_ldc2 (v := 57) hx hb hown (hts _ kl_X7_101) dX7_readsOn_131 ?_
        obtain ⟨r16, hk17, hf⟩ := b1_s hf
        refine rs_i (As := [.long (r8.toInt64), .long (48 : Int64), .long (57 : Int64)]) (rest := []) (bs' := [pMo κ qm m_state m_tape m_taped m_fault m_broken m_brokenAt w7 w7 m_token (0 : Int32) m_ends m_letters m_moments m_stepsAt m_steps m_latest m_matrix m_sides m_tried m_answers m_rowOf m_whole m_shares m_isKept m_lanes m_lengths m_cells m_torn]) C0 hw (cMo_in l D κ (r8.toInt64) (48 : Int64) (57 : Int64) r16 hk17) cs_X7_66 ⟨rfl, rfl, Nat.le_of_ble_eq_true rfl, Nat.le_of_ble_eq_true rfl⟩ ⟨Nat.zero_le _, Nat.zero_le _⟩ [] [0] [0] rfl rfl rfl rfl (by decide) rfl rfl rfl hl.1 (by simp only [List.map, List.sum_cons, List.sum_nil, Value.category]; decide) dX7_readsOn_134 (fun H locs hw hn18 => ?_)
        refine lv_if_eq (tgt := 243) hx hb dX7_readsOn_137 (by decide) (fun hc19 => ?_) (fun hc19 => ?_)
        · have hf := if_t hc19 hf
          refine lv_aload_n hx hb dX7_readsOn_243 rfl (lv_at hl 1 rfl) ?_
          refine lv_iload_n hx hb dX7_readsOn_244 rfl (lv_at hl 0 rfl) ?_
          refine lv_bipush (v := 45) hx hb dX7_readsOn_245 (by decide) ?_
          obtain ⟨j28, ej28, hf⟩ := lt_e hf
          have hj29 : ∀ (v20 : Int32) (H : Heap) (locs : List Loc) (ls : Array Slot), wd_ D (tys0 κ) A s (List.flatten [pMo κ qm m_state m_tape m_taped m_fault m_broken m_brokenAt w7 w7 m_token (0 : Int32) m_ends m_letters m_moments m_stepsAt m_steps m_latest m_matrix m_sides m_tried m_answers m_rowOf m_whole m_shares m_isKept m_lanes m_lengths m_cells m_torn]) H locs → lv_has ls 2 [(1, .int r8), (0, .ref (qm 0))] → j28 v20 = some (z1, z2, z3, z4, z5, z6) → W p l e ({ frames := 1, cells := 0, slots := 0, locals := 25 } : Room) s m ([.ref (qm 0)] : List Value).toArray below meth c H locs 0 0 (qV_ D (tys0 κ) A (List.flatten [pMo κ qm m_state m_tape m_taped m_fault z1 z2 z3 z4 z5 z6 m_ends m_letters m_moments m_stepsAt m_steps m_latest m_matrix m_sides m_tried m_answers m_rowOf m_whole m_shares m_isKept m_lanes m_lengths m_cells m_torn]) below ([.ref (qm 0)] : List Value).toArray s) (F0 m 255 ls [.int v20, .ref (qm 0)]) := by
            intro v20 H locs ls hw hl  hf
            have hf : (lt_ (w7 + (1 : Int32)) fun v21 => if r8 = (59 : Int32) then some (m_broken, m_brokenAt, v21, w7, v20, (0 : Int32)) else if r8 = (45 : Int32) then some (m_broken, m_brokenAt, v21, w7, v20, (0 : Int32)) else b2_ (FMo_fails m_broken m_brokenAt w7 (1 : Int32)) fun w24 w25 => some (w24, w25, v21, w7, v20, (0 : Int32))) = some (z1, z2, z3, z4, z5, z6) := by rw [ej28] at hf; exact hf
            refine r_put C0 hw 0 8 (v := .int v20) (ws' := List.flatten [pMo κ qm m_state m_tape m_taped m_fault m_broken m_brokenAt w7 w7 v20 (0 : Int32) m_ends m_letters m_moments m_stepsAt m_steps m_latest m_matrix m_sides m_tried m_answers m_rowOf m_whole m_shares m_isKept m_lanes m_lengths m_cells m_torn]) rfl rfl inX7 tyX7_ok nmX7 (by decide) lk_X7_82 rfl rfl rfl rfl (Nat.le_of_ble_eq_true rfl) dX7_readsOn_255 rfl (fun H locs hw => ?_)
            refine lv_aload_n hx hb dX7_readsOn_258 rfl (lv_at hl 1 rfl) ?_
            refine lv_dup hx hb dX7_readsOn_259 rfl ?_
            refine r_get C0 hw 0 6 (v := .int w7) rfl rfl inX7 (by decide) lk_X7_85 rfl dX7_readsOn_260 ?_
            refine lv_iconst (v := 1) hx hb dX7_readsOn_263 (by decide) ?_
            refine lv_iadd hx hb dX7_readsOn_264 ?_
            refine lv_topi (fun v21 ev21 => ?_)
            have hf := lt_s_ hf v21 ev21
            refine r_put C0 hw 0 6 (v := .int v21) (ws' := List.flatten [pMo κ qm m_state m_tape m_taped m_fault m_broken m_brokenAt v21 w7 v20 (0 : Int32) m_ends m_letters m_moments m_stepsAt m_steps m_latest m_matrix m_sides m_tried m_answers m_rowOf m_whole m_shares m_isKept m_lanes m_lengths m_cells m_torn]) rfl rfl inX7 tyX7_ok nmX7 (by decide) lk_X7_85 rfl rfl rfl rfl (Nat.le_of_ble_eq_true rfl) dX7_readsOn_265 rfl (fun H locs hw => ?_)
            refine lv_iload_n hx hb dX7_readsOn_268 rfl (lv_at hl 0 rfl) ?_
            refine lv_bipush (v := 59) hx hb dX7_readsOn_269 (by decide) ?_
            refine lv_icmp_eq (tgt := 285) hx hb dX7_readsOn_271 (by decide) (fun hc22 => ?_) (fun hc22 => ?_)
            · have hf := if_t hc22 hf
              obtain ⟨rfl, rfl, rfl, rfl, rfl, rfl⟩ := e6_ hf
              exact r_vret C0 hw dX7_readsOn_285
            · have hf := if_f hc22 hf
              refine lv_iload_n hx hb dX7_readsOn_274 rfl (lv_at hl 0 rfl) ?_
              refine lv_bipush (v := 45) hx hb dX7_readsOn_275 (by decide) ?_
              refine lv_icmp_eq (tgt := 285) hx hb dX7_readsOn_277 (by decide) (fun hc23 => ?_) (fun hc23 => ?_)
              · have hf := if_t hc23 hf
                obtain ⟨rfl, rfl, rfl, rfl, rfl, rfl⟩ := e6_ hf
                exact r_vret C0 hw dX7_readsOn_285
              · have hf := if_f hc23 hf
                refine lv_aload_n hx hb dX7_readsOn_280 rfl (lv_at hl 1 rfl) ?_
                refine lv_iconst (v := 1) hx hb dX7_readsOn_281 (by decide) ?_
                obtain ⟨w24, w25, hk26, hf⟩ := b2_s hf
                refine rv_v (vq := (RX7, TX7, 28)) (As := [.int (1 : Int32)]) (rest := []) (bs' := [pMo κ qm m_state m_tape m_taped m_fault w24 w25 v21 w7 v20 (0 : Int32) m_ends m_letters m_moments m_stepsAt m_steps m_latest m_matrix m_sides m_tried m_answers m_rowOf m_whole m_shares m_isKept m_lanes m_lengths m_cells m_torn]) C0 hw (cMo_fails l D κ qm m_state m_tape m_taped m_fault m_broken m_brokenAt v21 w7 v20 (0 : Int32) m_ends m_letters m_moments m_stepsAt m_steps m_latest m_matrix m_sides m_tried m_answers m_rowOf m_whole m_shares m_isKept m_lanes m_lengths m_cells m_torn (1 : Int32) w24 w25 hk26) cv_RX7_103 ⟨rfl, rfl, Nat.le_of_ble_eq_true rfl, Nat.le_of_ble_eq_true rfl⟩ ⟨Nat.zero_le _, Nat.zero_le _⟩ [0] [] [0] rfl rfl rfl rfl (by decide) rfl rfl rfl rfl rfl hl.1 (by simp only [List.map, List.sum_cons, List.sum_nil, Value.category]; decide) dX7_readsOn_282 (fun H locs hw => ?_)
                obtain ⟨rfl, rfl, rfl, rfl, rfl, rfl⟩ := e6_ hf
                exact r_vret C0 hw dX7_readsOn_285
          refine lv_icmp_ne (tgt := 254) hx hb dX7_readsOn_247 (by decide) (fun hc30 => ?_) (fun hc30 => ?_)
          · have hf := if_f hc30 hf
            refine lv_iconst (v := 3) hx hb dX7_readsOn_254 (by decide) ?_
            exact hj29 (3 : Int32) H locs ls hw (lv_sub hl [0, 1] rfl)  hf
          · have hf := if_t hc30 hf
            refine lv_iconst (v := 4) hx hb dX7_readsOn_250 (by decide) ?_
            refine lv_goto (tgt := 255) hx hb dX7_readsOn_251 (by decide) ?_
            exact hj29 (4 : Int32) H locs ls hw (lv_sub hl [0, 1] rfl)  hf
        · have hf := if_f hc19 hf
          refine wMo_readsOn_L140 C0 qm m_state m_tape m_taped m_fault m_broken m_brokenAt w7 m_token m_ends m_letters m_moments m_stepsAt m_steps m_latest m_matrix m_sides m_tried m_answers m_rowOf m_whole m_shares m_isKept m_lanes m_lengths m_cells m_torn z1 z2 z3 z4 z5 z6 _ (fun w45 w46 H locs ls hw hl  hf => ?_) 1000 w7 (0 : Int32) H locs ls hw (lv_sub hl [1] rfl)  hf
          refine lv_aload_n hx hb dX7_readsOn_217 rfl (lv_at hl 0 rfl) ?_
          refine lv_iconst (v := 2) hx hb dX7_readsOn_218 (by decide) ?_
          refine r_put C0 hw 0 8 (v := .int (2 : Int32)) (ws' := List.flatten [pMo κ qm m_state m_tape m_taped m_fault m_broken m_brokenAt w45 w7 (2 : Int32) w46 m_ends m_letters m_moments m_stepsAt m_steps m_latest m_matrix m_sides m_tried m_answers m_rowOf m_whole m_shares m_isKept m_lanes m_lengths m_cells m_torn]) rfl rfl inX7 tyX7_ok nmX7 (by decide) lk_X7_82 rfl rfl rfl rfl (Nat.le_of_ble_eq_true rfl) dX7_readsOn_219 rfl (fun H locs hw => ?_)
          refine lv_aload_n hx hb dX7_readsOn_222 rfl (lv_at hl 0 rfl) ?_
          refine r_get C0 hw 0 6 (v := .int w45) rfl rfl inX7 (by decide) lk_X7_85 rfl dX7_readsOn_223 ?_
          refine lv_aload_n hx hb dX7_readsOn_226 rfl (lv_at hl 0 rfl) ?_
          refine r_get C0 hw 0 7 (v := .int w7) rfl rfl inX7 (by decide) lk_X7_76 rfl dX7_readsOn_227 ?_
          refine lv_isub hx hb dX7_readsOn_230 ?_
          refine lv_iconst (v := 4) hx hb dX7_readsOn_231 (by decide) ?_
          refine lv_icmp_le (tgt := 285) hx hb dX7_readsOn_232 (by decide) (fun hc47 => ?_) (fun hc47 => ?_)
          · have hf := if_t hc47 hf
            obtain ⟨rfl, rfl, rfl, rfl, rfl, rfl⟩ := e6_ hf
            exact r_vret C0 hw dX7_readsOn_285
          · have hf := if_f hc47 hf
            refine lv_aload_n hx hb dX7_readsOn_235 rfl (lv_at hl 0 rfl) ?_
            refine lv_iconst (v := 1) hx hb dX7_readsOn_236 (by decide) ?_
            obtain ⟨w48, w49, hk50, hf⟩ := b2_s hf
            refine rv_v (vq := (RX7, TX7, 28)) (As := [.int (1 : Int32)]) (rest := []) (bs' := [pMo κ qm m_state m_tape m_taped m_fault w48 w49 w45 w7 (2 : Int32) w46 m_ends m_letters m_moments m_stepsAt m_steps m_latest m_matrix m_sides m_tried m_answers m_rowOf m_whole m_shares m_isKept m_lanes m_lengths m_cells m_torn]) C0 hw (cMo_fails l D κ qm m_state m_tape m_taped m_fault m_broken m_brokenAt w45 w7 (2 : Int32) w46 m_ends m_letters m_moments m_stepsAt m_steps m_latest m_matrix m_sides m_tried m_answers m_rowOf m_whole m_shares m_isKept m_lanes m_lengths m_cells m_torn (1 : Int32) w48 w49 hk50) cv_RX7_103 ⟨rfl, rfl, Nat.le_of_ble_eq_true rfl, Nat.le_of_ble_eq_true rfl⟩ ⟨Nat.zero_le _, Nat.zero_le _⟩ [0] [] [0] rfl rfl rfl rfl (by decide) rfl rfl rfl rfl rfl hl.1 (by simp only [List.map, List.sum_cons, List.sum_nil, Value.category]; decide) dX7_readsOn_237 (fun H locs hw => ?_)
            refine lv_goto (tgt := 285) hx hb dX7_readsOn_240 (by decide) ?_
            obtain ⟨rfl, rfl, rfl, rfl, rfl, rfl⟩ := e6_ hf
            exact r_vret C0 hw dX7_readsOn_285
      · have hf := if_f hc15 hf
        exact wMo_readsOn_L84 C0 qm m_state m_tape m_taped m_fault m_broken m_brokenAt w7 m_token (0 : Int32) m_ends m_letters m_moments m_stepsAt m_steps m_latest m_matrix m_sides m_tried m_answers m_rowOf m_whole m_shares m_isKept m_lanes m_lengths m_cells m_torn z1 z2 z3 z4 z5 z6 1000 w7 H locs ls hw (lv_sub hl [1] rfl)  hf
    · have hf := if_t hc11 hf
      refine lv_aload_n hx hb dX7_readsOn_62 rfl (lv_at hl 1 rfl) ?_
      refine lv_iconst (v := 0) hx hb dX7_readsOn_63 (by decide) ?_
      refine r_put C0 hw 0 8 (v := .int (0 : Int32)) (ws' := List.flatten [pMo κ qm m_state m_tape m_taped m_fault m_broken m_brokenAt w7 w7 (0 : Int32) (0 : Int32) m_ends m_letters m_moments m_stepsAt m_steps m_latest m_matrix m_sides m_tried m_answers m_rowOf m_whole m_shares m_isKept m_lanes m_lengths m_cells m_torn]) rfl rfl inX7 tyX7_ok nmX7 (by decide) lk_X7_82 rfl rfl rfl rfl (Nat.le_of_ble_eq_true rfl) dX7_readsOn_64 rfl (fun H locs hw => ?_)
      refine lv_goto (tgt := 285) hx hb dX7_readsOn_67 (by decide) ?_
      obtain ⟨rfl, rfl, rfl, rfl, rfl, rfl⟩ := e6_ hf
      exact r_vret C0 hw dX7_readsOn_285
  · have hf := if_f hc1 hf
    obtain ⟨rfl, rfl, rfl, rfl, rfl, rfl⟩ := e6_ hf
    exact r_vret C0 hw dX7_readsOn_7
def FMo_numberRead (m_tape : Nat → Int32) (m_taped m_broken m_brokenAt m_spot m_here m_token m_value a1 a2 : Int32) : Option (Int32 × Int32 × Int32 × Int32 × Int32 × Int32 × Int32) :=
  lt_ (fun (w1 : Int32) (w2 : Int32) =>
    lt_ (fun (w3 : Int32) (w4 : Int32) =>
      if w3 = 0 then
        b6_ (FMo_readsOn m_tape m_taped w3 w4 m_spot m_here m_token m_value) fun w14 w15 w16 w17 w18 w19 =>
        some (m_value, w14, w15, w16, w17, w18, w19)
      else
        b6_ (FMo_readsOn m_tape m_taped w3 w4 m_spot m_here m_token m_value) fun w6 w7 w8 w9 w10 w11 =>
        some (a1, w6, w7, w8, w9, w10, w11) : Int32 → Int32 → Option (Int32 × Int32 × Int32 × Int32 × Int32 × Int32 × Int32)) fun j22 =>
    if w1 = 0 then
      b1_ (FMo_in (m_value.toInt64) (a1.toInt64) (a2.toInt64)) fun r25 =>
      if r25 = 0 then
        b2_ (FMo_fails w1 w2 m_here (3 : Int32)) fun w29 w30 =>
        j22 w29 w30
      else
        j22 w1 w2
    else
      j22 w1 w2 : Int32 → Int32 → Option (Int32 × Int32 × Int32 × Int32 × Int32 × Int32 × Int32)) fun j33 =>
  if m_broken = 0 then
    if m_token = (2 : Int32) then
      j33 m_broken m_brokenAt
    else
      b2_ (FMo_fails m_broken m_brokenAt m_here (2 : Int32)) fun w37 w38 =>
      j33 w37 w38
  else
    j33 m_broken m_brokenAt
set_option maxHeartbeats 4000000 in
set_option maxRecDepth 100000 in
theorem cMo_numberRead (l : Launch) (D : va_G) (κ : Nat → ClassId) (qm : Nat → Nat) (m_state m_tape : Nat → Int32) (m_taped m_fault m_broken m_brokenAt m_spot m_here m_token m_value : Int32) (m_ends m_letters m_moments m_stepsAt : Nat → Int32) (m_steps m_latest : Int32) (m_matrix m_sides m_tried m_answers : Nat → Int64) (m_rowOf : Nat → Int32) (m_whole : Int64) (m_shares m_isKept m_lanes m_lengths m_cells : Nat → Int32) (m_torn a1 a2 zr z1 z2 z3 z4 z5 z6 : Int32) (hf : FMo_numberRead m_tape m_taped m_broken m_brokenAt m_spot m_here m_token m_value a1 a2 = some (zr, z1, z2, z3, z4, z5, z6)) : mI_ l yX7_numberRead (Cond.code yX7_numberRead cX7_numberRead 4 (some .int) :: uw) ({ frames := 2, cells := 0, slots := 0, locals := 46 } : Room) D (tys0 κ) [.ref (qm 0), .int a1, .int a2] (List.flatten [pMo κ qm m_state m_tape m_taped m_fault m_broken m_brokenAt m_spot m_here m_token m_value m_ends m_letters m_moments m_stepsAt m_steps m_latest m_matrix m_sides m_tried m_answers m_rowOf m_whole m_shares m_isKept m_lanes m_lengths m_cells m_torn]) nT_ zr (List.flatten [pMo κ qm m_state m_tape m_taped m_fault z1 z2 z3 z4 z5 z6 m_ends m_letters m_moments m_stepsAt m_steps m_latest m_matrix m_sides m_tried m_answers m_rowOf m_whole m_shares m_isKept m_lanes m_lengths m_cells m_torn]) := by
  unfold FMo_numberRead at hf
  refine mI_of (by decide) (Nat.le_of_ble_eq_true rfl) ?_
  intro p e s m below meth c A ls H locs C0 hw hl
  obtain ⟨hx, hb, -, hml, hown, hts, -, -⟩ := id C0
  have hl : lv_has ls 4 [(0, .ref (qm 0)), (1, .int a1), (2, .int a2)] := hl
  refine lv_aload_n hx hb dX7_numberRead_0 rfl (lv_at hl 0 rfl) ?_
  refine r_get C0 hw 0 4 (v := .int m_broken) rfl rfl inX7 (by decide) lk_X7_73 rfl dX7_numberRead_1 ?_
  obtain ⟨j33, ej33, hf⟩ := lt_e hf
  have hj34 : ∀ (w1 : Int32) (w2 : Int32) (H : Heap) (locs : List Loc) (ls : Array Slot), wd_ D (tys0 κ) A s (List.flatten [pMo κ qm m_state m_tape m_taped m_fault w1 w2 m_spot m_here m_token m_value m_ends m_letters m_moments m_stepsAt m_steps m_latest m_matrix m_sides m_tried m_answers m_rowOf m_whole m_shares m_isKept m_lanes m_lengths m_cells m_torn]) H locs → lv_has ls 4 [(0, .ref (qm 0)), (1, .int a1), (2, .int a2)] → j33 w1 w2 = some (zr, z1, z2, z3, z4, z5, z6) → W p l e ({ frames := 2, cells := 0, slots := 0, locals := 46 } : Room) s m ([.ref (qm 0), .int a1, .int a2] : List Value).toArray below meth c H locs 0 0 (qI_ D (tys0 κ) A nT_ zr (List.flatten [pMo κ qm m_state m_tape m_taped m_fault z1 z2 z3 z4 z5 z6 m_ends m_letters m_moments m_stepsAt m_steps m_latest m_matrix m_sides m_tried m_answers m_rowOf m_whole m_shares m_isKept m_lanes m_lengths m_cells m_torn]) below ([.ref (qm 0), .int a1, .int a2] : List Value).toArray s) (F0 m 20 ls []) := by
    intro w1 w2 H locs ls hw hl  hf
    have hf : (lt_ (fun (w3 : Int32) (w4 : Int32) => if w3 = 0 then b6_ (FMo_readsOn m_tape m_taped w3 w4 m_spot m_here m_token m_value) fun w14 w15 w16 w17 w18 w19 => some (m_value, w14, w15, w16, w17, w18, w19) else b6_ (FMo_readsOn m_tape m_taped w3 w4 m_spot m_here m_token m_value) fun w6 w7 w8 w9 w10 w11 => some (a1, w6, w7, w8, w9, w10, w11) : Int32 → Int32 → Option (Int32 × Int32 × Int32 × Int32 × Int32 × Int32 × Int32)) fun j22 => if w1 = 0 then b1_ (FMo_in (m_value.toInt64) (a1.toInt64) (a2.toInt64)) fun r25 => if r25 = 0 then b2_ (FMo_fails w1 w2 m_here (3 : Int32)) fun w29 w30 => j22 w29 w30 else j22 w1 w2 else j22 w1 w2) = some (zr, z1, z2, z3, z4, z5, z6) := by rw [ej33] at hf; exact hf
    refine lv_aload_n hx hb dX7_numberRead_20 rfl (lv_at hl 0 rfl) ?_
    refine r_get C0 hw 0 4 (v := .int w1) rfl rfl inX7 (by decide) lk_X7_73 rfl dX7_numberRead_21 ?_
    obtain ⟨j22, ej22, hf⟩ := lt_e hf
    have hj23 : ∀ (w3 : Int32) (w4 : Int32) (H : Heap) (locs : List Loc) (ls : Array Slot), wd_ D (tys0 κ) A s (List.flatten [pMo κ qm m_state m_tape m_taped m_fault w3 w4 m_spot m_here m_token m_value m_ends m_letters m_moments m_stepsAt m_steps m_latest m_matrix m_sides m_tried m_answers m_rowOf m_whole m_shares m_isKept m_lanes m_lengths m_cells m_torn]) H locs → lv_has ls 4 [(0, .ref (qm 0)), (1, .int a1)] → j22 w3 w4 = some (zr, z1, z2, z3, z4, z5, z6) → W p l e ({ frames := 2, cells := 0, slots := 0, locals := 46 } : Room) s m ([.ref (qm 0), .int a1, .int a2] : List Value).toArray below meth c H locs 0 0 (qI_ D (tys0 κ) A nT_ zr (List.flatten [pMo κ qm m_state m_tape m_taped m_fault z1 z2 z3 z4 z5 z6 m_ends m_letters m_moments m_stepsAt m_steps m_latest m_matrix m_sides m_tried m_answers m_rowOf m_whole m_shares m_isKept m_lanes m_lengths m_cells m_torn]) below ([.ref (qm 0), .int a1, .int a2] : List Value).toArray s) (F0 m 47 ls []) := by
      intro w3 w4 H locs ls hw hl  hf
      have hf : (if w3 = 0 then b6_ (FMo_readsOn m_tape m_taped w3 w4 m_spot m_here m_token m_value) fun w14 w15 w16 w17 w18 w19 => some (m_value, w14, w15, w16, w17, w18, w19) else b6_ (FMo_readsOn m_tape m_taped w3 w4 m_spot m_here m_token m_value) fun w6 w7 w8 w9 w10 w11 => some (a1, w6, w7, w8, w9, w10, w11)) = some (zr, z1, z2, z3, z4, z5, z6) := by rw [ej22] at hf; exact hf
      refine lv_aload_n hx hb dX7_numberRead_47 rfl (lv_at hl 0 rfl) ?_
      refine r_get C0 hw 0 4 (v := .int w3) rfl rfl inX7 (by decide) lk_X7_73 rfl dX7_numberRead_48 ?_
      refine lv_if_ne (tgt := 61) hx hb dX7_numberRead_51 (by decide) (fun hc5 => ?_) (fun hc5 => ?_)
      · have hf := if_f hc5 hf
        refine lv_iload_n hx hb dX7_numberRead_61 rfl (lv_at hl 1 rfl) ?_
        refine lv_istore_n (lv' := [(3, .int a1), (0, .ref (qm 0)), (1, .int a1)]) hx hb dX7_numberRead_62 rfl hl (by decide) rfl (fun ls hl => ?_)
        refine lv_aload_n hx hb dX7_numberRead_63 rfl (lv_at hl 1 rfl) ?_
        obtain ⟨w6, w7, w8, w9, w10, w11, hk12, hf⟩ := b6_s hf
        refine rv_v (vq := (RX7, TX7, 28)) (As := []) (rest := []) (bs' := [pMo κ qm m_state m_tape m_taped m_fault w6 w7 w8 w9 w10 w11 m_ends m_letters m_moments m_stepsAt m_steps m_latest m_matrix m_sides m_tried m_answers m_rowOf m_whole m_shares m_isKept m_lanes m_lengths m_cells m_torn]) C0 hw (cMo_readsOn l D κ qm m_state m_tape m_taped m_fault w3 w4 m_spot m_here m_token m_value m_ends m_letters m_moments m_stepsAt m_steps m_latest m_matrix m_sides m_tried m_answers m_rowOf m_whole m_shares m_isKept m_lanes m_lengths m_cells m_torn w6 w7 w8 w9 w10 w11 hk12) cv_RX7_107 ⟨rfl, rfl, Nat.le_of_ble_eq_true rfl, Nat.le_of_ble_eq_true rfl⟩ ⟨Nat.zero_le _, Nat.zero_le _⟩ [0] [] [0] rfl rfl rfl rfl (by decide) rfl rfl rfl rfl rfl hl.1 (by simp only [List.map, List.sum_cons, List.sum_nil, Value.category]; decide) dX7_numberRead_64 (fun H locs hw => ?_)
        refine lv_iload_n hx hb dX7_numberRead_67 rfl (lv_at hl 0 rfl) ?_
        obtain ⟨rfl, rfl, rfl, rfl, rfl, rfl, rfl⟩ := e7_ hf
        exact r_iret C0 hw trivial dX7_numberRead_68
      · have hf := if_t hc5 hf
        refine lv_aload_n hx hb dX7_numberRead_54 rfl (lv_at hl 0 rfl) ?_
        refine r_get C0 hw 0 9 (v := .int m_value) rfl rfl inX7 (by decide) lk_X7_92 rfl dX7_numberRead_55 ?_
        refine lv_goto (tgt := 62) hx hb dX7_numberRead_58 (by decide) ?_
        refine lv_istore_n (lv' := [(3, .int m_value), (0, .ref (qm 0)), (1, .int a1)]) hx hb dX7_numberRead_62 rfl hl (by decide) rfl (fun ls hl => ?_)
        refine lv_aload_n hx hb dX7_numberRead_63 rfl (lv_at hl 1 rfl) ?_
        obtain ⟨w14, w15, w16, w17, w18, w19, hk20, hf⟩ := b6_s hf
        refine rv_v (vq := (RX7, TX7, 28)) (As := []) (rest := []) (bs' := [pMo κ qm m_state m_tape m_taped m_fault w14 w15 w16 w17 w18 w19 m_ends m_letters m_moments m_stepsAt m_steps m_latest m_matrix m_sides m_tried m_answers m_rowOf m_whole m_shares m_isKept m_lanes m_lengths m_cells m_torn]) C0 hw (cMo_readsOn l D κ qm m_state m_tape m_taped m_fault w3 w4 m_spot m_here m_token m_value m_ends m_letters m_moments m_stepsAt m_steps m_latest m_matrix m_sides m_tried m_answers m_rowOf m_whole m_shares m_isKept m_lanes m_lengths m_cells m_torn w14 w15 w16 w17 w18 w19 hk20) cv_RX7_107 ⟨rfl, rfl, Nat.le_of_ble_eq_true rfl, Nat.le_of_ble_eq_true rfl⟩ ⟨Nat.zero_le _, Nat.zero_le _⟩ [0] [] [0] rfl rfl rfl rfl (by decide) rfl rfl rfl rfl rfl hl.1 (by simp only [List.map, List.sum_cons, List.sum_nil, Value.category]; decide) dX7_numberRead_64 (fun H locs hw => ?_)
        refine lv_iload_n hx hb dX7_numberRead_67 rfl (lv_at hl 0 rfl) ?_
        obtain ⟨rfl, rfl, rfl, rfl, rfl, rfl, rfl⟩ := e7_ hf
        exact r_iret C0 hw trivial dX7_numberRead_68
    refine lv_if_ne (tgt := 47) hx hb dX7_numberRead_24 (by decide) (fun hc24 => ?_) (fun hc24 => ?_)
    · have hf := if_f hc24 hf
      exact hj23 w1 w2 H locs ls hw (lv_sub hl [0, 1] rfl)  hf
    · have hf := if_t hc24 hf
      refine lv_aload_n hx hb dX7_numberRead_27 rfl (lv_at hl 0 rfl) ?_
      refine r_get C0 hw 0 9 (v := .int m_value) rfl rfl inX7 (by decide) lk_X7_92 rfl dX7_numberRead_28 ?_
      refine lv_i2l hx hb dX7_numberRead_31 rfl ?_
      refine lv_iload_n hx hb dX7_numberRead_32 rfl (lv_at hl 1 rfl) ?_
      refine lv_i2l hx hb dX7_numberRead_33 rfl ?_
      refine lv_iload_n hx hb dX7_numberRead_34 rfl (lv_at hl 2 rfl) ?_
      refine lv_i2l hx hb dX7_numberRead_35 rfl ?_
      obtain ⟨r25, hk26, hf⟩ := b1_s hf
      refine rs_i (As := [.long (m_value.toInt64), .long (a1.toInt64), .long (a2.toInt64)]) (rest := []) (bs' := [pMo κ qm m_state m_tape m_taped m_fault w1 w2 m_spot m_here m_token m_value m_ends m_letters m_moments m_stepsAt m_steps m_latest m_matrix m_sides m_tried m_answers m_rowOf m_whole m_shares m_isKept m_lanes m_lengths m_cells m_torn]) C0 hw (cMo_in l D κ (m_value.toInt64) (a1.toInt64) (a2.toInt64) r25 hk26) cs_X7_66 ⟨rfl, rfl, Nat.le_of_ble_eq_true rfl, Nat.le_of_ble_eq_true rfl⟩ ⟨Nat.zero_le _, Nat.zero_le _⟩ [] [0] [0] rfl rfl rfl rfl (by decide) rfl rfl rfl hl.1 (by simp only [List.map, List.sum_cons, List.sum_nil, Value.category]; decide) dX7_numberRead_36 (fun H locs hw hn27 => ?_)
      refine lv_if_ne (tgt := 47) hx hb dX7_numberRead_39 (by decide) (fun hc28 => ?_) (fun hc28 => ?_)
      · have hf := if_f hc28 hf
        exact hj23 w1 w2 H locs ls hw (lv_sub hl [0, 1] rfl)  hf
      · have hf := if_t hc28 hf
        refine lv_aload_n hx hb dX7_numberRead_42 rfl (lv_at hl 0 rfl) ?_
        refine lv_iconst (v := 3) hx hb dX7_numberRead_43 (by decide) ?_
        obtain ⟨w29, w30, hk31, hf⟩ := b2_s hf
        refine rv_v (vq := (RX7, TX7, 28)) (As := [.int (3 : Int32)]) (rest := []) (bs' := [pMo κ qm m_state m_tape m_taped m_fault w29 w30 m_spot m_here m_token m_value m_ends m_letters m_moments m_stepsAt m_steps m_latest m_matrix m_sides m_tried m_answers m_rowOf m_whole m_shares m_isKept m_lanes m_lengths m_cells m_torn]) C0 hw (cMo_fails l D κ qm m_state m_tape m_taped m_fault w1 w2 m_spot m_here m_token m_value m_ends m_letters m_moments m_stepsAt m_steps m_latest m_matrix m_sides m_tried m_answers m_rowOf m_whole m_shares m_isKept m_lanes m_lengths m_cells m_torn (3 : Int32) w29 w30 hk31) cv_RX7_103 ⟨rfl, rfl, Nat.le_of_ble_eq_true rfl, Nat.le_of_ble_eq_true rfl⟩ ⟨Nat.zero_le _, Nat.zero_le _⟩ [0] [] [0] rfl rfl rfl rfl (by decide) rfl rfl rfl rfl rfl hl.1 (by simp only [List.map, List.sum_cons, List.sum_nil, Value.category]; decide) dX7_numberRead_44 (fun H locs hw => ?_)
        exact hj23 w29 w30 H locs ls hw (lv_sub hl [0, 1] rfl)  hf
  refine lv_if_ne (tgt := 20) hx hb dX7_numberRead_4 (by decide) (fun hc35 => ?_) (fun hc35 => ?_)
  · have hf := if_f hc35 hf
    exact hj34 m_broken m_brokenAt H locs ls hw (lv_sub hl [0, 1, 2] rfl)  hf
  · have hf := if_t hc35 hf
    refine lv_aload_n hx hb dX7_numberRead_7 rfl (lv_at hl 0 rfl) ?_
    refine r_get C0 hw 0 8 (v := .int m_token) rfl rfl inX7 (by decide) lk_X7_82 rfl dX7_numberRead_8 ?_
    refine lv_iconst (v := 2) hx hb dX7_numberRead_11 (by decide) ?_
    refine lv_icmp_eq (tgt := 20) hx hb dX7_numberRead_12 (by decide) (fun hc36 => ?_) (fun hc36 => ?_)
    · have hf := if_t hc36 hf
      exact hj34 m_broken m_brokenAt H locs ls hw (lv_sub hl [0, 1, 2] rfl)  hf
    · have hf := if_f hc36 hf
      refine lv_aload_n hx hb dX7_numberRead_15 rfl (lv_at hl 0 rfl) ?_
      refine lv_iconst (v := 2) hx hb dX7_numberRead_16 (by decide) ?_
      obtain ⟨w37, w38, hk39, hf⟩ := b2_s hf
      refine rv_v (vq := (RX7, TX7, 28)) (As := [.int (2 : Int32)]) (rest := []) (bs' := [pMo κ qm m_state m_tape m_taped m_fault w37 w38 m_spot m_here m_token m_value m_ends m_letters m_moments m_stepsAt m_steps m_latest m_matrix m_sides m_tried m_answers m_rowOf m_whole m_shares m_isKept m_lanes m_lengths m_cells m_torn]) C0 hw (cMo_fails l D κ qm m_state m_tape m_taped m_fault m_broken m_brokenAt m_spot m_here m_token m_value m_ends m_letters m_moments m_stepsAt m_steps m_latest m_matrix m_sides m_tried m_answers m_rowOf m_whole m_shares m_isKept m_lanes m_lengths m_cells m_torn (2 : Int32) w37 w38 hk39) cv_RX7_103 ⟨rfl, rfl, Nat.le_of_ble_eq_true rfl, Nat.le_of_ble_eq_true rfl⟩ ⟨Nat.zero_le _, Nat.zero_le _⟩ [0] [] [0] rfl rfl rfl rfl (by decide) rfl rfl rfl rfl rfl hl.1 (by simp only [List.map, List.sum_cons, List.sum_nil, Value.category]; decide) dX7_numberRead_17 (fun H locs hw => ?_)
      exact hj34 w37 w38 H locs ls hw (lv_sub hl [0, 1, 2] rfl)  hf
def FMo_isLength (a1 : Int32) : Option (Int32) :=
  if a1 ≤ 0 then
    some ((0 : Int32))
  else
    if (13 : Int32) ≤ a1 then
      some ((0 : Int32))
    else
      dz_ a1 <|
      if ((12 : Int32) - (12 : Int32) / a1 * a1) = 0 then
        some ((1 : Int32))
      else
        some ((0 : Int32))
set_option maxHeartbeats 4000000 in
set_option maxRecDepth 100000 in
theorem cMo_isLength (l : Launch) (D : va_G) (κ : Nat → ClassId) (a1 zr : Int32) (hf : FMo_isLength a1 = some zr) : mI_ l yX7_isLength (Cond.code yX7_isLength cX7_isLength 1 (some .boolean) :: uw) ({ frames := 0, cells := 0, slots := 0, locals := 0 } : Room) D (tys0 κ) [.int a1] (List.flatten ([] : List va_W)) nB_ zr (List.flatten ([] : List va_W)) := by
  unfold FMo_isLength at hf
  refine mI_of (by decide) (Nat.le_of_ble_eq_true rfl) ?_
  intro p e s m below meth c A ls H locs C0 hw hl
  obtain ⟨hx, hb, -, hml, hown, hts, -, -⟩ := id C0
  have hl : lv_has ls 1 [(0, .int a1)] := hl
  refine lv_iload_n hx hb dX7_isLength_0 rfl (lv_at hl 0 rfl) ?_
  refine lv_if_le (tgt := 21) hx hb dX7_isLength_1 (by decide) (fun hc1 => ?_) (fun hc1 => ?_)
  · have hf := if_t hc1 hf
    refine lv_iconst (v := 0) hx hb dX7_isLength_21 (by decide) ?_
    obtain rfl := e1_ hf
    exact r_zret C0 hw (Or.inl rfl) dX7_isLength_22
  · have hf := if_f hc1 hf
    refine lv_iload_n hx hb dX7_isLength_4 rfl (lv_at hl 0 rfl) ?_
    refine lv_bipush (v := 13) hx hb dX7_isLength_5 (by decide) ?_
    refine lv_icmp_ge (tgt := 21) hx hb dX7_isLength_7 (by decide) (fun hc2 => ?_) (fun hc2 => ?_)
    · have hf := if_t hc2 hf
      refine lv_iconst (v := 0) hx hb dX7_isLength_21 (by decide) ?_
      obtain rfl := e1_ hf
      exact r_zret C0 hw (Or.inl rfl) dX7_isLength_22
    · have hf := if_f hc2 hf
      refine lv_bipush (v := 12) hx hb dX7_isLength_10 (by decide) ?_
      refine lv_iload_n hx hb dX7_isLength_12 rfl (lv_at hl 0 rfl) ?_
      obtain ⟨hz3, hf⟩ := dz_s hf
      refine lv_irem hx hb dX7_isLength_13 hz3 ?_
      refine lv_if_ne (tgt := 21) hx hb dX7_isLength_14 (by decide) (fun hc4 => ?_) (fun hc4 => ?_)
      · have hf := if_f hc4 hf
        refine lv_iconst (v := 0) hx hb dX7_isLength_21 (by decide) ?_
        obtain rfl := e1_ hf
        exact r_zret C0 hw (Or.inl rfl) dX7_isLength_22
      · have hf := if_t hc4 hf
        refine lv_iconst (v := 1) hx hb dX7_isLength_17 (by decide) ?_
        refine lv_goto (tgt := 22) hx hb dX7_isLength_18 (by decide) ?_
        obtain rfl := e1_ hf
        exact r_zret C0 hw (Or.inr rfl) dX7_isLength_22
def FMo_turning_L4 (m_state : Nat → Int32) (l1 : Int32) : Nat → Int32 → Int32 → Option (Int32)
  | 0, _, _ => none
  | n + 1, l2, l3 =>
      gd_ (l1 + (76 : Int32)) 395 <|
      if (m_state (l1 + (76 : Int32)).toNatClampNeg) ≤ l3 then
        some (l2)
      else
        gd_ (l1 + l3) 395 <|
        lt_ (l2 + ((1 : Int32) - (m_state (l1 + l3).toNatClampNeg))) fun v4 =>
        lt_ (l3 + (1 : Int32)) fun v5 =>
        FMo_turning_L4 m_state l1 n v4 v5
def FMo_turning (m_state : Nat → Int32) (a1 : Int32) : Option (Int32) :=
  FMo_turning_L4 m_state a1 1000 (0 : Int32) (0 : Int32)
set_option maxHeartbeats 4000000 in
set_option maxRecDepth 100000 in
theorem wMo_turning_L4 {p : Program} {l : Launch} {e : Env} {s : State} {m : MethodId} {args : Array Value} {below : List Frame} {meth : Method} {c : Code} {A : Nat → Prop} {D : va_G} {κ : Nat → ClassId} (C0 : cx_ p s m meth c args cX7_turning RX7 (some .int) 4 A) (qm : Nat → Nat) (m_state m_tape : Nat → Int32) (m_taped m_fault m_broken m_brokenAt m_spot m_here m_token m_value : Int32) (m_ends m_letters m_moments m_stepsAt : Nat → Int32) (m_steps m_latest : Int32) (m_matrix m_sides m_tried m_answers : Nat → Int64) (m_rowOf : Nat → Int32) (m_whole : Int64) (m_shares m_isKept m_lanes m_lengths m_cells : Nat → Int32) (m_torn l1 : Int32) (zr : Int32) : ∀ (n : Nat) (l2 : Int32) (l3 : Int32) (H : Heap) (locs : List Loc) (ls : Array Slot), wd_ D (tys0 κ) A s (List.flatten [pMo κ qm m_state m_tape m_taped m_fault m_broken m_brokenAt m_spot m_here m_token m_value m_ends m_letters m_moments m_stepsAt m_steps m_latest m_matrix m_sides m_tried m_answers m_rowOf m_whole m_shares m_isKept m_lanes m_lengths m_cells m_torn]) H locs → lv_has ls 4 [(0, .ref (qm 0)), (1, .int l1), (2, .int l2), (3, .int l3)] → FMo_turning_L4 m_state l1 n l2 l3 = some zr → W p l e ({ frames := 0, cells := 0, slots := 0, locals := 0 } : Room) s m args below meth c H locs 0 0 (qI_ D (tys0 κ) A nT_ zr (List.flatten [pMo κ qm m_state m_tape m_taped m_fault m_broken m_brokenAt m_spot m_here m_token m_value m_ends m_letters m_moments m_stepsAt m_steps m_latest m_matrix m_sides m_tried m_answers m_rowOf m_whole m_shares m_isKept m_lanes m_lengths m_cells m_torn]) below args s) (F0 m 4 ls []) := by
  obtain ⟨hx, hb, -, hml, hown, hts, -, -⟩ := id C0
  intro n
  induction n with
  | zero =>
    intro l2 l3 H locs ls hw hl  hf
    cases hf
  | succ n ih =>
    intro l2 l3 H locs ls hw hl  hf
    rw [FMo_turning_L4.eq_2] at hf
    refine lv_iload_n hx hb dX7_turning_4 rfl (lv_at hl 3 rfl) ?_
    refine lv_aload_n hx hb dX7_turning_5 rfl (lv_at hl 0 rfl) ?_
    refine r_get C0 hw 0 0 (v := .ref (qm 1)) rfl rfl inX7 (by decide) lk_X7_7 rfl dX7_turning_6 ?_
    refine lv_iload_n hx hb dX7_turning_9 rfl (lv_at hl 1 rfl) ?_
    refine lv_bipush (v := 76) hx hb dX7_turning_10 (by decide) ?_
    refine lv_iadd hx hb dX7_turning_12 ?_
    obtain ⟨hi1, hf⟩ := gd_s hf
    refine r_iald C0 hw 1 0 rfl rfl hi1 dX7_turning_13 ?_
    refine lv_icmp_ge (tgt := 36) hx hb dX7_turning_14 (by decide) (fun hc2 => ?_) (fun hc2 => ?_)
    · have hf := if_t hc2 hf
      refine lv_iload_n hx hb dX7_turning_36 rfl (lv_at hl 2 rfl) ?_
      obtain rfl := e1_ hf
      exact r_iret C0 hw trivial dX7_turning_37
    · have hf := if_f hc2 hf
      refine lv_iload_n hx hb dX7_turning_17 rfl (lv_at hl 2 rfl) ?_
      refine lv_iconst (v := 1) hx hb dX7_turning_18 (by decide) ?_
      refine lv_aload_n hx hb dX7_turning_19 rfl (lv_at hl 0 rfl) ?_
      refine r_get C0 hw 0 0 (v := .ref (qm 1)) rfl rfl inX7 (by decide) lk_X7_7 rfl dX7_turning_20 ?_
      refine lv_iload_n hx hb dX7_turning_23 rfl (lv_at hl 1 rfl) ?_
      refine lv_iload_n hx hb dX7_turning_24 rfl (lv_at hl 3 rfl) ?_
      refine lv_iadd hx hb dX7_turning_25 ?_
      obtain ⟨hi3, hf⟩ := gd_s hf
      refine r_iald C0 hw 1 0 rfl rfl hi3 dX7_turning_26 ?_
      refine lv_isub hx hb dX7_turning_27 ?_
      refine lv_iadd hx hb dX7_turning_28 ?_
      refine lv_topi (fun v4 ev4 => ?_)
      have hf := lt_s_ hf v4 ev4
      refine lv_istore_n (lv' := [(2, .int v4), (0, .ref (qm 0)), (1, .int l1), (3, .int l3)]) hx hb dX7_turning_29 rfl hl (by decide) rfl (fun ls hl => ?_)
      obtain ⟨v5, ev5⟩ : ∃ z : Int32, z = (l3 + (1 : Int32)) := ⟨_, rfl⟩
      have hf := lt_s_ hf v5 ev5
      refine lv_iinc (v := v5) (lv' := [(3, .int v5), (2, .int v4), (0, .ref (qm 0)), (1, .int l1)]) hx hb dX7_turning_30 hl (k := 3) rfl (by rw [ev5]; rfl) (by decide) rfl (fun ls hl => ?_)
      refine lv_goto (tgt := 4) hx hb dX7_turning_33 (by decide) ?_
      exact ih v4 v5 H locs ls hw (lv_sub hl [2, 3, 1, 0] rfl)  hf
set_option maxHeartbeats 4000000 in
set_option maxRecDepth 100000 in
theorem cMo_turning (l : Launch) (D : va_G) (κ : Nat → ClassId) (qm : Nat → Nat) (m_state m_tape : Nat → Int32) (m_taped m_fault m_broken m_brokenAt m_spot m_here m_token m_value : Int32) (m_ends m_letters m_moments m_stepsAt : Nat → Int32) (m_steps m_latest : Int32) (m_matrix m_sides m_tried m_answers : Nat → Int64) (m_rowOf : Nat → Int32) (m_whole : Int64) (m_shares m_isKept m_lanes m_lengths m_cells : Nat → Int32) (m_torn a1 zr : Int32) (hf : FMo_turning m_state a1 = some zr) : mI_ l yX7_turning (Cond.code yX7_turning cX7_turning 4 (some .int) :: uw) ({ frames := 0, cells := 0, slots := 0, locals := 0 } : Room) D (tys0 κ) [.ref (qm 0), .int a1] (List.flatten [pMo κ qm m_state m_tape m_taped m_fault m_broken m_brokenAt m_spot m_here m_token m_value m_ends m_letters m_moments m_stepsAt m_steps m_latest m_matrix m_sides m_tried m_answers m_rowOf m_whole m_shares m_isKept m_lanes m_lengths m_cells m_torn]) nT_ zr (List.flatten [pMo κ qm m_state m_tape m_taped m_fault m_broken m_brokenAt m_spot m_here m_token m_value m_ends m_letters m_moments m_stepsAt m_steps m_latest m_matrix m_sides m_tried m_answers m_rowOf m_whole m_shares m_isKept m_lanes m_lengths m_cells m_torn]) := by
  unfold FMo_turning at hf
  refine mI_of (by decide) (Nat.le_of_ble_eq_true rfl) ?_
  intro p e s m below meth c A ls H locs C0 hw hl
  obtain ⟨hx, hb, -, hml, hown, hts, -, -⟩ := id C0
  have hl : lv_has ls 4 [(0, .ref (qm 0)), (1, .int a1)] := hl
  refine lv_iconst (v := 0) hx hb dX7_turning_0 (by decide) ?_
  refine lv_istore_n (lv' := [(2, .int (0 : Int32)), (0, .ref (qm 0)), (1, .int a1)]) hx hb dX7_turning_1 rfl hl (by decide) rfl (fun ls hl => ?_)
  refine lv_iconst (v := 0) hx hb dX7_turning_2 (by decide) ?_
  refine lv_istore_n (lv' := [(3, .int (0 : Int32)), (2, .int (0 : Int32)), (0, .ref (qm 0)), (1, .int a1)]) hx hb dX7_turning_3 rfl hl (by decide) rfl (fun ls hl => ?_)
  exact wMo_turning_L4 C0 qm m_state m_tape m_taped m_fault m_broken m_brokenAt m_spot m_here m_token m_value m_ends m_letters m_moments m_stepsAt m_steps m_latest m_matrix m_sides m_tried m_answers m_rowOf m_whole m_shares m_isKept m_lanes m_lengths m_cells m_torn a1 zr 1000 (0 : Int32) (0 : Int32) H locs ls hw (lv_sub hl [2, 3, 1, 0] rfl)  hf
def FMo_readJoint (m_state m_tape : Nat → Int32) (m_taped m_broken m_brokenAt m_spot m_here m_token m_value a1 : Int32) : Option ((Nat → Int32) × Int32 × Int32 × Int32 × Int32 × Int32 × Int32) :=
  gd_ (313 : Int32) 395 <|
  lt_ (m_state (313 : Int32).toNatClampNeg) fun v2 =>
  if v2 = (6 : Int32) then
    b2_ (FMo_fails m_broken m_brokenAt m_here (5 : Int32)) fun w4 w5 =>
    some (m_state, w4, w5, m_spot, m_here, m_token, m_value)
  else
    lt_ (fun (_ : Unit) =>
      b6_ (FMo_readsOn m_tape m_taped m_broken m_brokenAt m_spot m_here m_token m_value) fun w8 w9 w10 w11 w12 w13 =>
      lt_ (fun (v16 : Int32) =>
        lt_ (fun (w17 : Int32) (w18 : Int32) (w19 : Int32) (w20 : Int32) (w21 : Int32) (w22 : Int32) =>
          b7_ (FMo_numberRead m_tape m_taped w17 w18 w20 w19 w21 w22 (0 : Int32) (9999 : Int32)) fun r23 w24 w25 w26 w27 w28 w29 =>
          gd_ ((237 : Int32) + v2) 395 <|
          lt_ (upd m_state ((237 : Int32) + v2).toNatClampNeg a1) fun w33 =>
          if v16 = 0 then
            gd_ ((243 : Int32) + v2) 395 <|
            lt_ (upd w33 ((243 : Int32) + v2).toNatClampNeg r23) fun w36 =>
            gd_ (313 : Int32) 395 <|
            gd_ (313 : Int32) 395 <|
            lt_ (upd w36 (313 : Int32).toNatClampNeg ((w36 (313 : Int32).toNatClampNeg) + (1 : Int32))) fun w39 =>
            some (w39, w24, w25, w26, w27, w28, w29)
          else
            gd_ ((243 : Int32) + v2) 395 <|
            lt_ (upd w33 ((243 : Int32) + v2).toNatClampNeg (-r23)) fun w41 =>
            gd_ (313 : Int32) 395 <|
            gd_ (313 : Int32) 395 <|
            lt_ (upd w41 (313 : Int32).toNatClampNeg ((w41 (313 : Int32).toNatClampNeg) + (1 : Int32))) fun w44 =>
            some (w44, w24, w25, w26, w27, w28, w29) : Int32 → Int32 → Int32 → Int32 → Int32 → Int32 → Option ((Nat → Int32) × Int32 × Int32 × Int32 × Int32 × Int32 × Int32)) fun j45 =>
        if v16 = 0 then
          j45 w8 w9 w11 w10 w12 w13
        else
          b6_ (FMo_readsOn m_tape m_taped w8 w9 w10 w11 w12 w13) fun w48 w49 w50 w51 w52 w53 =>
          j45 w48 w49 w51 w50 w52 w53 : Int32 → Option ((Nat → Int32) × Int32 × Int32 × Int32 × Int32 × Int32 × Int32)) fun j56 =>
      lt_ (fun (_ : Unit) =>
        j56 (0 : Int32) : Unit → Option ((Nat → Int32) × Int32 × Int32 × Int32 × Int32 × Int32 × Int32)) fun j58 =>
      if w8 = 0 then
        if w12 = (4 : Int32) then
          j56 (1 : Int32)
        else
          j58 ()
      else
        j58 () : Unit → Option ((Nat → Int32) × Int32 × Int32 × Int32 × Int32 × Int32 × Int32)) fun j62 =>
    if a1 = 0 then
      b1_ (FMo_turning m_state (237 : Int32)) fun r65 =>
      if r65 = (4 : Int32) then
        b2_ (FMo_fails m_broken m_brokenAt m_here (5 : Int32)) fun w69 w70 =>
        some (m_state, w69, w70, m_spot, m_here, m_token, m_value)
      else
        j62 ()
    else
      j62 ()
set_option maxHeartbeats 4000000 in
set_option maxRecDepth 100000 in
theorem cMo_readJoint (l : Launch) (D : va_G) (κ : Nat → ClassId) (qm : Nat → Nat) (m_state m_tape : Nat → Int32) (m_taped m_fault m_broken m_brokenAt m_spot m_here m_token m_value : Int32) (m_ends m_letters m_moments m_stepsAt : Nat → Int32) (m_steps m_latest : Int32) (m_matrix m_sides m_tried m_answers : Nat → Int64) (m_rowOf : Nat → Int32) (m_whole : Int64) (m_shares m_isKept m_lanes m_lengths m_cells : Nat → Int32) (m_torn a1 : Int32) (z1 : Nat → Int32) (z2 z3 z4 z5 z6 z7 : Int32) (hf : FMo_readJoint m_state m_tape m_taped m_broken m_brokenAt m_spot m_here m_token m_value a1 = some (z1, z2, z3, z4, z5, z6, z7)) : mV_ l yX7_readJoint (Cond.code yX7_readJoint cX7_readJoint 5 none :: uw) ({ frames := 3, cells := 0, slots := 0, locals := 69 } : Room) D (tys0 κ) [.ref (qm 0), .int a1] (List.flatten [pMo κ qm m_state m_tape m_taped m_fault m_broken m_brokenAt m_spot m_here m_token m_value m_ends m_letters m_moments m_stepsAt m_steps m_latest m_matrix m_sides m_tried m_answers m_rowOf m_whole m_shares m_isKept m_lanes m_lengths m_cells m_torn])  (List.flatten [pMo κ qm z1 m_tape m_taped m_fault z2 z3 z4 z5 z6 z7 m_ends m_letters m_moments m_stepsAt m_steps m_latest m_matrix m_sides m_tried m_answers m_rowOf m_whole m_shares m_isKept m_lanes m_lengths m_cells m_torn]) := by
  unfold FMo_readJoint at hf
  refine mV_of (by decide) (Nat.le_of_ble_eq_true rfl) ?_
  intro p e s m below meth c A ls H locs C0 hw hl
  obtain ⟨hx, hb, -, hml, hown, hts, -, -⟩ := id C0
  have hl : lv_has ls 5 [(0, .ref (qm 0)), (1, .int a1)] := hl
  refine lv_aload_n hx hb dX7_readJoint_0 rfl (lv_at hl 0 rfl) ?_
  refine r_get C0 hw 0 0 (v := .ref (qm 1)) rfl rfl inX7 (by decide) lk_X7_7 rfl dX7_readJoint_1 ?_
  refine lv_sipush (v := 313) hx hb dX7_readJoint_4 (by decide) ?_
  obtain ⟨hi1, hf⟩ := gd_s hf
  refine r_iald C0 hw 1 0 rfl rfl hi1 dX7_readJoint_7 ?_
  refine lv_topi (fun v2 ev2 => ?_)
  have hf := lt_s_ hf v2 ev2
  refine lv_istore_n (lv' := [(2, .int v2), (0, .ref (qm 0)), (1, .int a1)]) hx hb dX7_readJoint_8 rfl hl (by decide) rfl (fun ls hl => ?_)
  refine lv_iload_n hx hb dX7_readJoint_9 rfl (lv_at hl 0 rfl) ?_
  refine lv_bipush (v := 6) hx hb dX7_readJoint_10 (by decide) ?_
  refine lv_icmp_eq (tgt := 30) hx hb dX7_readJoint_12 (by decide) (fun hc3 => ?_) (fun hc3 => ?_)
  · have hf := if_t hc3 hf
    refine lv_aload_n hx hb dX7_readJoint_30 rfl (lv_at hl 1 rfl) ?_
    refine lv_iconst (v := 5) hx hb dX7_readJoint_31 (by decide) ?_
    obtain ⟨w4, w5, hk6, hf⟩ := b2_s hf
    refine rv_v (vq := (RX7, TX7, 28)) (As := [.int (5 : Int32)]) (rest := []) (bs' := [pMo κ qm m_state m_tape m_taped m_fault w4 w5 m_spot m_here m_token m_value m_ends m_letters m_moments m_stepsAt m_steps m_latest m_matrix m_sides m_tried m_answers m_rowOf m_whole m_shares m_isKept m_lanes m_lengths m_cells m_torn]) C0 hw (cMo_fails l D κ qm m_state m_tape m_taped m_fault m_broken m_brokenAt m_spot m_here m_token m_value m_ends m_letters m_moments m_stepsAt m_steps m_latest m_matrix m_sides m_tried m_answers m_rowOf m_whole m_shares m_isKept m_lanes m_lengths m_cells m_torn (5 : Int32) w4 w5 hk6) cv_RX7_103 ⟨rfl, rfl, Nat.le_of_ble_eq_true rfl, Nat.le_of_ble_eq_true rfl⟩ ⟨Nat.zero_le _, Nat.zero_le _⟩ [0] [] [0] rfl rfl rfl rfl (by decide) rfl rfl rfl rfl rfl hl.1 (by simp only [List.map, List.sum_cons, List.sum_nil, Value.category]; decide) dX7_readJoint_32 (fun H locs hw => ?_)
    obtain ⟨rfl, rfl, rfl, rfl, rfl, rfl, rfl⟩ := e7_ hf
    exact r_vret C0 hw dX7_readJoint_35
  · have hf := if_f hc3 hf
    refine lv_iload_n hx hb dX7_readJoint_15 rfl (lv_at hl 2 rfl) ?_
    obtain ⟨j62, ej62, hf⟩ := lt_e hf
    have hj63 : ∀  (H : Heap) (locs : List Loc) (ls : Array Slot), wd_ D (tys0 κ) A s (List.flatten [pMo κ qm m_state m_tape m_taped m_fault m_broken m_brokenAt m_spot m_here m_token m_value m_ends m_letters m_moments m_stepsAt m_steps m_latest m_matrix m_sides m_tried m_answers m_rowOf m_whole m_shares m_isKept m_lanes m_lengths m_cells m_torn]) H locs → lv_has ls 5 [(2, .int v2), (0, .ref (qm 0)), (1, .int a1)] → j62 () = some (z1, z2, z3, z4, z5, z6, z7) → W p l e ({ frames := 3, cells := 0, slots := 0, locals := 69 } : Room) s m ([.ref (qm 0), .int a1] : List Value).toArray below meth c H locs 0 0 (qV_ D (tys0 κ) A (List.flatten [pMo κ qm z1 m_tape m_taped m_fault z2 z3 z4 z5 z6 z7 m_ends m_letters m_moments m_stepsAt m_steps m_latest m_matrix m_sides m_tried m_answers m_rowOf m_whole m_shares m_isKept m_lanes m_lengths m_cells m_torn]) below ([.ref (qm 0), .int a1] : List Value).toArray s) (F0 m 36 ls []) := by
      intro  H locs ls hw hl  hf
      have hf : (b6_ (FMo_readsOn m_tape m_taped m_broken m_brokenAt m_spot m_here m_token m_value) fun w8 w9 w10 w11 w12 w13 => lt_ (fun (v16 : Int32) => lt_ (fun (w17 : Int32) (w18 : Int32) (w19 : Int32) (w20 : Int32) (w21 : Int32) (w22 : Int32) => b7_ (FMo_numberRead m_tape m_taped w17 w18 w20 w19 w21 w22 (0 : Int32) (9999 : Int32)) fun r23 w24 w25 w26 w27 w28 w29 => gd_ ((237 : Int32) + v2) 395 <| lt_ (upd m_state ((237 : Int32) + v2).toNatClampNeg a1) fun w33 => if v16 = 0 then gd_ ((243 : Int32) + v2) 395 <| lt_ (upd w33 ((243 : Int32) + v2).toNatClampNeg r23) fun w36 => gd_ (313 : Int32) 395 <| gd_ (313 : Int32) 395 <| lt_ (upd w36 (313 : Int32).toNatClampNeg ((w36 (313 : Int32).toNatClampNeg) + (1 : Int32))) fun w39 => some (w39, w24, w25, w26, w27, w28, w29) else gd_ ((243 : Int32) + v2) 395 <| lt_ (upd w33 ((243 : Int32) + v2).toNatClampNeg (-r23)) fun w41 => gd_ (313 : Int32) 395 <| gd_ (313 : Int32) 395 <| lt_ (upd w41 (313 : Int32).toNatClampNeg ((w41 (313 : Int32).toNatClampNeg) + (1 : Int32))) fun w44 => some (w44, w24, w25, w26, w27, w28, w29) : Int32 → Int32 → Int32 → Int32 → Int32 → Int32 → Option ((Nat → Int32) × Int32 × Int32 × Int32 × Int32 × Int32 × Int32)) fun j45 => if v16 = 0 then j45 w8 w9 w11 w10 w12 w13 else b6_ (FMo_readsOn m_tape m_taped w8 w9 w10 w11 w12 w13) fun w48 w49 w50 w51 w52 w53 => j45 w48 w49 w51 w50 w52 w53 : Int32 → Option ((Nat → Int32) × Int32 × Int32 × Int32 × Int32 × Int32 × Int32)) fun j56 => lt_ (fun (_ : Unit) => j56 (0 : Int32) : Unit → Option ((Nat → Int32) × Int32 × Int32 × Int32 × Int32 × Int32 × Int32)) fun j58 => if w8 = 0 then if w12 = (4 : Int32) then j56 (1 : Int32) else j58 () else j58 ()) = some (z1, z2, z3, z4, z5, z6, z7) := by rw [ej62] at hf; exact hf
      refine lv_aload_n hx hb dX7_readJoint_36 rfl (lv_at hl 1 rfl) ?_
      obtain ⟨w8, w9, w10, w11, w12, w13, hk14, hf⟩ := b6_s hf
      refine rv_v (vq := (RX7, TX7, 28)) (As := []) (rest := []) (bs' := [pMo κ qm m_state m_tape m_taped m_fault w8 w9 w10 w11 w12 w13 m_ends m_letters m_moments m_stepsAt m_steps m_latest m_matrix m_sides m_tried m_answers m_rowOf m_whole m_shares m_isKept m_lanes m_lengths m_cells m_torn]) C0 hw (cMo_readsOn l D κ qm m_state m_tape m_taped m_fault m_broken m_brokenAt m_spot m_here m_token m_value m_ends m_letters m_moments m_stepsAt m_steps m_latest m_matrix m_sides m_tried m_answers m_rowOf m_whole m_shares m_isKept m_lanes m_lengths m_cells m_torn w8 w9 w10 w11 w12 w13 hk14) cv_RX7_107 ⟨rfl, rfl, Nat.le_of_ble_eq_true rfl, Nat.le_of_ble_eq_true rfl⟩ ⟨Nat.zero_le _, Nat.zero_le _⟩ [0] [] [0] rfl rfl rfl rfl (by decide) rfl rfl rfl rfl rfl hl.1 (by simp only [List.map, List.sum_cons, List.sum_nil, Value.category]; decide) dX7_readJoint_37 (fun H locs hw => ?_)
      refine lv_aload_n hx hb dX7_readJoint_40 rfl (lv_at hl 1 rfl) ?_
      refine r_get C0 hw 0 4 (v := .int w8) rfl rfl inX7 (by decide) lk_X7_73 rfl dX7_readJoint_41 ?_
      obtain ⟨j56, ej56, hf⟩ := lt_e hf
      have hj57 : ∀ (v16 : Int32) (H : Heap) (locs : List Loc) (ls : Array Slot), wd_ D (tys0 κ) A s (List.flatten [pMo κ qm m_state m_tape m_taped m_fault w8 w9 w10 w11 w12 w13 m_ends m_letters m_moments m_stepsAt m_steps m_latest m_matrix m_sides m_tried m_answers m_rowOf m_whole m_shares m_isKept m_lanes m_lengths m_cells m_torn]) H locs → lv_has ls 5 [(2, .int v2), (0, .ref (qm 0)), (1, .int a1)] → j56 v16 = some (z1, z2, z3, z4, z5, z6, z7) → W p l e ({ frames := 3, cells := 0, slots := 0, locals := 69 } : Room) s m ([.ref (qm 0), .int a1] : List Value).toArray below meth c H locs 0 0 (qV_ D (tys0 κ) A (List.flatten [pMo κ qm z1 m_tape m_taped m_fault z2 z3 z4 z5 z6 z7 m_ends m_letters m_moments m_stepsAt m_steps m_latest m_matrix m_sides m_tried m_answers m_rowOf m_whole m_shares m_isKept m_lanes m_lengths m_cells m_torn]) below ([.ref (qm 0), .int a1] : List Value).toArray s) (F0 m 60 ls [.int v16]) := by
        intro v16 H locs ls hw hl  hf
        have hf : (lt_ (fun (w17 : Int32) (w18 : Int32) (w19 : Int32) (w20 : Int32) (w21 : Int32) (w22 : Int32) => b7_ (FMo_numberRead m_tape m_taped w17 w18 w20 w19 w21 w22 (0 : Int32) (9999 : Int32)) fun r23 w24 w25 w26 w27 w28 w29 => gd_ ((237 : Int32) + v2) 395 <| lt_ (upd m_state ((237 : Int32) + v2).toNatClampNeg a1) fun w33 => if v16 = 0 then gd_ ((243 : Int32) + v2) 395 <| lt_ (upd w33 ((243 : Int32) + v2).toNatClampNeg r23) fun w36 => gd_ (313 : Int32) 395 <| gd_ (313 : Int32) 395 <| lt_ (upd w36 (313 : Int32).toNatClampNeg ((w36 (313 : Int32).toNatClampNeg) + (1 : Int32))) fun w39 => some (w39, w24, w25, w26, w27, w28, w29) else gd_ ((243 : Int32) + v2) 395 <| lt_ (upd w33 ((243 : Int32) + v2).toNatClampNeg (-r23)) fun w41 => gd_ (313 : Int32) 395 <| gd_ (313 : Int32) 395 <| lt_ (upd w41 (313 : Int32).toNatClampNeg ((w41 (313 : Int32).toNatClampNeg) + (1 : Int32))) fun w44 => some (w44, w24, w25, w26, w27, w28, w29) : Int32 → Int32 → Int32 → Int32 → Int32 → Int32 → Option ((Nat → Int32) × Int32 × Int32 × Int32 × Int32 × Int32 × Int32)) fun j45 => if v16 = 0 then j45 w8 w9 w11 w10 w12 w13 else b6_ (FMo_readsOn m_tape m_taped w8 w9 w10 w11 w12 w13) fun w48 w49 w50 w51 w52 w53 => j45 w48 w49 w51 w50 w52 w53) = some (z1, z2, z3, z4, z5, z6, z7) := by rw [ej56] at hf; exact hf
        refine lv_istore_n (lv' := [(3, .int v16), (2, .int v2), (0, .ref (qm 0)), (1, .int a1)]) hx hb dX7_readJoint_60 rfl hl (by decide) rfl (fun ls hl => ?_)
        refine lv_iload_n hx hb dX7_readJoint_61 rfl (lv_at hl 0 rfl) ?_
        obtain ⟨j45, ej45, hf⟩ := lt_e hf
        have hj46 : ∀ (w17 : Int32) (w18 : Int32) (w19 : Int32) (w20 : Int32) (w21 : Int32) (w22 : Int32) (H : Heap) (locs : List Loc) (ls : Array Slot), wd_ D (tys0 κ) A s (List.flatten [pMo κ qm m_state m_tape m_taped m_fault w17 w18 w20 w19 w21 w22 m_ends m_letters m_moments m_stepsAt m_steps m_latest m_matrix m_sides m_tried m_answers m_rowOf m_whole m_shares m_isKept m_lanes m_lengths m_cells m_torn]) H locs → lv_has ls 5 [(3, .int v16), (2, .int v2), (0, .ref (qm 0)), (1, .int a1)] → j45 w17 w18 w19 w20 w21 w22 = some (z1, z2, z3, z4, z5, z6, z7) → W p l e ({ frames := 3, cells := 0, slots := 0, locals := 69 } : Room) s m ([.ref (qm 0), .int a1] : List Value).toArray below meth c H locs 0 0 (qV_ D (tys0 κ) A (List.flatten [pMo κ qm z1 m_tape m_taped m_fault z2 z3 z4 z5 z6 z7 m_ends m_letters m_moments m_stepsAt m_steps m_latest m_matrix m_sides m_tried m_answers m_rowOf m_whole m_shares m_isKept m_lanes m_lengths m_cells m_torn]) below ([.ref (qm 0), .int a1] : List Value).toArray s) (F0 m 69 ls []) := by
          intro w17 w18 w19 w20 w21 w22 H locs ls hw hl  hf
          have hf : (b7_ (FMo_numberRead m_tape m_taped w17 w18 w20 w19 w21 w22 (0 : Int32) (9999 : Int32)) fun r23 w24 w25 w26 w27 w28 w29 => gd_ ((237 : Int32) + v2) 395 <| lt_ (upd m_state ((237 : Int32) + v2).toNatClampNeg a1) fun w33 => if v16 = 0 then gd_ ((243 : Int32) + v2) 395 <| lt_ (upd w33 ((243 : Int32) + v2).toNatClampNeg r23) fun w36 => gd_ (313 : Int32) 395 <| gd_ (313 : Int32) 395 <| lt_ (upd w36 (313 : Int32).toNatClampNeg ((w36 (313 : Int32).toNatClampNeg) + (1 : Int32))) fun w39 => some (w39, w24, w25, w26, w27, w28, w29) else gd_ ((243 : Int32) + v2) 395 <| lt_ (upd w33 ((243 : Int32) + v2).toNatClampNeg (-r23)) fun w41 => gd_ (313 : Int32) 395 <| gd_ (313 : Int32) 395 <| lt_ (upd w41 (313 : Int32).toNatClampNeg ((w41 (313 : Int32).toNatClampNeg) + (1 : Int32))) fun w44 => some (w44, w24, w25, w26, w27, w28, w29)) = some (z1, z2, z3, z4, z5, z6, z7) := by rw [ej45] at hf; exact hf
          refine lv_aload_n hx hb dX7_readJoint_69 rfl (lv_at hl 2 rfl) ?_
          refine lv_iconst (v := 0) hx hb dX7_readJoint_70 (by decide) ?_
          refine lv_sipush (v := 9999) hx hb dX7_readJoint_71 (by decide) ?_
          obtain ⟨r23, w24, w25, w26, w27, w28, w29, hk30, hf⟩ := b7_s hf
          refine rv_i (vq := (RX7, TX7, 28)) (As := [.int (0 : Int32), .int (9999 : Int32)]) (rest := []) (bs' := [pMo κ qm m_state m_tape m_taped m_fault w24 w25 w26 w27 w28 w29 m_ends m_letters m_moments m_stepsAt m_steps m_latest m_matrix m_sides m_tried m_answers m_rowOf m_whole m_shares m_isKept m_lanes m_lengths m_cells m_torn]) C0 hw (cMo_numberRead l D κ qm m_state m_tape m_taped m_fault w17 w18 w20 w19 w21 w22 m_ends m_letters m_moments m_stepsAt m_steps m_latest m_matrix m_sides m_tried m_answers m_rowOf m_whole m_shares m_isKept m_lanes m_lengths m_cells m_torn (0 : Int32) (9999 : Int32) r23 w24 w25 w26 w27 w28 w29 hk30) cv_RX7_113 ⟨rfl, rfl, Nat.le_of_ble_eq_true rfl, Nat.le_of_ble_eq_true rfl⟩ ⟨Nat.zero_le _, Nat.zero_le _⟩ [0] [] [0] rfl rfl rfl rfl (by decide) rfl rfl rfl rfl rfl hl.1 (by simp only [List.map, List.sum_cons, List.sum_nil, Value.category]; decide) dX7_readJoint_74 (fun H locs hw hn31 => ?_)
          refine lv_istore (lv' := [(4, .int r23), (3, .int v16), (2, .int v2), (0, .ref (qm 0)), (1, .int a1)]) hx hb dX7_readJoint_77 hl (by decide) rfl (fun ls hl => ?_)
          refine lv_aload_n hx hb dX7_readJoint_79 rfl (lv_at hl 3 rfl) ?_
          refine r_get C0 hw 0 0 (v := .ref (qm 1)) rfl rfl inX7 (by decide) lk_X7_7 rfl dX7_readJoint_80 ?_
          refine lv_sipush (v := 237) hx hb dX7_readJoint_83 (by decide) ?_
          refine lv_iload_n hx hb dX7_readJoint_86 rfl (lv_at hl 2 rfl) ?_
          refine lv_iadd hx hb dX7_readJoint_87 ?_
          refine lv_iload_n hx hb dX7_readJoint_88 rfl (lv_at hl 4 rfl) ?_
          obtain ⟨hi32, hf⟩ := gd_s hf
          obtain ⟨w33, ew33⟩ : ∃ z : Nat → Int32, z = (upd m_state ((237 : Int32) + v2).toNatClampNeg a1) := ⟨_, rfl⟩
          have hf := lt_s_ hf w33 ew33
          refine r_iast C0 hw 1 0 rfl rfl hi32 dX7_readJoint_89 (ws' := List.flatten [pMo κ qm w33 m_tape m_taped m_fault w24 w25 w26 w27 w28 w29 m_ends m_letters m_moments m_stepsAt m_steps m_latest m_matrix m_sides m_tried m_answers m_rowOf m_whole m_shares m_isKept m_lanes m_lengths m_cells m_torn]) (by subst ew33; rfl) (fun H locs hw => ?_)
          refine lv_aload_n hx hb dX7_readJoint_90 rfl (lv_at hl 3 rfl) ?_
          refine r_get C0 hw 0 0 (v := .ref (qm 1)) rfl rfl inX7 (by decide) lk_X7_7 rfl dX7_readJoint_91 ?_
          refine lv_sipush (v := 243) hx hb dX7_readJoint_94 (by decide) ?_
          refine lv_iload_n hx hb dX7_readJoint_97 rfl (lv_at hl 2 rfl) ?_
          refine lv_iadd hx hb dX7_readJoint_98 ?_
          refine lv_iload_n hx hb dX7_readJoint_99 rfl (lv_at hl 1 rfl) ?_
          refine lv_if_eq (tgt := 109) hx hb dX7_readJoint_100 (by decide) (fun hc34 => ?_) (fun hc34 => ?_)
          · have hf := if_t hc34 hf
            refine lv_iload hx hb dX7_readJoint_109 (lv_at hl 0 rfl) ?_
            obtain ⟨hi35, hf⟩ := gd_s hf
            obtain ⟨w36, ew36⟩ : ∃ z : Nat → Int32, z = (upd w33 ((243 : Int32) + v2).toNatClampNeg r23) := ⟨_, rfl⟩
            have hf := lt_s_ hf w36 ew36
            refine r_iast C0 hw 1 0 rfl rfl hi35 dX7_readJoint_111 (ws' := List.flatten [pMo κ qm w36 m_tape m_taped m_fault w24 w25 w26 w27 w28 w29 m_ends m_letters m_moments m_stepsAt m_steps m_latest m_matrix m_sides m_tried m_answers m_rowOf m_whole m_shares m_isKept m_lanes m_lengths m_cells m_torn]) (by subst ew36; rfl) (fun H locs hw => ?_)
            refine lv_aload_n hx hb dX7_readJoint_112 rfl (lv_at hl 3 rfl) ?_
            refine r_get C0 hw 0 0 (v := .ref (qm 1)) rfl rfl inX7 (by decide) lk_X7_7 rfl dX7_readJoint_113 ?_
            refine lv_sipush (v := 313) hx hb dX7_readJoint_116 (by decide) ?_
            refine lv_dup2_11 hx hb dX7_readJoint_119 rfl rfl ?_
            obtain ⟨hi37, hf⟩ := gd_s hf
            refine r_iald C0 hw 1 0 rfl rfl hi37 dX7_readJoint_120 ?_
            refine lv_iconst (v := 1) hx hb dX7_readJoint_121 (by decide) ?_
            refine lv_iadd hx hb dX7_readJoint_122 ?_
            obtain ⟨hi38, hf⟩ := gd_s hf
            obtain ⟨w39, ew39⟩ : ∃ z : Nat → Int32, z = (upd w36 (313 : Int32).toNatClampNeg ((w36 (313 : Int32).toNatClampNeg) + (1 : Int32))) := ⟨_, rfl⟩
            have hf := lt_s_ hf w39 ew39
            refine r_iast C0 hw 1 0 rfl rfl hi38 dX7_readJoint_123 (ws' := List.flatten [pMo κ qm w39 m_tape m_taped m_fault w24 w25 w26 w27 w28 w29 m_ends m_letters m_moments m_stepsAt m_steps m_latest m_matrix m_sides m_tried m_answers m_rowOf m_whole m_shares m_isKept m_lanes m_lengths m_cells m_torn]) (by subst ew39; rfl) (fun H locs hw => ?_)
            obtain ⟨rfl, rfl, rfl, rfl, rfl, rfl, rfl⟩ := e7_ hf
            exact r_vret C0 hw dX7_readJoint_124
          · have hf := if_f hc34 hf
            refine lv_iload hx hb dX7_readJoint_103 (lv_at hl 0 rfl) ?_
            refine lv_ineg hx hb dX7_readJoint_105 ?_
            refine lv_goto (tgt := 111) hx hb dX7_readJoint_106 (by decide) ?_
            obtain ⟨hi40, hf⟩ := gd_s hf
            obtain ⟨w41, ew41⟩ : ∃ z : Nat → Int32, z = (upd w33 ((243 : Int32) + v2).toNatClampNeg (-r23)) := ⟨_, rfl⟩
            have hf := lt_s_ hf w41 ew41
            refine r_iast C0 hw 1 0 rfl rfl hi40 dX7_readJoint_111 (ws' := List.flatten [pMo κ qm w41 m_tape m_taped m_fault w24 w25 w26 w27 w28 w29 m_ends m_letters m_moments m_stepsAt m_steps m_latest m_matrix m_sides m_tried m_answers m_rowOf m_whole m_shares m_isKept m_lanes m_lengths m_cells m_torn]) (by subst ew41; rfl) (fun H locs hw => ?_)
            refine lv_aload_n hx hb dX7_readJoint_112 rfl (lv_at hl 3 rfl) ?_
            refine r_get C0 hw 0 0 (v := .ref (qm 1)) rfl rfl inX7 (by decide) lk_X7_7 rfl dX7_readJoint_113 ?_
            refine lv_sipush (v := 313) hx hb dX7_readJoint_116 (by decide) ?_
            refine lv_dup2_11 hx hb dX7_readJoint_119 rfl rfl ?_
            obtain ⟨hi42, hf⟩ := gd_s hf
            refine r_iald C0 hw 1 0 rfl rfl hi42 dX7_readJoint_120 ?_
            refine lv_iconst (v := 1) hx hb dX7_readJoint_121 (by decide) ?_
            refine lv_iadd hx hb dX7_readJoint_122 ?_
            obtain ⟨hi43, hf⟩ := gd_s hf
            obtain ⟨w44, ew44⟩ : ∃ z : Nat → Int32, z = (upd w41 (313 : Int32).toNatClampNeg ((w41 (313 : Int32).toNatClampNeg) + (1 : Int32))) := ⟨_, rfl⟩
            have hf := lt_s_ hf w44 ew44
            refine r_iast C0 hw 1 0 rfl rfl hi43 dX7_readJoint_123 (ws' := List.flatten [pMo κ qm w44 m_tape m_taped m_fault w24 w25 w26 w27 w28 w29 m_ends m_letters m_moments m_stepsAt m_steps m_latest m_matrix m_sides m_tried m_answers m_rowOf m_whole m_shares m_isKept m_lanes m_lengths m_cells m_torn]) (by subst ew44; rfl) (fun H locs hw => ?_)
            obtain ⟨rfl, rfl, rfl, rfl, rfl, rfl, rfl⟩ := e7_ hf
            exact r_vret C0 hw dX7_readJoint_124
        refine lv_if_eq (tgt := 69) hx hb dX7_readJoint_62 (by decide) (fun hc47 => ?_) (fun hc47 => ?_)
        · have hf := if_t hc47 hf
          exact hj46 w8 w9 w11 w10 w12 w13 H locs ls hw (lv_sub hl [0, 1, 2, 3] rfl)  hf
        · have hf := if_f hc47 hf
          refine lv_aload_n hx hb dX7_readJoint_65 rfl (lv_at hl 2 rfl) ?_
          obtain ⟨w48, w49, w50, w51, w52, w53, hk54, hf⟩ := b6_s hf
          refine rv_v (vq := (RX7, TX7, 28)) (As := []) (rest := []) (bs' := [pMo κ qm m_state m_tape m_taped m_fault w48 w49 w50 w51 w52 w53 m_ends m_letters m_moments m_stepsAt m_steps m_latest m_matrix m_sides m_tried m_answers m_rowOf m_whole m_shares m_isKept m_lanes m_lengths m_cells m_torn]) C0 hw (cMo_readsOn l D κ qm m_state m_tape m_taped m_fault w8 w9 w10 w11 w12 w13 m_ends m_letters m_moments m_stepsAt m_steps m_latest m_matrix m_sides m_tried m_answers m_rowOf m_whole m_shares m_isKept m_lanes m_lengths m_cells m_torn w48 w49 w50 w51 w52 w53 hk54) cv_RX7_107 ⟨rfl, rfl, Nat.le_of_ble_eq_true rfl, Nat.le_of_ble_eq_true rfl⟩ ⟨Nat.zero_le _, Nat.zero_le _⟩ [0] [] [0] rfl rfl rfl rfl (by decide) rfl rfl rfl rfl rfl hl.1 (by simp only [List.map, List.sum_cons, List.sum_nil, Value.category]; decide) dX7_readJoint_66 (fun H locs hw => ?_)
          exact hj46 w48 w49 w51 w50 w52 w53 H locs ls hw (lv_sub hl [0, 1, 2, 3] rfl)  hf
      obtain ⟨j58, ej58, hf⟩ := lt_e hf
      have hj59 : ∀  (H : Heap) (locs : List Loc) (ls : Array Slot), wd_ D (tys0 κ) A s (List.flatten [pMo κ qm m_state m_tape m_taped m_fault w8 w9 w10 w11 w12 w13 m_ends m_letters m_moments m_stepsAt m_steps m_latest m_matrix m_sides m_tried m_answers m_rowOf m_whole m_shares m_isKept m_lanes m_lengths m_cells m_torn]) H locs → lv_has ls 5 [(2, .int v2), (0, .ref (qm 0)), (1, .int a1)] → j58 () = some (z1, z2, z3, z4, z5, z6, z7) → W p l e ({ frames := 3, cells := 0, slots := 0, locals := 69 } : Room) s m ([.ref (qm 0), .int a1] : List Value).toArray below meth c H locs 0 0 (qV_ D (tys0 κ) A (List.flatten [pMo κ qm z1 m_tape m_taped m_fault z2 z3 z4 z5 z6 z7 m_ends m_letters m_moments m_stepsAt m_steps m_latest m_matrix m_sides m_tried m_answers m_rowOf m_whole m_shares m_isKept m_lanes m_lengths m_cells m_torn]) below ([.ref (qm 0), .int a1] : List Value).toArray s) (F0 m 59 ls []) := by
        intro  H locs ls hw hl  hf
        have hf : (j56 (0 : Int32)) = some (z1, z2, z3, z4, z5, z6, z7) := by rw [ej58] at hf; exact hf
        refine lv_iconst (v := 0) hx hb dX7_readJoint_59 (by decide) ?_
        exact hj57 (0 : Int32) H locs ls hw (lv_sub hl [0, 1, 2] rfl)  hf
      refine lv_if_ne (tgt := 59) hx hb dX7_readJoint_44 (by decide) (fun hc60 => ?_) (fun hc60 => ?_)
      · have hf := if_f hc60 hf
        exact hj59  H locs ls hw (lv_sub hl [0, 1, 2] rfl)  hf
      · have hf := if_t hc60 hf
        refine lv_aload_n hx hb dX7_readJoint_47 rfl (lv_at hl 1 rfl) ?_
        refine r_get C0 hw 0 8 (v := .int w12) rfl rfl inX7 (by decide) lk_X7_82 rfl dX7_readJoint_48 ?_
        refine lv_iconst (v := 4) hx hb dX7_readJoint_51 (by decide) ?_
        refine lv_icmp_ne (tgt := 59) hx hb dX7_readJoint_52 (by decide) (fun hc61 => ?_) (fun hc61 => ?_)
        · have hf := if_f hc61 hf
          exact hj59  H locs ls hw (lv_sub hl [0, 1, 2] rfl)  hf
        · have hf := if_t hc61 hf
          refine lv_iconst (v := 1) hx hb dX7_readJoint_55 (by decide) ?_
          refine lv_goto (tgt := 60) hx hb dX7_readJoint_56 (by decide) ?_
          exact hj57 (1 : Int32) H locs ls hw (lv_sub hl [0, 1, 2] rfl)  hf
    refine lv_if_ne (tgt := 36) hx hb dX7_readJoint_16 (by decide) (fun hc64 => ?_) (fun hc64 => ?_)
    · have hf := if_f hc64 hf
      exact hj63  H locs ls hw (lv_sub hl [0, 1, 2] rfl)  hf
    · have hf := if_t hc64 hf
      refine lv_aload_n hx hb dX7_readJoint_19 rfl (lv_at hl 1 rfl) ?_
      refine lv_sipush (v := 237) hx hb dX7_readJoint_20 (by decide) ?_
      obtain ⟨r65, hk66, hf⟩ := b1_s hf
      refine rv_i (vq := (RX7, TX7, 28)) (As := [.int (237 : Int32)]) (rest := []) (bs' := [pMo κ qm m_state m_tape m_taped m_fault m_broken m_brokenAt m_spot m_here m_token m_value m_ends m_letters m_moments m_stepsAt m_steps m_latest m_matrix m_sides m_tried m_answers m_rowOf m_whole m_shares m_isKept m_lanes m_lengths m_cells m_torn]) C0 hw (cMo_turning l D κ qm m_state m_tape m_taped m_fault m_broken m_brokenAt m_spot m_here m_token m_value m_ends m_letters m_moments m_stepsAt m_steps m_latest m_matrix m_sides m_tried m_answers m_rowOf m_whole m_shares m_isKept m_lanes m_lengths m_cells m_torn (237 : Int32) r65 hk66) cv_RX7_110 ⟨rfl, rfl, Nat.le_of_ble_eq_true rfl, Nat.le_of_ble_eq_true rfl⟩ ⟨Nat.zero_le _, Nat.zero_le _⟩ [0] [] [0] rfl rfl rfl rfl (by decide) rfl rfl rfl rfl rfl hl.1 (by simp only [List.map, List.sum_cons, List.sum_nil, Value.category]; decide) dX7_readJoint_23 (fun H locs hw hn67 => ?_)
      refine lv_iconst (v := 4) hx hb dX7_readJoint_26 (by decide) ?_
      refine lv_icmp_ne (tgt := 36) hx hb dX7_readJoint_27 (by decide) (fun hc68 => ?_) (fun hc68 => ?_)
      · have hf := if_f hc68 hf
        exact hj63  H locs ls hw (lv_sub hl [0, 1, 2] rfl)  hf
      · have hf := if_t hc68 hf
        refine lv_aload_n hx hb dX7_readJoint_30 rfl (lv_at hl 1 rfl) ?_
        refine lv_iconst (v := 5) hx hb dX7_readJoint_31 (by decide) ?_
        obtain ⟨w69, w70, hk71, hf⟩ := b2_s hf
        refine rv_v (vq := (RX7, TX7, 28)) (As := [.int (5 : Int32)]) (rest := []) (bs' := [pMo κ qm m_state m_tape m_taped m_fault w69 w70 m_spot m_here m_token m_value m_ends m_letters m_moments m_stepsAt m_steps m_latest m_matrix m_sides m_tried m_answers m_rowOf m_whole m_shares m_isKept m_lanes m_lengths m_cells m_torn]) C0 hw (cMo_fails l D κ qm m_state m_tape m_taped m_fault m_broken m_brokenAt m_spot m_here m_token m_value m_ends m_letters m_moments m_stepsAt m_steps m_latest m_matrix m_sides m_tried m_answers m_rowOf m_whole m_shares m_isKept m_lanes m_lengths m_cells m_torn (5 : Int32) w69 w70 hk71) cv_RX7_103 ⟨rfl, rfl, Nat.le_of_ble_eq_true rfl, Nat.le_of_ble_eq_true rfl⟩ ⟨Nat.zero_le _, Nat.zero_le _⟩ [0] [] [0] rfl rfl rfl rfl (by decide) rfl rfl rfl rfl rfl hl.1 (by simp only [List.map, List.sum_cons, List.sum_nil, Value.category]; decide) dX7_readJoint_32 (fun H locs hw => ?_)
        obtain ⟨rfl, rfl, rfl, rfl, rfl, rfl, rfl⟩ := e7_ hf
        exact r_vret C0 hw dX7_readJoint_35
def FMo_readBeam (m_state m_tape : Nat → Int32) (m_taped m_broken m_brokenAt m_spot m_here m_token m_value : Int32) : Option ((Nat → Int32) × Int32 × Int32 × Int32 × Int32 × Int32 × Int32) :=
  gd_ (314 : Int32) 395 <|
  lt_ (m_state (314 : Int32).toNatClampNeg) fun v2 =>
  if v2 = (10 : Int32) then
    b2_ (FMo_fails m_broken m_brokenAt m_here (5 : Int32)) fun w84 w85 =>
    some (m_state, w84, w85, m_spot, m_here, m_token, m_value)
  else
    b6_ (FMo_readsOn m_tape m_taped m_broken m_brokenAt m_spot m_here m_token m_value) fun w4 w5 w6 w7 w8 w9 =>
    b7_ (FMo_numberRead m_tape m_taped w4 w5 w6 w7 w8 w9 (0 : Int32) (5 : Int32)) fun r12 w13 w14 w15 w16 w17 w18 =>
    lt_ (fun (w21 : Int32) (w22 : Int32) =>
      gd_ ((249 : Int32) + v2) 395 <|
      lt_ (upd m_state ((249 : Int32) + v2).toNatClampNeg r12) fun w24 =>
      b7_ (FMo_numberRead m_tape m_taped w21 w22 w15 w16 w17 w18 (0 : Int32) (5 : Int32)) fun r25 w26 w27 w28 w29 w30 w31 =>
      gd_ ((259 : Int32) + v2) 395 <|
      lt_ (upd w24 ((259 : Int32) + v2).toNatClampNeg r25) fun w35 =>
      lt_ (fun (w36 : Int32) (w37 : Int32) =>
        b7_ (FMo_numberRead m_tape m_taped w36 w37 w28 w29 w30 w31 (1 : Int32) (12 : Int32)) fun r38 w39 w40 w41 w42 w43 w44 =>
        gd_ ((269 : Int32) + v2) 395 <|
        lt_ (upd w35 ((269 : Int32) + v2).toNatClampNeg r38) fun w48 =>
        b7_ (FMo_numberRead m_tape m_taped w39 w40 w41 w42 w43 w44 (1 : Int32) (10 : Int32)) fun r49 w50 w51 w52 w53 w54 w55 =>
        gd_ ((279 : Int32) + v2) 395 <|
        lt_ (upd w48 ((279 : Int32) + v2).toNatClampNeg r49) fun w59 =>
        gd_ (314 : Int32) 395 <|
        gd_ (314 : Int32) 395 <|
        lt_ (upd w59 (314 : Int32).toNatClampNeg ((w59 (314 : Int32).toNatClampNeg) + (1 : Int32))) fun w62 =>
        some (w62, w50, w51, w52, w53, w54, w55) : Int32 → Int32 → Option ((Nat → Int32) × Int32 × Int32 × Int32 × Int32 × Int32 × Int32)) fun j63 =>
      if w26 = 0 then
        if w30 = (2 : Int32) then
          b1_ (FMo_isLength w31) fun r67 =>
          if r67 = 0 then
            b2_ (FMo_fails w26 w27 w29 (3 : Int32)) fun w71 w72 =>
            j63 w71 w72
          else
            j63 w26 w27
        else
          j63 w26 w27
      else
        j63 w26 w27 : Int32 → Int32 → Option ((Nat → Int32) × Int32 × Int32 × Int32 × Int32 × Int32 × Int32)) fun j75 =>
    if w13 = 0 then
      if w17 = (2 : Int32) then
        if w18 = r12 then
          b2_ (FMo_fails w13 w14 w16 (4 : Int32)) fun w80 w81 =>
          j75 w80 w81
        else
          j75 w13 w14
      else
        j75 w13 w14
    else
      j75 w13 w14
set_option maxHeartbeats 4000000 in
set_option maxRecDepth 100000 in
theorem cMo_readBeam (l : Launch) (D : va_G) (κ : Nat → ClassId) (qm : Nat → Nat) (m_state m_tape : Nat → Int32) (m_taped m_fault m_broken m_brokenAt m_spot m_here m_token m_value : Int32) (m_ends m_letters m_moments m_stepsAt : Nat → Int32) (m_steps m_latest : Int32) (m_matrix m_sides m_tried m_answers : Nat → Int64) (m_rowOf : Nat → Int32) (m_whole : Int64) (m_shares m_isKept m_lanes m_lengths m_cells : Nat → Int32) (m_torn : Int32) (z1 : Nat → Int32) (z2 z3 z4 z5 z6 z7 : Int32) (hf : FMo_readBeam m_state m_tape m_taped m_broken m_brokenAt m_spot m_here m_token m_value = some (z1, z2, z3, z4, z5, z6, z7)) : mV_ l yX7_readBeam (Cond.code yX7_readBeam cX7_readBeam 3 none :: uw) ({ frames := 3, cells := 0, slots := 0, locals := 69 } : Room) D (tys0 κ) [.ref (qm 0)] (List.flatten [pMo κ qm m_state m_tape m_taped m_fault m_broken m_brokenAt m_spot m_here m_token m_value m_ends m_letters m_moments m_stepsAt m_steps m_latest m_matrix m_sides m_tried m_answers m_rowOf m_whole m_shares m_isKept m_lanes m_lengths m_cells m_torn])  (List.flatten [pMo κ qm z1 m_tape m_taped m_fault z2 z3 z4 z5 z6 z7 m_ends m_letters m_moments m_stepsAt m_steps m_latest m_matrix m_sides m_tried m_answers m_rowOf m_whole m_shares m_isKept m_lanes m_lengths m_cells m_torn]) := by
  unfold FMo_readBeam at hf
  refine mV_of (by decide) (Nat.le_of_ble_eq_true rfl) ?_
  intro p e s m below meth c A ls H locs C0 hw hl
  obtain ⟨hx, hb, -, hml, hown, hts, -, -⟩ := id C0
  have hl : lv_has ls 3 [(0, .ref (qm 0))] := hl
  refine lv_aload_n hx hb dX7_readBeam_0 rfl (lv_at hl 0 rfl) ?_
  refine r_get C0 hw 0 0 (v := .ref (qm 1)) rfl rfl inX7 (by decide) lk_X7_7 rfl dX7_readBeam_1 ?_
  refine lv_sipush (v := 314) hx hb dX7_readBeam_4 (by decide) ?_
  obtain ⟨hi1, hf⟩ := gd_s hf
  refine r_iald C0 hw 1 0 rfl rfl hi1 dX7_readBeam_7 ?_
  refine lv_topi (fun v2 ev2 => ?_)
  have hf := lt_s_ hf v2 ev2
  refine lv_istore_n (lv' := [(1, .int v2), (0, .ref (qm 0))]) hx hb dX7_readBeam_8 rfl hl (by decide) rfl (fun ls hl => ?_)
  refine lv_iload_n hx hb dX7_readBeam_9 rfl (lv_at hl 0 rfl) ?_
  refine lv_bipush (v := 10) hx hb dX7_readBeam_10 (by decide) ?_
  refine lv_icmp_ne (tgt := 21) hx hb dX7_readBeam_12 (by decide) (fun hc3 => ?_) (fun hc3 => ?_)
  · have hf := if_f hc3 hf
    refine lv_aload_n hx hb dX7_readBeam_21 rfl (lv_at hl 1 rfl) ?_
    obtain ⟨w4, w5, w6, w7, w8, w9, hk10, hf⟩ := b6_s hf
    refine rv_v (vq := (RX7, TX7, 28)) (As := []) (rest := []) (bs' := [pMo κ qm m_state m_tape m_taped m_fault w4 w5 w6 w7 w8 w9 m_ends m_letters m_moments m_stepsAt m_steps m_latest m_matrix m_sides m_tried m_answers m_rowOf m_whole m_shares m_isKept m_lanes m_lengths m_cells m_torn]) C0 hw (cMo_readsOn l D κ qm m_state m_tape m_taped m_fault m_broken m_brokenAt m_spot m_here m_token m_value m_ends m_letters m_moments m_stepsAt m_steps m_latest m_matrix m_sides m_tried m_answers m_rowOf m_whole m_shares m_isKept m_lanes m_lengths m_cells m_torn w4 w5 w6 w7 w8 w9 hk10) cv_RX7_107 ⟨rfl, rfl, Nat.le_of_ble_eq_true rfl, Nat.le_of_ble_eq_true rfl⟩ ⟨Nat.zero_le _, Nat.zero_le _⟩ [0] [] [0] rfl rfl rfl rfl (by decide) rfl rfl rfl rfl rfl hl.1 (by simp only [List.map, List.sum_cons, List.sum_nil, Value.category]; decide) dX7_readBeam_22 (fun H locs hw => ?_)
    refine lv_aload_n hx hb dX7_readBeam_25 rfl (lv_at hl 1 rfl) ?_
    refine lv_iconst (v := 0) hx hb dX7_readBeam_26 (by decide) ?_
    refine lv_iconst (v := 5) hx hb dX7_readBeam_27 (by decide) ?_
    obtain ⟨r12, w13, w14, w15, w16, w17, w18, hk19, hf⟩ := b7_s hf
    refine rv_i (vq := (RX7, TX7, 28)) (As := [.int (0 : Int32), .int (5 : Int32)]) (rest := []) (bs' := [pMo κ qm m_state m_tape m_taped m_fault w13 w14 w15 w16 w17 w18 m_ends m_letters m_moments m_stepsAt m_steps m_latest m_matrix m_sides m_tried m_answers m_rowOf m_whole m_shares m_isKept m_lanes m_lengths m_cells m_torn]) C0 hw (cMo_numberRead l D κ qm m_state m_tape m_taped m_fault w4 w5 w6 w7 w8 w9 m_ends m_letters m_moments m_stepsAt m_steps m_latest m_matrix m_sides m_tried m_answers m_rowOf m_whole m_shares m_isKept m_lanes m_lengths m_cells m_torn (0 : Int32) (5 : Int32) r12 w13 w14 w15 w16 w17 w18 hk19) cv_RX7_113 ⟨rfl, rfl, Nat.le_of_ble_eq_true rfl, Nat.le_of_ble_eq_true rfl⟩ ⟨Nat.zero_le _, Nat.zero_le _⟩ [0] [] [0] rfl rfl rfl rfl (by decide) rfl rfl rfl rfl rfl hl.1 (by simp only [List.map, List.sum_cons, List.sum_nil, Value.category]; decide) dX7_readBeam_28 (fun H locs hw hn20 => ?_)
    refine lv_istore_n (lv' := [(2, .int r12), (1, .int v2), (0, .ref (qm 0))]) hx hb dX7_readBeam_31 rfl hl (by decide) rfl (fun ls hl => ?_)
    refine lv_aload_n hx hb dX7_readBeam_32 rfl (lv_at hl 2 rfl) ?_
    refine r_get C0 hw 0 4 (v := .int w13) rfl rfl inX7 (by decide) lk_X7_73 rfl dX7_readBeam_33 ?_
    obtain ⟨j75, ej75, hf⟩ := lt_e hf
    have hj76 : ∀ (w21 : Int32) (w22 : Int32) (H : Heap) (locs : List Loc) (ls : Array Slot), wd_ D (tys0 κ) A s (List.flatten [pMo κ qm m_state m_tape m_taped m_fault w21 w22 w15 w16 w17 w18 m_ends m_letters m_moments m_stepsAt m_steps m_latest m_matrix m_sides m_tried m_answers m_rowOf m_whole m_shares m_isKept m_lanes m_lengths m_cells m_torn]) H locs → lv_has ls 3 [(2, .int r12), (1, .int v2), (0, .ref (qm 0))] → j75 w21 w22 = some (z1, z2, z3, z4, z5, z6, z7) → W p l e ({ frames := 3, cells := 0, slots := 0, locals := 69 } : Room) s m ([.ref (qm 0)] : List Value).toArray below meth c H locs 0 0 (qV_ D (tys0 κ) A (List.flatten [pMo κ qm z1 m_tape m_taped m_fault z2 z3 z4 z5 z6 z7 m_ends m_letters m_moments m_stepsAt m_steps m_latest m_matrix m_sides m_tried m_answers m_rowOf m_whole m_shares m_isKept m_lanes m_lengths m_cells m_torn]) below ([.ref (qm 0)] : List Value).toArray s) (F0 m 60 ls []) := by
      intro w21 w22 H locs ls hw hl  hf
      have hf : (gd_ ((249 : Int32) + v2) 395 <| lt_ (upd m_state ((249 : Int32) + v2).toNatClampNeg r12) fun w24 => b7_ (FMo_numberRead m_tape m_taped w21 w22 w15 w16 w17 w18 (0 : Int32) (5 : Int32)) fun r25 w26 w27 w28 w29 w30 w31 => gd_ ((259 : Int32) + v2) 395 <| lt_ (upd w24 ((259 : Int32) + v2).toNatClampNeg r25) fun w35 => lt_ (fun (w36 : Int32) (w37 : Int32) => b7_ (FMo_numberRead m_tape m_taped w36 w37 w28 w29 w30 w31 (1 : Int32) (12 : Int32)) fun r38 w39 w40 w41 w42 w43 w44 => gd_ ((269 : Int32) + v2) 395 <| lt_ (upd w35 ((269 : Int32) + v2).toNatClampNeg r38) fun w48 => b7_ (FMo_numberRead m_tape m_taped w39 w40 w41 w42 w43 w44 (1 : Int32) (10 : Int32)) fun r49 w50 w51 w52 w53 w54 w55 => gd_ ((279 : Int32) + v2) 395 <| lt_ (upd w48 ((279 : Int32) + v2).toNatClampNeg r49) fun w59 => gd_ (314 : Int32) 395 <| gd_ (314 : Int32) 395 <| lt_ (upd w59 (314 : Int32).toNatClampNeg ((w59 (314 : Int32).toNatClampNeg) + (1 : Int32))) fun w62 => some (w62, w50, w51, w52, w53, w54, w55) : Int32 → Int32 → Option ((Nat → Int32) × Int32 × Int32 × Int32 × Int32 × Int32 × Int32)) fun j63 => if w26 = 0 then if w30 = (2 : Int32) then b1_ (FMo_isLength w31) fun r67 => if r67 = 0 then b2_ (FMo_fails w26 w27 w29 (3 : Int32)) fun w71 w72 => j63 w71 w72 else j63 w26 w27 else j63 w26 w27 else j63 w26 w27) = some (z1, z2, z3, z4, z5, z6, z7) := by rw [ej75] at hf; exact hf
      refine lv_aload_n hx hb dX7_readBeam_60 rfl (lv_at hl 2 rfl) ?_
      refine r_get C0 hw 0 0 (v := .ref (qm 1)) rfl rfl inX7 (by decide) lk_X7_7 rfl dX7_readBeam_61 ?_
      refine lv_sipush (v := 249) hx hb dX7_readBeam_64 (by decide) ?_
      refine lv_iload_n hx hb dX7_readBeam_67 rfl (lv_at hl 1 rfl) ?_
      refine lv_iadd hx hb dX7_readBeam_68 ?_
      refine lv_iload_n hx hb dX7_readBeam_69 rfl (lv_at hl 0 rfl) ?_
      obtain ⟨hi23, hf⟩ := gd_s hf
      obtain ⟨w24, ew24⟩ : ∃ z : Nat → Int32, z = (upd m_state ((249 : Int32) + v2).toNatClampNeg r12) := ⟨_, rfl⟩
      have hf := lt_s_ hf w24 ew24
      refine r_iast C0 hw 1 0 rfl rfl hi23 dX7_readBeam_70 (ws' := List.flatten [pMo κ qm w24 m_tape m_taped m_fault w21 w22 w15 w16 w17 w18 m_ends m_letters m_moments m_stepsAt m_steps m_latest m_matrix m_sides m_tried m_answers m_rowOf m_whole m_shares m_isKept m_lanes m_lengths m_cells m_torn]) (by subst ew24; rfl) (fun H locs hw => ?_)
      refine lv_aload_n hx hb dX7_readBeam_71 rfl (lv_at hl 2 rfl) ?_
      refine r_get C0 hw 0 0 (v := .ref (qm 1)) rfl rfl inX7 (by decide) lk_X7_7 rfl dX7_readBeam_72 ?_
      refine lv_sipush (v := 259) hx hb dX7_readBeam_75 (by decide) ?_
      refine lv_iload_n hx hb dX7_readBeam_78 rfl (lv_at hl 1 rfl) ?_
      refine lv_iadd hx hb dX7_readBeam_79 ?_
      refine lv_aload_n hx hb dX7_readBeam_80 rfl (lv_at hl 2 rfl) ?_
      refine lv_iconst (v := 0) hx hb dX7_readBeam_81 (by decide) ?_
      refine lv_iconst (v := 5) hx hb dX7_readBeam_82 (by decide) ?_
      obtain ⟨r25, w26, w27, w28, w29, w30, w31, hk32, hf⟩ := b7_s hf
      refine rv_i (vq := (RX7, TX7, 28)) (As := [.int (0 : Int32), .int (5 : Int32)]) (rest := [.int ((259 : Int32) + v2), .ref (qm 1)]) (bs' := [pMo κ qm w24 m_tape m_taped m_fault w26 w27 w28 w29 w30 w31 m_ends m_letters m_moments m_stepsAt m_steps m_latest m_matrix m_sides m_tried m_answers m_rowOf m_whole m_shares m_isKept m_lanes m_lengths m_cells m_torn]) C0 hw (cMo_numberRead l D κ qm w24 m_tape m_taped m_fault w21 w22 w15 w16 w17 w18 m_ends m_letters m_moments m_stepsAt m_steps m_latest m_matrix m_sides m_tried m_answers m_rowOf m_whole m_shares m_isKept m_lanes m_lengths m_cells m_torn (0 : Int32) (5 : Int32) r25 w26 w27 w28 w29 w30 w31 hk32) cv_RX7_113 ⟨rfl, rfl, Nat.le_of_ble_eq_true rfl, Nat.le_of_ble_eq_true rfl⟩ ⟨Nat.zero_le _, Nat.zero_le _⟩ [0] [] [0] rfl rfl rfl rfl (by decide) rfl rfl rfl rfl rfl hl.1 (by simp only [List.map, List.sum_cons, List.sum_nil, Value.category]; decide) dX7_readBeam_83 (fun H locs hw hn33 => ?_)
      obtain ⟨hi34, hf⟩ := gd_s hf
      obtain ⟨w35, ew35⟩ : ∃ z : Nat → Int32, z = (upd w24 ((259 : Int32) + v2).toNatClampNeg r25) := ⟨_, rfl⟩
      have hf := lt_s_ hf w35 ew35
      refine r_iast C0 hw 1 0 rfl rfl hi34 dX7_readBeam_86 (ws' := List.flatten [pMo κ qm w35 m_tape m_taped m_fault w26 w27 w28 w29 w30 w31 m_ends m_letters m_moments m_stepsAt m_steps m_latest m_matrix m_sides m_tried m_answers m_rowOf m_whole m_shares m_isKept m_lanes m_lengths m_cells m_torn]) (by subst ew35; rfl) (fun H locs hw => ?_)
      refine lv_aload_n hx hb dX7_readBeam_87 rfl (lv_at hl 2 rfl) ?_
      refine r_get C0 hw 0 4 (v := .int w26) rfl rfl inX7 (by decide) lk_X7_73 rfl dX7_readBeam_88 ?_
      obtain ⟨j63, ej63, hf⟩ := lt_e hf
      have hj64 : ∀ (w36 : Int32) (w37 : Int32) (H : Heap) (locs : List Loc) (ls : Array Slot), wd_ D (tys0 κ) A s (List.flatten [pMo κ qm w35 m_tape m_taped m_fault w36 w37 w28 w29 w30 w31 m_ends m_letters m_moments m_stepsAt m_steps m_latest m_matrix m_sides m_tried m_answers m_rowOf m_whole m_shares m_isKept m_lanes m_lengths m_cells m_torn]) H locs → lv_has ls 3 [(1, .int v2), (0, .ref (qm 0))] → j63 w36 w37 = some (z1, z2, z3, z4, z5, z6, z7) → W p l e ({ frames := 3, cells := 0, slots := 0, locals := 69 } : Room) s m ([.ref (qm 0)] : List Value).toArray below meth c H locs 0 0 (qV_ D (tys0 κ) A (List.flatten [pMo κ qm z1 m_tape m_taped m_fault z2 z3 z4 z5 z6 z7 m_ends m_letters m_moments m_stepsAt m_steps m_latest m_matrix m_sides m_tried m_answers m_rowOf m_whole m_shares m_isKept m_lanes m_lengths m_cells m_torn]) below ([.ref (qm 0)] : List Value).toArray s) (F0 m 117 ls []) := by
        intro w36 w37 H locs ls hw hl  hf
        have hf : (b7_ (FMo_numberRead m_tape m_taped w36 w37 w28 w29 w30 w31 (1 : Int32) (12 : Int32)) fun r38 w39 w40 w41 w42 w43 w44 => gd_ ((269 : Int32) + v2) 395 <| lt_ (upd w35 ((269 : Int32) + v2).toNatClampNeg r38) fun w48 => b7_ (FMo_numberRead m_tape m_taped w39 w40 w41 w42 w43 w44 (1 : Int32) (10 : Int32)) fun r49 w50 w51 w52 w53 w54 w55 => gd_ ((279 : Int32) + v2) 395 <| lt_ (upd w48 ((279 : Int32) + v2).toNatClampNeg r49) fun w59 => gd_ (314 : Int32) 395 <| gd_ (314 : Int32) 395 <| lt_ (upd w59 (314 : Int32).toNatClampNeg ((w59 (314 : Int32).toNatClampNeg) + (1 : Int32))) fun w62 => some (w62, w50, w51, w52, w53, w54, w55)) = some (z1, z2, z3, z4, z5, z6, z7) := by rw [ej63] at hf; exact hf
        refine lv_aload_n hx hb dX7_readBeam_117 rfl (lv_at hl 1 rfl) ?_
        refine r_get C0 hw 0 0 (v := .ref (qm 1)) rfl rfl inX7 (by decide) lk_X7_7 rfl dX7_readBeam_118 ?_
        refine lv_sipush (v := 269) hx hb dX7_readBeam_121 (by decide) ?_
        refine lv_iload_n hx hb dX7_readBeam_124 rfl (lv_at hl 0 rfl) ?_
        refine lv_iadd hx hb dX7_readBeam_125 ?_
        refine lv_aload_n hx hb dX7_readBeam_126 rfl (lv_at hl 1 rfl) ?_
        refine lv_iconst (v := 1) hx hb dX7_readBeam_127 (by decide) ?_
        refine lv_bipush (v := 12) hx hb dX7_readBeam_128 (by decide) ?_
        obtain ⟨r38, w39, w40, w41, w42, w43, w44, hk45, hf⟩ := b7_s hf
        refine rv_i (vq := (RX7, TX7, 28)) (As := [.int (1 : Int32), .int (12 : Int32)]) (rest := [.int ((269 : Int32) + v2), .ref (qm 1)]) (bs' := [pMo κ qm w35 m_tape m_taped m_fault w39 w40 w41 w42 w43 w44 m_ends m_letters m_moments m_stepsAt m_steps m_latest m_matrix m_sides m_tried m_answers m_rowOf m_whole m_shares m_isKept m_lanes m_lengths m_cells m_torn]) C0 hw (cMo_numberRead l D κ qm w35 m_tape m_taped m_fault w36 w37 w28 w29 w30 w31 m_ends m_letters m_moments m_stepsAt m_steps m_latest m_matrix m_sides m_tried m_answers m_rowOf m_whole m_shares m_isKept m_lanes m_lengths m_cells m_torn (1 : Int32) (12 : Int32) r38 w39 w40 w41 w42 w43 w44 hk45) cv_RX7_113 ⟨rfl, rfl, Nat.le_of_ble_eq_true rfl, Nat.le_of_ble_eq_true rfl⟩ ⟨Nat.zero_le _, Nat.zero_le _⟩ [0] [] [0] rfl rfl rfl rfl (by decide) rfl rfl rfl rfl rfl hl.1 (by simp only [List.map, List.sum_cons, List.sum_nil, Value.category]; decide) dX7_readBeam_130 (fun H locs hw hn46 => ?_)
        obtain ⟨hi47, hf⟩ := gd_s hf
        obtain ⟨w48, ew48⟩ : ∃ z : Nat → Int32, z = (upd w35 ((269 : Int32) + v2).toNatClampNeg r38) := ⟨_, rfl⟩
        have hf := lt_s_ hf w48 ew48
        refine r_iast C0 hw 1 0 rfl rfl hi47 dX7_readBeam_133 (ws' := List.flatten [pMo κ qm w48 m_tape m_taped m_fault w39 w40 w41 w42 w43 w44 m_ends m_letters m_moments m_stepsAt m_steps m_latest m_matrix m_sides m_tried m_answers m_rowOf m_whole m_shares m_isKept m_lanes m_lengths m_cells m_torn]) (by subst ew48; rfl) (fun H locs hw => ?_)
        refine lv_aload_n hx hb dX7_readBeam_134 rfl (lv_at hl 1 rfl) ?_
        refine r_get C0 hw 0 0 (v := .ref (qm 1)) rfl rfl inX7 (by decide) lk_X7_7 rfl dX7_readBeam_135 ?_
        refine lv_sipush (v := 279) hx hb dX7_readBeam_138 (by decide) ?_
        refine lv_iload_n hx hb dX7_readBeam_141 rfl (lv_at hl 0 rfl) ?_
        refine lv_iadd hx hb dX7_readBeam_142 ?_
        refine lv_aload_n hx hb dX7_readBeam_143 rfl (lv_at hl 1 rfl) ?_
        refine lv_iconst (v := 1) hx hb dX7_readBeam_144 (by decide) ?_
        refine lv_bipush (v := 10) hx hb dX7_readBeam_145 (by decide) ?_
        obtain ⟨r49, w50, w51, w52, w53, w54, w55, hk56, hf⟩ := b7_s hf
        refine rv_i (vq := (RX7, TX7, 28)) (As := [.int (1 : Int32), .int (10 : Int32)]) (rest := [.int ((279 : Int32) + v2), .ref (qm 1)]) (bs' := [pMo κ qm w48 m_tape m_taped m_fault w50 w51 w52 w53 w54 w55 m_ends m_letters m_moments m_stepsAt m_steps m_latest m_matrix m_sides m_tried m_answers m_rowOf m_whole m_shares m_isKept m_lanes m_lengths m_cells m_torn]) C0 hw (cMo_numberRead l D κ qm w48 m_tape m_taped m_fault w39 w40 w41 w42 w43 w44 m_ends m_letters m_moments m_stepsAt m_steps m_latest m_matrix m_sides m_tried m_answers m_rowOf m_whole m_shares m_isKept m_lanes m_lengths m_cells m_torn (1 : Int32) (10 : Int32) r49 w50 w51 w52 w53 w54 w55 hk56) cv_RX7_113 ⟨rfl, rfl, Nat.le_of_ble_eq_true rfl, Nat.le_of_ble_eq_true rfl⟩ ⟨Nat.zero_le _, Nat.zero_le _⟩ [0] [] [0] rfl rfl rfl rfl (by decide) rfl rfl rfl rfl rfl hl.1 (by simp only [List.map, List.sum_cons, List.sum_nil, Value.category]; decide) dX7_readBeam_147 (fun H locs hw hn57 => ?_)
        obtain ⟨hi58, hf⟩ := gd_s hf
        obtain ⟨w59, ew59⟩ : ∃ z : Nat → Int32, z = (upd w48 ((279 : Int32) + v2).toNatClampNeg r49) := ⟨_, rfl⟩
        have hf := lt_s_ hf w59 ew59
        refine r_iast C0 hw 1 0 rfl rfl hi58 dX7_readBeam_150 (ws' := List.flatten [pMo κ qm w59 m_tape m_taped m_fault w50 w51 w52 w53 w54 w55 m_ends m_letters m_moments m_stepsAt m_steps m_latest m_matrix m_sides m_tried m_answers m_rowOf m_whole m_shares m_isKept m_lanes m_lengths m_cells m_torn]) (by subst ew59; rfl) (fun H locs hw => ?_)
        refine lv_aload_n hx hb dX7_readBeam_151 rfl (lv_at hl 1 rfl) ?_
        refine r_get C0 hw 0 0 (v := .ref (qm 1)) rfl rfl inX7 (by decide) lk_X7_7 rfl dX7_readBeam_152 ?_
        refine lv_sipush (v := 314) hx hb dX7_readBeam_155 (by decide) ?_
        refine lv_dup2_11 hx hb dX7_readBeam_158 rfl rfl ?_
        obtain ⟨hi60, hf⟩ := gd_s hf
        refine r_iald C0 hw 1 0 rfl rfl hi60 dX7_readBeam_159 ?_
        refine lv_iconst (v := 1) hx hb dX7_readBeam_160 (by decide) ?_
        refine lv_iadd hx hb dX7_readBeam_161 ?_
        obtain ⟨hi61, hf⟩ := gd_s hf
        obtain ⟨w62, ew62⟩ : ∃ z : Nat → Int32, z = (upd w59 (314 : Int32).toNatClampNeg ((w59 (314 : Int32).toNatClampNeg) + (1 : Int32))) := ⟨_, rfl⟩
        have hf := lt_s_ hf w62 ew62
        refine r_iast C0 hw 1 0 rfl rfl hi61 dX7_readBeam_162 (ws' := List.flatten [pMo κ qm w62 m_tape m_taped m_fault w50 w51 w52 w53 w54 w55 m_ends m_letters m_moments m_stepsAt m_steps m_latest m_matrix m_sides m_tried m_answers m_rowOf m_whole m_shares m_isKept m_lanes m_lengths m_cells m_torn]) (by subst ew62; rfl) (fun H locs hw => ?_)
        obtain ⟨rfl, rfl, rfl, rfl, rfl, rfl, rfl⟩ := e7_ hf
        exact r_vret C0 hw dX7_readBeam_163
      refine lv_if_ne (tgt := 117) hx hb dX7_readBeam_91 (by decide) (fun hc65 => ?_) (fun hc65 => ?_)
      · have hf := if_f hc65 hf
        exact hj64 w26 w27 H locs ls hw (lv_sub hl [1, 2] rfl)  hf
      · have hf := if_t hc65 hf
        refine lv_aload_n hx hb dX7_readBeam_94 rfl (lv_at hl 2 rfl) ?_
        refine r_get C0 hw 0 8 (v := .int w30) rfl rfl inX7 (by decide) lk_X7_82 rfl dX7_readBeam_95 ?_
        refine lv_iconst (v := 2) hx hb dX7_readBeam_98 (by decide) ?_
        refine lv_icmp_ne (tgt := 117) hx hb dX7_readBeam_99 (by decide) (fun hc66 => ?_) (fun hc66 => ?_)
        · have hf := if_f hc66 hf
          exact hj64 w26 w27 H locs ls hw (lv_sub hl [1, 2] rfl)  hf
        · have hf := if_t hc66 hf
          refine lv_aload_n hx hb dX7_readBeam_102 rfl (lv_at hl 2 rfl) ?_
          refine r_get C0 hw 0 9 (v := .int w31) rfl rfl inX7 (by decide) lk_X7_92 rfl dX7_readBeam_103 ?_
          obtain ⟨r67, hk68, hf⟩ := b1_s hf
          refine rs_i (As := [.int w31]) (rest := []) (bs' := [pMo κ qm w35 m_tape m_taped m_fault w26 w27 w28 w29 w30 w31 m_ends m_letters m_moments m_stepsAt m_steps m_latest m_matrix m_sides m_tried m_answers m_rowOf m_whole m_shares m_isKept m_lanes m_lengths m_cells m_torn]) C0 hw (cMo_isLength l D κ w31 r67 hk68) cs_X7_117 ⟨rfl, rfl, Nat.le_of_ble_eq_true rfl, Nat.le_of_ble_eq_true rfl⟩ ⟨Nat.zero_le _, Nat.zero_le _⟩ [] [0] [0] rfl rfl rfl rfl (by decide) rfl rfl rfl hl.1 (by simp only [List.map, List.sum_cons, List.sum_nil, Value.category]; decide) dX7_readBeam_106 (fun H locs hw hn69 => ?_)
          refine lv_if_ne (tgt := 117) hx hb dX7_readBeam_109 (by decide) (fun hc70 => ?_) (fun hc70 => ?_)
          · have hf := if_f hc70 hf
            exact hj64 w26 w27 H locs ls hw (lv_sub hl [1, 2] rfl)  hf
          · have hf := if_t hc70 hf
            refine lv_aload_n hx hb dX7_readBeam_112 rfl (lv_at hl 2 rfl) ?_
            refine lv_iconst (v := 3) hx hb dX7_readBeam_113 (by decide) ?_
            obtain ⟨w71, w72, hk73, hf⟩ := b2_s hf
            refine rv_v (vq := (RX7, TX7, 28)) (As := [.int (3 : Int32)]) (rest := []) (bs' := [pMo κ qm w35 m_tape m_taped m_fault w71 w72 w28 w29 w30 w31 m_ends m_letters m_moments m_stepsAt m_steps m_latest m_matrix m_sides m_tried m_answers m_rowOf m_whole m_shares m_isKept m_lanes m_lengths m_cells m_torn]) C0 hw (cMo_fails l D κ qm w35 m_tape m_taped m_fault w26 w27 w28 w29 w30 w31 m_ends m_letters m_moments m_stepsAt m_steps m_latest m_matrix m_sides m_tried m_answers m_rowOf m_whole m_shares m_isKept m_lanes m_lengths m_cells m_torn (3 : Int32) w71 w72 hk73) cv_RX7_103 ⟨rfl, rfl, Nat.le_of_ble_eq_true rfl, Nat.le_of_ble_eq_true rfl⟩ ⟨Nat.zero_le _, Nat.zero_le _⟩ [0] [] [0] rfl rfl rfl rfl (by decide) rfl rfl rfl rfl rfl hl.1 (by simp only [List.map, List.sum_cons, List.sum_nil, Value.category]; decide) dX7_readBeam_114 (fun H locs hw => ?_)
            exact hj64 w71 w72 H locs ls hw (lv_sub hl [1, 2] rfl)  hf
    refine lv_if_ne (tgt := 60) hx hb dX7_readBeam_36 (by decide) (fun hc77 => ?_) (fun hc77 => ?_)
    · have hf := if_f hc77 hf
      exact hj76 w13 w14 H locs ls hw (lv_sub hl [0, 1, 2] rfl)  hf
    · have hf := if_t hc77 hf
      refine lv_aload_n hx hb dX7_readBeam_39 rfl (lv_at hl 2 rfl) ?_
      refine r_get C0 hw 0 8 (v := .int w17) rfl rfl inX7 (by decide) lk_X7_82 rfl dX7_readBeam_40 ?_
      refine lv_iconst (v := 2) hx hb dX7_readBeam_43 (by decide) ?_
      refine lv_icmp_ne (tgt := 60) hx hb dX7_readBeam_44 (by decide) (fun hc78 => ?_) (fun hc78 => ?_)
      · have hf := if_f hc78 hf
        exact hj76 w13 w14 H locs ls hw (lv_sub hl [0, 1, 2] rfl)  hf
      · have hf := if_t hc78 hf
        refine lv_aload_n hx hb dX7_readBeam_47 rfl (lv_at hl 2 rfl) ?_
        refine r_get C0 hw 0 9 (v := .int w18) rfl rfl inX7 (by decide) lk_X7_92 rfl dX7_readBeam_48 ?_
        refine lv_iload_n hx hb dX7_readBeam_51 rfl (lv_at hl 0 rfl) ?_
        refine lv_icmp_ne (tgt := 60) hx hb dX7_readBeam_52 (by decide) (fun hc79 => ?_) (fun hc79 => ?_)
        · have hf := if_f hc79 hf
          exact hj76 w13 w14 H locs ls hw (lv_sub hl [0, 1, 2] rfl)  hf
        · have hf := if_t hc79 hf
          refine lv_aload_n hx hb dX7_readBeam_55 rfl (lv_at hl 2 rfl) ?_
          refine lv_iconst (v := 4) hx hb dX7_readBeam_56 (by decide) ?_
          obtain ⟨w80, w81, hk82, hf⟩ := b2_s hf
          refine rv_v (vq := (RX7, TX7, 28)) (As := [.int (4 : Int32)]) (rest := []) (bs' := [pMo κ qm m_state m_tape m_taped m_fault w80 w81 w15 w16 w17 w18 m_ends m_letters m_moments m_stepsAt m_steps m_latest m_matrix m_sides m_tried m_answers m_rowOf m_whole m_shares m_isKept m_lanes m_lengths m_cells m_torn]) C0 hw (cMo_fails l D κ qm m_state m_tape m_taped m_fault w13 w14 w15 w16 w17 w18 m_ends m_letters m_moments m_stepsAt m_steps m_latest m_matrix m_sides m_tried m_answers m_rowOf m_whole m_shares m_isKept m_lanes m_lengths m_cells m_torn (4 : Int32) w80 w81 hk82) cv_RX7_103 ⟨rfl, rfl, Nat.le_of_ble_eq_true rfl, Nat.le_of_ble_eq_true rfl⟩ ⟨Nat.zero_le _, Nat.zero_le _⟩ [0] [] [0] rfl rfl rfl rfl (by decide) rfl rfl rfl rfl rfl hl.1 (by simp only [List.map, List.sum_cons, List.sum_nil, Value.category]; decide) dX7_readBeam_57 (fun H locs hw => ?_)
          exact hj76 w80 w81 H locs ls hw (lv_sub hl [0, 1, 2] rfl)  hf
  · have hf := if_t hc3 hf
    refine lv_aload_n hx hb dX7_readBeam_15 rfl (lv_at hl 1 rfl) ?_
    refine lv_iconst (v := 5) hx hb dX7_readBeam_16 (by decide) ?_
    obtain ⟨w84, w85, hk86, hf⟩ := b2_s hf
    refine rv_v (vq := (RX7, TX7, 28)) (As := [.int (5 : Int32)]) (rest := []) (bs' := [pMo κ qm m_state m_tape m_taped m_fault w84 w85 m_spot m_here m_token m_value m_ends m_letters m_moments m_stepsAt m_steps m_latest m_matrix m_sides m_tried m_answers m_rowOf m_whole m_shares m_isKept m_lanes m_lengths m_cells m_torn]) C0 hw (cMo_fails l D κ qm m_state m_tape m_taped m_fault m_broken m_brokenAt m_spot m_here m_token m_value m_ends m_letters m_moments m_stepsAt m_steps m_latest m_matrix m_sides m_tried m_answers m_rowOf m_whole m_shares m_isKept m_lanes m_lengths m_cells m_torn (5 : Int32) w84 w85 hk86) cv_RX7_103 ⟨rfl, rfl, Nat.le_of_ble_eq_true rfl, Nat.le_of_ble_eq_true rfl⟩ ⟨Nat.zero_le _, Nat.zero_le _⟩ [0] [] [0] rfl rfl rfl rfl (by decide) rfl rfl rfl rfl rfl hl.1 (by simp only [List.map, List.sum_cons, List.sum_nil, Value.category]; decide) dX7_readBeam_17 (fun H locs hw => ?_)
    obtain ⟨rfl, rfl, rfl, rfl, rfl, rfl, rfl⟩ := e7_ hf
    exact r_vret C0 hw dX7_readBeam_20
def FMo_readLoad (m_state m_tape : Nat → Int32) (m_taped m_broken m_brokenAt m_spot m_here m_token m_value a1 : Int32) : Option ((Nat → Int32) × Int32 × Int32 × Int32 × Int32 × Int32 × Int32) :=
  gd_ (315 : Int32) 395 <|
  lt_ (m_state (315 : Int32).toNatClampNeg) fun v2 =>
  if v2 = (8 : Int32) then
    b2_ (FMo_fails m_broken m_brokenAt m_here (5 : Int32)) fun w58 w59 =>
    some (m_state, w58, w59, m_spot, m_here, m_token, m_value)
  else
    b6_ (FMo_readsOn m_tape m_taped m_broken m_brokenAt m_spot m_here m_token m_value) fun w4 w5 w6 w7 w8 w9 =>
    b7_ (FMo_numberRead m_tape m_taped w4 w5 w6 w7 w8 w9 (0 : Int32) (9 : Int32)) fun r12 w13 w14 w15 w16 w17 w18 =>
    gd_ ((289 : Int32) + v2) 395 <|
    lt_ (upd m_state ((289 : Int32) + v2).toNatClampNeg r12) fun w22 =>
    lt_ (fun (v23 : Int32) =>
      b7_ (FMo_numberRead m_tape m_taped w13 w14 w15 w16 w17 w18 (1 : Int32) v23) fun r24 w25 w26 w27 w28 w29 w30 =>
      gd_ ((297 : Int32) + v2) 395 <|
      lt_ (upd w22 ((297 : Int32) + v2).toNatClampNeg r24) fun w34 =>
      if a1 = 0 then
        gd_ ((305 : Int32) + v2) 395 <|
        lt_ (upd w34 ((305 : Int32) + v2).toNatClampNeg (0 : Int32)) fun w37 =>
        gd_ (315 : Int32) 395 <|
        gd_ (315 : Int32) 395 <|
        lt_ (upd w37 (315 : Int32).toNatClampNeg ((w37 (315 : Int32).toNatClampNeg) + (1 : Int32))) fun w40 =>
        some (w40, w25, w26, w27, w28, w29, w30)
      else
        b7_ (FMo_numberRead m_tape m_taped w25 w26 w27 w28 w29 w30 (1 : Int32) (11 : Int32)) fun r41 w42 w43 w44 w45 w46 w47 =>
        gd_ ((305 : Int32) + v2) 395 <|
        lt_ (upd w34 ((305 : Int32) + v2).toNatClampNeg r41) fun w51 =>
        gd_ (315 : Int32) 395 <|
        gd_ (315 : Int32) 395 <|
        lt_ (upd w51 (315 : Int32).toNatClampNeg ((w51 (315 : Int32).toNatClampNeg) + (1 : Int32))) fun w54 =>
        some (w54, w42, w43, w44, w45, w46, w47) : Int32 → Option ((Nat → Int32) × Int32 × Int32 × Int32 × Int32 × Int32 × Int32)) fun j55 =>
    if a1 = 0 then
      j55 (99 : Int32)
    else
      j55 (999 : Int32)
set_option maxHeartbeats 4000000 in
set_option maxRecDepth 100000 in
theorem cMo_readLoad (l : Launch) (D : va_G) (κ : Nat → ClassId) (qm : Nat → Nat) (m_state m_tape : Nat → Int32) (m_taped m_fault m_broken m_brokenAt m_spot m_here m_token m_value : Int32) (m_ends m_letters m_moments m_stepsAt : Nat → Int32) (m_steps m_latest : Int32) (m_matrix m_sides m_tried m_answers : Nat → Int64) (m_rowOf : Nat → Int32) (m_whole : Int64) (m_shares m_isKept m_lanes m_lengths m_cells : Nat → Int32) (m_torn a1 : Int32) (z1 : Nat → Int32) (z2 z3 z4 z5 z6 z7 : Int32) (hf : FMo_readLoad m_state m_tape m_taped m_broken m_brokenAt m_spot m_here m_token m_value a1 = some (z1, z2, z3, z4, z5, z6, z7)) : mV_ l yX7_readLoad (Cond.code yX7_readLoad cX7_readLoad 3 none :: uw) ({ frames := 3, cells := 0, slots := 0, locals := 69 } : Room) D (tys0 κ) [.ref (qm 0), .int a1] (List.flatten [pMo κ qm m_state m_tape m_taped m_fault m_broken m_brokenAt m_spot m_here m_token m_value m_ends m_letters m_moments m_stepsAt m_steps m_latest m_matrix m_sides m_tried m_answers m_rowOf m_whole m_shares m_isKept m_lanes m_lengths m_cells m_torn])  (List.flatten [pMo κ qm z1 m_tape m_taped m_fault z2 z3 z4 z5 z6 z7 m_ends m_letters m_moments m_stepsAt m_steps m_latest m_matrix m_sides m_tried m_answers m_rowOf m_whole m_shares m_isKept m_lanes m_lengths m_cells m_torn]) := by
  unfold FMo_readLoad at hf
  refine mV_of (by decide) (Nat.le_of_ble_eq_true rfl) ?_
  intro p e s m below meth c A ls H locs C0 hw hl
  obtain ⟨hx, hb, -, hml, hown, hts, -, -⟩ := id C0
  have hl : lv_has ls 3 [(0, .ref (qm 0)), (1, .int a1)] := hl
  refine lv_aload_n hx hb dX7_readLoad_0 rfl (lv_at hl 0 rfl) ?_
  refine r_get C0 hw 0 0 (v := .ref (qm 1)) rfl rfl inX7 (by decide) lk_X7_7 rfl dX7_readLoad_1 ?_
  refine lv_sipush (v := 315) hx hb dX7_readLoad_4 (by decide) ?_
  obtain ⟨hi1, hf⟩ := gd_s hf
  refine r_iald C0 hw 1 0 rfl rfl hi1 dX7_readLoad_7 ?_
  refine lv_topi (fun v2 ev2 => ?_)
  have hf := lt_s_ hf v2 ev2
  refine lv_istore_n (lv' := [(2, .int v2), (0, .ref (qm 0)), (1, .int a1)]) hx hb dX7_readLoad_8 rfl hl (by decide) rfl (fun ls hl => ?_)
  refine lv_iload_n hx hb dX7_readLoad_9 rfl (lv_at hl 0 rfl) ?_
  refine lv_bipush (v := 8) hx hb dX7_readLoad_10 (by decide) ?_
  refine lv_icmp_ne (tgt := 21) hx hb dX7_readLoad_12 (by decide) (fun hc3 => ?_) (fun hc3 => ?_)
  · have hf := if_f hc3 hf
    refine lv_aload_n hx hb dX7_readLoad_21 rfl (lv_at hl 1 rfl) ?_
    obtain ⟨w4, w5, w6, w7, w8, w9, hk10, hf⟩ := b6_s hf
    refine rv_v (vq := (RX7, TX7, 28)) (As := []) (rest := []) (bs' := [pMo κ qm m_state m_tape m_taped m_fault w4 w5 w6 w7 w8 w9 m_ends m_letters m_moments m_stepsAt m_steps m_latest m_matrix m_sides m_tried m_answers m_rowOf m_whole m_shares m_isKept m_lanes m_lengths m_cells m_torn]) C0 hw (cMo_readsOn l D κ qm m_state m_tape m_taped m_fault m_broken m_brokenAt m_spot m_here m_token m_value m_ends m_letters m_moments m_stepsAt m_steps m_latest m_matrix m_sides m_tried m_answers m_rowOf m_whole m_shares m_isKept m_lanes m_lengths m_cells m_torn w4 w5 w6 w7 w8 w9 hk10) cv_RX7_107 ⟨rfl, rfl, Nat.le_of_ble_eq_true rfl, Nat.le_of_ble_eq_true rfl⟩ ⟨Nat.zero_le _, Nat.zero_le _⟩ [0] [] [0] rfl rfl rfl rfl (by decide) rfl rfl rfl rfl rfl hl.1 (by simp only [List.map, List.sum_cons, List.sum_nil, Value.category]; decide) dX7_readLoad_22 (fun H locs hw => ?_)
    refine lv_aload_n hx hb dX7_readLoad_25 rfl (lv_at hl 1 rfl) ?_
    refine r_get C0 hw 0 0 (v := .ref (qm 1)) rfl rfl inX7 (by decide) lk_X7_7 rfl dX7_readLoad_26 ?_
    refine lv_sipush (v := 289) hx hb dX7_readLoad_29 (by decide) ?_
    refine lv_iload_n hx hb dX7_readLoad_32 rfl (lv_at hl 0 rfl) ?_
    refine lv_iadd hx hb dX7_readLoad_33 ?_
    refine lv_aload_n hx hb dX7_readLoad_34 rfl (lv_at hl 1 rfl) ?_
    refine lv_iconst (v := 0) hx hb dX7_readLoad_35 (by decide) ?_
    refine lv_bipush (v := 9) hx hb dX7_readLoad_36 (by decide) ?_
    obtain ⟨r12, w13, w14, w15, w16, w17, w18, hk19, hf⟩ := b7_s hf
    refine rv_i (vq := (RX7, TX7, 28)) (As := [.int (0 : Int32), .int (9 : Int32)]) (rest := [.int ((289 : Int32) + v2), .ref (qm 1)]) (bs' := [pMo κ qm m_state m_tape m_taped m_fault w13 w14 w15 w16 w17 w18 m_ends m_letters m_moments m_stepsAt m_steps m_latest m_matrix m_sides m_tried m_answers m_rowOf m_whole m_shares m_isKept m_lanes m_lengths m_cells m_torn]) C0 hw (cMo_numberRead l D κ qm m_state m_tape m_taped m_fault w4 w5 w6 w7 w8 w9 m_ends m_letters m_moments m_stepsAt m_steps m_latest m_matrix m_sides m_tried m_answers m_rowOf m_whole m_shares m_isKept m_lanes m_lengths m_cells m_torn (0 : Int32) (9 : Int32) r12 w13 w14 w15 w16 w17 w18 hk19) cv_RX7_113 ⟨rfl, rfl, Nat.le_of_ble_eq_true rfl, Nat.le_of_ble_eq_true rfl⟩ ⟨Nat.zero_le _, Nat.zero_le _⟩ [0] [] [0] rfl rfl rfl rfl (by decide) rfl rfl rfl rfl rfl hl.1 (by simp only [List.map, List.sum_cons, List.sum_nil, Value.category]; decide) dX7_readLoad_38 (fun H locs hw hn20 => ?_)
    obtain ⟨hi21, hf⟩ := gd_s hf
    obtain ⟨w22, ew22⟩ : ∃ z : Nat → Int32, z = (upd m_state ((289 : Int32) + v2).toNatClampNeg r12) := ⟨_, rfl⟩
    have hf := lt_s_ hf w22 ew22
    refine r_iast C0 hw 1 0 rfl rfl hi21 dX7_readLoad_41 (ws' := List.flatten [pMo κ qm w22 m_tape m_taped m_fault w13 w14 w15 w16 w17 w18 m_ends m_letters m_moments m_stepsAt m_steps m_latest m_matrix m_sides m_tried m_answers m_rowOf m_whole m_shares m_isKept m_lanes m_lengths m_cells m_torn]) (by subst ew22; rfl) (fun H locs hw => ?_)
    refine lv_aload_n hx hb dX7_readLoad_42 rfl (lv_at hl 1 rfl) ?_
    refine r_get C0 hw 0 0 (v := .ref (qm 1)) rfl rfl inX7 (by decide) lk_X7_7 rfl dX7_readLoad_43 ?_
    refine lv_sipush (v := 297) hx hb dX7_readLoad_46 (by decide) ?_
    refine lv_iload_n hx hb dX7_readLoad_49 rfl (lv_at hl 0 rfl) ?_
    refine lv_iadd hx hb dX7_readLoad_50 ?_
    refine lv_aload_n hx hb dX7_readLoad_51 rfl (lv_at hl 1 rfl) ?_
    refine lv_iconst (v := 1) hx hb dX7_readLoad_52 (by decide) ?_
    refine lv_iload_n hx hb dX7_readLoad_53 rfl (lv_at hl 2 rfl) ?_
    obtain ⟨j55, ej55, hf⟩ := lt_e hf
    have hj56 : ∀ (v23 : Int32) (H : Heap) (locs : List Loc) (ls : Array Slot), wd_ D (tys0 κ) A s (List.flatten [pMo κ qm w22 m_tape m_taped m_fault w13 w14 w15 w16 w17 w18 m_ends m_letters m_moments m_stepsAt m_steps m_latest m_matrix m_sides m_tried m_answers m_rowOf m_whole m_shares m_isKept m_lanes m_lengths m_cells m_torn]) H locs → lv_has ls 3 [(2, .int v2), (0, .ref (qm 0)), (1, .int a1)] → j55 v23 = some (z1, z2, z3, z4, z5, z6, z7) → W p l e ({ frames := 3, cells := 0, slots := 0, locals := 69 } : Room) s m ([.ref (qm 0), .int a1] : List Value).toArray below meth c H locs 0 0 (qV_ D (tys0 κ) A (List.flatten [pMo κ qm z1 m_tape m_taped m_fault z2 z3 z4 z5 z6 z7 m_ends m_letters m_moments m_stepsAt m_steps m_latest m_matrix m_sides m_tried m_answers m_rowOf m_whole m_shares m_isKept m_lanes m_lengths m_cells m_torn]) below ([.ref (qm 0), .int a1] : List Value).toArray s) (F0 m 65 ls [.int v23, .int (1 : Int32), .ref (qm 0), .int ((297 : Int32) + v2), .ref (qm 1)]) := by
      intro v23 H locs ls hw hl  hf
      have hf : (b7_ (FMo_numberRead m_tape m_taped w13 w14 w15 w16 w17 w18 (1 : Int32) v23) fun r24 w25 w26 w27 w28 w29 w30 => gd_ ((297 : Int32) + v2) 395 <| lt_ (upd w22 ((297 : Int32) + v2).toNatClampNeg r24) fun w34 => if a1 = 0 then gd_ ((305 : Int32) + v2) 395 <| lt_ (upd w34 ((305 : Int32) + v2).toNatClampNeg (0 : Int32)) fun w37 => gd_ (315 : Int32) 395 <| gd_ (315 : Int32) 395 <| lt_ (upd w37 (315 : Int32).toNatClampNeg ((w37 (315 : Int32).toNatClampNeg) + (1 : Int32))) fun w40 => some (w40, w25, w26, w27, w28, w29, w30) else b7_ (FMo_numberRead m_tape m_taped w25 w26 w27 w28 w29 w30 (1 : Int32) (11 : Int32)) fun r41 w42 w43 w44 w45 w46 w47 => gd_ ((305 : Int32) + v2) 395 <| lt_ (upd w34 ((305 : Int32) + v2).toNatClampNeg r41) fun w51 => gd_ (315 : Int32) 395 <| gd_ (315 : Int32) 395 <| lt_ (upd w51 (315 : Int32).toNatClampNeg ((w51 (315 : Int32).toNatClampNeg) + (1 : Int32))) fun w54 => some (w54, w42, w43, w44, w45, w46, w47)) = some (z1, z2, z3, z4, z5, z6, z7) := by rw [ej55] at hf; exact hf
      obtain ⟨r24, w25, w26, w27, w28, w29, w30, hk31, hf⟩ := b7_s hf
      refine rv_i (vq := (RX7, TX7, 28)) (As := [.int (1 : Int32), .int v23]) (rest := [.int ((297 : Int32) + v2), .ref (qm 1)]) (bs' := [pMo κ qm w22 m_tape m_taped m_fault w25 w26 w27 w28 w29 w30 m_ends m_letters m_moments m_stepsAt m_steps m_latest m_matrix m_sides m_tried m_answers m_rowOf m_whole m_shares m_isKept m_lanes m_lengths m_cells m_torn]) C0 hw (cMo_numberRead l D κ qm w22 m_tape m_taped m_fault w13 w14 w15 w16 w17 w18 m_ends m_letters m_moments m_stepsAt m_steps m_latest m_matrix m_sides m_tried m_answers m_rowOf m_whole m_shares m_isKept m_lanes m_lengths m_cells m_torn (1 : Int32) v23 r24 w25 w26 w27 w28 w29 w30 hk31) cv_RX7_113 ⟨rfl, rfl, Nat.le_of_ble_eq_true rfl, Nat.le_of_ble_eq_true rfl⟩ ⟨Nat.zero_le _, Nat.zero_le _⟩ [0] [] [0] rfl rfl rfl rfl (by decide) rfl rfl rfl rfl rfl hl.1 (by simp only [List.map, List.sum_cons, List.sum_nil, Value.category]; decide) dX7_readLoad_65 (fun H locs hw hn32 => ?_)
      obtain ⟨hi33, hf⟩ := gd_s hf
      obtain ⟨w34, ew34⟩ : ∃ z : Nat → Int32, z = (upd w22 ((297 : Int32) + v2).toNatClampNeg r24) := ⟨_, rfl⟩
      have hf := lt_s_ hf w34 ew34
      refine r_iast C0 hw 1 0 rfl rfl hi33 dX7_readLoad_68 (ws' := List.flatten [pMo κ qm w34 m_tape m_taped m_fault w25 w26 w27 w28 w29 w30 m_ends m_letters m_moments m_stepsAt m_steps m_latest m_matrix m_sides m_tried m_answers m_rowOf m_whole m_shares m_isKept m_lanes m_lengths m_cells m_torn]) (by subst ew34; rfl) (fun H locs hw => ?_)
      refine lv_aload_n hx hb dX7_readLoad_69 rfl (lv_at hl 1 rfl) ?_
      refine r_get C0 hw 0 0 (v := .ref (qm 1)) rfl rfl inX7 (by decide) lk_X7_7 rfl dX7_readLoad_70 ?_
      refine lv_sipush (v := 305) hx hb dX7_readLoad_73 (by decide) ?_
      refine lv_iload_n hx hb dX7_readLoad_76 rfl (lv_at hl 0 rfl) ?_
      refine lv_iadd hx hb dX7_readLoad_77 ?_
      refine lv_iload_n hx hb dX7_readLoad_78 rfl (lv_at hl 2 rfl) ?_
      refine lv_if_eq (tgt := 92) hx hb dX7_readLoad_79 (by decide) (fun hc35 => ?_) (fun hc35 => ?_)
      · have hf := if_t hc35 hf
        refine lv_iconst (v := 0) hx hb dX7_readLoad_92 (by decide) ?_
        obtain ⟨hi36, hf⟩ := gd_s hf
        obtain ⟨w37, ew37⟩ : ∃ z : Nat → Int32, z = (upd w34 ((305 : Int32) + v2).toNatClampNeg (0 : Int32)) := ⟨_, rfl⟩
        have hf := lt_s_ hf w37 ew37
        refine r_iast C0 hw 1 0 rfl rfl hi36 dX7_readLoad_93 (ws' := List.flatten [pMo κ qm w37 m_tape m_taped m_fault w25 w26 w27 w28 w29 w30 m_ends m_letters m_moments m_stepsAt m_steps m_latest m_matrix m_sides m_tried m_answers m_rowOf m_whole m_shares m_isKept m_lanes m_lengths m_cells m_torn]) (by subst ew37; rfl) (fun H locs hw => ?_)
        refine lv_aload_n hx hb dX7_readLoad_94 rfl (lv_at hl 1 rfl) ?_
        refine r_get C0 hw 0 0 (v := .ref (qm 1)) rfl rfl inX7 (by decide) lk_X7_7 rfl dX7_readLoad_95 ?_
        refine lv_sipush (v := 315) hx hb dX7_readLoad_98 (by decide) ?_
        refine lv_dup2_11 hx hb dX7_readLoad_101 rfl rfl ?_
        obtain ⟨hi38, hf⟩ := gd_s hf
        refine r_iald C0 hw 1 0 rfl rfl hi38 dX7_readLoad_102 ?_
        refine lv_iconst (v := 1) hx hb dX7_readLoad_103 (by decide) ?_
        refine lv_iadd hx hb dX7_readLoad_104 ?_
        obtain ⟨hi39, hf⟩ := gd_s hf
        obtain ⟨w40, ew40⟩ : ∃ z : Nat → Int32, z = (upd w37 (315 : Int32).toNatClampNeg ((w37 (315 : Int32).toNatClampNeg) + (1 : Int32))) := ⟨_, rfl⟩
        have hf := lt_s_ hf w40 ew40
        refine r_iast C0 hw 1 0 rfl rfl hi39 dX7_readLoad_105 (ws' := List.flatten [pMo κ qm w40 m_tape m_taped m_fault w25 w26 w27 w28 w29 w30 m_ends m_letters m_moments m_stepsAt m_steps m_latest m_matrix m_sides m_tried m_answers m_rowOf m_whole m_shares m_isKept m_lanes m_lengths m_cells m_torn]) (by subst ew40; rfl) (fun H locs hw => ?_)
        obtain ⟨rfl, rfl, rfl, rfl, rfl, rfl, rfl⟩ := e7_ hf
        exact r_vret C0 hw dX7_readLoad_106
      · have hf := if_f hc35 hf
        refine lv_aload_n hx hb dX7_readLoad_82 rfl (lv_at hl 1 rfl) ?_
        refine lv_iconst (v := 1) hx hb dX7_readLoad_83 (by decide) ?_
        refine lv_bipush (v := 11) hx hb dX7_readLoad_84 (by decide) ?_
        obtain ⟨r41, w42, w43, w44, w45, w46, w47, hk48, hf⟩ := b7_s hf
        refine rv_i (vq := (RX7, TX7, 28)) (As := [.int (1 : Int32), .int (11 : Int32)]) (rest := [.int ((305 : Int32) + v2), .ref (qm 1)]) (bs' := [pMo κ qm w34 m_tape m_taped m_fault w42 w43 w44 w45 w46 w47 m_ends m_letters m_moments m_stepsAt m_steps m_latest m_matrix m_sides m_tried m_answers m_rowOf m_whole m_shares m_isKept m_lanes m_lengths m_cells m_torn]) C0 hw (cMo_numberRead l D κ qm w34 m_tape m_taped m_fault w25 w26 w27 w28 w29 w30 m_ends m_letters m_moments m_stepsAt m_steps m_latest m_matrix m_sides m_tried m_answers m_rowOf m_whole m_shares m_isKept m_lanes m_lengths m_cells m_torn (1 : Int32) (11 : Int32) r41 w42 w43 w44 w45 w46 w47 hk48) cv_RX7_113 ⟨rfl, rfl, Nat.le_of_ble_eq_true rfl, Nat.le_of_ble_eq_true rfl⟩ ⟨Nat.zero_le _, Nat.zero_le _⟩ [0] [] [0] rfl rfl rfl rfl (by decide) rfl rfl rfl rfl rfl hl.1 (by simp only [List.map, List.sum_cons, List.sum_nil, Value.category]; decide) dX7_readLoad_86 (fun H locs hw hn49 => ?_)
        refine lv_goto (tgt := 93) hx hb dX7_readLoad_89 (by decide) ?_
        obtain ⟨hi50, hf⟩ := gd_s hf
        obtain ⟨w51, ew51⟩ : ∃ z : Nat → Int32, z = (upd w34 ((305 : Int32) + v2).toNatClampNeg r41) := ⟨_, rfl⟩
        have hf := lt_s_ hf w51 ew51
        refine r_iast C0 hw 1 0 rfl rfl hi50 dX7_readLoad_93 (ws' := List.flatten [pMo κ qm w51 m_tape m_taped m_fault w42 w43 w44 w45 w46 w47 m_ends m_letters m_moments m_stepsAt m_steps m_latest m_matrix m_sides m_tried m_answers m_rowOf m_whole m_shares m_isKept m_lanes m_lengths m_cells m_torn]) (by subst ew51; rfl) (fun H locs hw => ?_)
        refine lv_aload_n hx hb dX7_readLoad_94 rfl (lv_at hl 1 rfl) ?_
        refine r_get C0 hw 0 0 (v := .ref (qm 1)) rfl rfl inX7 (by decide) lk_X7_7 rfl dX7_readLoad_95 ?_
        refine lv_sipush (v := 315) hx hb dX7_readLoad_98 (by decide) ?_
        refine lv_dup2_11 hx hb dX7_readLoad_101 rfl rfl ?_
        obtain ⟨hi52, hf⟩ := gd_s hf
        refine r_iald C0 hw 1 0 rfl rfl hi52 dX7_readLoad_102 ?_
        refine lv_iconst (v := 1) hx hb dX7_readLoad_103 (by decide) ?_
        refine lv_iadd hx hb dX7_readLoad_104 ?_
        obtain ⟨hi53, hf⟩ := gd_s hf
        obtain ⟨w54, ew54⟩ : ∃ z : Nat → Int32, z = (upd w51 (315 : Int32).toNatClampNeg ((w51 (315 : Int32).toNatClampNeg) + (1 : Int32))) := ⟨_, rfl⟩
        have hf := lt_s_ hf w54 ew54
        refine r_iast C0 hw 1 0 rfl rfl hi53 dX7_readLoad_105 (ws' := List.flatten [pMo κ qm w54 m_tape m_taped m_fault w42 w43 w44 w45 w46 w47 m_ends m_letters m_moments m_stepsAt m_steps m_latest m_matrix m_sides m_tried m_answers m_rowOf m_whole m_shares m_isKept m_lanes m_lengths m_cells m_torn]) (by subst ew54; rfl) (fun H locs hw => ?_)
        obtain ⟨rfl, rfl, rfl, rfl, rfl, rfl, rfl⟩ := e7_ hf
        exact r_vret C0 hw dX7_readLoad_106
    refine lv_if_eq (tgt := 63) hx hb dX7_readLoad_54 (by decide) (fun hc57 => ?_) (fun hc57 => ?_)
    · have hf := if_t hc57 hf
      refine lv_bipush (v := 99) hx hb dX7_readLoad_63 (by decide) ?_
      exact hj56 (99 : Int32) H locs ls hw (lv_sub hl [0, 1, 2] rfl)  hf
    · have hf := if_f hc57 hf
      refine lv_sipush (v := 999) hx hb dX7_readLoad_57 (by decide) ?_
      refine lv_goto (tgt := 65) hx hb dX7_readLoad_60 (by decide) ?_
      exact hj56 (999 : Int32) H locs ls hw (lv_sub hl [0, 1, 2] rfl)  hf
  · have hf := if_t hc3 hf
    refine lv_aload_n hx hb dX7_readLoad_15 rfl (lv_at hl 1 rfl) ?_
    refine lv_iconst (v := 5) hx hb dX7_readLoad_16 (by decide) ?_
    obtain ⟨w58, w59, hk60, hf⟩ := b2_s hf
    refine rv_v (vq := (RX7, TX7, 28)) (As := [.int (5 : Int32)]) (rest := []) (bs' := [pMo κ qm m_state m_tape m_taped m_fault w58 w59 m_spot m_here m_token m_value m_ends m_letters m_moments m_stepsAt m_steps m_latest m_matrix m_sides m_tried m_answers m_rowOf m_whole m_shares m_isKept m_lanes m_lengths m_cells m_torn]) C0 hw (cMo_fails l D κ qm m_state m_tape m_taped m_fault m_broken m_brokenAt m_spot m_here m_token m_value m_ends m_letters m_moments m_stepsAt m_steps m_latest m_matrix m_sides m_tried m_answers m_rowOf m_whole m_shares m_isKept m_lanes m_lengths m_cells m_torn (5 : Int32) w58 w59 hk60) cv_RX7_103 ⟨rfl, rfl, Nat.le_of_ble_eq_true rfl, Nat.le_of_ble_eq_true rfl⟩ ⟨Nat.zero_le _, Nat.zero_le _⟩ [0] [] [0] rfl rfl rfl rfl (by decide) rfl rfl rfl rfl rfl hl.1 (by simp only [List.map, List.sum_cons, List.sum_nil, Value.category]; decide) dX7_readLoad_17 (fun H locs hw => ?_)
    obtain ⟨rfl, rfl, rfl, rfl, rfl, rfl, rfl⟩ := e7_ hf
    exact r_vret C0 hw dX7_readLoad_20
def FMo_readLine (m_state m_tape : Nat → Int32) (m_taped m_broken m_brokenAt m_spot m_here m_token m_value : Int32) (m_ends m_letters : Nat → Int32) : Option ((Nat → Int32) × Int32 × Int32 × Int32 × Int32 × Int32 × Int32) :=
  b1_ (FMo_nameHere m_tape m_taped m_spot m_here m_token m_ends m_letters) fun r1 =>
  lt_ (fun (w4 : Int32) (w5 : Int32) (w6 : Int32) (w7 : Int32) (w8 : Nat → Int32) (w9 : Int32) (w10 : Int32) =>
    if w4 = 0 then
      if w9 = (3 : Int32) then
        b6_ (FMo_readsOn m_tape m_taped w4 w5 w7 w6 w9 w10) fun w21 w22 w23 w24 w25 w26 =>
        some (w8, w21, w22, w23, w24, w25, w26)
      else
        b2_ (FMo_fails w4 w5 w6 (2 : Int32)) fun w29 w30 =>
        b6_ (FMo_readsOn m_tape m_taped w29 w30 w7 w6 w9 w10) fun w33 w34 w35 w36 w37 w38 =>
        some (w8, w33, w34, w35, w36, w37, w38)
    else
      b6_ (FMo_readsOn m_tape m_taped w4 w5 w7 w6 w9 w10) fun w12 w13 w14 w15 w16 w17 =>
      some (w8, w12, w13, w14, w15, w16, w17) : Int32 → Int32 → Int32 → Int32 → (Nat → Int32) → Int32 → Int32 → Option ((Nat → Int32) × Int32 × Int32 × Int32 × Int32 × Int32 × Int32)) fun j41 =>
  if r1 = (-4 : Int32) then
    b2_ (FMo_fails m_broken m_brokenAt m_here (2 : Int32)) fun w80 w81 =>
    j41 w80 w81 m_here m_spot m_state m_token m_value
  else
    lt_ (fun (_ : Unit) =>
      b7_ (FMo_readJoint m_state m_tape m_taped m_broken m_brokenAt m_spot m_here m_token m_value r1) fun w44 w45 w46 w47 w48 w49 w50 =>
      j41 w45 w46 w48 w47 w44 w49 w50 : Unit → Option ((Nat → Int32) × Int32 × Int32 × Int32 × Int32 × Int32 × Int32)) fun j53 =>
    if r1 = 0 then
      j53 ()
    else
      if r1 = (1 : Int32) then
        j53 ()
      else
        if r1 = (2 : Int32) then
          b7_ (FMo_readBeam m_state m_tape m_taped m_broken m_brokenAt m_spot m_here m_token m_value) fun w71 w72 w73 w74 w75 w76 w77 =>
          j41 w72 w73 w75 w74 w71 w76 w77
        else
          lt_ (fun (v58 : Int32) =>
            b7_ (FMo_readLoad m_state m_tape m_taped m_broken m_brokenAt m_spot m_here m_token m_value v58) fun w59 w60 w61 w62 w63 w64 w65 =>
            j41 w60 w61 w63 w62 w59 w64 w65 : Int32 → Option ((Nat → Int32) × Int32 × Int32 × Int32 × Int32 × Int32 × Int32)) fun j68 =>
          if r1 = (3 : Int32) then
            j68 (1 : Int32)
          else
            j68 (0 : Int32)
set_option maxHeartbeats 4000000 in
set_option maxRecDepth 100000 in
theorem cMo_readLine (l : Launch) (D : va_G) (κ : Nat → ClassId) (qm : Nat → Nat) (m_state m_tape : Nat → Int32) (m_taped m_fault m_broken m_brokenAt m_spot m_here m_token m_value : Int32) (m_ends m_letters m_moments m_stepsAt : Nat → Int32) (m_steps m_latest : Int32) (m_matrix m_sides m_tried m_answers : Nat → Int64) (m_rowOf : Nat → Int32) (m_whole : Int64) (m_shares m_isKept m_lanes m_lengths m_cells : Nat → Int32) (m_torn : Int32) (z1 : Nat → Int32) (z2 z3 z4 z5 z6 z7 : Int32) (hf : FMo_readLine m_state m_tape m_taped m_broken m_brokenAt m_spot m_here m_token m_value m_ends m_letters = some (z1, z2, z3, z4, z5, z6, z7)) : mV_ l yX7_readLine (Cond.code yX7_readLine cX7_readLine 2 none :: uw) ({ frames := 4, cells := 0, slots := 0, locals := 93 } : Room) D (tys0 κ) [.ref (qm 0)] (List.flatten [pMo κ qm m_state m_tape m_taped m_fault m_broken m_brokenAt m_spot m_here m_token m_value m_ends m_letters m_moments m_stepsAt m_steps m_latest m_matrix m_sides m_tried m_answers m_rowOf m_whole m_shares m_isKept m_lanes m_lengths m_cells m_torn])  (List.flatten [pMo κ qm z1 m_tape m_taped m_fault z2 z3 z4 z5 z6 z7 m_ends m_letters m_moments m_stepsAt m_steps m_latest m_matrix m_sides m_tried m_answers m_rowOf m_whole m_shares m_isKept m_lanes m_lengths m_cells m_torn]) := by
  unfold FMo_readLine at hf
  refine mV_of (by decide) (Nat.le_of_ble_eq_true rfl) ?_
  intro p e s m below meth c A ls H locs C0 hw hl
  obtain ⟨hx, hb, -, hml, hown, hts, -, -⟩ := id C0
  have hl : lv_has ls 2 [(0, .ref (qm 0))] := hl
  refine lv_aload_n hx hb dX7_readLine_0 rfl (lv_at hl 0 rfl) ?_
  obtain ⟨r1, hk2, hf⟩ := b1_s hf
  refine rv_i (vq := (RX7, TX7, 28)) (As := []) (rest := []) (bs' := [pMo κ qm m_state m_tape m_taped m_fault m_broken m_brokenAt m_spot m_here m_token m_value m_ends m_letters m_moments m_stepsAt m_steps m_latest m_matrix m_sides m_tried m_answers m_rowOf m_whole m_shares m_isKept m_lanes m_lengths m_cells m_torn]) C0 hw (cMo_nameHere l D κ qm m_state m_tape m_taped m_fault m_broken m_brokenAt m_spot m_here m_token m_value m_ends m_letters m_moments m_stepsAt m_steps m_latest m_matrix m_sides m_tried m_answers m_rowOf m_whole m_shares m_isKept m_lanes m_lengths m_cells m_torn r1 hk2) cv_RX7_121 ⟨rfl, rfl, Nat.le_of_ble_eq_true rfl, Nat.le_of_ble_eq_true rfl⟩ ⟨Nat.zero_le _, Nat.zero_le _⟩ [0] [] [0] rfl rfl rfl rfl (by decide) rfl rfl rfl rfl rfl hl.1 (by simp only [List.map, List.sum_cons, List.sum_nil, Value.category]; decide) dX7_readLine_1 (fun H locs hw hn3 => ?_)
  refine lv_istore_n (lv' := [(1, .int r1), (0, .ref (qm 0))]) hx hb dX7_readLine_4 rfl hl (by decide) rfl (fun ls hl => ?_)
  refine lv_iload_n hx hb dX7_readLine_5 rfl (lv_at hl 0 rfl) ?_
  refine lv_bipush (v := -4) hx hb dX7_readLine_6 (by decide) ?_
  obtain ⟨j41, ej41, hf⟩ := lt_e hf
  have hj42 : ∀ (w4 : Int32) (w5 : Int32) (w6 : Int32) (w7 : Int32) (w8 : Nat → Int32) (w9 : Int32) (w10 : Int32) (H : Heap) (locs : List Loc) (ls : Array Slot), wd_ D (tys0 κ) A s (List.flatten [pMo κ qm w8 m_tape m_taped m_fault w4 w5 w7 w6 w9 w10 m_ends m_letters m_moments m_stepsAt m_steps m_latest m_matrix m_sides m_tried m_answers m_rowOf m_whole m_shares m_isKept m_lanes m_lengths m_cells m_torn]) H locs → lv_has ls 2 [(0, .ref (qm 0))] → j41 w4 w5 w6 w7 w8 w9 w10 = some (z1, z2, z3, z4, z5, z6, z7) → W p l e ({ frames := 4, cells := 0, slots := 0, locals := 93 } : Room) s m ([.ref (qm 0)] : List Value).toArray below meth c H locs 0 0 (qV_ D (tys0 κ) A (List.flatten [pMo κ qm z1 m_tape m_taped m_fault z2 z3 z4 z5 z6 z7 m_ends m_letters m_moments m_stepsAt m_steps m_latest m_matrix m_sides m_tried m_answers m_rowOf m_whole m_shares m_isKept m_lanes m_lengths m_cells m_torn]) below ([.ref (qm 0)] : List Value).toArray s) (F0 m 62 ls []) := by
    intro w4 w5 w6 w7 w8 w9 w10 H locs ls hw hl  hf
    have hf : (if w4 = 0 then if w9 = (3 : Int32) then b6_ (FMo_readsOn m_tape m_taped w4 w5 w7 w6 w9 w10) fun w21 w22 w23 w24 w25 w26 => some (w8, w21, w22, w23, w24, w25, w26) else b2_ (FMo_fails w4 w5 w6 (2 : Int32)) fun w29 w30 => b6_ (FMo_readsOn m_tape m_taped w29 w30 w7 w6 w9 w10) fun w33 w34 w35 w36 w37 w38 => some (w8, w33, w34, w35, w36, w37, w38) else b6_ (FMo_readsOn m_tape m_taped w4 w5 w7 w6 w9 w10) fun w12 w13 w14 w15 w16 w17 => some (w8, w12, w13, w14, w15, w16, w17)) = some (z1, z2, z3, z4, z5, z6, z7) := by rw [ej41] at hf; exact hf
    refine lv_aload_n hx hb dX7_readLine_62 rfl (lv_at hl 0 rfl) ?_
    refine r_get C0 hw 0 4 (v := .int w4) rfl rfl inX7 (by decide) lk_X7_73 rfl dX7_readLine_63 ?_
    refine lv_if_ne (tgt := 82) hx hb dX7_readLine_66 (by decide) (fun hc11 => ?_) (fun hc11 => ?_)
    · have hf := if_f hc11 hf
      refine lv_aload_n hx hb dX7_readLine_82 rfl (lv_at hl 0 rfl) ?_
      obtain ⟨w12, w13, w14, w15, w16, w17, hk18, hf⟩ := b6_s hf
      refine rv_v (vq := (RX7, TX7, 28)) (As := []) (rest := []) (bs' := [pMo κ qm w8 m_tape m_taped m_fault w12 w13 w14 w15 w16 w17 m_ends m_letters m_moments m_stepsAt m_steps m_latest m_matrix m_sides m_tried m_answers m_rowOf m_whole m_shares m_isKept m_lanes m_lengths m_cells m_torn]) C0 hw (cMo_readsOn l D κ qm w8 m_tape m_taped m_fault w4 w5 w7 w6 w9 w10 m_ends m_letters m_moments m_stepsAt m_steps m_latest m_matrix m_sides m_tried m_answers m_rowOf m_whole m_shares m_isKept m_lanes m_lengths m_cells m_torn w12 w13 w14 w15 w16 w17 hk18) cv_RX7_107 ⟨rfl, rfl, Nat.le_of_ble_eq_true rfl, Nat.le_of_ble_eq_true rfl⟩ ⟨Nat.zero_le _, Nat.zero_le _⟩ [0] [] [0] rfl rfl rfl rfl (by decide) rfl rfl rfl rfl rfl hl.1 (by simp only [List.map, List.sum_cons, List.sum_nil, Value.category]; decide) dX7_readLine_83 (fun H locs hw => ?_)
      obtain ⟨rfl, rfl, rfl, rfl, rfl, rfl, rfl⟩ := e7_ hf
      exact r_vret C0 hw dX7_readLine_86
    · have hf := if_t hc11 hf
      refine lv_aload_n hx hb dX7_readLine_69 rfl (lv_at hl 0 rfl) ?_
      refine r_get C0 hw 0 8 (v := .int w9) rfl rfl inX7 (by decide) lk_X7_82 rfl dX7_readLine_70 ?_
      refine lv_iconst (v := 3) hx hb dX7_readLine_73 (by decide) ?_
      refine lv_icmp_eq (tgt := 82) hx hb dX7_readLine_74 (by decide) (fun hc20 => ?_) (fun hc20 => ?_)
      · have hf := if_t hc20 hf
        refine lv_aload_n hx hb dX7_readLine_82 rfl (lv_at hl 0 rfl) ?_
        obtain ⟨w21, w22, w23, w24, w25, w26, hk27, hf⟩ := b6_s hf
        refine rv_v (vq := (RX7, TX7, 28)) (As := []) (rest := []) (bs' := [pMo κ qm w8 m_tape m_taped m_fault w21 w22 w23 w24 w25 w26 m_ends m_letters m_moments m_stepsAt m_steps m_latest m_matrix m_sides m_tried m_answers m_rowOf m_whole m_shares m_isKept m_lanes m_lengths m_cells m_torn]) C0 hw (cMo_readsOn l D κ qm w8 m_tape m_taped m_fault w4 w5 w7 w6 w9 w10 m_ends m_letters m_moments m_stepsAt m_steps m_latest m_matrix m_sides m_tried m_answers m_rowOf m_whole m_shares m_isKept m_lanes m_lengths m_cells m_torn w21 w22 w23 w24 w25 w26 hk27) cv_RX7_107 ⟨rfl, rfl, Nat.le_of_ble_eq_true rfl, Nat.le_of_ble_eq_true rfl⟩ ⟨Nat.zero_le _, Nat.zero_le _⟩ [0] [] [0] rfl rfl rfl rfl (by decide) rfl rfl rfl rfl rfl hl.1 (by simp only [List.map, List.sum_cons, List.sum_nil, Value.category]; decide) dX7_readLine_83 (fun H locs hw => ?_)
        obtain ⟨rfl, rfl, rfl, rfl, rfl, rfl, rfl⟩ := e7_ hf
        exact r_vret C0 hw dX7_readLine_86
      · have hf := if_f hc20 hf
        refine lv_aload_n hx hb dX7_readLine_77 rfl (lv_at hl 0 rfl) ?_
        refine lv_iconst (v := 2) hx hb dX7_readLine_78 (by decide) ?_
        obtain ⟨w29, w30, hk31, hf⟩ := b2_s hf
        refine rv_v (vq := (RX7, TX7, 28)) (As := [.int (2 : Int32)]) (rest := []) (bs' := [pMo κ qm w8 m_tape m_taped m_fault w29 w30 w7 w6 w9 w10 m_ends m_letters m_moments m_stepsAt m_steps m_latest m_matrix m_sides m_tried m_answers m_rowOf m_whole m_shares m_isKept m_lanes m_lengths m_cells m_torn]) C0 hw (cMo_fails l D κ qm w8 m_tape m_taped m_fault w4 w5 w7 w6 w9 w10 m_ends m_letters m_moments m_stepsAt m_steps m_latest m_matrix m_sides m_tried m_answers m_rowOf m_whole m_shares m_isKept m_lanes m_lengths m_cells m_torn (2 : Int32) w29 w30 hk31) cv_RX7_103 ⟨rfl, rfl, Nat.le_of_ble_eq_true rfl, Nat.le_of_ble_eq_true rfl⟩ ⟨Nat.zero_le _, Nat.zero_le _⟩ [0] [] [0] rfl rfl rfl rfl (by decide) rfl rfl rfl rfl rfl hl.1 (by simp only [List.map, List.sum_cons, List.sum_nil, Value.category]; decide) dX7_readLine_79 (fun H locs hw => ?_)
        refine lv_aload_n hx hb dX7_readLine_82 rfl (lv_at hl 0 rfl) ?_
        obtain ⟨w33, w34, w35, w36, w37, w38, hk39, hf⟩ := b6_s hf
        refine rv_v (vq := (RX7, TX7, 28)) (As := []) (rest := []) (bs' := [pMo κ qm w8 m_tape m_taped m_fault w33 w34 w35 w36 w37 w38 m_ends m_letters m_moments m_stepsAt m_steps m_latest m_matrix m_sides m_tried m_answers m_rowOf m_whole m_shares m_isKept m_lanes m_lengths m_cells m_torn]) C0 hw (cMo_readsOn l D κ qm w8 m_tape m_taped m_fault w29 w30 w7 w6 w9 w10 m_ends m_letters m_moments m_stepsAt m_steps m_latest m_matrix m_sides m_tried m_answers m_rowOf m_whole m_shares m_isKept m_lanes m_lengths m_cells m_torn w33 w34 w35 w36 w37 w38 hk39) cv_RX7_107 ⟨rfl, rfl, Nat.le_of_ble_eq_true rfl, Nat.le_of_ble_eq_true rfl⟩ ⟨Nat.zero_le _, Nat.zero_le _⟩ [0] [] [0] rfl rfl rfl rfl (by decide) rfl rfl rfl rfl rfl hl.1 (by simp only [List.map, List.sum_cons, List.sum_nil, Value.category]; decide) dX7_readLine_83 (fun H locs hw => ?_)
        obtain ⟨rfl, rfl, rfl, rfl, rfl, rfl, rfl⟩ := e7_ hf
        exact r_vret C0 hw dX7_readLine_86
  refine lv_icmp_ne (tgt := 19) hx hb dX7_readLine_8 (by decide) (fun hc43 => ?_) (fun hc43 => ?_)
  · have hf := if_f hc43 hf
    refine lv_iload_n hx hb dX7_readLine_19 rfl (lv_at hl 0 rfl) ?_
    obtain ⟨j53, ej53, hf⟩ := lt_e hf
    have hj54 : ∀  (H : Heap) (locs : List Loc) (ls : Array Slot), wd_ D (tys0 κ) A s (List.flatten [pMo κ qm m_state m_tape m_taped m_fault m_broken m_brokenAt m_spot m_here m_token m_value m_ends m_letters m_moments m_stepsAt m_steps m_latest m_matrix m_sides m_tried m_answers m_rowOf m_whole m_shares m_isKept m_lanes m_lengths m_cells m_torn]) H locs → lv_has ls 2 [(1, .int r1), (0, .ref (qm 0))] → j53 () = some (z1, z2, z3, z4, z5, z6, z7) → W p l e ({ frames := 4, cells := 0, slots := 0, locals := 93 } : Room) s m ([.ref (qm 0)] : List Value).toArray below meth c H locs 0 0 (qV_ D (tys0 κ) A (List.flatten [pMo κ qm z1 m_tape m_taped m_fault z2 z3 z4 z5 z6 z7 m_ends m_letters m_moments m_stepsAt m_steps m_latest m_matrix m_sides m_tried m_answers m_rowOf m_whole m_shares m_isKept m_lanes m_lengths m_cells m_torn]) below ([.ref (qm 0)] : List Value).toArray s) (F0 m 28 ls []) := by
      intro  H locs ls hw hl  hf
      have hf : (b7_ (FMo_readJoint m_state m_tape m_taped m_broken m_brokenAt m_spot m_here m_token m_value r1) fun w44 w45 w46 w47 w48 w49 w50 => j41 w45 w46 w48 w47 w44 w49 w50) = some (z1, z2, z3, z4, z5, z6, z7) := by rw [ej53] at hf; exact hf
      refine lv_aload_n hx hb dX7_readLine_28 rfl (lv_at hl 1 rfl) ?_
      refine lv_iload_n hx hb dX7_readLine_29 rfl (lv_at hl 0 rfl) ?_
      obtain ⟨w44, w45, w46, w47, w48, w49, w50, hk51, hf⟩ := b7_s hf
      refine rv_v (vq := (RX7, TX7, 28)) (As := [.int r1]) (rest := []) (bs' := [pMo κ qm w44 m_tape m_taped m_fault w45 w46 w47 w48 w49 w50 m_ends m_letters m_moments m_stepsAt m_steps m_latest m_matrix m_sides m_tried m_answers m_rowOf m_whole m_shares m_isKept m_lanes m_lengths m_cells m_torn]) C0 hw (cMo_readJoint l D κ qm m_state m_tape m_taped m_fault m_broken m_brokenAt m_spot m_here m_token m_value m_ends m_letters m_moments m_stepsAt m_steps m_latest m_matrix m_sides m_tried m_answers m_rowOf m_whole m_shares m_isKept m_lanes m_lengths m_cells m_torn r1 w44 w45 w46 w47 w48 w49 w50 hk51) cv_RX7_125 ⟨rfl, rfl, Nat.le_of_ble_eq_true rfl, Nat.le_of_ble_eq_true rfl⟩ ⟨Nat.zero_le _, Nat.zero_le _⟩ [0] [] [0] rfl rfl rfl rfl (by decide) rfl rfl rfl rfl rfl hl.1 (by simp only [List.map, List.sum_cons, List.sum_nil, Value.category]; decide) dX7_readLine_30 (fun H locs hw => ?_)
      refine lv_goto (tgt := 62) hx hb dX7_readLine_33 (by decide) ?_
      exact hj42 w45 w46 w48 w47 w44 w49 w50 H locs ls hw (lv_sub hl [1] rfl)  hf
    refine lv_if_eq (tgt := 28) hx hb dX7_readLine_20 (by decide) (fun hc55 => ?_) (fun hc55 => ?_)
    · have hf := if_t hc55 hf
      exact hj54  H locs ls hw (lv_sub hl [0, 1] rfl)  hf
    · have hf := if_f hc55 hf
      refine lv_iload_n hx hb dX7_readLine_23 rfl (lv_at hl 0 rfl) ?_
      refine lv_iconst (v := 1) hx hb dX7_readLine_24 (by decide) ?_
      refine lv_icmp_ne (tgt := 36) hx hb dX7_readLine_25 (by decide) (fun hc56 => ?_) (fun hc56 => ?_)
      · have hf := if_f hc56 hf
        refine lv_iload_n hx hb dX7_readLine_36 rfl (lv_at hl 0 rfl) ?_
        refine lv_iconst (v := 2) hx hb dX7_readLine_37 (by decide) ?_
        refine lv_icmp_ne (tgt := 48) hx hb dX7_readLine_38 (by decide) (fun hc57 => ?_) (fun hc57 => ?_)
        · have hf := if_f hc57 hf
          refine lv_aload_n hx hb dX7_readLine_48 rfl (lv_at hl 1 rfl) ?_
          refine lv_iload_n hx hb dX7_readLine_49 rfl (lv_at hl 0 rfl) ?_
          refine lv_iconst (v := 3) hx hb dX7_readLine_50 (by decide) ?_
          obtain ⟨j68, ej68, hf⟩ := lt_e hf
          have hj69 : ∀ (v58 : Int32) (H : Heap) (locs : List Loc) (ls : Array Slot), wd_ D (tys0 κ) A s (List.flatten [pMo κ qm m_state m_tape m_taped m_fault m_broken m_brokenAt m_spot m_here m_token m_value m_ends m_letters m_moments m_stepsAt m_steps m_latest m_matrix m_sides m_tried m_answers m_rowOf m_whole m_shares m_isKept m_lanes m_lengths m_cells m_torn]) H locs → lv_has ls 2 [(0, .ref (qm 0))] → j68 v58 = some (z1, z2, z3, z4, z5, z6, z7) → W p l e ({ frames := 4, cells := 0, slots := 0, locals := 93 } : Room) s m ([.ref (qm 0)] : List Value).toArray below meth c H locs 0 0 (qV_ D (tys0 κ) A (List.flatten [pMo κ qm z1 m_tape m_taped m_fault z2 z3 z4 z5 z6 z7 m_ends m_letters m_moments m_stepsAt m_steps m_latest m_matrix m_sides m_tried m_answers m_rowOf m_whole m_shares m_isKept m_lanes m_lengths m_cells m_torn]) below ([.ref (qm 0)] : List Value).toArray s) (F0 m 59 ls [.int v58, .ref (qm 0)]) := by
            intro v58 H locs ls hw hl  hf
            have hf : (b7_ (FMo_readLoad m_state m_tape m_taped m_broken m_brokenAt m_spot m_here m_token m_value v58) fun w59 w60 w61 w62 w63 w64 w65 => j41 w60 w61 w63 w62 w59 w64 w65) = some (z1, z2, z3, z4, z5, z6, z7) := by rw [ej68] at hf; exact hf
            obtain ⟨w59, w60, w61, w62, w63, w64, w65, hk66, hf⟩ := b7_s hf
            refine rv_v (vq := (RX7, TX7, 28)) (As := [.int v58]) (rest := []) (bs' := [pMo κ qm w59 m_tape m_taped m_fault w60 w61 w62 w63 w64 w65 m_ends m_letters m_moments m_stepsAt m_steps m_latest m_matrix m_sides m_tried m_answers m_rowOf m_whole m_shares m_isKept m_lanes m_lengths m_cells m_torn]) C0 hw (cMo_readLoad l D κ qm m_state m_tape m_taped m_fault m_broken m_brokenAt m_spot m_here m_token m_value m_ends m_letters m_moments m_stepsAt m_steps m_latest m_matrix m_sides m_tried m_answers m_rowOf m_whole m_shares m_isKept m_lanes m_lengths m_cells m_torn v58 w59 w60 w61 w62 w63 w64 w65 hk66) cv_RX7_131 ⟨rfl, rfl, Nat.le_of_ble_eq_true rfl, Nat.le_of_ble_eq_true rfl⟩ ⟨Nat.zero_le _, Nat.zero_le _⟩ [0] [] [0] rfl rfl rfl rfl (by decide) rfl rfl rfl rfl rfl hl.1 (by simp only [List.map, List.sum_cons, List.sum_nil, Value.category]; decide) dX7_readLine_59 (fun H locs hw => ?_)
            exact hj42 w60 w61 w63 w62 w59 w64 w65 H locs ls hw (lv_sub hl [0] rfl)  hf
          refine lv_icmp_ne (tgt := 58) hx hb dX7_readLine_51 (by decide) (fun hc70 => ?_) (fun hc70 => ?_)
          · have hf := if_f hc70 hf
            refine lv_iconst (v := 0) hx hb dX7_readLine_58 (by decide) ?_
            exact hj69 (0 : Int32) H locs ls hw (lv_sub hl [1] rfl)  hf
          · have hf := if_t hc70 hf
            refine lv_iconst (v := 1) hx hb dX7_readLine_54 (by decide) ?_
            refine lv_goto (tgt := 59) hx hb dX7_readLine_55 (by decide) ?_
            exact hj69 (1 : Int32) H locs ls hw (lv_sub hl [1] rfl)  hf
        · have hf := if_t hc57 hf
          refine lv_aload_n hx hb dX7_readLine_41 rfl (lv_at hl 1 rfl) ?_
          obtain ⟨w71, w72, w73, w74, w75, w76, w77, hk78, hf⟩ := b7_s hf
          refine rv_v (vq := (RX7, TX7, 28)) (As := []) (rest := []) (bs' := [pMo κ qm w71 m_tape m_taped m_fault w72 w73 w74 w75 w76 w77 m_ends m_letters m_moments m_stepsAt m_steps m_latest m_matrix m_sides m_tried m_answers m_rowOf m_whole m_shares m_isKept m_lanes m_lengths m_cells m_torn]) C0 hw (cMo_readBeam l D κ qm m_state m_tape m_taped m_fault m_broken m_brokenAt m_spot m_here m_token m_value m_ends m_letters m_moments m_stepsAt m_steps m_latest m_matrix m_sides m_tried m_answers m_rowOf m_whole m_shares m_isKept m_lanes m_lengths m_cells m_torn w71 w72 w73 w74 w75 w76 w77 hk78) cv_RX7_128 ⟨rfl, rfl, Nat.le_of_ble_eq_true rfl, Nat.le_of_ble_eq_true rfl⟩ ⟨Nat.zero_le _, Nat.zero_le _⟩ [0] [] [0] rfl rfl rfl rfl (by decide) rfl rfl rfl rfl rfl hl.1 (by simp only [List.map, List.sum_cons, List.sum_nil, Value.category]; decide) dX7_readLine_42 (fun H locs hw => ?_)
          refine lv_goto (tgt := 62) hx hb dX7_readLine_45 (by decide) ?_
          exact hj42 w72 w73 w75 w74 w71 w76 w77 H locs ls hw (lv_sub hl [1] rfl)  hf
      · have hf := if_t hc56 hf
        exact hj54  H locs ls hw (lv_sub hl [0, 1] rfl)  hf
  · have hf := if_t hc43 hf
    refine lv_aload_n hx hb dX7_readLine_11 rfl (lv_at hl 1 rfl) ?_
    refine lv_iconst (v := 2) hx hb dX7_readLine_12 (by decide) ?_
    obtain ⟨w80, w81, hk82, hf⟩ := b2_s hf
    refine rv_v (vq := (RX7, TX7, 28)) (As := [.int (2 : Int32)]) (rest := []) (bs' := [pMo κ qm m_state m_tape m_taped m_fault w80 w81 m_spot m_here m_token m_value m_ends m_letters m_moments m_stepsAt m_steps m_latest m_matrix m_sides m_tried m_answers m_rowOf m_whole m_shares m_isKept m_lanes m_lengths m_cells m_torn]) C0 hw (cMo_fails l D κ qm m_state m_tape m_taped m_fault m_broken m_brokenAt m_spot m_here m_token m_value m_ends m_letters m_moments m_stepsAt m_steps m_latest m_matrix m_sides m_tried m_answers m_rowOf m_whole m_shares m_isKept m_lanes m_lengths m_cells m_torn (2 : Int32) w80 w81 hk82) cv_RX7_103 ⟨rfl, rfl, Nat.le_of_ble_eq_true rfl, Nat.le_of_ble_eq_true rfl⟩ ⟨Nat.zero_le _, Nat.zero_le _⟩ [0] [] [0] rfl rfl rfl rfl (by decide) rfl rfl rfl rfl rfl hl.1 (by simp only [List.map, List.sum_cons, List.sum_nil, Value.category]; decide) dX7_readLine_13 (fun H locs hw => ?_)
    refine lv_goto (tgt := 62) hx hb dX7_readLine_16 (by decide) ?_
    exact hj42 w80 w81 m_here m_spot m_state m_token m_value H locs ls hw (lv_sub hl [1] rfl)  hf
def FMo_isWhole_L4 (m_state : Nat → Int32) (k_ : Int32 → Int32 → Option (Int32)) : Nat → Int32 → Int32 → Option (Int32)
  | 0, _, _ => none
  | n + 1, l1, l2 =>
      gd_ (314 : Int32) 395 <|
      if (m_state (314 : Int32).toNatClampNeg) ≤ l2 then
        k_ l1 l2
      else
        if l1 = 0 then
          lt_ (l2 + (1 : Int32)) fun v4 =>
          FMo_isWhole_L4 m_state k_ n (0 : Int32) v4
        else
          gd_ ((249 : Int32) + l2) 395 <|
          gd_ (313 : Int32) 395 <|
          if (m_state (313 : Int32).toNatClampNeg) ≤ (m_state ((249 : Int32) + l2).toNatClampNeg) then
            lt_ (l2 + (1 : Int32)) fun v8 =>
            FMo_isWhole_L4 m_state k_ n (0 : Int32) v8
          else
            gd_ ((259 : Int32) + l2) 395 <|
            gd_ (313 : Int32) 395 <|
            if (m_state (313 : Int32).toNatClampNeg) ≤ (m_state ((259 : Int32) + l2).toNatClampNeg) then
              lt_ (l2 + (1 : Int32)) fun v12 =>
              FMo_isWhole_L4 m_state k_ n (0 : Int32) v12
            else
              lt_ (l2 + (1 : Int32)) fun v13 =>
              FMo_isWhole_L4 m_state k_ n (1 : Int32) v13
def FMo_isWhole_L76 (m_state : Nat → Int32) : Nat → Int32 → Int32 → Option (Int32)
  | 0, _, _ => none
  | n + 1, l1, l2 =>
      gd_ (315 : Int32) 395 <|
      if (m_state (315 : Int32).toNatClampNeg) ≤ l2 then
        some (l1)
      else
        gd_ ((289 : Int32) + l2) 395 <|
        lt_ (m_state ((289 : Int32) + l2).toNatClampNeg) fun v21 =>
        if l1 = 0 then
          lt_ (l2 + (1 : Int32)) fun v23 =>
          FMo_isWhole_L76 m_state n (0 : Int32) v23
        else
          gd_ (314 : Int32) 395 <|
          if (m_state (314 : Int32).toNatClampNeg) ≤ v21 then
            lt_ (l2 + (1 : Int32)) fun v26 =>
            FMo_isWhole_L76 m_state n (0 : Int32) v26
          else
            gd_ ((305 : Int32) + l2) 395 <|
            gd_ ((269 : Int32) + v21) 395 <|
            if (m_state ((269 : Int32) + v21).toNatClampNeg) ≤ (m_state ((305 : Int32) + l2).toNatClampNeg) then
              lt_ (l2 + (1 : Int32)) fun v30 =>
              FMo_isWhole_L76 m_state n (0 : Int32) v30
            else
              lt_ (l2 + (1 : Int32)) fun v31 =>
              FMo_isWhole_L76 m_state n (1 : Int32) v31
def FMo_isWhole (m_state : Nat → Int32) : Option (Int32) :=
  FMo_isWhole_L4 m_state (fun (v15 : Int32) (v16 : Int32) =>
      FMo_isWhole_L76 m_state 1000 v15 (0 : Int32)) 1000 (1 : Int32) (0 : Int32)
set_option maxHeartbeats 4000000 in
set_option maxRecDepth 100000 in
theorem wMo_isWhole_L4 {p : Program} {l : Launch} {e : Env} {s : State} {m : MethodId} {args : Array Value} {below : List Frame} {meth : Method} {c : Code} {A : Nat → Prop} {D : va_G} {κ : Nat → ClassId} (C0 : cx_ p s m meth c args cX7_isWhole RX7 (some .boolean) 4 A) (qm : Nat → Nat) (m_state m_tape : Nat → Int32) (m_taped m_fault m_broken m_brokenAt m_spot m_here m_token m_value : Int32) (m_ends m_letters m_moments m_stepsAt : Nat → Int32) (m_steps m_latest : Int32) (m_matrix m_sides m_tried m_answers : Nat → Int64) (m_rowOf : Nat → Int32) (m_whole : Int64) (m_shares m_isKept m_lanes m_lengths m_cells : Nat → Int32) (m_torn : Int32) (zr : Int32) (k_ : Int32 → Int32 → Option (Int32)) (hk_ : ∀ (l1 : Int32) (l2 : Int32) (H : Heap) (locs : List Loc) (ls : Array Slot), wd_ D (tys0 κ) A s (List.flatten [pMo κ qm m_state m_tape m_taped m_fault m_broken m_brokenAt m_spot m_here m_token m_value m_ends m_letters m_moments m_stepsAt m_steps m_latest m_matrix m_sides m_tried m_answers m_rowOf m_whole m_shares m_isKept m_lanes m_lengths m_cells m_torn]) H locs → lv_has ls 4 [(0, .ref (qm 0)), (1, .int l1)] → nB_ l1 → k_ l1 l2 = some zr → W p l e ({ frames := 0, cells := 0, slots := 0, locals := 0 } : Room) s m args below meth c H locs 0 0 (qI_ D (tys0 κ) A nB_ zr (List.flatten [pMo κ qm m_state m_tape m_taped m_fault m_broken m_brokenAt m_spot m_here m_token m_value m_ends m_letters m_moments m_stepsAt m_steps m_latest m_matrix m_sides m_tried m_answers m_rowOf m_whole m_shares m_isKept m_lanes m_lengths m_cells m_torn]) below args s) (F0 m 74 ls [])) : ∀ (n : Nat) (l1 : Int32) (l2 : Int32) (H : Heap) (locs : List Loc) (ls : Array Slot), wd_ D (tys0 κ) A s (List.flatten [pMo κ qm m_state m_tape m_taped m_fault m_broken m_brokenAt m_spot m_here m_token m_value m_ends m_letters m_moments m_stepsAt m_steps m_latest m_matrix m_sides m_tried m_answers m_rowOf m_whole m_shares m_isKept m_lanes m_lengths m_cells m_torn]) H locs → lv_has ls 4 [(0, .ref (qm 0)), (1, .int l1), (2, .int l2)] → nB_ l1 → FMo_isWhole_L4 m_state k_ n l1 l2 = some zr → W p l e ({ frames := 0, cells := 0, slots := 0, locals := 0 } : Room) s m args below meth c H locs 0 0 (qI_ D (tys0 κ) A nB_ zr (List.flatten [pMo κ qm m_state m_tape m_taped m_fault m_broken m_brokenAt m_spot m_here m_token m_value m_ends m_letters m_moments m_stepsAt m_steps m_latest m_matrix m_sides m_tried m_answers m_rowOf m_whole m_shares m_isKept m_lanes m_lengths m_cells m_torn]) below args s) (F0 m 4 ls []) := by
  obtain ⟨hx, hb, -, hml, hown, hts, -, -⟩ := id C0
  intro n
  induction n with
  | zero =>
    intro l1 l2 H locs ls hw hl hb_l1 hf
    cases hf
  | succ n ih =>
    intro l1 l2 H locs ls hw hl hb_l1 hf
    rw [FMo_isWhole_L4.eq_2] at hf
    refine lv_iload_n hx hb dX7_isWhole_4 rfl (lv_at hl 2 rfl) ?_
    refine lv_aload_n hx hb dX7_isWhole_5 rfl (lv_at hl 0 rfl) ?_
    refine r_get C0 hw 0 0 (v := .ref (qm 1)) rfl rfl inX7 (by decide) lk_X7_7 rfl dX7_isWhole_6 ?_
    refine lv_sipush (v := 314) hx hb dX7_isWhole_9 (by decide) ?_
    obtain ⟨hi1, hf⟩ := gd_s hf
    refine r_iald C0 hw 1 0 rfl rfl hi1 dX7_isWhole_12 ?_
    refine lv_icmp_ge (tgt := 74) hx hb dX7_isWhole_13 (by decide) (fun hc2 => ?_) (fun hc2 => ?_)
    · have hf := if_t hc2 hf
      exact hk_ l1 l2 H locs ls hw (lv_sub hl [0, 1] rfl) hb_l1 hf
    · have hf := if_f hc2 hf
      refine lv_iload_n hx hb dX7_isWhole_16 rfl (lv_at hl 1 rfl) ?_
      refine lv_if_eq (tgt := 66) hx hb dX7_isWhole_17 (by decide) (fun hc3 => ?_) (fun hc3 => ?_)
      · have hf := if_t hc3 hf
        refine lv_iconst (v := 0) hx hb dX7_isWhole_66 (by decide) ?_
        refine lv_istore_n (lv' := [(1, .int (0 : Int32)), (0, .ref (qm 0)), (2, .int l2)]) hx hb dX7_isWhole_67 rfl hl (by decide) rfl (fun ls hl => ?_)
        obtain ⟨v4, ev4⟩ : ∃ z : Int32, z = (l2 + (1 : Int32)) := ⟨_, rfl⟩
        have hf := lt_s_ hf v4 ev4
        refine lv_iinc (v := v4) (lv' := [(2, .int v4), (1, .int (0 : Int32)), (0, .ref (qm 0))]) hx hb dX7_isWhole_68 hl (k := 2) rfl (by rw [ev4]; rfl) (by decide) rfl (fun ls hl => ?_)
        refine lv_goto (tgt := 4) hx hb dX7_isWhole_71 (by decide) ?_
        exact ih (0 : Int32) v4 H locs ls hw (lv_sub hl [2, 1, 0] rfl) (Or.inl rfl) hf
      · have hf := if_f hc3 hf
        refine lv_aload_n hx hb dX7_isWhole_20 rfl (lv_at hl 0 rfl) ?_
        refine r_get C0 hw 0 0 (v := .ref (qm 1)) rfl rfl inX7 (by decide) lk_X7_7 rfl dX7_isWhole_21 ?_
        refine lv_sipush (v := 249) hx hb dX7_isWhole_24 (by decide) ?_
        refine lv_iload_n hx hb dX7_isWhole_27 rfl (lv_at hl 2 rfl) ?_
        refine lv_iadd hx hb dX7_isWhole_28 ?_
        obtain ⟨hi5, hf⟩ := gd_s hf
        refine r_iald C0 hw 1 0 rfl rfl hi5 dX7_isWhole_29 ?_
        refine lv_aload_n hx hb dX7_isWhole_30 rfl (lv_at hl 0 rfl) ?_
        refine r_get C0 hw 0 0 (v := .ref (qm 1)) rfl rfl inX7 (by decide) lk_X7_7 rfl dX7_isWhole_31 ?_
        refine lv_sipush (v := 313) hx hb dX7_isWhole_34 (by decide) ?_
        obtain ⟨hi6, hf⟩ := gd_s hf
        refine r_iald C0 hw 1 0 rfl rfl hi6 dX7_isWhole_37 ?_
        refine lv_icmp_ge (tgt := 66) hx hb dX7_isWhole_38 (by decide) (fun hc7 => ?_) (fun hc7 => ?_)
        · have hf := if_t hc7 hf
          refine lv_iconst (v := 0) hx hb dX7_isWhole_66 (by decide) ?_
          refine lv_istore_n (lv' := [(1, .int (0 : Int32)), (0, .ref (qm 0)), (2, .int l2)]) hx hb dX7_isWhole_67 rfl hl (by decide) rfl (fun ls hl => ?_)
          obtain ⟨v8, ev8⟩ : ∃ z : Int32, z = (l2 + (1 : Int32)) := ⟨_, rfl⟩
          have hf := lt_s_ hf v8 ev8
          refine lv_iinc (v := v8) (lv' := [(2, .int v8), (1, .int (0 : Int32)), (0, .ref (qm 0))]) hx hb dX7_isWhole_68 hl (k := 2) rfl (by rw [ev8]; rfl) (by decide) rfl (fun ls hl => ?_)
          refine lv_goto (tgt := 4) hx hb dX7_isWhole_71 (by decide) ?_
          exact ih (0 : Int32) v8 H locs ls hw (lv_sub hl [2, 1, 0] rfl) (Or.inl rfl) hf
        · have hf := if_f hc7 hf
          refine lv_aload_n hx hb dX7_isWhole_41 rfl (lv_at hl 0 rfl) ?_
          refine r_get C0 hw 0 0 (v := .ref (qm 1)) rfl rfl inX7 (by decide) lk_X7_7 rfl dX7_isWhole_42 ?_
          refine lv_sipush (v := 259) hx hb dX7_isWhole_45 (by decide) ?_
          refine lv_iload_n hx hb dX7_isWhole_48 rfl (lv_at hl 2 rfl) ?_
          refine lv_iadd hx hb dX7_isWhole_49 ?_
          obtain ⟨hi9, hf⟩ := gd_s hf
          refine r_iald C0 hw 1 0 rfl rfl hi9 dX7_isWhole_50 ?_
          refine lv_aload_n hx hb dX7_isWhole_51 rfl (lv_at hl 0 rfl) ?_
          refine r_get C0 hw 0 0 (v := .ref (qm 1)) rfl rfl inX7 (by decide) lk_X7_7 rfl dX7_isWhole_52 ?_
          refine lv_sipush (v := 313) hx hb dX7_isWhole_55 (by decide) ?_
          obtain ⟨hi10, hf⟩ := gd_s hf
          refine r_iald C0 hw 1 0 rfl rfl hi10 dX7_isWhole_58 ?_
          refine lv_icmp_ge (tgt := 66) hx hb dX7_isWhole_59 (by decide) (fun hc11 => ?_) (fun hc11 => ?_)
          · have hf := if_t hc11 hf
            refine lv_iconst (v := 0) hx hb dX7_isWhole_66 (by decide) ?_
            refine lv_istore_n (lv' := [(1, .int (0 : Int32)), (0, .ref (qm 0)), (2, .int l2)]) hx hb dX7_isWhole_67 rfl hl (by decide) rfl (fun ls hl => ?_)
            obtain ⟨v12, ev12⟩ : ∃ z : Int32, z = (l2 + (1 : Int32)) := ⟨_, rfl⟩
            have hf := lt_s_ hf v12 ev12
            refine lv_iinc (v := v12) (lv' := [(2, .int v12), (1, .int (0 : Int32)), (0, .ref (qm 0))]) hx hb dX7_isWhole_68 hl (k := 2) rfl (by rw [ev12]; rfl) (by decide) rfl (fun ls hl => ?_)
            refine lv_goto (tgt := 4) hx hb dX7_isWhole_71 (by decide) ?_
            exact ih (0 : Int32) v12 H locs ls hw (lv_sub hl [2, 1, 0] rfl) (Or.inl rfl) hf
          · have hf := if_f hc11 hf
            refine lv_iconst (v := 1) hx hb dX7_isWhole_62 (by decide) ?_
            refine lv_goto (tgt := 67) hx hb dX7_isWhole_63 (by decide) ?_
            refine lv_istore_n (lv' := [(1, .int (1 : Int32)), (0, .ref (qm 0)), (2, .int l2)]) hx hb dX7_isWhole_67 rfl hl (by decide) rfl (fun ls hl => ?_)
            obtain ⟨v13, ev13⟩ : ∃ z : Int32, z = (l2 + (1 : Int32)) := ⟨_, rfl⟩
            have hf := lt_s_ hf v13 ev13
            refine lv_iinc (v := v13) (lv' := [(2, .int v13), (1, .int (1 : Int32)), (0, .ref (qm 0))]) hx hb dX7_isWhole_68 hl (k := 2) rfl (by rw [ev13]; rfl) (by decide) rfl (fun ls hl => ?_)
            refine lv_goto (tgt := 4) hx hb dX7_isWhole_71 (by decide) ?_
            exact ih (1 : Int32) v13 H locs ls hw (lv_sub hl [2, 1, 0] rfl) (Or.inr rfl) hf
set_option maxHeartbeats 4000000 in
set_option maxRecDepth 100000 in
theorem wMo_isWhole_L76 {p : Program} {l : Launch} {e : Env} {s : State} {m : MethodId} {args : Array Value} {below : List Frame} {meth : Method} {c : Code} {A : Nat → Prop} {D : va_G} {κ : Nat → ClassId} (C0 : cx_ p s m meth c args cX7_isWhole RX7 (some .boolean) 4 A) (qm : Nat → Nat) (m_state m_tape : Nat → Int32) (m_taped m_fault m_broken m_brokenAt m_spot m_here m_token m_value : Int32) (m_ends m_letters m_moments m_stepsAt : Nat → Int32) (m_steps m_latest : Int32) (m_matrix m_sides m_tried m_answers : Nat → Int64) (m_rowOf : Nat → Int32) (m_whole : Int64) (m_shares m_isKept m_lanes m_lengths m_cells : Nat → Int32) (m_torn : Int32) (zr : Int32) : ∀ (n : Nat) (l1 : Int32) (l2 : Int32) (H : Heap) (locs : List Loc) (ls : Array Slot), wd_ D (tys0 κ) A s (List.flatten [pMo κ qm m_state m_tape m_taped m_fault m_broken m_brokenAt m_spot m_here m_token m_value m_ends m_letters m_moments m_stepsAt m_steps m_latest m_matrix m_sides m_tried m_answers m_rowOf m_whole m_shares m_isKept m_lanes m_lengths m_cells m_torn]) H locs → lv_has ls 4 [(0, .ref (qm 0)), (1, .int l1), (2, .int l2)] → nB_ l1 → FMo_isWhole_L76 m_state n l1 l2 = some zr → W p l e ({ frames := 0, cells := 0, slots := 0, locals := 0 } : Room) s m args below meth c H locs 0 0 (qI_ D (tys0 κ) A nB_ zr (List.flatten [pMo κ qm m_state m_tape m_taped m_fault m_broken m_brokenAt m_spot m_here m_token m_value m_ends m_letters m_moments m_stepsAt m_steps m_latest m_matrix m_sides m_tried m_answers m_rowOf m_whole m_shares m_isKept m_lanes m_lengths m_cells m_torn]) below args s) (F0 m 76 ls []) := by
  obtain ⟨hx, hb, -, hml, hown, hts, -, -⟩ := id C0
  intro n
  induction n with
  | zero =>
    intro l1 l2 H locs ls hw hl hb_l1 hf
    cases hf
  | succ n ih =>
    intro l1 l2 H locs ls hw hl hb_l1 hf
    rw [FMo_isWhole_L76.eq_2] at hf
    refine lv_iload_n hx hb dX7_isWhole_76 rfl (lv_at hl 2 rfl) ?_
    refine lv_aload_n hx hb dX7_isWhole_77 rfl (lv_at hl 0 rfl) ?_
    refine r_get C0 hw 0 0 (v := .ref (qm 1)) rfl rfl inX7 (by decide) lk_X7_7 rfl dX7_isWhole_78 ?_
    refine lv_sipush (v := 315) hx hb dX7_isWhole_81 (by decide) ?_
    obtain ⟨hi18, hf⟩ := gd_s hf
    refine r_iald C0 hw 1 0 rfl rfl hi18 dX7_isWhole_84 ?_
    refine lv_icmp_ge (tgt := 150) hx hb dX7_isWhole_85 (by decide) (fun hc19 => ?_) (fun hc19 => ?_)
    · have hf := if_t hc19 hf
      refine lv_iload_n hx hb dX7_isWhole_150 rfl (lv_at hl 1 rfl) ?_
      obtain rfl := e1_ hf
      exact r_zret C0 hw hb_l1 dX7_isWhole_151
    · have hf := if_f hc19 hf
      refine lv_aload_n hx hb dX7_isWhole_88 rfl (lv_at hl 0 rfl) ?_
      refine r_get C0 hw 0 0 (v := .ref (qm 1)) rfl rfl inX7 (by decide) lk_X7_7 rfl dX7_isWhole_89 ?_
      refine lv_sipush (v := 289) hx hb dX7_isWhole_92 (by decide) ?_
      refine lv_iload_n hx hb dX7_isWhole_95 rfl (lv_at hl 2 rfl) ?_
      refine lv_iadd hx hb dX7_isWhole_96 ?_
      obtain ⟨hi20, hf⟩ := gd_s hf
      refine r_iald C0 hw 1 0 rfl rfl hi20 dX7_isWhole_97 ?_
      refine lv_topi (fun v21 ev21 => ?_)
      have hf := lt_s_ hf v21 ev21
      refine lv_istore_n (lv' := [(3, .int v21), (0, .ref (qm 0)), (1, .int l1), (2, .int l2)]) hx hb dX7_isWhole_98 rfl hl (by decide) rfl (fun ls hl => ?_)
      refine lv_iload_n hx hb dX7_isWhole_99 rfl (lv_at hl 2 rfl) ?_
      refine lv_if_eq (tgt := 142) hx hb dX7_isWhole_100 (by decide) (fun hc22 => ?_) (fun hc22 => ?_)
      · have hf := if_t hc22 hf
        refine lv_iconst (v := 0) hx hb dX7_isWhole_142 (by decide) ?_
        refine lv_istore_n (lv' := [(1, .int (0 : Int32)), (3, .int v21), (0, .ref (qm 0)), (2, .int l2)]) hx hb dX7_isWhole_143 rfl hl (by decide) rfl (fun ls hl => ?_)
        obtain ⟨v23, ev23⟩ : ∃ z : Int32, z = (l2 + (1 : Int32)) := ⟨_, rfl⟩
        have hf := lt_s_ hf v23 ev23
        refine lv_iinc (v := v23) (lv' := [(2, .int v23), (1, .int (0 : Int32)), (3, .int v21), (0, .ref (qm 0))]) hx hb dX7_isWhole_144 hl (k := 3) rfl (by rw [ev23]; rfl) (by decide) rfl (fun ls hl => ?_)
        refine lv_goto (tgt := 76) hx hb dX7_isWhole_147 (by decide) ?_
        exact ih (0 : Int32) v23 H locs ls hw (lv_sub hl [3, 1, 0] rfl) (Or.inl rfl) hf
      · have hf := if_f hc22 hf
        refine lv_iload_n hx hb dX7_isWhole_103 rfl (lv_at hl 0 rfl) ?_
        refine lv_aload_n hx hb dX7_isWhole_104 rfl (lv_at hl 1 rfl) ?_
        refine r_get C0 hw 0 0 (v := .ref (qm 1)) rfl rfl inX7 (by decide) lk_X7_7 rfl dX7_isWhole_105 ?_
        refine lv_sipush (v := 314) hx hb dX7_isWhole_108 (by decide) ?_
        obtain ⟨hi24, hf⟩ := gd_s hf
        refine r_iald C0 hw 1 0 rfl rfl hi24 dX7_isWhole_111 ?_
        refine lv_icmp_ge (tgt := 142) hx hb dX7_isWhole_112 (by decide) (fun hc25 => ?_) (fun hc25 => ?_)
        · have hf := if_t hc25 hf
          refine lv_iconst (v := 0) hx hb dX7_isWhole_142 (by decide) ?_
          refine lv_istore_n (lv' := [(1, .int (0 : Int32)), (3, .int v21), (0, .ref (qm 0)), (2, .int l2)]) hx hb dX7_isWhole_143 rfl hl (by decide) rfl (fun ls hl => ?_)
          obtain ⟨v26, ev26⟩ : ∃ z : Int32, z = (l2 + (1 : Int32)) := ⟨_, rfl⟩
          have hf := lt_s_ hf v26 ev26
          refine lv_iinc (v := v26) (lv' := [(2, .int v26), (1, .int (0 : Int32)), (3, .int v21), (0, .ref (qm 0))]) hx hb dX7_isWhole_144 hl (k := 3) rfl (by rw [ev26]; rfl) (by decide) rfl (fun ls hl => ?_)
          refine lv_goto (tgt := 76) hx hb dX7_isWhole_147 (by decide) ?_
          exact ih (0 : Int32) v26 H locs ls hw (lv_sub hl [3, 1, 0] rfl) (Or.inl rfl) hf
        · have hf := if_f hc25 hf
          refine lv_aload_n hx hb dX7_isWhole_115 rfl (lv_at hl 1 rfl) ?_
          refine r_get C0 hw 0 0 (v := .ref (qm 1)) rfl rfl inX7 (by decide) lk_X7_7 rfl dX7_isWhole_116 ?_
          refine lv_sipush (v := 305) hx hb dX7_isWhole_119 (by decide) ?_
          refine lv_iload_n hx hb dX7_isWhole_122 rfl (lv_at hl 3 rfl) ?_
          refine lv_iadd hx hb dX7_isWhole_123 ?_
          obtain ⟨hi27, hf⟩ := gd_s hf
          refine r_iald C0 hw 1 0 rfl rfl hi27 dX7_isWhole_124 ?_
          refine lv_aload_n hx hb dX7_isWhole_125 rfl (lv_at hl 1 rfl) ?_
          refine r_get C0 hw 0 0 (v := .ref (qm 1)) rfl rfl inX7 (by decide) lk_X7_7 rfl dX7_isWhole_126 ?_
          refine lv_sipush (v := 269) hx hb dX7_isWhole_129 (by decide) ?_
          refine lv_iload_n hx hb dX7_isWhole_132 rfl (lv_at hl 0 rfl) ?_
          refine lv_iadd hx hb dX7_isWhole_133 ?_
          obtain ⟨hi28, hf⟩ := gd_s hf
          refine r_iald C0 hw 1 0 rfl rfl hi28 dX7_isWhole_134 ?_
          refine lv_icmp_ge (tgt := 142) hx hb dX7_isWhole_135 (by decide) (fun hc29 => ?_) (fun hc29 => ?_)
          · have hf := if_t hc29 hf
            refine lv_iconst (v := 0) hx hb dX7_isWhole_142 (by decide) ?_
            refine lv_istore_n (lv' := [(1, .int (0 : Int32)), (3, .int v21), (0, .ref (qm 0)), (2, .int l2)]) hx hb dX7_isWhole_143 rfl hl (by decide) rfl (fun ls hl => ?_)
            obtain ⟨v30, ev30⟩ : ∃ z : Int32, z = (l2 + (1 : Int32)) := ⟨_, rfl⟩
            have hf := lt_s_ hf v30 ev30
            refine lv_iinc (v := v30) (lv' := [(2, .int v30), (1, .int (0 : Int32)), (3, .int v21), (0, .ref (qm 0))]) hx hb dX7_isWhole_144 hl (k := 3) rfl (by rw [ev30]; rfl) (by decide) rfl (fun ls hl => ?_)
            refine lv_goto (tgt := 76) hx hb dX7_isWhole_147 (by decide) ?_
            exact ih (0 : Int32) v30 H locs ls hw (lv_sub hl [3, 1, 0] rfl) (Or.inl rfl) hf
          · have hf := if_f hc29 hf
            refine lv_iconst (v := 1) hx hb dX7_isWhole_138 (by decide) ?_
            refine lv_goto (tgt := 143) hx hb dX7_isWhole_139 (by decide) ?_
            refine lv_istore_n (lv' := [(1, .int (1 : Int32)), (3, .int v21), (0, .ref (qm 0)), (2, .int l2)]) hx hb dX7_isWhole_143 rfl hl (by decide) rfl (fun ls hl => ?_)
            obtain ⟨v31, ev31⟩ : ∃ z : Int32, z = (l2 + (1 : Int32)) := ⟨_, rfl⟩
            have hf := lt_s_ hf v31 ev31
            refine lv_iinc (v := v31) (lv' := [(2, .int v31), (1, .int (1 : Int32)), (3, .int v21), (0, .ref (qm 0))]) hx hb dX7_isWhole_144 hl (k := 3) rfl (by rw [ev31]; rfl) (by decide) rfl (fun ls hl => ?_)
            refine lv_goto (tgt := 76) hx hb dX7_isWhole_147 (by decide) ?_
            exact ih (1 : Int32) v31 H locs ls hw (lv_sub hl [3, 1, 0] rfl) (Or.inr rfl) hf
set_option maxHeartbeats 4000000 in
set_option maxRecDepth 100000 in
theorem cMo_isWhole (l : Launch) (D : va_G) (κ : Nat → ClassId) (qm : Nat → Nat) (m_state m_tape : Nat → Int32) (m_taped m_fault m_broken m_brokenAt m_spot m_here m_token m_value : Int32) (m_ends m_letters m_moments m_stepsAt : Nat → Int32) (m_steps m_latest : Int32) (m_matrix m_sides m_tried m_answers : Nat → Int64) (m_rowOf : Nat → Int32) (m_whole : Int64) (m_shares m_isKept m_lanes m_lengths m_cells : Nat → Int32) (m_torn zr : Int32) (hf : FMo_isWhole m_state = some zr) : mI_ l yX7_isWhole (Cond.code yX7_isWhole cX7_isWhole 4 (some .boolean) :: uw) ({ frames := 0, cells := 0, slots := 0, locals := 0 } : Room) D (tys0 κ) [.ref (qm 0)] (List.flatten [pMo κ qm m_state m_tape m_taped m_fault m_broken m_brokenAt m_spot m_here m_token m_value m_ends m_letters m_moments m_stepsAt m_steps m_latest m_matrix m_sides m_tried m_answers m_rowOf m_whole m_shares m_isKept m_lanes m_lengths m_cells m_torn]) nB_ zr (List.flatten [pMo κ qm m_state m_tape m_taped m_fault m_broken m_brokenAt m_spot m_here m_token m_value m_ends m_letters m_moments m_stepsAt m_steps m_latest m_matrix m_sides m_tried m_answers m_rowOf m_whole m_shares m_isKept m_lanes m_lengths m_cells m_torn]) := by
  unfold FMo_isWhole at hf
  refine mI_of (by decide) (Nat.le_of_ble_eq_true rfl) ?_
  intro p e s m below meth c A ls H locs C0 hw hl
  obtain ⟨hx, hb, -, hml, hown, hts, -, -⟩ := id C0
  have hl : lv_has ls 4 [(0, .ref (qm 0))] := hl
  refine lv_iconst (v := 1) hx hb dX7_isWhole_0 (by decide) ?_
  refine lv_istore_n (lv' := [(1, .int (1 : Int32)), (0, .ref (qm 0))]) hx hb dX7_isWhole_1 rfl hl (by decide) rfl (fun ls hl => ?_)
  refine lv_iconst (v := 0) hx hb dX7_isWhole_2 (by decide) ?_
  refine lv_istore_n (lv' := [(2, .int (0 : Int32)), (1, .int (1 : Int32)), (0, .ref (qm 0))]) hx hb dX7_isWhole_3 rfl hl (by decide) rfl (fun ls hl => ?_)
  refine wMo_isWhole_L4 C0 qm m_state m_tape m_taped m_fault m_broken m_brokenAt m_spot m_here m_token m_value m_ends m_letters m_moments m_stepsAt m_steps m_latest m_matrix m_sides m_tried m_answers m_rowOf m_whole m_shares m_isKept m_lanes m_lengths m_cells m_torn zr _ (fun v15 v16 H locs ls hw hl hb17 hf => ?_) 1000 (1 : Int32) (0 : Int32) H locs ls hw (lv_sub hl [2, 1, 0] rfl) (Or.inr rfl) hf
  refine lv_iconst (v := 0) hx hb dX7_isWhole_74 (by decide) ?_
  refine lv_istore_n (lv' := [(2, .int (0 : Int32)), (0, .ref (qm 0)), (1, .int v15)]) hx hb dX7_isWhole_75 rfl hl (by decide) rfl (fun ls hl => ?_)
  exact wMo_isWhole_L76 C0 qm m_state m_tape m_taped m_fault m_broken m_brokenAt m_spot m_here m_token m_value m_ends m_letters m_moments m_stepsAt m_steps m_latest m_matrix m_sides m_tried m_answers m_rowOf m_whole m_shares m_isKept m_lanes m_lengths m_cells m_torn zr 1000 v15 (0 : Int32) H locs ls hw (lv_sub hl [1, 2, 0] rfl) hb17 hf
def FMo_copies_L2 (l1 l2 : Int32) : Nat → Int32 → (Nat → Int32) → Option ((Nat → Int32))
  | 0, _, _ => none
  | n + 1, l3, m_state =>
      if (79 : Int32) ≤ l3 then
        some (m_state)
      else
        gd_ (l1 + l3) 395 <|
        gd_ (l2 + l3) 395 <|
        lt_ (upd m_state (l2 + l3).toNatClampNeg (m_state (l1 + l3).toNatClampNeg)) fun w4 =>
        lt_ (l3 + (1 : Int32)) fun v5 =>
        FMo_copies_L2 l1 l2 n v5 w4
def FMo_copies (m_state : Nat → Int32) (a1 a2 : Int32) : Option ((Nat → Int32)) :=
  FMo_copies_L2 a1 a2 1000 (0 : Int32) m_state
set_option maxHeartbeats 4000000 in
set_option maxRecDepth 100000 in
theorem wMo_copies_L2 {p : Program} {l : Launch} {e : Env} {s : State} {m : MethodId} {args : Array Value} {below : List Frame} {meth : Method} {c : Code} {A : Nat → Prop} {D : va_G} {κ : Nat → ClassId} (C0 : cx_ p s m meth c args cX7_copies RX7 none 4 A) (qm : Nat → Nat) (m_tape : Nat → Int32) (m_taped m_fault m_broken m_brokenAt m_spot m_here m_token m_value : Int32) (m_ends m_letters m_moments m_stepsAt : Nat → Int32) (m_steps m_latest : Int32) (m_matrix m_sides m_tried m_answers : Nat → Int64) (m_rowOf : Nat → Int32) (m_whole : Int64) (m_shares m_isKept m_lanes m_lengths m_cells : Nat → Int32) (m_torn l1 l2 : Int32) (z1 : Nat → Int32) : ∀ (n : Nat) (l3 : Int32) (m_state : Nat → Int32) (H : Heap) (locs : List Loc) (ls : Array Slot), wd_ D (tys0 κ) A s (List.flatten [pMo κ qm m_state m_tape m_taped m_fault m_broken m_brokenAt m_spot m_here m_token m_value m_ends m_letters m_moments m_stepsAt m_steps m_latest m_matrix m_sides m_tried m_answers m_rowOf m_whole m_shares m_isKept m_lanes m_lengths m_cells m_torn]) H locs → lv_has ls 4 [(0, .ref (qm 0)), (1, .int l1), (2, .int l2), (3, .int l3)] → FMo_copies_L2 l1 l2 n l3 m_state = some z1 → W p l e ({ frames := 0, cells := 0, slots := 0, locals := 0 } : Room) s m args below meth c H locs 0 0 (qV_ D (tys0 κ) A (List.flatten [pMo κ qm z1 m_tape m_taped m_fault m_broken m_brokenAt m_spot m_here m_token m_value m_ends m_letters m_moments m_stepsAt m_steps m_latest m_matrix m_sides m_tried m_answers m_rowOf m_whole m_shares m_isKept m_lanes m_lengths m_cells m_torn]) below args s) (F0 m 2 ls []) := by
  obtain ⟨hx, hb, -, hml, hown, hts, -, -⟩ := id C0
  intro n
  induction n with
  | zero =>
    intro l3 m_state H locs ls hw hl  hf
    cases hf
  | succ n ih =>
    intro l3 m_state H locs ls hw hl  hf
    rw [FMo_copies_L2.eq_2] at hf
    refine lv_iload_n hx hb dX7_copies_2 rfl (lv_at hl 3 rfl) ?_
    refine lv_bipush (v := 79) hx hb dX7_copies_3 (by decide) ?_
    refine lv_icmp_ge (tgt := 30) hx hb dX7_copies_5 (by decide) (fun hc1 => ?_) (fun hc1 => ?_)
    · have hf := if_t hc1 hf
      obtain rfl := e1_ hf
      exact r_vret C0 hw dX7_copies_30
    · have hf := if_f hc1 hf
      refine lv_aload_n hx hb dX7_copies_8 rfl (lv_at hl 0 rfl) ?_
      refine r_get C0 hw 0 0 (v := .ref (qm 1)) rfl rfl inX7 (by decide) lk_X7_7 rfl dX7_copies_9 ?_
      refine lv_iload_n hx hb dX7_copies_12 rfl (lv_at hl 2 rfl) ?_
      refine lv_iload_n hx hb dX7_copies_13 rfl (lv_at hl 3 rfl) ?_
      refine lv_iadd hx hb dX7_copies_14 ?_
      refine lv_aload_n hx hb dX7_copies_15 rfl (lv_at hl 0 rfl) ?_
      refine r_get C0 hw 0 0 (v := .ref (qm 1)) rfl rfl inX7 (by decide) lk_X7_7 rfl dX7_copies_16 ?_
      refine lv_iload_n hx hb dX7_copies_19 rfl (lv_at hl 1 rfl) ?_
      refine lv_iload_n hx hb dX7_copies_20 rfl (lv_at hl 3 rfl) ?_
      refine lv_iadd hx hb dX7_copies_21 ?_
      obtain ⟨hi2, hf⟩ := gd_s hf
      refine r_iald C0 hw 1 0 rfl rfl hi2 dX7_copies_22 ?_
      obtain ⟨hi3, hf⟩ := gd_s hf
      obtain ⟨w4, ew4⟩ : ∃ z : Nat → Int32, z = (upd m_state (l2 + l3).toNatClampNeg (m_state (l1 + l3).toNatClampNeg)) := ⟨_, rfl⟩
      have hf := lt_s_ hf w4 ew4
      refine r_iast C0 hw 1 0 rfl rfl hi3 dX7_copies_23 (ws' := List.flatten [pMo κ qm w4 m_tape m_taped m_fault m_broken m_brokenAt m_spot m_here m_token m_value m_ends m_letters m_moments m_stepsAt m_steps m_latest m_matrix m_sides m_tried m_answers m_rowOf m_whole m_shares m_isKept m_lanes m_lengths m_cells m_torn]) (by subst ew4; rfl) (fun H locs hw => ?_)
      obtain ⟨v5, ev5⟩ : ∃ z : Int32, z = (l3 + (1 : Int32)) := ⟨_, rfl⟩
      have hf := lt_s_ hf v5 ev5
      refine lv_iinc (v := v5) (lv' := [(3, .int v5), (0, .ref (qm 0)), (1, .int l1), (2, .int l2)]) hx hb dX7_copies_24 hl (k := 3) rfl (by rw [ev5]; rfl) (by decide) rfl (fun ls hl => ?_)
      refine lv_goto (tgt := 2) hx hb dX7_copies_27 (by decide) ?_
      exact ih v5 w4 H locs ls hw (lv_sub hl [1, 2, 3, 0] rfl)  hf
set_option maxHeartbeats 4000000 in
set_option maxRecDepth 100000 in
theorem cMo_copies (l : Launch) (D : va_G) (κ : Nat → ClassId) (qm : Nat → Nat) (m_state m_tape : Nat → Int32) (m_taped m_fault m_broken m_brokenAt m_spot m_here m_token m_value : Int32) (m_ends m_letters m_moments m_stepsAt : Nat → Int32) (m_steps m_latest : Int32) (m_matrix m_sides m_tried m_answers : Nat → Int64) (m_rowOf : Nat → Int32) (m_whole : Int64) (m_shares m_isKept m_lanes m_lengths m_cells : Nat → Int32) (m_torn a1 a2 : Int32) (z1 : Nat → Int32) (hf : FMo_copies m_state a1 a2 = some z1) : mV_ l yX7_copies (Cond.code yX7_copies cX7_copies 4 none :: uw) ({ frames := 0, cells := 0, slots := 0, locals := 0 } : Room) D (tys0 κ) [.ref (qm 0), .int a1, .int a2] (List.flatten [pMo κ qm m_state m_tape m_taped m_fault m_broken m_brokenAt m_spot m_here m_token m_value m_ends m_letters m_moments m_stepsAt m_steps m_latest m_matrix m_sides m_tried m_answers m_rowOf m_whole m_shares m_isKept m_lanes m_lengths m_cells m_torn])  (List.flatten [pMo κ qm z1 m_tape m_taped m_fault m_broken m_brokenAt m_spot m_here m_token m_value m_ends m_letters m_moments m_stepsAt m_steps m_latest m_matrix m_sides m_tried m_answers m_rowOf m_whole m_shares m_isKept m_lanes m_lengths m_cells m_torn]) := by
  unfold FMo_copies at hf
  refine mV_of (by decide) (Nat.le_of_ble_eq_true rfl) ?_
  intro p e s m below meth c A ls H locs C0 hw hl
  obtain ⟨hx, hb, -, hml, hown, hts, -, -⟩ := id C0
  have hl : lv_has ls 4 [(0, .ref (qm 0)), (1, .int a1), (2, .int a2)] := hl
  refine lv_iconst (v := 0) hx hb dX7_copies_0 (by decide) ?_
  refine lv_istore_n (lv' := [(3, .int (0 : Int32)), (0, .ref (qm 0)), (1, .int a1), (2, .int a2)]) hx hb dX7_copies_1 rfl hl (by decide) rfl (fun ls hl => ?_)
  exact wMo_copies_L2 C0 qm m_tape m_taped m_fault m_broken m_brokenAt m_spot m_here m_token m_value m_ends m_letters m_moments m_stepsAt m_steps m_latest m_matrix m_sides m_tried m_answers m_rowOf m_whole m_shares m_isKept m_lanes m_lengths m_cells m_torn a1 a2 z1 1000 (0 : Int32) m_state H locs ls hw (lv_sub hl [1, 2, 3, 0] rfl)  hf
def FMo_joints (m_state : Nat → Int32) : Option (Int32) :=
  gd_ (76 : Int32) 395 <|
  some ((m_state (76 : Int32).toNatClampNeg))
set_option maxHeartbeats 4000000 in
set_option maxRecDepth 100000 in
theorem cMo_joints (l : Launch) (D : va_G) (κ : Nat → ClassId) (qm : Nat → Nat) (m_state m_tape : Nat → Int32) (m_taped m_fault m_broken m_brokenAt m_spot m_here m_token m_value : Int32) (m_ends m_letters m_moments m_stepsAt : Nat → Int32) (m_steps m_latest : Int32) (m_matrix m_sides m_tried m_answers : Nat → Int64) (m_rowOf : Nat → Int32) (m_whole : Int64) (m_shares m_isKept m_lanes m_lengths m_cells : Nat → Int32) (m_torn zr : Int32) (hf : FMo_joints m_state = some zr) : mI_ l yX7_joints (Cond.code yX7_joints cX7_joints 1 (some .int) :: uw) ({ frames := 0, cells := 0, slots := 0, locals := 0 } : Room) D (tys0 κ) [.ref (qm 0)] (List.flatten [pMo κ qm m_state m_tape m_taped m_fault m_broken m_brokenAt m_spot m_here m_token m_value m_ends m_letters m_moments m_stepsAt m_steps m_latest m_matrix m_sides m_tried m_answers m_rowOf m_whole m_shares m_isKept m_lanes m_lengths m_cells m_torn]) nT_ zr (List.flatten [pMo κ qm m_state m_tape m_taped m_fault m_broken m_brokenAt m_spot m_here m_token m_value m_ends m_letters m_moments m_stepsAt m_steps m_latest m_matrix m_sides m_tried m_answers m_rowOf m_whole m_shares m_isKept m_lanes m_lengths m_cells m_torn]) := by
  unfold FMo_joints at hf
  refine mI_of (by decide) (Nat.le_of_ble_eq_true rfl) ?_
  intro p e s m below meth c A ls H locs C0 hw hl
  obtain ⟨hx, hb, -, hml, hown, hts, -, -⟩ := id C0
  have hl : lv_has ls 1 [(0, .ref (qm 0))] := hl
  refine lv_aload_n hx hb dX7_joints_0 rfl (lv_at hl 0 rfl) ?_
  refine r_get C0 hw 0 0 (v := .ref (qm 1)) rfl rfl inX7 (by decide) lk_X7_7 rfl dX7_joints_1 ?_
  refine lv_bipush (v := 76) hx hb dX7_joints_4 (by decide) ?_
  obtain ⟨hi1, hf⟩ := gd_s hf
  refine r_iald C0 hw 1 0 rfl rfl hi1 dX7_joints_6 ?_
  obtain rfl := e1_ hf
  exact r_iret C0 hw trivial dX7_joints_7
def FMo_beams (m_state : Nat → Int32) : Option (Int32) :=
  gd_ (77 : Int32) 395 <|
  some ((m_state (77 : Int32).toNatClampNeg))
set_option maxHeartbeats 4000000 in
set_option maxRecDepth 100000 in
theorem cMo_beams (l : Launch) (D : va_G) (κ : Nat → ClassId) (qm : Nat → Nat) (m_state m_tape : Nat → Int32) (m_taped m_fault m_broken m_brokenAt m_spot m_here m_token m_value : Int32) (m_ends m_letters m_moments m_stepsAt : Nat → Int32) (m_steps m_latest : Int32) (m_matrix m_sides m_tried m_answers : Nat → Int64) (m_rowOf : Nat → Int32) (m_whole : Int64) (m_shares m_isKept m_lanes m_lengths m_cells : Nat → Int32) (m_torn zr : Int32) (hf : FMo_beams m_state = some zr) : mI_ l yX7_beams (Cond.code yX7_beams cX7_beams 1 (some .int) :: uw) ({ frames := 0, cells := 0, slots := 0, locals := 0 } : Room) D (tys0 κ) [.ref (qm 0)] (List.flatten [pMo κ qm m_state m_tape m_taped m_fault m_broken m_brokenAt m_spot m_here m_token m_value m_ends m_letters m_moments m_stepsAt m_steps m_latest m_matrix m_sides m_tried m_answers m_rowOf m_whole m_shares m_isKept m_lanes m_lengths m_cells m_torn]) nT_ zr (List.flatten [pMo κ qm m_state m_tape m_taped m_fault m_broken m_brokenAt m_spot m_here m_token m_value m_ends m_letters m_moments m_stepsAt m_steps m_latest m_matrix m_sides m_tried m_answers m_rowOf m_whole m_shares m_isKept m_lanes m_lengths m_cells m_torn]) := by
  unfold FMo_beams at hf
  refine mI_of (by decide) (Nat.le_of_ble_eq_true rfl) ?_
  intro p e s m below meth c A ls H locs C0 hw hl
  obtain ⟨hx, hb, -, hml, hown, hts, -, -⟩ := id C0
  have hl : lv_has ls 1 [(0, .ref (qm 0))] := hl
  refine lv_aload_n hx hb dX7_beams_0 rfl (lv_at hl 0 rfl) ?_
  refine r_get C0 hw 0 0 (v := .ref (qm 1)) rfl rfl inX7 (by decide) lk_X7_7 rfl dX7_beams_1 ?_
  refine lv_bipush (v := 77) hx hb dX7_beams_4 (by decide) ?_
  obtain ⟨hi1, hf⟩ := gd_s hf
  refine r_iald C0 hw 1 0 rfl rfl hi1 dX7_beams_6 ?_
  obtain rfl := e1_ hf
  exact r_iret C0 hw trivial dX7_beams_7
def FMo_loads (m_state : Nat → Int32) : Option (Int32) :=
  gd_ (78 : Int32) 395 <|
  some ((m_state (78 : Int32).toNatClampNeg))
set_option maxHeartbeats 4000000 in
set_option maxRecDepth 100000 in
theorem cMo_loads (l : Launch) (D : va_G) (κ : Nat → ClassId) (qm : Nat → Nat) (m_state m_tape : Nat → Int32) (m_taped m_fault m_broken m_brokenAt m_spot m_here m_token m_value : Int32) (m_ends m_letters m_moments m_stepsAt : Nat → Int32) (m_steps m_latest : Int32) (m_matrix m_sides m_tried m_answers : Nat → Int64) (m_rowOf : Nat → Int32) (m_whole : Int64) (m_shares m_isKept m_lanes m_lengths m_cells : Nat → Int32) (m_torn zr : Int32) (hf : FMo_loads m_state = some zr) : mI_ l yX7_loads (Cond.code yX7_loads cX7_loads 1 (some .int) :: uw) ({ frames := 0, cells := 0, slots := 0, locals := 0 } : Room) D (tys0 κ) [.ref (qm 0)] (List.flatten [pMo κ qm m_state m_tape m_taped m_fault m_broken m_brokenAt m_spot m_here m_token m_value m_ends m_letters m_moments m_stepsAt m_steps m_latest m_matrix m_sides m_tried m_answers m_rowOf m_whole m_shares m_isKept m_lanes m_lengths m_cells m_torn]) nT_ zr (List.flatten [pMo κ qm m_state m_tape m_taped m_fault m_broken m_brokenAt m_spot m_here m_token m_value m_ends m_letters m_moments m_stepsAt m_steps m_latest m_matrix m_sides m_tried m_answers m_rowOf m_whole m_shares m_isKept m_lanes m_lengths m_cells m_torn]) := by
  unfold FMo_loads at hf
  refine mI_of (by decide) (Nat.le_of_ble_eq_true rfl) ?_
  intro p e s m below meth c A ls H locs C0 hw hl
  obtain ⟨hx, hb, -, hml, hown, hts, -, -⟩ := id C0
  have hl : lv_has ls 1 [(0, .ref (qm 0))] := hl
  refine lv_aload_n hx hb dX7_loads_0 rfl (lv_at hl 0 rfl) ?_
  refine r_get C0 hw 0 0 (v := .ref (qm 1)) rfl rfl inX7 (by decide) lk_X7_7 rfl dX7_loads_1 ?_
  refine lv_bipush (v := 78) hx hb dX7_loads_4 (by decide) ?_
  obtain ⟨hi1, hf⟩ := gd_s hf
  refine r_iald C0 hw 1 0 rfl rfl hi1 dX7_loads_6 ?_
  obtain rfl := e1_ hf
  exact r_iret C0 hw trivial dX7_loads_7
def FMo_jointOf (m_state : Nat → Int32) (a1 : Int32) : Option (Int32) :=
  if (a1 - a1 / (2 : Int32) * (2 : Int32)) = 0 then
    gd_ ((12 : Int32) + (a1 / (2 : Int32))) 395 <|
    some ((m_state ((12 : Int32) + (a1 / (2 : Int32))).toNatClampNeg))
  else
    gd_ ((22 : Int32) + (a1 / (2 : Int32))) 395 <|
    some ((m_state ((22 : Int32) + (a1 / (2 : Int32))).toNatClampNeg))
set_option maxHeartbeats 4000000 in
set_option maxRecDepth 100000 in
theorem cMo_jointOf (l : Launch) (D : va_G) (κ : Nat → ClassId) (qm : Nat → Nat) (m_state m_tape : Nat → Int32) (m_taped m_fault m_broken m_brokenAt m_spot m_here m_token m_value : Int32) (m_ends m_letters m_moments m_stepsAt : Nat → Int32) (m_steps m_latest : Int32) (m_matrix m_sides m_tried m_answers : Nat → Int64) (m_rowOf : Nat → Int32) (m_whole : Int64) (m_shares m_isKept m_lanes m_lengths m_cells : Nat → Int32) (m_torn a1 zr : Int32) (hf : FMo_jointOf m_state a1 = some zr) : mI_ l yX7_jointOf (Cond.code yX7_jointOf cX7_jointOf 2 (some .int) :: uw) ({ frames := 0, cells := 0, slots := 0, locals := 0 } : Room) D (tys0 κ) [.ref (qm 0), .int a1] (List.flatten [pMo κ qm m_state m_tape m_taped m_fault m_broken m_brokenAt m_spot m_here m_token m_value m_ends m_letters m_moments m_stepsAt m_steps m_latest m_matrix m_sides m_tried m_answers m_rowOf m_whole m_shares m_isKept m_lanes m_lengths m_cells m_torn]) nT_ zr (List.flatten [pMo κ qm m_state m_tape m_taped m_fault m_broken m_brokenAt m_spot m_here m_token m_value m_ends m_letters m_moments m_stepsAt m_steps m_latest m_matrix m_sides m_tried m_answers m_rowOf m_whole m_shares m_isKept m_lanes m_lengths m_cells m_torn]) := by
  unfold FMo_jointOf at hf
  refine mI_of (by decide) (Nat.le_of_ble_eq_true rfl) ?_
  intro p e s m below meth c A ls H locs C0 hw hl
  obtain ⟨hx, hb, -, hml, hown, hts, -, -⟩ := id C0
  have hl : lv_has ls 2 [(0, .ref (qm 0)), (1, .int a1)] := hl
  refine lv_aload_n hx hb dX7_jointOf_0 rfl (lv_at hl 0 rfl) ?_
  refine r_get C0 hw 0 0 (v := .ref (qm 1)) rfl rfl inX7 (by decide) lk_X7_7 rfl dX7_jointOf_1 ?_
  refine lv_iload_n hx hb dX7_jointOf_4 rfl (lv_at hl 1 rfl) ?_
  refine lv_iconst (v := 2) hx hb dX7_jointOf_5 (by decide) ?_
  refine lv_irem hx hb dX7_jointOf_6 (by decide) ?_
  refine lv_if_ne (tgt := 15) hx hb dX7_jointOf_7 (by decide) (fun hc1 => ?_) (fun hc1 => ?_)
  · have hf := if_f hc1 hf
    refine lv_bipush (v := 22) hx hb dX7_jointOf_15 (by decide) ?_
    refine lv_iload_n hx hb dX7_jointOf_17 rfl (lv_at hl 1 rfl) ?_
    refine lv_iconst (v := 2) hx hb dX7_jointOf_18 (by decide) ?_
    refine lv_idiv hx hb dX7_jointOf_19 (by decide) ?_
    refine lv_iadd hx hb dX7_jointOf_20 ?_
    obtain ⟨hi2, hf⟩ := gd_s hf
    refine r_iald C0 hw 1 0 rfl rfl hi2 dX7_jointOf_21 ?_
    obtain rfl := e1_ hf
    exact r_iret C0 hw trivial dX7_jointOf_22
  · have hf := if_t hc1 hf
    refine lv_bipush (v := 12) hx hb dX7_jointOf_10 (by decide) ?_
    refine lv_goto (tgt := 17) hx hb dX7_jointOf_12 (by decide) ?_
    refine lv_iload_n hx hb dX7_jointOf_17 rfl (lv_at hl 1 rfl) ?_
    refine lv_iconst (v := 2) hx hb dX7_jointOf_18 (by decide) ?_
    refine lv_idiv hx hb dX7_jointOf_19 (by decide) ?_
    refine lv_iadd hx hb dX7_jointOf_20 ?_
    obtain ⟨hi3, hf⟩ := gd_s hf
    refine r_iald C0 hw 1 0 rfl rfl hi3 dX7_jointOf_21 ?_
    obtain rfl := e1_ hf
    exact r_iret C0 hw trivial dX7_jointOf_22
def FMo_otherOf (a1 : Int32) : Option (Int32) :=
  if (a1 - a1 / (2 : Int32) * (2 : Int32)) = 0 then
    some ((a1 + (1 : Int32)))
  else
    some ((a1 - (1 : Int32)))
set_option maxHeartbeats 4000000 in
set_option maxRecDepth 100000 in
theorem cMo_otherOf (l : Launch) (D : va_G) (κ : Nat → ClassId) (a1 zr : Int32) (hf : FMo_otherOf a1 = some zr) : mI_ l yX7_otherOf (Cond.code yX7_otherOf cX7_otherOf 1 (some .int) :: uw) ({ frames := 0, cells := 0, slots := 0, locals := 0 } : Room) D (tys0 κ) [.int a1] (List.flatten ([] : List va_W)) nT_ zr (List.flatten ([] : List va_W)) := by
  unfold FMo_otherOf at hf
  refine mI_of (by decide) (Nat.le_of_ble_eq_true rfl) ?_
  intro p e s m below meth c A ls H locs C0 hw hl
  obtain ⟨hx, hb, -, hml, hown, hts, -, -⟩ := id C0
  have hl : lv_has ls 1 [(0, .int a1)] := hl
  refine lv_iload_n hx hb dX7_otherOf_0 rfl (lv_at hl 0 rfl) ?_
  refine lv_iconst (v := 2) hx hb dX7_otherOf_1 (by decide) ?_
  refine lv_irem hx hb dX7_otherOf_2 (by decide) ?_
  refine lv_if_ne (tgt := 12) hx hb dX7_otherOf_3 (by decide) (fun hc1 => ?_) (fun hc1 => ?_)
  · have hf := if_f hc1 hf
    refine lv_iload_n hx hb dX7_otherOf_12 rfl (lv_at hl 0 rfl) ?_
    refine lv_iconst (v := 1) hx hb dX7_otherOf_13 (by decide) ?_
    refine lv_isub hx hb dX7_otherOf_14 ?_
    obtain rfl := e1_ hf
    exact r_iret C0 hw trivial dX7_otherOf_15
  · have hf := if_t hc1 hf
    refine lv_iload_n hx hb dX7_otherOf_6 rfl (lv_at hl 0 rfl) ?_
    refine lv_iconst (v := 1) hx hb dX7_otherOf_7 (by decide) ?_
    refine lv_iadd hx hb dX7_otherOf_8 ?_
    refine lv_goto (tgt := 15) hx hb dX7_otherOf_9 (by decide) ?_
    obtain rfl := e1_ hf
    exact r_iret C0 hw trivial dX7_otherOf_15
def FMo_stiffOf (m_state : Nat → Int32) (a1 : Int32) : Option (Int32) :=
  gd_ ((42 : Int32) + (a1 / (2 : Int32))) 395 <|
  gd_ ((32 : Int32) + (a1 / (2 : Int32))) 395 <|
  dz_ (m_state ((32 : Int32) + (a1 / (2 : Int32))).toNatClampNeg) <|
  some ((((12 : Int32) * (m_state ((42 : Int32) + (a1 / (2 : Int32))).toNatClampNeg)) / (m_state ((32 : Int32) + (a1 / (2 : Int32))).toNatClampNeg)))
set_option maxHeartbeats 4000000 in
set_option maxRecDepth 100000 in
theorem cMo_stiffOf (l : Launch) (D : va_G) (κ : Nat → ClassId) (qm : Nat → Nat) (m_state m_tape : Nat → Int32) (m_taped m_fault m_broken m_brokenAt m_spot m_here m_token m_value : Int32) (m_ends m_letters m_moments m_stepsAt : Nat → Int32) (m_steps m_latest : Int32) (m_matrix m_sides m_tried m_answers : Nat → Int64) (m_rowOf : Nat → Int32) (m_whole : Int64) (m_shares m_isKept m_lanes m_lengths m_cells : Nat → Int32) (m_torn a1 zr : Int32) (hf : FMo_stiffOf m_state a1 = some zr) : mI_ l yX7_stiffOf (Cond.code yX7_stiffOf cX7_stiffOf 2 (some .int) :: uw) ({ frames := 0, cells := 0, slots := 0, locals := 0 } : Room) D (tys0 κ) [.ref (qm 0), .int a1] (List.flatten [pMo κ qm m_state m_tape m_taped m_fault m_broken m_brokenAt m_spot m_here m_token m_value m_ends m_letters m_moments m_stepsAt m_steps m_latest m_matrix m_sides m_tried m_answers m_rowOf m_whole m_shares m_isKept m_lanes m_lengths m_cells m_torn]) nT_ zr (List.flatten [pMo κ qm m_state m_tape m_taped m_fault m_broken m_brokenAt m_spot m_here m_token m_value m_ends m_letters m_moments m_stepsAt m_steps m_latest m_matrix m_sides m_tried m_answers m_rowOf m_whole m_shares m_isKept m_lanes m_lengths m_cells m_torn]) := by
  unfold FMo_stiffOf at hf
  refine mI_of (by decide) (Nat.le_of_ble_eq_true rfl) ?_
  intro p e s m below meth c A ls H locs C0 hw hl
  obtain ⟨hx, hb, -, hml, hown, hts, -, -⟩ := id C0
  have hl : lv_has ls 2 [(0, .ref (qm 0)), (1, .int a1)] := hl
  refine lv_bipush (v := 12) hx hb dX7_stiffOf_0 (by decide) ?_
  refine lv_aload_n hx hb dX7_stiffOf_2 rfl (lv_at hl 0 rfl) ?_
  refine r_get C0 hw 0 0 (v := .ref (qm 1)) rfl rfl inX7 (by decide) lk_X7_7 rfl dX7_stiffOf_3 ?_
  refine lv_bipush (v := 42) hx hb dX7_stiffOf_6 (by decide) ?_
  refine lv_iload_n hx hb dX7_stiffOf_8 rfl (lv_at hl 1 rfl) ?_
  refine lv_iconst (v := 2) hx hb dX7_stiffOf_9 (by decide) ?_
  refine lv_idiv hx hb dX7_stiffOf_10 (by decide) ?_
  refine lv_iadd hx hb dX7_stiffOf_11 ?_
  obtain ⟨hi1, hf⟩ := gd_s hf
  refine r_iald C0 hw 1 0 rfl rfl hi1 dX7_stiffOf_12 ?_
  refine lv_imul hx hb dX7_stiffOf_13 ?_
  refine lv_aload_n hx hb dX7_stiffOf_14 rfl (lv_at hl 0 rfl) ?_
  refine r_get C0 hw 0 0 (v := .ref (qm 1)) rfl rfl inX7 (by decide) lk_X7_7 rfl dX7_stiffOf_15 ?_
  refine lv_bipush (v := 32) hx hb dX7_stiffOf_18 (by decide) ?_
  refine lv_iload_n hx hb dX7_stiffOf_20 rfl (lv_at hl 1 rfl) ?_
  refine lv_iconst (v := 2) hx hb dX7_stiffOf_21 (by decide) ?_
  refine lv_idiv hx hb dX7_stiffOf_22 (by decide) ?_
  refine lv_iadd hx hb dX7_stiffOf_23 ?_
  obtain ⟨hi2, hf⟩ := gd_s hf
  refine r_iald C0 hw 1 0 rfl rfl hi2 dX7_stiffOf_24 ?_
  obtain ⟨hz3, hf⟩ := dz_s hf
  refine lv_idiv hx hb dX7_stiffOf_25 hz3 ?_
  obtain rfl := e1_ hf
  exact r_iret C0 hw trivial dX7_stiffOf_26
def FMo_pressed (m_state : Nat → Int32) (a1 a2 : Int32) : Option (Int32) :=
  gd_ ((52 : Int32) + a1) 395 <|
  gd_ ((32 : Int32) + (m_state ((52 : Int32) + a1).toNatClampNeg)) 395 <|
  lt_ (m_state ((32 : Int32) + (m_state ((52 : Int32) + a1).toNatClampNeg)).toNatClampNeg) fun v3 =>
  gd_ ((60 : Int32) + a1) 395 <|
  lt_ (m_state ((60 : Int32) + a1).toNatClampNeg) fun v5 =>
  gd_ ((68 : Int32) + a1) 395 <|
  lt_ (m_state ((68 : Int32) + a1).toNatClampNeg) fun v7 =>
  if v7 = 0 then
    lt_ (((((100 : Int32) * v5) * v3) * v3) / (12 : Int32)) fun v13 =>
    if a2 = 0 then
      some (v13)
    else
      some ((-v13))
  else
    lt_ (v3 - v7) fun v9 =>
    if a2 = 0 then
      dz_ (v3 * v3) <|
      some (((((((100 : Int32) * v5) * v7) * v7) * v9) / (v3 * v3)))
    else
      dz_ (v3 * v3) <|
      some ((-((((((100 : Int32) * v5) * v7) * v9) * v9) / (v3 * v3))))
set_option maxHeartbeats 4000000 in
set_option maxRecDepth 100000 in
theorem cMo_pressed (l : Launch) (D : va_G) (κ : Nat → ClassId) (qm : Nat → Nat) (m_state m_tape : Nat → Int32) (m_taped m_fault m_broken m_brokenAt m_spot m_here m_token m_value : Int32) (m_ends m_letters m_moments m_stepsAt : Nat → Int32) (m_steps m_latest : Int32) (m_matrix m_sides m_tried m_answers : Nat → Int64) (m_rowOf : Nat → Int32) (m_whole : Int64) (m_shares m_isKept m_lanes m_lengths m_cells : Nat → Int32) (m_torn a1 a2 zr : Int32) (hf : FMo_pressed m_state a1 a2 = some zr) : mI_ l yX7_pressed (Cond.code yX7_pressed cX7_pressed 7 (some .int) :: uw) ({ frames := 0, cells := 0, slots := 0, locals := 0 } : Room) D (tys0 κ) [.ref (qm 0), .int a1, .int a2] (List.flatten [pMo κ qm m_state m_tape m_taped m_fault m_broken m_brokenAt m_spot m_here m_token m_value m_ends m_letters m_moments m_stepsAt m_steps m_latest m_matrix m_sides m_tried m_answers m_rowOf m_whole m_shares m_isKept m_lanes m_lengths m_cells m_torn]) nT_ zr (List.flatten [pMo κ qm m_state m_tape m_taped m_fault m_broken m_brokenAt m_spot m_here m_token m_value m_ends m_letters m_moments m_stepsAt m_steps m_latest m_matrix m_sides m_tried m_answers m_rowOf m_whole m_shares m_isKept m_lanes m_lengths m_cells m_torn]) := by
  unfold FMo_pressed at hf
  refine mI_of (by decide) (Nat.le_of_ble_eq_true rfl) ?_
  intro p e s m below meth c A ls H locs C0 hw hl
  obtain ⟨hx, hb, -, hml, hown, hts, -, -⟩ := id C0
  have hl : lv_has ls 7 [(0, .ref (qm 0)), (1, .int a1), (2, .int a2)] := hl
  refine lv_aload_n hx hb dX7_pressed_0 rfl (lv_at hl 0 rfl) ?_
  refine r_get C0 hw 0 0 (v := .ref (qm 1)) rfl rfl inX7 (by decide) lk_X7_7 rfl dX7_pressed_1 ?_
  refine lv_bipush (v := 32) hx hb dX7_pressed_4 (by decide) ?_
  refine lv_aload_n hx hb dX7_pressed_6 rfl (lv_at hl 0 rfl) ?_
  refine r_get C0 hw 0 0 (v := .ref (qm 1)) rfl rfl inX7 (by decide) lk_X7_7 rfl dX7_pressed_7 ?_
  refine lv_bipush (v := 52) hx hb dX7_pressed_10 (by decide) ?_
  refine lv_iload_n hx hb dX7_pressed_12 rfl (lv_at hl 1 rfl) ?_
  refine lv_iadd hx hb dX7_pressed_13 ?_
  obtain ⟨hi1, hf⟩ := gd_s hf
  refine r_iald C0 hw 1 0 rfl rfl hi1 dX7_pressed_14 ?_
  refine lv_iadd hx hb dX7_pressed_15 ?_
  obtain ⟨hi2, hf⟩ := gd_s hf
  refine r_iald C0 hw 1 0 rfl rfl hi2 dX7_pressed_16 ?_
  refine lv_topi (fun v3 ev3 => ?_)
  have hf := lt_s_ hf v3 ev3
  refine lv_istore_n (lv' := [(3, .int v3), (0, .ref (qm 0)), (1, .int a1), (2, .int a2)]) hx hb dX7_pressed_17 rfl hl (by decide) rfl (fun ls hl => ?_)
  refine lv_aload_n hx hb dX7_pressed_18 rfl (lv_at hl 1 rfl) ?_
  refine r_get C0 hw 0 0 (v := .ref (qm 1)) rfl rfl inX7 (by decide) lk_X7_7 rfl dX7_pressed_19 ?_
  refine lv_bipush (v := 60) hx hb dX7_pressed_22 (by decide) ?_
  refine lv_iload_n hx hb dX7_pressed_24 rfl (lv_at hl 2 rfl) ?_
  refine lv_iadd hx hb dX7_pressed_25 ?_
  obtain ⟨hi4, hf⟩ := gd_s hf
  refine r_iald C0 hw 1 0 rfl rfl hi4 dX7_pressed_26 ?_
  refine lv_topi (fun v5 ev5 => ?_)
  have hf := lt_s_ hf v5 ev5
  refine lv_istore (lv' := [(4, .int v5), (3, .int v3), (0, .ref (qm 0)), (1, .int a1), (2, .int a2)]) hx hb dX7_pressed_27 hl (by decide) rfl (fun ls hl => ?_)
  refine lv_aload_n hx hb dX7_pressed_29 rfl (lv_at hl 2 rfl) ?_
  refine r_get C0 hw 0 0 (v := .ref (qm 1)) rfl rfl inX7 (by decide) lk_X7_7 rfl dX7_pressed_30 ?_
  refine lv_bipush (v := 68) hx hb dX7_pressed_33 (by decide) ?_
  refine lv_iload_n hx hb dX7_pressed_35 rfl (lv_at hl 3 rfl) ?_
  refine lv_iadd hx hb dX7_pressed_36 ?_
  obtain ⟨hi6, hf⟩ := gd_s hf
  refine r_iald C0 hw 1 0 rfl rfl hi6 dX7_pressed_37 ?_
  refine lv_topi (fun v7 ev7 => ?_)
  have hf := lt_s_ hf v7 ev7
  refine lv_istore (lv' := [(5, .int v7), (4, .int v5), (3, .int v3), (0, .ref (qm 0)), (1, .int a1), (2, .int a2)]) hx hb dX7_pressed_38 hl (by decide) rfl (fun ls hl => ?_)
  refine lv_iload hx hb dX7_pressed_40 (lv_at hl 0 rfl) ?_
  refine lv_if_ne (tgt := 72) hx hb dX7_pressed_42 (by decide) (fun hc8 => ?_) (fun hc8 => ?_)
  · have hf := if_f hc8 hf
    refine lv_iload_n hx hb dX7_pressed_72 rfl (lv_at hl 2 rfl) ?_
    refine lv_iload hx hb dX7_pressed_73 (lv_at hl 0 rfl) ?_
    refine lv_isub hx hb dX7_pressed_75 ?_
    refine lv_topi (fun v9 ev9 => ?_)
    have hf := lt_s_ hf v9 ev9
    refine lv_istore (lv' := [(6, .int v9), (5, .int v7), (4, .int v5), (3, .int v3), (0, .ref (qm 0)), (1, .int a1), (2, .int a2)]) hx hb dX7_pressed_76 hl (by decide) rfl (fun ls hl => ?_)
    refine lv_iload_n hx hb dX7_pressed_78 rfl (lv_at hl 6 rfl) ?_
    refine lv_if_eq (tgt := 104) hx hb dX7_pressed_79 (by decide) (fun hc10 => ?_) (fun hc10 => ?_)
    · have hf := if_t hc10 hf
      refine lv_bipush (v := 100) hx hb dX7_pressed_104 (by decide) ?_
      refine lv_iload hx hb dX7_pressed_106 (lv_at hl 2 rfl) ?_
      refine lv_imul hx hb dX7_pressed_108 ?_
      refine lv_iload hx hb dX7_pressed_109 (lv_at hl 1 rfl) ?_
      refine lv_imul hx hb dX7_pressed_111 ?_
      refine lv_iload hx hb dX7_pressed_112 (lv_at hl 1 rfl) ?_
      refine lv_imul hx hb dX7_pressed_114 ?_
      refine lv_iload hx hb dX7_pressed_115 (lv_at hl 0 rfl) ?_
      refine lv_imul hx hb dX7_pressed_117 ?_
      refine lv_iload_n hx hb dX7_pressed_118 rfl (lv_at hl 3 rfl) ?_
      refine lv_iload_n hx hb dX7_pressed_119 rfl (lv_at hl 3 rfl) ?_
      refine lv_imul hx hb dX7_pressed_120 ?_
      obtain ⟨hz11, hf⟩ := dz_s hf
      refine lv_idiv hx hb dX7_pressed_121 hz11 ?_
      obtain rfl := e1_ hf
      exact r_iret C0 hw trivial dX7_pressed_122
    · have hf := if_f hc10 hf
      refine lv_bipush (v := 100) hx hb dX7_pressed_82 (by decide) ?_
      refine lv_iload hx hb dX7_pressed_84 (lv_at hl 2 rfl) ?_
      refine lv_imul hx hb dX7_pressed_86 ?_
      refine lv_iload hx hb dX7_pressed_87 (lv_at hl 1 rfl) ?_
      refine lv_imul hx hb dX7_pressed_89 ?_
      refine lv_iload hx hb dX7_pressed_90 (lv_at hl 0 rfl) ?_
      refine lv_imul hx hb dX7_pressed_92 ?_
      refine lv_iload hx hb dX7_pressed_93 (lv_at hl 0 rfl) ?_
      refine lv_imul hx hb dX7_pressed_95 ?_
      refine lv_iload_n hx hb dX7_pressed_96 rfl (lv_at hl 3 rfl) ?_
      refine lv_iload_n hx hb dX7_pressed_97 rfl (lv_at hl 3 rfl) ?_
      refine lv_imul hx hb dX7_pressed_98 ?_
      obtain ⟨hz12, hf⟩ := dz_s hf
      refine lv_idiv hx hb dX7_pressed_99 hz12 ?_
      refine lv_ineg hx hb dX7_pressed_100 ?_
      refine lv_goto (tgt := 122) hx hb dX7_pressed_101 (by decide) ?_
      obtain rfl := e1_ hf
      exact r_iret C0 hw trivial dX7_pressed_122
  · have hf := if_t hc8 hf
    refine lv_bipush (v := 100) hx hb dX7_pressed_45 (by decide) ?_
    refine lv_iload hx hb dX7_pressed_47 (lv_at hl 1 rfl) ?_
    refine lv_imul hx hb dX7_pressed_49 ?_
    refine lv_iload_n hx hb dX7_pressed_50 rfl (lv_at hl 2 rfl) ?_
    refine lv_imul hx hb dX7_pressed_51 ?_
    refine lv_iload_n hx hb dX7_pressed_52 rfl (lv_at hl 2 rfl) ?_
    refine lv_imul hx hb dX7_pressed_53 ?_
    refine lv_bipush (v := 12) hx hb dX7_pressed_54 (by decide) ?_
    refine lv_idiv hx hb dX7_pressed_56 (by decide) ?_
    refine lv_topi (fun v13 ev13 => ?_)
    have hf := lt_s_ hf v13 ev13
    refine lv_istore (lv' := [(6, .int v13), (5, .int v7), (4, .int v5), (3, .int v3), (0, .ref (qm 0)), (1, .int a1), (2, .int a2)]) hx hb dX7_pressed_57 hl (by decide) rfl (fun ls hl => ?_)
    refine lv_iload_n hx hb dX7_pressed_59 rfl (lv_at hl 6 rfl) ?_
    refine lv_if_eq (tgt := 69) hx hb dX7_pressed_60 (by decide) (fun hc14 => ?_) (fun hc14 => ?_)
    · have hf := if_t hc14 hf
      refine lv_iload hx hb dX7_pressed_69 (lv_at hl 0 rfl) ?_
      obtain rfl := e1_ hf
      exact r_iret C0 hw trivial dX7_pressed_71
    · have hf := if_f hc14 hf
      refine lv_iload hx hb dX7_pressed_63 (lv_at hl 0 rfl) ?_
      refine lv_ineg hx hb dX7_pressed_65 ?_
      refine lv_goto (tgt := 71) hx hb dX7_pressed_66 (by decide) ?_
      obtain rfl := e1_ hf
      exact r_iret C0 hw trivial dX7_pressed_71
def FMo_firstOf_L4 (m_state : Nat → Int32) (l1 : Int32) : Nat → Int32 → Int32 → Option (Int32)
  | 0, _, _ => none
  | n + 1, l2, l3 =>
      b1_ (FMo_loads m_state) fun r1 =>
      if r1 ≤ l3 then
        some (l2)
      else
        gd_ ((52 : Int32) + l3) 395 <|
        if (m_state ((52 : Int32) + l3).toNatClampNeg) = (l1 / (2 : Int32)) then
          if (l1 - l1 / (2 : Int32) * (2 : Int32)) = 0 then
            b1_ (FMo_pressed m_state l3 (1 : Int32)) fun r15 =>
            lt_ (l2 + r15) fun v18 =>
            lt_ (l3 + (1 : Int32)) fun v19 =>
            FMo_firstOf_L4 m_state l1 n v18 v19
          else
            b1_ (FMo_pressed m_state l3 (0 : Int32)) fun r10 =>
            lt_ (l2 + r10) fun v13 =>
            lt_ (l3 + (1 : Int32)) fun v14 =>
            FMo_firstOf_L4 m_state l1 n v13 v14
        else
          lt_ (l2 + (0 : Int32)) fun v7 =>
          lt_ (l3 + (1 : Int32)) fun v8 =>
          FMo_firstOf_L4 m_state l1 n v7 v8
def FMo_firstOf (m_state : Nat → Int32) (a1 : Int32) : Option (Int32) :=
  FMo_firstOf_L4 m_state a1 1000 (0 : Int32) (0 : Int32)
set_option maxHeartbeats 4000000 in
set_option maxRecDepth 100000 in
theorem wMo_firstOf_L4 {p : Program} {l : Launch} {e : Env} {s : State} {m : MethodId} {args : Array Value} {below : List Frame} {meth : Method} {c : Code} {A : Nat → Prop} {D : va_G} {κ : Nat → ClassId} (C0 : cx_ p s m meth c args cX7_firstOf RX7 (some .int) 4 A) (qm : Nat → Nat) (m_state m_tape : Nat → Int32) (m_taped m_fault m_broken m_brokenAt m_spot m_here m_token m_value : Int32) (m_ends m_letters m_moments m_stepsAt : Nat → Int32) (m_steps m_latest : Int32) (m_matrix m_sides m_tried m_answers : Nat → Int64) (m_rowOf : Nat → Int32) (m_whole : Int64) (m_shares m_isKept m_lanes m_lengths m_cells : Nat → Int32) (m_torn l1 : Int32) (zr : Int32) : ∀ (n : Nat) (l2 : Int32) (l3 : Int32) (H : Heap) (locs : List Loc) (ls : Array Slot), wd_ D (tys0 κ) A s (List.flatten [pMo κ qm m_state m_tape m_taped m_fault m_broken m_brokenAt m_spot m_here m_token m_value m_ends m_letters m_moments m_stepsAt m_steps m_latest m_matrix m_sides m_tried m_answers m_rowOf m_whole m_shares m_isKept m_lanes m_lengths m_cells m_torn]) H locs → lv_has ls 4 [(0, .ref (qm 0)), (1, .int l1), (2, .int l2), (3, .int l3)] → FMo_firstOf_L4 m_state l1 n l2 l3 = some zr → W p l e ({ frames := 1, cells := 0, slots := 0, locals := 26 } : Room) s m args below meth c H locs 0 0 (qI_ D (tys0 κ) A nT_ zr (List.flatten [pMo κ qm m_state m_tape m_taped m_fault m_broken m_brokenAt m_spot m_here m_token m_value m_ends m_letters m_moments m_stepsAt m_steps m_latest m_matrix m_sides m_tried m_answers m_rowOf m_whole m_shares m_isKept m_lanes m_lengths m_cells m_torn]) below args s) (F0 m 4 ls []) := by
  obtain ⟨hx, hb, -, hml, hown, hts, -, -⟩ := id C0
  intro n
  induction n with
  | zero =>
    intro l2 l3 H locs ls hw hl  hf
    cases hf
  | succ n ih =>
    intro l2 l3 H locs ls hw hl  hf
    rw [FMo_firstOf_L4.eq_2] at hf
    refine lv_iload_n hx hb dX7_firstOf_4 rfl (lv_at hl 3 rfl) ?_
    refine lv_aload_n hx hb dX7_firstOf_5 rfl (lv_at hl 0 rfl) ?_
    obtain ⟨r1, hk2, hf⟩ := b1_s hf
    refine rv_i (vq := (RX7, TX7, 28)) (As := []) (rest := [.int l3]) (bs' := [pMo κ qm m_state m_tape m_taped m_fault m_broken m_brokenAt m_spot m_here m_token m_value m_ends m_letters m_moments m_stepsAt m_steps m_latest m_matrix m_sides m_tried m_answers m_rowOf m_whole m_shares m_isKept m_lanes m_lengths m_cells m_torn]) C0 hw (cMo_loads l D κ qm m_state m_tape m_taped m_fault m_broken m_brokenAt m_spot m_here m_token m_value m_ends m_letters m_moments m_stepsAt m_steps m_latest m_matrix m_sides m_tried m_answers m_rowOf m_whole m_shares m_isKept m_lanes m_lengths m_cells m_torn r1 hk2) cv_RX7_152 ⟨rfl, rfl, Nat.le_of_ble_eq_true rfl, Nat.le_of_ble_eq_true rfl⟩ ⟨Nat.zero_le _, Nat.zero_le _⟩ [0] [] [0] rfl rfl rfl rfl (by decide) rfl rfl rfl rfl rfl hl.1 (by simp only [List.map, List.sum_cons, List.sum_nil, Value.category]; decide) dX7_firstOf_6 (fun H locs hw hn3 => ?_)
    refine lv_icmp_ge (tgt := 56) hx hb dX7_firstOf_9 (by decide) (fun hc4 => ?_) (fun hc4 => ?_)
    · have hf := if_t hc4 hf
      refine lv_iload_n hx hb dX7_firstOf_56 rfl (lv_at hl 2 rfl) ?_
      obtain rfl := e1_ hf
      exact r_iret C0 hw trivial dX7_firstOf_57
    · have hf := if_f hc4 hf
      refine lv_iload_n hx hb dX7_firstOf_12 rfl (lv_at hl 2 rfl) ?_
      refine lv_aload_n hx hb dX7_firstOf_13 rfl (lv_at hl 0 rfl) ?_
      refine r_get C0 hw 0 0 (v := .ref (qm 1)) rfl rfl inX7 (by decide) lk_X7_7 rfl dX7_firstOf_14 ?_
      refine lv_bipush (v := 52) hx hb dX7_firstOf_17 (by decide) ?_
      refine lv_iload_n hx hb dX7_firstOf_19 rfl (lv_at hl 3 rfl) ?_
      refine lv_iadd hx hb dX7_firstOf_20 ?_
      obtain ⟨hi5, hf⟩ := gd_s hf
      refine r_iald C0 hw 1 0 rfl rfl hi5 dX7_firstOf_21 ?_
      refine lv_iload_n hx hb dX7_firstOf_22 rfl (lv_at hl 1 rfl) ?_
      refine lv_iconst (v := 2) hx hb dX7_firstOf_23 (by decide) ?_
      refine lv_idiv hx hb dX7_firstOf_24 (by decide) ?_
      refine lv_icmp_ne (tgt := 47) hx hb dX7_firstOf_25 (by decide) (fun hc6 => ?_) (fun hc6 => ?_)
      · have hf := if_f hc6 hf
        refine lv_iconst (v := 0) hx hb dX7_firstOf_47 (by decide) ?_
        refine lv_iadd hx hb dX7_firstOf_48 ?_
        refine lv_topi (fun v7 ev7 => ?_)
        have hf := lt_s_ hf v7 ev7
        refine lv_istore_n (lv' := [(2, .int v7), (0, .ref (qm 0)), (1, .int l1), (3, .int l3)]) hx hb dX7_firstOf_49 rfl hl (by decide) rfl (fun ls hl => ?_)
        obtain ⟨v8, ev8⟩ : ∃ z : Int32, z = (l3 + (1 : Int32)) := ⟨_, rfl⟩
        have hf := lt_s_ hf v8 ev8
        refine lv_iinc (v := v8) (lv' := [(3, .int v8), (2, .int v7), (0, .ref (qm 0)), (1, .int l1)]) hx hb dX7_firstOf_50 hl (k := 3) rfl (by rw [ev8]; rfl) (by decide) rfl (fun ls hl => ?_)
        refine lv_goto (tgt := 4) hx hb dX7_firstOf_53 (by decide) ?_
        exact ih v7 v8 H locs ls hw (lv_sub hl [2, 3, 1, 0] rfl)  hf
      · have hf := if_t hc6 hf
        refine lv_aload_n hx hb dX7_firstOf_28 rfl (lv_at hl 0 rfl) ?_
        refine lv_iload_n hx hb dX7_firstOf_29 rfl (lv_at hl 3 rfl) ?_
        refine lv_iload_n hx hb dX7_firstOf_30 rfl (lv_at hl 1 rfl) ?_
        refine lv_iconst (v := 2) hx hb dX7_firstOf_31 (by decide) ?_
        refine lv_irem hx hb dX7_firstOf_32 (by decide) ?_
        refine lv_if_ne (tgt := 40) hx hb dX7_firstOf_33 (by decide) (fun hc9 => ?_) (fun hc9 => ?_)
        · have hf := if_f hc9 hf
          refine lv_iconst (v := 0) hx hb dX7_firstOf_40 (by decide) ?_
          obtain ⟨r10, hk11, hf⟩ := b1_s hf
          refine rv_i (vq := (RX7, TX7, 28)) (As := [.int l3, .int (0 : Int32)]) (rest := [.int l2]) (bs' := [pMo κ qm m_state m_tape m_taped m_fault m_broken m_brokenAt m_spot m_here m_token m_value m_ends m_letters m_moments m_stepsAt m_steps m_latest m_matrix m_sides m_tried m_answers m_rowOf m_whole m_shares m_isKept m_lanes m_lengths m_cells m_torn]) C0 hw (cMo_pressed l D κ qm m_state m_tape m_taped m_fault m_broken m_brokenAt m_spot m_here m_token m_value m_ends m_letters m_moments m_stepsAt m_steps m_latest m_matrix m_sides m_tried m_answers m_rowOf m_whole m_shares m_isKept m_lanes m_lengths m_cells m_torn l3 (0 : Int32) r10 hk11) cv_RX7_155 ⟨rfl, rfl, Nat.le_of_ble_eq_true rfl, Nat.le_of_ble_eq_true rfl⟩ ⟨Nat.zero_le _, Nat.zero_le _⟩ [0] [] [0] rfl rfl rfl rfl (by decide) rfl rfl rfl rfl rfl hl.1 (by simp only [List.map, List.sum_cons, List.sum_nil, Value.category]; decide) dX7_firstOf_41 (fun H locs hw hn12 => ?_)
          refine lv_goto (tgt := 48) hx hb dX7_firstOf_44 (by decide) ?_
          refine lv_iadd hx hb dX7_firstOf_48 ?_
          refine lv_topi (fun v13 ev13 => ?_)
          have hf := lt_s_ hf v13 ev13
          refine lv_istore_n (lv' := [(2, .int v13), (0, .ref (qm 0)), (1, .int l1), (3, .int l3)]) hx hb dX7_firstOf_49 rfl hl (by decide) rfl (fun ls hl => ?_)
          obtain ⟨v14, ev14⟩ : ∃ z : Int32, z = (l3 + (1 : Int32)) := ⟨_, rfl⟩
          have hf := lt_s_ hf v14 ev14
          refine lv_iinc (v := v14) (lv' := [(3, .int v14), (2, .int v13), (0, .ref (qm 0)), (1, .int l1)]) hx hb dX7_firstOf_50 hl (k := 3) rfl (by rw [ev14]; rfl) (by decide) rfl (fun ls hl => ?_)
          refine lv_goto (tgt := 4) hx hb dX7_firstOf_53 (by decide) ?_
          exact ih v13 v14 H locs ls hw (lv_sub hl [2, 3, 1, 0] rfl)  hf
        · have hf := if_t hc9 hf
          refine lv_iconst (v := 1) hx hb dX7_firstOf_36 (by decide) ?_
          refine lv_goto (tgt := 41) hx hb dX7_firstOf_37 (by decide) ?_
          obtain ⟨r15, hk16, hf⟩ := b1_s hf
          refine rv_i (vq := (RX7, TX7, 28)) (As := [.int l3, .int (1 : Int32)]) (rest := [.int l2]) (bs' := [pMo κ qm m_state m_tape m_taped m_fault m_broken m_brokenAt m_spot m_here m_token m_value m_ends m_letters m_moments m_stepsAt m_steps m_latest m_matrix m_sides m_tried m_answers m_rowOf m_whole m_shares m_isKept m_lanes m_lengths m_cells m_torn]) C0 hw (cMo_pressed l D κ qm m_state m_tape m_taped m_fault m_broken m_brokenAt m_spot m_here m_token m_value m_ends m_letters m_moments m_stepsAt m_steps m_latest m_matrix m_sides m_tried m_answers m_rowOf m_whole m_shares m_isKept m_lanes m_lengths m_cells m_torn l3 (1 : Int32) r15 hk16) cv_RX7_155 ⟨rfl, rfl, Nat.le_of_ble_eq_true rfl, Nat.le_of_ble_eq_true rfl⟩ ⟨Nat.zero_le _, Nat.zero_le _⟩ [0] [] [0] rfl rfl rfl rfl (by decide) rfl rfl rfl rfl rfl hl.1 (by simp only [List.map, List.sum_cons, List.sum_nil, Value.category]; decide) dX7_firstOf_41 (fun H locs hw hn17 => ?_)
          refine lv_goto (tgt := 48) hx hb dX7_firstOf_44 (by decide) ?_
          refine lv_iadd hx hb dX7_firstOf_48 ?_
          refine lv_topi (fun v18 ev18 => ?_)
          have hf := lt_s_ hf v18 ev18
          refine lv_istore_n (lv' := [(2, .int v18), (0, .ref (qm 0)), (1, .int l1), (3, .int l3)]) hx hb dX7_firstOf_49 rfl hl (by decide) rfl (fun ls hl => ?_)
          obtain ⟨v19, ev19⟩ : ∃ z : Int32, z = (l3 + (1 : Int32)) := ⟨_, rfl⟩
          have hf := lt_s_ hf v19 ev19
          refine lv_iinc (v := v19) (lv' := [(3, .int v19), (2, .int v18), (0, .ref (qm 0)), (1, .int l1)]) hx hb dX7_firstOf_50 hl (k := 3) rfl (by rw [ev19]; rfl) (by decide) rfl (fun ls hl => ?_)
          refine lv_goto (tgt := 4) hx hb dX7_firstOf_53 (by decide) ?_
          exact ih v18 v19 H locs ls hw (lv_sub hl [2, 3, 1, 0] rfl)  hf
set_option maxHeartbeats 4000000 in
set_option maxRecDepth 100000 in
theorem cMo_firstOf (l : Launch) (D : va_G) (κ : Nat → ClassId) (qm : Nat → Nat) (m_state m_tape : Nat → Int32) (m_taped m_fault m_broken m_brokenAt m_spot m_here m_token m_value : Int32) (m_ends m_letters m_moments m_stepsAt : Nat → Int32) (m_steps m_latest : Int32) (m_matrix m_sides m_tried m_answers : Nat → Int64) (m_rowOf : Nat → Int32) (m_whole : Int64) (m_shares m_isKept m_lanes m_lengths m_cells : Nat → Int32) (m_torn a1 zr : Int32) (hf : FMo_firstOf m_state a1 = some zr) : mI_ l yX7_firstOf (Cond.code yX7_firstOf cX7_firstOf 4 (some .int) :: uw) ({ frames := 1, cells := 0, slots := 0, locals := 26 } : Room) D (tys0 κ) [.ref (qm 0), .int a1] (List.flatten [pMo κ qm m_state m_tape m_taped m_fault m_broken m_brokenAt m_spot m_here m_token m_value m_ends m_letters m_moments m_stepsAt m_steps m_latest m_matrix m_sides m_tried m_answers m_rowOf m_whole m_shares m_isKept m_lanes m_lengths m_cells m_torn]) nT_ zr (List.flatten [pMo κ qm m_state m_tape m_taped m_fault m_broken m_brokenAt m_spot m_here m_token m_value m_ends m_letters m_moments m_stepsAt m_steps m_latest m_matrix m_sides m_tried m_answers m_rowOf m_whole m_shares m_isKept m_lanes m_lengths m_cells m_torn]) := by
  unfold FMo_firstOf at hf
  refine mI_of (by decide) (Nat.le_of_ble_eq_true rfl) ?_
  intro p e s m below meth c A ls H locs C0 hw hl
  obtain ⟨hx, hb, -, hml, hown, hts, -, -⟩ := id C0
  have hl : lv_has ls 4 [(0, .ref (qm 0)), (1, .int a1)] := hl
  refine lv_iconst (v := 0) hx hb dX7_firstOf_0 (by decide) ?_
  refine lv_istore_n (lv' := [(2, .int (0 : Int32)), (0, .ref (qm 0)), (1, .int a1)]) hx hb dX7_firstOf_1 rfl hl (by decide) rfl (fun ls hl => ?_)
  refine lv_iconst (v := 0) hx hb dX7_firstOf_2 (by decide) ?_
  refine lv_istore_n (lv' := [(3, .int (0 : Int32)), (2, .int (0 : Int32)), (0, .ref (qm 0)), (1, .int a1)]) hx hb dX7_firstOf_3 rfl hl (by decide) rfl (fun ls hl => ?_)
  exact wMo_firstOf_L4 C0 qm m_state m_tape m_taped m_fault m_broken m_brokenAt m_spot m_here m_token m_value m_ends m_letters m_moments m_stepsAt m_steps m_latest m_matrix m_sides m_tried m_answers m_rowOf m_whole m_shares m_isKept m_lanes m_lengths m_cells m_torn a1 zr 1000 (0 : Int32) (0 : Int32) H locs ls hw (lv_sub hl [2, 3, 1, 0] rfl)  hf
def FMo_begins_L7 (m_state : Nat → Int32) (k_ : Int32 → (Nat → Int32) → Option (Int32 × (Nat → Int32) × (Nat → Int32) × Int32 × Int32)) : Nat → Int32 → (Nat → Int32) → Option (Int32 × (Nat → Int32) × (Nat → Int32) × Int32 × Int32)
  | 0, _, _ => none
  | n + 1, l2, m_moments =>
      if (20 : Int32) ≤ l2 then
        k_ l2 m_moments
      else
        b1_ (FMo_beams m_state) fun r2 =>
        if ((2 : Int32) * r2) ≤ l2 then
          gd_ l2 20 <|
          lt_ (upd m_moments l2.toNatClampNeg (0 : Int32)) fun w7 =>
          lt_ (l2 + (1 : Int32)) fun v8 =>
          FMo_begins_L7 m_state k_ n v8 w7
        else
          b1_ (FMo_firstOf m_state l2) fun r9 =>
          gd_ l2 20 <|
          lt_ (upd m_moments l2.toNatClampNeg r9) fun w13 =>
          lt_ (l2 + (1 : Int32)) fun v14 =>
          FMo_begins_L7 m_state k_ n v14 w13
def FMo_begins_L46 (m_moments : Nat → Int32) (l1 : Int32) : Nat → Int32 → (Nat → Int32) → Option (Int32 × (Nat → Int32) × (Nat → Int32) × Int32 × Int32)
  | 0, _, _ => none
  | n + 1, l2, m_stepsAt =>
      if (6 : Int32) ≤ l2 then
        some (l1, m_moments, m_stepsAt, (0 : Int32), (-4 : Int32))
      else
        gd_ l2 6 <|
        lt_ (upd m_stepsAt l2.toNatClampNeg (0 : Int32)) fun w19 =>
        lt_ (l2 + (1 : Int32)) fun v20 =>
        FMo_begins_L46 m_moments l1 n v20 w19
def FMo_begins (m_state m_moments m_stepsAt : Nat → Int32) (m_steps : Int32) : Option (Int32 × (Nat → Int32) × (Nat → Int32) × Int32 × Int32) :=
  FMo_begins_L7 m_state (fun (v15 : Int32) (w16 : Nat → Int32) =>
      FMo_begins_L46 w16 m_steps 1000 (0 : Int32) m_stepsAt) 1000 (0 : Int32) m_moments
set_option maxHeartbeats 4000000 in
set_option maxRecDepth 100000 in
theorem wMo_begins_L7 {p : Program} {l : Launch} {e : Env} {s : State} {m : MethodId} {args : Array Value} {below : List Frame} {meth : Method} {c : Code} {A : Nat → Prop} {D : va_G} {κ : Nat → ClassId} (C0 : cx_ p s m meth c args cX7_begins RX7 (some .int) 3 A) (qm : Nat → Nat) (m_state m_tape : Nat → Int32) (m_taped m_fault m_broken m_brokenAt m_spot m_here m_token m_value : Int32) (m_ends m_letters m_stepsAt : Nat → Int32) (m_steps m_latest : Int32) (m_matrix m_sides m_tried m_answers : Nat → Int64) (m_rowOf : Nat → Int32) (m_whole : Int64) (m_shares m_isKept m_lanes m_lengths m_cells : Nat → Int32) (m_torn l1 : Int32) (zr : Int32) (z1 z2 : Nat → Int32) (z3 z4 : Int32) (k_ : Int32 → (Nat → Int32) → Option (Int32 × (Nat → Int32) × (Nat → Int32) × Int32 × Int32)) (hk_ : ∀ (l2 : Int32) (m_moments : Nat → Int32) (H : Heap) (locs : List Loc) (ls : Array Slot), wd_ D (tys0 κ) A s (List.flatten [pMo κ qm m_state m_tape m_taped m_fault m_broken m_brokenAt m_spot m_here m_token m_value m_ends m_letters m_moments m_stepsAt m_steps m_latest m_matrix m_sides m_tried m_answers m_rowOf m_whole m_shares m_isKept m_lanes m_lengths m_cells m_torn]) H locs → lv_has ls 3 [(0, .ref (qm 0)), (1, .int l1)] → k_ l2 m_moments = some (zr, z1, z2, z3, z4) → W p l e ({ frames := 2, cells := 0, slots := 0, locals := 49 } : Room) s m args below meth c H locs 0 0 (qI_ D (tys0 κ) A nT_ zr (List.flatten [pMo κ qm m_state m_tape m_taped m_fault m_broken m_brokenAt m_spot m_here m_token m_value m_ends m_letters z1 z2 z3 z4 m_matrix m_sides m_tried m_answers m_rowOf m_whole m_shares m_isKept m_lanes m_lengths m_cells m_torn]) below args s) (F0 m 44 ls [])) : ∀ (n : Nat) (l2 : Int32) (m_moments : Nat → Int32) (H : Heap) (locs : List Loc) (ls : Array Slot), wd_ D (tys0 κ) A s (List.flatten [pMo κ qm m_state m_tape m_taped m_fault m_broken m_brokenAt m_spot m_here m_token m_value m_ends m_letters m_moments m_stepsAt m_steps m_latest m_matrix m_sides m_tried m_answers m_rowOf m_whole m_shares m_isKept m_lanes m_lengths m_cells m_torn]) H locs → lv_has ls 3 [(0, .ref (qm 0)), (1, .int l1), (2, .int l2)] → FMo_begins_L7 m_state k_ n l2 m_moments = some (zr, z1, z2, z3, z4) → W p l e ({ frames := 2, cells := 0, slots := 0, locals := 49 } : Room) s m args below meth c H locs 0 0 (qI_ D (tys0 κ) A nT_ zr (List.flatten [pMo κ qm m_state m_tape m_taped m_fault m_broken m_brokenAt m_spot m_here m_token m_value m_ends m_letters z1 z2 z3 z4 m_matrix m_sides m_tried m_answers m_rowOf m_whole m_shares m_isKept m_lanes m_lengths m_cells m_torn]) below args s) (F0 m 7 ls []) := by
  obtain ⟨hx, hb, -, hml, hown, hts, -, -⟩ := id C0
  intro n
  induction n with
  | zero =>
    intro l2 m_moments H locs ls hw hl  hf
    cases hf
  | succ n ih =>
    intro l2 m_moments H locs ls hw hl  hf
    rw [FMo_begins_L7.eq_2] at hf
    refine lv_iload_n hx hb dX7_begins_7 rfl (lv_at hl 2 rfl) ?_
    refine lv_bipush (v := 20) hx hb dX7_begins_8 (by decide) ?_
    refine lv_icmp_ge (tgt := 44) hx hb dX7_begins_10 (by decide) (fun hc1 => ?_) (fun hc1 => ?_)
    · have hf := if_t hc1 hf
      exact hk_ l2 m_moments H locs ls hw (lv_sub hl [0, 1] rfl)  hf
    · have hf := if_f hc1 hf
      refine lv_aload_n hx hb dX7_begins_13 rfl (lv_at hl 0 rfl) ?_
      refine r_get C0 hw 0 12 (v := .ref (qm 5)) rfl rfl inX7 (by decide) lk_X7_22 rfl dX7_begins_14 ?_
      refine lv_iload_n hx hb dX7_begins_17 rfl (lv_at hl 2 rfl) ?_
      refine lv_iload_n hx hb dX7_begins_18 rfl (lv_at hl 2 rfl) ?_
      refine lv_iconst (v := 2) hx hb dX7_begins_19 (by decide) ?_
      refine lv_aload_n hx hb dX7_begins_20 rfl (lv_at hl 0 rfl) ?_
      obtain ⟨r2, hk3, hf⟩ := b1_s hf
      refine rv_i (vq := (RX7, TX7, 28)) (As := []) (rest := [.int (2 : Int32), .int l2, .int l2, .ref (qm 5)]) (bs' := [pMo κ qm m_state m_tape m_taped m_fault m_broken m_brokenAt m_spot m_here m_token m_value m_ends m_letters m_moments m_stepsAt m_steps m_latest m_matrix m_sides m_tried m_answers m_rowOf m_whole m_shares m_isKept m_lanes m_lengths m_cells m_torn]) C0 hw (cMo_beams l D κ qm m_state m_tape m_taped m_fault m_broken m_brokenAt m_spot m_here m_token m_value m_ends m_letters m_moments m_stepsAt m_steps m_latest m_matrix m_sides m_tried m_answers m_rowOf m_whole m_shares m_isKept m_lanes m_lengths m_cells m_torn r2 hk3) cv_RX7_162 ⟨rfl, rfl, Nat.le_of_ble_eq_true rfl, Nat.le_of_ble_eq_true rfl⟩ ⟨Nat.zero_le _, Nat.zero_le _⟩ [0] [] [0] rfl rfl rfl rfl (by decide) rfl rfl rfl rfl rfl hl.1 (by simp only [List.map, List.sum_cons, List.sum_nil, Value.category]; decide) dX7_begins_21 (fun H locs hw hn4 => ?_)
      refine lv_imul hx hb dX7_begins_24 ?_
      refine lv_icmp_ge (tgt := 36) hx hb dX7_begins_25 (by decide) (fun hc5 => ?_) (fun hc5 => ?_)
      · have hf := if_t hc5 hf
        refine lv_iconst (v := 0) hx hb dX7_begins_36 (by decide) ?_
        obtain ⟨hi6, hf⟩ := gd_s hf
        obtain ⟨w7, ew7⟩ : ∃ z : Nat → Int32, z = (upd m_moments l2.toNatClampNeg (0 : Int32)) := ⟨_, rfl⟩
        have hf := lt_s_ hf w7 ew7
        refine r_iast C0 hw 5 0 rfl rfl hi6 dX7_begins_37 (ws' := List.flatten [pMo κ qm m_state m_tape m_taped m_fault m_broken m_brokenAt m_spot m_here m_token m_value m_ends m_letters w7 m_stepsAt m_steps m_latest m_matrix m_sides m_tried m_answers m_rowOf m_whole m_shares m_isKept m_lanes m_lengths m_cells m_torn]) (by subst ew7; rfl) (fun H locs hw => ?_)
        obtain ⟨v8, ev8⟩ : ∃ z : Int32, z = (l2 + (1 : Int32)) := ⟨_, rfl⟩
        have hf := lt_s_ hf v8 ev8
        refine lv_iinc (v := v8) (lv' := [(2, .int v8), (0, .ref (qm 0)), (1, .int l1)]) hx hb dX7_begins_38 hl (k := 2) rfl (by rw [ev8]; rfl) (by decide) rfl (fun ls hl => ?_)
        refine lv_goto (tgt := 7) hx hb dX7_begins_41 (by decide) ?_
        exact ih v8 w7 H locs ls hw (lv_sub hl [1, 2, 0] rfl)  hf
      · have hf := if_f hc5 hf
        refine lv_aload_n hx hb dX7_begins_28 rfl (lv_at hl 0 rfl) ?_
        refine lv_iload_n hx hb dX7_begins_29 rfl (lv_at hl 2 rfl) ?_
        obtain ⟨r9, hk10, hf⟩ := b1_s hf
        refine rv_i (vq := (RX7, TX7, 28)) (As := [.int l2]) (rest := [.int l2, .ref (qm 5)]) (bs' := [pMo κ qm m_state m_tape m_taped m_fault m_broken m_brokenAt m_spot m_here m_token m_value m_ends m_letters m_moments m_stepsAt m_steps m_latest m_matrix m_sides m_tried m_answers m_rowOf m_whole m_shares m_isKept m_lanes m_lengths m_cells m_torn]) C0 hw (cMo_firstOf l D κ qm m_state m_tape m_taped m_fault m_broken m_brokenAt m_spot m_here m_token m_value m_ends m_letters m_moments m_stepsAt m_steps m_latest m_matrix m_sides m_tried m_answers m_rowOf m_whole m_shares m_isKept m_lanes m_lengths m_cells m_torn l2 r9 hk10) cv_RX7_165 ⟨rfl, rfl, Nat.le_of_ble_eq_true rfl, Nat.le_of_ble_eq_true rfl⟩ ⟨Nat.zero_le _, Nat.zero_le _⟩ [0] [] [0] rfl rfl rfl rfl (by decide) rfl rfl rfl rfl rfl hl.1 (by simp only [List.map, List.sum_cons, List.sum_nil, Value.category]; decide) dX7_begins_30 (fun H locs hw hn11 => ?_)
        refine lv_goto (tgt := 37) hx hb dX7_begins_33 (by decide) ?_
        obtain ⟨hi12, hf⟩ := gd_s hf
        obtain ⟨w13, ew13⟩ : ∃ z : Nat → Int32, z = (upd m_moments l2.toNatClampNeg r9) := ⟨_, rfl⟩
        have hf := lt_s_ hf w13 ew13
        refine r_iast C0 hw 5 0 rfl rfl hi12 dX7_begins_37 (ws' := List.flatten [pMo κ qm m_state m_tape m_taped m_fault m_broken m_brokenAt m_spot m_here m_token m_value m_ends m_letters w13 m_stepsAt m_steps m_latest m_matrix m_sides m_tried m_answers m_rowOf m_whole m_shares m_isKept m_lanes m_lengths m_cells m_torn]) (by subst ew13; rfl) (fun H locs hw => ?_)
        obtain ⟨v14, ev14⟩ : ∃ z : Int32, z = (l2 + (1 : Int32)) := ⟨_, rfl⟩
        have hf := lt_s_ hf v14 ev14
        refine lv_iinc (v := v14) (lv' := [(2, .int v14), (0, .ref (qm 0)), (1, .int l1)]) hx hb dX7_begins_38 hl (k := 2) rfl (by rw [ev14]; rfl) (by decide) rfl (fun ls hl => ?_)
        refine lv_goto (tgt := 7) hx hb dX7_begins_41 (by decide) ?_
        exact ih v14 w13 H locs ls hw (lv_sub hl [1, 2, 0] rfl)  hf
set_option maxHeartbeats 4000000 in
set_option maxRecDepth 100000 in
theorem wMo_begins_L46 {p : Program} {l : Launch} {e : Env} {s : State} {m : MethodId} {args : Array Value} {below : List Frame} {meth : Method} {c : Code} {A : Nat → Prop} {D : va_G} {κ : Nat → ClassId} (C0 : cx_ p s m meth c args cX7_begins RX7 (some .int) 3 A) (qm : Nat → Nat) (m_state m_tape : Nat → Int32) (m_taped m_fault m_broken m_brokenAt m_spot m_here m_token m_value : Int32) (m_ends m_letters m_moments : Nat → Int32) (m_steps m_latest : Int32) (m_matrix m_sides m_tried m_answers : Nat → Int64) (m_rowOf : Nat → Int32) (m_whole : Int64) (m_shares m_isKept m_lanes m_lengths m_cells : Nat → Int32) (m_torn l1 : Int32) (zr : Int32) (z1 z2 : Nat → Int32) (z3 z4 : Int32) : ∀ (n : Nat) (l2 : Int32) (m_stepsAt : Nat → Int32) (H : Heap) (locs : List Loc) (ls : Array Slot), wd_ D (tys0 κ) A s (List.flatten [pMo κ qm m_state m_tape m_taped m_fault m_broken m_brokenAt m_spot m_here m_token m_value m_ends m_letters m_moments m_stepsAt m_steps m_latest m_matrix m_sides m_tried m_answers m_rowOf m_whole m_shares m_isKept m_lanes m_lengths m_cells m_torn]) H locs → lv_has ls 3 [(0, .ref (qm 0)), (1, .int l1), (2, .int l2)] → FMo_begins_L46 m_moments l1 n l2 m_stepsAt = some (zr, z1, z2, z3, z4) → W p l e ({ frames := 2, cells := 0, slots := 0, locals := 49 } : Room) s m args below meth c H locs 0 0 (qI_ D (tys0 κ) A nT_ zr (List.flatten [pMo κ qm m_state m_tape m_taped m_fault m_broken m_brokenAt m_spot m_here m_token m_value m_ends m_letters z1 z2 z3 z4 m_matrix m_sides m_tried m_answers m_rowOf m_whole m_shares m_isKept m_lanes m_lengths m_cells m_torn]) below args s) (F0 m 46 ls []) := by
  obtain ⟨hx, hb, -, hml, hown, hts, -, -⟩ := id C0
  intro n
  induction n with
  | zero =>
    intro l2 m_stepsAt H locs ls hw hl  hf
    cases hf
  | succ n ih =>
    intro l2 m_stepsAt H locs ls hw hl  hf
    rw [FMo_begins_L46.eq_2] at hf
    refine lv_iload_n hx hb dX7_begins_46 rfl (lv_at hl 2 rfl) ?_
    refine lv_bipush (v := 6) hx hb dX7_begins_47 (by decide) ?_
    refine lv_icmp_ge (tgt := 65) hx hb dX7_begins_49 (by decide) (fun hc17 => ?_) (fun hc17 => ?_)
    · have hf := if_t hc17 hf
      refine lv_aload_n hx hb dX7_begins_65 rfl (lv_at hl 0 rfl) ?_
      refine lv_iconst (v := 0) hx hb dX7_begins_66 (by decide) ?_
      refine r_put C0 hw 0 14 (v := .int (0 : Int32)) (ws' := List.flatten [pMo κ qm m_state m_tape m_taped m_fault m_broken m_brokenAt m_spot m_here m_token m_value m_ends m_letters m_moments m_stepsAt (0 : Int32) m_latest m_matrix m_sides m_tried m_answers m_rowOf m_whole m_shares m_isKept m_lanes m_lengths m_cells m_torn]) rfl rfl inX7 tyX7_ok nmX7 (by decide) lk_X7_159 rfl rfl rfl rfl (Nat.le_of_ble_eq_true rfl) dX7_begins_67 rfl (fun H locs hw => ?_)
      refine lv_aload_n hx hb dX7_begins_70 rfl (lv_at hl 0 rfl) ?_
      refine lv_bipush (v := -4) hx hb dX7_begins_71 (by decide) ?_
      refine r_put C0 hw 0 15 (v := .int (-4 : Int32)) (ws' := List.flatten [pMo κ qm m_state m_tape m_taped m_fault m_broken m_brokenAt m_spot m_here m_token m_value m_ends m_letters m_moments m_stepsAt (0 : Int32) (-4 : Int32) m_matrix m_sides m_tried m_answers m_rowOf m_whole m_shares m_isKept m_lanes m_lengths m_cells m_torn]) rfl rfl inX7 tyX7_ok nmX7 (by decide) lk_X7_28 rfl rfl rfl rfl (Nat.le_of_ble_eq_true rfl) dX7_begins_73 rfl (fun H locs hw => ?_)
      refine lv_iload_n hx hb dX7_begins_76 rfl (lv_at hl 1 rfl) ?_
      obtain ⟨rfl, rfl, rfl, rfl, rfl⟩ := e5_ hf
      exact r_iret C0 hw trivial dX7_begins_77
    · have hf := if_f hc17 hf
      refine lv_aload_n hx hb dX7_begins_52 rfl (lv_at hl 0 rfl) ?_
      refine r_get C0 hw 0 13 (v := .ref (qm 6)) rfl rfl inX7 (by decide) lk_X7_25 rfl dX7_begins_53 ?_
      refine lv_iload_n hx hb dX7_begins_56 rfl (lv_at hl 2 rfl) ?_
      refine lv_iconst (v := 0) hx hb dX7_begins_57 (by decide) ?_
      obtain ⟨hi18, hf⟩ := gd_s hf
      obtain ⟨w19, ew19⟩ : ∃ z : Nat → Int32, z = (upd m_stepsAt l2.toNatClampNeg (0 : Int32)) := ⟨_, rfl⟩
      have hf := lt_s_ hf w19 ew19
      refine r_iast C0 hw 6 0 rfl rfl hi18 dX7_begins_58 (ws' := List.flatten [pMo κ qm m_state m_tape m_taped m_fault m_broken m_brokenAt m_spot m_here m_token m_value m_ends m_letters m_moments w19 m_steps m_latest m_matrix m_sides m_tried m_answers m_rowOf m_whole m_shares m_isKept m_lanes m_lengths m_cells m_torn]) (by subst ew19; rfl) (fun H locs hw => ?_)
      obtain ⟨v20, ev20⟩ : ∃ z : Int32, z = (l2 + (1 : Int32)) := ⟨_, rfl⟩
      have hf := lt_s_ hf v20 ev20
      refine lv_iinc (v := v20) (lv' := [(2, .int v20), (0, .ref (qm 0)), (1, .int l1)]) hx hb dX7_begins_59 hl (k := 2) rfl (by rw [ev20]; rfl) (by decide) rfl (fun ls hl => ?_)
      refine lv_goto (tgt := 46) hx hb dX7_begins_62 (by decide) ?_
      exact ih v20 w19 H locs ls hw (lv_sub hl [1, 2, 0] rfl)  hf
set_option maxHeartbeats 4000000 in
set_option maxRecDepth 100000 in
theorem cMo_begins (l : Launch) (D : va_G) (κ : Nat → ClassId) (qm : Nat → Nat) (m_state m_tape : Nat → Int32) (m_taped m_fault m_broken m_brokenAt m_spot m_here m_token m_value : Int32) (m_ends m_letters m_moments m_stepsAt : Nat → Int32) (m_steps m_latest : Int32) (m_matrix m_sides m_tried m_answers : Nat → Int64) (m_rowOf : Nat → Int32) (m_whole : Int64) (m_shares m_isKept m_lanes m_lengths m_cells : Nat → Int32) (m_torn zr : Int32) (z1 z2 : Nat → Int32) (z3 z4 : Int32) (hf : FMo_begins m_state m_moments m_stepsAt m_steps = some (zr, z1, z2, z3, z4)) : mI_ l yX7_begins (Cond.code yX7_begins cX7_begins 3 (some .int) :: uw) ({ frames := 2, cells := 0, slots := 0, locals := 49 } : Room) D (tys0 κ) [.ref (qm 0)] (List.flatten [pMo κ qm m_state m_tape m_taped m_fault m_broken m_brokenAt m_spot m_here m_token m_value m_ends m_letters m_moments m_stepsAt m_steps m_latest m_matrix m_sides m_tried m_answers m_rowOf m_whole m_shares m_isKept m_lanes m_lengths m_cells m_torn]) nT_ zr (List.flatten [pMo κ qm m_state m_tape m_taped m_fault m_broken m_brokenAt m_spot m_here m_token m_value m_ends m_letters z1 z2 z3 z4 m_matrix m_sides m_tried m_answers m_rowOf m_whole m_shares m_isKept m_lanes m_lengths m_cells m_torn]) := by
  unfold FMo_begins at hf
  refine mI_of (by decide) (Nat.le_of_ble_eq_true rfl) ?_
  intro p e s m below meth c A ls H locs C0 hw hl
  obtain ⟨hx, hb, -, hml, hown, hts, -, -⟩ := id C0
  have hl : lv_has ls 3 [(0, .ref (qm 0))] := hl
  refine lv_aload_n hx hb dX7_begins_0 rfl (lv_at hl 0 rfl) ?_
  refine r_get C0 hw 0 14 (v := .int m_steps) rfl rfl inX7 (by decide) lk_X7_159 rfl dX7_begins_1 ?_
  refine lv_istore_n (lv' := [(1, .int m_steps), (0, .ref (qm 0))]) hx hb dX7_begins_4 rfl hl (by decide) rfl (fun ls hl => ?_)
  refine lv_iconst (v := 0) hx hb dX7_begins_5 (by decide) ?_
  refine lv_istore_n (lv' := [(2, .int (0 : Int32)), (1, .int m_steps), (0, .ref (qm 0))]) hx hb dX7_begins_6 rfl hl (by decide) rfl (fun ls hl => ?_)
  refine wMo_begins_L7 C0 qm m_state m_tape m_taped m_fault m_broken m_brokenAt m_spot m_here m_token m_value m_ends m_letters m_stepsAt m_steps m_latest m_matrix m_sides m_tried m_answers m_rowOf m_whole m_shares m_isKept m_lanes m_lengths m_cells m_torn m_steps zr z1 z2 z3 z4 _ (fun v15 w16 H locs ls hw hl  hf => ?_) 1000 (0 : Int32) m_moments H locs ls hw (lv_sub hl [2, 1, 0] rfl)  hf
  refine lv_iconst (v := 0) hx hb dX7_begins_44 (by decide) ?_
  refine lv_istore_n (lv' := [(2, .int (0 : Int32)), (0, .ref (qm 0)), (1, .int m_steps)]) hx hb dX7_begins_45 rfl hl (by decide) rfl (fun ls hl => ?_)
  exact wMo_begins_L46 C0 qm m_state m_tape m_taped m_fault m_broken m_brokenAt m_spot m_here m_token m_value m_ends m_letters w16 m_steps m_latest m_matrix m_sides m_tried m_answers m_rowOf m_whole m_shares m_isKept m_lanes m_lengths m_cells m_torn m_steps zr z1 z2 z3 z4 1000 (0 : Int32) m_stepsAt H locs ls hw (lv_sub hl [1, 2, 0] rfl)  hf
def FMo_text_L14  (k_ : Int32 → (Nat → Int32) → Option (Int32 × (Nat → Int32) × Int32 × Int32 × Int32 × Int32 × Int32 × Int32 × Int32 × Int32 × (Nat → Int32) × (Nat → Int32) × Int32 × Int32 × (Nat → Int32))) : Nat → Int32 → (Nat → Int32) → Option (Int32 × (Nat → Int32) × Int32 × Int32 × Int32 × Int32 × Int32 × Int32 × Int32 × Int32 × (Nat → Int32) × (Nat → Int32) × Int32 × Int32 × (Nat → Int32))
  | 0, _, _ => none
  | n + 1, l2, m_state =>
      if (79 : Int32) ≤ l2 then
        k_ l2 m_state
      else
        gd_ ((237 : Int32) + l2) 395 <|
        lt_ (upd m_state ((237 : Int32) + l2).toNatClampNeg (0 : Int32)) fun w3 =>
        lt_ (l2 + (1 : Int32)) fun v4 =>
        FMo_text_L14  k_ n v4 w3
def FMo_text_L41 (m_tape : Nat → Int32) (m_taped : Int32) (m_ends m_letters : Nat → Int32) (k_ : Int32 → (Nat → Int32) → Int32 → Int32 → Int32 → Int32 → Int32 → Int32 → Option (Int32 × (Nat → Int32) × Int32 × Int32 × Int32 × Int32 × Int32 × Int32 × Int32 × Int32 × (Nat → Int32) × (Nat → Int32) × Int32 × Int32 × (Nat → Int32))) : Nat → Int32 → (Nat → Int32) → Int32 → Int32 → Int32 → Int32 → Int32 → Int32 → Option (Int32 × (Nat → Int32) × Int32 × Int32 × Int32 × Int32 × Int32 × Int32 × Int32 × Int32 × (Nat → Int32) × (Nat → Int32) × Int32 × Int32 × (Nat → Int32))
  | 0, _, _, _, _, _, _, _, _ => none
  | n + 1, l1, m_state, m_broken, m_brokenAt, m_spot, m_here, m_token, m_value =>
      lt_ (fun (_ : Unit) =>
        k_ l1 m_state m_broken m_brokenAt m_spot m_here m_token m_value : Unit → Option (Int32 × (Nat → Int32) × Int32 × Int32 × Int32 × Int32 × Int32 × Int32 × Int32 × Int32 × (Nat → Int32) × (Nat → Int32) × Int32 × Int32 × (Nat → Int32))) fun j15 =>
      if m_broken = 0 then
        if m_token = 0 then
          j15 ()
        else
          b7_ (FMo_readLine m_state m_tape m_taped m_broken m_brokenAt m_spot m_here m_token m_value m_ends m_letters) fun w19 w20 w21 w22 w23 w24 w25 =>
          lt_ (l1 + (1 : Int32)) fun v28 =>
          FMo_text_L41 m_tape m_taped m_ends m_letters k_ n v28 w19 w20 w21 w22 w23 w24 w25
      else
        j15 ()
def FMo_text (m_state m_tape : Nat → Int32) (m_taped m_brokenAt m_here m_token m_value : Int32) (m_ends m_letters m_moments m_stepsAt : Nat → Int32) (m_steps m_latest : Int32) (m_isKept : Nat → Int32) : Option (Int32 × (Nat → Int32) × Int32 × Int32 × Int32 × Int32 × Int32 × Int32 × Int32 × Int32 × (Nat → Int32) × (Nat → Int32) × Int32 × Int32 × (Nat → Int32)) :=
  FMo_text_L14 (fun (v5 : Int32) (w6 : Nat → Int32) =>
      b6_ (FMo_readsOn m_tape m_taped (0 : Int32) m_brokenAt (0 : Int32) m_here m_token m_value) fun w7 w8 w9 w10 w11 w12 =>
      FMo_text_L41 m_tape m_taped m_ends m_letters (fun (v30 : Int32) (w31 : Nat → Int32) (w32 : Int32) (w33 : Int32) (w34 : Int32) (w35 : Int32) (w36 : Int32) (w37 : Int32) =>
          lt_ (fun (w38 : Int32) (w39 : Int32) =>
            if w38 ≤ 0 then
              b1_ (FMo_copies w31 (237 : Int32) (0 : Int32)) fun w41 =>
              b5_ (FMo_begins w41 m_moments m_stepsAt m_steps) fun r44 w45 w46 w47 w48 =>
              gd_ (0 : Int32) 2 <|
              lt_ (upd m_isKept (0 : Int32).toNatClampNeg (vp_nar .boolean (0 : Int32))) fun w52 =>
              gd_ (1 : Int32) 2 <|
              lt_ (upd w52 (1 : Int32).toNatClampNeg (vp_nar .boolean (0 : Int32))) fun w54 =>
              some (v30, w41, (0 : Int32), w38, w38, w39, w34, w35, w36, w37, w45, w46, w47, w48, w54)
            else
              some (((-10 : Int32) - w39), w31, (0 : Int32), w38, w38, w39, w34, w35, w36, w37, m_moments, m_stepsAt, m_steps, m_latest, m_isKept) : Int32 → Int32 → Option (Int32 × (Nat → Int32) × Int32 × Int32 × Int32 × Int32 × Int32 × Int32 × Int32 × Int32 × (Nat → Int32) × (Nat → Int32) × Int32 × Int32 × (Nat → Int32))) fun j55 =>
          if w32 = 0 then
            b1_ (FMo_isWhole w31) fun r58 =>
            if r58 = 0 then
              b2_ (FMo_fails w32 w33 w35 (6 : Int32)) fun w62 w63 =>
              j55 w62 w63
            else
              j55 w32 w33
          else
            j55 w32 w33) 1000 (0 : Int32) w6 w7 w8 w9 w10 w11 w12) 1000 (0 : Int32) m_state
set_option maxHeartbeats 4000000 in
set_option maxRecDepth 100000 in
theorem wMo_text_L14 {p : Program} {l : Launch} {e : Env} {s : State} {m : MethodId} {args : Array Value} {below : List Frame} {meth : Method} {c : Code} {A : Nat → Prop} {D : va_G} {κ : Nat → ClassId} (C0 : cx_ p s m meth c args cX7_text RX7 (some .int) 3 A) (qm : Nat → Nat) (m_tape : Nat → Int32) (m_taped m_fault m_broken m_brokenAt m_spot m_here m_token m_value : Int32) (m_ends m_letters m_moments m_stepsAt : Nat → Int32) (m_steps m_latest : Int32) (m_matrix m_sides m_tried m_answers : Nat → Int64) (m_rowOf : Nat → Int32) (m_whole : Int64) (m_shares m_isKept m_lanes m_lengths m_cells : Nat → Int32) (m_torn l1 : Int32) (zr : Int32) (z1 : Nat → Int32) (z2 z3 z4 z5 z6 z7 z8 z9 : Int32) (z10 z11 : Nat → Int32) (z12 z13 : Int32) (z14 : Nat → Int32) (k_ : Int32 → (Nat → Int32) → Option (Int32 × (Nat → Int32) × Int32 × Int32 × Int32 × Int32 × Int32 × Int32 × Int32 × Int32 × (Nat → Int32) × (Nat → Int32) × Int32 × Int32 × (Nat → Int32))) (hk_ : ∀ (l2 : Int32) (m_state : Nat → Int32) (H : Heap) (locs : List Loc) (ls : Array Slot), wd_ D (tys0 κ) A s (List.flatten [pMo κ qm m_state m_tape m_taped m_fault m_broken m_brokenAt m_spot m_here m_token m_value m_ends m_letters m_moments m_stepsAt m_steps m_latest m_matrix m_sides m_tried m_answers m_rowOf m_whole m_shares m_isKept m_lanes m_lengths m_cells m_torn]) H locs → lv_has ls 3 [(0, .ref (qm 0)), (1, .int l1)] → k_ l2 m_state = some (zr, z1, z2, z3, z4, z5, z6, z7, z8, z9, z10, z11, z12, z13, z14) → W p l e ({ frames := 5, cells := 0, slots := 0, locals := 114 } : Room) s m args below meth c H locs 0 0 (qI_ D (tys0 κ) A nT_ zr (List.flatten [pMo κ qm z1 m_tape z2 z3 z4 z5 z6 z7 z8 z9 m_ends m_letters z10 z11 z12 z13 m_matrix m_sides m_tried m_answers m_rowOf m_whole m_shares z14 m_lanes m_lengths m_cells m_torn]) below args s) (F0 m 37 ls [])) : ∀ (n : Nat) (l2 : Int32) (m_state : Nat → Int32) (H : Heap) (locs : List Loc) (ls : Array Slot), wd_ D (tys0 κ) A s (List.flatten [pMo κ qm m_state m_tape m_taped m_fault m_broken m_brokenAt m_spot m_here m_token m_value m_ends m_letters m_moments m_stepsAt m_steps m_latest m_matrix m_sides m_tried m_answers m_rowOf m_whole m_shares m_isKept m_lanes m_lengths m_cells m_torn]) H locs → lv_has ls 3 [(0, .ref (qm 0)), (1, .int l1), (2, .int l2)] → FMo_text_L14 k_ n l2 m_state = some (zr, z1, z2, z3, z4, z5, z6, z7, z8, z9, z10, z11, z12, z13, z14) → W p l e ({ frames := 5, cells := 0, slots := 0, locals := 114 } : Room) s m args below meth c H locs 0 0 (qI_ D (tys0 κ) A nT_ zr (List.flatten [pMo κ qm z1 m_tape z2 z3 z4 z5 z6 z7 z8 z9 m_ends m_letters z10 z11 z12 z13 m_matrix m_sides m_tried m_answers m_rowOf m_whole m_shares z14 m_lanes m_lengths m_cells m_torn]) below args s) (F0 m 14 ls []) := by
  obtain ⟨hx, hb, -, hml, hown, hts, -, -⟩ := id C0
  intro n
  induction n with
  | zero =>
    intro l2 m_state H locs ls hw hl  hf
    cases hf
  | succ n ih =>
    intro l2 m_state H locs ls hw hl  hf
    rw [FMo_text_L14.eq_2] at hf
    refine lv_iload_n hx hb dX7_text_14 rfl (lv_at hl 2 rfl) ?_
    refine lv_bipush (v := 79) hx hb dX7_text_15 (by decide) ?_
    refine lv_icmp_ge (tgt := 37) hx hb dX7_text_17 (by decide) (fun hc1 => ?_) (fun hc1 => ?_)
    · have hf := if_t hc1 hf
      exact hk_ l2 m_state H locs ls hw (lv_sub hl [0, 1] rfl)  hf
    · have hf := if_f hc1 hf
      refine lv_aload_n hx hb dX7_text_20 rfl (lv_at hl 0 rfl) ?_
      refine r_get C0 hw 0 0 (v := .ref (qm 1)) rfl rfl inX7 (by decide) lk_X7_7 rfl dX7_text_21 ?_
      refine lv_sipush (v := 237) hx hb dX7_text_24 (by decide) ?_
      refine lv_iload_n hx hb dX7_text_27 rfl (lv_at hl 2 rfl) ?_
      refine lv_iadd hx hb dX7_text_28 ?_
      refine lv_iconst (v := 0) hx hb dX7_text_29 (by decide) ?_
      obtain ⟨hi2, hf⟩ := gd_s hf
      obtain ⟨w3, ew3⟩ : ∃ z : Nat → Int32, z = (upd m_state ((237 : Int32) + l2).toNatClampNeg (0 : Int32)) := ⟨_, rfl⟩
      have hf := lt_s_ hf w3 ew3
      refine r_iast C0 hw 1 0 rfl rfl hi2 dX7_text_30 (ws' := List.flatten [pMo κ qm w3 m_tape m_taped m_fault m_broken m_brokenAt m_spot m_here m_token m_value m_ends m_letters m_moments m_stepsAt m_steps m_latest m_matrix m_sides m_tried m_answers m_rowOf m_whole m_shares m_isKept m_lanes m_lengths m_cells m_torn]) (by subst ew3; rfl) (fun H locs hw => ?_)
      obtain ⟨v4, ev4⟩ : ∃ z : Int32, z = (l2 + (1 : Int32)) := ⟨_, rfl⟩
      have hf := lt_s_ hf v4 ev4
      refine lv_iinc (v := v4) (lv' := [(2, .int v4), (0, .ref (qm 0)), (1, .int l1)]) hx hb dX7_text_31 hl (k := 2) rfl (by rw [ev4]; rfl) (by decide) rfl (fun ls hl => ?_)
      refine lv_goto (tgt := 14) hx hb dX7_text_34 (by decide) ?_
      exact ih v4 w3 H locs ls hw (lv_sub hl [1, 2, 0] rfl)  hf
set_option maxHeartbeats 4000000 in
set_option maxRecDepth 100000 in
theorem wMo_text_L41 {p : Program} {l : Launch} {e : Env} {s : State} {m : MethodId} {args : Array Value} {below : List Frame} {meth : Method} {c : Code} {A : Nat → Prop} {D : va_G} {κ : Nat → ClassId} (C0 : cx_ p s m meth c args cX7_text RX7 (some .int) 3 A) (qm : Nat → Nat) (m_tape : Nat → Int32) (m_taped m_fault : Int32) (m_ends m_letters m_moments m_stepsAt : Nat → Int32) (m_steps m_latest : Int32) (m_matrix m_sides m_tried m_answers : Nat → Int64) (m_rowOf : Nat → Int32) (m_whole : Int64) (m_shares m_isKept m_lanes m_lengths m_cells : Nat → Int32) (m_torn : Int32) (zr : Int32) (z1 : Nat → Int32) (z2 z3 z4 z5 z6 z7 z8 z9 : Int32) (z10 z11 : Nat → Int32) (z12 z13 : Int32) (z14 : Nat → Int32) (k_ : Int32 → (Nat → Int32) → Int32 → Int32 → Int32 → Int32 → Int32 → Int32 → Option (Int32 × (Nat → Int32) × Int32 × Int32 × Int32 × Int32 × Int32 × Int32 × Int32 × Int32 × (Nat → Int32) × (Nat → Int32) × Int32 × Int32 × (Nat → Int32))) (hk_ : ∀ (l1 : Int32) (m_state : Nat → Int32) (m_broken : Int32) (m_brokenAt : Int32) (m_spot : Int32) (m_here : Int32) (m_token : Int32) (m_value : Int32) (H : Heap) (locs : List Loc) (ls : Array Slot), wd_ D (tys0 κ) A s (List.flatten [pMo κ qm m_state m_tape m_taped m_fault m_broken m_brokenAt m_spot m_here m_token m_value m_ends m_letters m_moments m_stepsAt m_steps m_latest m_matrix m_sides m_tried m_answers m_rowOf m_whole m_shares m_isKept m_lanes m_lengths m_cells m_torn]) H locs → lv_has ls 3 [(0, .ref (qm 0)), (1, .int l1)] → k_ l1 m_state m_broken m_brokenAt m_spot m_here m_token m_value = some (zr, z1, z2, z3, z4, z5, z6, z7, z8, z9, z10, z11, z12, z13, z14) → W p l e ({ frames := 5, cells := 0, slots := 0, locals := 114 } : Room) s m args below meth c H locs 0 0 (qI_ D (tys0 κ) A nT_ zr (List.flatten [pMo κ qm z1 m_tape z2 z3 z4 z5 z6 z7 z8 z9 m_ends m_letters z10 z11 z12 z13 m_matrix m_sides m_tried m_answers m_rowOf m_whole m_shares z14 m_lanes m_lengths m_cells m_torn]) below args s) (F0 m 65 ls [])) : ∀ (n : Nat) (l1 : Int32) (m_state : Nat → Int32) (m_broken : Int32) (m_brokenAt : Int32) (m_spot : Int32) (m_here : Int32) (m_token : Int32) (m_value : Int32) (H : Heap) (locs : List Loc) (ls : Array Slot), wd_ D (tys0 κ) A s (List.flatten [pMo κ qm m_state m_tape m_taped m_fault m_broken m_brokenAt m_spot m_here m_token m_value m_ends m_letters m_moments m_stepsAt m_steps m_latest m_matrix m_sides m_tried m_answers m_rowOf m_whole m_shares m_isKept m_lanes m_lengths m_cells m_torn]) H locs → lv_has ls 3 [(0, .ref (qm 0)), (1, .int l1)] → FMo_text_L41 m_tape m_taped m_ends m_letters k_ n l1 m_state m_broken m_brokenAt m_spot m_here m_token m_value = some (zr, z1, z2, z3, z4, z5, z6, z7, z8, z9, z10, z11, z12, z13, z14) → W p l e ({ frames := 5, cells := 0, slots := 0, locals := 114 } : Room) s m args below meth c H locs 0 0 (qI_ D (tys0 κ) A nT_ zr (List.flatten [pMo κ qm z1 m_tape z2 z3 z4 z5 z6 z7 z8 z9 m_ends m_letters z10 z11 z12 z13 m_matrix m_sides m_tried m_answers m_rowOf m_whole m_shares z14 m_lanes m_lengths m_cells m_torn]) below args s) (F0 m 41 ls []) := by
  obtain ⟨hx, hb, -, hml, hown, hts, -, -⟩ := id C0
  intro n
  induction n with
  | zero =>
    intro l1 m_state m_broken m_brokenAt m_spot m_here m_token m_value H locs ls hw hl  hf
    cases hf
  | succ n ih =>
    intro l1 m_state m_broken m_brokenAt m_spot m_here m_token m_value H locs ls hw hl  hf
    rw [FMo_text_L41.eq_2] at hf
    refine lv_aload_n hx hb dX7_text_41 rfl (lv_at hl 0 rfl) ?_
    refine r_get C0 hw 0 4 (v := .int m_broken) rfl rfl inX7 (by decide) lk_X7_73 rfl dX7_text_42 ?_
    obtain ⟨j15, ej15, hf⟩ := lt_e hf
    have hj16 : ∀  (H : Heap) (locs : List Loc) (ls : Array Slot), wd_ D (tys0 κ) A s (List.flatten [pMo κ qm m_state m_tape m_taped m_fault m_broken m_brokenAt m_spot m_here m_token m_value m_ends m_letters m_moments m_stepsAt m_steps m_latest m_matrix m_sides m_tried m_answers m_rowOf m_whole m_shares m_isKept m_lanes m_lengths m_cells m_torn]) H locs → lv_has ls 3 [(0, .ref (qm 0)), (1, .int l1)] → j15 () = some (zr, z1, z2, z3, z4, z5, z6, z7, z8, z9, z10, z11, z12, z13, z14) → W p l e ({ frames := 5, cells := 0, slots := 0, locals := 114 } : Room) s m args below meth c H locs 0 0 (qI_ D (tys0 κ) A nT_ zr (List.flatten [pMo κ qm z1 m_tape z2 z3 z4 z5 z6 z7 z8 z9 m_ends m_letters z10 z11 z12 z13 m_matrix m_sides m_tried m_answers m_rowOf m_whole m_shares z14 m_lanes m_lengths m_cells m_torn]) below args s) (F0 m 65 ls []) := by
      intro  H locs ls hw hl  hf
      have hf : (k_ l1 m_state m_broken m_brokenAt m_spot m_here m_token m_value) = some (zr, z1, z2, z3, z4, z5, z6, z7, z8, z9, z10, z11, z12, z13, z14) := by rw [ej15] at hf; exact hf
      exact hk_ l1 m_state m_broken m_brokenAt m_spot m_here m_token m_value H locs ls hw (lv_sub hl [0, 1] rfl)  hf
    refine lv_if_ne (tgt := 65) hx hb dX7_text_45 (by decide) (fun hc17 => ?_) (fun hc17 => ?_)
    · have hf := if_f hc17 hf
      exact hj16  H locs ls hw (lv_sub hl [0, 1] rfl)  hf
    · have hf := if_t hc17 hf
      refine lv_aload_n hx hb dX7_text_48 rfl (lv_at hl 0 rfl) ?_
      refine r_get C0 hw 0 8 (v := .int m_token) rfl rfl inX7 (by decide) lk_X7_82 rfl dX7_text_49 ?_
      refine lv_if_eq (tgt := 65) hx hb dX7_text_52 (by decide) (fun hc18 => ?_) (fun hc18 => ?_)
      · have hf := if_t hc18 hf
        exact hj16  H locs ls hw (lv_sub hl [0, 1] rfl)  hf
      · have hf := if_f hc18 hf
        refine lv_aload_n hx hb dX7_text_55 rfl (lv_at hl 0 rfl) ?_
        obtain ⟨w19, w20, w21, w22, w23, w24, w25, hk26, hf⟩ := b7_s hf
        refine rv_v (vq := (RX7, TX7, 28)) (As := []) (rest := []) (bs' := [pMo κ qm w19 m_tape m_taped m_fault w20 w21 w22 w23 w24 w25 m_ends m_letters m_moments m_stepsAt m_steps m_latest m_matrix m_sides m_tried m_answers m_rowOf m_whole m_shares m_isKept m_lanes m_lengths m_cells m_torn]) C0 hw (cMo_readLine l D κ qm m_state m_tape m_taped m_fault m_broken m_brokenAt m_spot m_here m_token m_value m_ends m_letters m_moments m_stepsAt m_steps m_latest m_matrix m_sides m_tried m_answers m_rowOf m_whole m_shares m_isKept m_lanes m_lengths m_cells m_torn w19 w20 w21 w22 w23 w24 w25 hk26) cv_RX7_135 ⟨rfl, rfl, Nat.le_of_ble_eq_true rfl, Nat.le_of_ble_eq_true rfl⟩ ⟨Nat.zero_le _, Nat.zero_le _⟩ [0] [] [0] rfl rfl rfl rfl (by decide) rfl rfl rfl rfl rfl hl.1 (by simp only [List.map, List.sum_cons, List.sum_nil, Value.category]; decide) dX7_text_56 (fun H locs hw => ?_)
        obtain ⟨v28, ev28⟩ : ∃ z : Int32, z = (l1 + (1 : Int32)) := ⟨_, rfl⟩
        have hf := lt_s_ hf v28 ev28
        refine lv_iinc (v := v28) (lv' := [(1, .int v28), (0, .ref (qm 0))]) hx hb dX7_text_59 hl (k := 1) rfl (by rw [ev28]; rfl) (by decide) rfl (fun ls hl => ?_)
        refine lv_goto (tgt := 41) hx hb dX7_text_62 (by decide) ?_
        exact ih v28 w19 w20 w21 w22 w23 w24 w25 H locs ls hw (lv_sub hl [1, 0] rfl)  hf
set_option maxHeartbeats 4000000 in
set_option maxRecDepth 100000 in
theorem cMo_text (l : Launch) (D : va_G) (κ : Nat → ClassId) (qm : Nat → Nat) (m_state m_tape : Nat → Int32) (m_taped m_fault m_broken m_brokenAt m_spot m_here m_token m_value : Int32) (m_ends m_letters m_moments m_stepsAt : Nat → Int32) (m_steps m_latest : Int32) (m_matrix m_sides m_tried m_answers : Nat → Int64) (m_rowOf : Nat → Int32) (m_whole : Int64) (m_shares m_isKept m_lanes m_lengths m_cells : Nat → Int32) (m_torn zr : Int32) (z1 : Nat → Int32) (z2 z3 z4 z5 z6 z7 z8 z9 : Int32) (z10 z11 : Nat → Int32) (z12 z13 : Int32) (z14 : Nat → Int32) (hf : FMo_text m_state m_tape m_taped m_brokenAt m_here m_token m_value m_ends m_letters m_moments m_stepsAt m_steps m_latest m_isKept = some (zr, z1, z2, z3, z4, z5, z6, z7, z8, z9, z10, z11, z12, z13, z14)) : mI_ l yX7_text (Cond.code yX7_text cX7_text 3 (some .int) :: uw) ({ frames := 5, cells := 0, slots := 0, locals := 114 } : Room) D (tys0 κ) [.ref (qm 0)] (List.flatten [pMo κ qm m_state m_tape m_taped m_fault m_broken m_brokenAt m_spot m_here m_token m_value m_ends m_letters m_moments m_stepsAt m_steps m_latest m_matrix m_sides m_tried m_answers m_rowOf m_whole m_shares m_isKept m_lanes m_lengths m_cells m_torn]) nT_ zr (List.flatten [pMo κ qm z1 m_tape z2 z3 z4 z5 z6 z7 z8 z9 m_ends m_letters z10 z11 z12 z13 m_matrix m_sides m_tried m_answers m_rowOf m_whole m_shares z14 m_lanes m_lengths m_cells m_torn]) := by
  unfold FMo_text at hf
  refine mI_of (by decide) (Nat.le_of_ble_eq_true rfl) ?_
  intro p e s m below meth c A ls H locs C0 hw hl
  obtain ⟨hx, hb, -, hml, hown, hts, -, -⟩ := id C0
  have hl : lv_has ls 3 [(0, .ref (qm 0))] := hl
  refine lv_aload_n hx hb dX7_text_0 rfl (lv_at hl 0 rfl) ?_
  refine lv_iconst (v := 0) hx hb dX7_text_1 (by decide) ?_
  refine r_put C0 hw 0 4 (v := .int (0 : Int32)) (ws' := List.flatten [pMo κ qm m_state m_tape m_taped m_fault (0 : Int32) m_brokenAt m_spot m_here m_token m_value m_ends m_letters m_moments m_stepsAt m_steps m_latest m_matrix m_sides m_tried m_answers m_rowOf m_whole m_shares m_isKept m_lanes m_lengths m_cells m_torn]) rfl rfl inX7 tyX7_ok nmX7 (by decide) lk_X7_73 rfl rfl rfl rfl (Nat.le_of_ble_eq_true rfl) dX7_text_2 rfl (fun H locs hw => ?_)
  refine lv_aload_n hx hb dX7_text_5 rfl (lv_at hl 0 rfl) ?_
  refine lv_iconst (v := 0) hx hb dX7_text_6 (by decide) ?_
  refine r_put C0 hw 0 6 (v := .int (0 : Int32)) (ws' := List.flatten [pMo κ qm m_state m_tape m_taped m_fault (0 : Int32) m_brokenAt (0 : Int32) m_here m_token m_value m_ends m_letters m_moments m_stepsAt m_steps m_latest m_matrix m_sides m_tried m_answers m_rowOf m_whole m_shares m_isKept m_lanes m_lengths m_cells m_torn]) rfl rfl inX7 tyX7_ok nmX7 (by decide) lk_X7_85 rfl rfl rfl rfl (Nat.le_of_ble_eq_true rfl) dX7_text_7 rfl (fun H locs hw => ?_)
  refine lv_iconst (v := 0) hx hb dX7_text_10 (by decide) ?_
  refine lv_istore_n (lv' := [(1, .int (0 : Int32)), (0, .ref (qm 0))]) hx hb dX7_text_11 rfl hl (by decide) rfl (fun ls hl => ?_)
  refine lv_iconst (v := 0) hx hb dX7_text_12 (by decide) ?_
  refine lv_istore_n (lv' := [(2, .int (0 : Int32)), (1, .int (0 : Int32)), (0, .ref (qm 0))]) hx hb dX7_text_13 rfl hl (by decide) rfl (fun ls hl => ?_)
  refine wMo_text_L14 C0 qm m_tape m_taped m_fault (0 : Int32) m_brokenAt (0 : Int32) m_here m_token m_value m_ends m_letters m_moments m_stepsAt m_steps m_latest m_matrix m_sides m_tried m_answers m_rowOf m_whole m_shares m_isKept m_lanes m_lengths m_cells m_torn (0 : Int32) zr z1 z2 z3 z4 z5 z6 z7 z8 z9 z10 z11 z12 z13 z14 _ (fun v5 w6 H locs ls hw hl  hf => ?_) 1000 (0 : Int32) m_state H locs ls hw (lv_sub hl [2, 1, 0] rfl)  hf
  refine lv_aload_n hx hb dX7_text_37 rfl (lv_at hl 0 rfl) ?_
  obtain ⟨w7, w8, w9, w10, w11, w12, hk13, hf⟩ := b6_s hf
  refine rv_v (vq := (RX7, TX7, 28)) (As := []) (rest := []) (bs' := [pMo κ qm w6 m_tape m_taped m_fault w7 w8 w9 w10 w11 w12 m_ends m_letters m_moments m_stepsAt m_steps m_latest m_matrix m_sides m_tried m_answers m_rowOf m_whole m_shares m_isKept m_lanes m_lengths m_cells m_torn]) C0 hw (cMo_readsOn l D κ qm w6 m_tape m_taped m_fault (0 : Int32) m_brokenAt (0 : Int32) m_here m_token m_value m_ends m_letters m_moments m_stepsAt m_steps m_latest m_matrix m_sides m_tried m_answers m_rowOf m_whole m_shares m_isKept m_lanes m_lengths m_cells m_torn w7 w8 w9 w10 w11 w12 hk13) cv_RX7_107 ⟨rfl, rfl, Nat.le_of_ble_eq_true rfl, Nat.le_of_ble_eq_true rfl⟩ ⟨Nat.zero_le _, Nat.zero_le _⟩ [0] [] [0] rfl rfl rfl rfl (by decide) rfl rfl rfl rfl rfl hl.1 (by simp only [List.map, List.sum_cons, List.sum_nil, Value.category]; decide) dX7_text_38 (fun H locs hw => ?_)
  refine wMo_text_L41 C0 qm m_tape m_taped m_fault m_ends m_letters m_moments m_stepsAt m_steps m_latest m_matrix m_sides m_tried m_answers m_rowOf m_whole m_shares m_isKept m_lanes m_lengths m_cells m_torn zr z1 z2 z3 z4 z5 z6 z7 z8 z9 z10 z11 z12 z13 z14 _ (fun v30 w31 w32 w33 w34 w35 w36 w37 H locs ls hw hl  hf => ?_) 1000 (0 : Int32) w6 w7 w8 w9 w10 w11 w12 H locs ls hw (lv_sub hl [0, 1] rfl)  hf
  refine lv_aload_n hx hb dX7_text_65 rfl (lv_at hl 0 rfl) ?_
  refine r_get C0 hw 0 4 (v := .int w32) rfl rfl inX7 (by decide) lk_X7_73 rfl dX7_text_66 ?_
  obtain ⟨j55, ej55, hf⟩ := lt_e hf
  have hj56 : ∀ (w38 : Int32) (w39 : Int32) (H : Heap) (locs : List Loc) (ls : Array Slot), wd_ D (tys0 κ) A s (List.flatten [pMo κ qm w31 m_tape m_taped m_fault w38 w39 w34 w35 w36 w37 m_ends m_letters m_moments m_stepsAt m_steps m_latest m_matrix m_sides m_tried m_answers m_rowOf m_whole m_shares m_isKept m_lanes m_lengths m_cells m_torn]) H locs → lv_has ls 3 [(0, .ref (qm 0)), (1, .int v30)] → j55 w38 w39 = some (zr, z1, z2, z3, z4, z5, z6, z7, z8, z9, z10, z11, z12, z13, z14) → W p l e ({ frames := 5, cells := 0, slots := 0, locals := 114 } : Room) s m ([.ref (qm 0)] : List Value).toArray below meth c H locs 0 0 (qI_ D (tys0 κ) A nT_ zr (List.flatten [pMo κ qm z1 m_tape z2 z3 z4 z5 z6 z7 z8 z9 m_ends m_letters z10 z11 z12 z13 m_matrix m_sides m_tried m_answers m_rowOf m_whole m_shares z14 m_lanes m_lengths m_cells m_torn]) below ([.ref (qm 0)] : List Value).toArray s) (F0 m 85 ls []) := by
    intro w38 w39 H locs ls hw hl  hf
    have hf : (if w38 ≤ 0 then b1_ (FMo_copies w31 (237 : Int32) (0 : Int32)) fun w41 => b5_ (FMo_begins w41 m_moments m_stepsAt m_steps) fun r44 w45 w46 w47 w48 => gd_ (0 : Int32) 2 <| lt_ (upd m_isKept (0 : Int32).toNatClampNeg (vp_nar .boolean (0 : Int32))) fun w52 => gd_ (1 : Int32) 2 <| lt_ (upd w52 (1 : Int32).toNatClampNeg (vp_nar .boolean (0 : Int32))) fun w54 => some (v30, w41, (0 : Int32), w38, w38, w39, w34, w35, w36, w37, w45, w46, w47, w48, w54) else some (((-10 : Int32) - w39), w31, (0 : Int32), w38, w38, w39, w34, w35, w36, w37, m_moments, m_stepsAt, m_steps, m_latest, m_isKept)) = some (zr, z1, z2, z3, z4, z5, z6, z7, z8, z9, z10, z11, z12, z13, z14) := by rw [ej55] at hf; exact hf
    refine lv_aload_n hx hb dX7_text_85 rfl (lv_at hl 0 rfl) ?_
    refine lv_iconst (v := 0) hx hb dX7_text_86 (by decide) ?_
    refine r_put C0 hw 0 2 (v := .int (0 : Int32)) (ws' := List.flatten [pMo κ qm w31 m_tape (0 : Int32) m_fault w38 w39 w34 w35 w36 w37 m_ends m_letters m_moments m_stepsAt m_steps m_latest m_matrix m_sides m_tried m_answers m_rowOf m_whole m_shares m_isKept m_lanes m_lengths m_cells m_torn]) rfl rfl inX7 tyX7_ok nmX7 (by decide) lk_X7_70 rfl rfl rfl rfl (Nat.le_of_ble_eq_true rfl) dX7_text_87 rfl (fun H locs hw => ?_)
    refine lv_aload_n hx hb dX7_text_90 rfl (lv_at hl 0 rfl) ?_
    refine lv_aload_n hx hb dX7_text_91 rfl (lv_at hl 0 rfl) ?_
    refine r_get C0 hw 0 4 (v := .int w38) rfl rfl inX7 (by decide) lk_X7_73 rfl dX7_text_92 ?_
    refine r_put C0 hw 0 3 (v := .int w38) (ws' := List.flatten [pMo κ qm w31 m_tape (0 : Int32) w38 w38 w39 w34 w35 w36 w37 m_ends m_letters m_moments m_stepsAt m_steps m_latest m_matrix m_sides m_tried m_answers m_rowOf m_whole m_shares m_isKept m_lanes m_lengths m_cells m_torn]) rfl rfl inX7 tyX7_ok nmX7 (by decide) lk_X7_142 rfl rfl rfl rfl (Nat.le_of_ble_eq_true rfl) dX7_text_95 rfl (fun H locs hw => ?_)
    refine lv_aload_n hx hb dX7_text_98 rfl (lv_at hl 0 rfl) ?_
    refine r_get C0 hw 0 4 (v := .int w38) rfl rfl inX7 (by decide) lk_X7_73 rfl dX7_text_99 ?_
    refine lv_if_le (tgt := 113) hx hb dX7_text_102 (by decide) (fun hc40 => ?_) (fun hc40 => ?_)
    · have hf := if_t hc40 hf
      refine lv_aload_n hx hb dX7_text_113 rfl (lv_at hl 0 rfl) ?_
      refine lv_sipush (v := 237) hx hb dX7_text_114 (by decide) ?_
      refine lv_iconst (v := 0) hx hb dX7_text_117 (by decide) ?_
      obtain ⟨w41, hk42, hf⟩ := b1_s hf
      refine rv_v (vq := (RX7, TX7, 28)) (As := [.int (237 : Int32), .int (0 : Int32)]) (rest := []) (bs' := [pMo κ qm w41 m_tape (0 : Int32) w38 w38 w39 w34 w35 w36 w37 m_ends m_letters m_moments m_stepsAt m_steps m_latest m_matrix m_sides m_tried m_answers m_rowOf m_whole m_shares m_isKept m_lanes m_lengths m_cells m_torn]) C0 hw (cMo_copies l D κ qm w31 m_tape (0 : Int32) w38 w38 w39 w34 w35 w36 w37 m_ends m_letters m_moments m_stepsAt m_steps m_latest m_matrix m_sides m_tried m_answers m_rowOf m_whole m_shares m_isKept m_lanes m_lengths m_cells m_torn (237 : Int32) (0 : Int32) w41 hk42) cv_RX7_145 ⟨rfl, rfl, Nat.le_of_ble_eq_true rfl, Nat.le_of_ble_eq_true rfl⟩ ⟨Nat.zero_le _, Nat.zero_le _⟩ [0] [] [0] rfl rfl rfl rfl (by decide) rfl rfl rfl rfl rfl hl.1 (by simp only [List.map, List.sum_cons, List.sum_nil, Value.category]; decide) dX7_text_118 (fun H locs hw => ?_)
      refine lv_aload_n hx hb dX7_text_121 rfl (lv_at hl 0 rfl) ?_
      obtain ⟨r44, w45, w46, w47, w48, hk49, hf⟩ := b5_s hf
      refine rv_i (vq := (RX7, TX7, 28)) (As := []) (rest := []) (bs' := [pMo κ qm w41 m_tape (0 : Int32) w38 w38 w39 w34 w35 w36 w37 m_ends m_letters w45 w46 w47 w48 m_matrix m_sides m_tried m_answers m_rowOf m_whole m_shares m_isKept m_lanes m_lengths m_cells m_torn]) C0 hw (cMo_begins l D κ qm w41 m_tape (0 : Int32) w38 w38 w39 w34 w35 w36 w37 m_ends m_letters m_moments m_stepsAt m_steps m_latest m_matrix m_sides m_tried m_answers m_rowOf m_whole m_shares m_isKept m_lanes m_lengths m_cells m_torn r44 w45 w46 w47 w48 hk49) cv_RX7_149 ⟨rfl, rfl, Nat.le_of_ble_eq_true rfl, Nat.le_of_ble_eq_true rfl⟩ ⟨Nat.zero_le _, Nat.zero_le _⟩ [0] [] [0] rfl rfl rfl rfl (by decide) rfl rfl rfl rfl rfl hl.1 (by simp only [List.map, List.sum_cons, List.sum_nil, Value.category]; decide) dX7_text_122 (fun H locs hw hn50 => ?_)
      refine lv_pop hx hb dX7_text_125 rfl ?_
      refine lv_aload_n hx hb dX7_text_126 rfl (lv_at hl 0 rfl) ?_
      refine r_get C0 hw 0 23 (v := .ref (qm 13)) rfl rfl inX7 (by decide) lk_X7_51 rfl dX7_text_127 ?_
      refine lv_iconst (v := 0) hx hb dX7_text_130 (by decide) ?_
      refine lv_iconst (v := 0) hx hb dX7_text_131 (by decide) ?_
      obtain ⟨hi51, hf⟩ := gd_s hf
      obtain ⟨w52, ew52⟩ : ∃ z : Nat → Int32, z = (upd m_isKept (0 : Int32).toNatClampNeg (vp_nar .boolean (0 : Int32))) := ⟨_, rfl⟩
      have hf := lt_s_ hf w52 ew52
      refine r_zast C0 hw 13 1 rfl rfl hi51 dX7_text_132 (ws' := List.flatten [pMo κ qm w41 m_tape (0 : Int32) w38 w38 w39 w34 w35 w36 w37 m_ends m_letters w45 w46 w47 w48 m_matrix m_sides m_tried m_answers m_rowOf m_whole m_shares w52 m_lanes m_lengths m_cells m_torn]) (by subst ew52; rfl) (fun H locs hw => ?_)
      refine lv_aload_n hx hb dX7_text_133 rfl (lv_at hl 0 rfl) ?_
      refine r_get C0 hw 0 23 (v := .ref (qm 13)) rfl rfl inX7 (by decide) lk_X7_51 rfl dX7_text_134 ?_
      refine lv_iconst (v := 1) hx hb dX7_text_137 (by decide) ?_
      refine lv_iconst (v := 0) hx hb dX7_text_138 (by decide) ?_
      obtain ⟨hi53, hf⟩ := gd_s hf
      obtain ⟨w54, ew54⟩ : ∃ z : Nat → Int32, z = (upd w52 (1 : Int32).toNatClampNeg (vp_nar .boolean (0 : Int32))) := ⟨_, rfl⟩
      have hf := lt_s_ hf w54 ew54
      refine r_zast C0 hw 13 1 rfl rfl hi53 dX7_text_139 (ws' := List.flatten [pMo κ qm w41 m_tape (0 : Int32) w38 w38 w39 w34 w35 w36 w37 m_ends m_letters w45 w46 w47 w48 m_matrix m_sides m_tried m_answers m_rowOf m_whole m_shares w54 m_lanes m_lengths m_cells m_torn]) (by subst ew54; rfl) (fun H locs hw => ?_)
      refine lv_iload_n hx hb dX7_text_140 rfl (lv_at hl 1 rfl) ?_
      obtain ⟨rfl, rfl, rfl, rfl, rfl, rfl, rfl, rfl, rfl, rfl, rfl, rfl, rfl, rfl, rfl⟩ := e15_ hf
      exact r_iret C0 hw trivial dX7_text_141
    · have hf := if_f hc40 hf
      refine lv_bipush (v := -10) hx hb dX7_text_105 (by decide) ?_
      refine lv_aload_n hx hb dX7_text_107 rfl (lv_at hl 0 rfl) ?_
      refine r_get C0 hw 0 5 (v := .int w39) rfl rfl inX7 (by decide) lk_X7_79 rfl dX7_text_108 ?_
      refine lv_isub hx hb dX7_text_111 ?_
      obtain ⟨rfl, rfl, rfl, rfl, rfl, rfl, rfl, rfl, rfl, rfl, rfl, rfl, rfl, rfl, rfl⟩ := e15_ hf
      exact r_iret C0 hw trivial dX7_text_112
  refine lv_if_ne (tgt := 85) hx hb dX7_text_69 (by decide) (fun hc57 => ?_) (fun hc57 => ?_)
  · have hf := if_f hc57 hf
    exact hj56 w32 w33 H locs ls hw (lv_sub hl [0, 1] rfl)  hf
  · have hf := if_t hc57 hf
    refine lv_aload_n hx hb dX7_text_72 rfl (lv_at hl 0 rfl) ?_
    obtain ⟨r58, hk59, hf⟩ := b1_s hf
    refine rv_i (vq := (RX7, TX7, 28)) (As := []) (rest := []) (bs' := [pMo κ qm w31 m_tape m_taped m_fault w32 w33 w34 w35 w36 w37 m_ends m_letters m_moments m_stepsAt m_steps m_latest m_matrix m_sides m_tried m_answers m_rowOf m_whole m_shares m_isKept m_lanes m_lengths m_cells m_torn]) C0 hw (cMo_isWhole l D κ qm w31 m_tape m_taped m_fault w32 w33 w34 w35 w36 w37 m_ends m_letters m_moments m_stepsAt m_steps m_latest m_matrix m_sides m_tried m_answers m_rowOf m_whole m_shares m_isKept m_lanes m_lengths m_cells m_torn r58 hk59) cv_RX7_138 ⟨rfl, rfl, Nat.le_of_ble_eq_true rfl, Nat.le_of_ble_eq_true rfl⟩ ⟨Nat.zero_le _, Nat.zero_le _⟩ [0] [] [0] rfl rfl rfl rfl (by decide) rfl rfl rfl rfl rfl hl.1 (by simp only [List.map, List.sum_cons, List.sum_nil, Value.category]; decide) dX7_text_73 (fun H locs hw hn60 => ?_)
    refine lv_if_ne (tgt := 85) hx hb dX7_text_76 (by decide) (fun hc61 => ?_) (fun hc61 => ?_)
    · have hf := if_f hc61 hf
      exact hj56 w32 w33 H locs ls hw (lv_sub hl [0, 1] rfl)  hf
    · have hf := if_t hc61 hf
      refine lv_aload_n hx hb dX7_text_79 rfl (lv_at hl 0 rfl) ?_
      refine lv_bipush (v := 6) hx hb dX7_text_80 (by decide) ?_
      obtain ⟨w62, w63, hk64, hf⟩ := b2_s hf
      refine rv_v (vq := (RX7, TX7, 28)) (As := [.int (6 : Int32)]) (rest := []) (bs' := [pMo κ qm w31 m_tape m_taped m_fault w62 w63 w34 w35 w36 w37 m_ends m_letters m_moments m_stepsAt m_steps m_latest m_matrix m_sides m_tried m_answers m_rowOf m_whole m_shares m_isKept m_lanes m_lengths m_cells m_torn]) C0 hw (cMo_fails l D κ qm w31 m_tape m_taped m_fault w32 w33 w34 w35 w36 w37 m_ends m_letters m_moments m_stepsAt m_steps m_latest m_matrix m_sides m_tried m_answers m_rowOf m_whole m_shares m_isKept m_lanes m_lengths m_cells m_torn (6 : Int32) w62 w63 hk64) cv_RX7_103 ⟨rfl, rfl, Nat.le_of_ble_eq_true rfl, Nat.le_of_ble_eq_true rfl⟩ ⟨Nat.zero_le _, Nat.zero_le _⟩ [0] [] [0] rfl rfl rfl rfl (by decide) rfl rfl rfl rfl rfl hl.1 (by simp only [List.map, List.sum_cons, List.sum_nil, Value.category]; decide) dX7_text_82 (fun H locs hw => ?_)
      exact hj56 w62 w63 H locs ls hw (lv_sub hl [0, 1] rfl)  hf
