theorem lj_RJ0_38 : Cond.fieldLink RJ0 38 "java/lang/String" "COMPACT_STRINGS" "Z" ∈ uw := uw_2 (List.mem_of_getElem? (i := 74) rfl) rfl
theorem lj_RJ0_15 : Cond.fieldLink RJ0 15 "java/lang/String" "coder" "B" ∈ uw := uw_5 (List.mem_of_getElem? (i := 171) rfl) rfl
theorem lj_RJ0_9 : Cond.fieldLink RJ0 9 "java/lang/String" "value" "[B" ∈ uw := uw_5 (List.mem_of_getElem? (i := 170) rfl) rfl
theorem lj_RJ0_1053 : Cond.fieldLink RJ0 1053 "jdk/internal/util/Preconditions" "SIOOBE_FORMATTER" "Ljava/util/function/BiFunction;" ∈ uw := uw_2 (List.mem_of_getElem? (i := 90) rfl) rfl
theorem hd_J0_coder_7d493 : yJ0_coder_7d493.cls = "java/lang/String" ∧ yJ0_coder_7d493.cls ≠ "java/lang/invoke/MethodHandle" ∧ yJ0_coder_7d493.cls ≠ "java/lang/invoke/VarHandle" ∧ (parseMethodDescriptor yJ0_coder_7d493.desc).map (fun d => d.parameters.length) = some 0 := by decide +kernel
theorem cv_RJ0_335 : cv_ RJ0 335 yJ0_coder_7d493 "java/lang/String" cJ0_coder_7d493 1 (some .byte) 0 := ⟨uw_2 (List.mem_of_getElem? (i := 70) rfl) rfl, uw_2 (List.mem_of_getElem? (i := 71) rfl) rfl, uw_2 (List.mem_of_getElem? (i := 72) rfl) rfl, uw_1 (List.mem_of_getElem? (i := 9) rfl) rfl, uw_2 (List.mem_of_getElem? (i := 73) rfl) rfl, hd_J0_coder_7d493⟩
theorem hs_J3_checkIndex_8e157 : yJ3_checkIndex_8e157.cls ≠ "java/lang/invoke/MethodHandle" ∧ yJ3_checkIndex_8e157.cls ≠ "java/lang/invoke/VarHandle" ∧ (parseMethodDescriptor yJ3_checkIndex_8e157.desc).map (fun d => d.parameters.length) = some 3 := by decide +kernel
theorem cs_RJ0_1059 : cs_ RJ0 1059 yJ3_checkIndex_8e157 cJ3_checkIndex_8e157 3 (some .int) 3 := ⟨uw_2 (List.mem_of_getElem? (i := 92) rfl) rfl, uw_2 (List.mem_of_getElem? (i := 93) rfl) rfl, uw_1 (List.mem_of_getElem? (i := 11) rfl) rfl, uw_2 (List.mem_of_getElem? (i := 94) rfl) rfl, hs_J3_checkIndex_8e157⟩
theorem hs_J0_checkIndex_df160 : yJ0_checkIndex_df160.cls ≠ "java/lang/invoke/MethodHandle" ∧ yJ0_checkIndex_df160.cls ≠ "java/lang/invoke/VarHandle" ∧ (parseMethodDescriptor yJ0_checkIndex_df160.desc).map (fun d => d.parameters.length) = some 2 := by decide +kernel
theorem cs_RJ1_9 : cs_ RJ1 9 yJ0_checkIndex_df160 cJ0_checkIndex_df160 2 none 2 := ⟨uw_2 (List.mem_of_getElem? (i := 87) rfl) rfl, uw_2 (List.mem_of_getElem? (i := 88) rfl) rfl, uw_1 (List.mem_of_getElem? (i := 9) rfl) rfl, uw_2 (List.mem_of_getElem? (i := 89) rfl) rfl, hs_J0_checkIndex_df160⟩
theorem hd_J0_isLatin1_aae02 : yJ0_isLatin1_aae02.cls = "java/lang/String" ∧ yJ0_isLatin1_aae02.cls ≠ "java/lang/invoke/MethodHandle" ∧ yJ0_isLatin1_aae02.cls ≠ "java/lang/invoke/VarHandle" ∧ (parseMethodDescriptor yJ0_isLatin1_aae02.desc).map (fun d => d.parameters.length) = some 0 := by decide +kernel
theorem cv_RJ0_492 : cv_ RJ0 492 yJ0_isLatin1_aae02 "java/lang/String" cJ0_isLatin1_aae02 1 (some .boolean) 0 := ⟨uw_2 (List.mem_of_getElem? (i := 80) rfl) rfl, uw_2 (List.mem_of_getElem? (i := 81) rfl) rfl, uw_2 (List.mem_of_getElem? (i := 82) rfl) rfl, uw_1 (List.mem_of_getElem? (i := 9) rfl) rfl, uw_2 (List.mem_of_getElem? (i := 83) rfl) rfl, hd_J0_isLatin1_aae02⟩
theorem hs_J1_charAt_3b067 : yJ1_charAt_3b067.cls ≠ "java/lang/invoke/MethodHandle" ∧ yJ1_charAt_3b067.cls ≠ "java/lang/invoke/VarHandle" ∧ (parseMethodDescriptor yJ1_charAt_3b067.desc).map (fun d => d.parameters.length) = some 2 := by decide +kernel
theorem cs_RJ0_495 : cs_ RJ0 495 yJ1_charAt_3b067 cJ1_charAt_3b067 2 (some .char) 2 := ⟨uw_2 (List.mem_of_getElem? (i := 84) rfl) rfl, uw_2 (List.mem_of_getElem? (i := 85) rfl) rfl, uw_1 (List.mem_of_getElem? (i := 10) rfl) rfl, uw_2 (List.mem_of_getElem? (i := 86) rfl) rfl, hs_J1_charAt_3b067⟩
set_option maxHeartbeats 4000000 in
set_option maxRecDepth 100000 in
theorem cS_coder (l : Launch) (D : va_G) (κ : Nat → ClassId) (adK adV : Nat → Nat) (i : Nat) (hi : i < 5) : mIX_ adK adV l yJ0_coder_7d493 (Cond.code yJ0_coder_7d493 cJ0_coder_7d493 1 (some .byte) :: uw) ({ frames := 0, cells := 0, slots := 0, locals := 0 } : Room) D (tys0 κ) [.ref (adK i)] (List.flatten ([] : List va_W)) nT_ 0 (List.flatten ([] : List va_W)) := by
  refine mIX_of (by decide +kernel) (Nat.le_of_ble_eq_true rfl) ?_
  intro p e s m below meth c A ls H locs C0 hE hw hl
  obtain ⟨hx, hb, -, hml, hown, hts, -, -⟩ := id C0
  have hl : lv_has ls 1 [(0, .ref (adK i))] := hl
  refine va_gets hx hb hE.2.2.1 hw.2.2.1 hown (hts _ lj_RJ0_38) (fun _ h => h) dJ0_coder_7d493_0 ?_
  refine lv_if_eq (tgt := 13) hx hb dJ0_coder_7d493_3 (by decide) (fun h => absurd h (by decide)) (fun _ => ?_)
  refine lv_aload_n hx hb dJ0_coder_7d493_6 rfl (lv_at hl 0 rfl) ?_
  refine vk_getf hx hb (hE.1.1 i hi).2.1 hw.2.2.1 hown (hts _ lj_RJ0_15) (fun _ h => h) dJ0_coder_7d493_7 ?_
  refine lv_goto (tgt := 14) hx hb dJ0_coder_7d493_10 (by decide) ?_
  exact r_tret C0 hw rfl trivial dJ0_coder_7d493_14
set_option maxHeartbeats 4000000 in
set_option maxRecDepth 100000 in
theorem cS_isLatin1 (l : Launch) (D : va_G) (κ : Nat → ClassId) (adK adV : Nat → Nat) (i : Nat) (hi : i < 5) : mIX_ adK adV l yJ0_isLatin1_aae02 (Cond.code yJ0_isLatin1_aae02 cJ0_isLatin1_aae02 1 (some .boolean) :: uw) ({ frames := 0, cells := 0, slots := 0, locals := 0 } : Room) D (tys0 κ) [.ref (adK i)] (List.flatten ([] : List va_W)) nB_ 1 (List.flatten ([] : List va_W)) := by
  refine mIX_of (by decide +kernel) (Nat.le_of_ble_eq_true rfl) ?_
  intro p e s m below meth c A ls H locs C0 hE hw hl
  obtain ⟨hx, hb, -, hml, hown, hts, -, -⟩ := id C0
  have hl : lv_has ls 1 [(0, .ref (adK i))] := hl
  refine va_gets hx hb hE.2.2.1 hw.2.2.1 hown (hts _ lj_RJ0_38) (fun _ h => h) dJ0_isLatin1_aae02_0 ?_
  refine lv_if_eq (tgt := 17) hx hb dJ0_isLatin1_aae02_3 (by decide) (fun h => absurd h (by decide)) (fun _ => ?_)
  refine lv_aload_n hx hb dJ0_isLatin1_aae02_6 rfl (lv_at hl 0 rfl) ?_
  refine vk_getf hx hb (hE.1.1 i hi).2.1 hw.2.2.1 hown (hts _ lj_RJ0_15) (fun _ h => h) dJ0_isLatin1_aae02_7 ?_
  refine lv_if_ne (tgt := 17) hx hb dJ0_isLatin1_aae02_10 (by decide) (fun h => absurd rfl h) (fun _ => ?_)
  refine lv_iconst (v := 1) hx hb dJ0_isLatin1_aae02_13 (by decide) ?_
  refine lv_goto (tgt := 18) hx hb dJ0_isLatin1_aae02_14 (by decide) ?_
  exact r_zret C0 hw (Or.inr rfl) dJ0_isLatin1_aae02_18
theorem sl_lt {i : Nat} (hi : i < 5) : slen.getD i 0 < 8 ∧ slen.getD i 0 = (sbyt.getD i []).length := by
  rcases (show i = 0 ∨ i = 1 ∨ i = 2 ∨ i = 3 ∨ i = 4 by omega) with rfl | rfl | rfl | rfl | rfl <;> decide
theorem sl_shr {i : Nat} (hi : i < 5) : Int32.ofNat (slen.getD i 0) >>> ((0 : Int32) &&& 31) = Int32.ofNat (slen.getD i 0) := by
  rcases (show i = 0 ∨ i = 1 ∨ i = 2 ∨ i = 3 ∨ i = 4 by omega) with rfl | rfl | rfl | rfl | rfl <;> decide
set_option maxHeartbeats 4000000 in
set_option maxRecDepth 100000 in
theorem cS_length (l : Launch) (D : va_G) (κ : Nat → ClassId) (adK adV : Nat → Nat) (i : Nat) (hi : i < 5) : mIX_ adK adV l yJ0_length_8abf5 (Cond.code yJ0_length_8abf5 cJ0_length_8abf5 1 (some .int) :: uw) ({ frames := 1, cells := 0, slots := 0, locals := 20 } : Room) D (tys0 κ) [.ref (adK i)] (List.flatten ([] : List va_W)) nT_ (Int32.ofNat (slen.getD i 0)) (List.flatten ([] : List va_W)) := by
  refine mIX_of (by decide +kernel) (Nat.le_of_ble_eq_true rfl) ?_
  intro p e s m below meth c A ls H locs C0 hE hw hl
  obtain ⟨hx, hb, -, hml, hown, hts, -, -⟩ := id C0
  have hl : lv_has ls 1 [(0, .ref (adK i))] := hl
  refine lv_aload_n hx hb dJ0_length_8abf5_0 rfl (lv_at hl 0 rfl) ?_
  refine vk_getf hx hb (hE.1.1 i hi).2.2.1 hw.2.2.1 hown (hts _ lj_RJ0_9) (fun _ h => h) dJ0_length_8abf5_1 ?_
  refine va_tlen hx hb (hE.1.1 i hi).2.2.2 hw.2.2.1 rfl dJ0_length_8abf5_4 ?_
  refine lv_aload_n hx hb dJ0_length_8abf5_5 rfl (lv_at hl 0 rfl) ?_
  refine rvS_i (As := []) (rest := [.int (Int32.ofNat (slen.getD i 0))]) (bs := []) (bs' := []) C0 hw hE (cS_coder l D κ adK adV i hi) cv_RJ0_335 ⟨rfl, rfl, Nat.le_of_ble_eq_true rfl, Nat.le_of_ble_eq_true rfl⟩ ⟨Nat.zero_le _, Nat.zero_le _⟩ [] [] [] rfl rfl rfl rfl (by decide) rfl rfl hi rfl hl.1 (by simp only [List.map, List.sum_cons, List.sum_nil, Value.category]; decide) dJ0_length_8abf5_6 (fun H locs hw _ => ?_)
  refine lv_ishr hx hb dJ0_length_8abf5_9 ?_
  rw [sl_shr hi]
  exact r_iret C0 hw trivial dJ0_length_8abf5_10
set_option maxHeartbeats 4000000 in
set_option maxRecDepth 100000 in
theorem cP_check_n (l : Launch) (D : va_G) (κ : Nat → ClassId) (k n : Int32) (h0 : ¬ k < 0) (h1 : k < n) : mI_ l yJ3_checkIndex_8e157 (Cond.code yJ3_checkIndex_8e157 cJ3_checkIndex_8e157 3 (some .int) :: uw) ({ frames := 0, cells := 0, slots := 0, locals := 0 } : Room) D (tys0 κ) [.int k, .int n, .null] (List.flatten ([] : List va_W)) nT_ k (List.flatten ([] : List va_W)) := by
  refine mI_ofF (by decide +kernel) (Nat.le_of_ble_eq_true rfl) ?_
  intro p e s m below meth c A ls H locs C0 hw hl
  obtain ⟨hx, hb, -, hml, hown, hts, -, -⟩ := id C0
  have hl : lv_has ls 3 [(0, .int k), (1, .int n), (2, .null)] := hl
  refine lv_iload_n hx hb dJ3_checkIndex_8e157_0 rfl (lv_at hl 0 rfl) ?_
  refine lv_if_lt (tgt := 9) hx hb dJ3_checkIndex_8e157_1 (by decide) (fun h => absurd h h0) (fun _ => ?_)
  refine lv_iload_n hx hb dJ3_checkIndex_8e157_4 rfl (lv_at hl 0 rfl) ?_
  refine lv_iload_n hx hb dJ3_checkIndex_8e157_5 rfl (lv_at hl 1 rfl) ?_
  refine lv_icmp_lt (tgt := 16) hx hb dJ3_checkIndex_8e157_6 (by decide) (fun _ => ?_) (fun h => absurd h1 h)
  refine lv_iload_n hx hb dJ3_checkIndex_8e157_16 rfl (lv_at hl 0 rfl) ?_
  exact r_iret C0 hw trivial dJ3_checkIndex_8e157_17
set_option maxHeartbeats 4000000 in
set_option maxRecDepth 100000 in
theorem cP_check_r (l : Launch) (D : va_G) (κ : Nat → ClassId) (k n : Int32) (t : Nat) (h0 : ¬ k < 0) (h1 : k < n) : mI_ l yJ3_checkIndex_8e157 (Cond.code yJ3_checkIndex_8e157 cJ3_checkIndex_8e157 3 (some .int) :: uw) ({ frames := 0, cells := 0, slots := 0, locals := 0 } : Room) D (tys0 κ) [.int k, .int n, .ref t] (List.flatten ([] : List va_W)) nT_ k (List.flatten ([] : List va_W)) := by
  refine mI_ofF (by decide +kernel) (Nat.le_of_ble_eq_true rfl) ?_
  intro p e s m below meth c A ls H locs C0 hw hl
  obtain ⟨hx, hb, -, hml, hown, hts, -, -⟩ := id C0
  have hl : lv_has ls 3 [(0, .int k), (1, .int n), (2, .ref t)] := hl
  refine lv_iload_n hx hb dJ3_checkIndex_8e157_0 rfl (lv_at hl 0 rfl) ?_
  refine lv_if_lt (tgt := 9) hx hb dJ3_checkIndex_8e157_1 (by decide) (fun h => absurd h h0) (fun _ => ?_)
  refine lv_iload_n hx hb dJ3_checkIndex_8e157_4 rfl (lv_at hl 0 rfl) ?_
  refine lv_iload_n hx hb dJ3_checkIndex_8e157_5 rfl (lv_at hl 1 rfl) ?_
  refine lv_icmp_lt (tgt := 16) hx hb dJ3_checkIndex_8e157_6 (by decide) (fun _ => ?_) (fun h => absurd h1 h)
  refine lv_iload_n hx hb dJ3_checkIndex_8e157_16 rfl (lv_at hl 0 rfl) ?_
  exact r_iret C0 hw trivial dJ3_checkIndex_8e157_17
set_option maxHeartbeats 4000000 in
set_option maxRecDepth 100000 in
theorem cS_check (l : Launch) (D : va_G) (κ : Nat → ClassId) (adK adV : Nat → Nat) (k n : Int32) (h0 : ¬ k < 0) (h1 : k < n) : mVX_ adK adV l yJ0_checkIndex_df160 (Cond.code yJ0_checkIndex_df160 cJ0_checkIndex_df160 2 none :: uw) ({ frames := 1, cells := 0, slots := 0, locals := 22 } : Room) D (tys0 κ) [.int k, .int n] (List.flatten ([] : List va_W)) (List.flatten ([] : List va_W)) := by
  refine mVX_of (by decide +kernel) (Nat.le_of_ble_eq_true rfl) ?_
  intro p e s m below meth c A ls H locs C0 hE hw hl
  obtain ⟨hx, hb, -, hml, hown, hts, -, -⟩ := id C0
  have hl : lv_has ls 2 [(0, .int k), (1, .int n)] := hl
  refine lv_iload_n hx hb dJ0_checkIndex_df160_0 rfl (lv_at hl 0 rfl) ?_
  refine lv_iload_n hx hb dJ0_checkIndex_df160_1 rfl (lv_at hl 1 rfl) ?_
  rcases hE.2.2.2 with hz | ⟨t, hz⟩
  · refine va_gets hx hb hz hw.2.2.1 hown (hts _ lj_RJ0_1053) (fun _ h => h) dJ0_checkIndex_df160_2 ?_
    refine rs_i (As := [.int k, .int n, .null]) (rest := []) (bs := []) (bs' := []) C0 hw (cP_check_n l D κ k n h0 h1) cs_RJ0_1059 ⟨rfl, rfl, Nat.le_of_ble_eq_true rfl, Nat.le_of_ble_eq_true rfl⟩ ⟨Nat.zero_le _, Nat.zero_le _⟩ [] [] [] rfl rfl rfl rfl (by decide) rfl rfl rfl hl.1 (by simp only [List.map, List.sum_cons, List.sum_nil, Value.category]; decide) dJ0_checkIndex_df160_5 (fun H locs hw _ => ?_)
    refine lv_pop hx hb dJ0_checkIndex_df160_8 rfl ?_
    exact r_vret C0 hw dJ0_checkIndex_df160_9
  · refine va_gets hx hb hz hw.2.2.1 hown (hts _ lj_RJ0_1053) (fun _ h => h) dJ0_checkIndex_df160_2 ?_
    refine rs_i (As := [.int k, .int n, .ref t]) (rest := []) (bs := []) (bs' := []) C0 hw (cP_check_r l D κ k n t h0 h1) cs_RJ0_1059 ⟨rfl, rfl, Nat.le_of_ble_eq_true rfl, Nat.le_of_ble_eq_true rfl⟩ ⟨Nat.zero_le _, Nat.zero_le _⟩ [] [] [] rfl rfl rfl rfl (by decide) rfl rfl rfl hl.1 (by simp only [List.map, List.sum_cons, List.sum_nil, Value.category]; decide) dJ0_checkIndex_df160_5 (fun H locs hw _ => ?_)
    refine lv_pop hx hb dJ0_checkIndex_df160_8 rfl ?_
    exact r_vret C0 hw dJ0_checkIndex_df160_9
def sch (i k : Nat) : Int32 := (sbyt.getD i []).getD k 0 &&& 255
theorem sch_nar {i : Nat} (hi : i < 5) {k : Int32} (hk : vp_in k (slen.getD i 0)) : ((((sbyt.getD i []).getD k.toNatClampNeg 0) &&& 255).toUInt32 % 65536).toInt32 = sch i k.toNatClampNeg ∧ narrow .char (.int (sch i k.toNatClampNeg)) = .int (sch i k.toNatClampNeg) := by
  have h : k.toNatClampNeg < slen.getD i 0 := Nat.not_le.mp fun q => hk (Or.inr q)
  generalize k.toNatClampNeg = n at h ⊢
  have h8 := (sl_lt hi).1
  rcases (show i = 0 ∨ i = 1 ∨ i = 2 ∨ i = 3 ∨ i = 4 by omega) with rfl | rfl | rfl | rfl | rfl <;> rcases (show n = 0 ∨ n = 1 ∨ n = 2 ∨ n = 3 ∨ n = 4 ∨ n = 5 ∨ n = 6 ∨ n = 7 by omega) with rfl | rfl | rfl | rfl | rfl | rfl | rfl | rfl <;> first | (exact ⟨by decide, by decide⟩) | (exact absurd h (by decide))
theorem sl_in {i : Nat} (hi : i < 5) {k : Int32} (hk : vp_in k (slen.getD i 0)) : ¬ k < 0 ∧ k < Int32.ofNat (slen.getD i 0) := by
  obtain ⟨j, hj, rfl⟩ := vp_in_of hk (by have := (sl_lt hi).1; omega)
  exact ⟨nI_pos (by have := (sl_lt hi).1; omega), nI_lt hj (by have := (sl_lt hi).1; omega)⟩
set_option maxHeartbeats 4000000 in
set_option maxRecDepth 100000 in
theorem cS_l1 (l : Launch) (D : va_G) (κ : Nat → ClassId) (adK adV : Nat → Nat) (i : Nat) (hi : i < 5) (k : Int32) (hk : vp_in k (slen.getD i 0)) : mIX_ adK adV l yJ1_charAt_3b067 (Cond.code yJ1_charAt_3b067 cJ1_charAt_3b067 2 (some .char) :: uw) ({ frames := 2, cells := 0, slots := 0, locals := 43 } : Room) D (tys0 κ) [.ref (adV i), .int k] (List.flatten ([] : List va_W)) nT_ (sch i k.toNatClampNeg) (List.flatten ([] : List va_W)) := by
  refine mIX_of (by decide +kernel) (Nat.le_of_ble_eq_true rfl) ?_
  intro p e s m below meth c A ls H locs C0 hE hw hl
  obtain ⟨hx, hb, -, hml, hown, hts, -, -⟩ := id C0
  have hl : lv_has ls 2 [(0, .ref (adV i)), (1, .int k)] := hl
  refine lv_iload_n hx hb dJ1_charAt_3b067_0 rfl (lv_at hl 1 rfl) ?_
  refine lv_aload_n hx hb dJ1_charAt_3b067_1 rfl (lv_at hl 0 rfl) ?_
  refine va_tlen hx hb (hE.1.1 i hi).2.2.2 hw.2.2.1 rfl dJ1_charAt_3b067_2 ?_
  refine rsX_v (As := [.int k, .int (Int32.ofNat (slen.getD i 0))]) (rest := []) (bs := []) (bs' := []) C0 hw hE (cS_check l D κ adK adV k _ (sl_in hi hk).1 (sl_in hi hk).2) cs_RJ1_9 ⟨rfl, rfl, Nat.le_of_ble_eq_true rfl, Nat.le_of_ble_eq_true rfl⟩ ⟨Nat.zero_le _, Nat.zero_le _⟩ [] [] [] rfl rfl rfl rfl (by decide) rfl rfl rfl hl.1 (by simp only [List.map, List.sum_cons, List.sum_nil, Value.category]; decide) dJ1_charAt_3b067_3 (fun H locs hw => ?_)
  refine lv_aload_n hx hb dJ1_charAt_3b067_6 rfl (lv_at hl 0 rfl) ?_
  refine lv_iload_n hx hb dJ1_charAt_3b067_7 rfl (lv_at hl 1 rfl) ?_
  refine va_tb hx hb (hE.1.1 i hi).2.2.2 hw.2.2.1 hk rfl dJ1_charAt_3b067_8 ?_
  refine lv_sipush (v := 255) hx hb dJ1_charAt_3b067_9 (by decide) ?_
  refine lv_iand hx hb dJ1_charAt_3b067_12 ?_
  refine lv_i2c hx hb dJ1_charAt_3b067_13 (sch_nar hi hk).1 ?_
  exact r_tret C0 hw (sch_nar hi hk).2 trivial dJ1_charAt_3b067_14
set_option maxHeartbeats 4000000 in
set_option maxRecDepth 100000 in
theorem cS_charAt (l : Launch) (D : va_G) (κ : Nat → ClassId) (adK adV : Nat → Nat) (i : Nat) (hi : i < 5) (k : Int32) (hk : vp_in k (slen.getD i 0)) : mIX_ adK adV l yJ0_charAt_5068e (Cond.code yJ0_charAt_5068e cJ0_charAt_5068e 2 (some .char) :: uw) ({ frames := 3, cells := 0, slots := 0, locals := 64 } : Room) D (tys0 κ) [.ref (adK i), .int k] (List.flatten ([] : List va_W)) nT_ (sch i k.toNatClampNeg) (List.flatten ([] : List va_W)) := by
  refine mIX_of (by decide +kernel) (Nat.le_of_ble_eq_true rfl) ?_
  intro p e s m below meth c A ls H locs C0 hE hw hl
  obtain ⟨hx, hb, -, hml, hown, hts, -, -⟩ := id C0
  have hl : lv_has ls 2 [(0, .ref (adK i)), (1, .int k)] := hl
  refine lv_aload_n hx hb dJ0_charAt_5068e_0 rfl (lv_at hl 0 rfl) ?_
  refine rvS_i (As := []) (rest := []) (bs := []) (bs' := []) C0 hw hE (cS_isLatin1 l D κ adK adV i hi) cv_RJ0_492 ⟨rfl, rfl, Nat.le_of_ble_eq_true rfl, Nat.le_of_ble_eq_true rfl⟩ ⟨Nat.zero_le _, Nat.zero_le _⟩ [] [] [] rfl rfl rfl rfl (by decide) rfl rfl hi rfl hl.1 (by simp only [List.map, List.sum_cons, List.sum_nil, Value.category]; decide) dJ0_charAt_5068e_1 (fun H locs hw _ => ?_)
  refine lv_if_eq (tgt := 16) hx hb dJ0_charAt_5068e_4 (by decide) (fun h => absurd h (by decide)) (fun _ => ?_)
  refine lv_aload_n hx hb dJ0_charAt_5068e_7 rfl (lv_at hl 0 rfl) ?_
  refine vk_getf hx hb (hE.1.1 i hi).2.2.1 hw.2.2.1 hown (hts _ lj_RJ0_9) (fun _ h => h) dJ0_charAt_5068e_8 ?_
  refine lv_iload_n hx hb dJ0_charAt_5068e_11 rfl (lv_at hl 1 rfl) ?_
  refine rsX_i (As := [.ref (adV i), .int k]) (rest := []) (bs := []) (bs' := []) C0 hw hE (cS_l1 l D κ adK adV i hi k hk) cs_RJ0_495 ⟨rfl, rfl, Nat.le_of_ble_eq_true rfl, Nat.le_of_ble_eq_true rfl⟩ ⟨Nat.zero_le _, Nat.zero_le _⟩ [] [] [] rfl rfl rfl rfl (by decide) rfl rfl rfl hl.1 (by simp only [List.map, List.sum_cons, List.sum_nil, Value.category]; decide) dJ0_charAt_5068e_12 (fun H locs hw _ => ?_)
  exact r_tret C0 hw (sch_nar hi hk).2 trivial dJ0_charAt_5068e_15
