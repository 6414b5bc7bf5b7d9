def FMo_fault (m_fault : Int32) : Option (Int32) :=
  some (m_fault)
set_option maxHeartbeats 4000000 in
set_option maxRecDepth 100000 in
theorem cMo_fault (l : Launch) (D : va_G) (κ : Nat → ClassId) (qm : Nat → Nat) (m_state m_tape : Nat → Int32) (m_taped m_fault m_broken m_brokenAt m_spot m_here m_token m_value : Int32) (m_ends m_letters m_moments m_stepsAt : Nat → Int32) (m_steps m_latest : Int32) (m_matrix m_sides m_tried m_answers : Nat → Int64) (m_rowOf : Nat → Int32) (m_whole : Int64) (m_shares m_isKept m_lanes m_lengths m_cells : Nat → Int32) (m_torn zr : Int32) (hf : FMo_fault m_fault = some zr) : mI_ l yX7_fault (Cond.code yX7_fault cX7_fault 1 (some .int) :: uw) ({ frames := 0, cells := 0, slots := 0, locals := 0 } : Room) D (tys0 κ) [.ref (qm 0)] (List.flatten [pMo κ qm m_state m_tape m_taped m_fault m_broken m_brokenAt m_spot m_here m_token m_value m_ends m_letters m_moments m_stepsAt m_steps m_latest m_matrix m_sides m_tried m_answers m_rowOf m_whole m_shares m_isKept m_lanes m_lengths m_cells m_torn]) nT_ zr (List.flatten [pMo κ qm m_state m_tape m_taped m_fault m_broken m_brokenAt m_spot m_here m_token m_value m_ends m_letters m_moments m_stepsAt m_steps m_latest m_matrix m_sides m_tried m_answers m_rowOf m_whole m_shares m_isKept m_lanes m_lengths m_cells m_torn]) := by
  unfold FMo_fault at hf
  refine mI_of (by decide) (Nat.le_of_ble_eq_true rfl) ?_
  intro p e s m below meth c A ls H locs C0 hw hl
  obtain ⟨hx, hb, -, hml, hown, hts, -, -⟩ := id C0
  have hl : lv_has ls 1 [(0, .ref (qm 0))] := hl
  refine lv_aload_n hx hb dX7_fault_0 rfl (lv_at hl 0 rfl) ?_
  refine r_get C0 hw 0 3 (v := .int m_fault) rfl rfl inX7 (by decide) lk_X7_142 rfl dX7_fault_1 ?_
  obtain rfl := e1_ hf
  exact r_iret C0 hw trivial dX7_fault_4
def FMo_outOf_L12 (m_state m_moments : Nat → Int32) (l1 : Int32) : Nat → Int32 → Int32 → Option (Int32)
  | 0, _, _ => none
  | n + 1, l2, l3 =>
      b1_ (FMo_beams m_state) fun r3 =>
      if ((2 : Int32) * r3) ≤ l3 then
        some (l2)
      else
        b1_ (FMo_jointOf m_state l3) fun r7 =>
        if r7 = l1 then
          gd_ l3 20 <|
          lt_ (l2 + (m_moments l3.toNatClampNeg)) fun v14 =>
          lt_ (l3 + (1 : Int32)) fun v15 =>
          FMo_outOf_L12 m_state m_moments l1 n v14 v15
        else
          lt_ (l2 + (0 : Int32)) fun v11 =>
          lt_ (l3 + (1 : Int32)) fun v12 =>
          FMo_outOf_L12 m_state m_moments l1 n v11 v12
def FMo_outOf (m_state m_moments : Nat → Int32) (a1 : Int32) : Option (Int32) :=
  gd_ ((6 : Int32) + a1) 395 <|
  lt_ (m_state ((6 : Int32) + a1).toNatClampNeg) fun v2 =>
  FMo_outOf_L12 m_state m_moments a1 1000 v2 (0 : Int32)
set_option maxHeartbeats 4000000 in
set_option maxRecDepth 100000 in
theorem wMo_outOf_L12 {p : Program} {l : Launch} {e : Env} {s : State} {m : MethodId} {args : Array Value} {below : List Frame} {meth : Method} {c : Code} {A : Nat → Prop} {D : va_G} {κ : Nat → ClassId} (C0 : cx_ p s m meth c args cX7_outOf RX7 (some .int) 4 A) (qm : Nat → Nat) (m_state m_tape : Nat → Int32) (m_taped m_fault m_broken m_brokenAt m_spot m_here m_token m_value : Int32) (m_ends m_letters m_moments m_stepsAt : Nat → Int32) (m_steps m_latest : Int32) (m_matrix m_sides m_tried m_answers : Nat → Int64) (m_rowOf : Nat → Int32) (m_whole : Int64) (m_shares m_isKept m_lanes m_lengths m_cells : Nat → Int32) (m_torn l1 : Int32) (zr : Int32) : ∀ (n : Nat) (l2 : Int32) (l3 : Int32) (H : Heap) (locs : List Loc) (ls : Array Slot), wd_ D (tys0 κ) A s (List.flatten [pMo κ qm m_state m_tape m_taped m_fault m_broken m_brokenAt m_spot m_here m_token m_value m_ends m_letters m_moments m_stepsAt m_steps m_latest m_matrix m_sides m_tried m_answers m_rowOf m_whole m_shares m_isKept m_lanes m_lengths m_cells m_torn]) H locs → lv_has ls 4 [(0, .ref (qm 0)), (1, .int l1), (2, .int l2), (3, .int l3)] → FMo_outOf_L12 m_state m_moments l1 n l2 l3 = some zr → W p l e ({ frames := 1, cells := 0, slots := 0, locals := 21 } : Room) s m args below meth c H locs 0 0 (qI_ D (tys0 κ) A nT_ zr (List.flatten [pMo κ qm m_state m_tape m_taped m_fault m_broken m_brokenAt m_spot m_here m_token m_value m_ends m_letters m_moments m_stepsAt m_steps m_latest m_matrix m_sides m_tried m_answers m_rowOf m_whole m_shares m_isKept m_lanes m_lengths m_cells m_torn]) below args s) (F0 m 12 ls []) := by
  obtain ⟨hx, hb, -, hml, hown, hts, -, -⟩ := id C0
  intro n
  induction n with
  | zero =>
    intro l2 l3 H locs ls hw hl  hf
    cases hf
  | succ n ih =>
    intro l2 l3 H locs ls hw hl  hf
    rw [FMo_outOf_L12.eq_2] at hf
    refine lv_iload_n hx hb dX7_outOf_12 rfl (lv_at hl 3 rfl) ?_
    refine lv_iconst (v := 2) hx hb dX7_outOf_13 (by decide) ?_
    refine lv_aload_n hx hb dX7_outOf_14 rfl (lv_at hl 0 rfl) ?_
    obtain ⟨r3, hk4, hf⟩ := b1_s hf
    refine rv_i (vq := (RX7, TX7, 28)) (As := []) (rest := [.int (2 : Int32), .int l3]) (bs' := [pMo κ qm m_state m_tape m_taped m_fault m_broken m_brokenAt m_spot m_here m_token m_value m_ends m_letters m_moments m_stepsAt m_steps m_latest m_matrix m_sides m_tried m_answers m_rowOf m_whole m_shares m_isKept m_lanes m_lengths m_cells m_torn]) C0 hw (cMo_beams l D κ qm m_state m_tape m_taped m_fault m_broken m_brokenAt m_spot m_here m_token m_value m_ends m_letters m_moments m_stepsAt m_steps m_latest m_matrix m_sides m_tried m_answers m_rowOf m_whole m_shares m_isKept m_lanes m_lengths m_cells m_torn r3 hk4) cv_RX7_162 ⟨rfl, rfl, Nat.le_of_ble_eq_true rfl, Nat.le_of_ble_eq_true rfl⟩ ⟨Nat.zero_le _, Nat.zero_le _⟩ [0] [] [0] rfl rfl rfl rfl (by decide) rfl rfl rfl rfl rfl hl.1 (by simp only [List.map, List.sum_cons, List.sum_nil, Value.category]; decide) dX7_outOf_15 (fun H locs hw hn5 => ?_)
    refine lv_imul hx hb dX7_outOf_18 ?_
    refine lv_icmp_ge (tgt := 50) hx hb dX7_outOf_19 (by decide) (fun hc6 => ?_) (fun hc6 => ?_)
    · have hf := if_t hc6 hf
      refine lv_iload_n hx hb dX7_outOf_50 rfl (lv_at hl 2 rfl) ?_
      obtain rfl := e1_ hf
      exact r_iret C0 hw trivial dX7_outOf_51
    · have hf := if_f hc6 hf
      refine lv_iload_n hx hb dX7_outOf_22 rfl (lv_at hl 2 rfl) ?_
      refine lv_aload_n hx hb dX7_outOf_23 rfl (lv_at hl 0 rfl) ?_
      refine lv_iload_n hx hb dX7_outOf_24 rfl (lv_at hl 3 rfl) ?_
      obtain ⟨r7, hk8, hf⟩ := b1_s hf
      refine rv_i (vq := (RX7, TX7, 28)) (As := [.int l3]) (rest := [.int l2]) (bs' := [pMo κ qm m_state m_tape m_taped m_fault m_broken m_brokenAt m_spot m_here m_token m_value m_ends m_letters m_moments m_stepsAt m_steps m_latest m_matrix m_sides m_tried m_answers m_rowOf m_whole m_shares m_isKept m_lanes m_lengths m_cells m_torn]) C0 hw (cMo_jointOf l D κ qm m_state m_tape m_taped m_fault m_broken m_brokenAt m_spot m_here m_token m_value m_ends m_letters m_moments m_stepsAt m_steps m_latest m_matrix m_sides m_tried m_answers m_rowOf m_whole m_shares m_isKept m_lanes m_lengths m_cells m_torn l3 r7 hk8) cv_RX7_168 ⟨rfl, rfl, Nat.le_of_ble_eq_true rfl, Nat.le_of_ble_eq_true rfl⟩ ⟨Nat.zero_le _, Nat.zero_le _⟩ [0] [] [0] rfl rfl rfl rfl (by decide) rfl rfl rfl rfl rfl hl.1 (by simp only [List.map, List.sum_cons, List.sum_nil, Value.category]; decide) dX7_outOf_25 (fun H locs hw hn9 => ?_)
      refine lv_iload_n hx hb dX7_outOf_28 rfl (lv_at hl 1 rfl) ?_
      refine lv_icmp_ne (tgt := 41) hx hb dX7_outOf_29 (by decide) (fun hc10 => ?_) (fun hc10 => ?_)
      · have hf := if_f hc10 hf
        refine lv_iconst (v := 0) hx hb dX7_outOf_41 (by decide) ?_
        refine lv_iadd hx hb dX7_outOf_42 ?_
        refine lv_topi (fun v11 ev11 => ?_)
        have hf := lt_s_ hf v11 ev11
        refine lv_istore_n (lv' := [(2, .int v11), (0, .ref (qm 0)), (1, .int l1), (3, .int l3)]) hx hb dX7_outOf_43 rfl hl (by decide) rfl (fun ls hl => ?_)
        obtain ⟨v12, ev12⟩ : ∃ z : Int32, z = (l3 + (1 : Int32)) := ⟨_, rfl⟩
        have hf := lt_s_ hf v12 ev12
        refine lv_iinc (v := v12) (lv' := [(3, .int v12), (2, .int v11), (0, .ref (qm 0)), (1, .int l1)]) hx hb dX7_outOf_44 hl (k := 3) rfl (by rw [ev12]; rfl) (by decide) rfl (fun ls hl => ?_)
        refine lv_goto (tgt := 12) hx hb dX7_outOf_47 (by decide) ?_
        exact ih v11 v12 H locs ls hw (lv_sub hl [2, 3, 1, 0] rfl)  hf
      · have hf := if_t hc10 hf
        refine lv_aload_n hx hb dX7_outOf_32 rfl (lv_at hl 0 rfl) ?_
        refine r_get C0 hw 0 12 (v := .ref (qm 5)) rfl rfl inX7 (by decide) lk_X7_22 rfl dX7_outOf_33 ?_
        refine lv_iload_n hx hb dX7_outOf_36 rfl (lv_at hl 3 rfl) ?_
        obtain ⟨hi13, hf⟩ := gd_s hf
        refine r_iald C0 hw 5 0 rfl rfl hi13 dX7_outOf_37 ?_
        refine lv_goto (tgt := 42) hx hb dX7_outOf_38 (by decide) ?_
        refine lv_iadd hx hb dX7_outOf_42 ?_
        refine lv_topi (fun v14 ev14 => ?_)
        have hf := lt_s_ hf v14 ev14
        refine lv_istore_n (lv' := [(2, .int v14), (0, .ref (qm 0)), (1, .int l1), (3, .int l3)]) hx hb dX7_outOf_43 rfl hl (by decide) rfl (fun ls hl => ?_)
        obtain ⟨v15, ev15⟩ : ∃ z : Int32, z = (l3 + (1 : Int32)) := ⟨_, rfl⟩
        have hf := lt_s_ hf v15 ev15
        refine lv_iinc (v := v15) (lv' := [(3, .int v15), (2, .int v14), (0, .ref (qm 0)), (1, .int l1)]) hx hb dX7_outOf_44 hl (k := 3) rfl (by rw [ev15]; rfl) (by decide) rfl (fun ls hl => ?_)
        refine lv_goto (tgt := 12) hx hb dX7_outOf_47 (by decide) ?_
        exact ih v14 v15 H locs ls hw (lv_sub hl [2, 3, 1, 0] rfl)  hf
set_option maxHeartbeats 4000000 in
set_option maxRecDepth 100000 in
theorem cMo_outOf (l : Launch) (D : va_G) (κ : Nat → ClassId) (qm : Nat → Nat) (m_state m_tape : Nat → Int32) (m_taped m_fault m_broken m_brokenAt m_spot m_here m_token m_value : Int32) (m_ends m_letters m_moments m_stepsAt : Nat → Int32) (m_steps m_latest : Int32) (m_matrix m_sides m_tried m_answers : Nat → Int64) (m_rowOf : Nat → Int32) (m_whole : Int64) (m_shares m_isKept m_lanes m_lengths m_cells : Nat → Int32) (m_torn a1 zr : Int32) (hf : FMo_outOf m_state m_moments a1 = some zr) : mI_ l yX7_outOf (Cond.code yX7_outOf cX7_outOf 4 (some .int) :: uw) ({ frames := 1, cells := 0, slots := 0, locals := 21 } : Room) D (tys0 κ) [.ref (qm 0), .int a1] (List.flatten [pMo κ qm m_state m_tape m_taped m_fault m_broken m_brokenAt m_spot m_here m_token m_value m_ends m_letters m_moments m_stepsAt m_steps m_latest m_matrix m_sides m_tried m_answers m_rowOf m_whole m_shares m_isKept m_lanes m_lengths m_cells m_torn]) nT_ zr (List.flatten [pMo κ qm m_state m_tape m_taped m_fault m_broken m_brokenAt m_spot m_here m_token m_value m_ends m_letters m_moments m_stepsAt m_steps m_latest m_matrix m_sides m_tried m_answers m_rowOf m_whole m_shares m_isKept m_lanes m_lengths m_cells m_torn]) := by
  unfold FMo_outOf at hf
  refine mI_of (by decide) (Nat.le_of_ble_eq_true rfl) ?_
  intro p e s m below meth c A ls H locs C0 hw hl
  obtain ⟨hx, hb, -, hml, hown, hts, -, -⟩ := id C0
  have hl : lv_has ls 4 [(0, .ref (qm 0)), (1, .int a1)] := hl
  refine lv_aload_n hx hb dX7_outOf_0 rfl (lv_at hl 0 rfl) ?_
  refine r_get C0 hw 0 0 (v := .ref (qm 1)) rfl rfl inX7 (by decide) lk_X7_7 rfl dX7_outOf_1 ?_
  refine lv_bipush (v := 6) hx hb dX7_outOf_4 (by decide) ?_
  refine lv_iload_n hx hb dX7_outOf_6 rfl (lv_at hl 1 rfl) ?_
  refine lv_iadd hx hb dX7_outOf_7 ?_
  obtain ⟨hi1, hf⟩ := gd_s hf
  refine r_iald C0 hw 1 0 rfl rfl hi1 dX7_outOf_8 ?_
  refine lv_topi (fun v2 ev2 => ?_)
  have hf := lt_s_ hf v2 ev2
  refine lv_istore_n (lv' := [(2, .int v2), (0, .ref (qm 0)), (1, .int a1)]) hx hb dX7_outOf_9 rfl hl (by decide) rfl (fun ls hl => ?_)
  refine lv_iconst (v := 0) hx hb dX7_outOf_10 (by decide) ?_
  refine lv_istore_n (lv' := [(3, .int (0 : Int32)), (2, .int v2), (0, .ref (qm 0)), (1, .int a1)]) hx hb dX7_outOf_11 rfl hl (by decide) rfl (fun ls hl => ?_)
  exact wMo_outOf_L12 C0 qm m_state m_tape m_taped m_fault m_broken m_brokenAt m_spot m_here m_token m_value m_ends m_letters m_moments m_stepsAt m_steps m_latest m_matrix m_sides m_tried m_answers m_rowOf m_whole m_shares m_isKept m_lanes m_lengths m_cells m_torn a1 zr 1000 v2 (0 : Int32) H locs ls hw (lv_sub hl [2, 3, 1, 0] rfl)  hf
def FMo_endsAt_L4 (m_state : Nat → Int32) (l1 : Int32) : Nat → Int32 → Int32 → Option (Int32)
  | 0, _, _ => none
  | n + 1, l2, l3 =>
      b1_ (FMo_beams m_state) fun r1 =>
      if ((2 : Int32) * r1) ≤ l3 then
        some (l2)
      else
        b1_ (FMo_jointOf m_state l3) fun r5 =>
        if r5 = l1 then
          lt_ (l2 + (1 : Int32)) fun v11 =>
          lt_ (l3 + (1 : Int32)) fun v12 =>
          FMo_endsAt_L4 m_state l1 n v11 v12
        else
          lt_ (l2 + (0 : Int32)) fun v9 =>
          lt_ (l3 + (1 : Int32)) fun v10 =>
          FMo_endsAt_L4 m_state l1 n v9 v10
def FMo_endsAt (m_state : Nat → Int32) (a1 : Int32) : Option (Int32) :=
  FMo_endsAt_L4 m_state a1 1000 (0 : Int32) (0 : Int32)
set_option maxHeartbeats 4000000 in
set_option maxRecDepth 100000 in
theorem wMo_endsAt_L4 {p : Program} {l : Launch} {e : Env} {s : State} {m : MethodId} {args : Array Value} {below : List Frame} {meth : Method} {c : Code} {A : Nat → Prop} {D : va_G} {κ : Nat → ClassId} (C0 : cx_ p s m meth c args cX7_endsAt RX7 (some .int) 4 A) (qm : Nat → Nat) (m_state m_tape : Nat → Int32) (m_taped m_fault m_broken m_brokenAt m_spot m_here m_token m_value : Int32) (m_ends m_letters m_moments m_stepsAt : Nat → Int32) (m_steps m_latest : Int32) (m_matrix m_sides m_tried m_answers : Nat → Int64) (m_rowOf : Nat → Int32) (m_whole : Int64) (m_shares m_isKept m_lanes m_lengths m_cells : Nat → Int32) (m_torn l1 : Int32) (zr : Int32) : ∀ (n : Nat) (l2 : Int32) (l3 : Int32) (H : Heap) (locs : List Loc) (ls : Array Slot), wd_ D (tys0 κ) A s (List.flatten [pMo κ qm m_state m_tape m_taped m_fault m_broken m_brokenAt m_spot m_here m_token m_value m_ends m_letters m_moments m_stepsAt m_steps m_latest m_matrix m_sides m_tried m_answers m_rowOf m_whole m_shares m_isKept m_lanes m_lengths m_cells m_torn]) H locs → lv_has ls 4 [(0, .ref (qm 0)), (1, .int l1), (2, .int l2), (3, .int l3)] → FMo_endsAt_L4 m_state l1 n l2 l3 = some zr → W p l e ({ frames := 1, cells := 0, slots := 0, locals := 21 } : Room) s m args below meth c H locs 0 0 (qI_ D (tys0 κ) A nT_ zr (List.flatten [pMo κ qm m_state m_tape m_taped m_fault m_broken m_brokenAt m_spot m_here m_token m_value m_ends m_letters m_moments m_stepsAt m_steps m_latest m_matrix m_sides m_tried m_answers m_rowOf m_whole m_shares m_isKept m_lanes m_lengths m_cells m_torn]) below args s) (F0 m 4 ls []) := by
  obtain ⟨hx, hb, -, hml, hown, hts, -, -⟩ := id C0
  intro n
  induction n with
  | zero =>
    intro l2 l3 H locs ls hw hl  hf
    cases hf
  | succ n ih =>
    intro l2 l3 H locs ls hw hl  hf
    rw [FMo_endsAt_L4.eq_2] at hf
    refine lv_iload_n hx hb dX7_endsAt_4 rfl (lv_at hl 3 rfl) ?_
    refine lv_iconst (v := 2) hx hb dX7_endsAt_5 (by decide) ?_
    refine lv_aload_n hx hb dX7_endsAt_6 rfl (lv_at hl 0 rfl) ?_
    obtain ⟨r1, hk2, hf⟩ := b1_s hf
    refine rv_i (vq := (RX7, TX7, 28)) (As := []) (rest := [.int (2 : Int32), .int l3]) (bs' := [pMo κ qm m_state m_tape m_taped m_fault m_broken m_brokenAt m_spot m_here m_token m_value m_ends m_letters m_moments m_stepsAt m_steps m_latest m_matrix m_sides m_tried m_answers m_rowOf m_whole m_shares m_isKept m_lanes m_lengths m_cells m_torn]) C0 hw (cMo_beams l D κ qm m_state m_tape m_taped m_fault m_broken m_brokenAt m_spot m_here m_token m_value m_ends m_letters m_moments m_stepsAt m_steps m_latest m_matrix m_sides m_tried m_answers m_rowOf m_whole m_shares m_isKept m_lanes m_lengths m_cells m_torn r1 hk2) cv_RX7_162 ⟨rfl, rfl, Nat.le_of_ble_eq_true rfl, Nat.le_of_ble_eq_true rfl⟩ ⟨Nat.zero_le _, Nat.zero_le _⟩ [0] [] [0] rfl rfl rfl rfl (by decide) rfl rfl rfl rfl rfl hl.1 (by simp only [List.map, List.sum_cons, List.sum_nil, Value.category]; decide) dX7_endsAt_7 (fun H locs hw hn3 => ?_)
    refine lv_imul hx hb dX7_endsAt_10 ?_
    refine lv_icmp_ge (tgt := 37) hx hb dX7_endsAt_11 (by decide) (fun hc4 => ?_) (fun hc4 => ?_)
    · have hf := if_t hc4 hf
      refine lv_iload_n hx hb dX7_endsAt_37 rfl (lv_at hl 2 rfl) ?_
      obtain rfl := e1_ hf
      exact r_iret C0 hw trivial dX7_endsAt_38
    · have hf := if_f hc4 hf
      refine lv_iload_n hx hb dX7_endsAt_14 rfl (lv_at hl 2 rfl) ?_
      refine lv_aload_n hx hb dX7_endsAt_15 rfl (lv_at hl 0 rfl) ?_
      refine lv_iload_n hx hb dX7_endsAt_16 rfl (lv_at hl 3 rfl) ?_
      obtain ⟨r5, hk6, hf⟩ := b1_s hf
      refine rv_i (vq := (RX7, TX7, 28)) (As := [.int l3]) (rest := [.int l2]) (bs' := [pMo κ qm m_state m_tape m_taped m_fault m_broken m_brokenAt m_spot m_here m_token m_value m_ends m_letters m_moments m_stepsAt m_steps m_latest m_matrix m_sides m_tried m_answers m_rowOf m_whole m_shares m_isKept m_lanes m_lengths m_cells m_torn]) C0 hw (cMo_jointOf l D κ qm m_state m_tape m_taped m_fault m_broken m_brokenAt m_spot m_here m_token m_value m_ends m_letters m_moments m_stepsAt m_steps m_latest m_matrix m_sides m_tried m_answers m_rowOf m_whole m_shares m_isKept m_lanes m_lengths m_cells m_torn l3 r5 hk6) cv_RX7_168 ⟨rfl, rfl, Nat.le_of_ble_eq_true rfl, Nat.le_of_ble_eq_true rfl⟩ ⟨Nat.zero_le _, Nat.zero_le _⟩ [0] [] [0] rfl rfl rfl rfl (by decide) rfl rfl rfl rfl rfl hl.1 (by simp only [List.map, List.sum_cons, List.sum_nil, Value.category]; decide) dX7_endsAt_17 (fun H locs hw hn7 => ?_)
      refine lv_iload_n hx hb dX7_endsAt_20 rfl (lv_at hl 1 rfl) ?_
      refine lv_icmp_ne (tgt := 28) hx hb dX7_endsAt_21 (by decide) (fun hc8 => ?_) (fun hc8 => ?_)
      · have hf := if_f hc8 hf
        refine lv_iconst (v := 0) hx hb dX7_endsAt_28 (by decide) ?_
        refine lv_iadd hx hb dX7_endsAt_29 ?_
        refine lv_topi (fun v9 ev9 => ?_)
        have hf := lt_s_ hf v9 ev9
        refine lv_istore_n (lv' := [(2, .int v9), (0, .ref (qm 0)), (1, .int l1), (3, .int l3)]) hx hb dX7_endsAt_30 rfl hl (by decide) rfl (fun ls hl => ?_)
        obtain ⟨v10, ev10⟩ : ∃ z : Int32, z = (l3 + (1 : Int32)) := ⟨_, rfl⟩
        have hf := lt_s_ hf v10 ev10
        refine lv_iinc (v := v10) (lv' := [(3, .int v10), (2, .int v9), (0, .ref (qm 0)), (1, .int l1)]) hx hb dX7_endsAt_31 hl (k := 3) rfl (by rw [ev10]; rfl) (by decide) rfl (fun ls hl => ?_)
        refine lv_goto (tgt := 4) hx hb dX7_endsAt_34 (by decide) ?_
        exact ih v9 v10 H locs ls hw (lv_sub hl [2, 3, 1, 0] rfl)  hf
      · have hf := if_t hc8 hf
        refine lv_iconst (v := 1) hx hb dX7_endsAt_24 (by decide) ?_
        refine lv_goto (tgt := 29) hx hb dX7_endsAt_25 (by decide) ?_
        refine lv_iadd hx hb dX7_endsAt_29 ?_
        refine lv_topi (fun v11 ev11 => ?_)
        have hf := lt_s_ hf v11 ev11
        refine lv_istore_n (lv' := [(2, .int v11), (0, .ref (qm 0)), (1, .int l1), (3, .int l3)]) hx hb dX7_endsAt_30 rfl hl (by decide) rfl (fun ls hl => ?_)
        obtain ⟨v12, ev12⟩ : ∃ z : Int32, z = (l3 + (1 : Int32)) := ⟨_, rfl⟩
        have hf := lt_s_ hf v12 ev12
        refine lv_iinc (v := v12) (lv' := [(3, .int v12), (2, .int v11), (0, .ref (qm 0)), (1, .int l1)]) hx hb dX7_endsAt_31 hl (k := 3) rfl (by rw [ev12]; rfl) (by decide) rfl (fun ls hl => ?_)
        refine lv_goto (tgt := 4) hx hb dX7_endsAt_34 (by decide) ?_
        exact ih v11 v12 H locs ls hw (lv_sub hl [2, 3, 1, 0] rfl)  hf
set_option maxHeartbeats 4000000 in
set_option maxRecDepth 100000 in
theorem cMo_endsAt (l : Launch) (D : va_G) (κ : Nat → ClassId) (qm : Nat → Nat) (m_state m_tape : Nat → Int32) (m_taped m_fault m_broken m_brokenAt m_spot m_here m_token m_value : Int32) (m_ends m_letters m_moments m_stepsAt : Nat → Int32) (m_steps m_latest : Int32) (m_matrix m_sides m_tried m_answers : Nat → Int64) (m_rowOf : Nat → Int32) (m_whole : Int64) (m_shares m_isKept m_lanes m_lengths m_cells : Nat → Int32) (m_torn a1 zr : Int32) (hf : FMo_endsAt m_state a1 = some zr) : mI_ l yX7_endsAt (Cond.code yX7_endsAt cX7_endsAt 4 (some .int) :: uw) ({ frames := 1, cells := 0, slots := 0, locals := 21 } : Room) D (tys0 κ) [.ref (qm 0), .int a1] (List.flatten [pMo κ qm m_state m_tape m_taped m_fault m_broken m_brokenAt m_spot m_here m_token m_value m_ends m_letters m_moments m_stepsAt m_steps m_latest m_matrix m_sides m_tried m_answers m_rowOf m_whole m_shares m_isKept m_lanes m_lengths m_cells m_torn]) nT_ zr (List.flatten [pMo κ qm m_state m_tape m_taped m_fault m_broken m_brokenAt m_spot m_here m_token m_value m_ends m_letters m_moments m_stepsAt m_steps m_latest m_matrix m_sides m_tried m_answers m_rowOf m_whole m_shares m_isKept m_lanes m_lengths m_cells m_torn]) := by
  unfold FMo_endsAt at hf
  refine mI_of (by decide) (Nat.le_of_ble_eq_true rfl) ?_
  intro p e s m below meth c A ls H locs C0 hw hl
  obtain ⟨hx, hb, -, hml, hown, hts, -, -⟩ := id C0
  have hl : lv_has ls 4 [(0, .ref (qm 0)), (1, .int a1)] := hl
  refine lv_iconst (v := 0) hx hb dX7_endsAt_0 (by decide) ?_
  refine lv_istore_n (lv' := [(2, .int (0 : Int32)), (0, .ref (qm 0)), (1, .int a1)]) hx hb dX7_endsAt_1 rfl hl (by decide) rfl (fun ls hl => ?_)
  refine lv_iconst (v := 0) hx hb dX7_endsAt_2 (by decide) ?_
  refine lv_istore_n (lv' := [(3, .int (0 : Int32)), (2, .int (0 : Int32)), (0, .ref (qm 0)), (1, .int a1)]) hx hb dX7_endsAt_3 rfl hl (by decide) rfl (fun ls hl => ?_)
  exact wMo_endsAt_L4 C0 qm m_state m_tape m_taped m_fault m_broken m_brokenAt m_spot m_here m_token m_value m_ends m_letters m_moments m_stepsAt m_steps m_latest m_matrix m_sides m_tried m_answers m_rowOf m_whole m_shares m_isKept m_lanes m_lengths m_cells m_torn a1 zr 1000 (0 : Int32) (0 : Int32) H locs ls hw (lv_sub hl [2, 3, 1, 0] rfl)  hf
def FMo_stiffAt_L4 (m_state : Nat → Int32) (l1 : Int32) : Nat → Int32 → Int32 → Option (Int32)
  | 0, _, _ => none
  | n + 1, l2, l3 =>
      b1_ (FMo_beams m_state) fun r1 =>
      if ((2 : Int32) * r1) ≤ l3 then
        some (l2)
      else
        b1_ (FMo_jointOf m_state l3) fun r5 =>
        if r5 = l1 then
          b1_ (FMo_stiffOf m_state l3) fun r11 =>
          lt_ (l2 + r11) fun v14 =>
          lt_ (l3 + (1 : Int32)) fun v15 =>
          FMo_stiffAt_L4 m_state l1 n v14 v15
        else
          lt_ (l2 + (0 : Int32)) fun v9 =>
          lt_ (l3 + (1 : Int32)) fun v10 =>
          FMo_stiffAt_L4 m_state l1 n v9 v10
def FMo_stiffAt (m_state : Nat → Int32) (a1 : Int32) : Option (Int32) :=
  FMo_stiffAt_L4 m_state a1 1000 (0 : Int32) (0 : Int32)
set_option maxHeartbeats 4000000 in
set_option maxRecDepth 100000 in
theorem wMo_stiffAt_L4 {p : Program} {l : Launch} {e : Env} {s : State} {m : MethodId} {args : Array Value} {below : List Frame} {meth : Method} {c : Code} {A : Nat → Prop} {D : va_G} {κ : Nat → ClassId} (C0 : cx_ p s m meth c args cX7_stiffAt RX7 (some .int) 4 A) (qm : Nat → Nat) (m_state m_tape : Nat → Int32) (m_taped m_fault m_broken m_brokenAt m_spot m_here m_token m_value : Int32) (m_ends m_letters m_moments m_stepsAt : Nat → Int32) (m_steps m_latest : Int32) (m_matrix m_sides m_tried m_answers : Nat → Int64) (m_rowOf : Nat → Int32) (m_whole : Int64) (m_shares m_isKept m_lanes m_lengths m_cells : Nat → Int32) (m_torn l1 : Int32) (zr : Int32) : ∀ (n : Nat) (l2 : Int32) (l3 : Int32) (H : Heap) (locs : List Loc) (ls : Array Slot), wd_ D (tys0 κ) A s (List.flatten [pMo κ qm m_state m_tape m_taped m_fault m_broken m_brokenAt m_spot m_here m_token m_value m_ends m_letters m_moments m_stepsAt m_steps m_latest m_matrix m_sides m_tried m_answers m_rowOf m_whole m_shares m_isKept m_lanes m_lengths m_cells m_torn]) H locs → lv_has ls 4 [(0, .ref (qm 0)), (1, .int l1), (2, .int l2), (3, .int l3)] → FMo_stiffAt_L4 m_state l1 n l2 l3 = some zr → W p l e ({ frames := 1, cells := 0, slots := 0, locals := 21 } : Room) s m args below meth c H locs 0 0 (qI_ D (tys0 κ) A nT_ zr (List.flatten [pMo κ qm m_state m_tape m_taped m_fault m_broken m_brokenAt m_spot m_here m_token m_value m_ends m_letters m_moments m_stepsAt m_steps m_latest m_matrix m_sides m_tried m_answers m_rowOf m_whole m_shares m_isKept m_lanes m_lengths m_cells m_torn]) below args s) (F0 m 4 ls []) := by
  obtain ⟨hx, hb, -, hml, hown, hts, -, -⟩ := id C0
  intro n
  induction n with
  | zero =>
    intro l2 l3 H locs ls hw hl  hf
    cases hf
  | succ n ih =>
    intro l2 l3 H locs ls hw hl  hf
    rw [FMo_stiffAt_L4.eq_2] at hf
    refine lv_iload_n hx hb dX7_stiffAt_4 rfl (lv_at hl 3 rfl) ?_
    refine lv_iconst (v := 2) hx hb dX7_stiffAt_5 (by decide) ?_
    refine lv_aload_n hx hb dX7_stiffAt_6 rfl (lv_at hl 0 rfl) ?_
    obtain ⟨r1, hk2, hf⟩ := b1_s hf
    refine rv_i (vq := (RX7, TX7, 28)) (As := []) (rest := [.int (2 : Int32), .int l3]) (bs' := [pMo κ qm m_state m_tape m_taped m_fault m_broken m_brokenAt m_spot m_here m_token m_value m_ends m_letters m_moments m_stepsAt m_steps m_latest m_matrix m_sides m_tried m_answers m_rowOf m_whole m_shares m_isKept m_lanes m_lengths m_cells m_torn]) C0 hw (cMo_beams l D κ qm m_state m_tape m_taped m_fault m_broken m_brokenAt m_spot m_here m_token m_value m_ends m_letters m_moments m_stepsAt m_steps m_latest m_matrix m_sides m_tried m_answers m_rowOf m_whole m_shares m_isKept m_lanes m_lengths m_cells m_torn r1 hk2) cv_RX7_162 ⟨rfl, rfl, Nat.le_of_ble_eq_true rfl, Nat.le_of_ble_eq_true rfl⟩ ⟨Nat.zero_le _, Nat.zero_le _⟩ [0] [] [0] rfl rfl rfl rfl (by decide) rfl rfl rfl rfl rfl hl.1 (by simp only [List.map, List.sum_cons, List.sum_nil, Value.category]; decide) dX7_stiffAt_7 (fun H locs hw hn3 => ?_)
    refine lv_imul hx hb dX7_stiffAt_10 ?_
    refine lv_icmp_ge (tgt := 41) hx hb dX7_stiffAt_11 (by decide) (fun hc4 => ?_) (fun hc4 => ?_)
    · have hf := if_t hc4 hf
      refine lv_iload_n hx hb dX7_stiffAt_41 rfl (lv_at hl 2 rfl) ?_
      obtain rfl := e1_ hf
      exact r_iret C0 hw trivial dX7_stiffAt_42
    · have hf := if_f hc4 hf
      refine lv_iload_n hx hb dX7_stiffAt_14 rfl (lv_at hl 2 rfl) ?_
      refine lv_aload_n hx hb dX7_stiffAt_15 rfl (lv_at hl 0 rfl) ?_
      refine lv_iload_n hx hb dX7_stiffAt_16 rfl (lv_at hl 3 rfl) ?_
      obtain ⟨r5, hk6, hf⟩ := b1_s hf
      refine rv_i (vq := (RX7, TX7, 28)) (As := [.int l3]) (rest := [.int l2]) (bs' := [pMo κ qm m_state m_tape m_taped m_fault m_broken m_brokenAt m_spot m_here m_token m_value m_ends m_letters m_moments m_stepsAt m_steps m_latest m_matrix m_sides m_tried m_answers m_rowOf m_whole m_shares m_isKept m_lanes m_lengths m_cells m_torn]) C0 hw (cMo_jointOf l D κ qm m_state m_tape m_taped m_fault m_broken m_brokenAt m_spot m_here m_token m_value m_ends m_letters m_moments m_stepsAt m_steps m_latest m_matrix m_sides m_tried m_answers m_rowOf m_whole m_shares m_isKept m_lanes m_lengths m_cells m_torn l3 r5 hk6) cv_RX7_168 ⟨rfl, rfl, Nat.le_of_ble_eq_true rfl, Nat.le_of_ble_eq_true rfl⟩ ⟨Nat.zero_le _, Nat.zero_le _⟩ [0] [] [0] rfl rfl rfl rfl (by decide) rfl rfl rfl rfl rfl hl.1 (by simp only [List.map, List.sum_cons, List.sum_nil, Value.category]; decide) dX7_stiffAt_17 (fun H locs hw hn7 => ?_)
      refine lv_iload_n hx hb dX7_stiffAt_20 rfl (lv_at hl 1 rfl) ?_
      refine lv_icmp_ne (tgt := 32) hx hb dX7_stiffAt_21 (by decide) (fun hc8 => ?_) (fun hc8 => ?_)
      · have hf := if_f hc8 hf
        refine lv_iconst (v := 0) hx hb dX7_stiffAt_32 (by decide) ?_
        refine lv_iadd hx hb dX7_stiffAt_33 ?_
        refine lv_topi (fun v9 ev9 => ?_)
        have hf := lt_s_ hf v9 ev9
        refine lv_istore_n (lv' := [(2, .int v9), (0, .ref (qm 0)), (1, .int l1), (3, .int l3)]) hx hb dX7_stiffAt_34 rfl hl (by decide) rfl (fun ls hl => ?_)
        obtain ⟨v10, ev10⟩ : ∃ z : Int32, z = (l3 + (1 : Int32)) := ⟨_, rfl⟩
        have hf := lt_s_ hf v10 ev10
        refine lv_iinc (v := v10) (lv' := [(3, .int v10), (2, .int v9), (0, .ref (qm 0)), (1, .int l1)]) hx hb dX7_stiffAt_35 hl (k := 3) rfl (by rw [ev10]; rfl) (by decide) rfl (fun ls hl => ?_)
        refine lv_goto (tgt := 4) hx hb dX7_stiffAt_38 (by decide) ?_
        exact ih v9 v10 H locs ls hw (lv_sub hl [2, 3, 1, 0] rfl)  hf
      · have hf := if_t hc8 hf
        refine lv_aload_n hx hb dX7_stiffAt_24 rfl (lv_at hl 0 rfl) ?_
        refine lv_iload_n hx hb dX7_stiffAt_25 rfl (lv_at hl 3 rfl) ?_
        obtain ⟨r11, hk12, hf⟩ := b1_s hf
        refine rv_i (vq := (RX7, TX7, 28)) (As := [.int l3]) (rest := [.int l2]) (bs' := [pMo κ qm m_state m_tape m_taped m_fault m_broken m_brokenAt m_spot m_here m_token m_value m_ends m_letters m_moments m_stepsAt m_steps m_latest m_matrix m_sides m_tried m_answers m_rowOf m_whole m_shares m_isKept m_lanes m_lengths m_cells m_torn]) C0 hw (cMo_stiffOf l D κ qm m_state m_tape m_taped m_fault m_broken m_brokenAt m_spot m_here m_token m_value m_ends m_letters m_moments m_stepsAt m_steps m_latest m_matrix m_sides m_tried m_answers m_rowOf m_whole m_shares m_isKept m_lanes m_lengths m_cells m_torn l3 r11 hk12) cv_RX7_171 ⟨rfl, rfl, Nat.le_of_ble_eq_true rfl, Nat.le_of_ble_eq_true rfl⟩ ⟨Nat.zero_le _, Nat.zero_le _⟩ [0] [] [0] rfl rfl rfl rfl (by decide) rfl rfl rfl rfl rfl hl.1 (by simp only [List.map, List.sum_cons, List.sum_nil, Value.category]; decide) dX7_stiffAt_26 (fun H locs hw hn13 => ?_)
        refine lv_goto (tgt := 33) hx hb dX7_stiffAt_29 (by decide) ?_
        refine lv_iadd hx hb dX7_stiffAt_33 ?_
        refine lv_topi (fun v14 ev14 => ?_)
        have hf := lt_s_ hf v14 ev14
        refine lv_istore_n (lv' := [(2, .int v14), (0, .ref (qm 0)), (1, .int l1), (3, .int l3)]) hx hb dX7_stiffAt_34 rfl hl (by decide) rfl (fun ls hl => ?_)
        obtain ⟨v15, ev15⟩ : ∃ z : Int32, z = (l3 + (1 : Int32)) := ⟨_, rfl⟩
        have hf := lt_s_ hf v15 ev15
        refine lv_iinc (v := v15) (lv' := [(3, .int v15), (2, .int v14), (0, .ref (qm 0)), (1, .int l1)]) hx hb dX7_stiffAt_35 hl (k := 3) rfl (by rw [ev15]; rfl) (by decide) rfl (fun ls hl => ?_)
        refine lv_goto (tgt := 4) hx hb dX7_stiffAt_38 (by decide) ?_
        exact ih v14 v15 H locs ls hw (lv_sub hl [2, 3, 1, 0] rfl)  hf
set_option maxHeartbeats 4000000 in
set_option maxRecDepth 100000 in
theorem cMo_stiffAt (l : Launch) (D : va_G) (κ : Nat → ClassId) (qm : Nat → Nat) (m_state m_tape : Nat → Int32) (m_taped m_fault m_broken m_brokenAt m_spot m_here m_token m_value : Int32) (m_ends m_letters m_moments m_stepsAt : Nat → Int32) (m_steps m_latest : Int32) (m_matrix m_sides m_tried m_answers : Nat → Int64) (m_rowOf : Nat → Int32) (m_whole : Int64) (m_shares m_isKept m_lanes m_lengths m_cells : Nat → Int32) (m_torn a1 zr : Int32) (hf : FMo_stiffAt m_state a1 = some zr) : mI_ l yX7_stiffAt (Cond.code yX7_stiffAt cX7_stiffAt 4 (some .int) :: uw) ({ frames := 1, cells := 0, slots := 0, locals := 21 } : Room) D (tys0 κ) [.ref (qm 0), .int a1] (List.flatten [pMo κ qm m_state m_tape m_taped m_fault m_broken m_brokenAt m_spot m_here m_token m_value m_ends m_letters m_moments m_stepsAt m_steps m_latest m_matrix m_sides m_tried m_answers m_rowOf m_whole m_shares m_isKept m_lanes m_lengths m_cells m_torn]) nT_ zr (List.flatten [pMo κ qm m_state m_tape m_taped m_fault m_broken m_brokenAt m_spot m_here m_token m_value m_ends m_letters m_moments m_stepsAt m_steps m_latest m_matrix m_sides m_tried m_answers m_rowOf m_whole m_shares m_isKept m_lanes m_lengths m_cells m_torn]) := by
  unfold FMo_stiffAt at hf
  refine mI_of (by decide) (Nat.le_of_ble_eq_true rfl) ?_
  intro p e s m below meth c A ls H locs C0 hw hl
  obtain ⟨hx, hb, -, hml, hown, hts, -, -⟩ := id C0
  have hl : lv_has ls 4 [(0, .ref (qm 0)), (1, .int a1)] := hl
  refine lv_iconst (v := 0) hx hb dX7_stiffAt_0 (by decide) ?_
  refine lv_istore_n (lv' := [(2, .int (0 : Int32)), (0, .ref (qm 0)), (1, .int a1)]) hx hb dX7_stiffAt_1 rfl hl (by decide) rfl (fun ls hl => ?_)
  refine lv_iconst (v := 0) hx hb dX7_stiffAt_2 (by decide) ?_
  refine lv_istore_n (lv' := [(3, .int (0 : Int32)), (2, .int (0 : Int32)), (0, .ref (qm 0)), (1, .int a1)]) hx hb dX7_stiffAt_3 rfl hl (by decide) rfl (fun ls hl => ?_)
  exact wMo_stiffAt_L4 C0 qm m_state m_tape m_taped m_fault m_broken m_brokenAt m_spot m_here m_token m_value m_ends m_letters m_moments m_stepsAt m_steps m_latest m_matrix m_sides m_tried m_answers m_rowOf m_whole m_shares m_isKept m_lanes m_lengths m_cells m_torn a1 zr 1000 (0 : Int32) (0 : Int32) H locs ls hw (lv_sub hl [2, 3, 1, 0] rfl)  hf
def FMo_isTurning (m_state : Nat → Int32) (a1 : Int32) : Option (Int32) :=
  gd_ a1 395 <|
  if (m_state a1.toNatClampNeg) = 0 then
    b1_ (FMo_endsAt m_state a1) fun r3 =>
    if r3 ≤ 0 then
      some ((0 : Int32))
    else
      some ((1 : Int32))
  else
    some ((0 : Int32))
set_option maxHeartbeats 4000000 in
set_option maxRecDepth 100000 in
theorem cMo_isTurning (l : Launch) (D : va_G) (κ : Nat → ClassId) (qm : Nat → Nat) (m_state m_tape : Nat → Int32) (m_taped m_fault m_broken m_brokenAt m_spot m_here m_token m_value : Int32) (m_ends m_letters m_moments m_stepsAt : Nat → Int32) (m_steps m_latest : Int32) (m_matrix m_sides m_tried m_answers : Nat → Int64) (m_rowOf : Nat → Int32) (m_whole : Int64) (m_shares m_isKept m_lanes m_lengths m_cells : Nat → Int32) (m_torn a1 zr : Int32) (hf : FMo_isTurning m_state a1 = some zr) : mI_ l yX7_isTurning (Cond.code yX7_isTurning cX7_isTurning 2 (some .boolean) :: uw) ({ frames := 2, cells := 0, slots := 0, locals := 44 } : Room) D (tys0 κ) [.ref (qm 0), .int a1] (List.flatten [pMo κ qm m_state m_tape m_taped m_fault m_broken m_brokenAt m_spot m_here m_token m_value m_ends m_letters m_moments m_stepsAt m_steps m_latest m_matrix m_sides m_tried m_answers m_rowOf m_whole m_shares m_isKept m_lanes m_lengths m_cells m_torn]) nB_ zr (List.flatten [pMo κ qm m_state m_tape m_taped m_fault m_broken m_brokenAt m_spot m_here m_token m_value m_ends m_letters m_moments m_stepsAt m_steps m_latest m_matrix m_sides m_tried m_answers m_rowOf m_whole m_shares m_isKept m_lanes m_lengths m_cells m_torn]) := by
  unfold FMo_isTurning at hf
  refine mI_of (by decide) (Nat.le_of_ble_eq_true rfl) ?_
  intro p e s m below meth c A ls H locs C0 hw hl
  obtain ⟨hx, hb, -, hml, hown, hts, -, -⟩ := id C0
  have hl : lv_has ls 2 [(0, .ref (qm 0)), (1, .int a1)] := hl
  refine lv_aload_n hx hb dX7_isTurning_0 rfl (lv_at hl 0 rfl) ?_
  refine r_get C0 hw 0 0 (v := .ref (qm 1)) rfl rfl inX7 (by decide) lk_X7_7 rfl dX7_isTurning_1 ?_
  refine lv_iload_n hx hb dX7_isTurning_4 rfl (lv_at hl 1 rfl) ?_
  obtain ⟨hi1, hf⟩ := gd_s hf
  refine r_iald C0 hw 1 0 rfl rfl hi1 dX7_isTurning_5 ?_
  refine lv_if_ne (tgt := 21) hx hb dX7_isTurning_6 (by decide) (fun hc2 => ?_) (fun hc2 => ?_)
  · have hf := if_f hc2 hf
    refine lv_iconst (v := 0) hx hb dX7_isTurning_21 (by decide) ?_
    obtain rfl := e1_ hf
    exact r_zret C0 hw (Or.inl rfl) dX7_isTurning_22
  · have hf := if_t hc2 hf
    refine lv_aload_n hx hb dX7_isTurning_9 rfl (lv_at hl 0 rfl) ?_
    refine lv_iload_n hx hb dX7_isTurning_10 rfl (lv_at hl 1 rfl) ?_
    obtain ⟨r3, hk4, hf⟩ := b1_s hf
    refine rv_i (vq := (RX7, TX7, 28)) (As := [.int a1]) (rest := []) (bs' := [pMo κ qm m_state m_tape m_taped m_fault m_broken m_brokenAt m_spot m_here m_token m_value m_ends m_letters m_moments m_stepsAt m_steps m_latest m_matrix m_sides m_tried m_answers m_rowOf m_whole m_shares m_isKept m_lanes m_lengths m_cells m_torn]) C0 hw (cMo_endsAt l D κ qm m_state m_tape m_taped m_fault m_broken m_brokenAt m_spot m_here m_token m_value m_ends m_letters m_moments m_stepsAt m_steps m_latest m_matrix m_sides m_tried m_answers m_rowOf m_whole m_shares m_isKept m_lanes m_lengths m_cells m_torn a1 r3 hk4) cv_RX7_174 ⟨rfl, rfl, Nat.le_of_ble_eq_true rfl, Nat.le_of_ble_eq_true rfl⟩ ⟨Nat.zero_le _, Nat.zero_le _⟩ [0] [] [0] rfl rfl rfl rfl (by decide) rfl rfl rfl rfl rfl hl.1 (by simp only [List.map, List.sum_cons, List.sum_nil, Value.category]; decide) dX7_isTurning_11 (fun H locs hw hn5 => ?_)
    refine lv_if_le (tgt := 21) hx hb dX7_isTurning_14 (by decide) (fun hc6 => ?_) (fun hc6 => ?_)
    · have hf := if_t hc6 hf
      refine lv_iconst (v := 0) hx hb dX7_isTurning_21 (by decide) ?_
      obtain rfl := e1_ hf
      exact r_zret C0 hw (Or.inl rfl) dX7_isTurning_22
    · have hf := if_f hc6 hf
      refine lv_iconst (v := 1) hx hb dX7_isTurning_17 (by decide) ?_
      refine lv_goto (tgt := 22) hx hb dX7_isTurning_18 (by decide) ?_
      obtain rfl := e1_ hf
      exact r_zret C0 hw (Or.inr rfl) dX7_isTurning_22
def FMo_isLoose (m_state m_moments : Nat → Int32) (a1 : Int32) : Option (Int32) :=
  b1_ (FMo_isTurning m_state a1) fun r1 =>
  if r1 = 0 then
    some ((0 : Int32))
  else
    b1_ (FMo_outOf m_state m_moments a1) fun r5 =>
    if r5 = 0 then
      some ((0 : Int32))
    else
      some ((1 : Int32))
set_option maxHeartbeats 4000000 in
set_option maxRecDepth 100000 in
theorem cMo_isLoose (l : Launch) (D : va_G) (κ : Nat → ClassId) (qm : Nat → Nat) (m_state m_tape : Nat → Int32) (m_taped m_fault m_broken m_brokenAt m_spot m_here m_token m_value : Int32) (m_ends m_letters m_moments m_stepsAt : Nat → Int32) (m_steps m_latest : Int32) (m_matrix m_sides m_tried m_answers : Nat → Int64) (m_rowOf : Nat → Int32) (m_whole : Int64) (m_shares m_isKept m_lanes m_lengths m_cells : Nat → Int32) (m_torn a1 zr : Int32) (hf : FMo_isLoose m_state m_moments a1 = some zr) : mI_ l yX7_isLoose (Cond.code yX7_isLoose cX7_isLoose 2 (some .boolean) :: uw) ({ frames := 3, cells := 0, slots := 0, locals := 65 } : Room) D (tys0 κ) [.ref (qm 0), .int a1] (List.flatten [pMo κ qm m_state m_tape m_taped m_fault m_broken m_brokenAt m_spot m_here m_token m_value m_ends m_letters m_moments m_stepsAt m_steps m_latest m_matrix m_sides m_tried m_answers m_rowOf m_whole m_shares m_isKept m_lanes m_lengths m_cells m_torn]) nB_ zr (List.flatten [pMo κ qm m_state m_tape m_taped m_fault m_broken m_brokenAt m_spot m_here m_token m_value m_ends m_letters m_moments m_stepsAt m_steps m_latest m_matrix m_sides m_tried m_answers m_rowOf m_whole m_shares m_isKept m_lanes m_lengths m_cells m_torn]) := by
  unfold FMo_isLoose at hf
  refine mI_of (by decide) (Nat.le_of_ble_eq_true rfl) ?_
  intro p e s m below meth c A ls H locs C0 hw hl
  obtain ⟨hx, hb, -, hml, hown, hts, -, -⟩ := id C0
  have hl : lv_has ls 2 [(0, .ref (qm 0)), (1, .int a1)] := hl
  refine lv_aload_n hx hb dX7_isLoose_0 rfl (lv_at hl 0 rfl) ?_
  refine lv_iload_n hx hb dX7_isLoose_1 rfl (lv_at hl 1 rfl) ?_
  obtain ⟨r1, hk2, hf⟩ := b1_s hf
  refine rv_i (vq := (RX7, TX7, 28)) (As := [.int a1]) (rest := []) (bs' := [pMo κ qm m_state m_tape m_taped m_fault m_broken m_brokenAt m_spot m_here m_token m_value m_ends m_letters m_moments m_stepsAt m_steps m_latest m_matrix m_sides m_tried m_answers m_rowOf m_whole m_shares m_isKept m_lanes m_lengths m_cells m_torn]) C0 hw (cMo_isTurning l D κ qm m_state m_tape m_taped m_fault m_broken m_brokenAt m_spot m_here m_token m_value m_ends m_letters m_moments m_stepsAt m_steps m_latest m_matrix m_sides m_tried m_answers m_rowOf m_whole m_shares m_isKept m_lanes m_lengths m_cells m_torn a1 r1 hk2) cv_RX7_177 ⟨rfl, rfl, Nat.le_of_ble_eq_true rfl, Nat.le_of_ble_eq_true rfl⟩ ⟨Nat.zero_le _, Nat.zero_le _⟩ [0] [] [0] rfl rfl rfl rfl (by decide) rfl rfl rfl rfl rfl hl.1 (by simp only [List.map, List.sum_cons, List.sum_nil, Value.category]; decide) dX7_isLoose_2 (fun H locs hw hn3 => ?_)
  refine lv_if_eq (tgt := 20) hx hb dX7_isLoose_5 (by decide) (fun hc4 => ?_) (fun hc4 => ?_)
  · have hf := if_t hc4 hf
    refine lv_iconst (v := 0) hx hb dX7_isLoose_20 (by decide) ?_
    obtain rfl := e1_ hf
    exact r_zret C0 hw (Or.inl rfl) dX7_isLoose_21
  · have hf := if_f hc4 hf
    refine lv_aload_n hx hb dX7_isLoose_8 rfl (lv_at hl 0 rfl) ?_
    refine lv_iload_n hx hb dX7_isLoose_9 rfl (lv_at hl 1 rfl) ?_
    obtain ⟨r5, hk6, hf⟩ := b1_s hf
    refine rv_i (vq := (RX7, TX7, 28)) (As := [.int a1]) (rest := []) (bs' := [pMo κ qm m_state m_tape m_taped m_fault m_broken m_brokenAt m_spot m_here m_token m_value m_ends m_letters m_moments m_stepsAt m_steps m_latest m_matrix m_sides m_tried m_answers m_rowOf m_whole m_shares m_isKept m_lanes m_lengths m_cells m_torn]) C0 hw (cMo_outOf l D κ qm m_state m_tape m_taped m_fault m_broken m_brokenAt m_spot m_here m_token m_value m_ends m_letters m_moments m_stepsAt m_steps m_latest m_matrix m_sides m_tried m_answers m_rowOf m_whole m_shares m_isKept m_lanes m_lengths m_cells m_torn a1 r5 hk6) cv_RX7_180 ⟨rfl, rfl, Nat.le_of_ble_eq_true rfl, Nat.le_of_ble_eq_true rfl⟩ ⟨Nat.zero_le _, Nat.zero_le _⟩ [0] [] [0] rfl rfl rfl rfl (by decide) rfl rfl rfl rfl rfl hl.1 (by simp only [List.map, List.sum_cons, List.sum_nil, Value.category]; decide) dX7_isLoose_10 (fun H locs hw hn7 => ?_)
    refine lv_if_eq (tgt := 20) hx hb dX7_isLoose_13 (by decide) (fun hc8 => ?_) (fun hc8 => ?_)
    · have hf := if_t hc8 hf
      refine lv_iconst (v := 0) hx hb dX7_isLoose_20 (by decide) ?_
      obtain rfl := e1_ hf
      exact r_zret C0 hw (Or.inl rfl) dX7_isLoose_21
    · have hf := if_f hc8 hf
      refine lv_iconst (v := 1) hx hb dX7_isLoose_16 (by decide) ?_
      refine lv_goto (tgt := 21) hx hb dX7_isLoose_17 (by decide) ?_
      obtain rfl := e1_ hf
      exact r_zret C0 hw (Or.inr rfl) dX7_isLoose_21
def FMo_size (a1 : Int32) : Option (Int32) :=
  if 0 ≤ a1 then
    some (a1)
  else
    some ((-a1))
set_option maxHeartbeats 4000000 in
set_option maxRecDepth 100000 in
theorem cMo_size (l : Launch) (D : va_G) (κ : Nat → ClassId) (a1 zr : Int32) (hf : FMo_size a1 = some zr) : mI_ l yX7_size (Cond.code yX7_size cX7_size 1 (some .int) :: uw) ({ frames := 0, cells := 0, slots := 0, locals := 0 } : Room) D (tys0 κ) [.int a1] (List.flatten ([] : List va_W)) nT_ zr (List.flatten ([] : List va_W)) := by
  unfold FMo_size at hf
  refine mI_of (by decide) (Nat.le_of_ble_eq_true rfl) ?_
  intro p e s m below meth c A ls H locs C0 hw hl
  obtain ⟨hx, hb, -, hml, hown, hts, -, -⟩ := id C0
  have hl : lv_has ls 1 [(0, .int a1)] := hl
  refine lv_iload_n hx hb dX7_size_0 rfl (lv_at hl 0 rfl) ?_
  refine lv_if_ge (tgt := 9) hx hb dX7_size_1 (by decide) (fun hc1 => ?_) (fun hc1 => ?_)
  · have hf := if_t hc1 hf
    refine lv_iload_n hx hb dX7_size_9 rfl (lv_at hl 0 rfl) ?_
    obtain rfl := e1_ hf
    exact r_iret C0 hw trivial dX7_size_10
  · have hf := if_f hc1 hf
    refine lv_iload_n hx hb dX7_size_4 rfl (lv_at hl 0 rfl) ?_
    refine lv_ineg hx hb dX7_size_5 ?_
    refine lv_goto (tgt := 10) hx hb dX7_size_6 (by decide) ?_
    obtain rfl := e1_ hf
    exact r_iret C0 hw trivial dX7_size_10
def FMo_looseMany_L4 (m_state m_moments : Nat → Int32) : Nat → Int32 → Int32 → Option (Int32)
  | 0, _, _ => none
  | n + 1, l1, l2 =>
      b1_ (FMo_joints m_state) fun r1 =>
      if r1 ≤ l2 then
        some (l1)
      else
        b1_ (FMo_isLoose m_state m_moments l2) fun r5 =>
        if r5 = 0 then
          lt_ (l1 + (0 : Int32)) fun v9 =>
          lt_ (l2 + (1 : Int32)) fun v10 =>
          FMo_looseMany_L4 m_state m_moments n v9 v10
        else
          lt_ (l1 + (1 : Int32)) fun v11 =>
          lt_ (l2 + (1 : Int32)) fun v12 =>
          FMo_looseMany_L4 m_state m_moments n v11 v12
def FMo_looseMany (m_state m_moments : Nat → Int32) : Option (Int32) :=
  FMo_looseMany_L4 m_state m_moments 1000 (0 : Int32) (0 : Int32)
set_option maxHeartbeats 4000000 in
set_option maxRecDepth 100000 in
theorem wMo_looseMany_L4 {p : Program} {l : Launch} {e : Env} {s : State} {m : MethodId} {args : Array Value} {below : List Frame} {meth : Method} {c : Code} {A : Nat → Prop} {D : va_G} {κ : Nat → ClassId} (C0 : cx_ p s m meth c args cX7_looseMany RX7 (some .int) 3 A) (qm : Nat → Nat) (m_state m_tape : Nat → Int32) (m_taped m_fault m_broken m_brokenAt m_spot m_here m_token m_value : Int32) (m_ends m_letters m_moments m_stepsAt : Nat → Int32) (m_steps m_latest : Int32) (m_matrix m_sides m_tried m_answers : Nat → Int64) (m_rowOf : Nat → Int32) (m_whole : Int64) (m_shares m_isKept m_lanes m_lengths m_cells : Nat → Int32) (m_torn : Int32) (zr : Int32) : ∀ (n : Nat) (l1 : Int32) (l2 : Int32) (H : Heap) (locs : List Loc) (ls : Array Slot), wd_ D (tys0 κ) A s (List.flatten [pMo κ qm m_state m_tape m_taped m_fault m_broken m_brokenAt m_spot m_here m_token m_value m_ends m_letters m_moments m_stepsAt m_steps m_latest m_matrix m_sides m_tried m_answers m_rowOf m_whole m_shares m_isKept m_lanes m_lengths m_cells m_torn]) H locs → lv_has ls 3 [(0, .ref (qm 0)), (1, .int l1), (2, .int l2)] → FMo_looseMany_L4 m_state m_moments n l1 l2 = some zr → W p l e ({ frames := 4, cells := 0, slots := 0, locals := 86 } : Room) s m args below meth c H locs 0 0 (qI_ D (tys0 κ) A nT_ zr (List.flatten [pMo κ qm m_state m_tape m_taped m_fault m_broken m_brokenAt m_spot m_here m_token m_value m_ends m_letters m_moments m_stepsAt m_steps m_latest m_matrix m_sides m_tried m_answers m_rowOf m_whole m_shares m_isKept m_lanes m_lengths m_cells m_torn]) below args s) (F0 m 4 ls []) := by
  obtain ⟨hx, hb, -, hml, hown, hts, -, -⟩ := id C0
  intro n
  induction n with
  | zero =>
    intro l1 l2 H locs ls hw hl  hf
    cases hf
  | succ n ih =>
    intro l1 l2 H locs ls hw hl  hf
    rw [FMo_looseMany_L4.eq_2] at hf
    refine lv_iload_n hx hb dX7_looseMany_4 rfl (lv_at hl 2 rfl) ?_
    refine lv_aload_n hx hb dX7_looseMany_5 rfl (lv_at hl 0 rfl) ?_
    obtain ⟨r1, hk2, hf⟩ := b1_s hf
    refine rv_i (vq := (RX7, TX7, 28)) (As := []) (rest := [.int l2]) (bs' := [pMo κ qm m_state m_tape m_taped m_fault m_broken m_brokenAt m_spot m_here m_token m_value m_ends m_letters m_moments m_stepsAt m_steps m_latest m_matrix m_sides m_tried m_answers m_rowOf m_whole m_shares m_isKept m_lanes m_lengths m_cells m_torn]) C0 hw (cMo_joints l D κ qm m_state m_tape m_taped m_fault m_broken m_brokenAt m_spot m_here m_token m_value m_ends m_letters m_moments m_stepsAt m_steps m_latest m_matrix m_sides m_tried m_answers m_rowOf m_whole m_shares m_isKept m_lanes m_lengths m_cells m_torn r1 hk2) cv_RX7_183 ⟨rfl, rfl, Nat.le_of_ble_eq_true rfl, Nat.le_of_ble_eq_true rfl⟩ ⟨Nat.zero_le _, Nat.zero_le _⟩ [0] [] [0] rfl rfl rfl rfl (by decide) rfl rfl rfl rfl rfl hl.1 (by simp only [List.map, List.sum_cons, List.sum_nil, Value.category]; decide) dX7_looseMany_6 (fun H locs hw hn3 => ?_)
    refine lv_icmp_ge (tgt := 34) hx hb dX7_looseMany_9 (by decide) (fun hc4 => ?_) (fun hc4 => ?_)
    · have hf := if_t hc4 hf
      refine lv_iload_n hx hb dX7_looseMany_34 rfl (lv_at hl 1 rfl) ?_
      obtain rfl := e1_ hf
      exact r_iret C0 hw trivial dX7_looseMany_35
    · have hf := if_f hc4 hf
      refine lv_iload_n hx hb dX7_looseMany_12 rfl (lv_at hl 1 rfl) ?_
      refine lv_aload_n hx hb dX7_looseMany_13 rfl (lv_at hl 0 rfl) ?_
      refine lv_iload_n hx hb dX7_looseMany_14 rfl (lv_at hl 2 rfl) ?_
      obtain ⟨r5, hk6, hf⟩ := b1_s hf
      refine rv_i (vq := (RX7, TX7, 28)) (As := [.int l2]) (rest := [.int l1]) (bs' := [pMo κ qm m_state m_tape m_taped m_fault m_broken m_brokenAt m_spot m_here m_token m_value m_ends m_letters m_moments m_stepsAt m_steps m_latest m_matrix m_sides m_tried m_answers m_rowOf m_whole m_shares m_isKept m_lanes m_lengths m_cells m_torn]) C0 hw (cMo_isLoose l D κ qm m_state m_tape m_taped m_fault m_broken m_brokenAt m_spot m_here m_token m_value m_ends m_letters m_moments m_stepsAt m_steps m_latest m_matrix m_sides m_tried m_answers m_rowOf m_whole m_shares m_isKept m_lanes m_lengths m_cells m_torn l2 r5 hk6) cv_RX7_186 ⟨rfl, rfl, Nat.le_of_ble_eq_true rfl, Nat.le_of_ble_eq_true rfl⟩ ⟨Nat.zero_le _, Nat.zero_le _⟩ [0] [] [0] rfl rfl rfl rfl (by decide) rfl rfl rfl rfl rfl hl.1 (by simp only [List.map, List.sum_cons, List.sum_nil, Value.category]; decide) dX7_looseMany_15 (fun H locs hw hn7 => ?_)
      refine lv_if_eq (tgt := 25) hx hb dX7_looseMany_18 (by decide) (fun hc8 => ?_) (fun hc8 => ?_)
      · have hf := if_t hc8 hf
        refine lv_iconst (v := 0) hx hb dX7_looseMany_25 (by decide) ?_
        refine lv_iadd hx hb dX7_looseMany_26 ?_
        refine lv_topi (fun v9 ev9 => ?_)
        have hf := lt_s_ hf v9 ev9
        refine lv_istore_n (lv' := [(1, .int v9), (0, .ref (qm 0)), (2, .int l2)]) hx hb dX7_looseMany_27 rfl hl (by decide) rfl (fun ls hl => ?_)
        obtain ⟨v10, ev10⟩ : ∃ z : Int32, z = (l2 + (1 : Int32)) := ⟨_, rfl⟩
        have hf := lt_s_ hf v10 ev10
        refine lv_iinc (v := v10) (lv' := [(2, .int v10), (1, .int v9), (0, .ref (qm 0))]) hx hb dX7_looseMany_28 hl (k := 2) rfl (by rw [ev10]; rfl) (by decide) rfl (fun ls hl => ?_)
        refine lv_goto (tgt := 4) hx hb dX7_looseMany_31 (by decide) ?_
        exact ih v9 v10 H locs ls hw (lv_sub hl [2, 1, 0] rfl)  hf
      · have hf := if_f hc8 hf
        refine lv_iconst (v := 1) hx hb dX7_looseMany_21 (by decide) ?_
        refine lv_goto (tgt := 26) hx hb dX7_looseMany_22 (by decide) ?_
        refine lv_iadd hx hb dX7_looseMany_26 ?_
        refine lv_topi (fun v11 ev11 => ?_)
        have hf := lt_s_ hf v11 ev11
        refine lv_istore_n (lv' := [(1, .int v11), (0, .ref (qm 0)), (2, .int l2)]) hx hb dX7_looseMany_27 rfl hl (by decide) rfl (fun ls hl => ?_)
        obtain ⟨v12, ev12⟩ : ∃ z : Int32, z = (l2 + (1 : Int32)) := ⟨_, rfl⟩
        have hf := lt_s_ hf v12 ev12
        refine lv_iinc (v := v12) (lv' := [(2, .int v12), (1, .int v11), (0, .ref (qm 0))]) hx hb dX7_looseMany_28 hl (k := 2) rfl (by rw [ev12]; rfl) (by decide) rfl (fun ls hl => ?_)
        refine lv_goto (tgt := 4) hx hb dX7_looseMany_31 (by decide) ?_
        exact ih v11 v12 H locs ls hw (lv_sub hl [2, 1, 0] rfl)  hf
set_option maxHeartbeats 4000000 in
set_option maxRecDepth 100000 in
theorem cMo_looseMany (l : Launch) (D : va_G) (κ : Nat → ClassId) (qm : Nat → Nat) (m_state m_tape : Nat → Int32) (m_taped m_fault m_broken m_brokenAt m_spot m_here m_token m_value : Int32) (m_ends m_letters m_moments m_stepsAt : Nat → Int32) (m_steps m_latest : Int32) (m_matrix m_sides m_tried m_answers : Nat → Int64) (m_rowOf : Nat → Int32) (m_whole : Int64) (m_shares m_isKept m_lanes m_lengths m_cells : Nat → Int32) (m_torn zr : Int32) (hf : FMo_looseMany m_state m_moments = some zr) : mI_ l yX7_looseMany (Cond.code yX7_looseMany cX7_looseMany 3 (some .int) :: uw) ({ frames := 4, cells := 0, slots := 0, locals := 86 } : Room) D (tys0 κ) [.ref (qm 0)] (List.flatten [pMo κ qm m_state m_tape m_taped m_fault m_broken m_brokenAt m_spot m_here m_token m_value m_ends m_letters m_moments m_stepsAt m_steps m_latest m_matrix m_sides m_tried m_answers m_rowOf m_whole m_shares m_isKept m_lanes m_lengths m_cells m_torn]) nT_ zr (List.flatten [pMo κ qm m_state m_tape m_taped m_fault m_broken m_brokenAt m_spot m_here m_token m_value m_ends m_letters m_moments m_stepsAt m_steps m_latest m_matrix m_sides m_tried m_answers m_rowOf m_whole m_shares m_isKept m_lanes m_lengths m_cells m_torn]) := by
  unfold FMo_looseMany at hf
  refine mI_of (by decide) (Nat.le_of_ble_eq_true rfl) ?_
  intro p e s m below meth c A ls H locs C0 hw hl
  obtain ⟨hx, hb, -, hml, hown, hts, -, -⟩ := id C0
  have hl : lv_has ls 3 [(0, .ref (qm 0))] := hl
  refine lv_iconst (v := 0) hx hb dX7_looseMany_0 (by decide) ?_
  refine lv_istore_n (lv' := [(1, .int (0 : Int32)), (0, .ref (qm 0))]) hx hb dX7_looseMany_1 rfl hl (by decide) rfl (fun ls hl => ?_)
  refine lv_iconst (v := 0) hx hb dX7_looseMany_2 (by decide) ?_
  refine lv_istore_n (lv' := [(2, .int (0 : Int32)), (1, .int (0 : Int32)), (0, .ref (qm 0))]) hx hb dX7_looseMany_3 rfl hl (by decide) rfl (fun ls hl => ?_)
  exact wMo_looseMany_L4 C0 qm m_state m_tape m_taped m_fault m_broken m_brokenAt m_spot m_here m_token m_value m_ends m_letters m_moments m_stepsAt m_steps m_latest m_matrix m_sides m_tried m_answers m_rowOf m_whole m_shares m_isKept m_lanes m_lengths m_cells m_torn zr 1000 (0 : Int32) (0 : Int32) H locs ls hw (lv_sub hl [2, 1, 0] rfl)  hf
def FMo_outAll_L4 (m_state m_moments : Nat → Int32) : Nat → Int32 → Int32 → Option (Int32)
  | 0, _, _ => none
  | n + 1, l1, l2 =>
      b1_ (FMo_joints m_state) fun r1 =>
      if r1 ≤ l2 then
        some (l1)
      else
        b1_ (FMo_isTurning m_state l2) fun r5 =>
        if r5 = 0 then
          lt_ (l1 + (0 : Int32)) fun v9 =>
          lt_ (l2 + (1 : Int32)) fun v10 =>
          FMo_outAll_L4 m_state m_moments n v9 v10
        else
          b1_ (FMo_outOf m_state m_moments l2) fun r11 =>
          b1_ (FMo_size r11) fun r14 =>
          lt_ (l1 + r14) fun v17 =>
          lt_ (l2 + (1 : Int32)) fun v18 =>
          FMo_outAll_L4 m_state m_moments n v17 v18
def FMo_outAll (m_state m_moments : Nat → Int32) : Option (Int32) :=
  FMo_outAll_L4 m_state m_moments 1000 (0 : Int32) (0 : Int32)
set_option maxHeartbeats 4000000 in
set_option maxRecDepth 100000 in
theorem wMo_outAll_L4 {p : Program} {l : Launch} {e : Env} {s : State} {m : MethodId} {args : Array Value} {below : List Frame} {meth : Method} {c : Code} {A : Nat → Prop} {D : va_G} {κ : Nat → ClassId} (C0 : cx_ p s m meth c args cX7_outAll RX7 (some .int) 3 A) (qm : Nat → Nat) (m_state m_tape : Nat → Int32) (m_taped m_fault m_broken m_brokenAt m_spot m_here m_token m_value : Int32) (m_ends m_letters m_moments m_stepsAt : Nat → Int32) (m_steps m_latest : Int32) (m_matrix m_sides m_tried m_answers : Nat → Int64) (m_rowOf : Nat → Int32) (m_whole : Int64) (m_shares m_isKept m_lanes m_lengths m_cells : Nat → Int32) (m_torn : Int32) (zr : Int32) : ∀ (n : Nat) (l1 : Int32) (l2 : Int32) (H : Heap) (locs : List Loc) (ls : Array Slot), wd_ D (tys0 κ) A s (List.flatten [pMo κ qm m_state m_tape m_taped m_fault m_broken m_brokenAt m_spot m_here m_token m_value m_ends m_letters m_moments m_stepsAt m_steps m_latest m_matrix m_sides m_tried m_answers m_rowOf m_whole m_shares m_isKept m_lanes m_lengths m_cells m_torn]) H locs → lv_has ls 3 [(0, .ref (qm 0)), (1, .int l1), (2, .int l2)] → FMo_outAll_L4 m_state m_moments n l1 l2 = some zr → W p l e ({ frames := 3, cells := 0, slots := 0, locals := 65 } : Room) s m args below meth c H locs 0 0 (qI_ D (tys0 κ) A nT_ zr (List.flatten [pMo κ qm m_state m_tape m_taped m_fault m_broken m_brokenAt m_spot m_here m_token m_value m_ends m_letters m_moments m_stepsAt m_steps m_latest m_matrix m_sides m_tried m_answers m_rowOf m_whole m_shares m_isKept m_lanes m_lengths m_cells m_torn]) below args s) (F0 m 4 ls []) := by
  obtain ⟨hx, hb, -, hml, hown, hts, -, -⟩ := id C0
  intro n
  induction n with
  | zero =>
    intro l1 l2 H locs ls hw hl  hf
    cases hf
  | succ n ih =>
    intro l1 l2 H locs ls hw hl  hf
    rw [FMo_outAll_L4.eq_2] at hf
    refine lv_iload_n hx hb dX7_outAll_4 rfl (lv_at hl 2 rfl) ?_
    refine lv_aload_n hx hb dX7_outAll_5 rfl (lv_at hl 0 rfl) ?_
    obtain ⟨r1, hk2, hf⟩ := b1_s hf
    refine rv_i (vq := (RX7, TX7, 28)) (As := []) (rest := [.int l2]) (bs' := [pMo κ qm m_state m_tape m_taped m_fault m_broken m_brokenAt m_spot m_here m_token m_value m_ends m_letters m_moments m_stepsAt m_steps m_latest m_matrix m_sides m_tried m_answers m_rowOf m_whole m_shares m_isKept m_lanes m_lengths m_cells m_torn]) C0 hw (cMo_joints l D κ qm m_state m_tape m_taped m_fault m_broken m_brokenAt m_spot m_here m_token m_value m_ends m_letters m_moments m_stepsAt m_steps m_latest m_matrix m_sides m_tried m_answers m_rowOf m_whole m_shares m_isKept m_lanes m_lengths m_cells m_torn r1 hk2) cv_RX7_183 ⟨rfl, rfl, Nat.le_of_ble_eq_true rfl, Nat.le_of_ble_eq_true rfl⟩ ⟨Nat.zero_le _, Nat.zero_le _⟩ [0] [] [0] rfl rfl rfl rfl (by decide) rfl rfl rfl rfl rfl hl.1 (by simp only [List.map, List.sum_cons, List.sum_nil, Value.category]; decide) dX7_outAll_6 (fun H locs hw hn3 => ?_)
    refine lv_icmp_ge (tgt := 41) hx hb dX7_outAll_9 (by decide) (fun hc4 => ?_) (fun hc4 => ?_)
    · have hf := if_t hc4 hf
      refine lv_iload_n hx hb dX7_outAll_41 rfl (lv_at hl 1 rfl) ?_
      obtain rfl := e1_ hf
      exact r_iret C0 hw trivial dX7_outAll_42
    · have hf := if_f hc4 hf
      refine lv_iload_n hx hb dX7_outAll_12 rfl (lv_at hl 1 rfl) ?_
      refine lv_aload_n hx hb dX7_outAll_13 rfl (lv_at hl 0 rfl) ?_
      refine lv_iload_n hx hb dX7_outAll_14 rfl (lv_at hl 2 rfl) ?_
      obtain ⟨r5, hk6, hf⟩ := b1_s hf
      refine rv_i (vq := (RX7, TX7, 28)) (As := [.int l2]) (rest := [.int l1]) (bs' := [pMo κ qm m_state m_tape m_taped m_fault m_broken m_brokenAt m_spot m_here m_token m_value m_ends m_letters m_moments m_stepsAt m_steps m_latest m_matrix m_sides m_tried m_answers m_rowOf m_whole m_shares m_isKept m_lanes m_lengths m_cells m_torn]) C0 hw (cMo_isTurning l D κ qm m_state m_tape m_taped m_fault m_broken m_brokenAt m_spot m_here m_token m_value m_ends m_letters m_moments m_stepsAt m_steps m_latest m_matrix m_sides m_tried m_answers m_rowOf m_whole m_shares m_isKept m_lanes m_lengths m_cells m_torn l2 r5 hk6) cv_RX7_177 ⟨rfl, rfl, Nat.le_of_ble_eq_true rfl, Nat.le_of_ble_eq_true rfl⟩ ⟨Nat.zero_le _, Nat.zero_le _⟩ [0] [] [0] rfl rfl rfl rfl (by decide) rfl rfl rfl rfl rfl hl.1 (by simp only [List.map, List.sum_cons, List.sum_nil, Value.category]; decide) dX7_outAll_15 (fun H locs hw hn7 => ?_)
      refine lv_if_eq (tgt := 32) hx hb dX7_outAll_18 (by decide) (fun hc8 => ?_) (fun hc8 => ?_)
      · have hf := if_t hc8 hf
        refine lv_iconst (v := 0) hx hb dX7_outAll_32 (by decide) ?_
        refine lv_iadd hx hb dX7_outAll_33 ?_
        refine lv_topi (fun v9 ev9 => ?_)
        have hf := lt_s_ hf v9 ev9
        refine lv_istore_n (lv' := [(1, .int v9), (0, .ref (qm 0)), (2, .int l2)]) hx hb dX7_outAll_34 rfl hl (by decide) rfl (fun ls hl => ?_)
        obtain ⟨v10, ev10⟩ : ∃ z : Int32, z = (l2 + (1 : Int32)) := ⟨_, rfl⟩
        have hf := lt_s_ hf v10 ev10
        refine lv_iinc (v := v10) (lv' := [(2, .int v10), (1, .int v9), (0, .ref (qm 0))]) hx hb dX7_outAll_35 hl (k := 2) rfl (by rw [ev10]; rfl) (by decide) rfl (fun ls hl => ?_)
        refine lv_goto (tgt := 4) hx hb dX7_outAll_38 (by decide) ?_
        exact ih v9 v10 H locs ls hw (lv_sub hl [2, 1, 0] rfl)  hf
      · have hf := if_f hc8 hf
        refine lv_aload_n hx hb dX7_outAll_21 rfl (lv_at hl 0 rfl) ?_
        refine lv_iload_n hx hb dX7_outAll_22 rfl (lv_at hl 2 rfl) ?_
        obtain ⟨r11, hk12, hf⟩ := b1_s hf
        refine rv_i (vq := (RX7, TX7, 28)) (As := [.int l2]) (rest := [.int l1]) (bs' := [pMo κ qm m_state m_tape m_taped m_fault m_broken m_brokenAt m_spot m_here m_token m_value m_ends m_letters m_moments m_stepsAt m_steps m_latest m_matrix m_sides m_tried m_answers m_rowOf m_whole m_shares m_isKept m_lanes m_lengths m_cells m_torn]) C0 hw (cMo_outOf l D κ qm m_state m_tape m_taped m_fault m_broken m_brokenAt m_spot m_here m_token m_value m_ends m_letters m_moments m_stepsAt m_steps m_latest m_matrix m_sides m_tried m_answers m_rowOf m_whole m_shares m_isKept m_lanes m_lengths m_cells m_torn l2 r11 hk12) cv_RX7_180 ⟨rfl, rfl, Nat.le_of_ble_eq_true rfl, Nat.le_of_ble_eq_true rfl⟩ ⟨Nat.zero_le _, Nat.zero_le _⟩ [0] [] [0] rfl rfl rfl rfl (by decide) rfl rfl rfl rfl rfl hl.1 (by simp only [List.map, List.sum_cons, List.sum_nil, Value.category]; decide) dX7_outAll_23 (fun H locs hw hn13 => ?_)
        obtain ⟨r14, hk15, hf⟩ := b1_s hf
        refine rs_i (As := [.int r11]) (rest := [.int l1]) (bs' := [pMo κ qm m_state m_tape m_taped m_fault m_broken m_brokenAt m_spot m_here m_token m_value m_ends m_letters m_moments m_stepsAt m_steps m_latest m_matrix m_sides m_tried m_answers m_rowOf m_whole m_shares m_isKept m_lanes m_lengths m_cells m_torn]) C0 hw (cMo_size l D κ r11 r14 hk15) cs_X7_189 ⟨rfl, rfl, Nat.le_of_ble_eq_true rfl, Nat.le_of_ble_eq_true rfl⟩ ⟨Nat.zero_le _, Nat.zero_le _⟩ [] [0] [0] rfl rfl rfl rfl (by decide) rfl rfl rfl hl.1 (by simp only [List.map, List.sum_cons, List.sum_nil, Value.category]; decide) dX7_outAll_26 (fun H locs hw hn16 => ?_)
        refine lv_goto (tgt := 33) hx hb dX7_outAll_29 (by decide) ?_
        refine lv_iadd hx hb dX7_outAll_33 ?_
        refine lv_topi (fun v17 ev17 => ?_)
        have hf := lt_s_ hf v17 ev17
        refine lv_istore_n (lv' := [(1, .int v17), (0, .ref (qm 0)), (2, .int l2)]) hx hb dX7_outAll_34 rfl hl (by decide) rfl (fun ls hl => ?_)
        obtain ⟨v18, ev18⟩ : ∃ z : Int32, z = (l2 + (1 : Int32)) := ⟨_, rfl⟩
        have hf := lt_s_ hf v18 ev18
        refine lv_iinc (v := v18) (lv' := [(2, .int v18), (1, .int v17), (0, .ref (qm 0))]) hx hb dX7_outAll_35 hl (k := 2) rfl (by rw [ev18]; rfl) (by decide) rfl (fun ls hl => ?_)
        refine lv_goto (tgt := 4) hx hb dX7_outAll_38 (by decide) ?_
        exact ih v17 v18 H locs ls hw (lv_sub hl [2, 1, 0] rfl)  hf
set_option maxHeartbeats 4000000 in
set_option maxRecDepth 100000 in
theorem cMo_outAll (l : Launch) (D : va_G) (κ : Nat → ClassId) (qm : Nat → Nat) (m_state m_tape : Nat → Int32) (m_taped m_fault m_broken m_brokenAt m_spot m_here m_token m_value : Int32) (m_ends m_letters m_moments m_stepsAt : Nat → Int32) (m_steps m_latest : Int32) (m_matrix m_sides m_tried m_answers : Nat → Int64) (m_rowOf : Nat → Int32) (m_whole : Int64) (m_shares m_isKept m_lanes m_lengths m_cells : Nat → Int32) (m_torn zr : Int32) (hf : FMo_outAll m_state m_moments = some zr) : mI_ l yX7_outAll (Cond.code yX7_outAll cX7_outAll 3 (some .int) :: uw) ({ frames := 3, cells := 0, slots := 0, locals := 65 } : Room) D (tys0 κ) [.ref (qm 0)] (List.flatten [pMo κ qm m_state m_tape m_taped m_fault m_broken m_brokenAt m_spot m_here m_token m_value m_ends m_letters m_moments m_stepsAt m_steps m_latest m_matrix m_sides m_tried m_answers m_rowOf m_whole m_shares m_isKept m_lanes m_lengths m_cells m_torn]) nT_ zr (List.flatten [pMo κ qm m_state m_tape m_taped m_fault m_broken m_brokenAt m_spot m_here m_token m_value m_ends m_letters m_moments m_stepsAt m_steps m_latest m_matrix m_sides m_tried m_answers m_rowOf m_whole m_shares m_isKept m_lanes m_lengths m_cells m_torn]) := by
  unfold FMo_outAll at hf
  refine mI_of (by decide) (Nat.le_of_ble_eq_true rfl) ?_
  intro p e s m below meth c A ls H locs C0 hw hl
  obtain ⟨hx, hb, -, hml, hown, hts, -, -⟩ := id C0
  have hl : lv_has ls 3 [(0, .ref (qm 0))] := hl
  refine lv_iconst (v := 0) hx hb dX7_outAll_0 (by decide) ?_
  refine lv_istore_n (lv' := [(1, .int (0 : Int32)), (0, .ref (qm 0))]) hx hb dX7_outAll_1 rfl hl (by decide) rfl (fun ls hl => ?_)
  refine lv_iconst (v := 0) hx hb dX7_outAll_2 (by decide) ?_
  refine lv_istore_n (lv' := [(2, .int (0 : Int32)), (1, .int (0 : Int32)), (0, .ref (qm 0))]) hx hb dX7_outAll_3 rfl hl (by decide) rfl (fun ls hl => ?_)
  exact wMo_outAll_L4 C0 qm m_state m_tape m_taped m_fault m_broken m_brokenAt m_spot m_here m_token m_value m_ends m_letters m_moments m_stepsAt m_steps m_latest m_matrix m_sides m_tried m_answers m_rowOf m_whole m_shares m_isKept m_lanes m_lengths m_cells m_torn zr 1000 (0 : Int32) (0 : Int32) H locs ls hw (lv_sub hl [2, 1, 0] rfl)  hf
def FMo_rule (m_state m_moments : Nat → Int32) (m_steps m_latest a1 : Int32) : Option (Int32) :=
  if a1 = 0 then
    b1_ (FMo_joints m_state) fun r2 =>
    some (r2)
  else
  if a1 = 1 then
    b1_ (FMo_turning m_state (0 : Int32)) fun r6 =>
    some (r6)
  else
  if a1 = 2 then
    b1_ (FMo_beams m_state) fun r10 =>
    some (r10)
  else
  if a1 = 3 then
    b1_ (FMo_loads m_state) fun r14 =>
    some (r14)
  else
  if a1 = 4 then
    some (m_steps)
  else
  if a1 = 5 then
    b1_ (FMo_looseMany m_state m_moments) fun r19 =>
    some (r19)
  else
  if a1 = 6 then
    b1_ (FMo_outAll m_state m_moments) fun r23 =>
    some (r23)
  else
  if a1 = 7 then
    some (m_latest)
  else
  some ((-1 : Int32))
set_option maxHeartbeats 4000000 in
set_option maxRecDepth 100000 in
theorem cMo_rule (l : Launch) (D : va_G) (κ : Nat → ClassId) (qm : Nat → Nat) (m_state m_tape : Nat → Int32) (m_taped m_fault m_broken m_brokenAt m_spot m_here m_token m_value : Int32) (m_ends m_letters m_moments m_stepsAt : Nat → Int32) (m_steps m_latest : Int32) (m_matrix m_sides m_tried m_answers : Nat → Int64) (m_rowOf : Nat → Int32) (m_whole : Int64) (m_shares m_isKept m_lanes m_lengths m_cells : Nat → Int32) (m_torn a1 zr : Int32) (hf : FMo_rule m_state m_moments m_steps m_latest a1 = some zr) : mI_ l yX7_rule (Cond.code yX7_rule cX7_rule 2 (some .int) :: uw) ({ frames := 5, cells := 0, slots := 0, locals := 108 } : Room) D (tys0 κ) [.ref (qm 0), .int a1] (List.flatten [pMo κ qm m_state m_tape m_taped m_fault m_broken m_brokenAt m_spot m_here m_token m_value m_ends m_letters m_moments m_stepsAt m_steps m_latest m_matrix m_sides m_tried m_answers m_rowOf m_whole m_shares m_isKept m_lanes m_lengths m_cells m_torn]) nT_ zr (List.flatten [pMo κ qm m_state m_tape m_taped m_fault m_broken m_brokenAt m_spot m_here m_token m_value m_ends m_letters m_moments m_stepsAt m_steps m_latest m_matrix m_sides m_tried m_answers m_rowOf m_whole m_shares m_isKept m_lanes m_lengths m_cells m_torn]) := by
  unfold FMo_rule at hf
  refine mI_of (by decide) (Nat.le_of_ble_eq_true rfl) ?_
  intro p e s m below meth c A ls H locs C0 hw hl
  obtain ⟨hx, hb, -, hml, hown, hts, -, -⟩ := id C0
  have hl : lv_has ls 2 [(0, .ref (qm 0)), (1, .int a1)] := hl
  refine lv_iload_n hx hb dX7_rule_0 rfl (lv_at hl 1 rfl) ?_
  by_cases hc1 : a1 = 0
  · have hf := if_t hc1 hf
    refine lv_tableIn (tgt := 48) hx hb dX7_rule_1 (by rw [hc1]; decide) (by rw [hc1]; decide) (by rw [hc1]; rfl) (by decide) ?_
    refine lv_aload_n hx hb dX7_rule_48 rfl (lv_at hl 0 rfl) ?_
    obtain ⟨r2, hk3, hf⟩ := b1_s hf
    refine rv_i (vq := (RX7, TX7, 28)) (As := []) (rest := []) (bs' := [pMo κ qm m_state m_tape m_taped m_fault m_broken m_brokenAt m_spot m_here m_token m_value m_ends m_letters m_moments m_stepsAt m_steps m_latest m_matrix m_sides m_tried m_answers m_rowOf m_whole m_shares m_isKept m_lanes m_lengths m_cells m_torn]) C0 hw (cMo_joints l D κ qm m_state m_tape m_taped m_fault m_broken m_brokenAt m_spot m_here m_token m_value m_ends m_letters m_moments m_stepsAt m_steps m_latest m_matrix m_sides m_tried m_answers m_rowOf m_whole m_shares m_isKept m_lanes m_lengths m_cells m_torn r2 hk3) cv_RX7_183 ⟨rfl, rfl, Nat.le_of_ble_eq_true rfl, Nat.le_of_ble_eq_true rfl⟩ ⟨Nat.zero_le _, Nat.zero_le _⟩ [0] [] [0] rfl rfl rfl rfl (by decide) rfl rfl rfl rfl rfl hl.1 (by simp only [List.map, List.sum_cons, List.sum_nil, Value.category]; decide) dX7_rule_49 (fun H locs hw hn4 => ?_)
    obtain rfl := e1_ hf
    exact r_iret C0 hw trivial dX7_rule_52
  have hf := if_f hc1 hf
  by_cases hc5 : a1 = 1
  · have hf := if_t hc5 hf
    refine lv_tableIn (tgt := 53) hx hb dX7_rule_1 (by rw [hc5]; decide) (by rw [hc5]; decide) (by rw [hc5]; rfl) (by decide) ?_
    refine lv_aload_n hx hb dX7_rule_53 rfl (lv_at hl 0 rfl) ?_
    refine lv_iconst (v := 0) hx hb dX7_rule_54 (by decide) ?_
    obtain ⟨r6, hk7, hf⟩ := b1_s hf
    refine rv_i (vq := (RX7, TX7, 28)) (As := [.int (0 : Int32)]) (rest := []) (bs' := [pMo κ qm m_state m_tape m_taped m_fault m_broken m_brokenAt m_spot m_here m_token m_value m_ends m_letters m_moments m_stepsAt m_steps m_latest m_matrix m_sides m_tried m_answers m_rowOf m_whole m_shares m_isKept m_lanes m_lengths m_cells m_torn]) C0 hw (cMo_turning l D κ qm m_state m_tape m_taped m_fault m_broken m_brokenAt m_spot m_here m_token m_value m_ends m_letters m_moments m_stepsAt m_steps m_latest m_matrix m_sides m_tried m_answers m_rowOf m_whole m_shares m_isKept m_lanes m_lengths m_cells m_torn (0 : Int32) r6 hk7) cv_RX7_110 ⟨rfl, rfl, Nat.le_of_ble_eq_true rfl, Nat.le_of_ble_eq_true rfl⟩ ⟨Nat.zero_le _, Nat.zero_le _⟩ [0] [] [0] rfl rfl rfl rfl (by decide) rfl rfl rfl rfl rfl hl.1 (by simp only [List.map, List.sum_cons, List.sum_nil, Value.category]; decide) dX7_rule_55 (fun H locs hw hn8 => ?_)
    obtain rfl := e1_ hf
    exact r_iret C0 hw trivial dX7_rule_58
  have hf := if_f hc5 hf
  by_cases hc9 : a1 = 2
  · have hf := if_t hc9 hf
    refine lv_tableIn (tgt := 59) hx hb dX7_rule_1 (by rw [hc9]; decide) (by rw [hc9]; decide) (by rw [hc9]; rfl) (by decide) ?_
    refine lv_aload_n hx hb dX7_rule_59 rfl (lv_at hl 0 rfl) ?_
    obtain ⟨r10, hk11, hf⟩ := b1_s hf
    refine rv_i (vq := (RX7, TX7, 28)) (As := []) (rest := []) (bs' := [pMo κ qm m_state m_tape m_taped m_fault m_broken m_brokenAt m_spot m_here m_token m_value m_ends m_letters m_moments m_stepsAt m_steps m_latest m_matrix m_sides m_tried m_answers m_rowOf m_whole m_shares m_isKept m_lanes m_lengths m_cells m_torn]) C0 hw (cMo_beams l D κ qm m_state m_tape m_taped m_fault m_broken m_brokenAt m_spot m_here m_token m_value m_ends m_letters m_moments m_stepsAt m_steps m_latest m_matrix m_sides m_tried m_answers m_rowOf m_whole m_shares m_isKept m_lanes m_lengths m_cells m_torn r10 hk11) cv_RX7_162 ⟨rfl, rfl, Nat.le_of_ble_eq_true rfl, Nat.le_of_ble_eq_true rfl⟩ ⟨Nat.zero_le _, Nat.zero_le _⟩ [0] [] [0] rfl rfl rfl rfl (by decide) rfl rfl rfl rfl rfl hl.1 (by simp only [List.map, List.sum_cons, List.sum_nil, Value.category]; decide) dX7_rule_60 (fun H locs hw hn12 => ?_)
    obtain rfl := e1_ hf
    exact r_iret C0 hw trivial dX7_rule_63
  have hf := if_f hc9 hf
  by_cases hc13 : a1 = 3
  · have hf := if_t hc13 hf
    refine lv_tableIn (tgt := 64) hx hb dX7_rule_1 (by rw [hc13]; decide) (by rw [hc13]; decide) (by rw [hc13]; rfl) (by decide) ?_
    refine lv_aload_n hx hb dX7_rule_64 rfl (lv_at hl 0 rfl) ?_
    obtain ⟨r14, hk15, hf⟩ := b1_s hf
    refine rv_i (vq := (RX7, TX7, 28)) (As := []) (rest := []) (bs' := [pMo κ qm m_state m_tape m_taped m_fault m_broken m_brokenAt m_spot m_here m_token m_value m_ends m_letters m_moments m_stepsAt m_steps m_latest m_matrix m_sides m_tried m_answers m_rowOf m_whole m_shares m_isKept m_lanes m_lengths m_cells m_torn]) C0 hw (cMo_loads l D κ qm m_state m_tape m_taped m_fault m_broken m_brokenAt m_spot m_here m_token m_value m_ends m_letters m_moments m_stepsAt m_steps m_latest m_matrix m_sides m_tried m_answers m_rowOf m_whole m_shares m_isKept m_lanes m_lengths m_cells m_torn r14 hk15) cv_RX7_152 ⟨rfl, rfl, Nat.le_of_ble_eq_true rfl, Nat.le_of_ble_eq_true rfl⟩ ⟨Nat.zero_le _, Nat.zero_le _⟩ [0] [] [0] rfl rfl rfl rfl (by decide) rfl rfl rfl rfl rfl hl.1 (by simp only [List.map, List.sum_cons, List.sum_nil, Value.category]; decide) dX7_rule_65 (fun H locs hw hn16 => ?_)
    obtain rfl := e1_ hf
    exact r_iret C0 hw trivial dX7_rule_68
  have hf := if_f hc13 hf
  by_cases hc17 : a1 = 4
  · have hf := if_t hc17 hf
    refine lv_tableIn (tgt := 69) hx hb dX7_rule_1 (by rw [hc17]; decide) (by rw [hc17]; decide) (by rw [hc17]; rfl) (by decide) ?_
    refine lv_aload_n hx hb dX7_rule_69 rfl (lv_at hl 0 rfl) ?_
    refine r_get C0 hw 0 14 (v := .int m_steps) rfl rfl inX7 (by decide) lk_X7_159 rfl dX7_rule_70 ?_
    obtain rfl := e1_ hf
    exact r_iret C0 hw trivial dX7_rule_73
  have hf := if_f hc17 hf
  by_cases hc18 : a1 = 5
  · have hf := if_t hc18 hf
    refine lv_tableIn (tgt := 74) hx hb dX7_rule_1 (by rw [hc18]; decide) (by rw [hc18]; decide) (by rw [hc18]; rfl) (by decide) ?_
    refine lv_aload_n hx hb dX7_rule_74 rfl (lv_at hl 0 rfl) ?_
    obtain ⟨r19, hk20, hf⟩ := b1_s hf
    refine rv_i (vq := (RX7, TX7, 28)) (As := []) (rest := []) (bs' := [pMo κ qm m_state m_tape m_taped m_fault m_broken m_brokenAt m_spot m_here m_token m_value m_ends m_letters m_moments m_stepsAt m_steps m_latest m_matrix m_sides m_tried m_answers m_rowOf m_whole m_shares m_isKept m_lanes m_lengths m_cells m_torn]) C0 hw (cMo_looseMany l D κ qm m_state m_tape m_taped m_fault m_broken m_brokenAt m_spot m_here m_token m_value m_ends m_letters m_moments m_stepsAt m_steps m_latest m_matrix m_sides m_tried m_answers m_rowOf m_whole m_shares m_isKept m_lanes m_lengths m_cells m_torn r19 hk20) cv_RX7_192 ⟨rfl, rfl, Nat.le_of_ble_eq_true rfl, Nat.le_of_ble_eq_true rfl⟩ ⟨Nat.zero_le _, Nat.zero_le _⟩ [0] [] [0] rfl rfl rfl rfl (by decide) rfl rfl rfl rfl rfl hl.1 (by simp only [List.map, List.sum_cons, List.sum_nil, Value.category]; decide) dX7_rule_75 (fun H locs hw hn21 => ?_)
    obtain rfl := e1_ hf
    exact r_iret C0 hw trivial dX7_rule_78
  have hf := if_f hc18 hf
  by_cases hc22 : a1 = 6
  · have hf := if_t hc22 hf
    refine lv_tableIn (tgt := 79) hx hb dX7_rule_1 (by rw [hc22]; decide) (by rw [hc22]; decide) (by rw [hc22]; rfl) (by decide) ?_
    refine lv_aload_n hx hb dX7_rule_79 rfl (lv_at hl 0 rfl) ?_
    obtain ⟨r23, hk24, hf⟩ := b1_s hf
    refine rv_i (vq := (RX7, TX7, 28)) (As := []) (rest := []) (bs' := [pMo κ qm m_state m_tape m_taped m_fault m_broken m_brokenAt m_spot m_here m_token m_value m_ends m_letters m_moments m_stepsAt m_steps m_latest m_matrix m_sides m_tried m_answers m_rowOf m_whole m_shares m_isKept m_lanes m_lengths m_cells m_torn]) C0 hw (cMo_outAll l D κ qm m_state m_tape m_taped m_fault m_broken m_brokenAt m_spot m_here m_token m_value m_ends m_letters m_moments m_stepsAt m_steps m_latest m_matrix m_sides m_tried m_answers m_rowOf m_whole m_shares m_isKept m_lanes m_lengths m_cells m_torn r23 hk24) cv_RX7_195 ⟨rfl, rfl, Nat.le_of_ble_eq_true rfl, Nat.le_of_ble_eq_true rfl⟩ ⟨Nat.zero_le _, Nat.zero_le _⟩ [0] [] [0] rfl rfl rfl rfl (by decide) rfl rfl rfl rfl rfl hl.1 (by simp only [List.map, List.sum_cons, List.sum_nil, Value.category]; decide) dX7_rule_80 (fun H locs hw hn25 => ?_)
    obtain rfl := e1_ hf
    exact r_iret C0 hw trivial dX7_rule_83
  have hf := if_f hc22 hf
  by_cases hc26 : a1 = 7
  · have hf := if_t hc26 hf
    refine lv_tableIn (tgt := 84) hx hb dX7_rule_1 (by rw [hc26]; decide) (by rw [hc26]; decide) (by rw [hc26]; rfl) (by decide) ?_
    refine lv_aload_n hx hb dX7_rule_84 rfl (lv_at hl 0 rfl) ?_
    refine r_get C0 hw 0 15 (v := .int m_latest) rfl rfl inX7 (by decide) lk_X7_28 rfl dX7_rule_85 ?_
    obtain rfl := e1_ hf
    exact r_iret C0 hw trivial dX7_rule_88
  have hf := if_f hc26 hf
  have hc1 := lv_neT (a := 0) hc1 (by decide)
  have hc5 := lv_neT (a := 1) hc5 (by decide)
  have hc9 := lv_neT (a := 2) hc9 (by decide)
  have hc13 := lv_neT (a := 3) hc13 (by decide)
  have hc17 := lv_neT (a := 4) hc17 (by decide)
  have hc18 := lv_neT (a := 5) hc18 (by decide)
  have hc22 := lv_neT (a := 6) hc22 (by decide)
  have hc26 := lv_neT (a := 7) hc26 (by decide)
  refine lv_tableOut (tgt := 89) hx hb dX7_rule_1 (by omega) (by decide) ?_
  refine lv_iconst (v := -1) hx hb dX7_rule_89 (by decide) ?_
  obtain rfl := e1_ hf
  exact r_iret C0 hw trivial dX7_rule_90
def FMo_isJoint (m_state : Nat → Int32) (a1 : Int32) : Option (Int32) :=
  b1_ (FMo_joints m_state) fun r1 =>
  b1_ (FMo_in (a1.toInt64) (0 : Int64) ((r1 - (1 : Int32)).toInt64)) fun r4 =>
  some (r4)
set_option maxHeartbeats 4000000 in
set_option maxRecDepth 100000 in
theorem cMo_isJoint (l : Launch) (D : va_G) (κ : Nat → ClassId) (qm : Nat → Nat) (m_state m_tape : Nat → Int32) (m_taped m_fault m_broken m_brokenAt m_spot m_here m_token m_value : Int32) (m_ends m_letters m_moments m_stepsAt : Nat → Int32) (m_steps m_latest : Int32) (m_matrix m_sides m_tried m_answers : Nat → Int64) (m_rowOf : Nat → Int32) (m_whole : Int64) (m_shares m_isKept m_lanes m_lengths m_cells : Nat → Int32) (m_torn a1 zr : Int32) (hf : FMo_isJoint m_state a1 = some zr) : mI_ l yX7_isJoint (Cond.code yX7_isJoint cX7_isJoint 2 (some .boolean) :: uw) ({ frames := 1, cells := 0, slots := 0, locals := 25 } : Room) D (tys0 κ) [.ref (qm 0), .int a1] (List.flatten [pMo κ qm m_state m_tape m_taped m_fault m_broken m_brokenAt m_spot m_here m_token m_value m_ends m_letters m_moments m_stepsAt m_steps m_latest m_matrix m_sides m_tried m_answers m_rowOf m_whole m_shares m_isKept m_lanes m_lengths m_cells m_torn]) nB_ zr (List.flatten [pMo κ qm m_state m_tape m_taped m_fault m_broken m_brokenAt m_spot m_here m_token m_value m_ends m_letters m_moments m_stepsAt m_steps m_latest m_matrix m_sides m_tried m_answers m_rowOf m_whole m_shares m_isKept m_lanes m_lengths m_cells m_torn]) := by
  unfold FMo_isJoint at hf
  refine mI_of (by decide) (Nat.le_of_ble_eq_true rfl) ?_
  intro p e s m below meth c A ls H locs C0 hw hl
  obtain ⟨hx, hb, -, hml, hown, hts, -, -⟩ := id C0
  have hl : lv_has ls 2 [(0, .ref (qm 0)), (1, .int a1)] := hl
  refine lv_iload_n hx hb dX7_isJoint_0 rfl (lv_at hl 1 rfl) ?_
  refine lv_i2l hx hb dX7_isJoint_1 rfl ?_
  refine lv_lconst (v := 0) hx hb dX7_isJoint_2 (by decide) ?_
  refine lv_aload_n hx hb dX7_isJoint_3 rfl (lv_at hl 0 rfl) ?_
  obtain ⟨r1, hk2, hf⟩ := b1_s hf
  refine rv_i (vq := (RX7, TX7, 28)) (As := []) (rest := [.long (0 : Int64), .long (a1.toInt64)]) (bs' := [pMo κ qm m_state m_tape m_taped m_fault m_broken m_brokenAt m_spot m_here m_token m_value m_ends m_letters m_moments m_stepsAt m_steps m_latest m_matrix m_sides m_tried m_answers m_rowOf m_whole m_shares m_isKept m_lanes m_lengths m_cells m_torn]) C0 hw (cMo_joints l D κ qm m_state m_tape m_taped m_fault m_broken m_brokenAt m_spot m_here m_token m_value m_ends m_letters m_moments m_stepsAt m_steps m_latest m_matrix m_sides m_tried m_answers m_rowOf m_whole m_shares m_isKept m_lanes m_lengths m_cells m_torn r1 hk2) cv_RX7_183 ⟨rfl, rfl, Nat.le_of_ble_eq_true rfl, Nat.le_of_ble_eq_true rfl⟩ ⟨Nat.zero_le _, Nat.zero_le _⟩ [0] [] [0] rfl rfl rfl rfl (by decide) rfl rfl rfl rfl rfl hl.1 (by simp only [List.map, List.sum_cons, List.sum_nil, Value.category]; decide) dX7_isJoint_4 (fun H locs hw hn3 => ?_)
  refine lv_iconst (v := 1) hx hb dX7_isJoint_7 (by decide) ?_
  refine lv_isub hx hb dX7_isJoint_8 ?_
  refine lv_i2l hx hb dX7_isJoint_9 rfl ?_
  obtain ⟨r4, hk5, hf⟩ := b1_s hf
  refine rs_i (As := [.long (a1.toInt64), .long (0 : Int64), .long ((r1 - (1 : Int32)).toInt64)]) (rest := []) (bs' := [pMo κ qm m_state m_tape m_taped m_fault m_broken m_brokenAt m_spot m_here m_token m_value m_ends m_letters m_moments m_stepsAt m_steps m_latest m_matrix m_sides m_tried m_answers m_rowOf m_whole m_shares m_isKept m_lanes m_lengths m_cells m_torn]) C0 hw (cMo_in l D κ (a1.toInt64) (0 : Int64) ((r1 - (1 : Int32)).toInt64) r4 hk5) cs_X7_66 ⟨rfl, rfl, Nat.le_of_ble_eq_true rfl, Nat.le_of_ble_eq_true rfl⟩ ⟨Nat.zero_le _, Nat.zero_le _⟩ [] [0] [0] rfl rfl rfl rfl (by decide) rfl rfl rfl hl.1 (by simp only [List.map, List.sum_cons, List.sum_nil, Value.category]; decide) dX7_isJoint_10 (fun H locs hw hn6 => ?_)
  obtain rfl := e1_ hf
  exact r_zret C0 hw hn6 dX7_isJoint_13
def FMo_isBeam (m_state : Nat → Int32) (a1 : Int32) : Option (Int32) :=
  b1_ (FMo_beams m_state) fun r1 =>
  b1_ (FMo_in (a1.toInt64) (0 : Int64) ((r1 - (1 : Int32)).toInt64)) fun r4 =>
  some (r4)
set_option maxHeartbeats 4000000 in
set_option maxRecDepth 100000 in
theorem cMo_isBeam (l : Launch) (D : va_G) (κ : Nat → ClassId) (qm : Nat → Nat) (m_state m_tape : Nat → Int32) (m_taped m_fault m_broken m_brokenAt m_spot m_here m_token m_value : Int32) (m_ends m_letters m_moments m_stepsAt : Nat → Int32) (m_steps m_latest : Int32) (m_matrix m_sides m_tried m_answers : Nat → Int64) (m_rowOf : Nat → Int32) (m_whole : Int64) (m_shares m_isKept m_lanes m_lengths m_cells : Nat → Int32) (m_torn a1 zr : Int32) (hf : FMo_isBeam m_state a1 = some zr) : mI_ l yX7_isBeam (Cond.code yX7_isBeam cX7_isBeam 2 (some .boolean) :: uw) ({ frames := 1, cells := 0, slots := 0, locals := 25 } : Room) D (tys0 κ) [.ref (qm 0), .int a1] (List.flatten [pMo κ qm m_state m_tape m_taped m_fault m_broken m_brokenAt m_spot m_here m_token m_value m_ends m_letters m_moments m_stepsAt m_steps m_latest m_matrix m_sides m_tried m_answers m_rowOf m_whole m_shares m_isKept m_lanes m_lengths m_cells m_torn]) nB_ zr (List.flatten [pMo κ qm m_state m_tape m_taped m_fault m_broken m_brokenAt m_spot m_here m_token m_value m_ends m_letters m_moments m_stepsAt m_steps m_latest m_matrix m_sides m_tried m_answers m_rowOf m_whole m_shares m_isKept m_lanes m_lengths m_cells m_torn]) := by
  unfold FMo_isBeam at hf
  refine mI_of (by decide) (Nat.le_of_ble_eq_true rfl) ?_
  intro p e s m below meth c A ls H locs C0 hw hl
  obtain ⟨hx, hb, -, hml, hown, hts, -, -⟩ := id C0
  have hl : lv_has ls 2 [(0, .ref (qm 0)), (1, .int a1)] := hl
  refine lv_iload_n hx hb dX7_isBeam_0 rfl (lv_at hl 1 rfl) ?_
  refine lv_i2l hx hb dX7_isBeam_1 rfl ?_
  refine lv_lconst (v := 0) hx hb dX7_isBeam_2 (by decide) ?_
  refine lv_aload_n hx hb dX7_isBeam_3 rfl (lv_at hl 0 rfl) ?_
  obtain ⟨r1, hk2, hf⟩ := b1_s hf
  refine rv_i (vq := (RX7, TX7, 28)) (As := []) (rest := [.long (0 : Int64), .long (a1.toInt64)]) (bs' := [pMo κ qm m_state m_tape m_taped m_fault m_broken m_brokenAt m_spot m_here m_token m_value m_ends m_letters m_moments m_stepsAt m_steps m_latest m_matrix m_sides m_tried m_answers m_rowOf m_whole m_shares m_isKept m_lanes m_lengths m_cells m_torn]) C0 hw (cMo_beams l D κ qm m_state m_tape m_taped m_fault m_broken m_brokenAt m_spot m_here m_token m_value m_ends m_letters m_moments m_stepsAt m_steps m_latest m_matrix m_sides m_tried m_answers m_rowOf m_whole m_shares m_isKept m_lanes m_lengths m_cells m_torn r1 hk2) cv_RX7_162 ⟨rfl, rfl, Nat.le_of_ble_eq_true rfl, Nat.le_of_ble_eq_true rfl⟩ ⟨Nat.zero_le _, Nat.zero_le _⟩ [0] [] [0] rfl rfl rfl rfl (by decide) rfl rfl rfl rfl rfl hl.1 (by simp only [List.map, List.sum_cons, List.sum_nil, Value.category]; decide) dX7_isBeam_4 (fun H locs hw hn3 => ?_)
  refine lv_iconst (v := 1) hx hb dX7_isBeam_7 (by decide) ?_
  refine lv_isub hx hb dX7_isBeam_8 ?_
  refine lv_i2l hx hb dX7_isBeam_9 rfl ?_
  obtain ⟨r4, hk5, hf⟩ := b1_s hf
  refine rs_i (As := [.long (a1.toInt64), .long (0 : Int64), .long ((r1 - (1 : Int32)).toInt64)]) (rest := []) (bs' := [pMo κ qm m_state m_tape m_taped m_fault m_broken m_brokenAt m_spot m_here m_token m_value m_ends m_letters m_moments m_stepsAt m_steps m_latest m_matrix m_sides m_tried m_answers m_rowOf m_whole m_shares m_isKept m_lanes m_lengths m_cells m_torn]) C0 hw (cMo_in l D κ (a1.toInt64) (0 : Int64) ((r1 - (1 : Int32)).toInt64) r4 hk5) cs_X7_66 ⟨rfl, rfl, Nat.le_of_ble_eq_true rfl, Nat.le_of_ble_eq_true rfl⟩ ⟨Nat.zero_le _, Nat.zero_le _⟩ [] [0] [0] rfl rfl rfl rfl (by decide) rfl rfl rfl hl.1 (by simp only [List.map, List.sum_cons, List.sum_nil, Value.category]; decide) dX7_isBeam_10 (fun H locs hw hn6 => ?_)
  obtain rfl := e1_ hf
  exact r_zret C0 hw hn6 dX7_isBeam_13
def FMo_isEnd (m_state : Nat → Int32) (a1 : Int32) : Option (Int32) :=
  b1_ (FMo_beams m_state) fun r1 =>
  b1_ (FMo_in (a1.toInt64) (0 : Int64) ((((2 : Int32) * r1) - (1 : Int32)).toInt64)) fun r4 =>
  some (r4)
set_option maxHeartbeats 4000000 in
set_option maxRecDepth 100000 in
theorem cMo_isEnd (l : Launch) (D : va_G) (κ : Nat → ClassId) (qm : Nat → Nat) (m_state m_tape : Nat → Int32) (m_taped m_fault m_broken m_brokenAt m_spot m_here m_token m_value : Int32) (m_ends m_letters m_moments m_stepsAt : Nat → Int32) (m_steps m_latest : Int32) (m_matrix m_sides m_tried m_answers : Nat → Int64) (m_rowOf : Nat → Int32) (m_whole : Int64) (m_shares m_isKept m_lanes m_lengths m_cells : Nat → Int32) (m_torn a1 zr : Int32) (hf : FMo_isEnd m_state a1 = some zr) : mI_ l yX7_isEnd (Cond.code yX7_isEnd cX7_isEnd 2 (some .boolean) :: uw) ({ frames := 1, cells := 0, slots := 0, locals := 25 } : Room) D (tys0 κ) [.ref (qm 0), .int a1] (List.flatten [pMo κ qm m_state m_tape m_taped m_fault m_broken m_brokenAt m_spot m_here m_token m_value m_ends m_letters m_moments m_stepsAt m_steps m_latest m_matrix m_sides m_tried m_answers m_rowOf m_whole m_shares m_isKept m_lanes m_lengths m_cells m_torn]) nB_ zr (List.flatten [pMo κ qm m_state m_tape m_taped m_fault m_broken m_brokenAt m_spot m_here m_token m_value m_ends m_letters m_moments m_stepsAt m_steps m_latest m_matrix m_sides m_tried m_answers m_rowOf m_whole m_shares m_isKept m_lanes m_lengths m_cells m_torn]) := by
  unfold FMo_isEnd at hf
  refine mI_of (by decide) (Nat.le_of_ble_eq_true rfl) ?_
  intro p e s m below meth c A ls H locs C0 hw hl
  obtain ⟨hx, hb, -, hml, hown, hts, -, -⟩ := id C0
  have hl : lv_has ls 2 [(0, .ref (qm 0)), (1, .int a1)] := hl
  refine lv_iload_n hx hb dX7_isEnd_0 rfl (lv_at hl 1 rfl) ?_
  refine lv_i2l hx hb dX7_isEnd_1 rfl ?_
  refine lv_lconst (v := 0) hx hb dX7_isEnd_2 (by decide) ?_
  refine lv_iconst (v := 2) hx hb dX7_isEnd_3 (by decide) ?_
  refine lv_aload_n hx hb dX7_isEnd_4 rfl (lv_at hl 0 rfl) ?_
  obtain ⟨r1, hk2, hf⟩ := b1_s hf
  refine rv_i (vq := (RX7, TX7, 28)) (As := []) (rest := [.int (2 : Int32), .long (0 : Int64), .long (a1.toInt64)]) (bs' := [pMo κ qm m_state m_tape m_taped m_fault m_broken m_brokenAt m_spot m_here m_token m_value m_ends m_letters m_moments m_stepsAt m_steps m_latest m_matrix m_sides m_tried m_answers m_rowOf m_whole m_shares m_isKept m_lanes m_lengths m_cells m_torn]) C0 hw (cMo_beams l D κ qm m_state m_tape m_taped m_fault m_broken m_brokenAt m_spot m_here m_token m_value m_ends m_letters m_moments m_stepsAt m_steps m_latest m_matrix m_sides m_tried m_answers m_rowOf m_whole m_shares m_isKept m_lanes m_lengths m_cells m_torn r1 hk2) cv_RX7_162 ⟨rfl, rfl, Nat.le_of_ble_eq_true rfl, Nat.le_of_ble_eq_true rfl⟩ ⟨Nat.zero_le _, Nat.zero_le _⟩ [0] [] [0] rfl rfl rfl rfl (by decide) rfl rfl rfl rfl rfl hl.1 (by simp only [List.map, List.sum_cons, List.sum_nil, Value.category]; decide) dX7_isEnd_5 (fun H locs hw hn3 => ?_)
  refine lv_imul hx hb dX7_isEnd_8 ?_
  refine lv_iconst (v := 1) hx hb dX7_isEnd_9 (by decide) ?_
  refine lv_isub hx hb dX7_isEnd_10 ?_
  refine lv_i2l hx hb dX7_isEnd_11 rfl ?_
  obtain ⟨r4, hk5, hf⟩ := b1_s hf
  refine rs_i (As := [.long (a1.toInt64), .long (0 : Int64), .long ((((2 : Int32) * r1) - (1 : Int32)).toInt64)]) (rest := []) (bs' := [pMo κ qm m_state m_tape m_taped m_fault m_broken m_brokenAt m_spot m_here m_token m_value m_ends m_letters m_moments m_stepsAt m_steps m_latest m_matrix m_sides m_tried m_answers m_rowOf m_whole m_shares m_isKept m_lanes m_lengths m_cells m_torn]) C0 hw (cMo_in l D κ (a1.toInt64) (0 : Int64) ((((2 : Int32) * r1) - (1 : Int32)).toInt64) r4 hk5) cs_X7_66 ⟨rfl, rfl, Nat.le_of_ble_eq_true rfl, Nat.le_of_ble_eq_true rfl⟩ ⟨Nat.zero_le _, Nat.zero_le _⟩ [] [0] [0] rfl rfl rfl rfl (by decide) rfl rfl rfl hl.1 (by simp only [List.map, List.sum_cons, List.sum_nil, Value.category]; decide) dX7_isEnd_12 (fun H locs hw hn6 => ?_)
  obtain rfl := e1_ hf
  exact r_zret C0 hw hn6 dX7_isEnd_15
def FMo_joint (m_state m_moments m_stepsAt : Nat → Int32) (a1 a2 : Int32) : Option (Int32) :=
  b1_ (FMo_isJoint m_state a1) fun r1 =>
  if r1 = 0 then
    some ((-1 : Int32))
  else
    if a2 = 0 then
      gd_ a1 395 <|
      some ((m_state a1.toNatClampNeg))
    else
    if a2 = 1 then
      b1_ (FMo_endsAt m_state a1) fun r8 =>
      some (r8)
    else
    if a2 = 2 then
      b1_ (FMo_stiffAt m_state a1) fun r12 =>
      some (r12)
    else
    if a2 = 3 then
      gd_ a1 6 <|
      some ((m_stepsAt a1.toNatClampNeg))
    else
    if a2 = 4 then
      b1_ (FMo_isLoose m_state m_moments a1) fun r18 =>
      if r18 = 0 then
        some ((0 : Int32))
      else
        some ((1 : Int32))
    else
    some ((-1 : Int32))
set_option maxHeartbeats 4000000 in
set_option maxRecDepth 100000 in
theorem cMo_joint (l : Launch) (D : va_G) (κ : Nat → ClassId) (qm : Nat → Nat) (m_state m_tape : Nat → Int32) (m_taped m_fault m_broken m_brokenAt m_spot m_here m_token m_value : Int32) (m_ends m_letters m_moments m_stepsAt : Nat → Int32) (m_steps m_latest : Int32) (m_matrix m_sides m_tried m_answers : Nat → Int64) (m_rowOf : Nat → Int32) (m_whole : Int64) (m_shares m_isKept m_lanes m_lengths m_cells : Nat → Int32) (m_torn a1 a2 zr : Int32) (hf : FMo_joint m_state m_moments m_stepsAt a1 a2 = some zr) : mI_ l yX7_joint (Cond.code yX7_joint cX7_joint 3 (some .int) :: uw) ({ frames := 4, cells := 0, slots := 0, locals := 86 } : Room) D (tys0 κ) [.ref (qm 0), .int a1, .int a2] (List.flatten [pMo κ qm m_state m_tape m_taped m_fault m_broken m_brokenAt m_spot m_here m_token m_value m_ends m_letters m_moments m_stepsAt m_steps m_latest m_matrix m_sides m_tried m_answers m_rowOf m_whole m_shares m_isKept m_lanes m_lengths m_cells m_torn]) nT_ zr (List.flatten [pMo κ qm m_state m_tape m_taped m_fault m_broken m_brokenAt m_spot m_here m_token m_value m_ends m_letters m_moments m_stepsAt m_steps m_latest m_matrix m_sides m_tried m_answers m_rowOf m_whole m_shares m_isKept m_lanes m_lengths m_cells m_torn]) := by
  unfold FMo_joint at hf
  refine mI_of (by decide) (Nat.le_of_ble_eq_true rfl) ?_
  intro p e s m below meth c A ls H locs C0 hw hl
  obtain ⟨hx, hb, -, hml, hown, hts, -, -⟩ := id C0
  have hl : lv_has ls 3 [(0, .ref (qm 0)), (1, .int a1), (2, .int a2)] := hl
  refine lv_aload_n hx hb dX7_joint_0 rfl (lv_at hl 0 rfl) ?_
  refine lv_iload_n hx hb dX7_joint_1 rfl (lv_at hl 1 rfl) ?_
  obtain ⟨r1, hk2, hf⟩ := b1_s hf
  refine rv_i (vq := (RX7, TX7, 28)) (As := [.int a1]) (rest := []) (bs' := [pMo κ qm m_state m_tape m_taped m_fault m_broken m_brokenAt m_spot m_here m_token m_value m_ends m_letters m_moments m_stepsAt m_steps m_latest m_matrix m_sides m_tried m_answers m_rowOf m_whole m_shares m_isKept m_lanes m_lengths m_cells m_torn]) C0 hw (cMo_isJoint l D κ qm m_state m_tape m_taped m_fault m_broken m_brokenAt m_spot m_here m_token m_value m_ends m_letters m_moments m_stepsAt m_steps m_latest m_matrix m_sides m_tried m_answers m_rowOf m_whole m_shares m_isKept m_lanes m_lengths m_cells m_torn a1 r1 hk2) cv_RX7_198 ⟨rfl, rfl, Nat.le_of_ble_eq_true rfl, Nat.le_of_ble_eq_true rfl⟩ ⟨Nat.zero_le _, Nat.zero_le _⟩ [0] [] [0] rfl rfl rfl rfl (by decide) rfl rfl rfl rfl rfl hl.1 (by simp only [List.map, List.sum_cons, List.sum_nil, Value.category]; decide) dX7_joint_2 (fun H locs hw hn3 => ?_)
  refine lv_if_ne (tgt := 10) hx hb dX7_joint_5 (by decide) (fun hc4 => ?_) (fun hc4 => ?_)
  · have hf := if_f hc4 hf
    refine lv_iload_n hx hb dX7_joint_10 rfl (lv_at hl 2 rfl) ?_
    by_cases hc5 : a2 = 0
    · have hf := if_t hc5 hf
      refine lv_tableIn (tgt := 44) hx hb dX7_joint_11 (by rw [hc5]; decide) (by rw [hc5]; decide) (by rw [hc5]; rfl) (by decide) ?_
      refine lv_aload_n hx hb dX7_joint_44 rfl (lv_at hl 0 rfl) ?_
      refine r_get C0 hw 0 0 (v := .ref (qm 1)) rfl rfl inX7 (by decide) lk_X7_7 rfl dX7_joint_45 ?_
      refine lv_iload_n hx hb dX7_joint_48 rfl (lv_at hl 1 rfl) ?_
      obtain ⟨hi6, hf⟩ := gd_s hf
      refine r_iald C0 hw 1 0 rfl rfl hi6 dX7_joint_49 ?_
      obtain rfl := e1_ hf
      exact r_iret C0 hw trivial dX7_joint_50
    have hf := if_f hc5 hf
    by_cases hc7 : a2 = 1
    · have hf := if_t hc7 hf
      refine lv_tableIn (tgt := 51) hx hb dX7_joint_11 (by rw [hc7]; decide) (by rw [hc7]; decide) (by rw [hc7]; rfl) (by decide) ?_
      refine lv_aload_n hx hb dX7_joint_51 rfl (lv_at hl 0 rfl) ?_
      refine lv_iload_n hx hb dX7_joint_52 rfl (lv_at hl 1 rfl) ?_
      obtain ⟨r8, hk9, hf⟩ := b1_s hf
      refine rv_i (vq := (RX7, TX7, 28)) (As := [.int a1]) (rest := []) (bs' := [pMo κ qm m_state m_tape m_taped m_fault m_broken m_brokenAt m_spot m_here m_token m_value m_ends m_letters m_moments m_stepsAt m_steps m_latest m_matrix m_sides m_tried m_answers m_rowOf m_whole m_shares m_isKept m_lanes m_lengths m_cells m_torn]) C0 hw (cMo_endsAt l D κ qm m_state m_tape m_taped m_fault m_broken m_brokenAt m_spot m_here m_token m_value m_ends m_letters m_moments m_stepsAt m_steps m_latest m_matrix m_sides m_tried m_answers m_rowOf m_whole m_shares m_isKept m_lanes m_lengths m_cells m_torn a1 r8 hk9) cv_RX7_174 ⟨rfl, rfl, Nat.le_of_ble_eq_true rfl, Nat.le_of_ble_eq_true rfl⟩ ⟨Nat.zero_le _, Nat.zero_le _⟩ [0] [] [0] rfl rfl rfl rfl (by decide) rfl rfl rfl rfl rfl hl.1 (by simp only [List.map, List.sum_cons, List.sum_nil, Value.category]; decide) dX7_joint_53 (fun H locs hw hn10 => ?_)
      obtain rfl := e1_ hf
      exact r_iret C0 hw trivial dX7_joint_56
    have hf := if_f hc7 hf
    by_cases hc11 : a2 = 2
    · have hf := if_t hc11 hf
      refine lv_tableIn (tgt := 57) hx hb dX7_joint_11 (by rw [hc11]; decide) (by rw [hc11]; decide) (by rw [hc11]; rfl) (by decide) ?_
      refine lv_aload_n hx hb dX7_joint_57 rfl (lv_at hl 0 rfl) ?_
      refine lv_iload_n hx hb dX7_joint_58 rfl (lv_at hl 1 rfl) ?_
      obtain ⟨r12, hk13, hf⟩ := b1_s hf
      refine rv_i (vq := (RX7, TX7, 28)) (As := [.int a1]) (rest := []) (bs' := [pMo κ qm m_state m_tape m_taped m_fault m_broken m_brokenAt m_spot m_here m_token m_value m_ends m_letters m_moments m_stepsAt m_steps m_latest m_matrix m_sides m_tried m_answers m_rowOf m_whole m_shares m_isKept m_lanes m_lengths m_cells m_torn]) C0 hw (cMo_stiffAt l D κ qm m_state m_tape m_taped m_fault m_broken m_brokenAt m_spot m_here m_token m_value m_ends m_letters m_moments m_stepsAt m_steps m_latest m_matrix m_sides m_tried m_answers m_rowOf m_whole m_shares m_isKept m_lanes m_lengths m_cells m_torn a1 r12 hk13) cv_RX7_201 ⟨rfl, rfl, Nat.le_of_ble_eq_true rfl, Nat.le_of_ble_eq_true rfl⟩ ⟨Nat.zero_le _, Nat.zero_le _⟩ [0] [] [0] rfl rfl rfl rfl (by decide) rfl rfl rfl rfl rfl hl.1 (by simp only [List.map, List.sum_cons, List.sum_nil, Value.category]; decide) dX7_joint_59 (fun H locs hw hn14 => ?_)
      obtain rfl := e1_ hf
      exact r_iret C0 hw trivial dX7_joint_62
    have hf := if_f hc11 hf
    by_cases hc15 : a2 = 3
    · have hf := if_t hc15 hf
      refine lv_tableIn (tgt := 63) hx hb dX7_joint_11 (by rw [hc15]; decide) (by rw [hc15]; decide) (by rw [hc15]; rfl) (by decide) ?_
      refine lv_aload_n hx hb dX7_joint_63 rfl (lv_at hl 0 rfl) ?_
      refine r_get C0 hw 0 13 (v := .ref (qm 6)) rfl rfl inX7 (by decide) lk_X7_25 rfl dX7_joint_64 ?_
      refine lv_iload_n hx hb dX7_joint_67 rfl (lv_at hl 1 rfl) ?_
      obtain ⟨hi16, hf⟩ := gd_s hf
      refine r_iald C0 hw 6 0 rfl rfl hi16 dX7_joint_68 ?_
      obtain rfl := e1_ hf
      exact r_iret C0 hw trivial dX7_joint_69
    have hf := if_f hc15 hf
    by_cases hc17 : a2 = 4
    · have hf := if_t hc17 hf
      refine lv_tableIn (tgt := 70) hx hb dX7_joint_11 (by rw [hc17]; decide) (by rw [hc17]; decide) (by rw [hc17]; rfl) (by decide) ?_
      refine lv_aload_n hx hb dX7_joint_70 rfl (lv_at hl 0 rfl) ?_
      refine lv_iload_n hx hb dX7_joint_71 rfl (lv_at hl 1 rfl) ?_
      obtain ⟨r18, hk19, hf⟩ := b1_s hf
      refine rv_i (vq := (RX7, TX7, 28)) (As := [.int a1]) (rest := []) (bs' := [pMo κ qm m_state m_tape m_taped m_fault m_broken m_brokenAt m_spot m_here m_token m_value m_ends m_letters m_moments m_stepsAt m_steps m_latest m_matrix m_sides m_tried m_answers m_rowOf m_whole m_shares m_isKept m_lanes m_lengths m_cells m_torn]) C0 hw (cMo_isLoose l D κ qm m_state m_tape m_taped m_fault m_broken m_brokenAt m_spot m_here m_token m_value m_ends m_letters m_moments m_stepsAt m_steps m_latest m_matrix m_sides m_tried m_answers m_rowOf m_whole m_shares m_isKept m_lanes m_lengths m_cells m_torn a1 r18 hk19) cv_RX7_186 ⟨rfl, rfl, Nat.le_of_ble_eq_true rfl, Nat.le_of_ble_eq_true rfl⟩ ⟨Nat.zero_le _, Nat.zero_le _⟩ [0] [] [0] rfl rfl rfl rfl (by decide) rfl rfl rfl rfl rfl hl.1 (by simp only [List.map, List.sum_cons, List.sum_nil, Value.category]; decide) dX7_joint_72 (fun H locs hw hn20 => ?_)
      refine lv_if_eq (tgt := 82) hx hb dX7_joint_75 (by decide) (fun hc21 => ?_) (fun hc21 => ?_)
      · have hf := if_t hc21 hf
        refine lv_iconst (v := 0) hx hb dX7_joint_82 (by decide) ?_
        obtain rfl := e1_ hf
        exact r_iret C0 hw trivial dX7_joint_83
      · have hf := if_f hc21 hf
        refine lv_iconst (v := 1) hx hb dX7_joint_78 (by decide) ?_
        refine lv_goto (tgt := 83) hx hb dX7_joint_79 (by decide) ?_
        obtain rfl := e1_ hf
        exact r_iret C0 hw trivial dX7_joint_83
    have hf := if_f hc17 hf
    have hc5 := lv_neT (a := 0) hc5 (by decide)
    have hc7 := lv_neT (a := 1) hc7 (by decide)
    have hc11 := lv_neT (a := 2) hc11 (by decide)
    have hc15 := lv_neT (a := 3) hc15 (by decide)
    have hc17 := lv_neT (a := 4) hc17 (by decide)
    refine lv_tableOut (tgt := 84) hx hb dX7_joint_11 (by omega) (by decide) ?_
    refine lv_iconst (v := -1) hx hb dX7_joint_84 (by decide) ?_
    obtain rfl := e1_ hf
    exact r_iret C0 hw trivial dX7_joint_85
  · have hf := if_t hc4 hf
    refine lv_iconst (v := -1) hx hb dX7_joint_8 (by decide) ?_
    obtain rfl := e1_ hf
    exact r_iret C0 hw trivial dX7_joint_9
def FMo_out (m_state m_moments : Nat → Int32) (a1 a2 : Int32) : Option (Int32) :=
  b1_ (FMo_isJoint m_state a1) fun r1 =>
  if r1 = 0 then
    some ((2000000000 : Int32))
  else
    b1_ (FMo_in (a2.toInt64) (0 : Int64) (1 : Int64)) fun r5 =>
    if r5 = 0 then
      some ((2000000000 : Int32))
    else
      if a2 = 0 then
        gd_ ((6 : Int32) + a1) 395 <|
        some ((m_state ((6 : Int32) + a1).toNatClampNeg))
      else
        b1_ (FMo_outOf m_state m_moments a1) fun r10 =>
        some (r10)
set_option maxHeartbeats 4000000 in
set_option maxRecDepth 100000 in
theorem cMo_out (l : Launch) (D : va_G) (κ : Nat → ClassId) (qm : Nat → Nat) (m_state m_tape : Nat → Int32) (m_taped m_fault m_broken m_brokenAt m_spot m_here m_token m_value : Int32) (m_ends m_letters m_moments m_stepsAt : Nat → Int32) (m_steps m_latest : Int32) (m_matrix m_sides m_tried m_answers : Nat → Int64) (m_rowOf : Nat → Int32) (m_whole : Int64) (m_shares m_isKept m_lanes m_lengths m_cells : Nat → Int32) (m_torn a1 a2 zr : Int32) (hf : FMo_out m_state m_moments a1 a2 = some zr) : mI_ l yX7_out (Cond.code yX7_out cX7_out 3 (some .int) :: uw) ({ frames := 2, cells := 0, slots := 0, locals := 46 } : Room) D (tys0 κ) [.ref (qm 0), .int a1, .int a2] (List.flatten [pMo κ qm m_state m_tape m_taped m_fault m_broken m_brokenAt m_spot m_here m_token m_value m_ends m_letters m_moments m_stepsAt m_steps m_latest m_matrix m_sides m_tried m_answers m_rowOf m_whole m_shares m_isKept m_lanes m_lengths m_cells m_torn]) nT_ zr (List.flatten [pMo κ qm m_state m_tape m_taped m_fault m_broken m_brokenAt m_spot m_here m_token m_value m_ends m_letters m_moments m_stepsAt m_steps m_latest m_matrix m_sides m_tried m_answers m_rowOf m_whole m_shares m_isKept m_lanes m_lengths m_cells m_torn]) := by
  unfold FMo_out at hf
  refine mI_of (by decide) (Nat.le_of_ble_eq_true rfl) ?_
  intro p e s m below meth c A ls H locs C0 hw hl
  obtain ⟨hx, hb, -, hml, hown, hts, -, -⟩ := id C0
  have hl : lv_has ls 3 [(0, .ref (qm 0)), (1, .int a1), (2, .int a2)] := hl
  refine lv_aload_n hx hb dX7_out_0 rfl (lv_at hl 0 rfl) ?_
  refine lv_iload_n hx hb dX7_out_1 rfl (lv_at hl 1 rfl) ?_
  obtain ⟨r1, hk2, hf⟩ := b1_s hf
  refine rv_i (vq := (RX7, TX7, 28)) (As := [.int a1]) (rest := []) (bs' := [pMo κ qm m_state m_tape m_taped m_fault m_broken m_brokenAt m_spot m_here m_token m_value m_ends m_letters m_moments m_stepsAt m_steps m_latest m_matrix m_sides m_tried m_answers m_rowOf m_whole m_shares m_isKept m_lanes m_lengths m_cells m_torn]) C0 hw (cMo_isJoint l D κ qm m_state m_tape m_taped m_fault m_broken m_brokenAt m_spot m_here m_token m_value m_ends m_letters m_moments m_stepsAt m_steps m_latest m_matrix m_sides m_tried m_answers m_rowOf m_whole m_shares m_isKept m_lanes m_lengths m_cells m_torn a1 r1 hk2) cv_RX7_198 ⟨rfl, rfl, Nat.le_of_ble_eq_true rfl, Nat.le_of_ble_eq_true rfl⟩ ⟨Nat.zero_le _, Nat.zero_le _⟩ [0] [] [0] rfl rfl rfl rfl (by decide) rfl rfl rfl rfl rfl hl.1 (by simp only [List.map, List.sum_cons, List.sum_nil, Value.category]; decide) dX7_out_2 (fun H locs hw hn3 => ?_)
  refine lv_if_eq (tgt := 18) hx hb dX7_out_5 (by decide) (fun hc4 => ?_) (fun hc4 => ?_)
  · have hf := if_t hc4 hf
    refine lv_ldc (v := 2000000000) hx hb hown (hts _ kc_X7_204) dX7_out_18 ?_
    obtain rfl := e1_ hf
    exact r_iret C0 hw trivial dX7_out_20
  · have hf := if_f hc4 hf
    refine lv_iload_n hx hb dX7_out_8 rfl (lv_at hl 2 rfl) ?_
    refine lv_i2l hx hb dX7_out_9 rfl ?_
    refine lv_lconst (v := 0) hx hb dX7_out_10 (by decide) ?_
    refine lv_lconst (v := 1) hx hb dX7_out_11 (by decide) ?_
    obtain ⟨r5, hk6, hf⟩ := b1_s hf
    refine rs_i (As := [.long (a2.toInt64), .long (0 : Int64), .long (1 : Int64)]) (rest := []) (bs' := [pMo κ qm m_state m_tape m_taped m_fault m_broken m_brokenAt m_spot m_here m_token m_value m_ends m_letters m_moments m_stepsAt m_steps m_latest m_matrix m_sides m_tried m_answers m_rowOf m_whole m_shares m_isKept m_lanes m_lengths m_cells m_torn]) C0 hw (cMo_in l D κ (a2.toInt64) (0 : Int64) (1 : Int64) r5 hk6) cs_X7_66 ⟨rfl, rfl, Nat.le_of_ble_eq_true rfl, Nat.le_of_ble_eq_true rfl⟩ ⟨Nat.zero_le _, Nat.zero_le _⟩ [] [0] [0] rfl rfl rfl rfl (by decide) rfl rfl rfl hl.1 (by simp only [List.map, List.sum_cons, List.sum_nil, Value.category]; decide) dX7_out_12 (fun H locs hw hn7 => ?_)
    refine lv_if_ne (tgt := 21) hx hb dX7_out_15 (by decide) (fun hc8 => ?_) (fun hc8 => ?_)
    · have hf := if_f hc8 hf
      refine lv_iload_n hx hb dX7_out_21 rfl (lv_at hl 2 rfl) ?_
      refine lv_if_ne (tgt := 37) hx hb dX7_out_22 (by decide) (fun hc9 => ?_) (fun hc9 => ?_)
      · have hf := if_f hc9 hf
        refine lv_aload_n hx hb dX7_out_37 rfl (lv_at hl 0 rfl) ?_
        refine lv_iload_n hx hb dX7_out_38 rfl (lv_at hl 1 rfl) ?_
        obtain ⟨r10, hk11, hf⟩ := b1_s hf
        refine rv_i (vq := (RX7, TX7, 28)) (As := [.int a1]) (rest := []) (bs' := [pMo κ qm m_state m_tape m_taped m_fault m_broken m_brokenAt m_spot m_here m_token m_value m_ends m_letters m_moments m_stepsAt m_steps m_latest m_matrix m_sides m_tried m_answers m_rowOf m_whole m_shares m_isKept m_lanes m_lengths m_cells m_torn]) C0 hw (cMo_outOf l D κ qm m_state m_tape m_taped m_fault m_broken m_brokenAt m_spot m_here m_token m_value m_ends m_letters m_moments m_stepsAt m_steps m_latest m_matrix m_sides m_tried m_answers m_rowOf m_whole m_shares m_isKept m_lanes m_lengths m_cells m_torn a1 r10 hk11) cv_RX7_180 ⟨rfl, rfl, Nat.le_of_ble_eq_true rfl, Nat.le_of_ble_eq_true rfl⟩ ⟨Nat.zero_le _, Nat.zero_le _⟩ [0] [] [0] rfl rfl rfl rfl (by decide) rfl rfl rfl rfl rfl hl.1 (by simp only [List.map, List.sum_cons, List.sum_nil, Value.category]; decide) dX7_out_39 (fun H locs hw hn12 => ?_)
        obtain rfl := e1_ hf
        exact r_iret C0 hw trivial dX7_out_42
      · have hf := if_t hc9 hf
        refine lv_aload_n hx hb dX7_out_25 rfl (lv_at hl 0 rfl) ?_
        refine r_get C0 hw 0 0 (v := .ref (qm 1)) rfl rfl inX7 (by decide) lk_X7_7 rfl dX7_out_26 ?_
        refine lv_bipush (v := 6) hx hb dX7_out_29 (by decide) ?_
        refine lv_iload_n hx hb dX7_out_31 rfl (lv_at hl 1 rfl) ?_
        refine lv_iadd hx hb dX7_out_32 ?_
        obtain ⟨hi13, hf⟩ := gd_s hf
        refine r_iald C0 hw 1 0 rfl rfl hi13 dX7_out_33 ?_
        refine lv_goto (tgt := 42) hx hb dX7_out_34 (by decide) ?_
        obtain rfl := e1_ hf
        exact r_iret C0 hw trivial dX7_out_42
    · have hf := if_t hc8 hf
      refine lv_ldc (v := 2000000000) hx hb hown (hts _ kc_X7_204) dX7_out_18 ?_
      obtain rfl := e1_ hf
      exact r_iret C0 hw trivial dX7_out_20
def FMo_at_L19 (m_state : Nat → Int32) (l1 : Int32) : Nat → Int32 → Int32 → Option (Int32)
  | 0, _, _ => none
  | n + 1, l3, l4 =>
      b1_ (FMo_beams m_state) fun r6 =>
      if ((2 : Int32) * r6) ≤ l4 then
        some ((-4 : Int32))
      else
        b1_ (FMo_jointOf m_state l4) fun r10 =>
        if r10 = l1 then
          if l3 = 0 then
            some (l4)
          else
            lt_ (l3 + (-1 : Int32)) fun v16 =>
            lt_ (l4 + (1 : Int32)) fun v17 =>
            FMo_at_L19 m_state l1 n v16 v17
        else
          lt_ (l4 + (1 : Int32)) fun v14 =>
          FMo_at_L19 m_state l1 n l3 v14
def FMo_at (m_state : Nat → Int32) (a1 a2 : Int32) : Option (Int32) :=
  b1_ (FMo_isJoint m_state a1) fun r1 =>
  if r1 = 0 then
    some ((-1 : Int32))
  else
    if 0 ≤ a2 then
      FMo_at_L19 m_state a1 1000 a2 (0 : Int32)
    else
      some ((-1 : Int32))
set_option maxHeartbeats 4000000 in
set_option maxRecDepth 100000 in
theorem wMo_at_L19 {p : Program} {l : Launch} {e : Env} {s : State} {m : MethodId} {args : Array Value} {below : List Frame} {meth : Method} {c : Code} {A : Nat → Prop} {D : va_G} {κ : Nat → ClassId} (C0 : cx_ p s m meth c args cX7_at RX7 (some .int) 5 A) (qm : Nat → Nat) (m_state m_tape : Nat → Int32) (m_taped m_fault m_broken m_brokenAt m_spot m_here m_token m_value : Int32) (m_ends m_letters m_moments m_stepsAt : Nat → Int32) (m_steps m_latest : Int32) (m_matrix m_sides m_tried m_answers : Nat → Int64) (m_rowOf : Nat → Int32) (m_whole : Int64) (m_shares m_isKept m_lanes m_lengths m_cells : Nat → Int32) (m_torn l1 : Int32) (zr : Int32) : ∀ (n : Nat) (l3 : Int32) (l4 : Int32) (H : Heap) (locs : List Loc) (ls : Array Slot), wd_ D (tys0 κ) A s (List.flatten [pMo κ qm m_state m_tape m_taped m_fault m_broken m_brokenAt m_spot m_here m_token m_value m_ends m_letters m_moments m_stepsAt m_steps m_latest m_matrix m_sides m_tried m_answers m_rowOf m_whole m_shares m_isKept m_lanes m_lengths m_cells m_torn]) H locs → lv_has ls 5 [(0, .ref (qm 0)), (1, .int l1), (3, .int l3), (4, .int l4)] → FMo_at_L19 m_state l1 n l3 l4 = some zr → W p l e ({ frames := 2, cells := 0, slots := 0, locals := 46 } : Room) s m args below meth c H locs 0 0 (qI_ D (tys0 κ) A nT_ zr (List.flatten [pMo κ qm m_state m_tape m_taped m_fault m_broken m_brokenAt m_spot m_here m_token m_value m_ends m_letters m_moments m_stepsAt m_steps m_latest m_matrix m_sides m_tried m_answers m_rowOf m_whole m_shares m_isKept m_lanes m_lengths m_cells m_torn]) below args s) (F0 m 19 ls []) := by
  obtain ⟨hx, hb, -, hml, hown, hts, -, -⟩ := id C0
  intro n
  induction n with
  | zero =>
    intro l3 l4 H locs ls hw hl  hf
    cases hf
  | succ n ih =>
    intro l3 l4 H locs ls hw hl  hf
    rw [FMo_at_L19.eq_2] at hf
    refine lv_iload hx hb dX7_at_19 (lv_at hl 3 rfl) ?_
    refine lv_iconst (v := 2) hx hb dX7_at_21 (by decide) ?_
    refine lv_aload_n hx hb dX7_at_22 rfl (lv_at hl 0 rfl) ?_
    obtain ⟨r6, hk7, hf⟩ := b1_s hf
    refine rv_i (vq := (RX7, TX7, 28)) (As := []) (rest := [.int (2 : Int32), .int l4]) (bs' := [pMo κ qm m_state m_tape m_taped m_fault m_broken m_brokenAt m_spot m_here m_token m_value m_ends m_letters m_moments m_stepsAt m_steps m_latest m_matrix m_sides m_tried m_answers m_rowOf m_whole m_shares m_isKept m_lanes m_lengths m_cells m_torn]) C0 hw (cMo_beams l D κ qm m_state m_tape m_taped m_fault m_broken m_brokenAt m_spot m_here m_token m_value m_ends m_letters m_moments m_stepsAt m_steps m_latest m_matrix m_sides m_tried m_answers m_rowOf m_whole m_shares m_isKept m_lanes m_lengths m_cells m_torn r6 hk7) cv_RX7_162 ⟨rfl, rfl, Nat.le_of_ble_eq_true rfl, Nat.le_of_ble_eq_true rfl⟩ ⟨Nat.zero_le _, Nat.zero_le _⟩ [0] [] [0] rfl rfl rfl rfl (by decide) rfl rfl rfl rfl rfl hl.1 (by simp only [List.map, List.sum_cons, List.sum_nil, Value.category]; decide) dX7_at_23 (fun H locs hw hn8 => ?_)
    refine lv_imul hx hb dX7_at_26 ?_
    refine lv_icmp_ge (tgt := 56) hx hb dX7_at_27 (by decide) (fun hc9 => ?_) (fun hc9 => ?_)
    · have hf := if_t hc9 hf
      refine lv_bipush (v := -4) hx hb dX7_at_56 (by decide) ?_
      obtain rfl := e1_ hf
      exact r_iret C0 hw trivial dX7_at_58
    · have hf := if_f hc9 hf
      refine lv_aload_n hx hb dX7_at_30 rfl (lv_at hl 0 rfl) ?_
      refine lv_iload hx hb dX7_at_31 (lv_at hl 3 rfl) ?_
      obtain ⟨r10, hk11, hf⟩ := b1_s hf
      refine rv_i (vq := (RX7, TX7, 28)) (As := [.int l4]) (rest := []) (bs' := [pMo κ qm m_state m_tape m_taped m_fault m_broken m_brokenAt m_spot m_here m_token m_value m_ends m_letters m_moments m_stepsAt m_steps m_latest m_matrix m_sides m_tried m_answers m_rowOf m_whole m_shares m_isKept m_lanes m_lengths m_cells m_torn]) C0 hw (cMo_jointOf l D κ qm m_state m_tape m_taped m_fault m_broken m_brokenAt m_spot m_here m_token m_value m_ends m_letters m_moments m_stepsAt m_steps m_latest m_matrix m_sides m_tried m_answers m_rowOf m_whole m_shares m_isKept m_lanes m_lengths m_cells m_torn l4 r10 hk11) cv_RX7_168 ⟨rfl, rfl, Nat.le_of_ble_eq_true rfl, Nat.le_of_ble_eq_true rfl⟩ ⟨Nat.zero_le _, Nat.zero_le _⟩ [0] [] [0] rfl rfl rfl rfl (by decide) rfl rfl rfl rfl rfl hl.1 (by simp only [List.map, List.sum_cons, List.sum_nil, Value.category]; decide) dX7_at_33 (fun H locs hw hn12 => ?_)
      refine lv_iload_n hx hb dX7_at_36 rfl (lv_at hl 1 rfl) ?_
      refine lv_icmp_ne (tgt := 50) hx hb dX7_at_37 (by decide) (fun hc13 => ?_) (fun hc13 => ?_)
      · have hf := if_f hc13 hf
        obtain ⟨v14, ev14⟩ : ∃ z : Int32, z = (l4 + (1 : Int32)) := ⟨_, rfl⟩
        have hf := lt_s_ hf v14 ev14
        refine lv_iinc (v := v14) (lv' := [(4, .int v14), (0, .ref (qm 0)), (1, .int l1), (3, .int l3)]) hx hb dX7_at_50 hl (k := 3) rfl (by rw [ev14]; rfl) (by decide) rfl (fun ls hl => ?_)
        refine lv_goto (tgt := 19) hx hb dX7_at_53 (by decide) ?_
        exact ih l3 v14 H locs ls hw (lv_sub hl [1, 2, 3, 0] rfl)  hf
      · have hf := if_t hc13 hf
        refine lv_iload_n hx hb dX7_at_40 rfl (lv_at hl 2 rfl) ?_
        refine lv_if_ne (tgt := 47) hx hb dX7_at_41 (by decide) (fun hc15 => ?_) (fun hc15 => ?_)
        · have hf := if_f hc15 hf
          obtain ⟨v16, ev16⟩ : ∃ z : Int32, z = (l3 + (-1 : Int32)) := ⟨_, rfl⟩
          have hf := lt_s_ hf v16 ev16
          refine lv_iinc (v := v16) (lv' := [(3, .int v16), (0, .ref (qm 0)), (1, .int l1), (4, .int l4)]) hx hb dX7_at_47 hl (k := 2) rfl (by rw [ev16]; rfl) (by decide) rfl (fun ls hl => ?_)
          obtain ⟨v17, ev17⟩ : ∃ z : Int32, z = (l4 + (1 : Int32)) := ⟨_, rfl⟩
          have hf := lt_s_ hf v17 ev17
          refine lv_iinc (v := v17) (lv' := [(4, .int v17), (3, .int v16), (0, .ref (qm 0)), (1, .int l1)]) hx hb dX7_at_50 hl (k := 3) rfl (by rw [ev17]; rfl) (by decide) rfl (fun ls hl => ?_)
          refine lv_goto (tgt := 19) hx hb dX7_at_53 (by decide) ?_
          exact ih v16 v17 H locs ls hw (lv_sub hl [2, 3, 1, 0] rfl)  hf
        · have hf := if_t hc15 hf
          refine lv_iload hx hb dX7_at_44 (lv_at hl 3 rfl) ?_
          obtain rfl := e1_ hf
          exact r_iret C0 hw trivial dX7_at_46
set_option maxHeartbeats 4000000 in
set_option maxRecDepth 100000 in
theorem cMo_at (l : Launch) (D : va_G) (κ : Nat → ClassId) (qm : Nat → Nat) (m_state m_tape : Nat → Int32) (m_taped m_fault m_broken m_brokenAt m_spot m_here m_token m_value : Int32) (m_ends m_letters m_moments m_stepsAt : Nat → Int32) (m_steps m_latest : Int32) (m_matrix m_sides m_tried m_answers : Nat → Int64) (m_rowOf : Nat → Int32) (m_whole : Int64) (m_shares m_isKept m_lanes m_lengths m_cells : Nat → Int32) (m_torn a1 a2 zr : Int32) (hf : FMo_at m_state a1 a2 = some zr) : mI_ l yX7_at (Cond.code yX7_at cX7_at 5 (some .int) :: uw) ({ frames := 2, cells := 0, slots := 0, locals := 46 } : Room) D (tys0 κ) [.ref (qm 0), .int a1, .int a2] (List.flatten [pMo κ qm m_state m_tape m_taped m_fault m_broken m_brokenAt m_spot m_here m_token m_value m_ends m_letters m_moments m_stepsAt m_steps m_latest m_matrix m_sides m_tried m_answers m_rowOf m_whole m_shares m_isKept m_lanes m_lengths m_cells m_torn]) nT_ zr (List.flatten [pMo κ qm m_state m_tape m_taped m_fault m_broken m_brokenAt m_spot m_here m_token m_value m_ends m_letters m_moments m_stepsAt m_steps m_latest m_matrix m_sides m_tried m_answers m_rowOf m_whole m_shares m_isKept m_lanes m_lengths m_cells m_torn]) := by
  unfold FMo_at at hf
  refine mI_of (by decide) (Nat.le_of_ble_eq_true rfl) ?_
  intro p e s m below meth c A ls H locs C0 hw hl
  obtain ⟨hx, hb, -, hml, hown, hts, -, -⟩ := id C0
  have hl : lv_has ls 5 [(0, .ref (qm 0)), (1, .int a1), (2, .int a2)] := hl
  refine lv_aload_n hx hb dX7_at_0 rfl (lv_at hl 0 rfl) ?_
  refine lv_iload_n hx hb dX7_at_1 rfl (lv_at hl 1 rfl) ?_
  obtain ⟨r1, hk2, hf⟩ := b1_s hf
  refine rv_i (vq := (RX7, TX7, 28)) (As := [.int a1]) (rest := []) (bs' := [pMo κ qm m_state m_tape m_taped m_fault m_broken m_brokenAt m_spot m_here m_token m_value m_ends m_letters m_moments m_stepsAt m_steps m_latest m_matrix m_sides m_tried m_answers m_rowOf m_whole m_shares m_isKept m_lanes m_lengths m_cells m_torn]) C0 hw (cMo_isJoint l D κ qm m_state m_tape m_taped m_fault m_broken m_brokenAt m_spot m_here m_token m_value m_ends m_letters m_moments m_stepsAt m_steps m_latest m_matrix m_sides m_tried m_answers m_rowOf m_whole m_shares m_isKept m_lanes m_lengths m_cells m_torn a1 r1 hk2) cv_RX7_198 ⟨rfl, rfl, Nat.le_of_ble_eq_true rfl, Nat.le_of_ble_eq_true rfl⟩ ⟨Nat.zero_le _, Nat.zero_le _⟩ [0] [] [0] rfl rfl rfl rfl (by decide) rfl rfl rfl rfl rfl hl.1 (by simp only [List.map, List.sum_cons, List.sum_nil, Value.category]; decide) dX7_at_2 (fun H locs hw hn3 => ?_)
  refine lv_if_eq (tgt := 12) hx hb dX7_at_5 (by decide) (fun hc4 => ?_) (fun hc4 => ?_)
  · have hf := if_t hc4 hf
    refine lv_iconst (v := -1) hx hb dX7_at_12 (by decide) ?_
    obtain rfl := e1_ hf
    exact r_iret C0 hw trivial dX7_at_13
  · have hf := if_f hc4 hf
    refine lv_iload_n hx hb dX7_at_8 rfl (lv_at hl 2 rfl) ?_
    refine lv_if_ge (tgt := 14) hx hb dX7_at_9 (by decide) (fun hc5 => ?_) (fun hc5 => ?_)
    · have hf := if_t hc5 hf
      refine lv_iload_n hx hb dX7_at_14 rfl (lv_at hl 2 rfl) ?_
      refine lv_istore_n (lv' := [(3, .int a2), (0, .ref (qm 0)), (1, .int a1), (2, .int a2)]) hx hb dX7_at_15 rfl hl (by decide) rfl (fun ls hl => ?_)
      refine lv_iconst (v := 0) hx hb dX7_at_16 (by decide) ?_
      refine lv_istore (lv' := [(4, .int (0 : Int32)), (3, .int a2), (0, .ref (qm 0)), (1, .int a1), (2, .int a2)]) hx hb dX7_at_17 hl (by decide) rfl (fun ls hl => ?_)
      exact wMo_at_L19 C0 qm m_state m_tape m_taped m_fault m_broken m_brokenAt m_spot m_here m_token m_value m_ends m_letters m_moments m_stepsAt m_steps m_latest m_matrix m_sides m_tried m_answers m_rowOf m_whole m_shares m_isKept m_lanes m_lengths m_cells m_torn a1 zr 1000 a2 (0 : Int32) H locs ls hw (lv_sub hl [2, 3, 1, 0] rfl)  hf
    · have hf := if_f hc5 hf
      refine lv_iconst (v := -1) hx hb dX7_at_12 (by decide) ?_
      obtain rfl := e1_ hf
      exact r_iret C0 hw trivial dX7_at_13
def FMo_loadsOn_L4 (m_state : Nat → Int32) (l1 : Int32) : Nat → Int32 → Int32 → Option (Int32)
  | 0, _, _ => none
  | n + 1, l2, l3 =>
      b1_ (FMo_loads m_state) fun r1 =>
      if r1 ≤ l3 then
        some (l2)
      else
        gd_ ((52 : Int32) + l3) 395 <|
        if (m_state ((52 : Int32) + l3).toNatClampNeg) = l1 then
          lt_ (l2 + (1 : Int32)) fun v9 =>
          lt_ (l3 + (1 : Int32)) fun v10 =>
          FMo_loadsOn_L4 m_state l1 n v9 v10
        else
          lt_ (l2 + (0 : Int32)) fun v7 =>
          lt_ (l3 + (1 : Int32)) fun v8 =>
          FMo_loadsOn_L4 m_state l1 n v7 v8
def FMo_loadsOn (m_state : Nat → Int32) (a1 : Int32) : Option (Int32) :=
  FMo_loadsOn_L4 m_state a1 1000 (0 : Int32) (0 : Int32)
set_option maxHeartbeats 4000000 in
set_option maxRecDepth 100000 in
theorem wMo_loadsOn_L4 {p : Program} {l : Launch} {e : Env} {s : State} {m : MethodId} {args : Array Value} {below : List Frame} {meth : Method} {c : Code} {A : Nat → Prop} {D : va_G} {κ : Nat → ClassId} (C0 : cx_ p s m meth c args cX7_loadsOn RX7 (some .int) 4 A) (qm : Nat → Nat) (m_state m_tape : Nat → Int32) (m_taped m_fault m_broken m_brokenAt m_spot m_here m_token m_value : Int32) (m_ends m_letters m_moments m_stepsAt : Nat → Int32) (m_steps m_latest : Int32) (m_matrix m_sides m_tried m_answers : Nat → Int64) (m_rowOf : Nat → Int32) (m_whole : Int64) (m_shares m_isKept m_lanes m_lengths m_cells : Nat → Int32) (m_torn l1 : Int32) (zr : Int32) : ∀ (n : Nat) (l2 : Int32) (l3 : Int32) (H : Heap) (locs : List Loc) (ls : Array Slot), wd_ D (tys0 κ) A s (List.flatten [pMo κ qm m_state m_tape m_taped m_fault m_broken m_brokenAt m_spot m_here m_token m_value m_ends m_letters m_moments m_stepsAt m_steps m_latest m_matrix m_sides m_tried m_answers m_rowOf m_whole m_shares m_isKept m_lanes m_lengths m_cells m_torn]) H locs → lv_has ls 4 [(0, .ref (qm 0)), (1, .int l1), (2, .int l2), (3, .int l3)] → FMo_loadsOn_L4 m_state l1 n l2 l3 = some zr → W p l e ({ frames := 1, cells := 0, slots := 0, locals := 20 } : Room) s m args below meth c H locs 0 0 (qI_ D (tys0 κ) A nT_ zr (List.flatten [pMo κ qm m_state m_tape m_taped m_fault m_broken m_brokenAt m_spot m_here m_token m_value m_ends m_letters m_moments m_stepsAt m_steps m_latest m_matrix m_sides m_tried m_answers m_rowOf m_whole m_shares m_isKept m_lanes m_lengths m_cells m_torn]) below args s) (F0 m 4 ls []) := by
  obtain ⟨hx, hb, -, hml, hown, hts, -, -⟩ := id C0
  intro n
  induction n with
  | zero =>
    intro l2 l3 H locs ls hw hl  hf
    cases hf
  | succ n ih =>
    intro l2 l3 H locs ls hw hl  hf
    rw [FMo_loadsOn_L4.eq_2] at hf
    refine lv_iload_n hx hb dX7_loadsOn_4 rfl (lv_at hl 3 rfl) ?_
    refine lv_aload_n hx hb dX7_loadsOn_5 rfl (lv_at hl 0 rfl) ?_
    obtain ⟨r1, hk2, hf⟩ := b1_s hf
    refine rv_i (vq := (RX7, TX7, 28)) (As := []) (rest := [.int l3]) (bs' := [pMo κ qm m_state m_tape m_taped m_fault m_broken m_brokenAt m_spot m_here m_token m_value m_ends m_letters m_moments m_stepsAt m_steps m_latest m_matrix m_sides m_tried m_answers m_rowOf m_whole m_shares m_isKept m_lanes m_lengths m_cells m_torn]) C0 hw (cMo_loads l D κ qm m_state m_tape m_taped m_fault m_broken m_brokenAt m_spot m_here m_token m_value m_ends m_letters m_moments m_stepsAt m_steps m_latest m_matrix m_sides m_tried m_answers m_rowOf m_whole m_shares m_isKept m_lanes m_lengths m_cells m_torn r1 hk2) cv_RX7_152 ⟨rfl, rfl, Nat.le_of_ble_eq_true rfl, Nat.le_of_ble_eq_true rfl⟩ ⟨Nat.zero_le _, Nat.zero_le _⟩ [0] [] [0] rfl rfl rfl rfl (by decide) rfl rfl rfl rfl rfl hl.1 (by simp only [List.map, List.sum_cons, List.sum_nil, Value.category]; decide) dX7_loadsOn_6 (fun H locs hw hn3 => ?_)
    refine lv_icmp_ge (tgt := 39) hx hb dX7_loadsOn_9 (by decide) (fun hc4 => ?_) (fun hc4 => ?_)
    · have hf := if_t hc4 hf
      refine lv_iload_n hx hb dX7_loadsOn_39 rfl (lv_at hl 2 rfl) ?_
      obtain rfl := e1_ hf
      exact r_iret C0 hw trivial dX7_loadsOn_40
    · have hf := if_f hc4 hf
      refine lv_iload_n hx hb dX7_loadsOn_12 rfl (lv_at hl 2 rfl) ?_
      refine lv_aload_n hx hb dX7_loadsOn_13 rfl (lv_at hl 0 rfl) ?_
      refine r_get C0 hw 0 0 (v := .ref (qm 1)) rfl rfl inX7 (by decide) lk_X7_7 rfl dX7_loadsOn_14 ?_
      refine lv_bipush (v := 52) hx hb dX7_loadsOn_17 (by decide) ?_
      refine lv_iload_n hx hb dX7_loadsOn_19 rfl (lv_at hl 3 rfl) ?_
      refine lv_iadd hx hb dX7_loadsOn_20 ?_
      obtain ⟨hi5, hf⟩ := gd_s hf
      refine r_iald C0 hw 1 0 rfl rfl hi5 dX7_loadsOn_21 ?_
      refine lv_iload_n hx hb dX7_loadsOn_22 rfl (lv_at hl 1 rfl) ?_
      refine lv_icmp_ne (tgt := 30) hx hb dX7_loadsOn_23 (by decide) (fun hc6 => ?_) (fun hc6 => ?_)
      · have hf := if_f hc6 hf
        refine lv_iconst (v := 0) hx hb dX7_loadsOn_30 (by decide) ?_
        refine lv_iadd hx hb dX7_loadsOn_31 ?_
        refine lv_topi (fun v7 ev7 => ?_)
        have hf := lt_s_ hf v7 ev7
        refine lv_istore_n (lv' := [(2, .int v7), (0, .ref (qm 0)), (1, .int l1), (3, .int l3)]) hx hb dX7_loadsOn_32 rfl hl (by decide) rfl (fun ls hl => ?_)
        obtain ⟨v8, ev8⟩ : ∃ z : Int32, z = (l3 + (1 : Int32)) := ⟨_, rfl⟩
        have hf := lt_s_ hf v8 ev8
        refine lv_iinc (v := v8) (lv' := [(3, .int v8), (2, .int v7), (0, .ref (qm 0)), (1, .int l1)]) hx hb dX7_loadsOn_33 hl (k := 3) rfl (by rw [ev8]; rfl) (by decide) rfl (fun ls hl => ?_)
        refine lv_goto (tgt := 4) hx hb dX7_loadsOn_36 (by decide) ?_
        exact ih v7 v8 H locs ls hw (lv_sub hl [2, 3, 1, 0] rfl)  hf
      · have hf := if_t hc6 hf
        refine lv_iconst (v := 1) hx hb dX7_loadsOn_26 (by decide) ?_
        refine lv_goto (tgt := 31) hx hb dX7_loadsOn_27 (by decide) ?_
        refine lv_iadd hx hb dX7_loadsOn_31 ?_
        refine lv_topi (fun v9 ev9 => ?_)
        have hf := lt_s_ hf v9 ev9
        refine lv_istore_n (lv' := [(2, .int v9), (0, .ref (qm 0)), (1, .int l1), (3, .int l3)]) hx hb dX7_loadsOn_32 rfl hl (by decide) rfl (fun ls hl => ?_)
        obtain ⟨v10, ev10⟩ : ∃ z : Int32, z = (l3 + (1 : Int32)) := ⟨_, rfl⟩
        have hf := lt_s_ hf v10 ev10
        refine lv_iinc (v := v10) (lv' := [(3, .int v10), (2, .int v9), (0, .ref (qm 0)), (1, .int l1)]) hx hb dX7_loadsOn_33 hl (k := 3) rfl (by rw [ev10]; rfl) (by decide) rfl (fun ls hl => ?_)
        refine lv_goto (tgt := 4) hx hb dX7_loadsOn_36 (by decide) ?_
        exact ih v9 v10 H locs ls hw (lv_sub hl [2, 3, 1, 0] rfl)  hf
set_option maxHeartbeats 4000000 in
set_option maxRecDepth 100000 in
theorem cMo_loadsOn (l : Launch) (D : va_G) (κ : Nat → ClassId) (qm : Nat → Nat) (m_state m_tape : Nat → Int32) (m_taped m_fault m_broken m_brokenAt m_spot m_here m_token m_value : Int32) (m_ends m_letters m_moments m_stepsAt : Nat → Int32) (m_steps m_latest : Int32) (m_matrix m_sides m_tried m_answers : Nat → Int64) (m_rowOf : Nat → Int32) (m_whole : Int64) (m_shares m_isKept m_lanes m_lengths m_cells : Nat → Int32) (m_torn a1 zr : Int32) (hf : FMo_loadsOn m_state a1 = some zr) : mI_ l yX7_loadsOn (Cond.code yX7_loadsOn cX7_loadsOn 4 (some .int) :: uw) ({ frames := 1, cells := 0, slots := 0, locals := 20 } : Room) D (tys0 κ) [.ref (qm 0), .int a1] (List.flatten [pMo κ qm m_state m_tape m_taped m_fault m_broken m_brokenAt m_spot m_here m_token m_value m_ends m_letters m_moments m_stepsAt m_steps m_latest m_matrix m_sides m_tried m_answers m_rowOf m_whole m_shares m_isKept m_lanes m_lengths m_cells m_torn]) nT_ zr (List.flatten [pMo κ qm m_state m_tape m_taped m_fault m_broken m_brokenAt m_spot m_here m_token m_value m_ends m_letters m_moments m_stepsAt m_steps m_latest m_matrix m_sides m_tried m_answers m_rowOf m_whole m_shares m_isKept m_lanes m_lengths m_cells m_torn]) := by
  unfold FMo_loadsOn at hf
  refine mI_of (by decide) (Nat.le_of_ble_eq_true rfl) ?_
  intro p e s m below meth c A ls H locs C0 hw hl
  obtain ⟨hx, hb, -, hml, hown, hts, -, -⟩ := id C0
  have hl : lv_has ls 4 [(0, .ref (qm 0)), (1, .int a1)] := hl
  refine lv_iconst (v := 0) hx hb dX7_loadsOn_0 (by decide) ?_
  refine lv_istore_n (lv' := [(2, .int (0 : Int32)), (0, .ref (qm 0)), (1, .int a1)]) hx hb dX7_loadsOn_1 rfl hl (by decide) rfl (fun ls hl => ?_)
  refine lv_iconst (v := 0) hx hb dX7_loadsOn_2 (by decide) ?_
  refine lv_istore_n (lv' := [(3, .int (0 : Int32)), (2, .int (0 : Int32)), (0, .ref (qm 0)), (1, .int a1)]) hx hb dX7_loadsOn_3 rfl hl (by decide) rfl (fun ls hl => ?_)
  exact wMo_loadsOn_L4 C0 qm m_state m_tape m_taped m_fault m_broken m_brokenAt m_spot m_here m_token m_value m_ends m_letters m_moments m_stepsAt m_steps m_latest m_matrix m_sides m_tried m_answers m_rowOf m_whole m_shares m_isKept m_lanes m_lengths m_cells m_torn a1 zr 1000 (0 : Int32) (0 : Int32) H locs ls hw (lv_sub hl [2, 3, 1, 0] rfl)  hf
def FMo_beam (m_state : Nat → Int32) (a1 a2 : Int32) : Option (Int32) :=
  b1_ (FMo_isBeam m_state a1) fun r1 =>
  if r1 = 0 then
    some ((-1 : Int32))
  else
    b1_ (FMo_in (a2.toInt64) (0 : Int64) (5 : Int64)) fun r5 =>
    if r5 = 0 then
      some ((-1 : Int32))
    else
      if (4 : Int32) ≤ a2 then
        if a2 = (4 : Int32) then
          b1_ (FMo_stiffOf m_state ((2 : Int32) * a1)) fun r14 =>
          some (r14)
        else
          b1_ (FMo_loadsOn m_state a1) fun r11 =>
          some (r11)
      else
        gd_ (((12 : Int32) + ((10 : Int32) * a2)) + a1) 395 <|
        some ((m_state (((12 : Int32) + ((10 : Int32) * a2)) + a1).toNatClampNeg))
set_option maxHeartbeats 4000000 in
set_option maxRecDepth 100000 in
theorem cMo_beam (l : Launch) (D : va_G) (κ : Nat → ClassId) (qm : Nat → Nat) (m_state m_tape : Nat → Int32) (m_taped m_fault m_broken m_brokenAt m_spot m_here m_token m_value : Int32) (m_ends m_letters m_moments m_stepsAt : Nat → Int32) (m_steps m_latest : Int32) (m_matrix m_sides m_tried m_answers : Nat → Int64) (m_rowOf : Nat → Int32) (m_whole : Int64) (m_shares m_isKept m_lanes m_lengths m_cells : Nat → Int32) (m_torn a1 a2 zr : Int32) (hf : FMo_beam m_state a1 a2 = some zr) : mI_ l yX7_beam (Cond.code yX7_beam cX7_beam 3 (some .int) :: uw) ({ frames := 2, cells := 0, slots := 0, locals := 46 } : Room) D (tys0 κ) [.ref (qm 0), .int a1, .int a2] (List.flatten [pMo κ qm m_state m_tape m_taped m_fault m_broken m_brokenAt m_spot m_here m_token m_value m_ends m_letters m_moments m_stepsAt m_steps m_latest m_matrix m_sides m_tried m_answers m_rowOf m_whole m_shares m_isKept m_lanes m_lengths m_cells m_torn]) nT_ zr (List.flatten [pMo κ qm m_state m_tape m_taped m_fault m_broken m_brokenAt m_spot m_here m_token m_value m_ends m_letters m_moments m_stepsAt m_steps m_latest m_matrix m_sides m_tried m_answers m_rowOf m_whole m_shares m_isKept m_lanes m_lengths m_cells m_torn]) := by
  unfold FMo_beam at hf
  refine mI_of (by decide) (Nat.le_of_ble_eq_true rfl) ?_
  intro p e s m below meth c A ls H locs C0 hw hl
  obtain ⟨hx, hb, -, hml, hown, hts, -, -⟩ := id C0
  have hl : lv_has ls 3 [(0, .ref (qm 0)), (1, .int a1), (2, .int a2)] := hl
  refine lv_aload_n hx hb dX7_beam_0 rfl (lv_at hl 0 rfl) ?_
  refine lv_iload_n hx hb dX7_beam_1 rfl (lv_at hl 1 rfl) ?_
  obtain ⟨r1, hk2, hf⟩ := b1_s hf
  refine rv_i (vq := (RX7, TX7, 28)) (As := [.int a1]) (rest := []) (bs' := [pMo κ qm m_state m_tape m_taped m_fault m_broken m_brokenAt m_spot m_here m_token m_value m_ends m_letters m_moments m_stepsAt m_steps m_latest m_matrix m_sides m_tried m_answers m_rowOf m_whole m_shares m_isKept m_lanes m_lengths m_cells m_torn]) C0 hw (cMo_isBeam l D κ qm m_state m_tape m_taped m_fault m_broken m_brokenAt m_spot m_here m_token m_value m_ends m_letters m_moments m_stepsAt m_steps m_latest m_matrix m_sides m_tried m_answers m_rowOf m_whole m_shares m_isKept m_lanes m_lengths m_cells m_torn a1 r1 hk2) cv_RX7_205 ⟨rfl, rfl, Nat.le_of_ble_eq_true rfl, Nat.le_of_ble_eq_true rfl⟩ ⟨Nat.zero_le _, Nat.zero_le _⟩ [0] [] [0] rfl rfl rfl rfl (by decide) rfl rfl rfl rfl rfl hl.1 (by simp only [List.map, List.sum_cons, List.sum_nil, Value.category]; decide) dX7_beam_2 (fun H locs hw hn3 => ?_)
  refine lv_if_eq (tgt := 20) hx hb dX7_beam_5 (by decide) (fun hc4 => ?_) (fun hc4 => ?_)
  · have hf := if_t hc4 hf
    refine lv_iconst (v := -1) hx hb dX7_beam_20 (by decide) ?_
    obtain rfl := e1_ hf
    exact r_iret C0 hw trivial dX7_beam_21
  · have hf := if_f hc4 hf
    refine lv_iload_n hx hb dX7_beam_8 rfl (lv_at hl 2 rfl) ?_
    refine lv_i2l hx hb dX7_beam_9 rfl ?_
    refine lv_lconst (v := 0) hx hb dX7_beam_10 (by decide) ?_
    refine lv_ldc2 (v := 5) hx hb hown (hts _ kl_X7_208) dX7_beam_11 ?_
    obtain ⟨r5, hk6, hf⟩ := b1_s hf
    refine rs_i (As := [.long (a2.toInt64), .long (0 : Int64), .long (5 : Int64)]) (rest := []) (bs' := [pMo κ qm m_state m_tape m_taped m_fault m_broken m_brokenAt m_spot m_here m_token m_value m_ends m_letters m_moments m_stepsAt m_steps m_latest m_matrix m_sides m_tried m_answers m_rowOf m_whole m_shares m_isKept m_lanes m_lengths m_cells m_torn]) C0 hw (cMo_in l D κ (a2.toInt64) (0 : Int64) (5 : Int64) r5 hk6) cs_X7_66 ⟨rfl, rfl, Nat.le_of_ble_eq_true rfl, Nat.le_of_ble_eq_true rfl⟩ ⟨Nat.zero_le _, Nat.zero_le _⟩ [] [0] [0] rfl rfl rfl rfl (by decide) rfl rfl rfl hl.1 (by simp only [List.map, List.sum_cons, List.sum_nil, Value.category]; decide) dX7_beam_14 (fun H locs hw hn7 => ?_)
    refine lv_if_ne (tgt := 22) hx hb dX7_beam_17 (by decide) (fun hc8 => ?_) (fun hc8 => ?_)
    · have hf := if_f hc8 hf
      refine lv_iload_n hx hb dX7_beam_22 rfl (lv_at hl 2 rfl) ?_
      refine lv_iconst (v := 4) hx hb dX7_beam_23 (by decide) ?_
      refine lv_icmp_ge (tgt := 44) hx hb dX7_beam_24 (by decide) (fun hc9 => ?_) (fun hc9 => ?_)
      · have hf := if_t hc9 hf
        refine lv_iload_n hx hb dX7_beam_44 rfl (lv_at hl 2 rfl) ?_
        refine lv_iconst (v := 4) hx hb dX7_beam_45 (by decide) ?_
        refine lv_icmp_ne (tgt := 59) hx hb dX7_beam_46 (by decide) (fun hc10 => ?_) (fun hc10 => ?_)
        · have hf := if_f hc10 hf
          refine lv_aload_n hx hb dX7_beam_59 rfl (lv_at hl 0 rfl) ?_
          refine lv_iload_n hx hb dX7_beam_60 rfl (lv_at hl 1 rfl) ?_
          obtain ⟨r11, hk12, hf⟩ := b1_s hf
          refine rv_i (vq := (RX7, TX7, 28)) (As := [.int a1]) (rest := []) (bs' := [pMo κ qm m_state m_tape m_taped m_fault m_broken m_brokenAt m_spot m_here m_token m_value m_ends m_letters m_moments m_stepsAt m_steps m_latest m_matrix m_sides m_tried m_answers m_rowOf m_whole m_shares m_isKept m_lanes m_lengths m_cells m_torn]) C0 hw (cMo_loadsOn l D κ qm m_state m_tape m_taped m_fault m_broken m_brokenAt m_spot m_here m_token m_value m_ends m_letters m_moments m_stepsAt m_steps m_latest m_matrix m_sides m_tried m_answers m_rowOf m_whole m_shares m_isKept m_lanes m_lengths m_cells m_torn a1 r11 hk12) cv_RX7_210 ⟨rfl, rfl, Nat.le_of_ble_eq_true rfl, Nat.le_of_ble_eq_true rfl⟩ ⟨Nat.zero_le _, Nat.zero_le _⟩ [0] [] [0] rfl rfl rfl rfl (by decide) rfl rfl rfl rfl rfl hl.1 (by simp only [List.map, List.sum_cons, List.sum_nil, Value.category]; decide) dX7_beam_61 (fun H locs hw hn13 => ?_)
          obtain rfl := e1_ hf
          exact r_iret C0 hw trivial dX7_beam_64
        · have hf := if_t hc10 hf
          refine lv_aload_n hx hb dX7_beam_49 rfl (lv_at hl 0 rfl) ?_
          refine lv_iconst (v := 2) hx hb dX7_beam_50 (by decide) ?_
          refine lv_iload_n hx hb dX7_beam_51 rfl (lv_at hl 1 rfl) ?_
          refine lv_imul hx hb dX7_beam_52 ?_
          obtain ⟨r14, hk15, hf⟩ := b1_s hf
          refine rv_i (vq := (RX7, TX7, 28)) (As := [.int ((2 : Int32) * a1)]) (rest := []) (bs' := [pMo κ qm m_state m_tape m_taped m_fault m_broken m_brokenAt m_spot m_here m_token m_value m_ends m_letters m_moments m_stepsAt m_steps m_latest m_matrix m_sides m_tried m_answers m_rowOf m_whole m_shares m_isKept m_lanes m_lengths m_cells m_torn]) C0 hw (cMo_stiffOf l D κ qm m_state m_tape m_taped m_fault m_broken m_brokenAt m_spot m_here m_token m_value m_ends m_letters m_moments m_stepsAt m_steps m_latest m_matrix m_sides m_tried m_answers m_rowOf m_whole m_shares m_isKept m_lanes m_lengths m_cells m_torn ((2 : Int32) * a1) r14 hk15) cv_RX7_171 ⟨rfl, rfl, Nat.le_of_ble_eq_true rfl, Nat.le_of_ble_eq_true rfl⟩ ⟨Nat.zero_le _, Nat.zero_le _⟩ [0] [] [0] rfl rfl rfl rfl (by decide) rfl rfl rfl rfl rfl hl.1 (by simp only [List.map, List.sum_cons, List.sum_nil, Value.category]; decide) dX7_beam_53 (fun H locs hw hn16 => ?_)
          refine lv_goto (tgt := 64) hx hb dX7_beam_56 (by decide) ?_
          obtain rfl := e1_ hf
          exact r_iret C0 hw trivial dX7_beam_64
      · have hf := if_f hc9 hf
        refine lv_aload_n hx hb dX7_beam_27 rfl (lv_at hl 0 rfl) ?_
        refine r_get C0 hw 0 0 (v := .ref (qm 1)) rfl rfl inX7 (by decide) lk_X7_7 rfl dX7_beam_28 ?_
        refine lv_bipush (v := 12) hx hb dX7_beam_31 (by decide) ?_
        refine lv_bipush (v := 10) hx hb dX7_beam_33 (by decide) ?_
        refine lv_iload_n hx hb dX7_beam_35 rfl (lv_at hl 2 rfl) ?_
        refine lv_imul hx hb dX7_beam_36 ?_
        refine lv_iadd hx hb dX7_beam_37 ?_
        refine lv_iload_n hx hb dX7_beam_38 rfl (lv_at hl 1 rfl) ?_
        refine lv_iadd hx hb dX7_beam_39 ?_
        obtain ⟨hi17, hf⟩ := gd_s hf
        refine r_iald C0 hw 1 0 rfl rfl hi17 dX7_beam_40 ?_
        refine lv_goto (tgt := 64) hx hb dX7_beam_41 (by decide) ?_
        obtain rfl := e1_ hf
        exact r_iret C0 hw trivial dX7_beam_64
    · have hf := if_t hc8 hf
      refine lv_iconst (v := -1) hx hb dX7_beam_20 (by decide) ?_
      obtain rfl := e1_ hf
      exact r_iret C0 hw trivial dX7_beam_21
def FMo_load (m_state : Nat → Int32) (a1 a2 : Int32) : Option (Int32) :=
  b1_ (FMo_loads m_state) fun r1 =>
  b1_ (FMo_in (a1.toInt64) (0 : Int64) ((r1 - (1 : Int32)).toInt64)) fun r4 =>
  if r4 = 0 then
    some ((-1 : Int32))
  else
    gd_ ((68 : Int32) + a1) 395 <|
    lt_ (m_state ((68 : Int32) + a1).toNatClampNeg) fun v9 =>
    if a2 = 0 then
      gd_ ((52 : Int32) + a1) 395 <|
      some ((m_state ((52 : Int32) + a1).toNatClampNeg))
    else
    if a2 = 1 then
      if v9 ≤ 0 then
        some ((0 : Int32))
      else
        some ((1 : Int32))
    else
    if a2 = 2 then
      gd_ ((60 : Int32) + a1) 395 <|
      some ((m_state ((60 : Int32) + a1).toNatClampNeg))
    else
    if a2 = 3 then
      if v9 ≤ 0 then
        some ((-4 : Int32))
      else
        some (v9)
    else
    some ((-1 : Int32))
set_option maxHeartbeats 4000000 in
set_option maxRecDepth 100000 in
theorem cMo_load (l : Launch) (D : va_G) (κ : Nat → ClassId) (qm : Nat → Nat) (m_state m_tape : Nat → Int32) (m_taped m_fault m_broken m_brokenAt m_spot m_here m_token m_value : Int32) (m_ends m_letters m_moments m_stepsAt : Nat → Int32) (m_steps m_latest : Int32) (m_matrix m_sides m_tried m_answers : Nat → Int64) (m_rowOf : Nat → Int32) (m_whole : Int64) (m_shares m_isKept m_lanes m_lengths m_cells : Nat → Int32) (m_torn a1 a2 zr : Int32) (hf : FMo_load m_state a1 a2 = some zr) : mI_ l yX7_load (Cond.code yX7_load cX7_load 4 (some .int) :: uw) ({ frames := 1, cells := 0, slots := 0, locals := 25 } : Room) D (tys0 κ) [.ref (qm 0), .int a1, .int a2] (List.flatten [pMo κ qm m_state m_tape m_taped m_fault m_broken m_brokenAt m_spot m_here m_token m_value m_ends m_letters m_moments m_stepsAt m_steps m_latest m_matrix m_sides m_tried m_answers m_rowOf m_whole m_shares m_isKept m_lanes m_lengths m_cells m_torn]) nT_ zr (List.flatten [pMo κ qm m_state m_tape m_taped m_fault m_broken m_brokenAt m_spot m_here m_token m_value m_ends m_letters m_moments m_stepsAt m_steps m_latest m_matrix m_sides m_tried m_answers m_rowOf m_whole m_shares m_isKept m_lanes m_lengths m_cells m_torn]) := by
  unfold FMo_load at hf
  refine mI_of (by decide) (Nat.le_of_ble_eq_true rfl) ?_
  intro p e s m below meth c A ls H locs C0 hw hl
  obtain ⟨hx, hb, -, hml, hown, hts, -, -⟩ := id C0
  have hl : lv_has ls 4 [(0, .ref (qm 0)), (1, .int a1), (2, .int a2)] := hl
  refine lv_iload_n hx hb dX7_load_0 rfl (lv_at hl 1 rfl) ?_
  refine lv_i2l hx hb dX7_load_1 rfl ?_
  refine lv_lconst (v := 0) hx hb dX7_load_2 (by decide) ?_
  refine lv_aload_n hx hb dX7_load_3 rfl (lv_at hl 0 rfl) ?_
  obtain ⟨r1, hk2, hf⟩ := b1_s hf
  refine rv_i (vq := (RX7, TX7, 28)) (As := []) (rest := [.long (0 : Int64), .long (a1.toInt64)]) (bs' := [pMo κ qm m_state m_tape m_taped m_fault m_broken m_brokenAt m_spot m_here m_token m_value m_ends m_letters m_moments m_stepsAt m_steps m_latest m_matrix m_sides m_tried m_answers m_rowOf m_whole m_shares m_isKept m_lanes m_lengths m_cells m_torn]) C0 hw (cMo_loads l D κ qm m_state m_tape m_taped m_fault m_broken m_brokenAt m_spot m_here m_token m_value m_ends m_letters m_moments m_stepsAt m_steps m_latest m_matrix m_sides m_tried m_answers m_rowOf m_whole m_shares m_isKept m_lanes m_lengths m_cells m_torn r1 hk2) cv_RX7_152 ⟨rfl, rfl, Nat.le_of_ble_eq_true rfl, Nat.le_of_ble_eq_true rfl⟩ ⟨Nat.zero_le _, Nat.zero_le _⟩ [0] [] [0] rfl rfl rfl rfl (by decide) rfl rfl rfl rfl rfl hl.1 (by simp only [List.map, List.sum_cons, List.sum_nil, Value.category]; decide) dX7_load_4 (fun H locs hw hn3 => ?_)
  refine lv_iconst (v := 1) hx hb dX7_load_7 (by decide) ?_
  refine lv_isub hx hb dX7_load_8 ?_
  refine lv_i2l hx hb dX7_load_9 rfl ?_
  obtain ⟨r4, hk5, hf⟩ := b1_s hf
  refine rs_i (As := [.long (a1.toInt64), .long (0 : Int64), .long ((r1 - (1 : Int32)).toInt64)]) (rest := []) (bs' := [pMo κ qm m_state m_tape m_taped m_fault m_broken m_brokenAt m_spot m_here m_token m_value m_ends m_letters m_moments m_stepsAt m_steps m_latest m_matrix m_sides m_tried m_answers m_rowOf m_whole m_shares m_isKept m_lanes m_lengths m_cells m_torn]) C0 hw (cMo_in l D κ (a1.toInt64) (0 : Int64) ((r1 - (1 : Int32)).toInt64) r4 hk5) cs_X7_66 ⟨rfl, rfl, Nat.le_of_ble_eq_true rfl, Nat.le_of_ble_eq_true rfl⟩ ⟨Nat.zero_le _, Nat.zero_le _⟩ [] [0] [0] rfl rfl rfl rfl (by decide) rfl rfl rfl hl.1 (by simp only [List.map, List.sum_cons, List.sum_nil, Value.category]; decide) dX7_load_10 (fun H locs hw hn6 => ?_)
  refine lv_if_ne (tgt := 18) hx hb dX7_load_13 (by decide) (fun hc7 => ?_) (fun hc7 => ?_)
  · have hf := if_f hc7 hf
    refine lv_aload_n hx hb dX7_load_18 rfl (lv_at hl 0 rfl) ?_
    refine r_get C0 hw 0 0 (v := .ref (qm 1)) rfl rfl inX7 (by decide) lk_X7_7 rfl dX7_load_19 ?_
    refine lv_bipush (v := 68) hx hb dX7_load_22 (by decide) ?_
    refine lv_iload_n hx hb dX7_load_24 rfl (lv_at hl 1 rfl) ?_
    refine lv_iadd hx hb dX7_load_25 ?_
    obtain ⟨hi8, hf⟩ := gd_s hf
    refine r_iald C0 hw 1 0 rfl rfl hi8 dX7_load_26 ?_
    refine lv_topi (fun v9 ev9 => ?_)
    have hf := lt_s_ hf v9 ev9
    refine lv_istore_n (lv' := [(3, .int v9), (0, .ref (qm 0)), (1, .int a1), (2, .int a2)]) hx hb dX7_load_27 rfl hl (by decide) rfl (fun ls hl => ?_)
    refine lv_iload_n hx hb dX7_load_28 rfl (lv_at hl 3 rfl) ?_
    by_cases hc10 : a2 = 0
    · have hf := if_t hc10 hf
      refine lv_tableIn (tgt := 60) hx hb dX7_load_29 (by rw [hc10]; decide) (by rw [hc10]; decide) (by rw [hc10]; rfl) (by decide) ?_
      refine lv_aload_n hx hb dX7_load_60 rfl (lv_at hl 1 rfl) ?_
      refine r_get C0 hw 0 0 (v := .ref (qm 1)) rfl rfl inX7 (by decide) lk_X7_7 rfl dX7_load_61 ?_
      refine lv_bipush (v := 52) hx hb dX7_load_64 (by decide) ?_
      refine lv_iload_n hx hb dX7_load_66 rfl (lv_at hl 2 rfl) ?_
      refine lv_iadd hx hb dX7_load_67 ?_
      obtain ⟨hi11, hf⟩ := gd_s hf
      refine r_iald C0 hw 1 0 rfl rfl hi11 dX7_load_68 ?_
      obtain rfl := e1_ hf
      exact r_iret C0 hw trivial dX7_load_69
    have hf := if_f hc10 hf
    by_cases hc12 : a2 = 1
    · have hf := if_t hc12 hf
      refine lv_tableIn (tgt := 70) hx hb dX7_load_29 (by rw [hc12]; decide) (by rw [hc12]; decide) (by rw [hc12]; rfl) (by decide) ?_
      refine lv_iload_n hx hb dX7_load_70 rfl (lv_at hl 0 rfl) ?_
      refine lv_if_le (tgt := 78) hx hb dX7_load_71 (by decide) (fun hc13 => ?_) (fun hc13 => ?_)
      · have hf := if_t hc13 hf
        refine lv_iconst (v := 0) hx hb dX7_load_78 (by decide) ?_
        obtain rfl := e1_ hf
        exact r_iret C0 hw trivial dX7_load_79
      · have hf := if_f hc13 hf
        refine lv_iconst (v := 1) hx hb dX7_load_74 (by decide) ?_
        refine lv_goto (tgt := 79) hx hb dX7_load_75 (by decide) ?_
        obtain rfl := e1_ hf
        exact r_iret C0 hw trivial dX7_load_79
    have hf := if_f hc12 hf
    by_cases hc14 : a2 = 2
    · have hf := if_t hc14 hf
      refine lv_tableIn (tgt := 80) hx hb dX7_load_29 (by rw [hc14]; decide) (by rw [hc14]; decide) (by rw [hc14]; rfl) (by decide) ?_
      refine lv_aload_n hx hb dX7_load_80 rfl (lv_at hl 1 rfl) ?_
      refine r_get C0 hw 0 0 (v := .ref (qm 1)) rfl rfl inX7 (by decide) lk_X7_7 rfl dX7_load_81 ?_
      refine lv_bipush (v := 60) hx hb dX7_load_84 (by decide) ?_
      refine lv_iload_n hx hb dX7_load_86 rfl (lv_at hl 2 rfl) ?_
      refine lv_iadd hx hb dX7_load_87 ?_
      obtain ⟨hi15, hf⟩ := gd_s hf
      refine r_iald C0 hw 1 0 rfl rfl hi15 dX7_load_88 ?_
      obtain rfl := e1_ hf
      exact r_iret C0 hw trivial dX7_load_89
    have hf := if_f hc14 hf
    by_cases hc16 : a2 = 3
    · have hf := if_t hc16 hf
      refine lv_tableIn (tgt := 90) hx hb dX7_load_29 (by rw [hc16]; decide) (by rw [hc16]; decide) (by rw [hc16]; rfl) (by decide) ?_
      refine lv_iload_n hx hb dX7_load_90 rfl (lv_at hl 0 rfl) ?_
      refine lv_if_le (tgt := 98) hx hb dX7_load_91 (by decide) (fun hc17 => ?_) (fun hc17 => ?_)
      · have hf := if_t hc17 hf
        refine lv_bipush (v := -4) hx hb dX7_load_98 (by decide) ?_
        obtain rfl := e1_ hf
        exact r_iret C0 hw trivial dX7_load_100
      · have hf := if_f hc17 hf
        refine lv_iload_n hx hb dX7_load_94 rfl (lv_at hl 0 rfl) ?_
        refine lv_goto (tgt := 100) hx hb dX7_load_95 (by decide) ?_
        obtain rfl := e1_ hf
        exact r_iret C0 hw trivial dX7_load_100
    have hf := if_f hc16 hf
    have hc10 := lv_neT (a := 0) hc10 (by decide)
    have hc12 := lv_neT (a := 1) hc12 (by decide)
    have hc14 := lv_neT (a := 2) hc14 (by decide)
    have hc16 := lv_neT (a := 3) hc16 (by decide)
    refine lv_tableOut (tgt := 101) hx hb dX7_load_29 (by omega) (by decide) ?_
    refine lv_iconst (v := -1) hx hb dX7_load_101 (by decide) ?_
    obtain rfl := e1_ hf
    exact r_iret C0 hw trivial dX7_load_102
  · have hf := if_t hc7 hf
    refine lv_iconst (v := -1) hx hb dX7_load_16 (by decide) ?_
    obtain rfl := e1_ hf
    exact r_iret C0 hw trivial dX7_load_17
def FMo_two (m_tried : Nat → Int64) (a1 a2 a3 : Int32) : Option (Int64) :=
  gd_ (((4 : Int32) * a1) + a2) 16 <|
  gd_ ((((4 : Int32) * a1) + (4 : Int32)) + a3) 16 <|
  gd_ (((4 : Int32) * a1) + a3) 16 <|
  gd_ ((((4 : Int32) * a1) + (4 : Int32)) + a2) 16 <|
  some ((((m_tried (((4 : Int32) * a1) + a2).toNatClampNeg) * (m_tried ((((4 : Int32) * a1) + (4 : Int32)) + a3).toNatClampNeg)) - ((m_tried (((4 : Int32) * a1) + a3).toNatClampNeg) * (m_tried ((((4 : Int32) * a1) + (4 : Int32)) + a2).toNatClampNeg))))
set_option maxHeartbeats 4000000 in
set_option maxRecDepth 100000 in
theorem cMo_two (l : Launch) (D : va_G) (κ : Nat → ClassId) (qm : Nat → Nat) (m_state m_tape : Nat → Int32) (m_taped m_fault m_broken m_brokenAt m_spot m_here m_token m_value : Int32) (m_ends m_letters m_moments m_stepsAt : Nat → Int32) (m_steps m_latest : Int32) (m_matrix m_sides m_tried m_answers : Nat → Int64) (m_rowOf : Nat → Int32) (m_whole : Int64) (m_shares m_isKept m_lanes m_lengths m_cells : Nat → Int32) (m_torn a1 a2 a3 : Int32) (zr : Int64) (hf : FMo_two m_tried a1 a2 a3 = some zr) : mL_ l yX7_two (Cond.code yX7_two cX7_two 4 (some .long) :: uw) ({ frames := 0, cells := 0, slots := 0, locals := 0 } : Room) D (tys0 κ) [.ref (qm 0), .int a1, .int a2, .int a3] (List.flatten [pMo κ qm m_state m_tape m_taped m_fault m_broken m_brokenAt m_spot m_here m_token m_value m_ends m_letters m_moments m_stepsAt m_steps m_latest m_matrix m_sides m_tried m_answers m_rowOf m_whole m_shares m_isKept m_lanes m_lengths m_cells m_torn]) zr (List.flatten [pMo κ qm m_state m_tape m_taped m_fault m_broken m_brokenAt m_spot m_here m_token m_value m_ends m_letters m_moments m_stepsAt m_steps m_latest m_matrix m_sides m_tried m_answers m_rowOf m_whole m_shares m_isKept m_lanes m_lengths m_cells m_torn]) := by
  unfold FMo_two at hf
  refine mL_of (by decide) (Nat.le_of_ble_eq_true rfl) ?_
  intro p e s m below meth c A ls H locs C0 hw hl
  obtain ⟨hx, hb, -, hml, hown, hts, -, -⟩ := id C0
  have hl : lv_has ls 4 [(0, .ref (qm 0)), (1, .int a1), (2, .int a2), (3, .int a3)] := hl
  refine lv_aload_n hx hb dX7_two_0 rfl (lv_at hl 0 rfl) ?_
  refine r_get C0 hw 0 18 (v := .ref (qm 9)) rfl rfl inX7 (by decide) lk_X7_39 rfl dX7_two_1 ?_
  refine lv_iconst (v := 4) hx hb dX7_two_4 (by decide) ?_
  refine lv_iload_n hx hb dX7_two_5 rfl (lv_at hl 1 rfl) ?_
  refine lv_imul hx hb dX7_two_6 ?_
  refine lv_iload_n hx hb dX7_two_7 rfl (lv_at hl 2 rfl) ?_
  refine lv_iadd hx hb dX7_two_8 ?_
  obtain ⟨hi1, hf⟩ := gd_s hf
  refine r_lald C0 hw 9 3 rfl rfl hi1 dX7_two_9 ?_
  refine lv_aload_n hx hb dX7_two_10 rfl (lv_at hl 0 rfl) ?_
  refine r_get C0 hw 0 18 (v := .ref (qm 9)) rfl rfl inX7 (by decide) lk_X7_39 rfl dX7_two_11 ?_
  refine lv_iconst (v := 4) hx hb dX7_two_14 (by decide) ?_
  refine lv_iload_n hx hb dX7_two_15 rfl (lv_at hl 1 rfl) ?_
  refine lv_imul hx hb dX7_two_16 ?_
  refine lv_iconst (v := 4) hx hb dX7_two_17 (by decide) ?_
  refine lv_iadd hx hb dX7_two_18 ?_
  refine lv_iload_n hx hb dX7_two_19 rfl (lv_at hl 3 rfl) ?_
  refine lv_iadd hx hb dX7_two_20 ?_
  obtain ⟨hi2, hf⟩ := gd_s hf
  refine r_lald C0 hw 9 3 rfl rfl hi2 dX7_two_21 ?_
  refine lv_lmul hx hb dX7_two_22 ?_
  refine lv_aload_n hx hb dX7_two_23 rfl (lv_at hl 0 rfl) ?_
  refine r_get C0 hw 0 18 (v := .ref (qm 9)) rfl rfl inX7 (by decide) lk_X7_39 rfl dX7_two_24 ?_
  refine lv_iconst (v := 4) hx hb dX7_two_27 (by decide) ?_
  refine lv_iload_n hx hb dX7_two_28 rfl (lv_at hl 1 rfl) ?_
  refine lv_imul hx hb dX7_two_29 ?_
  refine lv_iload_n hx hb dX7_two_30 rfl (lv_at hl 3 rfl) ?_
  refine lv_iadd hx hb dX7_two_31 ?_
  obtain ⟨hi3, hf⟩ := gd_s hf
  refine r_lald C0 hw 9 3 rfl rfl hi3 dX7_two_32 ?_
  refine lv_aload_n hx hb dX7_two_33 rfl (lv_at hl 0 rfl) ?_
  refine r_get C0 hw 0 18 (v := .ref (qm 9)) rfl rfl inX7 (by decide) lk_X7_39 rfl dX7_two_34 ?_
  refine lv_iconst (v := 4) hx hb dX7_two_37 (by decide) ?_
  refine lv_iload_n hx hb dX7_two_38 rfl (lv_at hl 1 rfl) ?_
  refine lv_imul hx hb dX7_two_39 ?_
  refine lv_iconst (v := 4) hx hb dX7_two_40 (by decide) ?_
  refine lv_iadd hx hb dX7_two_41 ?_
  refine lv_iload_n hx hb dX7_two_42 rfl (lv_at hl 2 rfl) ?_
  refine lv_iadd hx hb dX7_two_43 ?_
  obtain ⟨hi4, hf⟩ := gd_s hf
  refine r_lald C0 hw 9 3 rfl rfl hi4 dX7_two_44 ?_
  refine lv_lmul hx hb dX7_two_45 ?_
  refine lv_lsub hx hb dX7_two_46 ?_
  obtain rfl := e1_ hf
  exact r_lret C0 hw dX7_two_47
def FMo_determinant (m_tried : Nat → Int64) : Option (Int64) :=
  b1_ (FMo_two m_tried (0 : Int32) (0 : Int32) (1 : Int32)) fun r1 =>
  b1_ (FMo_two m_tried (2 : Int32) (2 : Int32) (3 : Int32)) fun r4 =>
  b1_ (FMo_two m_tried (0 : Int32) (0 : Int32) (2 : Int32)) fun r7 =>
  b1_ (FMo_two m_tried (2 : Int32) (1 : Int32) (3 : Int32)) fun r10 =>
  b1_ (FMo_two m_tried (0 : Int32) (0 : Int32) (3 : Int32)) fun r13 =>
  b1_ (FMo_two m_tried (2 : Int32) (1 : Int32) (2 : Int32)) fun r16 =>
  b1_ (FMo_two m_tried (0 : Int32) (1 : Int32) (2 : Int32)) fun r19 =>
  b1_ (FMo_two m_tried (2 : Int32) (0 : Int32) (3 : Int32)) fun r22 =>
  b1_ (FMo_two m_tried (0 : Int32) (1 : Int32) (3 : Int32)) fun r25 =>
  b1_ (FMo_two m_tried (2 : Int32) (0 : Int32) (2 : Int32)) fun r28 =>
  b1_ (FMo_two m_tried (0 : Int32) (2 : Int32) (3 : Int32)) fun r31 =>
  b1_ (FMo_two m_tried (2 : Int32) (0 : Int32) (1 : Int32)) fun r34 =>
  some (((((((r1 * r4) - (r7 * r10)) + (r13 * r16)) + (r19 * r22)) - (r25 * r28)) + (r31 * r34)))
set_option maxHeartbeats 4000000 in
set_option maxRecDepth 100000 in
theorem cMo_determinant (l : Launch) (D : va_G) (κ : Nat → ClassId) (qm : Nat → Nat) (m_state m_tape : Nat → Int32) (m_taped m_fault m_broken m_brokenAt m_spot m_here m_token m_value : Int32) (m_ends m_letters m_moments m_stepsAt : Nat → Int32) (m_steps m_latest : Int32) (m_matrix m_sides m_tried m_answers : Nat → Int64) (m_rowOf : Nat → Int32) (m_whole : Int64) (m_shares m_isKept m_lanes m_lengths m_cells : Nat → Int32) (m_torn : Int32) (zr : Int64) (hf : FMo_determinant m_tried = some zr) : mL_ l yX7_determinant (Cond.code yX7_determinant cX7_determinant 1 (some .long) :: uw) ({ frames := 1, cells := 0, slots := 0, locals := 23 } : Room) D (tys0 κ) [.ref (qm 0)] (List.flatten [pMo κ qm m_state m_tape m_taped m_fault m_broken m_brokenAt m_spot m_here m_token m_value m_ends m_letters m_moments m_stepsAt m_steps m_latest m_matrix m_sides m_tried m_answers m_rowOf m_whole m_shares m_isKept m_lanes m_lengths m_cells m_torn]) zr (List.flatten [pMo κ qm m_state m_tape m_taped m_fault m_broken m_brokenAt m_spot m_here m_token m_value m_ends m_letters m_moments m_stepsAt m_steps m_latest m_matrix m_sides m_tried m_answers m_rowOf m_whole m_shares m_isKept m_lanes m_lengths m_cells m_torn]) := by
  unfold FMo_determinant at hf
  refine mL_of (by decide) (Nat.le_of_ble_eq_true rfl) ?_
  intro p e s m below meth c A ls H locs C0 hw hl
  obtain ⟨hx, hb, -, hml, hown, hts, -, -⟩ := id C0
  have hl : lv_has ls 1 [(0, .ref (qm 0))] := hl
  refine lv_aload_n hx hb dX7_determinant_0 rfl (lv_at hl 0 rfl) ?_
  refine lv_iconst (v := 0) hx hb dX7_determinant_1 (by decide) ?_
  refine lv_iconst (v := 0) hx hb dX7_determinant_2 (by decide) ?_
  refine lv_iconst (v := 1) hx hb dX7_determinant_3 (by decide) ?_
  obtain ⟨r1, hk2, hf⟩ := b1_s hf
  refine rv_l (vq := (RX7, TX7, 28)) (As := [.int (0 : Int32), .int (0 : Int32), .int (1 : Int32)]) (rest := []) (bs' := [pMo κ qm m_state m_tape m_taped m_fault m_broken m_brokenAt m_spot m_here m_token m_value m_ends m_letters m_moments m_stepsAt m_steps m_latest m_matrix m_sides m_tried m_answers m_rowOf m_whole m_shares m_isKept m_lanes m_lengths m_cells m_torn]) C0 hw (cMo_two l D κ qm m_state m_tape m_taped m_fault m_broken m_brokenAt m_spot m_here m_token m_value m_ends m_letters m_moments m_stepsAt m_steps m_latest m_matrix m_sides m_tried m_answers m_rowOf m_whole m_shares m_isKept m_lanes m_lengths m_cells m_torn (0 : Int32) (0 : Int32) (1 : Int32) r1 hk2) cv_RX7_213 ⟨rfl, rfl, Nat.le_of_ble_eq_true rfl, Nat.le_of_ble_eq_true rfl⟩ ⟨Nat.zero_le _, Nat.zero_le _⟩ [0] [] [0] rfl rfl rfl rfl (by decide) rfl rfl rfl rfl rfl hl.1 (by simp only [List.map, List.sum_cons, List.sum_nil, Value.category]; decide) dX7_determinant_4 (fun H locs hw => ?_)
  refine lv_aload_n hx hb dX7_determinant_7 rfl (lv_at hl 0 rfl) ?_
  refine lv_iconst (v := 2) hx hb dX7_determinant_8 (by decide) ?_
  refine lv_iconst (v := 2) hx hb dX7_determinant_9 (by decide) ?_
  refine lv_iconst (v := 3) hx hb dX7_determinant_10 (by decide) ?_
  obtain ⟨r4, hk5, hf⟩ := b1_s hf
  refine rv_l (vq := (RX7, TX7, 28)) (As := [.int (2 : Int32), .int (2 : Int32), .int (3 : Int32)]) (rest := [.long r1]) (bs' := [pMo κ qm m_state m_tape m_taped m_fault m_broken m_brokenAt m_spot m_here m_token m_value m_ends m_letters m_moments m_stepsAt m_steps m_latest m_matrix m_sides m_tried m_answers m_rowOf m_whole m_shares m_isKept m_lanes m_lengths m_cells m_torn]) C0 hw (cMo_two l D κ qm m_state m_tape m_taped m_fault m_broken m_brokenAt m_spot m_here m_token m_value m_ends m_letters m_moments m_stepsAt m_steps m_latest m_matrix m_sides m_tried m_answers m_rowOf m_whole m_shares m_isKept m_lanes m_lengths m_cells m_torn (2 : Int32) (2 : Int32) (3 : Int32) r4 hk5) cv_RX7_213 ⟨rfl, rfl, Nat.le_of_ble_eq_true rfl, Nat.le_of_ble_eq_true rfl⟩ ⟨Nat.zero_le _, Nat.zero_le _⟩ [0] [] [0] rfl rfl rfl rfl (by decide) rfl rfl rfl rfl rfl hl.1 (by simp only [List.map, List.sum_cons, List.sum_nil, Value.category]; decide) dX7_determinant_11 (fun H locs hw => ?_)
  refine lv_lmul hx hb dX7_determinant_14 ?_
  refine lv_aload_n hx hb dX7_determinant_15 rfl (lv_at hl 0 rfl) ?_
  refine lv_iconst (v := 0) hx hb dX7_determinant_16 (by decide) ?_
  refine lv_iconst (v := 0) hx hb dX7_determinant_17 (by decide) ?_
  refine lv_iconst (v := 2) hx hb dX7_determinant_18 (by decide) ?_
  obtain ⟨r7, hk8, hf⟩ := b1_s hf
  refine rv_l (vq := (RX7, TX7, 28)) (As := [.int (0 : Int32), .int (0 : Int32), .int (2 : Int32)]) (rest := [.long (r1 * r4)]) (bs' := [pMo κ qm m_state m_tape m_taped m_fault m_broken m_brokenAt m_spot m_here m_token m_value m_ends m_letters m_moments m_stepsAt m_steps m_latest m_matrix m_sides m_tried m_answers m_rowOf m_whole m_shares m_isKept m_lanes m_lengths m_cells m_torn]) C0 hw (cMo_two l D κ qm m_state m_tape m_taped m_fault m_broken m_brokenAt m_spot m_here m_token m_value m_ends m_letters m_moments m_stepsAt m_steps m_latest m_matrix m_sides m_tried m_answers m_rowOf m_whole m_shares m_isKept m_lanes m_lengths m_cells m_torn (0 : Int32) (0 : Int32) (2 : Int32) r7 hk8) cv_RX7_213 ⟨rfl, rfl, Nat.le_of_ble_eq_true rfl, Nat.le_of_ble_eq_true rfl⟩ ⟨Nat.zero_le _, Nat.zero_le _⟩ [0] [] [0] rfl rfl rfl rfl (by decide) rfl rfl rfl rfl rfl hl.1 (by simp only [List.map, List.sum_cons, List.sum_nil, Value.category]; decide) dX7_determinant_19 (fun H locs hw => ?_)
  refine lv_aload_n hx hb dX7_determinant_22 rfl (lv_at hl 0 rfl) ?_
  refine lv_iconst (v := 2) hx hb dX7_determinant_23 (by decide) ?_
  refine lv_iconst (v := 1) hx hb dX7_determinant_24 (by decide) ?_
  refine lv_iconst (v := 3) hx hb dX7_determinant_25 (by decide) ?_
  obtain ⟨r10, hk11, hf⟩ := b1_s hf
  refine rv_l (vq := (RX7, TX7, 28)) (As := [.int (2 : Int32), .int (1 : Int32), .int (3 : Int32)]) (rest := [.long r7, .long (r1 * r4)]) (bs' := [pMo κ qm m_state m_tape m_taped m_fault m_broken m_brokenAt m_spot m_here m_token m_value m_ends m_letters m_moments m_stepsAt m_steps m_latest m_matrix m_sides m_tried m_answers m_rowOf m_whole m_shares m_isKept m_lanes m_lengths m_cells m_torn]) C0 hw (cMo_two l D κ qm m_state m_tape m_taped m_fault m_broken m_brokenAt m_spot m_here m_token m_value m_ends m_letters m_moments m_stepsAt m_steps m_latest m_matrix m_sides m_tried m_answers m_rowOf m_whole m_shares m_isKept m_lanes m_lengths m_cells m_torn (2 : Int32) (1 : Int32) (3 : Int32) r10 hk11) cv_RX7_213 ⟨rfl, rfl, Nat.le_of_ble_eq_true rfl, Nat.le_of_ble_eq_true rfl⟩ ⟨Nat.zero_le _, Nat.zero_le _⟩ [0] [] [0] rfl rfl rfl rfl (by decide) rfl rfl rfl rfl rfl hl.1 (by simp only [List.map, List.sum_cons, List.sum_nil, Value.category]; decide) dX7_determinant_26 (fun H locs hw => ?_)
  refine lv_lmul hx hb dX7_determinant_29 ?_
  refine lv_lsub hx hb dX7_determinant_30 ?_
  refine lv_aload_n hx hb dX7_determinant_31 rfl (lv_at hl 0 rfl) ?_
  refine lv_iconst (v := 0) hx hb dX7_determinant_32 (by decide) ?_
  refine lv_iconst (v := 0) hx hb dX7_determinant_33 (by decide) ?_
  refine lv_iconst (v := 3) hx hb dX7_determinant_34 (by decide) ?_
  obtain ⟨r13, hk14, hf⟩ := b1_s hf
  refine rv_l (vq := (RX7, TX7, 28)) (As := [.int (0 : Int32), .int (0 : Int32), .int (3 : Int32)]) (rest := [.long ((r1 * r4) - (r7 * r10))]) (bs' := [pMo κ qm m_state m_tape m_taped m_fault m_broken m_brokenAt m_spot m_here m_token m_value m_ends m_letters m_moments m_stepsAt m_steps m_latest m_matrix m_sides m_tried m_answers m_rowOf m_whole m_shares m_isKept m_lanes m_lengths m_cells m_torn]) C0 hw (cMo_two l D κ qm m_state m_tape m_taped m_fault m_broken m_brokenAt m_spot m_here m_token m_value m_ends m_letters m_moments m_stepsAt m_steps m_latest m_matrix m_sides m_tried m_answers m_rowOf m_whole m_shares m_isKept m_lanes m_lengths m_cells m_torn (0 : Int32) (0 : Int32) (3 : Int32) r13 hk14) cv_RX7_213 ⟨rfl, rfl, Nat.le_of_ble_eq_true rfl, Nat.le_of_ble_eq_true rfl⟩ ⟨Nat.zero_le _, Nat.zero_le _⟩ [0] [] [0] rfl rfl rfl rfl (by decide) rfl rfl rfl rfl rfl hl.1 (by simp only [List.map, List.sum_cons, List.sum_nil, Value.category]; decide) dX7_determinant_35 (fun H locs hw => ?_)
  refine lv_aload_n hx hb dX7_determinant_38 rfl (lv_at hl 0 rfl) ?_
  refine lv_iconst (v := 2) hx hb dX7_determinant_39 (by decide) ?_
  refine lv_iconst (v := 1) hx hb dX7_determinant_40 (by decide) ?_
  refine lv_iconst (v := 2) hx hb dX7_determinant_41 (by decide) ?_
  obtain ⟨r16, hk17, hf⟩ := b1_s hf
  refine rv_l (vq := (RX7, TX7, 28)) (As := [.int (2 : Int32), .int (1 : Int32), .int (2 : Int32)]) (rest := [.long r13, .long ((r1 * r4) - (r7 * r10))]) (bs' := [pMo κ qm m_state m_tape m_taped m_fault m_broken m_brokenAt m_spot m_here m_token m_value m_ends m_letters m_moments m_stepsAt m_steps m_latest m_matrix m_sides m_tried m_answers m_rowOf m_whole m_shares m_isKept m_lanes m_lengths m_cells m_torn]) C0 hw (cMo_two l D κ qm m_state m_tape m_taped m_fault m_broken m_brokenAt m_spot m_here m_token m_value m_ends m_letters m_moments m_stepsAt m_steps m_latest m_matrix m_sides m_tried m_answers m_rowOf m_whole m_shares m_isKept m_lanes m_lengths m_cells m_torn (2 : Int32) (1 : Int32) (2 : Int32) r16 hk17) cv_RX7_213 ⟨rfl, rfl, Nat.le_of_ble_eq_true rfl, Nat.le_of_ble_eq_true rfl⟩ ⟨Nat.zero_le _, Nat.zero_le _⟩ [0] [] [0] rfl rfl rfl rfl (by decide) rfl rfl rfl rfl rfl hl.1 (by simp only [List.map, List.sum_cons, List.sum_nil, Value.category]; decide) dX7_determinant_42 (fun H locs hw => ?_)
  refine lv_lmul hx hb dX7_determinant_45 ?_
  refine lv_ladd hx hb dX7_determinant_46 ?_
  refine lv_aload_n hx hb dX7_determinant_47 rfl (lv_at hl 0 rfl) ?_
  refine lv_iconst (v := 0) hx hb dX7_determinant_48 (by decide) ?_
  refine lv_iconst (v := 1) hx hb dX7_determinant_49 (by decide) ?_
  refine lv_iconst (v := 2) hx hb dX7_determinant_50 (by decide) ?_
  obtain ⟨r19, hk20, hf⟩ := b1_s hf
  refine rv_l (vq := (RX7, TX7, 28)) (As := [.int (0 : Int32), .int (1 : Int32), .int (2 : Int32)]) (rest := [.long (((r1 * r4) - (r7 * r10)) + (r13 * r16))]) (bs' := [pMo κ qm m_state m_tape m_taped m_fault m_broken m_brokenAt m_spot m_here m_token m_value m_ends m_letters m_moments m_stepsAt m_steps m_latest m_matrix m_sides m_tried m_answers m_rowOf m_whole m_shares m_isKept m_lanes m_lengths m_cells m_torn]) C0 hw (cMo_two l D κ qm m_state m_tape m_taped m_fault m_broken m_brokenAt m_spot m_here m_token m_value m_ends m_letters m_moments m_stepsAt m_steps m_latest m_matrix m_sides m_tried m_answers m_rowOf m_whole m_shares m_isKept m_lanes m_lengths m_cells m_torn (0 : Int32) (1 : Int32) (2 : Int32) r19 hk20) cv_RX7_213 ⟨rfl, rfl, Nat.le_of_ble_eq_true rfl, Nat.le_of_ble_eq_true rfl⟩ ⟨Nat.zero_le _, Nat.zero_le _⟩ [0] [] [0] rfl rfl rfl rfl (by decide) rfl rfl rfl rfl rfl hl.1 (by simp only [List.map, List.sum_cons, List.sum_nil, Value.category]; decide) dX7_determinant_51 (fun H locs hw => ?_)
  refine lv_aload_n hx hb dX7_determinant_54 rfl (lv_at hl 0 rfl) ?_
  refine lv_iconst (v := 2) hx hb dX7_determinant_55 (by decide) ?_
  refine lv_iconst (v := 0) hx hb dX7_determinant_56 (by decide) ?_
  refine lv_iconst (v := 3) hx hb dX7_determinant_57 (by decide) ?_
  obtain ⟨r22, hk23, hf⟩ := b1_s hf
  refine rv_l (vq := (RX7, TX7, 28)) (As := [.int (2 : Int32), .int (0 : Int32), .int (3 : Int32)]) (rest := [.long r19, .long (((r1 * r4) - (r7 * r10)) + (r13 * r16))]) (bs' := [pMo κ qm m_state m_tape m_taped m_fault m_broken m_brokenAt m_spot m_here m_token m_value m_ends m_letters m_moments m_stepsAt m_steps m_latest m_matrix m_sides m_tried m_answers m_rowOf m_whole m_shares m_isKept m_lanes m_lengths m_cells m_torn]) C0 hw (cMo_two l D κ qm m_state m_tape m_taped m_fault m_broken m_brokenAt m_spot m_here m_token m_value m_ends m_letters m_moments m_stepsAt m_steps m_latest m_matrix m_sides m_tried m_answers m_rowOf m_whole m_shares m_isKept m_lanes m_lengths m_cells m_torn (2 : Int32) (0 : Int32) (3 : Int32) r22 hk23) cv_RX7_213 ⟨rfl, rfl, Nat.le_of_ble_eq_true rfl, Nat.le_of_ble_eq_true rfl⟩ ⟨Nat.zero_le _, Nat.zero_le _⟩ [0] [] [0] rfl rfl rfl rfl (by decide) rfl rfl rfl rfl rfl hl.1 (by simp only [List.map, List.sum_cons, List.sum_nil, Value.category]; decide) dX7_determinant_58 (fun H locs hw => ?_)
  refine lv_lmul hx hb dX7_determinant_61 ?_
  refine lv_ladd hx hb dX7_determinant_62 ?_
  refine lv_aload_n hx hb dX7_determinant_63 rfl (lv_at hl 0 rfl) ?_
  refine lv_iconst (v := 0) hx hb dX7_determinant_64 (by decide) ?_
  refine lv_iconst (v := 1) hx hb dX7_determinant_65 (by decide) ?_
  refine lv_iconst (v := 3) hx hb dX7_determinant_66 (by decide) ?_
  obtain ⟨r25, hk26, hf⟩ := b1_s hf
  refine rv_l (vq := (RX7, TX7, 28)) (As := [.int (0 : Int32), .int (1 : Int32), .int (3 : Int32)]) (rest := [.long ((((r1 * r4) - (r7 * r10)) + (r13 * r16)) + (r19 * r22))]) (bs' := [pMo κ qm m_state m_tape m_taped m_fault m_broken m_brokenAt m_spot m_here m_token m_value m_ends m_letters m_moments m_stepsAt m_steps m_latest m_matrix m_sides m_tried m_answers m_rowOf m_whole m_shares m_isKept m_lanes m_lengths m_cells m_torn]) C0 hw (cMo_two l D κ qm m_state m_tape m_taped m_fault m_broken m_brokenAt m_spot m_here m_token m_value m_ends m_letters m_moments m_stepsAt m_steps m_latest m_matrix m_sides m_tried m_answers m_rowOf m_whole m_shares m_isKept m_lanes m_lengths m_cells m_torn (0 : Int32) (1 : Int32) (3 : Int32) r25 hk26) cv_RX7_213 ⟨rfl, rfl, Nat.le_of_ble_eq_true rfl, Nat.le_of_ble_eq_true rfl⟩ ⟨Nat.zero_le _, Nat.zero_le _⟩ [0] [] [0] rfl rfl rfl rfl (by decide) rfl rfl rfl rfl rfl hl.1 (by simp only [List.map, List.sum_cons, List.sum_nil, Value.category]; decide) dX7_determinant_67 (fun H locs hw => ?_)
  refine lv_aload_n hx hb dX7_determinant_70 rfl (lv_at hl 0 rfl) ?_
  refine lv_iconst (v := 2) hx hb dX7_determinant_71 (by decide) ?_
  refine lv_iconst (v := 0) hx hb dX7_determinant_72 (by decide) ?_
  refine lv_iconst (v := 2) hx hb dX7_determinant_73 (by decide) ?_
  obtain ⟨r28, hk29, hf⟩ := b1_s hf
  refine rv_l (vq := (RX7, TX7, 28)) (As := [.int (2 : Int32), .int (0 : Int32), .int (2 : Int32)]) (rest := [.long r25, .long ((((r1 * r4) - (r7 * r10)) + (r13 * r16)) + (r19 * r22))]) (bs' := [pMo κ qm m_state m_tape m_taped m_fault m_broken m_brokenAt m_spot m_here m_token m_value m_ends m_letters m_moments m_stepsAt m_steps m_latest m_matrix m_sides m_tried m_answers m_rowOf m_whole m_shares m_isKept m_lanes m_lengths m_cells m_torn]) C0 hw (cMo_two l D κ qm m_state m_tape m_taped m_fault m_broken m_brokenAt m_spot m_here m_token m_value m_ends m_letters m_moments m_stepsAt m_steps m_latest m_matrix m_sides m_tried m_answers m_rowOf m_whole m_shares m_isKept m_lanes m_lengths m_cells m_torn (2 : Int32) (0 : Int32) (2 : Int32) r28 hk29) cv_RX7_213 ⟨rfl, rfl, Nat.le_of_ble_eq_true rfl, Nat.le_of_ble_eq_true rfl⟩ ⟨Nat.zero_le _, Nat.zero_le _⟩ [0] [] [0] rfl rfl rfl rfl (by decide) rfl rfl rfl rfl rfl hl.1 (by simp only [List.map, List.sum_cons, List.sum_nil, Value.category]; decide) dX7_determinant_74 (fun H locs hw => ?_)
  refine lv_lmul hx hb dX7_determinant_77 ?_
  refine lv_lsub hx hb dX7_determinant_78 ?_
  refine lv_aload_n hx hb dX7_determinant_79 rfl (lv_at hl 0 rfl) ?_
  refine lv_iconst (v := 0) hx hb dX7_determinant_80 (by decide) ?_
  refine lv_iconst (v := 2) hx hb dX7_determinant_81 (by decide) ?_
  refine lv_iconst (v := 3) hx hb dX7_determinant_82 (by decide) ?_
  obtain ⟨r31, hk32, hf⟩ := b1_s hf
  refine rv_l (vq := (RX7, TX7, 28)) (As := [.int (0 : Int32), .int (2 : Int32), .int (3 : Int32)]) (rest := [.long (((((r1 * r4) - (r7 * r10)) + (r13 * r16)) + (r19 * r22)) - (r25 * r28))]) (bs' := [pMo κ qm m_state m_tape m_taped m_fault m_broken m_brokenAt m_spot m_here m_token m_value m_ends m_letters m_moments m_stepsAt m_steps m_latest m_matrix m_sides m_tried m_answers m_rowOf m_whole m_shares m_isKept m_lanes m_lengths m_cells m_torn]) C0 hw (cMo_two l D κ qm m_state m_tape m_taped m_fault m_broken m_brokenAt m_spot m_here m_token m_value m_ends m_letters m_moments m_stepsAt m_steps m_latest m_matrix m_sides m_tried m_answers m_rowOf m_whole m_shares m_isKept m_lanes m_lengths m_cells m_torn (0 : Int32) (2 : Int32) (3 : Int32) r31 hk32) cv_RX7_213 ⟨rfl, rfl, Nat.le_of_ble_eq_true rfl, Nat.le_of_ble_eq_true rfl⟩ ⟨Nat.zero_le _, Nat.zero_le _⟩ [0] [] [0] rfl rfl rfl rfl (by decide) rfl rfl rfl rfl rfl hl.1 (by simp only [List.map, List.sum_cons, List.sum_nil, Value.category]; decide) dX7_determinant_83 (fun H locs hw => ?_)
  refine lv_aload_n hx hb dX7_determinant_86 rfl (lv_at hl 0 rfl) ?_
  refine lv_iconst (v := 2) hx hb dX7_determinant_87 (by decide) ?_
  refine lv_iconst (v := 0) hx hb dX7_determinant_88 (by decide) ?_
  refine lv_iconst (v := 1) hx hb dX7_determinant_89 (by decide) ?_
  obtain ⟨r34, hk35, hf⟩ := b1_s hf
  refine rv_l (vq := (RX7, TX7, 28)) (As := [.int (2 : Int32), .int (0 : Int32), .int (1 : Int32)]) (rest := [.long r31, .long (((((r1 * r4) - (r7 * r10)) + (r13 * r16)) + (r19 * r22)) - (r25 * r28))]) (bs' := [pMo κ qm m_state m_tape m_taped m_fault m_broken m_brokenAt m_spot m_here m_token m_value m_ends m_letters m_moments m_stepsAt m_steps m_latest m_matrix m_sides m_tried m_answers m_rowOf m_whole m_shares m_isKept m_lanes m_lengths m_cells m_torn]) C0 hw (cMo_two l D κ qm m_state m_tape m_taped m_fault m_broken m_brokenAt m_spot m_here m_token m_value m_ends m_letters m_moments m_stepsAt m_steps m_latest m_matrix m_sides m_tried m_answers m_rowOf m_whole m_shares m_isKept m_lanes m_lengths m_cells m_torn (2 : Int32) (0 : Int32) (1 : Int32) r34 hk35) cv_RX7_213 ⟨rfl, rfl, Nat.le_of_ble_eq_true rfl, Nat.le_of_ble_eq_true rfl⟩ ⟨Nat.zero_le _, Nat.zero_le _⟩ [0] [] [0] rfl rfl rfl rfl (by decide) rfl rfl rfl rfl rfl hl.1 (by simp only [List.map, List.sum_cons, List.sum_nil, Value.category]; decide) dX7_determinant_90 (fun H locs hw => ?_)
  refine lv_lmul hx hb dX7_determinant_93 ?_
  refine lv_ladd hx hb dX7_determinant_94 ?_
  obtain rfl := e1_ hf
  exact r_lret C0 hw dX7_determinant_95
def FMo_equations_L4  (k_ : Int32 → (Nat → Int64) → Option ((Nat → Int64) × (Nat → Int64) × (Nat → Int32))) : Nat → Int32 → (Nat → Int64) → Option ((Nat → Int64) × (Nat → Int64) × (Nat → Int32))
  | 0, _, _ => none
  | n + 1, l2, m_matrix =>
      if (16 : Int32) ≤ l2 then
        k_ l2 m_matrix
      else
        if (l2 - l2 / (5 : Int32) * (5 : Int32)) = 0 then
          gd_ l2 16 <|
          lt_ (vp_updL m_matrix l2.toNatClampNeg (1 : Int64)) fun w7 =>
          lt_ (l2 + (1 : Int32)) fun v8 =>
          FMo_equations_L4  k_ n v8 w7
        else
          gd_ l2 16 <|
          lt_ (vp_updL m_matrix l2.toNatClampNeg (0 : Int64)) fun w4 =>
          lt_ (l2 + (1 : Int32)) fun v5 =>
          FMo_equations_L4  k_ n v5 w4
def FMo_equations_L35 (m_state : Nat → Int32) (k_ : Int32 → Int32 → (Nat → Int32) → Option ((Nat → Int64) × (Nat → Int64) × (Nat → Int32))) : Nat → Int32 → Int32 → (Nat → Int32) → Option ((Nat → Int64) × (Nat → Int64) × (Nat → Int32))
  | 0, _, _, _ => none
  | n + 1, l1, l2, m_rowOf =>
      if (6 : Int32) ≤ l2 then
        k_ l1 l2 m_rowOf
      else
        b1_ (FMo_joints m_state) fun r12 =>
        lt_ (fun (v15 : Int32) =>
          lt_ (fun (v16 : Int32) =>
            gd_ l2 6 <|
            lt_ (upd m_rowOf l2.toNatClampNeg v16) fun w18 =>
            if v15 = 0 then
              lt_ (l1 + (0 : Int32)) fun v20 =>
              lt_ (l2 + (1 : Int32)) fun v21 =>
              FMo_equations_L35 m_state k_ n v20 v21 w18
            else
              lt_ (l1 + (1 : Int32)) fun v22 =>
              lt_ (l2 + (1 : Int32)) fun v23 =>
              FMo_equations_L35 m_state k_ n v22 v23 w18 : Int32 → Option ((Nat → Int64) × (Nat → Int64) × (Nat → Int32))) fun j24 =>
          if v15 = 0 then
            j24 (-4 : Int32)
          else
            j24 l1 : Int32 → Option ((Nat → Int64) × (Nat → Int64) × (Nat → Int32))) fun j27 =>
        lt_ (fun (_ : Unit) =>
          j27 (0 : Int32) : Unit → Option ((Nat → Int64) × (Nat → Int64) × (Nat → Int32))) fun j29 =>
        if r12 ≤ l2 then
          j29 ()
        else
          b1_ (FMo_isTurning m_state l2) fun r32 =>
          if r32 = 0 then
            j29 ()
          else
            j27 (1 : Int32)
def FMo_equations_L99  (k_ : Int32 → (Nat → Int64) → Option ((Nat → Int64) × (Nat → Int64) × (Nat → Int32))) : Nat → Int32 → (Nat → Int64) → Option ((Nat → Int64) × (Nat → Int64) × (Nat → Int32))
  | 0, _, _ => none
  | n + 1, l2, m_sides =>
      if (4 : Int32) ≤ l2 then
        k_ l2 m_sides
      else
        gd_ l2 4 <|
        lt_ (vp_updL m_sides l2.toNatClampNeg (0 : Int64)) fun w41 =>
        lt_ (l2 + (1 : Int32)) fun v42 =>
        FMo_equations_L99  k_ n v42 w41
def FMo_equations_L119 (m_state m_rowOf : Nat → Int32) (k_ : Int32 → (Nat → Int64) → (Nat → Int64) → Option ((Nat → Int64) × (Nat → Int64) × (Nat → Int32))) : Nat → Int32 → (Nat → Int64) → (Nat → Int64) → Option ((Nat → Int64) × (Nat → Int64) × (Nat → Int32))
  | 0, _, _, _ => none
  | n + 1, l2, m_matrix, m_sides =>
      b1_ (FMo_joints m_state) fun r45 =>
      if r45 ≤ l2 then
        k_ l2 m_matrix m_sides
      else
        gd_ l2 6 <|
        if (m_rowOf l2.toNatClampNeg) < 0 then
          lt_ (l2 + (1 : Int32)) fun v51 =>
          FMo_equations_L119 m_state m_rowOf k_ n v51 m_matrix m_sides
        else
          gd_ l2 6 <|
          b1_ (FMo_stiffAt m_state l2) fun r53 =>
          gd_ ((5 : Int32) * (m_rowOf l2.toNatClampNeg)) 16 <|
          lt_ (vp_updL m_matrix ((5 : Int32) * (m_rowOf l2.toNatClampNeg)).toNatClampNeg ((4 : Int64) * (r53.toInt64))) fun w57 =>
          gd_ l2 6 <|
          gd_ ((6 : Int32) + l2) 395 <|
          gd_ (m_rowOf l2.toNatClampNeg) 4 <|
          lt_ (vp_updL m_sides (m_rowOf l2.toNatClampNeg).toNatClampNeg ((-(m_state ((6 : Int32) + l2).toNatClampNeg)).toInt64)) fun w61 =>
          lt_ (l2 + (1 : Int32)) fun v62 =>
          FMo_equations_L119 m_state m_rowOf k_ n v62 w57 w61
def FMo_equations_L189 (m_state m_rowOf : Nat → Int32) : Nat → Int32 → (Nat → Int64) → (Nat → Int64) → Option ((Nat → Int64) × (Nat → Int64) × (Nat → Int32))
  | 0, _, _, _ => none
  | n + 1, l2, m_matrix, m_sides =>
      b1_ (FMo_beams m_state) fun r66 =>
      if ((2 : Int32) * r66) ≤ l2 then
        some (m_matrix, m_sides, m_rowOf)
      else
        b1_ (FMo_jointOf m_state l2) fun r70 =>
        gd_ r70 6 <|
        lt_ (m_rowOf r70.toNatClampNeg) fun v74 =>
        b1_ (FMo_otherOf l2) fun r75 =>
        b1_ (FMo_jointOf m_state r75) fun r78 =>
        gd_ r78 6 <|
        lt_ (m_rowOf r78.toNatClampNeg) fun v82 =>
        lt_ (fun (w83 : Nat → Int64) =>
          if v74 < 0 then
            lt_ (l2 + (1 : Int32)) fun v85 =>
            FMo_equations_L189 m_state m_rowOf n v85 m_matrix w83
          else
            if v82 < 0 then
              lt_ (l2 + (1 : Int32)) fun v87 =>
              FMo_equations_L189 m_state m_rowOf n v87 m_matrix w83
            else
              gd_ (((4 : Int32) * v74) + v82) 16 <|
              b1_ (FMo_stiffOf m_state l2) fun r89 =>
              gd_ (((4 : Int32) * v74) + v82) 16 <|
              lt_ (vp_updL m_matrix (((4 : Int32) * v74) + v82).toNatClampNeg ((m_matrix (((4 : Int32) * v74) + v82).toNatClampNeg) + ((2 : Int64) * (r89.toInt64)))) fun w93 =>
              lt_ (l2 + (1 : Int32)) fun v94 =>
              FMo_equations_L189 m_state m_rowOf n v94 w93 w83 : (Nat → Int64) → Option ((Nat → Int64) × (Nat → Int64) × (Nat → Int32))) fun j95 =>
        if v74 < 0 then
          j95 m_sides
        else
          gd_ v74 4 <|
          b1_ (FMo_firstOf m_state l2) fun r99 =>
          gd_ v74 4 <|
          lt_ (vp_updL m_sides v74.toNatClampNeg ((m_sides v74.toNatClampNeg) - (r99.toInt64))) fun w103 =>
          j95 w103
def FMo_equations (m_state : Nat → Int32) (m_matrix m_sides : Nat → Int64) (m_rowOf : Nat → Int32) : Option ((Nat → Int64) × (Nat → Int64) × (Nat → Int32)) :=
  FMo_equations_L4 (fun (v9 : Int32) (w10 : Nat → Int64) =>
      FMo_equations_L35 m_state (fun (v36 : Int32) (v37 : Int32) (w38 : Nat → Int32) =>
          FMo_equations_L99 (fun (v43 : Int32) (w44 : Nat → Int64) =>
              FMo_equations_L119 m_state w38 (fun (v63 : Int32) (w64 : Nat → Int64) (w65 : Nat → Int64) =>
                  FMo_equations_L189 m_state w38 1000 (0 : Int32) w64 w65) 1000 (0 : Int32) w10 w44) 1000 (0 : Int32) m_sides) 1000 (0 : Int32) (0 : Int32) m_rowOf) 1000 (0 : Int32) m_matrix
set_option maxHeartbeats 4000000 in
set_option maxRecDepth 100000 in
theorem wMo_equations_L4 {p : Program} {l : Launch} {e : Env} {s : State} {m : MethodId} {args : Array Value} {below : List Frame} {meth : Method} {c : Code} {A : Nat → Prop} {D : va_G} {κ : Nat → ClassId} (C0 : cx_ p s m meth c args cX7_equations RX7 none 5 A) (qm : Nat → Nat) (m_state m_tape : Nat → Int32) (m_taped m_fault m_broken m_brokenAt m_spot m_here m_token m_value : Int32) (m_ends m_letters m_moments m_stepsAt : Nat → Int32) (m_steps m_latest : Int32) (m_sides m_tried m_answers : Nat → Int64) (m_rowOf : Nat → Int32) (m_whole : Int64) (m_shares m_isKept m_lanes m_lengths m_cells : Nat → Int32) (m_torn l1 : Int32) (z1 z2 : Nat → Int64) (z3 : Nat → Int32) (k_ : Int32 → (Nat → Int64) → Option ((Nat → Int64) × (Nat → Int64) × (Nat → Int32))) (hk_ : ∀ (l2 : Int32) (m_matrix : Nat → Int64) (H : Heap) (locs : List Loc) (ls : Array Slot), wd_ D (tys0 κ) A s (List.flatten [pMo κ qm m_state m_tape m_taped m_fault m_broken m_brokenAt m_spot m_here m_token m_value m_ends m_letters m_moments m_stepsAt m_steps m_latest m_matrix m_sides m_tried m_answers m_rowOf m_whole m_shares m_isKept m_lanes m_lengths m_cells m_torn]) H locs → lv_has ls 5 [(0, .ref (qm 0)), (1, .int l1)] → k_ l2 m_matrix = some (z1, z2, z3) → W p l e ({ frames := 3, cells := 0, slots := 0, locals := 65 } : Room) s m args below meth c H locs 0 0 (qV_ D (tys0 κ) A (List.flatten [pMo κ qm m_state m_tape m_taped m_fault m_broken m_brokenAt m_spot m_here m_token m_value m_ends m_letters m_moments m_stepsAt m_steps m_latest z1 z2 m_tried m_answers z3 m_whole m_shares m_isKept m_lanes m_lengths m_cells m_torn]) below args s) (F0 m 33 ls [])) : ∀ (n : Nat) (l2 : Int32) (m_matrix : Nat → Int64) (H : Heap) (locs : List Loc) (ls : Array Slot), wd_ D (tys0 κ) A s (List.flatten [pMo κ qm m_state m_tape m_taped m_fault m_broken m_brokenAt m_spot m_here m_token m_value m_ends m_letters m_moments m_stepsAt m_steps m_latest m_matrix m_sides m_tried m_answers m_rowOf m_whole m_shares m_isKept m_lanes m_lengths m_cells m_torn]) H locs → lv_has ls 5 [(0, .ref (qm 0)), (1, .int l1), (2, .int l2)] → FMo_equations_L4 k_ n l2 m_matrix = some (z1, z2, z3) → W p l e ({ frames := 3, cells := 0, slots := 0, locals := 65 } : Room) s m args below meth c H locs 0 0 (qV_ D (tys0 κ) A (List.flatten [pMo κ qm m_state m_tape m_taped m_fault m_broken m_brokenAt m_spot m_here m_token m_value m_ends m_letters m_moments m_stepsAt m_steps m_latest z1 z2 m_tried m_answers z3 m_whole m_shares m_isKept m_lanes m_lengths m_cells m_torn]) below args s) (F0 m 4 ls []) := by
  obtain ⟨hx, hb, -, hml, hown, hts, -, -⟩ := id C0
  intro n
  induction n with
  | zero =>
    intro l2 m_matrix H locs ls hw hl  hf
    cases hf
  | succ n ih =>
    intro l2 m_matrix H locs ls hw hl  hf
    rw [FMo_equations_L4.eq_2] at hf
    refine lv_iload_n hx hb dX7_equations_4 rfl (lv_at hl 2 rfl) ?_
    refine lv_bipush (v := 16) hx hb dX7_equations_5 (by decide) ?_
    refine lv_icmp_ge (tgt := 33) hx hb dX7_equations_7 (by decide) (fun hc1 => ?_) (fun hc1 => ?_)
    · have hf := if_t hc1 hf
      exact hk_ l2 m_matrix H locs ls hw (lv_sub hl [0, 1] rfl)  hf
    · have hf := if_f hc1 hf
      refine lv_aload_n hx hb dX7_equations_10 rfl (lv_at hl 0 rfl) ?_
      refine r_get C0 hw 0 16 (v := .ref (qm 7)) rfl rfl inX7 (by decide) lk_X7_32 rfl dX7_equations_11 ?_
      refine lv_iload_n hx hb dX7_equations_14 rfl (lv_at hl 2 rfl) ?_
      refine lv_iload_n hx hb dX7_equations_15 rfl (lv_at hl 2 rfl) ?_
      refine lv_iconst (v := 5) hx hb dX7_equations_16 (by decide) ?_
      refine lv_irem hx hb dX7_equations_17 (by decide) ?_
      refine lv_if_ne (tgt := 25) hx hb dX7_equations_18 (by decide) (fun hc2 => ?_) (fun hc2 => ?_)
      · have hf := if_f hc2 hf
        refine lv_lconst (v := 0) hx hb dX7_equations_25 (by decide) ?_
        obtain ⟨hi3, hf⟩ := gd_s hf
        obtain ⟨w4, ew4⟩ : ∃ z : Nat → Int64, z = (vp_updL m_matrix l2.toNatClampNeg (0 : Int64)) := ⟨_, rfl⟩
        have hf := lt_s_ hf w4 ew4
        refine r_last C0 hw 7 3 rfl rfl hi3 dX7_equations_26 (ws' := List.flatten [pMo κ qm m_state m_tape m_taped m_fault m_broken m_brokenAt m_spot m_here m_token m_value m_ends m_letters m_moments m_stepsAt m_steps m_latest w4 m_sides m_tried m_answers m_rowOf m_whole m_shares m_isKept m_lanes m_lengths m_cells m_torn]) (by subst ew4; rfl) (fun H locs hw => ?_)
        obtain ⟨v5, ev5⟩ : ∃ z : Int32, z = (l2 + (1 : Int32)) := ⟨_, rfl⟩
        have hf := lt_s_ hf v5 ev5
        refine lv_iinc (v := v5) (lv' := [(2, .int v5), (0, .ref (qm 0)), (1, .int l1)]) hx hb dX7_equations_27 hl (k := 2) rfl (by rw [ev5]; rfl) (by decide) rfl (fun ls hl => ?_)
        refine lv_goto (tgt := 4) hx hb dX7_equations_30 (by decide) ?_
        exact ih v5 w4 H locs ls hw (lv_sub hl [1, 2, 0] rfl)  hf
      · have hf := if_t hc2 hf
        refine lv_lconst (v := 1) hx hb dX7_equations_21 (by decide) ?_
        refine lv_goto (tgt := 26) hx hb dX7_equations_22 (by decide) ?_
        obtain ⟨hi6, hf⟩ := gd_s hf
        obtain ⟨w7, ew7⟩ : ∃ z : Nat → Int64, z = (vp_updL m_matrix l2.toNatClampNeg (1 : Int64)) := ⟨_, rfl⟩
        have hf := lt_s_ hf w7 ew7
        refine r_last C0 hw 7 3 rfl rfl hi6 dX7_equations_26 (ws' := List.flatten [pMo κ qm m_state m_tape m_taped m_fault m_broken m_brokenAt m_spot m_here m_token m_value m_ends m_letters m_moments m_stepsAt m_steps m_latest w7 m_sides m_tried m_answers m_rowOf m_whole m_shares m_isKept m_lanes m_lengths m_cells m_torn]) (by subst ew7; rfl) (fun H locs hw => ?_)
        obtain ⟨v8, ev8⟩ : ∃ z : Int32, z = (l2 + (1 : Int32)) := ⟨_, rfl⟩
        have hf := lt_s_ hf v8 ev8
        refine lv_iinc (v := v8) (lv' := [(2, .int v8), (0, .ref (qm 0)), (1, .int l1)]) hx hb dX7_equations_27 hl (k := 2) rfl (by rw [ev8]; rfl) (by decide) rfl (fun ls hl => ?_)
        refine lv_goto (tgt := 4) hx hb dX7_equations_30 (by decide) ?_
        exact ih v8 w7 H locs ls hw (lv_sub hl [1, 2, 0] rfl)  hf
set_option maxHeartbeats 4000000 in
set_option maxRecDepth 100000 in
theorem wMo_equations_L35 {p : Program} {l : Launch} {e : Env} {s : State} {m : MethodId} {args : Array Value} {below : List Frame} {meth : Method} {c : Code} {A : Nat → Prop} {D : va_G} {κ : Nat → ClassId} (C0 : cx_ p s m meth c args cX7_equations RX7 none 5 A) (qm : Nat → Nat) (m_state m_tape : Nat → Int32) (m_taped m_fault m_broken m_brokenAt m_spot m_here m_token m_value : Int32) (m_ends m_letters m_moments m_stepsAt : Nat → Int32) (m_steps m_latest : Int32) (m_matrix m_sides m_tried m_answers : Nat → Int64) (m_whole : Int64) (m_shares m_isKept m_lanes m_lengths m_cells : Nat → Int32) (m_torn : Int32) (z1 z2 : Nat → Int64) (z3 : Nat → Int32) (k_ : Int32 → Int32 → (Nat → Int32) → Option ((Nat → Int64) × (Nat → Int64) × (Nat → Int32))) (hk_ : ∀ (l1 : Int32) (l2 : Int32) (m_rowOf : Nat → Int32) (H : Heap) (locs : List Loc) (ls : Array Slot), wd_ D (tys0 κ) A s (List.flatten [pMo κ qm m_state m_tape m_taped m_fault m_broken m_brokenAt m_spot m_here m_token m_value m_ends m_letters m_moments m_stepsAt m_steps m_latest m_matrix m_sides m_tried m_answers m_rowOf m_whole m_shares m_isKept m_lanes m_lengths m_cells m_torn]) H locs → lv_has ls 5 [(0, .ref (qm 0))] → k_ l1 l2 m_rowOf = some (z1, z2, z3) → W p l e ({ frames := 3, cells := 0, slots := 0, locals := 65 } : Room) s m args below meth c H locs 0 0 (qV_ D (tys0 κ) A (List.flatten [pMo κ qm m_state m_tape m_taped m_fault m_broken m_brokenAt m_spot m_here m_token m_value m_ends m_letters m_moments m_stepsAt m_steps m_latest z1 z2 m_tried m_answers z3 m_whole m_shares m_isKept m_lanes m_lengths m_cells m_torn]) below args s) (F0 m 97 ls [])) : ∀ (n : Nat) (l1 : Int32) (l2 : Int32) (m_rowOf : Nat → Int32) (H : Heap) (locs : List Loc) (ls : Array Slot), wd_ D (tys0 κ) A s (List.flatten [pMo κ qm m_state m_tape m_taped m_fault m_broken m_brokenAt m_spot m_here m_token m_value m_ends m_letters m_moments m_stepsAt m_steps m_latest m_matrix m_sides m_tried m_answers m_rowOf m_whole m_shares m_isKept m_lanes m_lengths m_cells m_torn]) H locs → lv_has ls 5 [(0, .ref (qm 0)), (1, .int l1), (2, .int l2)] → FMo_equations_L35 m_state k_ n l1 l2 m_rowOf = some (z1, z2, z3) → W p l e ({ frames := 3, cells := 0, slots := 0, locals := 65 } : Room) s m args below meth c H locs 0 0 (qV_ D (tys0 κ) A (List.flatten [pMo κ qm m_state m_tape m_taped m_fault m_broken m_brokenAt m_spot m_here m_token m_value m_ends m_letters m_moments m_stepsAt m_steps m_latest z1 z2 m_tried m_answers z3 m_whole m_shares m_isKept m_lanes m_lengths m_cells m_torn]) below args s) (F0 m 35 ls []) := by
  obtain ⟨hx, hb, -, hml, hown, hts, -, -⟩ := id C0
  intro n
  induction n with
  | zero =>
    intro l1 l2 m_rowOf H locs ls hw hl  hf
    cases hf
  | succ n ih =>
    intro l1 l2 m_rowOf H locs ls hw hl  hf
    rw [FMo_equations_L35.eq_2] at hf
    refine lv_iload_n hx hb dX7_equations_35 rfl (lv_at hl 2 rfl) ?_
    refine lv_bipush (v := 6) hx hb dX7_equations_36 (by decide) ?_
    refine lv_icmp_ge (tgt := 97) hx hb dX7_equations_38 (by decide) (fun hc11 => ?_) (fun hc11 => ?_)
    · have hf := if_t hc11 hf
      exact hk_ l1 l2 m_rowOf H locs ls hw (lv_sub hl [0] rfl)  hf
    · have hf := if_f hc11 hf
      refine lv_iload_n hx hb dX7_equations_41 rfl (lv_at hl 2 rfl) ?_
      refine lv_aload_n hx hb dX7_equations_42 rfl (lv_at hl 0 rfl) ?_
      obtain ⟨r12, hk13, hf⟩ := b1_s hf
      refine rv_i (vq := (RX7, TX7, 28)) (As := []) (rest := [.int l2]) (bs' := [pMo κ qm m_state m_tape m_taped m_fault m_broken m_brokenAt m_spot m_here m_token m_value m_ends m_letters m_moments m_stepsAt m_steps m_latest m_matrix m_sides m_tried m_answers m_rowOf m_whole m_shares m_isKept m_lanes m_lengths m_cells m_torn]) C0 hw (cMo_joints l D κ qm m_state m_tape m_taped m_fault m_broken m_brokenAt m_spot m_here m_token m_value m_ends m_letters m_moments m_stepsAt m_steps m_latest m_matrix m_sides m_tried m_answers m_rowOf m_whole m_shares m_isKept m_lanes m_lengths m_cells m_torn r12 hk13) cv_RX7_183 ⟨rfl, rfl, Nat.le_of_ble_eq_true rfl, Nat.le_of_ble_eq_true rfl⟩ ⟨Nat.zero_le _, Nat.zero_le _⟩ [0] [] [0] rfl rfl rfl rfl (by decide) rfl rfl rfl rfl rfl hl.1 (by simp only [List.map, List.sum_cons, List.sum_nil, Value.category]; decide) dX7_equations_43 (fun H locs hw hn14 => ?_)
      obtain ⟨j27, ej27, hf⟩ := lt_e hf
      have hj28 : ∀ (v15 : Int32) (H : Heap) (locs : List Loc) (ls : Array Slot), wd_ D (tys0 κ) A s (List.flatten [pMo κ qm m_state m_tape m_taped m_fault m_broken m_brokenAt m_spot m_here m_token m_value m_ends m_letters m_moments m_stepsAt m_steps m_latest m_matrix m_sides m_tried m_answers m_rowOf m_whole m_shares m_isKept m_lanes m_lengths m_cells m_torn]) H locs → lv_has ls 5 [(0, .ref (qm 0)), (1, .int l1), (2, .int l2)] → j27 v15 = some (z1, z2, z3) → W p l e ({ frames := 3, cells := 0, slots := 0, locals := 65 } : Room) s m args below meth c H locs 0 0 (qV_ D (tys0 κ) A (List.flatten [pMo κ qm m_state m_tape m_taped m_fault m_broken m_brokenAt m_spot m_here m_token m_value m_ends m_letters m_moments m_stepsAt m_steps m_latest z1 z2 m_tried m_answers z3 m_whole m_shares m_isKept m_lanes m_lengths m_cells m_torn]) below args s) (F0 m 62 ls [.int v15]) := by
        intro v15 H locs ls hw hl  hf
        have hf : (lt_ (fun (v16 : Int32) => gd_ l2 6 <| lt_ (upd m_rowOf l2.toNatClampNeg v16) fun w18 => if v15 = 0 then lt_ (l1 + (0 : Int32)) fun v20 => lt_ (l2 + (1 : Int32)) fun v21 => FMo_equations_L35 m_state k_ n v20 v21 w18 else lt_ (l1 + (1 : Int32)) fun v22 => lt_ (l2 + (1 : Int32)) fun v23 => FMo_equations_L35 m_state k_ n v22 v23 w18 : Int32 → Option ((Nat → Int64) × (Nat → Int64) × (Nat → Int32))) fun j24 => if v15 = 0 then j24 (-4 : Int32) else j24 l1) = some (z1, z2, z3) := by rw [ej27] at hf; exact hf
        refine lv_istore_n (lv' := [(3, .int v15), (0, .ref (qm 0)), (1, .int l1), (2, .int l2)]) hx hb dX7_equations_62 rfl hl (by decide) rfl (fun ls hl => ?_)
        refine lv_aload_n hx hb dX7_equations_63 rfl (lv_at hl 1 rfl) ?_
        refine r_get C0 hw 0 20 (v := .ref (qm 11)) rfl rfl inX7 (by decide) lk_X7_45 rfl dX7_equations_64 ?_
        refine lv_iload_n hx hb dX7_equations_67 rfl (lv_at hl 3 rfl) ?_
        refine lv_iload_n hx hb dX7_equations_68 rfl (lv_at hl 0 rfl) ?_
        obtain ⟨j24, ej24, hf⟩ := lt_e hf
        have hj25 : ∀ (v16 : Int32) (H : Heap) (locs : List Loc) (ls : Array Slot), wd_ D (tys0 κ) A s (List.flatten [pMo κ qm m_state m_tape m_taped m_fault m_broken m_brokenAt m_spot m_here m_token m_value m_ends m_letters m_moments m_stepsAt m_steps m_latest m_matrix m_sides m_tried m_answers m_rowOf m_whole m_shares m_isKept m_lanes m_lengths m_cells m_torn]) H locs → lv_has ls 5 [(3, .int v15), (0, .ref (qm 0)), (1, .int l1), (2, .int l2)] → j24 v16 = some (z1, z2, z3) → W p l e ({ frames := 3, cells := 0, slots := 0, locals := 65 } : Room) s m args below meth c H locs 0 0 (qV_ D (tys0 κ) A (List.flatten [pMo κ qm m_state m_tape m_taped m_fault m_broken m_brokenAt m_spot m_here m_token m_value m_ends m_letters m_moments m_stepsAt m_steps m_latest z1 z2 m_tried m_answers z3 m_whole m_shares m_isKept m_lanes m_lengths m_cells m_torn]) below args s) (F0 m 78 ls [.int v16, .int l2, .ref (qm 11)]) := by
          intro v16 H locs ls hw hl  hf
          have hf : (gd_ l2 6 <| lt_ (upd m_rowOf l2.toNatClampNeg v16) fun w18 => if v15 = 0 then lt_ (l1 + (0 : Int32)) fun v20 => lt_ (l2 + (1 : Int32)) fun v21 => FMo_equations_L35 m_state k_ n v20 v21 w18 else lt_ (l1 + (1 : Int32)) fun v22 => lt_ (l2 + (1 : Int32)) fun v23 => FMo_equations_L35 m_state k_ n v22 v23 w18) = some (z1, z2, z3) := by rw [ej24] at hf; exact hf
          obtain ⟨hi17, hf⟩ := gd_s hf
          obtain ⟨w18, ew18⟩ : ∃ z : Nat → Int32, z = (upd m_rowOf l2.toNatClampNeg v16) := ⟨_, rfl⟩
          have hf := lt_s_ hf w18 ew18
          refine r_iast C0 hw 11 0 rfl rfl hi17 dX7_equations_78 (ws' := List.flatten [pMo κ qm m_state m_tape m_taped m_fault m_broken m_brokenAt m_spot m_here m_token m_value m_ends m_letters m_moments m_stepsAt m_steps m_latest m_matrix m_sides m_tried m_answers w18 m_whole m_shares m_isKept m_lanes m_lengths m_cells m_torn]) (by subst ew18; rfl) (fun H locs hw => ?_)
          refine lv_iload_n hx hb dX7_equations_79 rfl (lv_at hl 2 rfl) ?_
          refine lv_iload_n hx hb dX7_equations_80 rfl (lv_at hl 0 rfl) ?_
          refine lv_if_eq (tgt := 88) hx hb dX7_equations_81 (by decide) (fun hc19 => ?_) (fun hc19 => ?_)
          · have hf := if_t hc19 hf
            refine lv_iconst (v := 0) hx hb dX7_equations_88 (by decide) ?_
            refine lv_iadd hx hb dX7_equations_89 ?_
            refine lv_topi (fun v20 ev20 => ?_)
            have hf := lt_s_ hf v20 ev20
            refine lv_istore_n (lv' := [(1, .int v20), (3, .int v15), (0, .ref (qm 0)), (2, .int l2)]) hx hb dX7_equations_90 rfl hl (by decide) rfl (fun ls hl => ?_)
            obtain ⟨v21, ev21⟩ : ∃ z : Int32, z = (l2 + (1 : Int32)) := ⟨_, rfl⟩
            have hf := lt_s_ hf v21 ev21
            refine lv_iinc (v := v21) (lv' := [(2, .int v21), (1, .int v20), (3, .int v15), (0, .ref (qm 0))]) hx hb dX7_equations_91 hl (k := 3) rfl (by rw [ev21]; rfl) (by decide) rfl (fun ls hl => ?_)
            refine lv_goto (tgt := 35) hx hb dX7_equations_94 (by decide) ?_
            exact ih v20 v21 w18 H locs ls hw (lv_sub hl [3, 1, 0] rfl)  hf
          · have hf := if_f hc19 hf
            refine lv_iconst (v := 1) hx hb dX7_equations_84 (by decide) ?_
            refine lv_goto (tgt := 89) hx hb dX7_equations_85 (by decide) ?_
            refine lv_iadd hx hb dX7_equations_89 ?_
            refine lv_topi (fun v22 ev22 => ?_)
            have hf := lt_s_ hf v22 ev22
            refine lv_istore_n (lv' := [(1, .int v22), (3, .int v15), (0, .ref (qm 0)), (2, .int l2)]) hx hb dX7_equations_90 rfl hl (by decide) rfl (fun ls hl => ?_)
            obtain ⟨v23, ev23⟩ : ∃ z : Int32, z = (l2 + (1 : Int32)) := ⟨_, rfl⟩
            have hf := lt_s_ hf v23 ev23
            refine lv_iinc (v := v23) (lv' := [(2, .int v23), (1, .int v22), (3, .int v15), (0, .ref (qm 0))]) hx hb dX7_equations_91 hl (k := 3) rfl (by rw [ev23]; rfl) (by decide) rfl (fun ls hl => ?_)
            refine lv_goto (tgt := 35) hx hb dX7_equations_94 (by decide) ?_
            exact ih v22 v23 w18 H locs ls hw (lv_sub hl [3, 1, 0] rfl)  hf
        refine lv_if_eq (tgt := 76) hx hb dX7_equations_69 (by decide) (fun hc26 => ?_) (fun hc26 => ?_)
        · have hf := if_t hc26 hf
          refine lv_bipush (v := -4) hx hb dX7_equations_76 (by decide) ?_
          exact hj25 (-4 : Int32) H locs ls hw (lv_sub hl [0, 1, 2, 3] rfl)  hf
        · have hf := if_f hc26 hf
          refine lv_iload_n hx hb dX7_equations_72 rfl (lv_at hl 2 rfl) ?_
          refine lv_goto (tgt := 78) hx hb dX7_equations_73 (by decide) ?_
          exact hj25 l1 H locs ls hw (lv_sub hl [0, 1, 2, 3] rfl)  hf
      obtain ⟨j29, ej29, hf⟩ := lt_e hf
      have hj30 : ∀  (H : Heap) (locs : List Loc) (ls : Array Slot), wd_ D (tys0 κ) A s (List.flatten [pMo κ qm m_state m_tape m_taped m_fault m_broken m_brokenAt m_spot m_here m_token m_value m_ends m_letters m_moments m_stepsAt m_steps m_latest m_matrix m_sides m_tried m_answers m_rowOf m_whole m_shares m_isKept m_lanes m_lengths m_cells m_torn]) H locs → lv_has ls 5 [(0, .ref (qm 0)), (1, .int l1), (2, .int l2)] → j29 () = some (z1, z2, z3) → W p l e ({ frames := 3, cells := 0, slots := 0, locals := 65 } : Room) s m args below meth c H locs 0 0 (qV_ D (tys0 κ) A (List.flatten [pMo κ qm m_state m_tape m_taped m_fault m_broken m_brokenAt m_spot m_here m_token m_value m_ends m_letters m_moments m_stepsAt m_steps m_latest z1 z2 m_tried m_answers z3 m_whole m_shares m_isKept m_lanes m_lengths m_cells m_torn]) below args s) (F0 m 61 ls []) := by
        intro  H locs ls hw hl  hf
        have hf : (j27 (0 : Int32)) = some (z1, z2, z3) := by rw [ej29] at hf; exact hf
        refine lv_iconst (v := 0) hx hb dX7_equations_61 (by decide) ?_
        exact hj28 (0 : Int32) H locs ls hw (lv_sub hl [0, 1, 2] rfl)  hf
      refine lv_icmp_ge (tgt := 61) hx hb dX7_equations_46 (by decide) (fun hc31 => ?_) (fun hc31 => ?_)
      · have hf := if_t hc31 hf
        exact hj30  H locs ls hw (lv_sub hl [0, 1, 2] rfl)  hf
      · have hf := if_f hc31 hf
        refine lv_aload_n hx hb dX7_equations_49 rfl (lv_at hl 0 rfl) ?_
        refine lv_iload_n hx hb dX7_equations_50 rfl (lv_at hl 2 rfl) ?_
        obtain ⟨r32, hk33, hf⟩ := b1_s hf
        refine rv_i (vq := (RX7, TX7, 28)) (As := [.int l2]) (rest := []) (bs' := [pMo κ qm m_state m_tape m_taped m_fault m_broken m_brokenAt m_spot m_here m_token m_value m_ends m_letters m_moments m_stepsAt m_steps m_latest m_matrix m_sides m_tried m_answers m_rowOf m_whole m_shares m_isKept m_lanes m_lengths m_cells m_torn]) C0 hw (cMo_isTurning l D κ qm m_state m_tape m_taped m_fault m_broken m_brokenAt m_spot m_here m_token m_value m_ends m_letters m_moments m_stepsAt m_steps m_latest m_matrix m_sides m_tried m_answers m_rowOf m_whole m_shares m_isKept m_lanes m_lengths m_cells m_torn l2 r32 hk33) cv_RX7_177 ⟨rfl, rfl, Nat.le_of_ble_eq_true rfl, Nat.le_of_ble_eq_true rfl⟩ ⟨Nat.zero_le _, Nat.zero_le _⟩ [0] [] [0] rfl rfl rfl rfl (by decide) rfl rfl rfl rfl rfl hl.1 (by simp only [List.map, List.sum_cons, List.sum_nil, Value.category]; decide) dX7_equations_51 (fun H locs hw hn34 => ?_)
        refine lv_if_eq (tgt := 61) hx hb dX7_equations_54 (by decide) (fun hc35 => ?_) (fun hc35 => ?_)
        · have hf := if_t hc35 hf
          exact hj30  H locs ls hw (lv_sub hl [0, 1, 2] rfl)  hf
        · have hf := if_f hc35 hf
          refine lv_iconst (v := 1) hx hb dX7_equations_57 (by decide) ?_
          refine lv_goto (tgt := 62) hx hb dX7_equations_58 (by decide) ?_
          exact hj28 (1 : Int32) H locs ls hw (lv_sub hl [0, 1, 2] rfl)  hf
set_option maxHeartbeats 4000000 in
set_option maxRecDepth 100000 in
theorem wMo_equations_L99 {p : Program} {l : Launch} {e : Env} {s : State} {m : MethodId} {args : Array Value} {below : List Frame} {meth : Method} {c : Code} {A : Nat → Prop} {D : va_G} {κ : Nat → ClassId} (C0 : cx_ p s m meth c args cX7_equations RX7 none 5 A) (qm : Nat → Nat) (m_state m_tape : Nat → Int32) (m_taped m_fault m_broken m_brokenAt m_spot m_here m_token m_value : Int32) (m_ends m_letters m_moments m_stepsAt : Nat → Int32) (m_steps m_latest : Int32) (m_matrix m_tried m_answers : Nat → Int64) (m_rowOf : Nat → Int32) (m_whole : Int64) (m_shares m_isKept m_lanes m_lengths m_cells : Nat → Int32) (m_torn : Int32) (z1 z2 : Nat → Int64) (z3 : Nat → Int32) (k_ : Int32 → (Nat → Int64) → Option ((Nat → Int64) × (Nat → Int64) × (Nat → Int32))) (hk_ : ∀ (l2 : Int32) (m_sides : Nat → Int64) (H : Heap) (locs : List Loc) (ls : Array Slot), wd_ D (tys0 κ) A s (List.flatten [pMo κ qm m_state m_tape m_taped m_fault m_broken m_brokenAt m_spot m_here m_token m_value m_ends m_letters m_moments m_stepsAt m_steps m_latest m_matrix m_sides m_tried m_answers m_rowOf m_whole m_shares m_isKept m_lanes m_lengths m_cells m_torn]) H locs → lv_has ls 5 [(0, .ref (qm 0))] → k_ l2 m_sides = some (z1, z2, z3) → W p l e ({ frames := 3, cells := 0, slots := 0, locals := 65 } : Room) s m args below meth c H locs 0 0 (qV_ D (tys0 κ) A (List.flatten [pMo κ qm m_state m_tape m_taped m_fault m_broken m_brokenAt m_spot m_here m_token m_value m_ends m_letters m_moments m_stepsAt m_steps m_latest z1 z2 m_tried m_answers z3 m_whole m_shares m_isKept m_lanes m_lengths m_cells m_torn]) below args s) (F0 m 117 ls [])) : ∀ (n : Nat) (l2 : Int32) (m_sides : Nat → Int64) (H : Heap) (locs : List Loc) (ls : Array Slot), wd_ D (tys0 κ) A s (List.flatten [pMo κ qm m_state m_tape m_taped m_fault m_broken m_brokenAt m_spot m_here m_token m_value m_ends m_letters m_moments m_stepsAt m_steps m_latest m_matrix m_sides m_tried m_answers m_rowOf m_whole m_shares m_isKept m_lanes m_lengths m_cells m_torn]) H locs → lv_has ls 5 [(0, .ref (qm 0)), (2, .int l2)] → FMo_equations_L99 k_ n l2 m_sides = some (z1, z2, z3) → W p l e ({ frames := 3, cells := 0, slots := 0, locals := 65 } : Room) s m args below meth c H locs 0 0 (qV_ D (tys0 κ) A (List.flatten [pMo κ qm m_state m_tape m_taped m_fault m_broken m_brokenAt m_spot m_here m_token m_value m_ends m_letters m_moments m_stepsAt m_steps m_latest z1 z2 m_tried m_answers z3 m_whole m_shares m_isKept m_lanes m_lengths m_cells m_torn]) below args s) (F0 m 99 ls []) := by
  obtain ⟨hx, hb, -, hml, hown, hts, -, -⟩ := id C0
  intro n
  induction n with
  | zero =>
    intro l2 m_sides H locs ls hw hl  hf
    cases hf
  | succ n ih =>
    intro l2 m_sides H locs ls hw hl  hf
    rw [FMo_equations_L99.eq_2] at hf
    refine lv_iload_n hx hb dX7_equations_99 rfl (lv_at hl 1 rfl) ?_
    refine lv_iconst (v := 4) hx hb dX7_equations_100 (by decide) ?_
    refine lv_icmp_ge (tgt := 117) hx hb dX7_equations_101 (by decide) (fun hc39 => ?_) (fun hc39 => ?_)
    · have hf := if_t hc39 hf
      exact hk_ l2 m_sides H locs ls hw (lv_sub hl [0] rfl)  hf
    · have hf := if_f hc39 hf
      refine lv_aload_n hx hb dX7_equations_104 rfl (lv_at hl 0 rfl) ?_
      refine r_get C0 hw 0 17 (v := .ref (qm 8)) rfl rfl inX7 (by decide) lk_X7_36 rfl dX7_equations_105 ?_
      refine lv_iload_n hx hb dX7_equations_108 rfl (lv_at hl 1 rfl) ?_
      refine lv_lconst (v := 0) hx hb dX7_equations_109 (by decide) ?_
      obtain ⟨hi40, hf⟩ := gd_s hf
      obtain ⟨w41, ew41⟩ : ∃ z : Nat → Int64, z = (vp_updL m_sides l2.toNatClampNeg (0 : Int64)) := ⟨_, rfl⟩
      have hf := lt_s_ hf w41 ew41
      refine r_last C0 hw 8 3 rfl rfl hi40 dX7_equations_110 (ws' := List.flatten [pMo κ qm m_state m_tape m_taped m_fault m_broken m_brokenAt m_spot m_here m_token m_value m_ends m_letters m_moments m_stepsAt m_steps m_latest m_matrix w41 m_tried m_answers m_rowOf m_whole m_shares m_isKept m_lanes m_lengths m_cells m_torn]) (by subst ew41; rfl) (fun H locs hw => ?_)
      obtain ⟨v42, ev42⟩ : ∃ z : Int32, z = (l2 + (1 : Int32)) := ⟨_, rfl⟩
      have hf := lt_s_ hf v42 ev42
      refine lv_iinc (v := v42) (lv' := [(2, .int v42), (0, .ref (qm 0))]) hx hb dX7_equations_111 hl (k := 1) rfl (by rw [ev42]; rfl) (by decide) rfl (fun ls hl => ?_)
      refine lv_goto (tgt := 99) hx hb dX7_equations_114 (by decide) ?_
      exact ih v42 w41 H locs ls hw (lv_sub hl [1, 0] rfl)  hf
set_option maxHeartbeats 4000000 in
set_option maxRecDepth 100000 in
theorem wMo_equations_L119 {p : Program} {l : Launch} {e : Env} {s : State} {m : MethodId} {args : Array Value} {below : List Frame} {meth : Method} {c : Code} {A : Nat → Prop} {D : va_G} {κ : Nat → ClassId} (C0 : cx_ p s m meth c args cX7_equations RX7 none 5 A) (qm : Nat → Nat) (m_state m_tape : Nat → Int32) (m_taped m_fault m_broken m_brokenAt m_spot m_here m_token m_value : Int32) (m_ends m_letters m_moments m_stepsAt : Nat → Int32) (m_steps m_latest : Int32) (m_tried m_answers : Nat → Int64) (m_rowOf : Nat → Int32) (m_whole : Int64) (m_shares m_isKept m_lanes m_lengths m_cells : Nat → Int32) (m_torn : Int32) (z1 z2 : Nat → Int64) (z3 : Nat → Int32) (k_ : Int32 → (Nat → Int64) → (Nat → Int64) → Option ((Nat → Int64) × (Nat → Int64) × (Nat → Int32))) (hk_ : ∀ (l2 : Int32) (m_matrix : Nat → Int64) (m_sides : Nat → Int64) (H : Heap) (locs : List Loc) (ls : Array Slot), wd_ D (tys0 κ) A s (List.flatten [pMo κ qm m_state m_tape m_taped m_fault m_broken m_brokenAt m_spot m_here m_token m_value m_ends m_letters m_moments m_stepsAt m_steps m_latest m_matrix m_sides m_tried m_answers m_rowOf m_whole m_shares m_isKept m_lanes m_lengths m_cells m_torn]) H locs → lv_has ls 5 [(0, .ref (qm 0))] → k_ l2 m_matrix m_sides = some (z1, z2, z3) → W p l e ({ frames := 3, cells := 0, slots := 0, locals := 65 } : Room) s m args below meth c H locs 0 0 (qV_ D (tys0 κ) A (List.flatten [pMo κ qm m_state m_tape m_taped m_fault m_broken m_brokenAt m_spot m_here m_token m_value m_ends m_letters m_moments m_stepsAt m_steps m_latest z1 z2 m_tried m_answers z3 m_whole m_shares m_isKept m_lanes m_lengths m_cells m_torn]) below args s) (F0 m 187 ls [])) : ∀ (n : Nat) (l2 : Int32) (m_matrix : Nat → Int64) (m_sides : Nat → Int64) (H : Heap) (locs : List Loc) (ls : Array Slot), wd_ D (tys0 κ) A s (List.flatten [pMo κ qm m_state m_tape m_taped m_fault m_broken m_brokenAt m_spot m_here m_token m_value m_ends m_letters m_moments m_stepsAt m_steps m_latest m_matrix m_sides m_tried m_answers m_rowOf m_whole m_shares m_isKept m_lanes m_lengths m_cells m_torn]) H locs → lv_has ls 5 [(0, .ref (qm 0)), (2, .int l2)] → FMo_equations_L119 m_state m_rowOf k_ n l2 m_matrix m_sides = some (z1, z2, z3) → W p l e ({ frames := 3, cells := 0, slots := 0, locals := 65 } : Room) s m args below meth c H locs 0 0 (qV_ D (tys0 κ) A (List.flatten [pMo κ qm m_state m_tape m_taped m_fault m_broken m_brokenAt m_spot m_here m_token m_value m_ends m_letters m_moments m_stepsAt m_steps m_latest z1 z2 m_tried m_answers z3 m_whole m_shares m_isKept m_lanes m_lengths m_cells m_torn]) below args s) (F0 m 119 ls []) := by
  obtain ⟨hx, hb, -, hml, hown, hts, -, -⟩ := id C0
  intro n
  induction n with
  | zero =>
    intro l2 m_matrix m_sides H locs ls hw hl  hf
    cases hf
  | succ n ih =>
    intro l2 m_matrix m_sides H locs ls hw hl  hf
    rw [FMo_equations_L119.eq_2] at hf
    refine lv_iload_n hx hb dX7_equations_119 rfl (lv_at hl 1 rfl) ?_
    refine lv_aload_n hx hb dX7_equations_120 rfl (lv_at hl 0 rfl) ?_
    obtain ⟨r45, hk46, hf⟩ := b1_s hf
    refine rv_i (vq := (RX7, TX7, 28)) (As := []) (rest := [.int l2]) (bs' := [pMo κ qm m_state m_tape m_taped m_fault m_broken m_brokenAt m_spot m_here m_token m_value m_ends m_letters m_moments m_stepsAt m_steps m_latest m_matrix m_sides m_tried m_answers m_rowOf m_whole m_shares m_isKept m_lanes m_lengths m_cells m_torn]) C0 hw (cMo_joints l D κ qm m_state m_tape m_taped m_fault m_broken m_brokenAt m_spot m_here m_token m_value m_ends m_letters m_moments m_stepsAt m_steps m_latest m_matrix m_sides m_tried m_answers m_rowOf m_whole m_shares m_isKept m_lanes m_lengths m_cells m_torn r45 hk46) cv_RX7_183 ⟨rfl, rfl, Nat.le_of_ble_eq_true rfl, Nat.le_of_ble_eq_true rfl⟩ ⟨Nat.zero_le _, Nat.zero_le _⟩ [0] [] [0] rfl rfl rfl rfl (by decide) rfl rfl rfl rfl rfl hl.1 (by simp only [List.map, List.sum_cons, List.sum_nil, Value.category]; decide) dX7_equations_121 (fun H locs hw hn47 => ?_)
    refine lv_icmp_ge (tgt := 187) hx hb dX7_equations_124 (by decide) (fun hc48 => ?_) (fun hc48 => ?_)
    · have hf := if_t hc48 hf
      exact hk_ l2 m_matrix m_sides H locs ls hw (lv_sub hl [0] rfl)  hf
    · have hf := if_f hc48 hf
      refine lv_aload_n hx hb dX7_equations_127 rfl (lv_at hl 0 rfl) ?_
      refine r_get C0 hw 0 20 (v := .ref (qm 11)) rfl rfl inX7 (by decide) lk_X7_45 rfl dX7_equations_128 ?_
      refine lv_iload_n hx hb dX7_equations_131 rfl (lv_at hl 1 rfl) ?_
      obtain ⟨hi49, hf⟩ := gd_s hf
      refine r_iald C0 hw 11 0 rfl rfl hi49 dX7_equations_132 ?_
      refine lv_if_lt (tgt := 181) hx hb dX7_equations_133 (by decide) (fun hc50 => ?_) (fun hc50 => ?_)
      · have hf := if_t hc50 hf
        obtain ⟨v51, ev51⟩ : ∃ z : Int32, z = (l2 + (1 : Int32)) := ⟨_, rfl⟩
        have hf := lt_s_ hf v51 ev51
        refine lv_iinc (v := v51) (lv' := [(2, .int v51), (0, .ref (qm 0))]) hx hb dX7_equations_181 hl (k := 1) rfl (by rw [ev51]; rfl) (by decide) rfl (fun ls hl => ?_)
        refine lv_goto (tgt := 119) hx hb dX7_equations_184 (by decide) ?_
        exact ih v51 m_matrix m_sides H locs ls hw (lv_sub hl [1, 0] rfl)  hf
      · have hf := if_f hc50 hf
        refine lv_aload_n hx hb dX7_equations_136 rfl (lv_at hl 0 rfl) ?_
        refine r_get C0 hw 0 16 (v := .ref (qm 7)) rfl rfl inX7 (by decide) lk_X7_32 rfl dX7_equations_137 ?_
        refine lv_iconst (v := 5) hx hb dX7_equations_140 (by decide) ?_
        refine lv_aload_n hx hb dX7_equations_141 rfl (lv_at hl 0 rfl) ?_
        refine r_get C0 hw 0 20 (v := .ref (qm 11)) rfl rfl inX7 (by decide) lk_X7_45 rfl dX7_equations_142 ?_
        refine lv_iload_n hx hb dX7_equations_145 rfl (lv_at hl 1 rfl) ?_
        obtain ⟨hi52, hf⟩ := gd_s hf
        refine r_iald C0 hw 11 0 rfl rfl hi52 dX7_equations_146 ?_
        refine lv_imul hx hb dX7_equations_147 ?_
        refine lv_ldc2 (v := 4) hx hb hown (hts _ kl_X7_217) dX7_equations_148 ?_
        refine lv_aload_n hx hb dX7_equations_151 rfl (lv_at hl 0 rfl) ?_
        refine lv_iload_n hx hb dX7_equations_152 rfl (lv_at hl 1 rfl) ?_
        obtain ⟨r53, hk54, hf⟩ := b1_s hf
        refine rv_i (vq := (RX7, TX7, 28)) (As := [.int l2]) (rest := [.long (4 : Int64), .int ((5 : Int32) * (m_rowOf l2.toNatClampNeg)), .ref (qm 7)]) (bs' := [pMo κ qm m_state m_tape m_taped m_fault m_broken m_brokenAt m_spot m_here m_token m_value m_ends m_letters m_moments m_stepsAt m_steps m_latest m_matrix m_sides m_tried m_answers m_rowOf m_whole m_shares m_isKept m_lanes m_lengths m_cells m_torn]) C0 hw (cMo_stiffAt l D κ qm m_state m_tape m_taped m_fault m_broken m_brokenAt m_spot m_here m_token m_value m_ends m_letters m_moments m_stepsAt m_steps m_latest m_matrix m_sides m_tried m_answers m_rowOf m_whole m_shares m_isKept m_lanes m_lengths m_cells m_torn l2 r53 hk54) cv_RX7_201 ⟨rfl, rfl, Nat.le_of_ble_eq_true rfl, Nat.le_of_ble_eq_true rfl⟩ ⟨Nat.zero_le _, Nat.zero_le _⟩ [0] [] [0] rfl rfl rfl rfl (by decide) rfl rfl rfl rfl rfl hl.1 (by simp only [List.map, List.sum_cons, List.sum_nil, Value.category]; decide) dX7_equations_153 (fun H locs hw hn55 => ?_)
        refine lv_i2l hx hb dX7_equations_156 rfl ?_
        refine lv_lmul hx hb dX7_equations_157 ?_
        obtain ⟨hi56, hf⟩ := gd_s hf
        obtain ⟨w57, ew57⟩ : ∃ z : Nat → Int64, z = (vp_updL m_matrix ((5 : Int32) * (m_rowOf l2.toNatClampNeg)).toNatClampNeg ((4 : Int64) * (r53.toInt64))) := ⟨_, rfl⟩
        have hf := lt_s_ hf w57 ew57
        refine r_last C0 hw 7 3 rfl rfl hi56 dX7_equations_158 (ws' := List.flatten [pMo κ qm m_state m_tape m_taped m_fault m_broken m_brokenAt m_spot m_here m_token m_value m_ends m_letters m_moments m_stepsAt m_steps m_latest w57 m_sides m_tried m_answers m_rowOf m_whole m_shares m_isKept m_lanes m_lengths m_cells m_torn]) (by subst ew57; rfl) (fun H locs hw => ?_)
        refine lv_aload_n hx hb dX7_equations_159 rfl (lv_at hl 0 rfl) ?_
        refine r_get C0 hw 0 17 (v := .ref (qm 8)) rfl rfl inX7 (by decide) lk_X7_36 rfl dX7_equations_160 ?_
        refine lv_aload_n hx hb dX7_equations_163 rfl (lv_at hl 0 rfl) ?_
        refine r_get C0 hw 0 20 (v := .ref (qm 11)) rfl rfl inX7 (by decide) lk_X7_45 rfl dX7_equations_164 ?_
        refine lv_iload_n hx hb dX7_equations_167 rfl (lv_at hl 1 rfl) ?_
        obtain ⟨hi58, hf⟩ := gd_s hf
        refine r_iald C0 hw 11 0 rfl rfl hi58 dX7_equations_168 ?_
        refine lv_aload_n hx hb dX7_equations_169 rfl (lv_at hl 0 rfl) ?_
        refine r_get C0 hw 0 0 (v := .ref (qm 1)) rfl rfl inX7 (by decide) lk_X7_7 rfl dX7_equations_170 ?_
        refine lv_bipush (v := 6) hx hb dX7_equations_173 (by decide) ?_
        refine lv_iload_n hx hb dX7_equations_175 rfl (lv_at hl 1 rfl) ?_
        refine lv_iadd hx hb dX7_equations_176 ?_
        obtain ⟨hi59, hf⟩ := gd_s hf
        refine r_iald C0 hw 1 0 rfl rfl hi59 dX7_equations_177 ?_
        refine lv_ineg hx hb dX7_equations_178 ?_
        refine lv_i2l hx hb dX7_equations_179 rfl ?_
        obtain ⟨hi60, hf⟩ := gd_s hf
        obtain ⟨w61, ew61⟩ : ∃ z : Nat → Int64, z = (vp_updL m_sides (m_rowOf l2.toNatClampNeg).toNatClampNeg ((-(m_state ((6 : Int32) + l2).toNatClampNeg)).toInt64)) := ⟨_, rfl⟩
        have hf := lt_s_ hf w61 ew61
        refine r_last C0 hw 8 3 rfl rfl hi60 dX7_equations_180 (ws' := List.flatten [pMo κ qm m_state m_tape m_taped m_fault m_broken m_brokenAt m_spot m_here m_token m_value m_ends m_letters m_moments m_stepsAt m_steps m_latest w57 w61 m_tried m_answers m_rowOf m_whole m_shares m_isKept m_lanes m_lengths m_cells m_torn]) (by subst ew61; rfl) (fun H locs hw => ?_)
        obtain ⟨v62, ev62⟩ : ∃ z : Int32, z = (l2 + (1 : Int32)) := ⟨_, rfl⟩
        have hf := lt_s_ hf v62 ev62
        refine lv_iinc (v := v62) (lv' := [(2, .int v62), (0, .ref (qm 0))]) hx hb dX7_equations_181 hl (k := 1) rfl (by rw [ev62]; rfl) (by decide) rfl (fun ls hl => ?_)
        refine lv_goto (tgt := 119) hx hb dX7_equations_184 (by decide) ?_
        exact ih v62 w57 w61 H locs ls hw (lv_sub hl [1, 0] rfl)  hf
set_option maxHeartbeats 4000000 in
set_option maxRecDepth 100000 in
theorem wMo_equations_L189 {p : Program} {l : Launch} {e : Env} {s : State} {m : MethodId} {args : Array Value} {below : List Frame} {meth : Method} {c : Code} {A : Nat → Prop} {D : va_G} {κ : Nat → ClassId} (C0 : cx_ p s m meth c args cX7_equations RX7 none 5 A) (qm : Nat → Nat) (m_state m_tape : Nat → Int32) (m_taped m_fault m_broken m_brokenAt m_spot m_here m_token m_value : Int32) (m_ends m_letters m_moments m_stepsAt : Nat → Int32) (m_steps m_latest : Int32) (m_tried m_answers : Nat → Int64) (m_rowOf : Nat → Int32) (m_whole : Int64) (m_shares m_isKept m_lanes m_lengths m_cells : Nat → Int32) (m_torn : Int32) (z1 z2 : Nat → Int64) (z3 : Nat → Int32) : ∀ (n : Nat) (l2 : Int32) (m_matrix : Nat → Int64) (m_sides : Nat → Int64) (H : Heap) (locs : List Loc) (ls : Array Slot), wd_ D (tys0 κ) A s (List.flatten [pMo κ qm m_state m_tape m_taped m_fault m_broken m_brokenAt m_spot m_here m_token m_value m_ends m_letters m_moments m_stepsAt m_steps m_latest m_matrix m_sides m_tried m_answers m_rowOf m_whole m_shares m_isKept m_lanes m_lengths m_cells m_torn]) H locs → lv_has ls 5 [(0, .ref (qm 0)), (2, .int l2)] → FMo_equations_L189 m_state m_rowOf n l2 m_matrix m_sides = some (z1, z2, z3) → W p l e ({ frames := 3, cells := 0, slots := 0, locals := 65 } : Room) s m args below meth c H locs 0 0 (qV_ D (tys0 κ) A (List.flatten [pMo κ qm m_state m_tape m_taped m_fault m_broken m_brokenAt m_spot m_here m_token m_value m_ends m_letters m_moments m_stepsAt m_steps m_latest z1 z2 m_tried m_answers z3 m_whole m_shares m_isKept m_lanes m_lengths m_cells m_torn]) below args s) (F0 m 189 ls []) := by
  obtain ⟨hx, hb, -, hml, hown, hts, -, -⟩ := id C0
  intro n
  induction n with
  | zero =>
    intro l2 m_matrix m_sides H locs ls hw hl  hf
    cases hf
  | succ n ih =>
    intro l2 m_matrix m_sides H locs ls hw hl  hf
    rw [FMo_equations_L189.eq_2] at hf
    refine lv_iload_n hx hb dX7_equations_189 rfl (lv_at hl 1 rfl) ?_
    refine lv_iconst (v := 2) hx hb dX7_equations_190 (by decide) ?_
    refine lv_aload_n hx hb dX7_equations_191 rfl (lv_at hl 0 rfl) ?_
    obtain ⟨r66, hk67, hf⟩ := b1_s hf
    refine rv_i (vq := (RX7, TX7, 28)) (As := []) (rest := [.int (2 : Int32), .int l2]) (bs' := [pMo κ qm m_state m_tape m_taped m_fault m_broken m_brokenAt m_spot m_here m_token m_value m_ends m_letters m_moments m_stepsAt m_steps m_latest m_matrix m_sides m_tried m_answers m_rowOf m_whole m_shares m_isKept m_lanes m_lengths m_cells m_torn]) C0 hw (cMo_beams l D κ qm m_state m_tape m_taped m_fault m_broken m_brokenAt m_spot m_here m_token m_value m_ends m_letters m_moments m_stepsAt m_steps m_latest m_matrix m_sides m_tried m_answers m_rowOf m_whole m_shares m_isKept m_lanes m_lengths m_cells m_torn r66 hk67) cv_RX7_162 ⟨rfl, rfl, Nat.le_of_ble_eq_true rfl, Nat.le_of_ble_eq_true rfl⟩ ⟨Nat.zero_le _, Nat.zero_le _⟩ [0] [] [0] rfl rfl rfl rfl (by decide) rfl rfl rfl rfl rfl hl.1 (by simp only [List.map, List.sum_cons, List.sum_nil, Value.category]; decide) dX7_equations_192 (fun H locs hw hn68 => ?_)
    refine lv_imul hx hb dX7_equations_195 ?_
    refine lv_icmp_ge (tgt := 283) hx hb dX7_equations_196 (by decide) (fun hc69 => ?_) (fun hc69 => ?_)
    · have hf := if_t hc69 hf
      obtain ⟨rfl, rfl, rfl⟩ := e3_ hf
      exact r_vret C0 hw dX7_equations_283
    · have hf := if_f hc69 hf
      refine lv_aload_n hx hb dX7_equations_199 rfl (lv_at hl 0 rfl) ?_
      refine r_get C0 hw 0 20 (v := .ref (qm 11)) rfl rfl inX7 (by decide) lk_X7_45 rfl dX7_equations_200 ?_
      refine lv_aload_n hx hb dX7_equations_203 rfl (lv_at hl 0 rfl) ?_
      refine lv_iload_n hx hb dX7_equations_204 rfl (lv_at hl 1 rfl) ?_
      obtain ⟨r70, hk71, hf⟩ := b1_s hf
      refine rv_i (vq := (RX7, TX7, 28)) (As := [.int l2]) (rest := [.ref (qm 11)]) (bs' := [pMo κ qm m_state m_tape m_taped m_fault m_broken m_brokenAt m_spot m_here m_token m_value m_ends m_letters m_moments m_stepsAt m_steps m_latest m_matrix m_sides m_tried m_answers m_rowOf m_whole m_shares m_isKept m_lanes m_lengths m_cells m_torn]) C0 hw (cMo_jointOf l D κ qm m_state m_tape m_taped m_fault m_broken m_brokenAt m_spot m_here m_token m_value m_ends m_letters m_moments m_stepsAt m_steps m_latest m_matrix m_sides m_tried m_answers m_rowOf m_whole m_shares m_isKept m_lanes m_lengths m_cells m_torn l2 r70 hk71) cv_RX7_168 ⟨rfl, rfl, Nat.le_of_ble_eq_true rfl, Nat.le_of_ble_eq_true rfl⟩ ⟨Nat.zero_le _, Nat.zero_le _⟩ [0] [] [0] rfl rfl rfl rfl (by decide) rfl rfl rfl rfl rfl hl.1 (by simp only [List.map, List.sum_cons, List.sum_nil, Value.category]; decide) dX7_equations_205 (fun H locs hw hn72 => ?_)
      obtain ⟨hi73, hf⟩ := gd_s hf
      refine r_iald C0 hw 11 0 rfl rfl hi73 dX7_equations_208 ?_
      refine lv_topi (fun v74 ev74 => ?_)
      have hf := lt_s_ hf v74 ev74
      refine lv_istore_n (lv' := [(3, .int v74), (0, .ref (qm 0)), (2, .int l2)]) hx hb dX7_equations_209 rfl hl (by decide) rfl (fun ls hl => ?_)
      refine lv_aload_n hx hb dX7_equations_210 rfl (lv_at hl 1 rfl) ?_
      refine r_get C0 hw 0 20 (v := .ref (qm 11)) rfl rfl inX7 (by decide) lk_X7_45 rfl dX7_equations_211 ?_
      refine lv_aload_n hx hb dX7_equations_214 rfl (lv_at hl 1 rfl) ?_
      refine lv_iload_n hx hb dX7_equations_215 rfl (lv_at hl 2 rfl) ?_
      obtain ⟨r75, hk76, hf⟩ := b1_s hf
      refine rs_i (As := [.int l2]) (rest := [.ref (qm 0), .ref (qm 11)]) (bs' := [pMo κ qm m_state m_tape m_taped m_fault m_broken m_brokenAt m_spot m_here m_token m_value m_ends m_letters m_moments m_stepsAt m_steps m_latest m_matrix m_sides m_tried m_answers m_rowOf m_whole m_shares m_isKept m_lanes m_lengths m_cells m_torn]) C0 hw (cMo_otherOf l D κ l2 r75 hk76) cs_X7_219 ⟨rfl, rfl, Nat.le_of_ble_eq_true rfl, Nat.le_of_ble_eq_true rfl⟩ ⟨Nat.zero_le _, Nat.zero_le _⟩ [] [0] [0] rfl rfl rfl rfl (by decide) rfl rfl rfl hl.1 (by simp only [List.map, List.sum_cons, List.sum_nil, Value.category]; decide) dX7_equations_216 (fun H locs hw hn77 => ?_)
      obtain ⟨r78, hk79, hf⟩ := b1_s hf
      refine rv_i (vq := (RX7, TX7, 28)) (As := [.int r75]) (rest := [.ref (qm 11)]) (bs' := [pMo κ qm m_state m_tape m_taped m_fault m_broken m_brokenAt m_spot m_here m_token m_value m_ends m_letters m_moments m_stepsAt m_steps m_latest m_matrix m_sides m_tried m_answers m_rowOf m_whole m_shares m_isKept m_lanes m_lengths m_cells m_torn]) C0 hw (cMo_jointOf l D κ qm m_state m_tape m_taped m_fault m_broken m_brokenAt m_spot m_here m_token m_value m_ends m_letters m_moments m_stepsAt m_steps m_latest m_matrix m_sides m_tried m_answers m_rowOf m_whole m_shares m_isKept m_lanes m_lengths m_cells m_torn r75 r78 hk79) cv_RX7_168 ⟨rfl, rfl, Nat.le_of_ble_eq_true rfl, Nat.le_of_ble_eq_true rfl⟩ ⟨Nat.zero_le _, Nat.zero_le _⟩ [0] [] [0] rfl rfl rfl rfl (by decide) rfl rfl rfl rfl rfl hl.1 (by simp only [List.map, List.sum_cons, List.sum_nil, Value.category]; decide) dX7_equations_219 (fun H locs hw hn80 => ?_)
      obtain ⟨hi81, hf⟩ := gd_s hf
      refine r_iald C0 hw 11 0 rfl rfl hi81 dX7_equations_222 ?_
      refine lv_topi (fun v82 ev82 => ?_)
      have hf := lt_s_ hf v82 ev82
      refine lv_istore (lv' := [(4, .int v82), (3, .int v74), (0, .ref (qm 0)), (2, .int l2)]) hx hb dX7_equations_223 hl (by decide) rfl (fun ls hl => ?_)
      refine lv_iload_n hx hb dX7_equations_225 rfl (lv_at hl 1 rfl) ?_
      obtain ⟨j95, ej95, hf⟩ := lt_e hf
      have hj96 : ∀ (w83 : Nat → Int64) (H : Heap) (locs : List Loc) (ls : Array Slot), wd_ D (tys0 κ) A s (List.flatten [pMo κ qm m_state m_tape m_taped m_fault m_broken m_brokenAt m_spot m_here m_token m_value m_ends m_letters m_moments m_stepsAt m_steps m_latest m_matrix w83 m_tried m_answers m_rowOf m_whole m_shares m_isKept m_lanes m_lengths m_cells m_torn]) H locs → lv_has ls 5 [(4, .int v82), (3, .int v74), (0, .ref (qm 0)), (2, .int l2)] → j95 w83 = some (z1, z2, z3) → W p l e ({ frames := 3, cells := 0, slots := 0, locals := 65 } : Room) s m args below meth c H locs 0 0 (qV_ D (tys0 κ) A (List.flatten [pMo κ qm m_state m_tape m_taped m_fault m_broken m_brokenAt m_spot m_here m_token m_value m_ends m_letters m_moments m_stepsAt m_steps m_latest z1 z2 m_tried m_answers z3 m_whole m_shares m_isKept m_lanes m_lengths m_cells m_torn]) below args s) (F0 m 244 ls []) := by
        intro w83 H locs ls hw hl  hf
        have hf : (if v74 < 0 then lt_ (l2 + (1 : Int32)) fun v85 => FMo_equations_L189 m_state m_rowOf n v85 m_matrix w83 else if v82 < 0 then lt_ (l2 + (1 : Int32)) fun v87 => FMo_equations_L189 m_state m_rowOf n v87 m_matrix w83 else gd_ (((4 : Int32) * v74) + v82) 16 <| b1_ (FMo_stiffOf m_state l2) fun r89 => gd_ (((4 : Int32) * v74) + v82) 16 <| lt_ (vp_updL m_matrix (((4 : Int32) * v74) + v82).toNatClampNeg ((m_matrix (((4 : Int32) * v74) + v82).toNatClampNeg) + ((2 : Int64) * (r89.toInt64)))) fun w93 => lt_ (l2 + (1 : Int32)) fun v94 => FMo_equations_L189 m_state m_rowOf n v94 w93 w83) = some (z1, z2, z3) := by rw [ej95] at hf; exact hf
        refine lv_iload_n hx hb dX7_equations_244 rfl (lv_at hl 1 rfl) ?_
        refine lv_if_lt (tgt := 277) hx hb dX7_equations_245 (by decide) (fun hc84 => ?_) (fun hc84 => ?_)
        · have hf := if_t hc84 hf
          obtain ⟨v85, ev85⟩ : ∃ z : Int32, z = (l2 + (1 : Int32)) := ⟨_, rfl⟩
          have hf := lt_s_ hf v85 ev85
          refine lv_iinc (v := v85) (lv' := [(2, .int v85), (4, .int v82), (3, .int v74), (0, .ref (qm 0))]) hx hb dX7_equations_277 hl (k := 3) rfl (by rw [ev85]; rfl) (by decide) rfl (fun ls hl => ?_)
          refine lv_goto (tgt := 189) hx hb dX7_equations_280 (by decide) ?_
          exact ih v85 m_matrix w83 H locs ls hw (lv_sub hl [3, 0] rfl)  hf
        · have hf := if_f hc84 hf
          refine lv_iload hx hb dX7_equations_248 (lv_at hl 0 rfl) ?_
          refine lv_if_lt (tgt := 277) hx hb dX7_equations_250 (by decide) (fun hc86 => ?_) (fun hc86 => ?_)
          · have hf := if_t hc86 hf
            obtain ⟨v87, ev87⟩ : ∃ z : Int32, z = (l2 + (1 : Int32)) := ⟨_, rfl⟩
            have hf := lt_s_ hf v87 ev87
            refine lv_iinc (v := v87) (lv' := [(2, .int v87), (4, .int v82), (3, .int v74), (0, .ref (qm 0))]) hx hb dX7_equations_277 hl (k := 3) rfl (by rw [ev87]; rfl) (by decide) rfl (fun ls hl => ?_)
            refine lv_goto (tgt := 189) hx hb dX7_equations_280 (by decide) ?_
            exact ih v87 m_matrix w83 H locs ls hw (lv_sub hl [3, 0] rfl)  hf
          · have hf := if_f hc86 hf
            refine lv_aload_n hx hb dX7_equations_253 rfl (lv_at hl 2 rfl) ?_
            refine r_get C0 hw 0 16 (v := .ref (qm 7)) rfl rfl inX7 (by decide) lk_X7_32 rfl dX7_equations_254 ?_
            refine lv_iconst (v := 4) hx hb dX7_equations_257 (by decide) ?_
            refine lv_iload_n hx hb dX7_equations_258 rfl (lv_at hl 1 rfl) ?_
            refine lv_imul hx hb dX7_equations_259 ?_
            refine lv_iload hx hb dX7_equations_260 (lv_at hl 0 rfl) ?_
            refine lv_iadd hx hb dX7_equations_262 ?_
            refine lv_dup2_11 hx hb dX7_equations_263 rfl rfl ?_
            obtain ⟨hi88, hf⟩ := gd_s hf
            refine r_lald C0 hw 7 3 rfl rfl hi88 dX7_equations_264 ?_
            refine lv_ldc2 (v := 2) hx hb hown (hts _ kl_X7_222) dX7_equations_265 ?_
            refine lv_aload_n hx hb dX7_equations_268 rfl (lv_at hl 2 rfl) ?_
            refine lv_iload_n hx hb dX7_equations_269 rfl (lv_at hl 3 rfl) ?_
            obtain ⟨r89, hk90, hf⟩ := b1_s hf
            refine rv_i (vq := (RX7, TX7, 28)) (As := [.int l2]) (rest := [.long (2 : Int64), .long (m_matrix (((4 : Int32) * v74) + v82).toNatClampNeg), .int (((4 : Int32) * v74) + v82), .ref (qm 7)]) (bs' := [pMo κ qm m_state m_tape m_taped m_fault m_broken m_brokenAt m_spot m_here m_token m_value m_ends m_letters m_moments m_stepsAt m_steps m_latest m_matrix w83 m_tried m_answers m_rowOf m_whole m_shares m_isKept m_lanes m_lengths m_cells m_torn]) C0 hw (cMo_stiffOf l D κ qm m_state m_tape m_taped m_fault m_broken m_brokenAt m_spot m_here m_token m_value m_ends m_letters m_moments m_stepsAt m_steps m_latest m_matrix w83 m_tried m_answers m_rowOf m_whole m_shares m_isKept m_lanes m_lengths m_cells m_torn l2 r89 hk90) cv_RX7_171 ⟨rfl, rfl, Nat.le_of_ble_eq_true rfl, Nat.le_of_ble_eq_true rfl⟩ ⟨Nat.zero_le _, Nat.zero_le _⟩ [0] [] [0] rfl rfl rfl rfl (by decide) rfl rfl rfl rfl rfl hl.1 (by simp only [List.map, List.sum_cons, List.sum_nil, Value.category]; decide) dX7_equations_270 (fun H locs hw hn91 => ?_)
            refine lv_i2l hx hb dX7_equations_273 rfl ?_
            refine lv_lmul hx hb dX7_equations_274 ?_
            refine lv_ladd hx hb dX7_equations_275 ?_
            obtain ⟨hi92, hf⟩ := gd_s hf
            obtain ⟨w93, ew93⟩ : ∃ z : Nat → Int64, z = (vp_updL m_matrix (((4 : Int32) * v74) + v82).toNatClampNeg ((m_matrix (((4 : Int32) * v74) + v82).toNatClampNeg) + ((2 : Int64) * (r89.toInt64)))) := ⟨_, rfl⟩
            have hf := lt_s_ hf w93 ew93
            refine r_last C0 hw 7 3 rfl rfl hi92 dX7_equations_276 (ws' := List.flatten [pMo κ qm m_state m_tape m_taped m_fault m_broken m_brokenAt m_spot m_here m_token m_value m_ends m_letters m_moments m_stepsAt m_steps m_latest w93 w83 m_tried m_answers m_rowOf m_whole m_shares m_isKept m_lanes m_lengths m_cells m_torn]) (by subst ew93; rfl) (fun H locs hw => ?_)
            obtain ⟨v94, ev94⟩ : ∃ z : Int32, z = (l2 + (1 : Int32)) := ⟨_, rfl⟩
            have hf := lt_s_ hf v94 ev94
            refine lv_iinc (v := v94) (lv' := [(2, .int v94), (4, .int v82), (3, .int v74), (0, .ref (qm 0))]) hx hb dX7_equations_277 hl (k := 3) rfl (by rw [ev94]; rfl) (by decide) rfl (fun ls hl => ?_)
            refine lv_goto (tgt := 189) hx hb dX7_equations_280 (by decide) ?_
            exact ih v94 w93 w83 H locs ls hw (lv_sub hl [3, 0] rfl)  hf
      refine lv_if_lt (tgt := 244) hx hb dX7_equations_226 (by decide) (fun hc97 => ?_) (fun hc97 => ?_)
      · have hf := if_t hc97 hf
        exact hj96 m_sides H locs ls hw (lv_sub hl [0, 1, 2, 3] rfl)  hf
      · have hf := if_f hc97 hf
        refine lv_aload_n hx hb dX7_equations_229 rfl (lv_at hl 2 rfl) ?_
        refine r_get C0 hw 0 17 (v := .ref (qm 8)) rfl rfl inX7 (by decide) lk_X7_36 rfl dX7_equations_230 ?_
        refine lv_iload_n hx hb dX7_equations_233 rfl (lv_at hl 1 rfl) ?_
        refine lv_dup2_11 hx hb dX7_equations_234 rfl rfl ?_
        obtain ⟨hi98, hf⟩ := gd_s hf
        refine r_lald C0 hw 8 3 rfl rfl hi98 dX7_equations_235 ?_
        refine lv_aload_n hx hb dX7_equations_236 rfl (lv_at hl 2 rfl) ?_
        refine lv_iload_n hx hb dX7_equations_237 rfl (lv_at hl 3 rfl) ?_
        obtain ⟨r99, hk100, hf⟩ := b1_s hf
        refine rv_i (vq := (RX7, TX7, 28)) (As := [.int l2]) (rest := [.long (m_sides v74.toNatClampNeg), .int v74, .ref (qm 8)]) (bs' := [pMo κ qm m_state m_tape m_taped m_fault m_broken m_brokenAt m_spot m_here m_token m_value m_ends m_letters m_moments m_stepsAt m_steps m_latest m_matrix m_sides m_tried m_answers m_rowOf m_whole m_shares m_isKept m_lanes m_lengths m_cells m_torn]) C0 hw (cMo_firstOf l D κ qm m_state m_tape m_taped m_fault m_broken m_brokenAt m_spot m_here m_token m_value m_ends m_letters m_moments m_stepsAt m_steps m_latest m_matrix m_sides m_tried m_answers m_rowOf m_whole m_shares m_isKept m_lanes m_lengths m_cells m_torn l2 r99 hk100) cv_RX7_165 ⟨rfl, rfl, Nat.le_of_ble_eq_true rfl, Nat.le_of_ble_eq_true rfl⟩ ⟨Nat.zero_le _, Nat.zero_le _⟩ [0] [] [0] rfl rfl rfl rfl (by decide) rfl rfl rfl rfl rfl hl.1 (by simp only [List.map, List.sum_cons, List.sum_nil, Value.category]; decide) dX7_equations_238 (fun H locs hw hn101 => ?_)
        refine lv_i2l hx hb dX7_equations_241 rfl ?_
        refine lv_lsub hx hb dX7_equations_242 ?_
        obtain ⟨hi102, hf⟩ := gd_s hf
        obtain ⟨w103, ew103⟩ : ∃ z : Nat → Int64, z = (vp_updL m_sides v74.toNatClampNeg ((m_sides v74.toNatClampNeg) - (r99.toInt64))) := ⟨_, rfl⟩
        have hf := lt_s_ hf w103 ew103
        refine r_last C0 hw 8 3 rfl rfl hi102 dX7_equations_243 (ws' := List.flatten [pMo κ qm m_state m_tape m_taped m_fault m_broken m_brokenAt m_spot m_here m_token m_value m_ends m_letters m_moments m_stepsAt m_steps m_latest m_matrix w103 m_tried m_answers m_rowOf m_whole m_shares m_isKept m_lanes m_lengths m_cells m_torn]) (by subst ew103; rfl) (fun H locs hw => ?_)
        exact hj96 w103 H locs ls hw (lv_sub hl [0, 1, 2, 3] rfl)  hf
set_option maxHeartbeats 4000000 in
set_option maxRecDepth 100000 in
theorem cMo_equations (l : Launch) (D : va_G) (κ : Nat → ClassId) (qm : Nat → Nat) (m_state m_tape : Nat → Int32) (m_taped m_fault m_broken m_brokenAt m_spot m_here m_token m_value : Int32) (m_ends m_letters m_moments m_stepsAt : Nat → Int32) (m_steps m_latest : Int32) (m_matrix m_sides m_tried m_answers : Nat → Int64) (m_rowOf : Nat → Int32) (m_whole : Int64) (m_shares m_isKept m_lanes m_lengths m_cells : Nat → Int32) (m_torn : Int32) (z1 z2 : Nat → Int64) (z3 : Nat → Int32) (hf : FMo_equations m_state m_matrix m_sides m_rowOf = some (z1, z2, z3)) : mV_ l yX7_equations (Cond.code yX7_equations cX7_equations 5 none :: uw) ({ frames := 3, cells := 0, slots := 0, locals := 65 } : Room) D (tys0 κ) [.ref (qm 0)] (List.flatten [pMo κ qm m_state m_tape m_taped m_fault m_broken m_brokenAt m_spot m_here m_token m_value m_ends m_letters m_moments m_stepsAt m_steps m_latest m_matrix m_sides m_tried m_answers m_rowOf m_whole m_shares m_isKept m_lanes m_lengths m_cells m_torn])  (List.flatten [pMo κ qm m_state m_tape m_taped m_fault m_broken m_brokenAt m_spot m_here m_token m_value m_ends m_letters m_moments m_stepsAt m_steps m_latest z1 z2 m_tried m_answers z3 m_whole m_shares m_isKept m_lanes m_lengths m_cells m_torn]) := by
  unfold FMo_equations at hf
  refine mV_of (by decide) (Nat.le_of_ble_eq_true rfl) ?_
  intro p e s m below meth c A ls H locs C0 hw hl
  obtain ⟨hx, hb, -, hml, hown, hts, -, -⟩ := id C0
  have hl : lv_has ls 5 [(0, .ref (qm 0))] := hl
  refine lv_iconst (v := 0) hx hb dX7_equations_0 (by decide) ?_
  refine lv_istore_n (lv' := [(1, .int (0 : Int32)), (0, .ref (qm 0))]) hx hb dX7_equations_1 rfl hl (by decide) rfl (fun ls hl => ?_)
  refine lv_iconst (v := 0) hx hb dX7_equations_2 (by decide) ?_
  refine lv_istore_n (lv' := [(2, .int (0 : Int32)), (1, .int (0 : Int32)), (0, .ref (qm 0))]) hx hb dX7_equations_3 rfl hl (by decide) rfl (fun ls hl => ?_)
  refine wMo_equations_L4 C0 qm m_state m_tape m_taped m_fault m_broken m_brokenAt m_spot m_here m_token m_value m_ends m_letters m_moments m_stepsAt m_steps m_latest m_sides m_tried m_answers m_rowOf m_whole m_shares m_isKept m_lanes m_lengths m_cells m_torn (0 : Int32) z1 z2 z3 _ (fun v9 w10 H locs ls hw hl  hf => ?_) 1000 (0 : Int32) m_matrix H locs ls hw (lv_sub hl [2, 1, 0] rfl)  hf
  refine lv_iconst (v := 0) hx hb dX7_equations_33 (by decide) ?_
  refine lv_istore_n (lv' := [(2, .int (0 : Int32)), (0, .ref (qm 0)), (1, .int (0 : Int32))]) hx hb dX7_equations_34 rfl hl (by decide) rfl (fun ls hl => ?_)
  refine wMo_equations_L35 C0 qm m_state m_tape m_taped m_fault m_broken m_brokenAt m_spot m_here m_token m_value m_ends m_letters m_moments m_stepsAt m_steps m_latest w10 m_sides m_tried m_answers m_whole m_shares m_isKept m_lanes m_lengths m_cells m_torn z1 z2 z3 _ (fun v36 v37 w38 H locs ls hw hl  hf => ?_) 1000 (0 : Int32) (0 : Int32) m_rowOf H locs ls hw (lv_sub hl [1, 2, 0] rfl)  hf
  refine lv_iconst (v := 0) hx hb dX7_equations_97 (by decide) ?_
  refine lv_istore_n (lv' := [(2, .int (0 : Int32)), (0, .ref (qm 0))]) hx hb dX7_equations_98 rfl hl (by decide) rfl (fun ls hl => ?_)
  refine wMo_equations_L99 C0 qm m_state m_tape m_taped m_fault m_broken m_brokenAt m_spot m_here m_token m_value m_ends m_letters m_moments m_stepsAt m_steps m_latest w10 m_tried m_answers w38 m_whole m_shares m_isKept m_lanes m_lengths m_cells m_torn z1 z2 z3 _ (fun v43 w44 H locs ls hw hl  hf => ?_) 1000 (0 : Int32) m_sides H locs ls hw (lv_sub hl [1, 0] rfl)  hf
  refine lv_iconst (v := 0) hx hb dX7_equations_117 (by decide) ?_
  refine lv_istore_n (lv' := [(2, .int (0 : Int32)), (0, .ref (qm 0))]) hx hb dX7_equations_118 rfl hl (by decide) rfl (fun ls hl => ?_)
  refine wMo_equations_L119 C0 qm m_state m_tape m_taped m_fault m_broken m_brokenAt m_spot m_here m_token m_value m_ends m_letters m_moments m_stepsAt m_steps m_latest m_tried m_answers w38 m_whole m_shares m_isKept m_lanes m_lengths m_cells m_torn z1 z2 z3 _ (fun v63 w64 w65 H locs ls hw hl  hf => ?_) 1000 (0 : Int32) w10 w44 H locs ls hw (lv_sub hl [1, 0] rfl)  hf
  refine lv_iconst (v := 0) hx hb dX7_equations_187 (by decide) ?_
  refine lv_istore_n (lv' := [(2, .int (0 : Int32)), (0, .ref (qm 0))]) hx hb dX7_equations_188 rfl hl (by decide) rfl (fun ls hl => ?_)
  exact wMo_equations_L189 C0 qm m_state m_tape m_taped m_fault m_broken m_brokenAt m_spot m_here m_token m_value m_ends m_letters m_moments m_stepsAt m_steps m_latest m_tried m_answers w38 m_whole m_shares m_isKept m_lanes m_lengths m_cells m_torn z1 z2 z3 1000 (0 : Int32) w64 w65 H locs ls hw (lv_sub hl [1, 0] rfl)  hf
def FMo_solved_L2 (m_matrix m_sides : Nat → Int64) (l1 : Int32) : Nat → Int32 → (Nat → Int64) → Option (Int64 × (Nat → Int64))
  | 0, _, _ => none
  | n + 1, l2, m_tried =>
      if (16 : Int32) ≤ l2 then
        b1_ (FMo_determinant m_tried) fun r2 =>
        some (r2, m_tried)
      else
        if (l2 - l2 / (4 : Int32) * (4 : Int32)) = l1 then
          gd_ (l2 / (4 : Int32)) 4 <|
          gd_ l2 16 <|
          lt_ (vp_updL m_tried l2.toNatClampNeg (m_sides (l2 / (4 : Int32)).toNatClampNeg)) fun w12 =>
          lt_ (l2 + (1 : Int32)) fun v13 =>
          FMo_solved_L2 m_matrix m_sides l1 n v13 w12
        else
          gd_ l2 16 <|
          gd_ l2 16 <|
          lt_ (vp_updL m_tried l2.toNatClampNeg (m_matrix l2.toNatClampNeg)) fun w8 =>
          lt_ (l2 + (1 : Int32)) fun v9 =>
          FMo_solved_L2 m_matrix m_sides l1 n v9 w8
def FMo_solved (m_matrix m_sides m_tried : Nat → Int64) (a1 : Int32) : Option (Int64 × (Nat → Int64)) :=
  FMo_solved_L2 m_matrix m_sides a1 1000 (0 : Int32) m_tried
set_option maxHeartbeats 4000000 in
set_option maxRecDepth 100000 in
theorem wMo_solved_L2 {p : Program} {l : Launch} {e : Env} {s : State} {m : MethodId} {args : Array Value} {below : List Frame} {meth : Method} {c : Code} {A : Nat → Prop} {D : va_G} {κ : Nat → ClassId} (C0 : cx_ p s m meth c args cX7_solved RX7 (some .long) 3 A) (qm : Nat → Nat) (m_state m_tape : Nat → Int32) (m_taped m_fault m_broken m_brokenAt m_spot m_here m_token m_value : Int32) (m_ends m_letters m_moments m_stepsAt : Nat → Int32) (m_steps m_latest : Int32) (m_matrix m_sides m_answers : Nat → Int64) (m_rowOf : Nat → Int32) (m_whole : Int64) (m_shares m_isKept m_lanes m_lengths m_cells : Nat → Int32) (m_torn l1 : Int32) (zr : Int64) (z1 : Nat → Int64) : ∀ (n : Nat) (l2 : Int32) (m_tried : Nat → Int64) (H : Heap) (locs : List Loc) (ls : Array Slot), wd_ D (tys0 κ) A s (List.flatten [pMo κ qm m_state m_tape m_taped m_fault m_broken m_brokenAt m_spot m_here m_token m_value m_ends m_letters m_moments m_stepsAt m_steps m_latest m_matrix m_sides m_tried m_answers m_rowOf m_whole m_shares m_isKept m_lanes m_lengths m_cells m_torn]) H locs → lv_has ls 3 [(0, .ref (qm 0)), (1, .int l1), (2, .int l2)] → FMo_solved_L2 m_matrix m_sides l1 n l2 m_tried = some (zr, z1) → W p l e ({ frames := 2, cells := 0, slots := 0, locals := 43 } : Room) s m args below meth c H locs 0 0 (qL_ D (tys0 κ) A zr (List.flatten [pMo κ qm m_state m_tape m_taped m_fault m_broken m_brokenAt m_spot m_here m_token m_value m_ends m_letters m_moments m_stepsAt m_steps m_latest m_matrix m_sides z1 m_answers m_rowOf m_whole m_shares m_isKept m_lanes m_lengths m_cells m_torn]) below args s) (F0 m 2 ls []) := by
  obtain ⟨hx, hb, -, hml, hown, hts, -, -⟩ := id C0
  intro n
  induction n with
  | zero =>
    intro l2 m_tried H locs ls hw hl  hf
    cases hf
  | succ n ih =>
    intro l2 m_tried H locs ls hw hl  hf
    rw [FMo_solved_L2.eq_2] at hf
    refine lv_iload_n hx hb dX7_solved_2 rfl (lv_at hl 2 rfl) ?_
    refine lv_bipush (v := 16) hx hb dX7_solved_3 (by decide) ?_
    refine lv_icmp_ge (tgt := 44) hx hb dX7_solved_5 (by decide) (fun hc1 => ?_) (fun hc1 => ?_)
    · have hf := if_t hc1 hf
      refine lv_aload_n hx hb dX7_solved_44 rfl (lv_at hl 0 rfl) ?_
      obtain ⟨r2, hk3, hf⟩ := b1_s hf
      refine rv_l (vq := (RX7, TX7, 28)) (As := []) (rest := []) (bs' := [pMo κ qm m_state m_tape m_taped m_fault m_broken m_brokenAt m_spot m_here m_token m_value m_ends m_letters m_moments m_stepsAt m_steps m_latest m_matrix m_sides m_tried m_answers m_rowOf m_whole m_shares m_isKept m_lanes m_lengths m_cells m_torn]) C0 hw (cMo_determinant l D κ qm m_state m_tape m_taped m_fault m_broken m_brokenAt m_spot m_here m_token m_value m_ends m_letters m_moments m_stepsAt m_steps m_latest m_matrix m_sides m_tried m_answers m_rowOf m_whole m_shares m_isKept m_lanes m_lengths m_cells m_torn r2 hk3) cv_RX7_224 ⟨rfl, rfl, Nat.le_of_ble_eq_true rfl, Nat.le_of_ble_eq_true rfl⟩ ⟨Nat.zero_le _, Nat.zero_le _⟩ [0] [] [0] rfl rfl rfl rfl (by decide) rfl rfl rfl rfl rfl hl.1 (by simp only [List.map, List.sum_cons, List.sum_nil, Value.category]; decide) dX7_solved_45 (fun H locs hw => ?_)
      obtain ⟨rfl, rfl⟩ := e2_ hf
      exact r_lret C0 hw dX7_solved_48
    · have hf := if_f hc1 hf
      refine lv_aload_n hx hb dX7_solved_8 rfl (lv_at hl 0 rfl) ?_
      refine r_get C0 hw 0 18 (v := .ref (qm 9)) rfl rfl inX7 (by decide) lk_X7_39 rfl dX7_solved_9 ?_
      refine lv_iload_n hx hb dX7_solved_12 rfl (lv_at hl 2 rfl) ?_
      refine lv_iload_n hx hb dX7_solved_13 rfl (lv_at hl 2 rfl) ?_
      refine lv_iconst (v := 4) hx hb dX7_solved_14 (by decide) ?_
      refine lv_irem hx hb dX7_solved_15 (by decide) ?_
      refine lv_iload_n hx hb dX7_solved_16 rfl (lv_at hl 1 rfl) ?_
      refine lv_icmp_ne (tgt := 31) hx hb dX7_solved_17 (by decide) (fun hc5 => ?_) (fun hc5 => ?_)
      · have hf := if_f hc5 hf
        refine lv_aload_n hx hb dX7_solved_31 rfl (lv_at hl 0 rfl) ?_
        refine r_get C0 hw 0 16 (v := .ref (qm 7)) rfl rfl inX7 (by decide) lk_X7_32 rfl dX7_solved_32 ?_
        refine lv_iload_n hx hb dX7_solved_35 rfl (lv_at hl 2 rfl) ?_
        obtain ⟨hi6, hf⟩ := gd_s hf
        refine r_lald C0 hw 7 3 rfl rfl hi6 dX7_solved_36 ?_
        obtain ⟨hi7, hf⟩ := gd_s hf
        obtain ⟨w8, ew8⟩ : ∃ z : Nat → Int64, z = (vp_updL m_tried l2.toNatClampNeg (m_matrix l2.toNatClampNeg)) := ⟨_, rfl⟩
        have hf := lt_s_ hf w8 ew8
        refine r_last C0 hw 9 3 rfl rfl hi7 dX7_solved_37 (ws' := List.flatten [pMo κ qm m_state m_tape m_taped m_fault m_broken m_brokenAt m_spot m_here m_token m_value m_ends m_letters m_moments m_stepsAt m_steps m_latest m_matrix m_sides w8 m_answers m_rowOf m_whole m_shares m_isKept m_lanes m_lengths m_cells m_torn]) (by subst ew8; rfl) (fun H locs hw => ?_)
        obtain ⟨v9, ev9⟩ : ∃ z : Int32, z = (l2 + (1 : Int32)) := ⟨_, rfl⟩
        have hf := lt_s_ hf v9 ev9
        refine lv_iinc (v := v9) (lv' := [(2, .int v9), (0, .ref (qm 0)), (1, .int l1)]) hx hb dX7_solved_38 hl (k := 2) rfl (by rw [ev9]; rfl) (by decide) rfl (fun ls hl => ?_)
        refine lv_goto (tgt := 2) hx hb dX7_solved_41 (by decide) ?_
        exact ih v9 w8 H locs ls hw (lv_sub hl [1, 2, 0] rfl)  hf
      · have hf := if_t hc5 hf
        refine lv_aload_n hx hb dX7_solved_20 rfl (lv_at hl 0 rfl) ?_
        refine r_get C0 hw 0 17 (v := .ref (qm 8)) rfl rfl inX7 (by decide) lk_X7_36 rfl dX7_solved_21 ?_
        refine lv_iload_n hx hb dX7_solved_24 rfl (lv_at hl 2 rfl) ?_
        refine lv_iconst (v := 4) hx hb dX7_solved_25 (by decide) ?_
        refine lv_idiv hx hb dX7_solved_26 (by decide) ?_
        obtain ⟨hi10, hf⟩ := gd_s hf
        refine r_lald C0 hw 8 3 rfl rfl hi10 dX7_solved_27 ?_
        refine lv_goto (tgt := 37) hx hb dX7_solved_28 (by decide) ?_
        obtain ⟨hi11, hf⟩ := gd_s hf
        obtain ⟨w12, ew12⟩ : ∃ z : Nat → Int64, z = (vp_updL m_tried l2.toNatClampNeg (m_sides (l2 / (4 : Int32)).toNatClampNeg)) := ⟨_, rfl⟩
        have hf := lt_s_ hf w12 ew12
        refine r_last C0 hw 9 3 rfl rfl hi11 dX7_solved_37 (ws' := List.flatten [pMo κ qm m_state m_tape m_taped m_fault m_broken m_brokenAt m_spot m_here m_token m_value m_ends m_letters m_moments m_stepsAt m_steps m_latest m_matrix m_sides w12 m_answers m_rowOf m_whole m_shares m_isKept m_lanes m_lengths m_cells m_torn]) (by subst ew12; rfl) (fun H locs hw => ?_)
        obtain ⟨v13, ev13⟩ : ∃ z : Int32, z = (l2 + (1 : Int32)) := ⟨_, rfl⟩
        have hf := lt_s_ hf v13 ev13
        refine lv_iinc (v := v13) (lv' := [(2, .int v13), (0, .ref (qm 0)), (1, .int l1)]) hx hb dX7_solved_38 hl (k := 2) rfl (by rw [ev13]; rfl) (by decide) rfl (fun ls hl => ?_)
        refine lv_goto (tgt := 2) hx hb dX7_solved_41 (by decide) ?_
        exact ih v13 w12 H locs ls hw (lv_sub hl [1, 2, 0] rfl)  hf
set_option maxHeartbeats 4000000 in
set_option maxRecDepth 100000 in
theorem cMo_solved (l : Launch) (D : va_G) (κ : Nat → ClassId) (qm : Nat → Nat) (m_state m_tape : Nat → Int32) (m_taped m_fault m_broken m_brokenAt m_spot m_here m_token m_value : Int32) (m_ends m_letters m_moments m_stepsAt : Nat → Int32) (m_steps m_latest : Int32) (m_matrix m_sides m_tried m_answers : Nat → Int64) (m_rowOf : Nat → Int32) (m_whole : Int64) (m_shares m_isKept m_lanes m_lengths m_cells : Nat → Int32) (m_torn a1 : Int32) (zr : Int64) (z1 : Nat → Int64) (hf : FMo_solved m_matrix m_sides m_tried a1 = some (zr, z1)) : mL_ l yX7_solved (Cond.code yX7_solved cX7_solved 3 (some .long) :: uw) ({ frames := 2, cells := 0, slots := 0, locals := 43 } : Room) D (tys0 κ) [.ref (qm 0), .int a1] (List.flatten [pMo κ qm m_state m_tape m_taped m_fault m_broken m_brokenAt m_spot m_here m_token m_value m_ends m_letters m_moments m_stepsAt m_steps m_latest m_matrix m_sides m_tried m_answers m_rowOf m_whole m_shares m_isKept m_lanes m_lengths m_cells m_torn]) zr (List.flatten [pMo κ qm m_state m_tape m_taped m_fault m_broken m_brokenAt m_spot m_here m_token m_value m_ends m_letters m_moments m_stepsAt m_steps m_latest m_matrix m_sides z1 m_answers m_rowOf m_whole m_shares m_isKept m_lanes m_lengths m_cells m_torn]) := by
  unfold FMo_solved at hf
  refine mL_of (by decide) (Nat.le_of_ble_eq_true rfl) ?_
  intro p e s m below meth c A ls H locs C0 hw hl
  obtain ⟨hx, hb, -, hml, hown, hts, -, -⟩ := id C0
  have hl : lv_has ls 3 [(0, .ref (qm 0)), (1, .int a1)] := hl
  refine lv_iconst (v := 0) hx hb dX7_solved_0 (by decide) ?_
  refine lv_istore_n (lv' := [(2, .int (0 : Int32)), (0, .ref (qm 0)), (1, .int a1)]) hx hb dX7_solved_1 rfl hl (by decide) rfl (fun ls hl => ?_)
  exact wMo_solved_L2 C0 qm m_state m_tape m_taped m_fault m_broken m_brokenAt m_spot m_here m_token m_value m_ends m_letters m_moments m_stepsAt m_steps m_latest m_matrix m_sides m_answers m_rowOf m_whole m_shares m_isKept m_lanes m_lengths m_cells m_torn a1 zr z1 1000 (0 : Int32) m_tried H locs ls hw (lv_sub hl [1, 2, 0] rfl)  hf
def FMo_solves_L16 (m_matrix m_sides : Nat → Int64) (m_rowOf : Nat → Int32) (m_whole : Int64) : Nat → Int32 → (Nat → Int64) → (Nat → Int64) → Option ((Nat → Int64) × (Nat → Int64) × (Nat → Int64) × (Nat → Int64) × (Nat → Int32) × Int64)
  | 0, _, _, _ => none
  | n + 1, l1, m_tried, m_answers =>
      if (6 : Int32) ≤ l1 then
        some (m_matrix, m_sides, m_tried, m_answers, m_rowOf, m_whole)
      else
        gd_ l1 6 <|
        if (m_rowOf l1.toNatClampNeg) < 0 then
          gd_ l1 6 <|
          lt_ (vp_updL m_answers l1.toNatClampNeg (0 : Int64)) fun w14 =>
          lt_ (l1 + (1 : Int32)) fun v15 =>
          FMo_solves_L16 m_matrix m_sides m_rowOf m_whole n v15 m_tried w14
        else
          gd_ l1 6 <|
          b2_ (FMo_solved m_matrix m_sides m_tried (m_rowOf l1.toNatClampNeg)) fun r17 w18 =>
          gd_ l1 6 <|
          lt_ (vp_updL m_answers l1.toNatClampNeg r17) fun w22 =>
          lt_ (l1 + (1 : Int32)) fun v23 =>
          FMo_solves_L16 m_matrix m_sides m_rowOf m_whole n v23 w18 w22
def FMo_solves (m_state : Nat → Int32) (m_matrix m_sides m_tried m_answers : Nat → Int64) (m_rowOf : Nat → Int32) : Option ((Nat → Int64) × (Nat → Int64) × (Nat → Int64) × (Nat → Int64) × (Nat → Int32) × Int64) :=
  b3_ (FMo_equations m_state m_matrix m_sides m_rowOf) fun w1 w2 w3 =>
  b2_ (FMo_solved w1 w2 m_tried (-4 : Int32)) fun r6 w7 =>
  FMo_solves_L16 w1 w2 w3 r6 1000 (0 : Int32) w7 m_answers
set_option maxHeartbeats 4000000 in
set_option maxRecDepth 100000 in
theorem wMo_solves_L16 {p : Program} {l : Launch} {e : Env} {s : State} {m : MethodId} {args : Array Value} {below : List Frame} {meth : Method} {c : Code} {A : Nat → Prop} {D : va_G} {κ : Nat → ClassId} (C0 : cx_ p s m meth c args cX7_solves RX7 none 2 A) (qm : Nat → Nat) (m_state m_tape : Nat → Int32) (m_taped m_fault m_broken m_brokenAt m_spot m_here m_token m_value : Int32) (m_ends m_letters m_moments m_stepsAt : Nat → Int32) (m_steps m_latest : Int32) (m_matrix m_sides : Nat → Int64) (m_rowOf : Nat → Int32) (m_whole : Int64) (m_shares m_isKept m_lanes m_lengths m_cells : Nat → Int32) (m_torn : Int32) (z1 z2 z3 z4 : Nat → Int64) (z5 : Nat → Int32) (z6 : Int64) : ∀ (n : Nat) (l1 : Int32) (m_tried : Nat → Int64) (m_answers : Nat → Int64) (H : Heap) (locs : List Loc) (ls : Array Slot), wd_ D (tys0 κ) A s (List.flatten [pMo κ qm m_state m_tape m_taped m_fault m_broken m_brokenAt m_spot m_here m_token m_value m_ends m_letters m_moments m_stepsAt m_steps m_latest m_matrix m_sides m_tried m_answers m_rowOf m_whole m_shares m_isKept m_lanes m_lengths m_cells m_torn]) H locs → lv_has ls 2 [(0, .ref (qm 0)), (1, .int l1)] → FMo_solves_L16 m_matrix m_sides m_rowOf m_whole n l1 m_tried m_answers = some (z1, z2, z3, z4, z5, z6) → W p l e ({ frames := 4, cells := 0, slots := 0, locals := 89 } : Room) s m args below meth c H locs 0 0 (qV_ D (tys0 κ) A (List.flatten [pMo κ qm m_state m_tape m_taped m_fault m_broken m_brokenAt m_spot m_here m_token m_value m_ends m_letters m_moments m_stepsAt m_steps m_latest z1 z2 z3 z4 z5 z6 m_shares m_isKept m_lanes m_lengths m_cells m_torn]) below args s) (F0 m 16 ls []) := by
  obtain ⟨hx, hb, -, hml, hown, hts, -, -⟩ := id C0
  intro n
  induction n with
  | zero =>
    intro l1 m_tried m_answers H locs ls hw hl  hf
    cases hf
  | succ n ih =>
    intro l1 m_tried m_answers H locs ls hw hl  hf
    rw [FMo_solves_L16.eq_2] at hf
    refine lv_iload_n hx hb dX7_solves_16 rfl (lv_at hl 1 rfl) ?_
    refine lv_bipush (v := 6) hx hb dX7_solves_17 (by decide) ?_
    refine lv_icmp_ge (tgt := 57) hx hb dX7_solves_19 (by decide) (fun hc10 => ?_) (fun hc10 => ?_)
    · have hf := if_t hc10 hf
      obtain ⟨rfl, rfl, rfl, rfl, rfl, rfl⟩ := e6_ hf
      exact r_vret C0 hw dX7_solves_57
    · have hf := if_f hc10 hf
      refine lv_aload_n hx hb dX7_solves_22 rfl (lv_at hl 0 rfl) ?_
      refine r_get C0 hw 0 19 (v := .ref (qm 10)) rfl rfl inX7 (by decide) lk_X7_42 rfl dX7_solves_23 ?_
      refine lv_iload_n hx hb dX7_solves_26 rfl (lv_at hl 1 rfl) ?_
      refine lv_aload_n hx hb dX7_solves_27 rfl (lv_at hl 0 rfl) ?_
      refine r_get C0 hw 0 20 (v := .ref (qm 11)) rfl rfl inX7 (by decide) lk_X7_45 rfl dX7_solves_28 ?_
      refine lv_iload_n hx hb dX7_solves_31 rfl (lv_at hl 1 rfl) ?_
      obtain ⟨hi11, hf⟩ := gd_s hf
      refine r_iald C0 hw 11 0 rfl rfl hi11 dX7_solves_32 ?_
      refine lv_if_lt (tgt := 49) hx hb dX7_solves_33 (by decide) (fun hc12 => ?_) (fun hc12 => ?_)
      · have hf := if_t hc12 hf
        refine lv_lconst (v := 0) hx hb dX7_solves_49 (by decide) ?_
        obtain ⟨hi13, hf⟩ := gd_s hf
        obtain ⟨w14, ew14⟩ : ∃ z : Nat → Int64, z = (vp_updL m_answers l1.toNatClampNeg (0 : Int64)) := ⟨_, rfl⟩
        have hf := lt_s_ hf w14 ew14
        refine r_last C0 hw 10 3 rfl rfl hi13 dX7_solves_50 (ws' := List.flatten [pMo κ qm m_state m_tape m_taped m_fault m_broken m_brokenAt m_spot m_here m_token m_value m_ends m_letters m_moments m_stepsAt m_steps m_latest m_matrix m_sides m_tried w14 m_rowOf m_whole m_shares m_isKept m_lanes m_lengths m_cells m_torn]) (by subst ew14; rfl) (fun H locs hw => ?_)
        obtain ⟨v15, ev15⟩ : ∃ z : Int32, z = (l1 + (1 : Int32)) := ⟨_, rfl⟩
        have hf := lt_s_ hf v15 ev15
        refine lv_iinc (v := v15) (lv' := [(1, .int v15), (0, .ref (qm 0))]) hx hb dX7_solves_51 hl (k := 1) rfl (by rw [ev15]; rfl) (by decide) rfl (fun ls hl => ?_)
        refine lv_goto (tgt := 16) hx hb dX7_solves_54 (by decide) ?_
        exact ih v15 m_tried w14 H locs ls hw (lv_sub hl [1, 0] rfl)  hf
      · have hf := if_f hc12 hf
        refine lv_aload_n hx hb dX7_solves_36 rfl (lv_at hl 0 rfl) ?_
        refine lv_aload_n hx hb dX7_solves_37 rfl (lv_at hl 0 rfl) ?_
        refine r_get C0 hw 0 20 (v := .ref (qm 11)) rfl rfl inX7 (by decide) lk_X7_45 rfl dX7_solves_38 ?_
        refine lv_iload_n hx hb dX7_solves_41 rfl (lv_at hl 1 rfl) ?_
        obtain ⟨hi16, hf⟩ := gd_s hf
        refine r_iald C0 hw 11 0 rfl rfl hi16 dX7_solves_42 ?_
        obtain ⟨r17, w18, hk19, hf⟩ := b2_s hf
        refine rv_l (vq := (RX7, TX7, 28)) (As := [.int (m_rowOf l1.toNatClampNeg)]) (rest := [.int l1, .ref (qm 10)]) (bs' := [pMo κ qm m_state m_tape m_taped m_fault m_broken m_brokenAt m_spot m_here m_token m_value m_ends m_letters m_moments m_stepsAt m_steps m_latest m_matrix m_sides w18 m_answers m_rowOf m_whole m_shares m_isKept m_lanes m_lengths m_cells m_torn]) C0 hw (cMo_solved l D κ qm m_state m_tape m_taped m_fault m_broken m_brokenAt m_spot m_here m_token m_value m_ends m_letters m_moments m_stepsAt m_steps m_latest m_matrix m_sides m_tried m_answers m_rowOf m_whole m_shares m_isKept m_lanes m_lengths m_cells m_torn (m_rowOf l1.toNatClampNeg) r17 w18 hk19) cv_RX7_231 ⟨rfl, rfl, Nat.le_of_ble_eq_true rfl, Nat.le_of_ble_eq_true rfl⟩ ⟨Nat.zero_le _, Nat.zero_le _⟩ [0] [] [0] rfl rfl rfl rfl (by decide) rfl rfl rfl rfl rfl hl.1 (by simp only [List.map, List.sum_cons, List.sum_nil, Value.category]; decide) dX7_solves_43 (fun H locs hw => ?_)
        refine lv_goto (tgt := 50) hx hb dX7_solves_46 (by decide) ?_
        obtain ⟨hi21, hf⟩ := gd_s hf
        obtain ⟨w22, ew22⟩ : ∃ z : Nat → Int64, z = (vp_updL m_answers l1.toNatClampNeg r17) := ⟨_, rfl⟩
        have hf := lt_s_ hf w22 ew22
        refine r_last C0 hw 10 3 rfl rfl hi21 dX7_solves_50 (ws' := List.flatten [pMo κ qm m_state m_tape m_taped m_fault m_broken m_brokenAt m_spot m_here m_token m_value m_ends m_letters m_moments m_stepsAt m_steps m_latest m_matrix m_sides w18 w22 m_rowOf m_whole m_shares m_isKept m_lanes m_lengths m_cells m_torn]) (by subst ew22; rfl) (fun H locs hw => ?_)
        obtain ⟨v23, ev23⟩ : ∃ z : Int32, z = (l1 + (1 : Int32)) := ⟨_, rfl⟩
        have hf := lt_s_ hf v23 ev23
        refine lv_iinc (v := v23) (lv' := [(1, .int v23), (0, .ref (qm 0))]) hx hb dX7_solves_51 hl (k := 1) rfl (by rw [ev23]; rfl) (by decide) rfl (fun ls hl => ?_)
        refine lv_goto (tgt := 16) hx hb dX7_solves_54 (by decide) ?_
        exact ih v23 w18 w22 H locs ls hw (lv_sub hl [1, 0] rfl)  hf
set_option maxHeartbeats 4000000 in
set_option maxRecDepth 100000 in
theorem cMo_solves (l : Launch) (D : va_G) (κ : Nat → ClassId) (qm : Nat → Nat) (m_state m_tape : Nat → Int32) (m_taped m_fault m_broken m_brokenAt m_spot m_here m_token m_value : Int32) (m_ends m_letters m_moments m_stepsAt : Nat → Int32) (m_steps m_latest : Int32) (m_matrix m_sides m_tried m_answers : Nat → Int64) (m_rowOf : Nat → Int32) (m_whole : Int64) (m_shares m_isKept m_lanes m_lengths m_cells : Nat → Int32) (m_torn : Int32) (z1 z2 z3 z4 : Nat → Int64) (z5 : Nat → Int32) (z6 : Int64) (hf : FMo_solves m_state m_matrix m_sides m_tried m_answers m_rowOf = some (z1, z2, z3, z4, z5, z6)) : mV_ l yX7_solves (Cond.code yX7_solves cX7_solves 2 none :: uw) ({ frames := 4, cells := 0, slots := 0, locals := 89 } : Room) D (tys0 κ) [.ref (qm 0)] (List.flatten [pMo κ qm m_state m_tape m_taped m_fault m_broken m_brokenAt m_spot m_here m_token m_value m_ends m_letters m_moments m_stepsAt m_steps m_latest m_matrix m_sides m_tried m_answers m_rowOf m_whole m_shares m_isKept m_lanes m_lengths m_cells m_torn])  (List.flatten [pMo κ qm m_state m_tape m_taped m_fault m_broken m_brokenAt m_spot m_here m_token m_value m_ends m_letters m_moments m_stepsAt m_steps m_latest z1 z2 z3 z4 z5 z6 m_shares m_isKept m_lanes m_lengths m_cells m_torn]) := by
  unfold FMo_solves at hf
  refine mV_of (by decide) (Nat.le_of_ble_eq_true rfl) ?_
  intro p e s m below meth c A ls H locs C0 hw hl
  obtain ⟨hx, hb, -, hml, hown, hts, -, -⟩ := id C0
  have hl : lv_has ls 2 [(0, .ref (qm 0))] := hl
  refine lv_aload_n hx hb dX7_solves_0 rfl (lv_at hl 0 rfl) ?_
  obtain ⟨w1, w2, w3, hk4, hf⟩ := b3_s hf
  refine rv_v (vq := (RX7, TX7, 28)) (As := []) (rest := []) (bs' := [pMo κ qm m_state m_tape m_taped m_fault m_broken m_brokenAt m_spot m_here m_token m_value m_ends m_letters m_moments m_stepsAt m_steps m_latest w1 w2 m_tried m_answers w3 m_whole m_shares m_isKept m_lanes m_lengths m_cells m_torn]) C0 hw (cMo_equations l D κ qm m_state m_tape m_taped m_fault m_broken m_brokenAt m_spot m_here m_token m_value m_ends m_letters m_moments m_stepsAt m_steps m_latest m_matrix m_sides m_tried m_answers m_rowOf m_whole m_shares m_isKept m_lanes m_lengths m_cells m_torn w1 w2 w3 hk4) cv_RX7_228 ⟨rfl, rfl, Nat.le_of_ble_eq_true rfl, Nat.le_of_ble_eq_true rfl⟩ ⟨Nat.zero_le _, Nat.zero_le _⟩ [0] [] [0] rfl rfl rfl rfl (by decide) rfl rfl rfl rfl rfl hl.1 (by simp only [List.map, List.sum_cons, List.sum_nil, Value.category]; decide) dX7_solves_1 (fun H locs hw => ?_)
  refine lv_aload_n hx hb dX7_solves_4 rfl (lv_at hl 0 rfl) ?_
  refine lv_aload_n hx hb dX7_solves_5 rfl (lv_at hl 0 rfl) ?_
  refine lv_bipush (v := -4) hx hb dX7_solves_6 (by decide) ?_
  obtain ⟨r6, w7, hk8, hf⟩ := b2_s hf
  refine rv_l (vq := (RX7, TX7, 28)) (As := [.int (-4 : Int32)]) (rest := [.ref (qm 0)]) (bs' := [pMo κ qm m_state m_tape m_taped m_fault m_broken m_brokenAt m_spot m_here m_token m_value m_ends m_letters m_moments m_stepsAt m_steps m_latest w1 w2 w7 m_answers w3 m_whole m_shares m_isKept m_lanes m_lengths m_cells m_torn]) C0 hw (cMo_solved l D κ qm m_state m_tape m_taped m_fault m_broken m_brokenAt m_spot m_here m_token m_value m_ends m_letters m_moments m_stepsAt m_steps m_latest w1 w2 m_tried m_answers w3 m_whole m_shares m_isKept m_lanes m_lengths m_cells m_torn (-4 : Int32) r6 w7 hk8) cv_RX7_231 ⟨rfl, rfl, Nat.le_of_ble_eq_true rfl, Nat.le_of_ble_eq_true rfl⟩ ⟨Nat.zero_le _, Nat.zero_le _⟩ [0] [] [0] rfl rfl rfl rfl (by decide) rfl rfl rfl rfl rfl hl.1 (by simp only [List.map, List.sum_cons, List.sum_nil, Value.category]; decide) dX7_solves_8 (fun H locs hw => ?_)
  refine r_put C0 hw 0 21 (v := .long r6) (ws' := List.flatten [pMo κ qm m_state m_tape m_taped m_fault m_broken m_brokenAt m_spot m_here m_token m_value m_ends m_letters m_moments m_stepsAt m_steps m_latest w1 w2 w7 m_answers w3 r6 m_shares m_isKept m_lanes m_lengths m_cells m_torn]) rfl rfl inX7 tyX7_ok nmX7 (by decide) lk_X7_235 rfl rfl rfl rfl (Nat.le_of_ble_eq_true rfl) dX7_solves_11 rfl (fun H locs hw => ?_)
  refine lv_iconst (v := 0) hx hb dX7_solves_14 (by decide) ?_
  refine lv_istore_n (lv' := [(1, .int (0 : Int32)), (0, .ref (qm 0))]) hx hb dX7_solves_15 rfl hl (by decide) rfl (fun ls hl => ?_)
  exact wMo_solves_L16 C0 qm m_state m_tape m_taped m_fault m_broken m_brokenAt m_spot m_here m_token m_value m_ends m_letters m_moments m_stepsAt m_steps m_latest w1 w2 w3 r6 m_shares m_isKept m_lanes m_lengths m_cells m_torn z1 z2 z3 z4 z5 z6 1000 (0 : Int32) w7 m_answers H locs ls hw (lv_sub hl [1, 0] rfl)  hf
def FMo_down (a1 a2 : Int64) : Option (Int64) :=
  dl_ a2 <|
  lt_ (a1 / a2) fun v2 =>
  if (lg_cmp (v2 * a2) a1) ≤ 0 then
    some (v2)
  else
    some ((v2 - (1 : Int64)))
set_option maxHeartbeats 4000000 in
set_option maxRecDepth 100000 in
theorem cMo_down (l : Launch) (D : va_G) (κ : Nat → ClassId) (a1 a2 zr : Int64) (hf : FMo_down a1 a2 = some zr) : mL_ l yX7_down (Cond.code yX7_down cX7_down 6 (some .long) :: uw) ({ frames := 0, cells := 0, slots := 0, locals := 0 } : Room) D (tys0 κ) [.long a1, .long a2] (List.flatten ([] : List va_W)) zr (List.flatten ([] : List va_W)) := by
  unfold FMo_down at hf
  refine mL_of (by decide) (Nat.le_of_ble_eq_true rfl) ?_
  intro p e s m below meth c A ls H locs C0 hw hl
  obtain ⟨hx, hb, -, hml, hown, hts, -, -⟩ := id C0
  have hl : lv_has ls 6 [(0, .long a1), (2, .long a2)] := hl
  refine lv_lload_n hx hb dX7_down_0 rfl (lv_at hl 0 rfl) ?_
  refine lv_lload_n hx hb dX7_down_1 rfl (lv_at hl 1 rfl) ?_
  obtain ⟨hz1, hf⟩ := dl_s hf
  refine lv_ldiv hx hb dX7_down_2 hz1 ?_
  refine lv_topl (fun v2 ev2 => ?_)
  have hf := lt_s_ hf v2 ev2
  refine lv_lstore (lv' := [(4, .long v2), (0, .long a1), (2, .long a2)]) hx hb dX7_down_3 hl (by decide) rfl (fun ls hl => ?_)
  refine lv_lload hx hb dX7_down_5 (lv_at hl 0 rfl) ?_
  refine lv_lload_n hx hb dX7_down_7 rfl (lv_at hl 2 rfl) ?_
  refine lv_lmul hx hb dX7_down_8 ?_
  refine lv_lload_n hx hb dX7_down_9 rfl (lv_at hl 1 rfl) ?_
  refine W.lcmp hx hb dX7_down_10 ?_
  refine lv_if_le (tgt := 21) hx hb dX7_down_11 (by decide) (fun hc3 => ?_) (fun hc3 => ?_)
  · have hf := if_t hc3 hf
    refine lv_lload hx hb dX7_down_21 (lv_at hl 0 rfl) ?_
    obtain rfl := e1_ hf
    exact r_lret C0 hw dX7_down_23
  · have hf := if_f hc3 hf
    refine lv_lload hx hb dX7_down_14 (lv_at hl 0 rfl) ?_
    refine lv_lconst (v := 1) hx hb dX7_down_16 (by decide) ?_
    refine lv_lsub hx hb dX7_down_17 ?_
    refine lv_goto (tgt := 23) hx hb dX7_down_18 (by decide) ?_
    obtain rfl := e1_ hf
    exact r_lret C0 hw dX7_down_23
def FMo_sureOf (m_state : Nat → Int32) (m_matrix m_sides m_tried m_answers : Nat → Int64) (m_rowOf : Nat → Int32) (a1 : Int32) : Option (Int32 × (Nat → Int64) × (Nat → Int64) × (Nat → Int64) × (Nat → Int64) × (Nat → Int32) × Int64) :=
  b6_ (FMo_solves m_state m_matrix m_sides m_tried m_answers m_rowOf) fun w1 w2 w3 w4 w5 w6 =>
  b1_ (FMo_jointOf m_state a1) fun r9 =>
  gd_ r9 6 <|
  lt_ (w4 r9.toNatClampNeg) fun v13 =>
  b1_ (FMo_otherOf a1) fun r14 =>
  b1_ (FMo_jointOf m_state r14) fun r17 =>
  gd_ r17 6 <|
  lt_ (w4 r17.toNatClampNeg) fun v21 =>
  b1_ (FMo_down v13 w6) fun r22 =>
  b1_ (FMo_down v21 w6) fun r25 =>
  b1_ (FMo_stiffOf m_state a1) fun r28 =>
  lt_ ((2 : Int64) * (r28.toInt64)) fun v31 =>
  lt_ (v31 * (((2 : Int64) * (v13 - (r22 * w6))) + (v21 - (r25 * w6)))) fun v32 =>
  b1_ (FMo_firstOf m_state a1) fun r33 =>
  b1_ (FMo_down v32 w6) fun r36 =>
  some (((((r33.toInt64) + (v31 * (((2 : Int64) * r22) + r25))) + r36).toInt32), w1, w2, w3, w4, w5, w6)
set_option maxHeartbeats 4000000 in
set_option maxRecDepth 100000 in
theorem cMo_sureOf (l : Launch) (D : va_G) (κ : Nat → ClassId) (qm : Nat → Nat) (m_state m_tape : Nat → Int32) (m_taped m_fault m_broken m_brokenAt m_spot m_here m_token m_value : Int32) (m_ends m_letters m_moments m_stepsAt : Nat → Int32) (m_steps m_latest : Int32) (m_matrix m_sides m_tried m_answers : Nat → Int64) (m_rowOf : Nat → Int32) (m_whole : Int64) (m_shares m_isKept m_lanes m_lengths m_cells : Nat → Int32) (m_torn a1 zr : Int32) (z1 z2 z3 z4 : Nat → Int64) (z5 : Nat → Int32) (z6 : Int64) (hf : FMo_sureOf m_state m_matrix m_sides m_tried m_answers m_rowOf a1 = some (zr, z1, z2, z3, z4, z5, z6)) : mI_ l yX7_sureOf (Cond.code yX7_sureOf cX7_sureOf 14 (some .int) :: uw) ({ frames := 5, cells := 0, slots := 0, locals := 110 } : Room) D (tys0 κ) [.ref (qm 0), .int a1] (List.flatten [pMo κ qm m_state m_tape m_taped m_fault m_broken m_brokenAt m_spot m_here m_token m_value m_ends m_letters m_moments m_stepsAt m_steps m_latest m_matrix m_sides m_tried m_answers m_rowOf m_whole m_shares m_isKept m_lanes m_lengths m_cells m_torn]) nT_ zr (List.flatten [pMo κ qm m_state m_tape m_taped m_fault m_broken m_brokenAt m_spot m_here m_token m_value m_ends m_letters m_moments m_stepsAt m_steps m_latest z1 z2 z3 z4 z5 z6 m_shares m_isKept m_lanes m_lengths m_cells m_torn]) := by
  unfold FMo_sureOf at hf
  refine mI_of (by decide) (Nat.le_of_ble_eq_true rfl) ?_
  intro p e s m below meth c A ls H locs C0 hw hl
  obtain ⟨hx, hb, -, hml, hown, hts, -, -⟩ := id C0
  have hl : lv_has ls 14 [(0, .ref (qm 0)), (1, .int a1)] := hl
  refine lv_aload_n hx hb dX7_sureOf_0 rfl (lv_at hl 0 rfl) ?_
  obtain ⟨w1, w2, w3, w4, w5, w6, hk7, hf⟩ := b6_s hf
  refine rv_v (vq := (RX7, TX7, 28)) (As := []) (rest := []) (bs' := [pMo κ qm m_state m_tape m_taped m_fault m_broken m_brokenAt m_spot m_here m_token m_value m_ends m_letters m_moments m_stepsAt m_steps m_latest w1 w2 w3 w4 w5 w6 m_shares m_isKept m_lanes m_lengths m_cells m_torn]) C0 hw (cMo_solves l D κ qm m_state m_tape m_taped m_fault m_broken m_brokenAt m_spot m_here m_token m_value m_ends m_letters m_moments m_stepsAt m_steps m_latest m_matrix m_sides m_tried m_answers m_rowOf m_whole m_shares m_isKept m_lanes m_lengths m_cells m_torn w1 w2 w3 w4 w5 w6 hk7) cv_RX7_239 ⟨rfl, rfl, Nat.le_of_ble_eq_true rfl, Nat.le_of_ble_eq_true rfl⟩ ⟨Nat.zero_le _, Nat.zero_le _⟩ [0] [] [0] rfl rfl rfl rfl (by decide) rfl rfl rfl rfl rfl hl.1 (by simp only [List.map, List.sum_cons, List.sum_nil, Value.category]; decide) dX7_sureOf_1 (fun H locs hw => ?_)
  refine lv_aload_n hx hb dX7_sureOf_4 rfl (lv_at hl 0 rfl) ?_
  refine r_get C0 hw 0 19 (v := .ref (qm 10)) rfl rfl inX7 (by decide) lk_X7_42 rfl dX7_sureOf_5 ?_
  refine lv_aload_n hx hb dX7_sureOf_8 rfl (lv_at hl 0 rfl) ?_
  refine lv_iload_n hx hb dX7_sureOf_9 rfl (lv_at hl 1 rfl) ?_
  obtain ⟨r9, hk10, hf⟩ := b1_s hf
  refine rv_i (vq := (RX7, TX7, 28)) (As := [.int a1]) (rest := [.ref (qm 10)]) (bs' := [pMo κ qm m_state m_tape m_taped m_fault m_broken m_brokenAt m_spot m_here m_token m_value m_ends m_letters m_moments m_stepsAt m_steps m_latest w1 w2 w3 w4 w5 w6 m_shares m_isKept m_lanes m_lengths m_cells m_torn]) C0 hw (cMo_jointOf l D κ qm m_state m_tape m_taped m_fault m_broken m_brokenAt m_spot m_here m_token m_value m_ends m_letters m_moments m_stepsAt m_steps m_latest w1 w2 w3 w4 w5 w6 m_shares m_isKept m_lanes m_lengths m_cells m_torn a1 r9 hk10) cv_RX7_168 ⟨rfl, rfl, Nat.le_of_ble_eq_true rfl, Nat.le_of_ble_eq_true rfl⟩ ⟨Nat.zero_le _, Nat.zero_le _⟩ [0] [] [0] rfl rfl rfl rfl (by decide) rfl rfl rfl rfl rfl hl.1 (by simp only [List.map, List.sum_cons, List.sum_nil, Value.category]; decide) dX7_sureOf_10 (fun H locs hw hn11 => ?_)
  obtain ⟨hi12, hf⟩ := gd_s hf
  refine r_lald C0 hw 10 3 rfl rfl hi12 dX7_sureOf_13 ?_
  refine lv_topl (fun v13 ev13 => ?_)
  have hf := lt_s_ hf v13 ev13
  refine lv_lstore_n (lv' := [(2, .long v13), (0, .ref (qm 0)), (1, .int a1)]) hx hb dX7_sureOf_14 rfl hl (by decide) rfl (fun ls hl => ?_)
  refine lv_aload_n hx hb dX7_sureOf_15 rfl (lv_at hl 1 rfl) ?_
  refine r_get C0 hw 0 19 (v := .ref (qm 10)) rfl rfl inX7 (by decide) lk_X7_42 rfl dX7_sureOf_16 ?_
  refine lv_aload_n hx hb dX7_sureOf_19 rfl (lv_at hl 1 rfl) ?_
  refine lv_iload_n hx hb dX7_sureOf_20 rfl (lv_at hl 2 rfl) ?_
  obtain ⟨r14, hk15, hf⟩ := b1_s hf
  refine rs_i (As := [.int a1]) (rest := [.ref (qm 0), .ref (qm 10)]) (bs' := [pMo κ qm m_state m_tape m_taped m_fault m_broken m_brokenAt m_spot m_here m_token m_value m_ends m_letters m_moments m_stepsAt m_steps m_latest w1 w2 w3 w4 w5 w6 m_shares m_isKept m_lanes m_lengths m_cells m_torn]) C0 hw (cMo_otherOf l D κ a1 r14 hk15) cs_X7_219 ⟨rfl, rfl, Nat.le_of_ble_eq_true rfl, Nat.le_of_ble_eq_true rfl⟩ ⟨Nat.zero_le _, Nat.zero_le _⟩ [] [0] [0] rfl rfl rfl rfl (by decide) rfl rfl rfl hl.1 (by simp only [List.map, List.sum_cons, List.sum_nil, Value.category]; decide) dX7_sureOf_21 (fun H locs hw hn16 => ?_)
  obtain ⟨r17, hk18, hf⟩ := b1_s hf
  refine rv_i (vq := (RX7, TX7, 28)) (As := [.int r14]) (rest := [.ref (qm 10)]) (bs' := [pMo κ qm m_state m_tape m_taped m_fault m_broken m_brokenAt m_spot m_here m_token m_value m_ends m_letters m_moments m_stepsAt m_steps m_latest w1 w2 w3 w4 w5 w6 m_shares m_isKept m_lanes m_lengths m_cells m_torn]) C0 hw (cMo_jointOf l D κ qm m_state m_tape m_taped m_fault m_broken m_brokenAt m_spot m_here m_token m_value m_ends m_letters m_moments m_stepsAt m_steps m_latest w1 w2 w3 w4 w5 w6 m_shares m_isKept m_lanes m_lengths m_cells m_torn r14 r17 hk18) cv_RX7_168 ⟨rfl, rfl, Nat.le_of_ble_eq_true rfl, Nat.le_of_ble_eq_true rfl⟩ ⟨Nat.zero_le _, Nat.zero_le _⟩ [0] [] [0] rfl rfl rfl rfl (by decide) rfl rfl rfl rfl rfl hl.1 (by simp only [List.map, List.sum_cons, List.sum_nil, Value.category]; decide) dX7_sureOf_24 (fun H locs hw hn19 => ?_)
  obtain ⟨hi20, hf⟩ := gd_s hf
  refine r_lald C0 hw 10 3 rfl rfl hi20 dX7_sureOf_27 ?_
  refine lv_topl (fun v21 ev21 => ?_)
  have hf := lt_s_ hf v21 ev21
  refine lv_lstore (lv' := [(4, .long v21), (2, .long v13), (0, .ref (qm 0)), (1, .int a1)]) hx hb dX7_sureOf_28 hl (by decide) rfl (fun ls hl => ?_)
  refine lv_lload_n hx hb dX7_sureOf_30 rfl (lv_at hl 1 rfl) ?_
  refine lv_aload_n hx hb dX7_sureOf_31 rfl (lv_at hl 2 rfl) ?_
  refine r_get C0 hw 0 21 (v := .long w6) rfl rfl inX7 (by decide) lk_X7_235 rfl dX7_sureOf_32 ?_
  obtain ⟨r22, hk23, hf⟩ := b1_s hf
  refine rs_l (As := [.long v13, .long w6]) (rest := []) (bs' := [pMo κ qm m_state m_tape m_taped m_fault m_broken m_brokenAt m_spot m_here m_token m_value m_ends m_letters m_moments m_stepsAt m_steps m_latest w1 w2 w3 w4 w5 w6 m_shares m_isKept m_lanes m_lengths m_cells m_torn]) C0 hw (cMo_down l D κ v13 w6 r22 hk23) cs_X7_242 ⟨rfl, rfl, Nat.le_of_ble_eq_true rfl, Nat.le_of_ble_eq_true rfl⟩ ⟨Nat.zero_le _, Nat.zero_le _⟩ [] [0] [0] rfl rfl rfl rfl (by decide) rfl rfl rfl hl.1 (by simp only [List.map, List.sum_cons, List.sum_nil, Value.category]; decide) dX7_sureOf_35 (fun H locs hw => ?_)
  refine lv_lstore (lv' := [(6, .long r22), (4, .long v21), (2, .long v13), (0, .ref (qm 0)), (1, .int a1)]) hx hb dX7_sureOf_38 hl (by decide) rfl (fun ls hl => ?_)
  refine lv_lload hx hb dX7_sureOf_40 (lv_at hl 1 rfl) ?_
  refine lv_aload_n hx hb dX7_sureOf_42 rfl (lv_at hl 3 rfl) ?_
  refine r_get C0 hw 0 21 (v := .long w6) rfl rfl inX7 (by decide) lk_X7_235 rfl dX7_sureOf_43 ?_
  obtain ⟨r25, hk26, hf⟩ := b1_s hf
  refine rs_l (As := [.long v21, .long w6]) (rest := []) (bs' := [pMo κ qm m_state m_tape m_taped m_fault m_broken m_brokenAt m_spot m_here m_token m_value m_ends m_letters m_moments m_stepsAt m_steps m_latest w1 w2 w3 w4 w5 w6 m_shares m_isKept m_lanes m_lengths m_cells m_torn]) C0 hw (cMo_down l D κ v21 w6 r25 hk26) cs_X7_242 ⟨rfl, rfl, Nat.le_of_ble_eq_true rfl, Nat.le_of_ble_eq_true rfl⟩ ⟨Nat.zero_le _, Nat.zero_le _⟩ [] [0] [0] rfl rfl rfl rfl (by decide) rfl rfl rfl hl.1 (by simp only [List.map, List.sum_cons, List.sum_nil, Value.category]; decide) dX7_sureOf_46 (fun H locs hw => ?_)
  refine lv_lstore (lv' := [(8, .long r25), (6, .long r22), (4, .long v21), (2, .long v13), (0, .ref (qm 0)), (1, .int a1)]) hx hb dX7_sureOf_49 hl (by decide) rfl (fun ls hl => ?_)
  refine lv_ldc2 (v := 2) hx hb hown (hts _ kl_X7_222) dX7_sureOf_51 ?_
  refine lv_aload_n hx hb dX7_sureOf_54 rfl (lv_at hl 4 rfl) ?_
  refine lv_iload_n hx hb dX7_sureOf_55 rfl (lv_at hl 5 rfl) ?_
  obtain ⟨r28, hk29, hf⟩ := b1_s hf
  refine rv_i (vq := (RX7, TX7, 28)) (As := [.int a1]) (rest := [.long (2 : Int64)]) (bs' := [pMo κ qm m_state m_tape m_taped m_fault m_broken m_brokenAt m_spot m_here m_token m_value m_ends m_letters m_moments m_stepsAt m_steps m_latest w1 w2 w3 w4 w5 w6 m_shares m_isKept m_lanes m_lengths m_cells m_torn]) C0 hw (cMo_stiffOf l D κ qm m_state m_tape m_taped m_fault m_broken m_brokenAt m_spot m_here m_token m_value m_ends m_letters m_moments m_stepsAt m_steps m_latest w1 w2 w3 w4 w5 w6 m_shares m_isKept m_lanes m_lengths m_cells m_torn a1 r28 hk29) cv_RX7_171 ⟨rfl, rfl, Nat.le_of_ble_eq_true rfl, Nat.le_of_ble_eq_true rfl⟩ ⟨Nat.zero_le _, Nat.zero_le _⟩ [0] [] [0] rfl rfl rfl rfl (by decide) rfl rfl rfl rfl rfl hl.1 (by simp only [List.map, List.sum_cons, List.sum_nil, Value.category]; decide) dX7_sureOf_56 (fun H locs hw hn30 => ?_)
  refine lv_i2l hx hb dX7_sureOf_59 rfl ?_
  refine lv_lmul hx hb dX7_sureOf_60 ?_
  refine lv_topl (fun v31 ev31 => ?_)
  have hf := lt_s_ hf v31 ev31
  refine lv_lstore (lv' := [(10, .long v31), (8, .long r25), (6, .long r22), (4, .long v21), (2, .long v13), (0, .ref (qm 0)), (1, .int a1)]) hx hb dX7_sureOf_61 hl (by decide) rfl (fun ls hl => ?_)
  refine lv_lload hx hb dX7_sureOf_63 (lv_at hl 0 rfl) ?_
  refine lv_ldc2 (v := 2) hx hb hown (hts _ kl_X7_222) dX7_sureOf_65 ?_
  refine lv_lload_n hx hb dX7_sureOf_68 rfl (lv_at hl 4 rfl) ?_
  refine lv_lload hx hb dX7_sureOf_69 (lv_at hl 2 rfl) ?_
  refine lv_aload_n hx hb dX7_sureOf_71 rfl (lv_at hl 5 rfl) ?_
  refine r_get C0 hw 0 21 (v := .long w6) rfl rfl inX7 (by decide) lk_X7_235 rfl dX7_sureOf_72 ?_
  refine lv_lmul hx hb dX7_sureOf_75 ?_
  refine lv_lsub hx hb dX7_sureOf_76 ?_
  refine lv_lmul hx hb dX7_sureOf_77 ?_
  refine lv_lload hx hb dX7_sureOf_78 (lv_at hl 3 rfl) ?_
  refine lv_lload hx hb dX7_sureOf_80 (lv_at hl 1 rfl) ?_
  refine lv_aload_n hx hb dX7_sureOf_82 rfl (lv_at hl 5 rfl) ?_
  refine r_get C0 hw 0 21 (v := .long w6) rfl rfl inX7 (by decide) lk_X7_235 rfl dX7_sureOf_83 ?_
  refine lv_lmul hx hb dX7_sureOf_86 ?_
  refine lv_lsub hx hb dX7_sureOf_87 ?_
  refine lv_ladd hx hb dX7_sureOf_88 ?_
  refine lv_lmul hx hb dX7_sureOf_89 ?_
  refine lv_topl (fun v32 ev32 => ?_)
  have hf := lt_s_ hf v32 ev32
  refine lv_lstore (lv' := [(12, .long v32), (10, .long v31), (8, .long r25), (6, .long r22), (4, .long v21), (2, .long v13), (0, .ref (qm 0)), (1, .int a1)]) hx hb dX7_sureOf_90 hl (by decide) rfl (fun ls hl => ?_)
  refine lv_aload_n hx hb dX7_sureOf_92 rfl (lv_at hl 6 rfl) ?_
  refine lv_iload_n hx hb dX7_sureOf_93 rfl (lv_at hl 7 rfl) ?_
  obtain ⟨r33, hk34, hf⟩ := b1_s hf
  refine rv_i (vq := (RX7, TX7, 28)) (As := [.int a1]) (rest := []) (bs' := [pMo κ qm m_state m_tape m_taped m_fault m_broken m_brokenAt m_spot m_here m_token m_value m_ends m_letters m_moments m_stepsAt m_steps m_latest w1 w2 w3 w4 w5 w6 m_shares m_isKept m_lanes m_lengths m_cells m_torn]) C0 hw (cMo_firstOf l D κ qm m_state m_tape m_taped m_fault m_broken m_brokenAt m_spot m_here m_token m_value m_ends m_letters m_moments m_stepsAt m_steps m_latest w1 w2 w3 w4 w5 w6 m_shares m_isKept m_lanes m_lengths m_cells m_torn a1 r33 hk34) cv_RX7_165 ⟨rfl, rfl, Nat.le_of_ble_eq_true rfl, Nat.le_of_ble_eq_true rfl⟩ ⟨Nat.zero_le _, Nat.zero_le _⟩ [0] [] [0] rfl rfl rfl rfl (by decide) rfl rfl rfl rfl rfl hl.1 (by simp only [List.map, List.sum_cons, List.sum_nil, Value.category]; decide) dX7_sureOf_94 (fun H locs hw hn35 => ?_)
  refine lv_i2l hx hb dX7_sureOf_97 rfl ?_
  refine lv_lload hx hb dX7_sureOf_98 (lv_at hl 1 rfl) ?_
  refine lv_ldc2 (v := 2) hx hb hown (hts _ kl_X7_222) dX7_sureOf_100 ?_
  refine lv_lload hx hb dX7_sureOf_103 (lv_at hl 3 rfl) ?_
  refine lv_lmul hx hb dX7_sureOf_105 ?_
  refine lv_lload hx hb dX7_sureOf_106 (lv_at hl 2 rfl) ?_
  refine lv_ladd hx hb dX7_sureOf_108 ?_
  refine lv_lmul hx hb dX7_sureOf_109 ?_
  refine lv_ladd hx hb dX7_sureOf_110 ?_
  refine lv_lload hx hb dX7_sureOf_111 (lv_at hl 0 rfl) ?_
  refine lv_aload_n hx hb dX7_sureOf_113 rfl (lv_at hl 6 rfl) ?_
  refine r_get C0 hw 0 21 (v := .long w6) rfl rfl inX7 (by decide) lk_X7_235 rfl dX7_sureOf_114 ?_
  obtain ⟨r36, hk37, hf⟩ := b1_s hf
  refine rs_l (As := [.long v32, .long w6]) (rest := [.long ((r33.toInt64) + (v31 * (((2 : Int64) * r22) + r25)))]) (bs' := [pMo κ qm m_state m_tape m_taped m_fault m_broken m_brokenAt m_spot m_here m_token m_value m_ends m_letters m_moments m_stepsAt m_steps m_latest w1 w2 w3 w4 w5 w6 m_shares m_isKept m_lanes m_lengths m_cells m_torn]) C0 hw (cMo_down l D κ v32 w6 r36 hk37) cs_X7_242 ⟨rfl, rfl, Nat.le_of_ble_eq_true rfl, Nat.le_of_ble_eq_true rfl⟩ ⟨Nat.zero_le _, Nat.zero_le _⟩ [] [0] [0] rfl rfl rfl rfl (by decide) rfl rfl rfl hl.1 (by simp only [List.map, List.sum_cons, List.sum_nil, Value.category]; decide) dX7_sureOf_117 (fun H locs hw => ?_)
  refine lv_ladd hx hb dX7_sureOf_120 ?_
  refine lv_l2i hx hb dX7_sureOf_121 rfl ?_
  obtain ⟨rfl, rfl, rfl, rfl, rfl, rfl, rfl⟩ := e7_ hf
  exact r_iret C0 hw trivial dX7_sureOf_122
def FMo_moment (m_state m_moments : Nat → Int32) (m_matrix m_sides m_tried m_answers : Nat → Int64) (m_rowOf : Nat → Int32) (m_whole : Int64) (a1 a2 : Int32) : Option (Int32 × (Nat → Int64) × (Nat → Int64) × (Nat → Int64) × (Nat → Int64) × (Nat → Int32) × Int64) :=
  b1_ (FMo_isEnd m_state a1) fun r1 =>
  if r1 = 0 then
    some ((2000000000 : Int32), m_matrix, m_sides, m_tried, m_answers, m_rowOf, m_whole)
  else
    b1_ (FMo_in (a2.toInt64) (0 : Int64) (3 : Int64)) fun r5 =>
    if r5 = 0 then
      some ((2000000000 : Int32), m_matrix, m_sides, m_tried, m_answers, m_rowOf, m_whole)
    else
      if a2 = 0 then
        b1_ (FMo_firstOf m_state a1) fun r10 =>
        some (r10, m_matrix, m_sides, m_tried, m_answers, m_rowOf, m_whole)
      else
      if a2 = 1 then
        gd_ a1 20 <|
        some ((m_moments a1.toNatClampNeg), m_matrix, m_sides, m_tried, m_answers, m_rowOf, m_whole)
      else
      if a2 = 2 then
        b7_ (FMo_sureOf m_state m_matrix m_sides m_tried m_answers m_rowOf a1) fun r16 w17 w18 w19 w20 w21 w22 =>
        some (r16, w17, w18, w19, w20, w21, w22)
      else
      gd_ a1 20 <|
      b7_ (FMo_sureOf m_state m_matrix m_sides m_tried m_answers m_rowOf a1) fun r26 w27 w28 w29 w30 w31 w32 =>
      some (((m_moments a1.toNatClampNeg) - r26), w27, w28, w29, w30, w31, w32)
set_option maxHeartbeats 4000000 in
set_option maxRecDepth 100000 in
theorem cMo_moment (l : Launch) (D : va_G) (κ : Nat → ClassId) (qm : Nat → Nat) (m_state m_tape : Nat → Int32) (m_taped m_fault m_broken m_brokenAt m_spot m_here m_token m_value : Int32) (m_ends m_letters m_moments m_stepsAt : Nat → Int32) (m_steps m_latest : Int32) (m_matrix m_sides m_tried m_answers : Nat → Int64) (m_rowOf : Nat → Int32) (m_whole : Int64) (m_shares m_isKept m_lanes m_lengths m_cells : Nat → Int32) (m_torn a1 a2 zr : Int32) (z1 z2 z3 z4 : Nat → Int64) (z5 : Nat → Int32) (z6 : Int64) (hf : FMo_moment m_state m_moments m_matrix m_sides m_tried m_answers m_rowOf m_whole a1 a2 = some (zr, z1, z2, z3, z4, z5, z6)) : mI_ l yX7_moment (Cond.code yX7_moment cX7_moment 3 (some .int) :: uw) ({ frames := 6, cells := 0, slots := 0, locals := 143 } : Room) D (tys0 κ) [.ref (qm 0), .int a1, .int a2] (List.flatten [pMo κ qm m_state m_tape m_taped m_fault m_broken m_brokenAt m_spot m_here m_token m_value m_ends m_letters m_moments m_stepsAt m_steps m_latest m_matrix m_sides m_tried m_answers m_rowOf m_whole m_shares m_isKept m_lanes m_lengths m_cells m_torn]) nT_ zr (List.flatten [pMo κ qm m_state m_tape m_taped m_fault m_broken m_brokenAt m_spot m_here m_token m_value m_ends m_letters m_moments m_stepsAt m_steps m_latest z1 z2 z3 z4 z5 z6 m_shares m_isKept m_lanes m_lengths m_cells m_torn]) := by
  unfold FMo_moment at hf
  refine mI_of (by decide) (Nat.le_of_ble_eq_true rfl) ?_
  intro p e s m below meth c A ls H locs C0 hw hl
  obtain ⟨hx, hb, -, hml, hown, hts, -, -⟩ := id C0
  have hl : lv_has ls 3 [(0, .ref (qm 0)), (1, .int a1), (2, .int a2)] := hl
  refine lv_aload_n hx hb dX7_moment_0 rfl (lv_at hl 0 rfl) ?_
  refine lv_iload_n hx hb dX7_moment_1 rfl (lv_at hl 1 rfl) ?_
  obtain ⟨r1, hk2, hf⟩ := b1_s hf
  refine rv_i (vq := (RX7, TX7, 28)) (As := [.int a1]) (rest := []) (bs' := [pMo κ qm m_state m_tape m_taped m_fault m_broken m_brokenAt m_spot m_here m_token m_value m_ends m_letters m_moments m_stepsAt m_steps m_latest m_matrix m_sides m_tried m_answers m_rowOf m_whole m_shares m_isKept m_lanes m_lengths m_cells m_torn]) C0 hw (cMo_isEnd l D κ qm m_state m_tape m_taped m_fault m_broken m_brokenAt m_spot m_here m_token m_value m_ends m_letters m_moments m_stepsAt m_steps m_latest m_matrix m_sides m_tried m_answers m_rowOf m_whole m_shares m_isKept m_lanes m_lengths m_cells m_torn a1 r1 hk2) cv_RX7_246 ⟨rfl, rfl, Nat.le_of_ble_eq_true rfl, Nat.le_of_ble_eq_true rfl⟩ ⟨Nat.zero_le _, Nat.zero_le _⟩ [0] [] [0] rfl rfl rfl rfl (by decide) rfl rfl rfl rfl rfl hl.1 (by simp only [List.map, List.sum_cons, List.sum_nil, Value.category]; decide) dX7_moment_2 (fun H locs hw hn3 => ?_)
  refine lv_if_eq (tgt := 20) hx hb dX7_moment_5 (by decide) (fun hc4 => ?_) (fun hc4 => ?_)
  · have hf := if_t hc4 hf
    refine lv_ldc (v := 2000000000) hx hb hown (hts _ kc_X7_204) dX7_moment_20 ?_
    obtain ⟨rfl, rfl, rfl, rfl, rfl, rfl, rfl⟩ := e7_ hf
    exact r_iret C0 hw trivial dX7_moment_22
  · have hf := if_f hc4 hf
    refine lv_iload_n hx hb dX7_moment_8 rfl (lv_at hl 2 rfl) ?_
    refine lv_i2l hx hb dX7_moment_9 rfl ?_
    refine lv_lconst (v := 0) hx hb dX7_moment_10 (by decide) ?_
    refine lv_ldc2 (v := 3) hx hb hown (hts _ kl_X7_249) dX7_moment_11 ?_
    obtain ⟨r5, hk6, hf⟩ := b1_s hf
    refine rs_i (As := [.long (a2.toInt64), .long (0 : Int64), .long (3 : Int64)]) (rest := []) (bs' := [pMo κ qm m_state m_tape m_taped m_fault m_broken m_brokenAt m_spot m_here m_token m_value m_ends m_letters m_moments m_stepsAt m_steps m_latest m_matrix m_sides m_tried m_answers m_rowOf m_whole m_shares m_isKept m_lanes m_lengths m_cells m_torn]) C0 hw (cMo_in l D κ (a2.toInt64) (0 : Int64) (3 : Int64) r5 hk6) cs_X7_66 ⟨rfl, rfl, Nat.le_of_ble_eq_true rfl, Nat.le_of_ble_eq_true rfl⟩ ⟨Nat.zero_le _, Nat.zero_le _⟩ [] [0] [0] rfl rfl rfl rfl (by decide) rfl rfl rfl hl.1 (by simp only [List.map, List.sum_cons, List.sum_nil, Value.category]; decide) dX7_moment_14 (fun H locs hw hn7 => ?_)
    refine lv_if_ne (tgt := 23) hx hb dX7_moment_17 (by decide) (fun hc8 => ?_) (fun hc8 => ?_)
    · have hf := if_f hc8 hf
      refine lv_iload_n hx hb dX7_moment_23 rfl (lv_at hl 2 rfl) ?_
      by_cases hc9 : a2 = 0
      · have hf := if_t hc9 hf
        refine lv_tableIn (tgt := 52) hx hb dX7_moment_24 (by rw [hc9]; decide) (by rw [hc9]; decide) (by rw [hc9]; rfl) (by decide) ?_
        refine lv_aload_n hx hb dX7_moment_52 rfl (lv_at hl 0 rfl) ?_
        refine lv_iload_n hx hb dX7_moment_53 rfl (lv_at hl 1 rfl) ?_
        obtain ⟨r10, hk11, hf⟩ := b1_s hf
        refine rv_i (vq := (RX7, TX7, 28)) (As := [.int a1]) (rest := []) (bs' := [pMo κ qm m_state m_tape m_taped m_fault m_broken m_brokenAt m_spot m_here m_token m_value m_ends m_letters m_moments m_stepsAt m_steps m_latest m_matrix m_sides m_tried m_answers m_rowOf m_whole m_shares m_isKept m_lanes m_lengths m_cells m_torn]) C0 hw (cMo_firstOf l D κ qm m_state m_tape m_taped m_fault m_broken m_brokenAt m_spot m_here m_token m_value m_ends m_letters m_moments m_stepsAt m_steps m_latest m_matrix m_sides m_tried m_answers m_rowOf m_whole m_shares m_isKept m_lanes m_lengths m_cells m_torn a1 r10 hk11) cv_RX7_165 ⟨rfl, rfl, Nat.le_of_ble_eq_true rfl, Nat.le_of_ble_eq_true rfl⟩ ⟨Nat.zero_le _, Nat.zero_le _⟩ [0] [] [0] rfl rfl rfl rfl (by decide) rfl rfl rfl rfl rfl hl.1 (by simp only [List.map, List.sum_cons, List.sum_nil, Value.category]; decide) dX7_moment_54 (fun H locs hw hn12 => ?_)
        obtain ⟨rfl, rfl, rfl, rfl, rfl, rfl, rfl⟩ := e7_ hf
        exact r_iret C0 hw trivial dX7_moment_57
      have hf := if_f hc9 hf
      by_cases hc13 : a2 = 1
      · have hf := if_t hc13 hf
        refine lv_tableIn (tgt := 58) hx hb dX7_moment_24 (by rw [hc13]; decide) (by rw [hc13]; decide) (by rw [hc13]; rfl) (by decide) ?_
        refine lv_aload_n hx hb dX7_moment_58 rfl (lv_at hl 0 rfl) ?_
        refine r_get C0 hw 0 12 (v := .ref (qm 5)) rfl rfl inX7 (by decide) lk_X7_22 rfl dX7_moment_59 ?_
        refine lv_iload_n hx hb dX7_moment_62 rfl (lv_at hl 1 rfl) ?_
        obtain ⟨hi14, hf⟩ := gd_s hf
        refine r_iald C0 hw 5 0 rfl rfl hi14 dX7_moment_63 ?_
        obtain ⟨rfl, rfl, rfl, rfl, rfl, rfl, rfl⟩ := e7_ hf
        exact r_iret C0 hw trivial dX7_moment_64
      have hf := if_f hc13 hf
      by_cases hc15 : a2 = 2
      · have hf := if_t hc15 hf
        refine lv_tableIn (tgt := 65) hx hb dX7_moment_24 (by rw [hc15]; decide) (by rw [hc15]; decide) (by rw [hc15]; rfl) (by decide) ?_
        refine lv_aload_n hx hb dX7_moment_65 rfl (lv_at hl 0 rfl) ?_
        refine lv_iload_n hx hb dX7_moment_66 rfl (lv_at hl 1 rfl) ?_
        obtain ⟨r16, w17, w18, w19, w20, w21, w22, hk23, hf⟩ := b7_s hf
        refine rv_i (vq := (RX7, TX7, 28)) (As := [.int a1]) (rest := []) (bs' := [pMo κ qm m_state m_tape m_taped m_fault m_broken m_brokenAt m_spot m_here m_token m_value m_ends m_letters m_moments m_stepsAt m_steps m_latest w17 w18 w19 w20 w21 w22 m_shares m_isKept m_lanes m_lengths m_cells m_torn]) C0 hw (cMo_sureOf l D κ qm m_state m_tape m_taped m_fault m_broken m_brokenAt m_spot m_here m_token m_value m_ends m_letters m_moments m_stepsAt m_steps m_latest m_matrix m_sides m_tried m_answers m_rowOf m_whole m_shares m_isKept m_lanes m_lengths m_cells m_torn a1 r16 w17 w18 w19 w20 w21 w22 hk23) cv_RX7_251 ⟨rfl, rfl, Nat.le_of_ble_eq_true rfl, Nat.le_of_ble_eq_true rfl⟩ ⟨Nat.zero_le _, Nat.zero_le _⟩ [0] [] [0] rfl rfl rfl rfl (by decide) rfl rfl rfl rfl rfl hl.1 (by simp only [List.map, List.sum_cons, List.sum_nil, Value.category]; decide) dX7_moment_67 (fun H locs hw hn24 => ?_)
        obtain ⟨rfl, rfl, rfl, rfl, rfl, rfl, rfl⟩ := e7_ hf
        exact r_iret C0 hw trivial dX7_moment_70
      have hf := if_f hc15 hf
      have hc9 := lv_neT (a := 0) hc9 (by decide)
      have hc13 := lv_neT (a := 1) hc13 (by decide)
      have hc15 := lv_neT (a := 2) hc15 (by decide)
      refine lv_tableOut (tgt := 71) hx hb dX7_moment_24 (by omega) (by decide) ?_
      refine lv_aload_n hx hb dX7_moment_71 rfl (lv_at hl 0 rfl) ?_
      refine r_get C0 hw 0 12 (v := .ref (qm 5)) rfl rfl inX7 (by decide) lk_X7_22 rfl dX7_moment_72 ?_
      refine lv_iload_n hx hb dX7_moment_75 rfl (lv_at hl 1 rfl) ?_
      obtain ⟨hi25, hf⟩ := gd_s hf
      refine r_iald C0 hw 5 0 rfl rfl hi25 dX7_moment_76 ?_
      refine lv_aload_n hx hb dX7_moment_77 rfl (lv_at hl 0 rfl) ?_
      refine lv_iload_n hx hb dX7_moment_78 rfl (lv_at hl 1 rfl) ?_
      obtain ⟨r26, w27, w28, w29, w30, w31, w32, hk33, hf⟩ := b7_s hf
      refine rv_i (vq := (RX7, TX7, 28)) (As := [.int a1]) (rest := [.int (m_moments a1.toNatClampNeg)]) (bs' := [pMo κ qm m_state m_tape m_taped m_fault m_broken m_brokenAt m_spot m_here m_token m_value m_ends m_letters m_moments m_stepsAt m_steps m_latest w27 w28 w29 w30 w31 w32 m_shares m_isKept m_lanes m_lengths m_cells m_torn]) C0 hw (cMo_sureOf l D κ qm m_state m_tape m_taped m_fault m_broken m_brokenAt m_spot m_here m_token m_value m_ends m_letters m_moments m_stepsAt m_steps m_latest m_matrix m_sides m_tried m_answers m_rowOf m_whole m_shares m_isKept m_lanes m_lengths m_cells m_torn a1 r26 w27 w28 w29 w30 w31 w32 hk33) cv_RX7_251 ⟨rfl, rfl, Nat.le_of_ble_eq_true rfl, Nat.le_of_ble_eq_true rfl⟩ ⟨Nat.zero_le _, Nat.zero_le _⟩ [0] [] [0] rfl rfl rfl rfl (by decide) rfl rfl rfl rfl rfl hl.1 (by simp only [List.map, List.sum_cons, List.sum_nil, Value.category]; decide) dX7_moment_79 (fun H locs hw hn34 => ?_)
      refine lv_isub hx hb dX7_moment_82 ?_
      obtain ⟨rfl, rfl, rfl, rfl, rfl, rfl, rfl⟩ := e7_ hf
      exact r_iret C0 hw trivial dX7_moment_83
    · have hf := if_t hc8 hf
      refine lv_ldc (v := 2000000000) hx hb hown (hts _ kc_X7_204) dX7_moment_20 ?_
      obtain ⟨rfl, rfl, rfl, rfl, rfl, rfl, rfl⟩ := e7_ hf
      exact r_iret C0 hw trivial dX7_moment_22
def FMo_nextStiff_L18 (m_state : Nat → Int32) (l1 l3 : Int32) (k_ : Int32 → Int32 → Option (Int32)) : Nat → Int32 → Int32 → Option (Int32)
  | 0, _, _ => none
  | n + 1, l4, l5 =>
      b1_ (FMo_beams m_state) fun r5 =>
      if ((2 : Int32) * r5) ≤ l5 then
        k_ l4 l5
      else
        b1_ (FMo_stiffOf m_state l5) fun r9 =>
        b1_ (FMo_stiffOf m_state l3) fun r12 =>
        lt_ (fun (v15 : Int32) =>
          b1_ (FMo_jointOf m_state l5) fun r16 =>
          if r16 = l1 then
            if v15 = 0 then
              lt_ (l4 + (0 : Int32)) fun v23 =>
              lt_ (l5 + (1 : Int32)) fun v24 =>
              FMo_nextStiff_L18 m_state l1 l3 k_ n v23 v24
            else
              lt_ (l4 + (1 : Int32)) fun v25 =>
              lt_ (l5 + (1 : Int32)) fun v26 =>
              FMo_nextStiff_L18 m_state l1 l3 k_ n v25 v26
          else
            lt_ (l4 + (0 : Int32)) fun v20 =>
            lt_ (l5 + (1 : Int32)) fun v21 =>
            FMo_nextStiff_L18 m_state l1 l3 k_ n v20 v21 : Int32 → Option (Int32)) fun j27 =>
        lt_ (fun (_ : Unit) =>
          j27 (1 : Int32) : Unit → Option (Int32)) fun j29 =>
        if r12 < r9 then
          j29 ()
        else
          b1_ (FMo_stiffOf m_state l5) fun r32 =>
          b1_ (FMo_stiffOf m_state l3) fun r35 =>
          lt_ (fun (_ : Unit) =>
            j27 (0 : Int32) : Unit → Option (Int32)) fun j38 =>
          if r32 = r35 then
            if l3 ≤ l5 then
              j38 ()
            else
              j29 ()
          else
            j38 ()
def FMo_nextStiff_L2 (m_state : Nat → Int32) (l1 l2 : Int32) : Nat → Int32 → Option (Int32)
  | 0, _ => none
  | n + 1, l3 =>
      b1_ (FMo_beams m_state) fun r1 =>
      if ((2 : Int32) * r1) ≤ l3 then
        some ((0 : Int32))
      else
        FMo_nextStiff_L18 m_state l1 l3 (fun (v43 : Int32) (v44 : Int32) =>
            b1_ (FMo_jointOf m_state l3) fun r45 =>
            if r45 = l1 then
              if v43 = l2 then
                some (l3)
              else
                lt_ (l3 + (1 : Int32)) fun v51 =>
                FMo_nextStiff_L2 m_state l1 l2 n v51
            else
              lt_ (l3 + (1 : Int32)) fun v49 =>
              FMo_nextStiff_L2 m_state l1 l2 n v49) 1000 (0 : Int32) (0 : Int32)
def FMo_nextStiff (m_state : Nat → Int32) (a1 a2 : Int32) : Option (Int32) :=
  FMo_nextStiff_L2 m_state a1 a2 1000 (0 : Int32)
set_option maxHeartbeats 4000000 in
set_option maxRecDepth 100000 in
theorem wMo_nextStiff_L18 {p : Program} {l : Launch} {e : Env} {s : State} {m : MethodId} {args : Array Value} {below : List Frame} {meth : Method} {c : Code} {A : Nat → Prop} {D : va_G} {κ : Nat → ClassId} (C0 : cx_ p s m meth c args cX7_nextStiff RX7 (some .int) 7 A) (qm : Nat → Nat) (m_state m_tape : Nat → Int32) (m_taped m_fault m_broken m_brokenAt m_spot m_here m_token m_value : Int32) (m_ends m_letters m_moments m_stepsAt : Nat → Int32) (m_steps m_latest : Int32) (m_matrix m_sides m_tried m_answers : Nat → Int64) (m_rowOf : Nat → Int32) (m_whole : Int64) (m_shares m_isKept m_lanes m_lengths m_cells : Nat → Int32) (m_torn l1 l2 l3 : Int32) (zr : Int32) (k_ : Int32 → Int32 → Option (Int32)) (hk_ : ∀ (l4 : Int32) (l5 : Int32) (H : Heap) (locs : List Loc) (ls : Array Slot), wd_ D (tys0 κ) A s (List.flatten [pMo κ qm m_state m_tape m_taped m_fault m_broken m_brokenAt m_spot m_here m_token m_value m_ends m_letters m_moments m_stepsAt m_steps m_latest m_matrix m_sides m_tried m_answers m_rowOf m_whole m_shares m_isKept m_lanes m_lengths m_cells m_torn]) H locs → lv_has ls 7 [(0, .ref (qm 0)), (1, .int l1), (2, .int l2), (3, .int l3), (4, .int l4)] → k_ l4 l5 = some zr → W p l e ({ frames := 1, cells := 0, slots := 0, locals := 21 } : Room) s m args below meth c H locs 0 0 (qI_ D (tys0 κ) A nT_ zr (List.flatten [pMo κ qm m_state m_tape m_taped m_fault m_broken m_brokenAt m_spot m_here m_token m_value m_ends m_letters m_moments m_stepsAt m_steps m_latest m_matrix m_sides m_tried m_answers m_rowOf m_whole m_shares m_isKept m_lanes m_lengths m_cells m_torn]) below args s) (F0 m 101 ls [])) : ∀ (n : Nat) (l4 : Int32) (l5 : Int32) (H : Heap) (locs : List Loc) (ls : Array Slot), wd_ D (tys0 κ) A s (List.flatten [pMo κ qm m_state m_tape m_taped m_fault m_broken m_brokenAt m_spot m_here m_token m_value m_ends m_letters m_moments m_stepsAt m_steps m_latest m_matrix m_sides m_tried m_answers m_rowOf m_whole m_shares m_isKept m_lanes m_lengths m_cells m_torn]) H locs → lv_has ls 7 [(0, .ref (qm 0)), (1, .int l1), (2, .int l2), (3, .int l3), (4, .int l4), (5, .int l5)] → FMo_nextStiff_L18 m_state l1 l3 k_ n l4 l5 = some zr → W p l e ({ frames := 1, cells := 0, slots := 0, locals := 21 } : Room) s m args below meth c H locs 0 0 (qI_ D (tys0 κ) A nT_ zr (List.flatten [pMo κ qm m_state m_tape m_taped m_fault m_broken m_brokenAt m_spot m_here m_token m_value m_ends m_letters m_moments m_stepsAt m_steps m_latest m_matrix m_sides m_tried m_answers m_rowOf m_whole m_shares m_isKept m_lanes m_lengths m_cells m_torn]) below args s) (F0 m 18 ls []) := by
  obtain ⟨hx, hb, -, hml, hown, hts, -, -⟩ := id C0
  intro n
  induction n with
  | zero =>
    intro l4 l5 H locs ls hw hl  hf
    cases hf
  | succ n ih =>
    intro l4 l5 H locs ls hw hl  hf
    rw [FMo_nextStiff_L18.eq_2] at hf
    refine lv_iload hx hb dX7_nextStiff_18 (lv_at hl 5 rfl) ?_
    refine lv_iconst (v := 2) hx hb dX7_nextStiff_20 (by decide) ?_
    refine lv_aload_n hx hb dX7_nextStiff_21 rfl (lv_at hl 0 rfl) ?_
    obtain ⟨r5, hk6, hf⟩ := b1_s hf
    refine rv_i (vq := (RX7, TX7, 28)) (As := []) (rest := [.int (2 : Int32), .int l5]) (bs' := [pMo κ qm m_state m_tape m_taped m_fault m_broken m_brokenAt m_spot m_here m_token m_value m_ends m_letters m_moments m_stepsAt m_steps m_latest m_matrix m_sides m_tried m_answers m_rowOf m_whole m_shares m_isKept m_lanes m_lengths m_cells m_torn]) C0 hw (cMo_beams l D κ qm m_state m_tape m_taped m_fault m_broken m_brokenAt m_spot m_here m_token m_value m_ends m_letters m_moments m_stepsAt m_steps m_latest m_matrix m_sides m_tried m_answers m_rowOf m_whole m_shares m_isKept m_lanes m_lengths m_cells m_torn r5 hk6) cv_RX7_162 ⟨rfl, rfl, Nat.le_of_ble_eq_true rfl, Nat.le_of_ble_eq_true rfl⟩ ⟨Nat.zero_le _, Nat.zero_le _⟩ [0] [] [0] rfl rfl rfl rfl (by decide) rfl rfl rfl rfl rfl hl.1 (by simp only [List.map, List.sum_cons, List.sum_nil, Value.category]; decide) dX7_nextStiff_22 (fun H locs hw hn7 => ?_)
    refine lv_imul hx hb dX7_nextStiff_25 ?_
    refine lv_icmp_ge (tgt := 101) hx hb dX7_nextStiff_26 (by decide) (fun hc8 => ?_) (fun hc8 => ?_)
    · have hf := if_t hc8 hf
      exact hk_ l4 l5 H locs ls hw (lv_sub hl [0, 1, 2, 3, 4] rfl)  hf
    · have hf := if_f hc8 hf
      refine lv_aload_n hx hb dX7_nextStiff_29 rfl (lv_at hl 0 rfl) ?_
      refine lv_iload hx hb dX7_nextStiff_30 (lv_at hl 5 rfl) ?_
      obtain ⟨r9, hk10, hf⟩ := b1_s hf
      refine rv_i (vq := (RX7, TX7, 28)) (As := [.int l5]) (rest := []) (bs' := [pMo κ qm m_state m_tape m_taped m_fault m_broken m_brokenAt m_spot m_here m_token m_value m_ends m_letters m_moments m_stepsAt m_steps m_latest m_matrix m_sides m_tried m_answers m_rowOf m_whole m_shares m_isKept m_lanes m_lengths m_cells m_torn]) C0 hw (cMo_stiffOf l D κ qm m_state m_tape m_taped m_fault m_broken m_brokenAt m_spot m_here m_token m_value m_ends m_letters m_moments m_stepsAt m_steps m_latest m_matrix m_sides m_tried m_answers m_rowOf m_whole m_shares m_isKept m_lanes m_lengths m_cells m_torn l5 r9 hk10) cv_RX7_171 ⟨rfl, rfl, Nat.le_of_ble_eq_true rfl, Nat.le_of_ble_eq_true rfl⟩ ⟨Nat.zero_le _, Nat.zero_le _⟩ [0] [] [0] rfl rfl rfl rfl (by decide) rfl rfl rfl rfl rfl hl.1 (by simp only [List.map, List.sum_cons, List.sum_nil, Value.category]; decide) dX7_nextStiff_32 (fun H locs hw hn11 => ?_)
      refine lv_aload_n hx hb dX7_nextStiff_35 rfl (lv_at hl 0 rfl) ?_
      refine lv_iload_n hx hb dX7_nextStiff_36 rfl (lv_at hl 3 rfl) ?_
      obtain ⟨r12, hk13, hf⟩ := b1_s hf
      refine rv_i (vq := (RX7, TX7, 28)) (As := [.int l3]) (rest := [.int r9]) (bs' := [pMo κ qm m_state m_tape m_taped m_fault m_broken m_brokenAt m_spot m_here m_token m_value m_ends m_letters m_moments m_stepsAt m_steps m_latest m_matrix m_sides m_tried m_answers m_rowOf m_whole m_shares m_isKept m_lanes m_lengths m_cells m_torn]) C0 hw (cMo_stiffOf l D κ qm m_state m_tape m_taped m_fault m_broken m_brokenAt m_spot m_here m_token m_value m_ends m_letters m_moments m_stepsAt m_steps m_latest m_matrix m_sides m_tried m_answers m_rowOf m_whole m_shares m_isKept m_lanes m_lengths m_cells m_torn l3 r12 hk13) cv_RX7_171 ⟨rfl, rfl, Nat.le_of_ble_eq_true rfl, Nat.le_of_ble_eq_true rfl⟩ ⟨Nat.zero_le _, Nat.zero_le _⟩ [0] [] [0] rfl rfl rfl rfl (by decide) rfl rfl rfl rfl rfl hl.1 (by simp only [List.map, List.sum_cons, List.sum_nil, Value.category]; decide) dX7_nextStiff_37 (fun H locs hw hn14 => ?_)
      obtain ⟨j27, ej27, hf⟩ := lt_e hf
      have hj28 : ∀ (v15 : Int32) (H : Heap) (locs : List Loc) (ls : Array Slot), wd_ D (tys0 κ) A s (List.flatten [pMo κ qm m_state m_tape m_taped m_fault m_broken m_brokenAt m_spot m_here m_token m_value m_ends m_letters m_moments m_stepsAt m_steps m_latest m_matrix m_sides m_tried m_answers m_rowOf m_whole m_shares m_isKept m_lanes m_lengths m_cells m_torn]) H locs → lv_has ls 7 [(0, .ref (qm 0)), (1, .int l1), (2, .int l2), (3, .int l3), (4, .int l4), (5, .int l5)] → j27 v15 = some zr → W p l e ({ frames := 1, cells := 0, slots := 0, locals := 21 } : Room) s m args below meth c H locs 0 0 (qI_ D (tys0 κ) A nT_ zr (List.flatten [pMo κ qm m_state m_tape m_taped m_fault m_broken m_brokenAt m_spot m_here m_token m_value m_ends m_letters m_moments m_stepsAt m_steps m_latest m_matrix m_sides m_tried m_answers m_rowOf m_whole m_shares m_isKept m_lanes m_lengths m_cells m_torn]) below args s) (F0 m 68 ls [.int v15]) := by
        intro v15 H locs ls hw hl  hf
        have hf : (b1_ (FMo_jointOf m_state l5) fun r16 => if r16 = l1 then if v15 = 0 then lt_ (l4 + (0 : Int32)) fun v23 => lt_ (l5 + (1 : Int32)) fun v24 => FMo_nextStiff_L18 m_state l1 l3 k_ n v23 v24 else lt_ (l4 + (1 : Int32)) fun v25 => lt_ (l5 + (1 : Int32)) fun v26 => FMo_nextStiff_L18 m_state l1 l3 k_ n v25 v26 else lt_ (l4 + (0 : Int32)) fun v20 => lt_ (l5 + (1 : Int32)) fun v21 => FMo_nextStiff_L18 m_state l1 l3 k_ n v20 v21) = some zr := by rw [ej27] at hf; exact hf
        refine lv_istore (lv' := [(6, .int v15), (0, .ref (qm 0)), (1, .int l1), (2, .int l2), (3, .int l3), (4, .int l4), (5, .int l5)]) hx hb dX7_nextStiff_68 hl (by decide) rfl (fun ls hl => ?_)
        refine lv_iload hx hb dX7_nextStiff_70 (lv_at hl 5 rfl) ?_
        refine lv_aload_n hx hb dX7_nextStiff_72 rfl (lv_at hl 1 rfl) ?_
        refine lv_iload hx hb dX7_nextStiff_73 (lv_at hl 6 rfl) ?_
        obtain ⟨r16, hk17, hf⟩ := b1_s hf
        refine rv_i (vq := (RX7, TX7, 28)) (As := [.int l5]) (rest := [.int l4]) (bs' := [pMo κ qm m_state m_tape m_taped m_fault m_broken m_brokenAt m_spot m_here m_token m_value m_ends m_letters m_moments m_stepsAt m_steps m_latest m_matrix m_sides m_tried m_answers m_rowOf m_whole m_shares m_isKept m_lanes m_lengths m_cells m_torn]) C0 hw (cMo_jointOf l D κ qm m_state m_tape m_taped m_fault m_broken m_brokenAt m_spot m_here m_token m_value m_ends m_letters m_moments m_stepsAt m_steps m_latest m_matrix m_sides m_tried m_answers m_rowOf m_whole m_shares m_isKept m_lanes m_lengths m_cells m_torn l5 r16 hk17) cv_RX7_168 ⟨rfl, rfl, Nat.le_of_ble_eq_true rfl, Nat.le_of_ble_eq_true rfl⟩ ⟨Nat.zero_le _, Nat.zero_le _⟩ [0] [] [0] rfl rfl rfl rfl (by decide) rfl rfl rfl rfl rfl hl.1 (by simp only [List.map, List.sum_cons, List.sum_nil, Value.category]; decide) dX7_nextStiff_75 (fun H locs hw hn18 => ?_)
        refine lv_iload_n hx hb dX7_nextStiff_78 rfl (lv_at hl 2 rfl) ?_
        refine lv_icmp_ne (tgt := 91) hx hb dX7_nextStiff_79 (by decide) (fun hc19 => ?_) (fun hc19 => ?_)
        · have hf := if_f hc19 hf
          refine lv_iconst (v := 0) hx hb dX7_nextStiff_91 (by decide) ?_
          refine lv_iadd hx hb dX7_nextStiff_92 ?_
          refine lv_topi (fun v20 ev20 => ?_)
          have hf := lt_s_ hf v20 ev20
          refine lv_istore (lv' := [(4, .int v20), (6, .int v15), (0, .ref (qm 0)), (1, .int l1), (2, .int l2), (3, .int l3), (5, .int l5)]) hx hb dX7_nextStiff_93 hl (by decide) rfl (fun ls hl => ?_)
          obtain ⟨v21, ev21⟩ : ∃ z : Int32, z = (l5 + (1 : Int32)) := ⟨_, rfl⟩
          have hf := lt_s_ hf v21 ev21
          refine lv_iinc (v := v21) (lv' := [(5, .int v21), (4, .int v20), (6, .int v15), (0, .ref (qm 0)), (1, .int l1), (2, .int l2), (3, .int l3)]) hx hb dX7_nextStiff_95 hl (k := 6) rfl (by rw [ev21]; rfl) (by decide) rfl (fun ls hl => ?_)
          refine lv_goto (tgt := 18) hx hb dX7_nextStiff_98 (by decide) ?_
          exact ih v20 v21 H locs ls hw (lv_sub hl [3, 4, 5, 6, 1, 0] rfl)  hf
        · have hf := if_t hc19 hf
          refine lv_iload hx hb dX7_nextStiff_82 (lv_at hl 0 rfl) ?_
          refine lv_if_eq (tgt := 91) hx hb dX7_nextStiff_84 (by decide) (fun hc22 => ?_) (fun hc22 => ?_)
          · have hf := if_t hc22 hf
            refine lv_iconst (v := 0) hx hb dX7_nextStiff_91 (by decide) ?_
            refine lv_iadd hx hb dX7_nextStiff_92 ?_
            refine lv_topi (fun v23 ev23 => ?_)
            have hf := lt_s_ hf v23 ev23
            refine lv_istore (lv' := [(4, .int v23), (6, .int v15), (0, .ref (qm 0)), (1, .int l1), (2, .int l2), (3, .int l3), (5, .int l5)]) hx hb dX7_nextStiff_93 hl (by decide) rfl (fun ls hl => ?_)
            obtain ⟨v24, ev24⟩ : ∃ z : Int32, z = (l5 + (1 : Int32)) := ⟨_, rfl⟩
            have hf := lt_s_ hf v24 ev24
            refine lv_iinc (v := v24) (lv' := [(5, .int v24), (4, .int v23), (6, .int v15), (0, .ref (qm 0)), (1, .int l1), (2, .int l2), (3, .int l3)]) hx hb dX7_nextStiff_95 hl (k := 6) rfl (by rw [ev24]; rfl) (by decide) rfl (fun ls hl => ?_)
            refine lv_goto (tgt := 18) hx hb dX7_nextStiff_98 (by decide) ?_
            exact ih v23 v24 H locs ls hw (lv_sub hl [3, 4, 5, 6, 1, 0] rfl)  hf
          · have hf := if_f hc22 hf
            refine lv_iconst (v := 1) hx hb dX7_nextStiff_87 (by decide) ?_
            refine lv_goto (tgt := 92) hx hb dX7_nextStiff_88 (by decide) ?_
            refine lv_iadd hx hb dX7_nextStiff_92 ?_
            refine lv_topi (fun v25 ev25 => ?_)
            have hf := lt_s_ hf v25 ev25
            refine lv_istore (lv' := [(4, .int v25), (6, .int v15), (0, .ref (qm 0)), (1, .int l1), (2, .int l2), (3, .int l3), (5, .int l5)]) hx hb dX7_nextStiff_93 hl (by decide) rfl (fun ls hl => ?_)
            obtain ⟨v26, ev26⟩ : ∃ z : Int32, z = (l5 + (1 : Int32)) := ⟨_, rfl⟩
            have hf := lt_s_ hf v26 ev26
            refine lv_iinc (v := v26) (lv' := [(5, .int v26), (4, .int v25), (6, .int v15), (0, .ref (qm 0)), (1, .int l1), (2, .int l2), (3, .int l3)]) hx hb dX7_nextStiff_95 hl (k := 6) rfl (by rw [ev26]; rfl) (by decide) rfl (fun ls hl => ?_)
            refine lv_goto (tgt := 18) hx hb dX7_nextStiff_98 (by decide) ?_
            exact ih v25 v26 H locs ls hw (lv_sub hl [3, 4, 5, 6, 1, 0] rfl)  hf
      obtain ⟨j29, ej29, hf⟩ := lt_e hf
      have hj30 : ∀  (H : Heap) (locs : List Loc) (ls : Array Slot), wd_ D (tys0 κ) A s (List.flatten [pMo κ qm m_state m_tape m_taped m_fault m_broken m_brokenAt m_spot m_here m_token m_value m_ends m_letters m_moments m_stepsAt m_steps m_latest m_matrix m_sides m_tried m_answers m_rowOf m_whole m_shares m_isKept m_lanes m_lengths m_cells m_torn]) H locs → lv_has ls 7 [(0, .ref (qm 0)), (1, .int l1), (2, .int l2), (3, .int l3), (4, .int l4), (5, .int l5)] → j29 () = some zr → W p l e ({ frames := 1, cells := 0, slots := 0, locals := 21 } : Room) s m args below meth c H locs 0 0 (qI_ D (tys0 κ) A nT_ zr (List.flatten [pMo κ qm m_state m_tape m_taped m_fault m_broken m_brokenAt m_spot m_here m_token m_value m_ends m_letters m_moments m_stepsAt m_steps m_latest m_matrix m_sides m_tried m_answers m_rowOf m_whole m_shares m_isKept m_lanes m_lengths m_cells m_torn]) below args s) (F0 m 63 ls []) := by
        intro  H locs ls hw hl  hf
        have hf : (j27 (1 : Int32)) = some zr := by rw [ej29] at hf; exact hf
        refine lv_iconst (v := 1) hx hb dX7_nextStiff_63 (by decide) ?_
        refine lv_goto (tgt := 68) hx hb dX7_nextStiff_64 (by decide) ?_
        exact hj28 (1 : Int32) H locs ls hw (lv_sub hl [0, 1, 2, 3, 4, 5] rfl)  hf
      refine lv_icmp_gt (tgt := 63) hx hb dX7_nextStiff_40 (by decide) (fun hc31 => ?_) (fun hc31 => ?_)
      · have hf := if_t hc31 hf
        exact hj30  H locs ls hw (lv_sub hl [0, 1, 2, 3, 4, 5] rfl)  hf
      · have hf := if_f hc31 hf
        refine lv_aload_n hx hb dX7_nextStiff_43 rfl (lv_at hl 0 rfl) ?_
        refine lv_iload hx hb dX7_nextStiff_44 (lv_at hl 5 rfl) ?_
        obtain ⟨r32, hk33, hf⟩ := b1_s hf
        refine rv_i (vq := (RX7, TX7, 28)) (As := [.int l5]) (rest := []) (bs' := [pMo κ qm m_state m_tape m_taped m_fault m_broken m_brokenAt m_spot m_here m_token m_value m_ends m_letters m_moments m_stepsAt m_steps m_latest m_matrix m_sides m_tried m_answers m_rowOf m_whole m_shares m_isKept m_lanes m_lengths m_cells m_torn]) C0 hw (cMo_stiffOf l D κ qm m_state m_tape m_taped m_fault m_broken m_brokenAt m_spot m_here m_token m_value m_ends m_letters m_moments m_stepsAt m_steps m_latest m_matrix m_sides m_tried m_answers m_rowOf m_whole m_shares m_isKept m_lanes m_lengths m_cells m_torn l5 r32 hk33) cv_RX7_171 ⟨rfl, rfl, Nat.le_of_ble_eq_true rfl, Nat.le_of_ble_eq_true rfl⟩ ⟨Nat.zero_le _, Nat.zero_le _⟩ [0] [] [0] rfl rfl rfl rfl (by decide) rfl rfl rfl rfl rfl hl.1 (by simp only [List.map, List.sum_cons, List.sum_nil, Value.category]; decide) dX7_nextStiff_46 (fun H locs hw hn34 => ?_)
        refine lv_aload_n hx hb dX7_nextStiff_49 rfl (lv_at hl 0 rfl) ?_
        refine lv_iload_n hx hb dX7_nextStiff_50 rfl (lv_at hl 3 rfl) ?_
        obtain ⟨r35, hk36, hf⟩ := b1_s hf
        refine rv_i (vq := (RX7, TX7, 28)) (As := [.int l3]) (rest := [.int r32]) (bs' := [pMo κ qm m_state m_tape m_taped m_fault m_broken m_brokenAt m_spot m_here m_token m_value m_ends m_letters m_moments m_stepsAt m_steps m_latest m_matrix m_sides m_tried m_answers m_rowOf m_whole m_shares m_isKept m_lanes m_lengths m_cells m_torn]) C0 hw (cMo_stiffOf l D κ qm m_state m_tape m_taped m_fault m_broken m_brokenAt m_spot m_here m_token m_value m_ends m_letters m_moments m_stepsAt m_steps m_latest m_matrix m_sides m_tried m_answers m_rowOf m_whole m_shares m_isKept m_lanes m_lengths m_cells m_torn l3 r35 hk36) cv_RX7_171 ⟨rfl, rfl, Nat.le_of_ble_eq_true rfl, Nat.le_of_ble_eq_true rfl⟩ ⟨Nat.zero_le _, Nat.zero_le _⟩ [0] [] [0] rfl rfl rfl rfl (by decide) rfl rfl rfl rfl rfl hl.1 (by simp only [List.map, List.sum_cons, List.sum_nil, Value.category]; decide) dX7_nextStiff_51 (fun H locs hw hn37 => ?_)
        obtain ⟨j38, ej38, hf⟩ := lt_e hf
        have hj39 : ∀  (H : Heap) (locs : List Loc) (ls : Array Slot), wd_ D (tys0 κ) A s (List.flatten [pMo κ qm m_state m_tape m_taped m_fault m_broken m_brokenAt m_spot m_here m_token m_value m_ends m_letters m_moments m_stepsAt m_steps m_latest m_matrix m_sides m_tried m_answers m_rowOf m_whole m_shares m_isKept m_lanes m_lengths m_cells m_torn]) H locs → lv_has ls 7 [(0, .ref (qm 0)), (1, .int l1), (2, .int l2), (3, .int l3), (4, .int l4), (5, .int l5)] → j38 () = some zr → W p l e ({ frames := 1, cells := 0, slots := 0, locals := 21 } : Room) s m args below meth c H locs 0 0 (qI_ D (tys0 κ) A nT_ zr (List.flatten [pMo κ qm m_state m_tape m_taped m_fault m_broken m_brokenAt m_spot m_here m_token m_value m_ends m_letters m_moments m_stepsAt m_steps m_latest m_matrix m_sides m_tried m_answers m_rowOf m_whole m_shares m_isKept m_lanes m_lengths m_cells m_torn]) below args s) (F0 m 67 ls []) := by
          intro  H locs ls hw hl  hf
          have hf : (j27 (0 : Int32)) = some zr := by rw [ej38] at hf; exact hf
          refine lv_iconst (v := 0) hx hb dX7_nextStiff_67 (by decide) ?_
          exact hj28 (0 : Int32) H locs ls hw (lv_sub hl [0, 1, 2, 3, 4, 5] rfl)  hf
        refine lv_icmp_ne (tgt := 67) hx hb dX7_nextStiff_54 (by decide) (fun hc40 => ?_) (fun hc40 => ?_)
        · have hf := if_f hc40 hf
          exact hj39  H locs ls hw (lv_sub hl [0, 1, 2, 3, 4, 5] rfl)  hf
        · have hf := if_t hc40 hf
          refine lv_iload hx hb dX7_nextStiff_57 (lv_at hl 5 rfl) ?_
          refine lv_iload_n hx hb dX7_nextStiff_59 rfl (lv_at hl 3 rfl) ?_
          refine lv_icmp_ge (tgt := 67) hx hb dX7_nextStiff_60 (by decide) (fun hc41 => ?_) (fun hc41 => ?_)
          · have hf := if_t hc41 hf
            exact hj39  H locs ls hw (lv_sub hl [0, 1, 2, 3, 4, 5] rfl)  hf
          · have hf := if_f hc41 hf
            exact hj30  H locs ls hw (lv_sub hl [0, 1, 2, 3, 4, 5] rfl)  hf
set_option maxHeartbeats 4000000 in
set_option maxRecDepth 100000 in
theorem wMo_nextStiff_L2 {p : Program} {l : Launch} {e : Env} {s : State} {m : MethodId} {args : Array Value} {below : List Frame} {meth : Method} {c : Code} {A : Nat → Prop} {D : va_G} {κ : Nat → ClassId} (C0 : cx_ p s m meth c args cX7_nextStiff RX7 (some .int) 7 A) (qm : Nat → Nat) (m_state m_tape : Nat → Int32) (m_taped m_fault m_broken m_brokenAt m_spot m_here m_token m_value : Int32) (m_ends m_letters m_moments m_stepsAt : Nat → Int32) (m_steps m_latest : Int32) (m_matrix m_sides m_tried m_answers : Nat → Int64) (m_rowOf : Nat → Int32) (m_whole : Int64) (m_shares m_isKept m_lanes m_lengths m_cells : Nat → Int32) (m_torn l1 l2 : Int32) (zr : Int32) : ∀ (n : Nat) (l3 : Int32) (H : Heap) (locs : List Loc) (ls : Array Slot), wd_ D (tys0 κ) A s (List.flatten [pMo κ qm m_state m_tape m_taped m_fault m_broken m_brokenAt m_spot m_here m_token m_value m_ends m_letters m_moments m_stepsAt m_steps m_latest m_matrix m_sides m_tried m_answers m_rowOf m_whole m_shares m_isKept m_lanes m_lengths m_cells m_torn]) H locs → lv_has ls 7 [(0, .ref (qm 0)), (1, .int l1), (2, .int l2), (3, .int l3)] → FMo_nextStiff_L2 m_state l1 l2 n l3 = some zr → W p l e ({ frames := 1, cells := 0, slots := 0, locals := 21 } : Room) s m args below meth c H locs 0 0 (qI_ D (tys0 κ) A nT_ zr (List.flatten [pMo κ qm m_state m_tape m_taped m_fault m_broken m_brokenAt m_spot m_here m_token m_value m_ends m_letters m_moments m_stepsAt m_steps m_latest m_matrix m_sides m_tried m_answers m_rowOf m_whole m_shares m_isKept m_lanes m_lengths m_cells m_torn]) below args s) (F0 m 2 ls []) := by
  obtain ⟨hx, hb, -, hml, hown, hts, -, -⟩ := id C0
  intro n
  induction n with
  | zero =>
    intro l3 H locs ls hw hl  hf
    cases hf
  | succ n ih =>
    intro l3 H locs ls hw hl  hf
    rw [FMo_nextStiff_L2.eq_2] at hf
    refine lv_iload_n hx hb dX7_nextStiff_2 rfl (lv_at hl 3 rfl) ?_
    refine lv_iconst (v := 2) hx hb dX7_nextStiff_3 (by decide) ?_
    refine lv_aload_n hx hb dX7_nextStiff_4 rfl (lv_at hl 0 rfl) ?_
    obtain ⟨r1, hk2, hf⟩ := b1_s hf
    refine rv_i (vq := (RX7, TX7, 28)) (As := []) (rest := [.int (2 : Int32), .int l3]) (bs' := [pMo κ qm m_state m_tape m_taped m_fault m_broken m_brokenAt m_spot m_here m_token m_value m_ends m_letters m_moments m_stepsAt m_steps m_latest m_matrix m_sides m_tried m_answers m_rowOf m_whole m_shares m_isKept m_lanes m_lengths m_cells m_torn]) C0 hw (cMo_beams l D κ qm m_state m_tape m_taped m_fault m_broken m_brokenAt m_spot m_here m_token m_value m_ends m_letters m_moments m_stepsAt m_steps m_latest m_matrix m_sides m_tried m_answers m_rowOf m_whole m_shares m_isKept m_lanes m_lengths m_cells m_torn r1 hk2) cv_RX7_162 ⟨rfl, rfl, Nat.le_of_ble_eq_true rfl, Nat.le_of_ble_eq_true rfl⟩ ⟨Nat.zero_le _, Nat.zero_le _⟩ [0] [] [0] rfl rfl rfl rfl (by decide) rfl rfl rfl rfl rfl hl.1 (by simp only [List.map, List.sum_cons, List.sum_nil, Value.category]; decide) dX7_nextStiff_5 (fun H locs hw hn3 => ?_)
    refine lv_imul hx hb dX7_nextStiff_8 ?_
    refine lv_icmp_ge (tgt := 124) hx hb dX7_nextStiff_9 (by decide) (fun hc4 => ?_) (fun hc4 => ?_)
    · have hf := if_t hc4 hf
      refine lv_iconst (v := 0) hx hb dX7_nextStiff_124 (by decide) ?_
      obtain rfl := e1_ hf
      exact r_iret C0 hw trivial dX7_nextStiff_125
    · have hf := if_f hc4 hf
      refine lv_iconst (v := 0) hx hb dX7_nextStiff_12 (by decide) ?_
      refine lv_istore (lv' := [(4, .int (0 : Int32)), (0, .ref (qm 0)), (1, .int l1), (2, .int l2), (3, .int l3)]) hx hb dX7_nextStiff_13 hl (by decide) rfl (fun ls hl => ?_)
      refine lv_iconst (v := 0) hx hb dX7_nextStiff_15 (by decide) ?_
      refine lv_istore (lv' := [(5, .int (0 : Int32)), (4, .int (0 : Int32)), (0, .ref (qm 0)), (1, .int l1), (2, .int l2), (3, .int l3)]) hx hb dX7_nextStiff_16 hl (by decide) rfl (fun ls hl => ?_)
      refine wMo_nextStiff_L18 C0 qm m_state m_tape m_taped m_fault m_broken m_brokenAt m_spot m_here m_token m_value m_ends m_letters m_moments m_stepsAt m_steps m_latest m_matrix m_sides m_tried m_answers m_rowOf m_whole m_shares m_isKept m_lanes m_lengths m_cells m_torn l1 l2 l3 zr _ (fun v43 v44 H locs ls hw hl  hf => ?_) 1000 (0 : Int32) (0 : Int32) H locs ls hw (lv_sub hl [2, 3, 4, 5, 1, 0] rfl)  hf
      refine lv_aload_n hx hb dX7_nextStiff_101 rfl (lv_at hl 0 rfl) ?_
      refine lv_iload_n hx hb dX7_nextStiff_102 rfl (lv_at hl 3 rfl) ?_
      obtain ⟨r45, hk46, hf⟩ := b1_s hf
      refine rv_i (vq := (RX7, TX7, 28)) (As := [.int l3]) (rest := []) (bs' := [pMo κ qm m_state m_tape m_taped m_fault m_broken m_brokenAt m_spot m_here m_token m_value m_ends m_letters m_moments m_stepsAt m_steps m_latest m_matrix m_sides m_tried m_answers m_rowOf m_whole m_shares m_isKept m_lanes m_lengths m_cells m_torn]) C0 hw (cMo_jointOf l D κ qm m_state m_tape m_taped m_fault m_broken m_brokenAt m_spot m_here m_token m_value m_ends m_letters m_moments m_stepsAt m_steps m_latest m_matrix m_sides m_tried m_answers m_rowOf m_whole m_shares m_isKept m_lanes m_lengths m_cells m_torn l3 r45 hk46) cv_RX7_168 ⟨rfl, rfl, Nat.le_of_ble_eq_true rfl, Nat.le_of_ble_eq_true rfl⟩ ⟨Nat.zero_le _, Nat.zero_le _⟩ [0] [] [0] rfl rfl rfl rfl (by decide) rfl rfl rfl rfl rfl hl.1 (by simp only [List.map, List.sum_cons, List.sum_nil, Value.category]; decide) dX7_nextStiff_103 (fun H locs hw hn47 => ?_)
      refine lv_iload_n hx hb dX7_nextStiff_106 rfl (lv_at hl 1 rfl) ?_
      refine lv_icmp_ne (tgt := 118) hx hb dX7_nextStiff_107 (by decide) (fun hc48 => ?_) (fun hc48 => ?_)
      · have hf := if_f hc48 hf
        obtain ⟨v49, ev49⟩ : ∃ z : Int32, z = (l3 + (1 : Int32)) := ⟨_, rfl⟩
        have hf := lt_s_ hf v49 ev49
        refine lv_iinc (v := v49) (lv' := [(3, .int v49), (0, .ref (qm 0)), (1, .int l1), (2, .int l2), (4, .int v43)]) hx hb dX7_nextStiff_118 hl (k := 3) rfl (by rw [ev49]; rfl) (by decide) rfl (fun ls hl => ?_)
        refine lv_goto (tgt := 2) hx hb dX7_nextStiff_121 (by decide) ?_
        exact ih v49 H locs ls hw (lv_sub hl [1, 2, 3, 0] rfl)  hf
      · have hf := if_t hc48 hf
        refine lv_iload hx hb dX7_nextStiff_110 (lv_at hl 4 rfl) ?_
        refine lv_iload_n hx hb dX7_nextStiff_112 rfl (lv_at hl 2 rfl) ?_
        refine lv_icmp_ne (tgt := 118) hx hb dX7_nextStiff_113 (by decide) (fun hc50 => ?_) (fun hc50 => ?_)
        · have hf := if_f hc50 hf
          obtain ⟨v51, ev51⟩ : ∃ z : Int32, z = (l3 + (1 : Int32)) := ⟨_, rfl⟩
          have hf := lt_s_ hf v51 ev51
          refine lv_iinc (v := v51) (lv' := [(3, .int v51), (0, .ref (qm 0)), (1, .int l1), (2, .int l2), (4, .int v43)]) hx hb dX7_nextStiff_118 hl (k := 3) rfl (by rw [ev51]; rfl) (by decide) rfl (fun ls hl => ?_)
          refine lv_goto (tgt := 2) hx hb dX7_nextStiff_121 (by decide) ?_
          exact ih v51 H locs ls hw (lv_sub hl [1, 2, 3, 0] rfl)  hf
        · have hf := if_t hc50 hf
          refine lv_iload_n hx hb dX7_nextStiff_116 rfl (lv_at hl 3 rfl) ?_
          obtain rfl := e1_ hf
          exact r_iret C0 hw trivial dX7_nextStiff_117
set_option maxHeartbeats 4000000 in
set_option maxRecDepth 100000 in
theorem cMo_nextStiff (l : Launch) (D : va_G) (κ : Nat → ClassId) (qm : Nat → Nat) (m_state m_tape : Nat → Int32) (m_taped m_fault m_broken m_brokenAt m_spot m_here m_token m_value : Int32) (m_ends m_letters m_moments m_stepsAt : Nat → Int32) (m_steps m_latest : Int32) (m_matrix m_sides m_tried m_answers : Nat → Int64) (m_rowOf : Nat → Int32) (m_whole : Int64) (m_shares m_isKept m_lanes m_lengths m_cells : Nat → Int32) (m_torn a1 a2 zr : Int32) (hf : FMo_nextStiff m_state a1 a2 = some zr) : mI_ l yX7_nextStiff (Cond.code yX7_nextStiff cX7_nextStiff 7 (some .int) :: uw) ({ frames := 1, cells := 0, slots := 0, locals := 21 } : Room) D (tys0 κ) [.ref (qm 0), .int a1, .int a2] (List.flatten [pMo κ qm m_state m_tape m_taped m_fault m_broken m_brokenAt m_spot m_here m_token m_value m_ends m_letters m_moments m_stepsAt m_steps m_latest m_matrix m_sides m_tried m_answers m_rowOf m_whole m_shares m_isKept m_lanes m_lengths m_cells m_torn]) nT_ zr (List.flatten [pMo κ qm m_state m_tape m_taped m_fault m_broken m_brokenAt m_spot m_here m_token m_value m_ends m_letters m_moments m_stepsAt m_steps m_latest m_matrix m_sides m_tried m_answers m_rowOf m_whole m_shares m_isKept m_lanes m_lengths m_cells m_torn]) := by
  unfold FMo_nextStiff at hf
  refine mI_of (by decide) (Nat.le_of_ble_eq_true rfl) ?_
  intro p e s m below meth c A ls H locs C0 hw hl
  obtain ⟨hx, hb, -, hml, hown, hts, -, -⟩ := id C0
  have hl : lv_has ls 7 [(0, .ref (qm 0)), (1, .int a1), (2, .int a2)] := hl
  refine lv_iconst (v := 0) hx hb dX7_nextStiff_0 (by decide) ?_
  refine lv_istore_n (lv' := [(3, .int (0 : Int32)), (0, .ref (qm 0)), (1, .int a1), (2, .int a2)]) hx hb dX7_nextStiff_1 rfl hl (by decide) rfl (fun ls hl => ?_)
  exact wMo_nextStiff_L2 C0 qm m_state m_tape m_taped m_fault m_broken m_brokenAt m_spot m_here m_token m_value m_ends m_letters m_moments m_stepsAt m_steps m_latest m_matrix m_sides m_tried m_answers m_rowOf m_whole m_shares m_isKept m_lanes m_lengths m_cells m_torn a1 a2 zr 1000 (0 : Int32) H locs ls hw (lv_sub hl [1, 2, 3, 0] rfl)  hf
def FMo_sharesOf_L19  (k_ : Int32 → (Nat → Int32) → Option ((Nat → Int32))) : Nat → Int32 → (Nat → Int32) → Option ((Nat → Int32))
  | 0, _, _ => none
  | n + 1, l5, m_shares =>
      if (20 : Int32) ≤ l5 then
        k_ l5 m_shares
      else
        gd_ l5 20 <|
        lt_ (upd m_shares l5.toNatClampNeg (0 : Int32)) fun w10 =>
        lt_ (l5 + (1 : Int32)) fun v11 =>
        FMo_sharesOf_L19  k_ n v11 w10
def FMo_sharesOf_L43 (m_state : Nat → Int32) (l1 l2 l3 : Int32) (k_ : Int32 → Int32 → (Nat → Int32) → Option ((Nat → Int32))) : Nat → Int32 → Int32 → (Nat → Int32) → Option ((Nat → Int32))
  | 0, _, _, _ => none
  | n + 1, l4, l5, m_shares =>
      b1_ (FMo_beams m_state) fun r14 =>
      if ((2 : Int32) * r14) ≤ l5 then
        k_ l4 l5 m_shares
      else
        b1_ (FMo_jointOf m_state l5) fun r18 =>
        if r18 = l1 then
          b1_ (FMo_stiffOf m_state l5) fun r23 =>
          dl_ (l3.toInt64) <|
          gd_ l5 20 <|
          lt_ (upd m_shares l5.toNatClampNeg ((((l2.toInt64) * (r23.toInt64)) / (l3.toInt64)).toInt32)) fun w28 =>
          gd_ l5 20 <|
          lt_ (l4 - (w28 l5.toNatClampNeg)) fun v30 =>
          lt_ (l5 + (1 : Int32)) fun v31 =>
          FMo_sharesOf_L43 m_state l1 l2 l3 k_ n v30 v31 w28
        else
          lt_ (l5 + (1 : Int32)) fun v22 =>
          FMo_sharesOf_L43 m_state l1 l2 l3 k_ n l4 v22 m_shares
def FMo_sharesOf_L122 (m_state : Nat → Int32) (l1 l4 l5 : Int32) : Nat → Int32 → (Nat → Int32) → Option ((Nat → Int32))
  | 0, _, _ => none
  | n + 1, l6, m_shares =>
      if l6 ≤ 0 then
        some (m_shares)
      else
        b1_ (FMo_size l4) fun r41 =>
        b1_ (FMo_nextStiff m_state l1 (r41 - l6)) fun r44 =>
        gd_ r44 20 <|
        gd_ r44 20 <|
        lt_ (upd m_shares r44.toNatClampNeg ((m_shares r44.toNatClampNeg) + l5)) fun w49 =>
        lt_ (l6 + (-1 : Int32)) fun v50 =>
        FMo_sharesOf_L122 m_state l1 l4 l5 n v50 w49
def FMo_sharesOf (m_state m_moments m_shares : Nat → Int32) (a1 : Int32) : Option ((Nat → Int32)) :=
  b1_ (FMo_outOf m_state m_moments a1) fun r1 =>
  lt_ (-r1) fun v4 =>
  b1_ (FMo_stiffAt m_state a1) fun r5 =>
  FMo_sharesOf_L19 (fun (v12 : Int32) (w13 : Nat → Int32) =>
      FMo_sharesOf_L43 m_state a1 v4 r5 (fun (v33 : Int32) (v34 : Int32) (w35 : Nat → Int32) =>
          lt_ (fun (v36 : Int32) =>
            b1_ (FMo_size v33) fun r37 =>
            FMo_sharesOf_L122 m_state a1 v33 v36 1000 r37 w35 : Int32 → Option ((Nat → Int32))) fun j51 =>
          if 0 ≤ v33 then
            j51 (1 : Int32)
          else
            j51 (-1 : Int32)) 1000 v4 (0 : Int32) w13) 1000 (0 : Int32) m_shares
set_option maxHeartbeats 4000000 in
set_option maxRecDepth 100000 in
theorem wMo_sharesOf_L19 {p : Program} {l : Launch} {e : Env} {s : State} {m : MethodId} {args : Array Value} {below : List Frame} {meth : Method} {c : Code} {A : Nat → Prop} {D : va_G} {κ : Nat → ClassId} (C0 : cx_ p s m meth c args cX7_sharesOf RX7 none 7 A) (qm : Nat → Nat) (m_state m_tape : Nat → Int32) (m_taped m_fault m_broken m_brokenAt m_spot m_here m_token m_value : Int32) (m_ends m_letters m_moments m_stepsAt : Nat → Int32) (m_steps m_latest : Int32) (m_matrix m_sides m_tried m_answers : Nat → Int64) (m_rowOf : Nat → Int32) (m_whole : Int64) (m_isKept m_lanes m_lengths m_cells : Nat → Int32) (m_torn l1 l2 l3 l4 : Int32) (z1 : Nat → Int32) (k_ : Int32 → (Nat → Int32) → Option ((Nat → Int32))) (hk_ : ∀ (l5 : Int32) (m_shares : Nat → Int32) (H : Heap) (locs : List Loc) (ls : Array Slot), wd_ D (tys0 κ) A s (List.flatten [pMo κ qm m_state m_tape m_taped m_fault m_broken m_brokenAt m_spot m_here m_token m_value m_ends m_letters m_moments m_stepsAt m_steps m_latest m_matrix m_sides m_tried m_answers m_rowOf m_whole m_shares m_isKept m_lanes m_lengths m_cells m_torn]) H locs → lv_has ls 7 [(0, .ref (qm 0)), (1, .int l1), (2, .int l2), (3, .int l3), (4, .int l4)] → k_ l5 m_shares = some z1 → W p l e ({ frames := 2, cells := 0, slots := 0, locals := 47 } : Room) s m args below meth c H locs 0 0 (qV_ D (tys0 κ) A (List.flatten [pMo κ qm m_state m_tape m_taped m_fault m_broken m_brokenAt m_spot m_here m_token m_value m_ends m_letters m_moments m_stepsAt m_steps m_latest m_matrix m_sides m_tried m_answers m_rowOf m_whole z1 m_isKept m_lanes m_lengths m_cells m_torn]) below args s) (F0 m 40 ls [])) : ∀ (n : Nat) (l5 : Int32) (m_shares : Nat → Int32) (H : Heap) (locs : List Loc) (ls : Array Slot), wd_ D (tys0 κ) A s (List.flatten [pMo κ qm m_state m_tape m_taped m_fault m_broken m_brokenAt m_spot m_here m_token m_value m_ends m_letters m_moments m_stepsAt m_steps m_latest m_matrix m_sides m_tried m_answers m_rowOf m_whole m_shares m_isKept m_lanes m_lengths m_cells m_torn]) H locs → lv_has ls 7 [(0, .ref (qm 0)), (1, .int l1), (2, .int l2), (3, .int l3), (4, .int l4), (5, .int l5)] → FMo_sharesOf_L19 k_ n l5 m_shares = some z1 → W p l e ({ frames := 2, cells := 0, slots := 0, locals := 47 } : Room) s m args below meth c H locs 0 0 (qV_ D (tys0 κ) A (List.flatten [pMo κ qm m_state m_tape m_taped m_fault m_broken m_brokenAt m_spot m_here m_token m_value m_ends m_letters m_moments m_stepsAt m_steps m_latest m_matrix m_sides m_tried m_answers m_rowOf m_whole z1 m_isKept m_lanes m_lengths m_cells m_torn]) below args s) (F0 m 19 ls []) := by
  obtain ⟨hx, hb, -, hml, hown, hts, -, -⟩ := id C0
  intro n
  induction n with
  | zero =>
    intro l5 m_shares H locs ls hw hl  hf
    cases hf
  | succ n ih =>
    intro l5 m_shares H locs ls hw hl  hf
    rw [FMo_sharesOf_L19.eq_2] at hf
    refine lv_iload hx hb dX7_sharesOf_19 (lv_at hl 5 rfl) ?_
    refine lv_bipush (v := 20) hx hb dX7_sharesOf_21 (by decide) ?_
    refine lv_icmp_ge (tgt := 40) hx hb dX7_sharesOf_23 (by decide) (fun hc8 => ?_) (fun hc8 => ?_)
    · have hf := if_t hc8 hf
      exact hk_ l5 m_shares H locs ls hw (lv_sub hl [0, 1, 2, 3, 4] rfl)  hf
    · have hf := if_f hc8 hf
      refine lv_aload_n hx hb dX7_sharesOf_26 rfl (lv_at hl 0 rfl) ?_
      refine r_get C0 hw 0 22 (v := .ref (qm 12)) rfl rfl inX7 (by decide) lk_X7_48 rfl dX7_sharesOf_27 ?_
      refine lv_iload hx hb dX7_sharesOf_30 (lv_at hl 5 rfl) ?_
      refine lv_iconst (v := 0) hx hb dX7_sharesOf_32 (by decide) ?_
      obtain ⟨hi9, hf⟩ := gd_s hf
      obtain ⟨w10, ew10⟩ : ∃ z : Nat → Int32, z = (upd m_shares l5.toNatClampNeg (0 : Int32)) := ⟨_, rfl⟩
      have hf := lt_s_ hf w10 ew10
      refine r_iast C0 hw 12 0 rfl rfl hi9 dX7_sharesOf_33 (ws' := List.flatten [pMo κ qm m_state m_tape m_taped m_fault m_broken m_brokenAt m_spot m_here m_token m_value m_ends m_letters m_moments m_stepsAt m_steps m_latest m_matrix m_sides m_tried m_answers m_rowOf m_whole w10 m_isKept m_lanes m_lengths m_cells m_torn]) (by subst ew10; rfl) (fun H locs hw => ?_)
      obtain ⟨v11, ev11⟩ : ∃ z : Int32, z = (l5 + (1 : Int32)) := ⟨_, rfl⟩
      have hf := lt_s_ hf v11 ev11
      refine lv_iinc (v := v11) (lv' := [(5, .int v11), (0, .ref (qm 0)), (1, .int l1), (2, .int l2), (3, .int l3), (4, .int l4)]) hx hb dX7_sharesOf_34 hl (k := 5) rfl (by rw [ev11]; rfl) (by decide) rfl (fun ls hl => ?_)
      refine lv_goto (tgt := 19) hx hb dX7_sharesOf_37 (by decide) ?_
      exact ih v11 w10 H locs ls hw (lv_sub hl [1, 2, 3, 4, 5, 0] rfl)  hf
set_option maxHeartbeats 4000000 in
set_option maxRecDepth 100000 in
theorem wMo_sharesOf_L43 {p : Program} {l : Launch} {e : Env} {s : State} {m : MethodId} {args : Array Value} {below : List Frame} {meth : Method} {c : Code} {A : Nat → Prop} {D : va_G} {κ : Nat → ClassId} (C0 : cx_ p s m meth c args cX7_sharesOf RX7 none 7 A) (qm : Nat → Nat) (m_state m_tape : Nat → Int32) (m_taped m_fault m_broken m_brokenAt m_spot m_here m_token m_value : Int32) (m_ends m_letters m_moments m_stepsAt : Nat → Int32) (m_steps m_latest : Int32) (m_matrix m_sides m_tried m_answers : Nat → Int64) (m_rowOf : Nat → Int32) (m_whole : Int64) (m_isKept m_lanes m_lengths m_cells : Nat → Int32) (m_torn l1 l2 l3 : Int32) (z1 : Nat → Int32) (k_ : Int32 → Int32 → (Nat → Int32) → Option ((Nat → Int32))) (hk_ : ∀ (l4 : Int32) (l5 : Int32) (m_shares : Nat → Int32) (H : Heap) (locs : List Loc) (ls : Array Slot), wd_ D (tys0 κ) A s (List.flatten [pMo κ qm m_state m_tape m_taped m_fault m_broken m_brokenAt m_spot m_here m_token m_value m_ends m_letters m_moments m_stepsAt m_steps m_latest m_matrix m_sides m_tried m_answers m_rowOf m_whole m_shares m_isKept m_lanes m_lengths m_cells m_torn]) H locs → lv_has ls 7 [(0, .ref (qm 0)), (1, .int l1), (4, .int l4)] → k_ l4 l5 m_shares = some z1 → W p l e ({ frames := 2, cells := 0, slots := 0, locals := 47 } : Room) s m args below meth c H locs 0 0 (qV_ D (tys0 κ) A (List.flatten [pMo κ qm m_state m_tape m_taped m_fault m_broken m_brokenAt m_spot m_here m_token m_value m_ends m_letters m_moments m_stepsAt m_steps m_latest m_matrix m_sides m_tried m_answers m_rowOf m_whole z1 m_isKept m_lanes m_lengths m_cells m_torn]) below args s) (F0 m 103 ls [])) : ∀ (n : Nat) (l4 : Int32) (l5 : Int32) (m_shares : Nat → Int32) (H : Heap) (locs : List Loc) (ls : Array Slot), wd_ D (tys0 κ) A s (List.flatten [pMo κ qm m_state m_tape m_taped m_fault m_broken m_brokenAt m_spot m_here m_token m_value m_ends m_letters m_moments m_stepsAt m_steps m_latest m_matrix m_sides m_tried m_answers m_rowOf m_whole m_shares m_isKept m_lanes m_lengths m_cells m_torn]) H locs → lv_has ls 7 [(0, .ref (qm 0)), (1, .int l1), (2, .int l2), (3, .int l3), (4, .int l4), (5, .int l5)] → FMo_sharesOf_L43 m_state l1 l2 l3 k_ n l4 l5 m_shares = some z1 → W p l e ({ frames := 2, cells := 0, slots := 0, locals := 47 } : Room) s m args below meth c H locs 0 0 (qV_ D (tys0 κ) A (List.flatten [pMo κ qm m_state m_tape m_taped m_fault m_broken m_brokenAt m_spot m_here m_token m_value m_ends m_letters m_moments m_stepsAt m_steps m_latest m_matrix m_sides m_tried m_answers m_rowOf m_whole z1 m_isKept m_lanes m_lengths m_cells m_torn]) below args s) (F0 m 43 ls []) := by
  obtain ⟨hx, hb, -, hml, hown, hts, -, -⟩ := id C0
  intro n
  induction n with
  | zero =>
    intro l4 l5 m_shares H locs ls hw hl  hf
    cases hf
  | succ n ih =>
    intro l4 l5 m_shares H locs ls hw hl  hf
    rw [FMo_sharesOf_L43.eq_2] at hf
    refine lv_iload hx hb dX7_sharesOf_43 (lv_at hl 5 rfl) ?_
    refine lv_iconst (v := 2) hx hb dX7_sharesOf_45 (by decide) ?_
    refine lv_aload_n hx hb dX7_sharesOf_46 rfl (lv_at hl 0 rfl) ?_
    obtain ⟨r14, hk15, hf⟩ := b1_s hf
    refine rv_i (vq := (RX7, TX7, 28)) (As := []) (rest := [.int (2 : Int32), .int l5]) (bs' := [pMo κ qm m_state m_tape m_taped m_fault m_broken m_brokenAt m_spot m_here m_token m_value m_ends m_letters m_moments m_stepsAt m_steps m_latest m_matrix m_sides m_tried m_answers m_rowOf m_whole m_shares m_isKept m_lanes m_lengths m_cells m_torn]) C0 hw (cMo_beams l D κ qm m_state m_tape m_taped m_fault m_broken m_brokenAt m_spot m_here m_token m_value m_ends m_letters m_moments m_stepsAt m_steps m_latest m_matrix m_sides m_tried m_answers m_rowOf m_whole m_shares m_isKept m_lanes m_lengths m_cells m_torn r14 hk15) cv_RX7_162 ⟨rfl, rfl, Nat.le_of_ble_eq_true rfl, Nat.le_of_ble_eq_true rfl⟩ ⟨Nat.zero_le _, Nat.zero_le _⟩ [0] [] [0] rfl rfl rfl rfl (by decide) rfl rfl rfl rfl rfl hl.1 (by simp only [List.map, List.sum_cons, List.sum_nil, Value.category]; decide) dX7_sharesOf_47 (fun H locs hw hn16 => ?_)
    refine lv_imul hx hb dX7_sharesOf_50 ?_
    refine lv_icmp_ge (tgt := 103) hx hb dX7_sharesOf_51 (by decide) (fun hc17 => ?_) (fun hc17 => ?_)
    · have hf := if_t hc17 hf
      exact hk_ l4 l5 m_shares H locs ls hw (lv_sub hl [0, 1, 4] rfl)  hf
    · have hf := if_f hc17 hf
      refine lv_aload_n hx hb dX7_sharesOf_54 rfl (lv_at hl 0 rfl) ?_
      refine lv_iload hx hb dX7_sharesOf_55 (lv_at hl 5 rfl) ?_
      obtain ⟨r18, hk19, hf⟩ := b1_s hf
      refine rv_i (vq := (RX7, TX7, 28)) (As := [.int l5]) (rest := []) (bs' := [pMo κ qm m_state m_tape m_taped m_fault m_broken m_brokenAt m_spot m_here m_token m_value m_ends m_letters m_moments m_stepsAt m_steps m_latest m_matrix m_sides m_tried m_answers m_rowOf m_whole m_shares m_isKept m_lanes m_lengths m_cells m_torn]) C0 hw (cMo_jointOf l D κ qm m_state m_tape m_taped m_fault m_broken m_brokenAt m_spot m_here m_token m_value m_ends m_letters m_moments m_stepsAt m_steps m_latest m_matrix m_sides m_tried m_answers m_rowOf m_whole m_shares m_isKept m_lanes m_lengths m_cells m_torn l5 r18 hk19) cv_RX7_168 ⟨rfl, rfl, Nat.le_of_ble_eq_true rfl, Nat.le_of_ble_eq_true rfl⟩ ⟨Nat.zero_le _, Nat.zero_le _⟩ [0] [] [0] rfl rfl rfl rfl (by decide) rfl rfl rfl rfl rfl hl.1 (by simp only [List.map, List.sum_cons, List.sum_nil, Value.category]; decide) dX7_sharesOf_57 (fun H locs hw hn20 => ?_)
      refine lv_iload_n hx hb dX7_sharesOf_60 rfl (lv_at hl 1 rfl) ?_
      refine lv_icmp_ne (tgt := 97) hx hb dX7_sharesOf_61 (by decide) (fun hc21 => ?_) (fun hc21 => ?_)
      · have hf := if_f hc21 hf
        obtain ⟨v22, ev22⟩ : ∃ z : Int32, z = (l5 + (1 : Int32)) := ⟨_, rfl⟩
        have hf := lt_s_ hf v22 ev22
        refine lv_iinc (v := v22) (lv' := [(5, .int v22), (0, .ref (qm 0)), (1, .int l1), (2, .int l2), (3, .int l3), (4, .int l4)]) hx hb dX7_sharesOf_97 hl (k := 5) rfl (by rw [ev22]; rfl) (by decide) rfl (fun ls hl => ?_)
        refine lv_goto (tgt := 43) hx hb dX7_sharesOf_100 (by decide) ?_
        exact ih l4 v22 m_shares H locs ls hw (lv_sub hl [1, 2, 3, 4, 5, 0] rfl)  hf
      · have hf := if_t hc21 hf
        refine lv_aload_n hx hb dX7_sharesOf_64 rfl (lv_at hl 0 rfl) ?_
        refine r_get C0 hw 0 22 (v := .ref (qm 12)) rfl rfl inX7 (by decide) lk_X7_48 rfl dX7_sharesOf_65 ?_
        refine lv_iload hx hb dX7_sharesOf_68 (lv_at hl 5 rfl) ?_
        refine lv_iload_n hx hb dX7_sharesOf_70 rfl (lv_at hl 2 rfl) ?_
        refine lv_i2l hx hb dX7_sharesOf_71 rfl ?_
        refine lv_aload_n hx hb dX7_sharesOf_72 rfl (lv_at hl 0 rfl) ?_
        refine lv_iload hx hb dX7_sharesOf_73 (lv_at hl 5 rfl) ?_
        obtain ⟨r23, hk24, hf⟩ := b1_s hf
        refine rv_i (vq := (RX7, TX7, 28)) (As := [.int l5]) (rest := [.long (l2.toInt64), .int l5, .ref (qm 12)]) (bs' := [pMo κ qm m_state m_tape m_taped m_fault m_broken m_brokenAt m_spot m_here m_token m_value m_ends m_letters m_moments m_stepsAt m_steps m_latest m_matrix m_sides m_tried m_answers m_rowOf m_whole m_shares m_isKept m_lanes m_lengths m_cells m_torn]) C0 hw (cMo_stiffOf l D κ qm m_state m_tape m_taped m_fault m_broken m_brokenAt m_spot m_here m_token m_value m_ends m_letters m_moments m_stepsAt m_steps m_latest m_matrix m_sides m_tried m_answers m_rowOf m_whole m_shares m_isKept m_lanes m_lengths m_cells m_torn l5 r23 hk24) cv_RX7_171 ⟨rfl, rfl, Nat.le_of_ble_eq_true rfl, Nat.le_of_ble_eq_true rfl⟩ ⟨Nat.zero_le _, Nat.zero_le _⟩ [0] [] [0] rfl rfl rfl rfl (by decide) rfl rfl rfl rfl rfl hl.1 (by simp only [List.map, List.sum_cons, List.sum_nil, Value.category]; decide) dX7_sharesOf_75 (fun H locs hw hn25 => ?_)
        refine lv_i2l hx hb dX7_sharesOf_78 rfl ?_
        refine lv_lmul hx hb dX7_sharesOf_79 ?_
        refine lv_iload_n hx hb dX7_sharesOf_80 rfl (lv_at hl 3 rfl) ?_
        refine lv_i2l hx hb dX7_sharesOf_81 rfl ?_
        obtain ⟨hz26, hf⟩ := dl_s hf
        refine lv_ldiv hx hb dX7_sharesOf_82 hz26 ?_
        refine lv_l2i hx hb dX7_sharesOf_83 rfl ?_
        obtain ⟨hi27, hf⟩ := gd_s hf
        obtain ⟨w28, ew28⟩ : ∃ z : Nat → Int32, z = (upd m_shares l5.toNatClampNeg ((((l2.toInt64) * (r23.toInt64)) / (l3.toInt64)).toInt32)) := ⟨_, rfl⟩
        have hf := lt_s_ hf w28 ew28
        refine r_iast C0 hw 12 0 rfl rfl hi27 dX7_sharesOf_84 (ws' := List.flatten [pMo κ qm m_state m_tape m_taped m_fault m_broken m_brokenAt m_spot m_here m_token m_value m_ends m_letters m_moments m_stepsAt m_steps m_latest m_matrix m_sides m_tried m_answers m_rowOf m_whole w28 m_isKept m_lanes m_lengths m_cells m_torn]) (by subst ew28; rfl) (fun H locs hw => ?_)
        refine lv_iload hx hb dX7_sharesOf_85 (lv_at hl 4 rfl) ?_
        refine lv_aload_n hx hb dX7_sharesOf_87 rfl (lv_at hl 0 rfl) ?_
        refine r_get C0 hw 0 22 (v := .ref (qm 12)) rfl rfl inX7 (by decide) lk_X7_48 rfl dX7_sharesOf_88 ?_
        refine lv_iload hx hb dX7_sharesOf_91 (lv_at hl 5 rfl) ?_
        obtain ⟨hi29, hf⟩ := gd_s hf
        refine r_iald C0 hw 12 0 rfl rfl hi29 dX7_sharesOf_93 ?_
        refine lv_isub hx hb dX7_sharesOf_94 ?_
        refine lv_topi (fun v30 ev30 => ?_)
        have hf := lt_s_ hf v30 ev30
        refine lv_istore (lv' := [(4, .int v30), (0, .ref (qm 0)), (1, .int l1), (2, .int l2), (3, .int l3), (5, .int l5)]) hx hb dX7_sharesOf_95 hl (by decide) rfl (fun ls hl => ?_)
        obtain ⟨v31, ev31⟩ : ∃ z : Int32, z = (l5 + (1 : Int32)) := ⟨_, rfl⟩
        have hf := lt_s_ hf v31 ev31
        refine lv_iinc (v := v31) (lv' := [(5, .int v31), (4, .int v30), (0, .ref (qm 0)), (1, .int l1), (2, .int l2), (3, .int l3)]) hx hb dX7_sharesOf_97 hl (k := 5) rfl (by rw [ev31]; rfl) (by decide) rfl (fun ls hl => ?_)
        refine lv_goto (tgt := 43) hx hb dX7_sharesOf_100 (by decide) ?_
        exact ih v30 v31 w28 H locs ls hw (lv_sub hl [2, 3, 4, 5, 1, 0] rfl)  hf
set_option maxHeartbeats 4000000 in
set_option maxRecDepth 100000 in
theorem wMo_sharesOf_L122 {p : Program} {l : Launch} {e : Env} {s : State} {m : MethodId} {args : Array Value} {below : List Frame} {meth : Method} {c : Code} {A : Nat → Prop} {D : va_G} {κ : Nat → ClassId} (C0 : cx_ p s m meth c args cX7_sharesOf RX7 none 7 A) (qm : Nat → Nat) (m_state m_tape : Nat → Int32) (m_taped m_fault m_broken m_brokenAt m_spot m_here m_token m_value : Int32) (m_ends m_letters m_moments m_stepsAt : Nat → Int32) (m_steps m_latest : Int32) (m_matrix m_sides m_tried m_answers : Nat → Int64) (m_rowOf : Nat → Int32) (m_whole : Int64) (m_isKept m_lanes m_lengths m_cells : Nat → Int32) (m_torn l1 l4 l5 : Int32) (z1 : Nat → Int32) : ∀ (n : Nat) (l6 : Int32) (m_shares : Nat → Int32) (H : Heap) (locs : List Loc) (ls : Array Slot), wd_ D (tys0 κ) A s (List.flatten [pMo κ qm m_state m_tape m_taped m_fault m_broken m_brokenAt m_spot m_here m_token m_value m_ends m_letters m_moments m_stepsAt m_steps m_latest m_matrix m_sides m_tried m_answers m_rowOf m_whole m_shares m_isKept m_lanes m_lengths m_cells m_torn]) H locs → lv_has ls 7 [(0, .ref (qm 0)), (1, .int l1), (4, .int l4), (5, .int l5), (6, .int l6)] → FMo_sharesOf_L122 m_state l1 l4 l5 n l6 m_shares = some z1 → W p l e ({ frames := 2, cells := 0, slots := 0, locals := 47 } : Room) s m args below meth c H locs 0 0 (qV_ D (tys0 κ) A (List.flatten [pMo κ qm m_state m_tape m_taped m_fault m_broken m_brokenAt m_spot m_here m_token m_value m_ends m_letters m_moments m_stepsAt m_steps m_latest m_matrix m_sides m_tried m_answers m_rowOf m_whole z1 m_isKept m_lanes m_lengths m_cells m_torn]) below args s) (F0 m 122 ls []) := by
  obtain ⟨hx, hb, -, hml, hown, hts, -, -⟩ := id C0
  intro n
  induction n with
  | zero =>
    intro l6 m_shares H locs ls hw hl  hf
    cases hf
  | succ n ih =>
    intro l6 m_shares H locs ls hw hl  hf
    rw [FMo_sharesOf_L122.eq_2] at hf
    refine lv_iload hx hb dX7_sharesOf_122 (lv_at hl 4 rfl) ?_
    refine lv_if_le (tgt := 156) hx hb dX7_sharesOf_124 (by decide) (fun hc40 => ?_) (fun hc40 => ?_)
    · have hf := if_t hc40 hf
      obtain rfl := e1_ hf
      exact r_vret C0 hw dX7_sharesOf_156
    · have hf := if_f hc40 hf
      refine lv_aload_n hx hb dX7_sharesOf_127 rfl (lv_at hl 0 rfl) ?_
      refine r_get C0 hw 0 22 (v := .ref (qm 12)) rfl rfl inX7 (by decide) lk_X7_48 rfl dX7_sharesOf_128 ?_
      refine lv_aload_n hx hb dX7_sharesOf_131 rfl (lv_at hl 0 rfl) ?_
      refine lv_iload_n hx hb dX7_sharesOf_132 rfl (lv_at hl 1 rfl) ?_
      refine lv_iload hx hb dX7_sharesOf_133 (lv_at hl 2 rfl) ?_
      obtain ⟨r41, hk42, hf⟩ := b1_s hf
      refine rs_i (As := [.int l4]) (rest := [.int l1, .ref (qm 0), .ref (qm 12)]) (bs' := [pMo κ qm m_state m_tape m_taped m_fault m_broken m_brokenAt m_spot m_here m_token m_value m_ends m_letters m_moments m_stepsAt m_steps m_latest m_matrix m_sides m_tried m_answers m_rowOf m_whole m_shares m_isKept m_lanes m_lengths m_cells m_torn]) C0 hw (cMo_size l D κ l4 r41 hk42) cs_X7_189 ⟨rfl, rfl, Nat.le_of_ble_eq_true rfl, Nat.le_of_ble_eq_true rfl⟩ ⟨Nat.zero_le _, Nat.zero_le _⟩ [] [0] [0] rfl rfl rfl rfl (by decide) rfl rfl rfl hl.1 (by simp only [List.map, List.sum_cons, List.sum_nil, Value.category]; decide) dX7_sharesOf_135 (fun H locs hw hn43 => ?_)
      refine lv_iload hx hb dX7_sharesOf_138 (lv_at hl 4 rfl) ?_
      refine lv_isub hx hb dX7_sharesOf_140 ?_
      obtain ⟨r44, hk45, hf⟩ := b1_s hf
      refine rv_i (vq := (RX7, TX7, 28)) (As := [.int l1, .int (r41 - l6)]) (rest := [.ref (qm 12)]) (bs' := [pMo κ qm m_state m_tape m_taped m_fault m_broken m_brokenAt m_spot m_here m_token m_value m_ends m_letters m_moments m_stepsAt m_steps m_latest m_matrix m_sides m_tried m_answers m_rowOf m_whole m_shares m_isKept m_lanes m_lengths m_cells m_torn]) C0 hw (cMo_nextStiff l D κ qm m_state m_tape m_taped m_fault m_broken m_brokenAt m_spot m_here m_token m_value m_ends m_letters m_moments m_stepsAt m_steps m_latest m_matrix m_sides m_tried m_answers m_rowOf m_whole m_shares m_isKept m_lanes m_lengths m_cells m_torn l1 (r41 - l6) r44 hk45) cv_RX7_254 ⟨rfl, rfl, Nat.le_of_ble_eq_true rfl, Nat.le_of_ble_eq_true rfl⟩ ⟨Nat.zero_le _, Nat.zero_le _⟩ [0] [] [0] rfl rfl rfl rfl (by decide) rfl rfl rfl rfl rfl hl.1 (by simp only [List.map, List.sum_cons, List.sum_nil, Value.category]; decide) dX7_sharesOf_141 (fun H locs hw hn46 => ?_)
      refine lv_dup2_11 hx hb dX7_sharesOf_144 rfl rfl ?_
      obtain ⟨hi47, hf⟩ := gd_s hf
      refine r_iald C0 hw 12 0 rfl rfl hi47 dX7_sharesOf_145 ?_
      refine lv_iload hx hb dX7_sharesOf_146 (lv_at hl 3 rfl) ?_
      refine lv_iadd hx hb dX7_sharesOf_148 ?_
      obtain ⟨hi48, hf⟩ := gd_s hf
      obtain ⟨w49, ew49⟩ : ∃ z : Nat → Int32, z = (upd m_shares r44.toNatClampNeg ((m_shares r44.toNatClampNeg) + l5)) := ⟨_, rfl⟩
      have hf := lt_s_ hf w49 ew49
      refine r_iast C0 hw 12 0 rfl rfl hi48 dX7_sharesOf_149 (ws' := List.flatten [pMo κ qm m_state m_tape m_taped m_fault m_broken m_brokenAt m_spot m_here m_token m_value m_ends m_letters m_moments m_stepsAt m_steps m_latest m_matrix m_sides m_tried m_answers m_rowOf m_whole w49 m_isKept m_lanes m_lengths m_cells m_torn]) (by subst ew49; rfl) (fun H locs hw => ?_)
      obtain ⟨v50, ev50⟩ : ∃ z : Int32, z = (l6 + (-1 : Int32)) := ⟨_, rfl⟩
      have hf := lt_s_ hf v50 ev50
      refine lv_iinc (v := v50) (lv' := [(6, .int v50), (0, .ref (qm 0)), (1, .int l1), (4, .int l4), (5, .int l5)]) hx hb dX7_sharesOf_150 hl (k := 4) rfl (by rw [ev50]; rfl) (by decide) rfl (fun ls hl => ?_)
      refine lv_goto (tgt := 122) hx hb dX7_sharesOf_153 (by decide) ?_
      exact ih v50 w49 H locs ls hw (lv_sub hl [1, 2, 3, 4, 0] rfl)  hf
set_option maxHeartbeats 4000000 in
set_option maxRecDepth 100000 in
theorem cMo_sharesOf (l : Launch) (D : va_G) (κ : Nat → ClassId) (qm : Nat → Nat) (m_state m_tape : Nat → Int32) (m_taped m_fault m_broken m_brokenAt m_spot m_here m_token m_value : Int32) (m_ends m_letters m_moments m_stepsAt : Nat → Int32) (m_steps m_latest : Int32) (m_matrix m_sides m_tried m_answers : Nat → Int64) (m_rowOf : Nat → Int32) (m_whole : Int64) (m_shares m_isKept m_lanes m_lengths m_cells : Nat → Int32) (m_torn a1 : Int32) (z1 : Nat → Int32) (hf : FMo_sharesOf m_state m_moments m_shares a1 = some z1) : mV_ l yX7_sharesOf (Cond.code yX7_sharesOf cX7_sharesOf 7 none :: uw) ({ frames := 2, cells := 0, slots := 0, locals := 47 } : Room) D (tys0 κ) [.ref (qm 0), .int a1] (List.flatten [pMo κ qm m_state m_tape m_taped m_fault m_broken m_brokenAt m_spot m_here m_token m_value m_ends m_letters m_moments m_stepsAt m_steps m_latest m_matrix m_sides m_tried m_answers m_rowOf m_whole m_shares m_isKept m_lanes m_lengths m_cells m_torn])  (List.flatten [pMo κ qm m_state m_tape m_taped m_fault m_broken m_brokenAt m_spot m_here m_token m_value m_ends m_letters m_moments m_stepsAt m_steps m_latest m_matrix m_sides m_tried m_answers m_rowOf m_whole z1 m_isKept m_lanes m_lengths m_cells m_torn]) := by
  unfold FMo_sharesOf at hf
  refine mV_of (by decide) (Nat.le_of_ble_eq_true rfl) ?_
  intro p e s m below meth c A ls H locs C0 hw hl
  obtain ⟨hx, hb, -, hml, hown, hts, -, -⟩ := id C0
  have hl : lv_has ls 7 [(0, .ref (qm 0)), (1, .int a1)] := hl
  refine lv_aload_n hx hb dX7_sharesOf_0 rfl (lv_at hl 0 rfl) ?_
  refine lv_iload_n hx hb dX7_sharesOf_1 rfl (lv_at hl 1 rfl) ?_
  obtain ⟨r1, hk2, hf⟩ := b1_s hf
  refine rv_i (vq := (RX7, TX7, 28)) (As := [.int a1]) (rest := []) (bs' := [pMo κ qm m_state m_tape m_taped m_fault m_broken m_brokenAt m_spot m_here m_token m_value m_ends m_letters m_moments m_stepsAt m_steps m_latest m_matrix m_sides m_tried m_answers m_rowOf m_whole m_shares m_isKept m_lanes m_lengths m_cells m_torn]) C0 hw (cMo_outOf l D κ qm m_state m_tape m_taped m_fault m_broken m_brokenAt m_spot m_here m_token m_value m_ends m_letters m_moments m_stepsAt m_steps m_latest m_matrix m_sides m_tried m_answers m_rowOf m_whole m_shares m_isKept m_lanes m_lengths m_cells m_torn a1 r1 hk2) cv_RX7_180 ⟨rfl, rfl, Nat.le_of_ble_eq_true rfl, Nat.le_of_ble_eq_true rfl⟩ ⟨Nat.zero_le _, Nat.zero_le _⟩ [0] [] [0] rfl rfl rfl rfl (by decide) rfl rfl rfl rfl rfl hl.1 (by simp only [List.map, List.sum_cons, List.sum_nil, Value.category]; decide) dX7_sharesOf_2 (fun H locs hw hn3 => ?_)
  refine lv_ineg hx hb dX7_sharesOf_5 ?_
  refine lv_topi (fun v4 ev4 => ?_)
  have hf := lt_s_ hf v4 ev4
  refine lv_istore_n (lv' := [(2, .int v4), (0, .ref (qm 0)), (1, .int a1)]) hx hb dX7_sharesOf_6 rfl hl (by decide) rfl (fun ls hl => ?_)
  refine lv_aload_n hx hb dX7_sharesOf_7 rfl (lv_at hl 1 rfl) ?_
  refine lv_iload_n hx hb dX7_sharesOf_8 rfl (lv_at hl 2 rfl) ?_
  obtain ⟨r5, hk6, hf⟩ := b1_s hf
  refine rv_i (vq := (RX7, TX7, 28)) (As := [.int a1]) (rest := []) (bs' := [pMo κ qm m_state m_tape m_taped m_fault m_broken m_brokenAt m_spot m_here m_token m_value m_ends m_letters m_moments m_stepsAt m_steps m_latest m_matrix m_sides m_tried m_answers m_rowOf m_whole m_shares m_isKept m_lanes m_lengths m_cells m_torn]) C0 hw (cMo_stiffAt l D κ qm m_state m_tape m_taped m_fault m_broken m_brokenAt m_spot m_here m_token m_value m_ends m_letters m_moments m_stepsAt m_steps m_latest m_matrix m_sides m_tried m_answers m_rowOf m_whole m_shares m_isKept m_lanes m_lengths m_cells m_torn a1 r5 hk6) cv_RX7_201 ⟨rfl, rfl, Nat.le_of_ble_eq_true rfl, Nat.le_of_ble_eq_true rfl⟩ ⟨Nat.zero_le _, Nat.zero_le _⟩ [0] [] [0] rfl rfl rfl rfl (by decide) rfl rfl rfl rfl rfl hl.1 (by simp only [List.map, List.sum_cons, List.sum_nil, Value.category]; decide) dX7_sharesOf_9 (fun H locs hw hn7 => ?_)
  refine lv_istore_n (lv' := [(3, .int r5), (2, .int v4), (0, .ref (qm 0)), (1, .int a1)]) hx hb dX7_sharesOf_12 rfl hl (by decide) rfl (fun ls hl => ?_)
  refine lv_iload_n hx hb dX7_sharesOf_13 rfl (lv_at hl 1 rfl) ?_
  refine lv_istore (lv' := [(4, .int v4), (3, .int r5), (2, .int v4), (0, .ref (qm 0)), (1, .int a1)]) hx hb dX7_sharesOf_14 hl (by decide) rfl (fun ls hl => ?_)
  refine lv_iconst (v := 0) hx hb dX7_sharesOf_16 (by decide) ?_
  refine lv_istore (lv' := [(5, .int (0 : Int32)), (4, .int v4), (3, .int r5), (2, .int v4), (0, .ref (qm 0)), (1, .int a1)]) hx hb dX7_sharesOf_17 hl (by decide) rfl (fun ls hl => ?_)
  refine wMo_sharesOf_L19 C0 qm m_state m_tape m_taped m_fault m_broken m_brokenAt m_spot m_here m_token m_value m_ends m_letters m_moments m_stepsAt m_steps m_latest m_matrix m_sides m_tried m_answers m_rowOf m_whole m_isKept m_lanes m_lengths m_cells m_torn a1 v4 r5 v4 z1 _ (fun v12 w13 H locs ls hw hl  hf => ?_) 1000 (0 : Int32) m_shares H locs ls hw (lv_sub hl [4, 5, 3, 2, 1, 0] rfl)  hf
  refine lv_iconst (v := 0) hx hb dX7_sharesOf_40 (by decide) ?_
  refine lv_istore (lv' := [(5, .int (0 : Int32)), (0, .ref (qm 0)), (1, .int a1), (2, .int v4), (3, .int r5), (4, .int v4)]) hx hb dX7_sharesOf_41 hl (by decide) rfl (fun ls hl => ?_)
  refine wMo_sharesOf_L43 C0 qm m_state m_tape m_taped m_fault m_broken m_brokenAt m_spot m_here m_token m_value m_ends m_letters m_moments m_stepsAt m_steps m_latest m_matrix m_sides m_tried m_answers m_rowOf m_whole m_isKept m_lanes m_lengths m_cells m_torn a1 v4 r5 z1 _ (fun v33 v34 w35 H locs ls hw hl  hf => ?_) 1000 v4 (0 : Int32) w13 H locs ls hw (lv_sub hl [1, 2, 3, 4, 5, 0] rfl)  hf
  refine lv_iload hx hb dX7_sharesOf_103 (lv_at hl 2 rfl) ?_
  obtain ⟨j51, ej51, hf⟩ := lt_e hf
  have hj52 : ∀ (v36 : Int32) (H : Heap) (locs : List Loc) (ls : Array Slot), wd_ D (tys0 κ) A s (List.flatten [pMo κ qm m_state m_tape m_taped m_fault m_broken m_brokenAt m_spot m_here m_token m_value m_ends m_letters m_moments m_stepsAt m_steps m_latest m_matrix m_sides m_tried m_answers m_rowOf m_whole w35 m_isKept m_lanes m_lengths m_cells m_torn]) H locs → lv_has ls 7 [(0, .ref (qm 0)), (1, .int a1), (4, .int v33)] → j51 v36 = some z1 → W p l e ({ frames := 2, cells := 0, slots := 0, locals := 47 } : Room) s m ([.ref (qm 0), .int a1] : List Value).toArray below meth c H locs 0 0 (qV_ D (tys0 κ) A (List.flatten [pMo κ qm m_state m_tape m_taped m_fault m_broken m_brokenAt m_spot m_here m_token m_value m_ends m_letters m_moments m_stepsAt m_steps m_latest m_matrix m_sides m_tried m_answers m_rowOf m_whole z1 m_isKept m_lanes m_lengths m_cells m_torn]) below ([.ref (qm 0), .int a1] : List Value).toArray s) (F0 m 113 ls [.int v36]) := by
    intro v36 H locs ls hw hl  hf
    have hf : (b1_ (FMo_size v33) fun r37 => FMo_sharesOf_L122 m_state a1 v33 v36 1000 r37 w35) = some z1 := by rw [ej51] at hf; exact hf
    refine lv_istore (lv' := [(5, .int v36), (0, .ref (qm 0)), (1, .int a1), (4, .int v33)]) hx hb dX7_sharesOf_113 hl (by decide) rfl (fun ls hl => ?_)
    refine lv_iload hx hb dX7_sharesOf_115 (lv_at hl 3 rfl) ?_
    obtain ⟨r37, hk38, hf⟩ := b1_s hf
    refine rs_i (As := [.int v33]) (rest := []) (bs' := [pMo κ qm m_state m_tape m_taped m_fault m_broken m_brokenAt m_spot m_here m_token m_value m_ends m_letters m_moments m_stepsAt m_steps m_latest m_matrix m_sides m_tried m_answers m_rowOf m_whole w35 m_isKept m_lanes m_lengths m_cells m_torn]) C0 hw (cMo_size l D κ v33 r37 hk38) cs_X7_189 ⟨rfl, rfl, Nat.le_of_ble_eq_true rfl, Nat.le_of_ble_eq_true rfl⟩ ⟨Nat.zero_le _, Nat.zero_le _⟩ [] [0] [0] rfl rfl rfl rfl (by decide) rfl rfl rfl hl.1 (by simp only [List.map, List.sum_cons, List.sum_nil, Value.category]; decide) dX7_sharesOf_117 (fun H locs hw hn39 => ?_)
    refine lv_istore (lv' := [(6, .int r37), (5, .int v36), (0, .ref (qm 0)), (1, .int a1), (4, .int v33)]) hx hb dX7_sharesOf_120 hl (by decide) rfl (fun ls hl => ?_)
    exact wMo_sharesOf_L122 C0 qm m_state m_tape m_taped m_fault m_broken m_brokenAt m_spot m_here m_token m_value m_ends m_letters m_moments m_stepsAt m_steps m_latest m_matrix m_sides m_tried m_answers m_rowOf m_whole m_isKept m_lanes m_lengths m_cells m_torn a1 v33 v36 z1 1000 r37 w35 H locs ls hw (lv_sub hl [2, 3, 4, 1, 0] rfl)  hf
  refine lv_if_ge (tgt := 112) hx hb dX7_sharesOf_105 (by decide) (fun hc53 => ?_) (fun hc53 => ?_)
  · have hf := if_t hc53 hf
    refine lv_iconst (v := 1) hx hb dX7_sharesOf_112 (by decide) ?_
    exact hj52 (1 : Int32) H locs ls hw (lv_sub hl [0, 1, 2] rfl)  hf
  · have hf := if_f hc53 hf
    refine lv_iconst (v := -1) hx hb dX7_sharesOf_108 (by decide) ?_
    refine lv_goto (tgt := 113) hx hb dX7_sharesOf_109 (by decide) ?_
    exact hj52 (-1 : Int32) H locs ls hw (lv_sub hl [0, 1, 2] rfl)  hf
def FMo_share (m_state m_moments m_shares : Nat → Int32) (a1 a2 : Int32) : Option (Int32 × (Nat → Int32)) :=
  b1_ (FMo_isEnd m_state a1) fun r1 =>
  if r1 = 0 then
    some ((2000000000 : Int32), m_shares)
  else
    b1_ (FMo_in (a2.toInt64) (0 : Int64) (1 : Int64)) fun r5 =>
    if r5 = 0 then
      some ((2000000000 : Int32), m_shares)
    else
      b1_ (FMo_jointOf m_state a1) fun r9 =>
      gd_ r9 395 <|
      if (m_state r9.toNatClampNeg) = (1 : Int32) then
        some ((2000000000 : Int32), m_shares)
      else
        b1_ (FMo_jointOf m_state a1) fun r14 =>
        b1_ (FMo_sharesOf m_state m_moments m_shares r14) fun w17 =>
        if a2 = 0 then
          gd_ a1 20 <|
          some ((w17 a1.toNatClampNeg), w17)
        else
          gd_ a1 20 <|
          some (((w17 a1.toNatClampNeg) / (2 : Int32)), w17)
set_option maxHeartbeats 4000000 in
set_option maxRecDepth 100000 in
theorem cMo_share (l : Launch) (D : va_G) (κ : Nat → ClassId) (qm : Nat → Nat) (m_state m_tape : Nat → Int32) (m_taped m_fault m_broken m_brokenAt m_spot m_here m_token m_value : Int32) (m_ends m_letters m_moments m_stepsAt : Nat → Int32) (m_steps m_latest : Int32) (m_matrix m_sides m_tried m_answers : Nat → Int64) (m_rowOf : Nat → Int32) (m_whole : Int64) (m_shares m_isKept m_lanes m_lengths m_cells : Nat → Int32) (m_torn a1 a2 zr : Int32) (z1 : Nat → Int32) (hf : FMo_share m_state m_moments m_shares a1 a2 = some (zr, z1)) : mI_ l yX7_share (Cond.code yX7_share cX7_share 3 (some .int) :: uw) ({ frames := 3, cells := 0, slots := 0, locals := 73 } : Room) D (tys0 κ) [.ref (qm 0), .int a1, .int a2] (List.flatten [pMo κ qm m_state m_tape m_taped m_fault m_broken m_brokenAt m_spot m_here m_token m_value m_ends m_letters m_moments m_stepsAt m_steps m_latest m_matrix m_sides m_tried m_answers m_rowOf m_whole m_shares m_isKept m_lanes m_lengths m_cells m_torn]) nT_ zr (List.flatten [pMo κ qm m_state m_tape m_taped m_fault m_broken m_brokenAt m_spot m_here m_token m_value m_ends m_letters m_moments m_stepsAt m_steps m_latest m_matrix m_sides m_tried m_answers m_rowOf m_whole z1 m_isKept m_lanes m_lengths m_cells m_torn]) := by
  unfold FMo_share at hf
  refine mI_of (by decide) (Nat.le_of_ble_eq_true rfl) ?_
  intro p e s m below meth c A ls H locs C0 hw hl
  obtain ⟨hx, hb, -, hml, hown, hts, -, -⟩ := id C0
  have hl : lv_has ls 3 [(0, .ref (qm 0)), (1, .int a1), (2, .int a2)] := hl
  refine lv_aload_n hx hb dX7_share_0 rfl (lv_at hl 0 rfl) ?_
  refine lv_iload_n hx hb dX7_share_1 rfl (lv_at hl 1 rfl) ?_
  obtain ⟨r1, hk2, hf⟩ := b1_s hf
  refine rv_i (vq := (RX7, TX7, 28)) (As := [.int a1]) (rest := []) (bs' := [pMo κ qm m_state m_tape m_taped m_fault m_broken m_brokenAt m_spot m_here m_token m_value m_ends m_letters m_moments m_stepsAt m_steps m_latest m_matrix m_sides m_tried m_answers m_rowOf m_whole m_shares m_isKept m_lanes m_lengths m_cells m_torn]) C0 hw (cMo_isEnd l D κ qm m_state m_tape m_taped m_fault m_broken m_brokenAt m_spot m_here m_token m_value m_ends m_letters m_moments m_stepsAt m_steps m_latest m_matrix m_sides m_tried m_answers m_rowOf m_whole m_shares m_isKept m_lanes m_lengths m_cells m_torn a1 r1 hk2) cv_RX7_246 ⟨rfl, rfl, Nat.le_of_ble_eq_true rfl, Nat.le_of_ble_eq_true rfl⟩ ⟨Nat.zero_le _, Nat.zero_le _⟩ [0] [] [0] rfl rfl rfl rfl (by decide) rfl rfl rfl rfl rfl hl.1 (by simp only [List.map, List.sum_cons, List.sum_nil, Value.category]; decide) dX7_share_2 (fun H locs hw hn3 => ?_)
  refine lv_if_eq (tgt := 32) hx hb dX7_share_5 (by decide) (fun hc4 => ?_) (fun hc4 => ?_)
  · have hf := if_t hc4 hf
    refine lv_ldc (v := 2000000000) hx hb hown (hts _ kc_X7_204) dX7_share_32 ?_
    obtain ⟨rfl, rfl⟩ := e2_ hf
    exact r_iret C0 hw trivial dX7_share_34
  · have hf := if_f hc4 hf
    refine lv_iload_n hx hb dX7_share_8 rfl (lv_at hl 2 rfl) ?_
    refine lv_i2l hx hb dX7_share_9 rfl ?_
    refine lv_lconst (v := 0) hx hb dX7_share_10 (by decide) ?_
    refine lv_lconst (v := 1) hx hb dX7_share_11 (by decide) ?_
    obtain ⟨r5, hk6, hf⟩ := b1_s hf
    refine rs_i (As := [.long (a2.toInt64), .long (0 : Int64), .long (1 : Int64)]) (rest := []) (bs' := [pMo κ qm m_state m_tape m_taped m_fault m_broken m_brokenAt m_spot m_here m_token m_value m_ends m_letters m_moments m_stepsAt m_steps m_latest m_matrix m_sides m_tried m_answers m_rowOf m_whole m_shares m_isKept m_lanes m_lengths m_cells m_torn]) C0 hw (cMo_in l D κ (a2.toInt64) (0 : Int64) (1 : Int64) r5 hk6) cs_X7_66 ⟨rfl, rfl, Nat.le_of_ble_eq_true rfl, Nat.le_of_ble_eq_true rfl⟩ ⟨Nat.zero_le _, Nat.zero_le _⟩ [] [0] [0] rfl rfl rfl rfl (by decide) rfl rfl rfl hl.1 (by simp only [List.map, List.sum_cons, List.sum_nil, Value.category]; decide) dX7_share_12 (fun H locs hw hn7 => ?_)
    refine lv_if_eq (tgt := 32) hx hb dX7_share_15 (by decide) (fun hc8 => ?_) (fun hc8 => ?_)
    · have hf := if_t hc8 hf
      refine lv_ldc (v := 2000000000) hx hb hown (hts _ kc_X7_204) dX7_share_32 ?_
      obtain ⟨rfl, rfl⟩ := e2_ hf
      exact r_iret C0 hw trivial dX7_share_34
    · have hf := if_f hc8 hf
      refine lv_aload_n hx hb dX7_share_18 rfl (lv_at hl 0 rfl) ?_
      refine r_get C0 hw 0 0 (v := .ref (qm 1)) rfl rfl inX7 (by decide) lk_X7_7 rfl dX7_share_19 ?_
      refine lv_aload_n hx hb dX7_share_22 rfl (lv_at hl 0 rfl) ?_
      refine lv_iload_n hx hb dX7_share_23 rfl (lv_at hl 1 rfl) ?_
      obtain ⟨r9, hk10, hf⟩ := b1_s hf
      refine rv_i (vq := (RX7, TX7, 28)) (As := [.int a1]) (rest := [.ref (qm 1)]) (bs' := [pMo κ qm m_state m_tape m_taped m_fault m_broken m_brokenAt m_spot m_here m_token m_value m_ends m_letters m_moments m_stepsAt m_steps m_latest m_matrix m_sides m_tried m_answers m_rowOf m_whole m_shares m_isKept m_lanes m_lengths m_cells m_torn]) C0 hw (cMo_jointOf l D κ qm m_state m_tape m_taped m_fault m_broken m_brokenAt m_spot m_here m_token m_value m_ends m_letters m_moments m_stepsAt m_steps m_latest m_matrix m_sides m_tried m_answers m_rowOf m_whole m_shares m_isKept m_lanes m_lengths m_cells m_torn a1 r9 hk10) cv_RX7_168 ⟨rfl, rfl, Nat.le_of_ble_eq_true rfl, Nat.le_of_ble_eq_true rfl⟩ ⟨Nat.zero_le _, Nat.zero_le _⟩ [0] [] [0] rfl rfl rfl rfl (by decide) rfl rfl rfl rfl rfl hl.1 (by simp only [List.map, List.sum_cons, List.sum_nil, Value.category]; decide) dX7_share_24 (fun H locs hw hn11 => ?_)
      obtain ⟨hi12, hf⟩ := gd_s hf
      refine r_iald C0 hw 1 0 rfl rfl hi12 dX7_share_27 ?_
      refine lv_iconst (v := 1) hx hb dX7_share_28 (by decide) ?_
      refine lv_icmp_ne (tgt := 35) hx hb dX7_share_29 (by decide) (fun hc13 => ?_) (fun hc13 => ?_)
      · have hf := if_f hc13 hf
        refine lv_aload_n hx hb dX7_share_35 rfl (lv_at hl 0 rfl) ?_
        refine lv_aload_n hx hb dX7_share_36 rfl (lv_at hl 0 rfl) ?_
        refine lv_iload_n hx hb dX7_share_37 rfl (lv_at hl 1 rfl) ?_
        obtain ⟨r14, hk15, hf⟩ := b1_s hf
        refine rv_i (vq := (RX7, TX7, 28)) (As := [.int a1]) (rest := [.ref (qm 0)]) (bs' := [pMo κ qm m_state m_tape m_taped m_fault m_broken m_brokenAt m_spot m_here m_token m_value m_ends m_letters m_moments m_stepsAt m_steps m_latest m_matrix m_sides m_tried m_answers m_rowOf m_whole m_shares m_isKept m_lanes m_lengths m_cells m_torn]) C0 hw (cMo_jointOf l D κ qm m_state m_tape m_taped m_fault m_broken m_brokenAt m_spot m_here m_token m_value m_ends m_letters m_moments m_stepsAt m_steps m_latest m_matrix m_sides m_tried m_answers m_rowOf m_whole m_shares m_isKept m_lanes m_lengths m_cells m_torn a1 r14 hk15) cv_RX7_168 ⟨rfl, rfl, Nat.le_of_ble_eq_true rfl, Nat.le_of_ble_eq_true rfl⟩ ⟨Nat.zero_le _, Nat.zero_le _⟩ [0] [] [0] rfl rfl rfl rfl (by decide) rfl rfl rfl rfl rfl hl.1 (by simp only [List.map, List.sum_cons, List.sum_nil, Value.category]; decide) dX7_share_38 (fun H locs hw hn16 => ?_)
        obtain ⟨w17, hk18, hf⟩ := b1_s hf
        refine rv_v (vq := (RX7, TX7, 28)) (As := [.int r14]) (rest := []) (bs' := [pMo κ qm m_state m_tape m_taped m_fault m_broken m_brokenAt m_spot m_here m_token m_value m_ends m_letters m_moments m_stepsAt m_steps m_latest m_matrix m_sides m_tried m_answers m_rowOf m_whole w17 m_isKept m_lanes m_lengths m_cells m_torn]) C0 hw (cMo_sharesOf l D κ qm m_state m_tape m_taped m_fault m_broken m_brokenAt m_spot m_here m_token m_value m_ends m_letters m_moments m_stepsAt m_steps m_latest m_matrix m_sides m_tried m_answers m_rowOf m_whole m_shares m_isKept m_lanes m_lengths m_cells m_torn r14 w17 hk18) cv_RX7_257 ⟨rfl, rfl, Nat.le_of_ble_eq_true rfl, Nat.le_of_ble_eq_true rfl⟩ ⟨Nat.zero_le _, Nat.zero_le _⟩ [0] [] [0] rfl rfl rfl rfl (by decide) rfl rfl rfl rfl rfl hl.1 (by simp only [List.map, List.sum_cons, List.sum_nil, Value.category]; decide) dX7_share_41 (fun H locs hw => ?_)
        refine lv_iload_n hx hb dX7_share_44 rfl (lv_at hl 2 rfl) ?_
        refine lv_if_ne (tgt := 57) hx hb dX7_share_45 (by decide) (fun hc20 => ?_) (fun hc20 => ?_)
        · have hf := if_f hc20 hf
          refine lv_aload_n hx hb dX7_share_57 rfl (lv_at hl 0 rfl) ?_
          refine r_get C0 hw 0 22 (v := .ref (qm 12)) rfl rfl inX7 (by decide) lk_X7_48 rfl dX7_share_58 ?_
          refine lv_iload_n hx hb dX7_share_61 rfl (lv_at hl 1 rfl) ?_
          obtain ⟨hi21, hf⟩ := gd_s hf
          refine r_iald C0 hw 12 0 rfl rfl hi21 dX7_share_62 ?_
          refine lv_iconst (v := 2) hx hb dX7_share_63 (by decide) ?_
          refine lv_idiv hx hb dX7_share_64 (by decide) ?_
          obtain ⟨rfl, rfl⟩ := e2_ hf
          exact r_iret C0 hw trivial dX7_share_65
        · have hf := if_t hc20 hf
          refine lv_aload_n hx hb dX7_share_48 rfl (lv_at hl 0 rfl) ?_
          refine r_get C0 hw 0 22 (v := .ref (qm 12)) rfl rfl inX7 (by decide) lk_X7_48 rfl dX7_share_49 ?_
          refine lv_iload_n hx hb dX7_share_52 rfl (lv_at hl 1 rfl) ?_
          obtain ⟨hi22, hf⟩ := gd_s hf
          refine r_iald C0 hw 12 0 rfl rfl hi22 dX7_share_53 ?_
          refine lv_goto (tgt := 65) hx hb dX7_share_54 (by decide) ?_
          obtain ⟨rfl, rfl⟩ := e2_ hf
          exact r_iret C0 hw trivial dX7_share_65
      · have hf := if_t hc13 hf
        refine lv_ldc (v := 2000000000) hx hb hown (hts _ kc_X7_204) dX7_share_32 ?_
        obtain ⟨rfl, rfl⟩ := e2_ hf
        exact r_iret C0 hw trivial dX7_share_34
def FMo_rank_L21 (m_state m_moments : Nat → Int32) (l2 : Int32) (k_ : Int32 → Int32 → Option (Int32)) : Nat → Int32 → Int32 → Option (Int32)
  | 0, _, _ => none
  | n + 1, l3, l4 =>
      b1_ (FMo_joints m_state) fun r6 =>
      if r6 ≤ l4 then
        k_ l3 l4
      else
        b1_ (FMo_outOf m_state m_moments l4) fun r10 =>
        b1_ (FMo_size r10) fun r13 =>
        b1_ (FMo_outOf m_state m_moments l2) fun r16 =>
        b1_ (FMo_size r16) fun r19 =>
        b1_ (FMo_isLoose m_state m_moments l4) fun r22 =>
        if r22 = 0 then
          lt_ (l3 + (0 : Int32)) fun v26 =>
          lt_ (l4 + (1 : Int32)) fun v27 =>
          FMo_rank_L21 m_state m_moments l2 k_ n v26 v27
        else
          if r19 < r13 then
            lt_ (l3 + (1 : Int32)) fun v29 =>
            lt_ (l4 + (1 : Int32)) fun v30 =>
            FMo_rank_L21 m_state m_moments l2 k_ n v29 v30
          else
            if r13 = r19 then
              if l2 ≤ l4 then
                lt_ (l3 + (0 : Int32)) fun v35 =>
                lt_ (l4 + (1 : Int32)) fun v36 =>
                FMo_rank_L21 m_state m_moments l2 k_ n v35 v36
              else
                lt_ (l3 + (1 : Int32)) fun v37 =>
                lt_ (l4 + (1 : Int32)) fun v38 =>
                FMo_rank_L21 m_state m_moments l2 k_ n v37 v38
            else
              lt_ (l3 + (0 : Int32)) fun v32 =>
              lt_ (l4 + (1 : Int32)) fun v33 =>
              FMo_rank_L21 m_state m_moments l2 k_ n v32 v33
def FMo_rank_L8 (m_state m_moments : Nat → Int32) (l1 : Int32) : Nat → Int32 → Option (Int32)
  | 0, _ => none
  | n + 1, l2 =>
      b1_ (FMo_joints m_state) fun r2 =>
      if r2 ≤ l2 then
        some ((-4 : Int32))
      else
        FMo_rank_L21 m_state m_moments l2 (fun (v40 : Int32) (v41 : Int32) =>
            b1_ (FMo_isLoose m_state m_moments l2) fun r42 =>
            if r42 = 0 then
              lt_ (l2 + (1 : Int32)) fun v46 =>
              FMo_rank_L8 m_state m_moments l1 n v46
            else
              if v40 = l1 then
                some (l2)
              else
                lt_ (l2 + (1 : Int32)) fun v48 =>
                FMo_rank_L8 m_state m_moments l1 n v48) 1000 (0 : Int32) (0 : Int32)
def FMo_rank (m_state m_moments : Nat → Int32) (a1 : Int32) : Option (Int32) :=
  if 0 ≤ a1 then
    FMo_rank_L8 m_state m_moments a1 1000 (0 : Int32)
  else
    some ((-1 : Int32))
set_option maxHeartbeats 4000000 in
set_option maxRecDepth 100000 in
theorem wMo_rank_L21 {p : Program} {l : Launch} {e : Env} {s : State} {m : MethodId} {args : Array Value} {below : List Frame} {meth : Method} {c : Code} {A : Nat → Prop} {D : va_G} {κ : Nat → ClassId} (C0 : cx_ p s m meth c args cX7_rank RX7 (some .int) 7 A) (qm : Nat → Nat) (m_state m_tape : Nat → Int32) (m_taped m_fault m_broken m_brokenAt m_spot m_here m_token m_value : Int32) (m_ends m_letters m_moments m_stepsAt : Nat → Int32) (m_steps m_latest : Int32) (m_matrix m_sides m_tried m_answers : Nat → Int64) (m_rowOf : Nat → Int32) (m_whole : Int64) (m_shares m_isKept m_lanes m_lengths m_cells : Nat → Int32) (m_torn l1 l2 : Int32) (zr : Int32) (k_ : Int32 → Int32 → Option (Int32)) (hk_ : ∀ (l3 : Int32) (l4 : Int32) (H : Heap) (locs : List Loc) (ls : Array Slot), wd_ D (tys0 κ) A s (List.flatten [pMo κ qm m_state m_tape m_taped m_fault m_broken m_brokenAt m_spot m_here m_token m_value m_ends m_letters m_moments m_stepsAt m_steps m_latest m_matrix m_sides m_tried m_answers m_rowOf m_whole m_shares m_isKept m_lanes m_lengths m_cells m_torn]) H locs → lv_has ls 7 [(0, .ref (qm 0)), (1, .int l1), (2, .int l2), (3, .int l3)] → k_ l3 l4 = some zr → W p l e ({ frames := 4, cells := 0, slots := 0, locals := 86 } : Room) s m args below meth c H locs 0 0 (qI_ D (tys0 κ) A nT_ zr (List.flatten [pMo κ qm m_state m_tape m_taped m_fault m_broken m_brokenAt m_spot m_here m_token m_value m_ends m_letters m_moments m_stepsAt m_steps m_latest m_matrix m_sides m_tried m_answers m_rowOf m_whole m_shares m_isKept m_lanes m_lengths m_cells m_torn]) below args s) (F0 m 94 ls [])) : ∀ (n : Nat) (l3 : Int32) (l4 : Int32) (H : Heap) (locs : List Loc) (ls : Array Slot), wd_ D (tys0 κ) A s (List.flatten [pMo κ qm m_state m_tape m_taped m_fault m_broken m_brokenAt m_spot m_here m_token m_value m_ends m_letters m_moments m_stepsAt m_steps m_latest m_matrix m_sides m_tried m_answers m_rowOf m_whole m_shares m_isKept m_lanes m_lengths m_cells m_torn]) H locs → lv_has ls 7 [(0, .ref (qm 0)), (1, .int l1), (2, .int l2), (3, .int l3), (4, .int l4)] → FMo_rank_L21 m_state m_moments l2 k_ n l3 l4 = some zr → W p l e ({ frames := 4, cells := 0, slots := 0, locals := 86 } : Room) s m args below meth c H locs 0 0 (qI_ D (tys0 κ) A nT_ zr (List.flatten [pMo κ qm m_state m_tape m_taped m_fault m_broken m_brokenAt m_spot m_here m_token m_value m_ends m_letters m_moments m_stepsAt m_steps m_latest m_matrix m_sides m_tried m_answers m_rowOf m_whole m_shares m_isKept m_lanes m_lengths m_cells m_torn]) below args s) (F0 m 21 ls []) := by
  obtain ⟨hx, hb, -, hml, hown, hts, -, -⟩ := id C0
  intro n
  induction n with
  | zero =>
    intro l3 l4 H locs ls hw hl  hf
    cases hf
  | succ n ih =>
    intro l3 l4 H locs ls hw hl  hf
    rw [FMo_rank_L21.eq_2] at hf
    refine lv_iload hx hb dX7_rank_21 (lv_at hl 4 rfl) ?_
    refine lv_aload_n hx hb dX7_rank_23 rfl (lv_at hl 0 rfl) ?_
    obtain ⟨r6, hk7, hf⟩ := b1_s hf
    refine rv_i (vq := (RX7, TX7, 28)) (As := []) (rest := [.int l4]) (bs' := [pMo κ qm m_state m_tape m_taped m_fault m_broken m_brokenAt m_spot m_here m_token m_value m_ends m_letters m_moments m_stepsAt m_steps m_latest m_matrix m_sides m_tried m_answers m_rowOf m_whole m_shares m_isKept m_lanes m_lengths m_cells m_torn]) C0 hw (cMo_joints l D κ qm m_state m_tape m_taped m_fault m_broken m_brokenAt m_spot m_here m_token m_value m_ends m_letters m_moments m_stepsAt m_steps m_latest m_matrix m_sides m_tried m_answers m_rowOf m_whole m_shares m_isKept m_lanes m_lengths m_cells m_torn r6 hk7) cv_RX7_183 ⟨rfl, rfl, Nat.le_of_ble_eq_true rfl, Nat.le_of_ble_eq_true rfl⟩ ⟨Nat.zero_le _, Nat.zero_le _⟩ [0] [] [0] rfl rfl rfl rfl (by decide) rfl rfl rfl rfl rfl hl.1 (by simp only [List.map, List.sum_cons, List.sum_nil, Value.category]; decide) dX7_rank_24 (fun H locs hw hn8 => ?_)
    refine lv_icmp_ge (tgt := 94) hx hb dX7_rank_27 (by decide) (fun hc9 => ?_) (fun hc9 => ?_)
    · have hf := if_t hc9 hf
      exact hk_ l3 l4 H locs ls hw (lv_sub hl [0, 1, 2, 3] rfl)  hf
    · have hf := if_f hc9 hf
      refine lv_aload_n hx hb dX7_rank_30 rfl (lv_at hl 0 rfl) ?_
      refine lv_iload hx hb dX7_rank_31 (lv_at hl 4 rfl) ?_
      obtain ⟨r10, hk11, hf⟩ := b1_s hf
      refine rv_i (vq := (RX7, TX7, 28)) (As := [.int l4]) (rest := []) (bs' := [pMo κ qm m_state m_tape m_taped m_fault m_broken m_brokenAt m_spot m_here m_token m_value m_ends m_letters m_moments m_stepsAt m_steps m_latest m_matrix m_sides m_tried m_answers m_rowOf m_whole m_shares m_isKept m_lanes m_lengths m_cells m_torn]) C0 hw (cMo_outOf l D κ qm m_state m_tape m_taped m_fault m_broken m_brokenAt m_spot m_here m_token m_value m_ends m_letters m_moments m_stepsAt m_steps m_latest m_matrix m_sides m_tried m_answers m_rowOf m_whole m_shares m_isKept m_lanes m_lengths m_cells m_torn l4 r10 hk11) cv_RX7_180 ⟨rfl, rfl, Nat.le_of_ble_eq_true rfl, Nat.le_of_ble_eq_true rfl⟩ ⟨Nat.zero_le _, Nat.zero_le _⟩ [0] [] [0] rfl rfl rfl rfl (by decide) rfl rfl rfl rfl rfl hl.1 (by simp only [List.map, List.sum_cons, List.sum_nil, Value.category]; decide) dX7_rank_33 (fun H locs hw hn12 => ?_)
      obtain ⟨r13, hk14, hf⟩ := b1_s hf
      refine rs_i (As := [.int r10]) (rest := []) (bs' := [pMo κ qm m_state m_tape m_taped m_fault m_broken m_brokenAt m_spot m_here m_token m_value m_ends m_letters m_moments m_stepsAt m_steps m_latest m_matrix m_sides m_tried m_answers m_rowOf m_whole m_shares m_isKept m_lanes m_lengths m_cells m_torn]) C0 hw (cMo_size l D κ r10 r13 hk14) cs_X7_189 ⟨rfl, rfl, Nat.le_of_ble_eq_true rfl, Nat.le_of_ble_eq_true rfl⟩ ⟨Nat.zero_le _, Nat.zero_le _⟩ [] [0] [0] rfl rfl rfl rfl (by decide) rfl rfl rfl hl.1 (by simp only [List.map, List.sum_cons, List.sum_nil, Value.category]; decide) dX7_rank_36 (fun H locs hw hn15 => ?_)
      refine lv_istore (lv' := [(5, .int r13), (0, .ref (qm 0)), (1, .int l1), (2, .int l2), (3, .int l3), (4, .int l4)]) hx hb dX7_rank_39 hl (by decide) rfl (fun ls hl => ?_)
      refine lv_aload_n hx hb dX7_rank_41 rfl (lv_at hl 1 rfl) ?_
      refine lv_iload_n hx hb dX7_rank_42 rfl (lv_at hl 3 rfl) ?_
      obtain ⟨r16, hk17, hf⟩ := b1_s hf
      refine rv_i (vq := (RX7, TX7, 28)) (As := [.int l2]) (rest := []) (bs' := [pMo κ qm m_state m_tape m_taped m_fault m_broken m_brokenAt m_spot m_here m_token m_value m_ends m_letters m_moments m_stepsAt m_steps m_latest m_matrix m_sides m_tried m_answers m_rowOf m_whole m_shares m_isKept m_lanes m_lengths m_cells m_torn]) C0 hw (cMo_outOf l D κ qm m_state m_tape m_taped m_fault m_broken m_brokenAt m_spot m_here m_token m_value m_ends m_letters m_moments m_stepsAt m_steps m_latest m_matrix m_sides m_tried m_answers m_rowOf m_whole m_shares m_isKept m_lanes m_lengths m_cells m_torn l2 r16 hk17) cv_RX7_180 ⟨rfl, rfl, Nat.le_of_ble_eq_true rfl, Nat.le_of_ble_eq_true rfl⟩ ⟨Nat.zero_le _, Nat.zero_le _⟩ [0] [] [0] rfl rfl rfl rfl (by decide) rfl rfl rfl rfl rfl hl.1 (by simp only [List.map, List.sum_cons, List.sum_nil, Value.category]; decide) dX7_rank_43 (fun H locs hw hn18 => ?_)
      obtain ⟨r19, hk20, hf⟩ := b1_s hf
      refine rs_i (As := [.int r16]) (rest := []) (bs' := [pMo κ qm m_state m_tape m_taped m_fault m_broken m_brokenAt m_spot m_here m_token m_value m_ends m_letters m_moments m_stepsAt m_steps m_latest m_matrix m_sides m_tried m_answers m_rowOf m_whole m_shares m_isKept m_lanes m_lengths m_cells m_torn]) C0 hw (cMo_size l D κ r16 r19 hk20) cs_X7_189 ⟨rfl, rfl, Nat.le_of_ble_eq_true rfl, Nat.le_of_ble_eq_true rfl⟩ ⟨Nat.zero_le _, Nat.zero_le _⟩ [] [0] [0] rfl rfl rfl rfl (by decide) rfl rfl rfl hl.1 (by simp only [List.map, List.sum_cons, List.sum_nil, Value.category]; decide) dX7_rank_46 (fun H locs hw hn21 => ?_)
      refine lv_istore (lv' := [(6, .int r19), (5, .int r13), (0, .ref (qm 0)), (1, .int l1), (2, .int l2), (3, .int l3), (4, .int l4)]) hx hb dX7_rank_49 hl (by decide) rfl (fun ls hl => ?_)
      refine lv_iload_n hx hb dX7_rank_51 rfl (lv_at hl 5 rfl) ?_
      refine lv_aload_n hx hb dX7_rank_52 rfl (lv_at hl 2 rfl) ?_
      refine lv_iload hx hb dX7_rank_53 (lv_at hl 6 rfl) ?_
      obtain ⟨r22, hk23, hf⟩ := b1_s hf
      refine rv_i (vq := (RX7, TX7, 28)) (As := [.int l4]) (rest := [.int l3]) (bs' := [pMo κ qm m_state m_tape m_taped m_fault m_broken m_brokenAt m_spot m_here m_token m_value m_ends m_letters m_moments m_stepsAt m_steps m_latest m_matrix m_sides m_tried m_answers m_rowOf m_whole m_shares m_isKept m_lanes m_lengths m_cells m_torn]) C0 hw (cMo_isLoose l D κ qm m_state m_tape m_taped m_fault m_broken m_brokenAt m_spot m_here m_token m_value m_ends m_letters m_moments m_stepsAt m_steps m_latest m_matrix m_sides m_tried m_answers m_rowOf m_whole m_shares m_isKept m_lanes m_lengths m_cells m_torn l4 r22 hk23) cv_RX7_186 ⟨rfl, rfl, Nat.le_of_ble_eq_true rfl, Nat.le_of_ble_eq_true rfl⟩ ⟨Nat.zero_le _, Nat.zero_le _⟩ [0] [] [0] rfl rfl rfl rfl (by decide) rfl rfl rfl rfl rfl hl.1 (by simp only [List.map, List.sum_cons, List.sum_nil, Value.category]; decide) dX7_rank_55 (fun H locs hw hn24 => ?_)
      refine lv_if_eq (tgt := 85) hx hb dX7_rank_58 (by decide) (fun hc25 => ?_) (fun hc25 => ?_)
      · have hf := if_t hc25 hf
        refine lv_iconst (v := 0) hx hb dX7_rank_85 (by decide) ?_
        refine lv_iadd hx hb dX7_rank_86 ?_
        refine lv_topi (fun v26 ev26 => ?_)
        have hf := lt_s_ hf v26 ev26
        refine lv_istore_n (lv' := [(3, .int v26), (6, .int r19), (5, .int r13), (0, .ref (qm 0)), (1, .int l1), (2, .int l2), (4, .int l4)]) hx hb dX7_rank_87 rfl hl (by decide) rfl (fun ls hl => ?_)
        obtain ⟨v27, ev27⟩ : ∃ z : Int32, z = (l4 + (1 : Int32)) := ⟨_, rfl⟩
        have hf := lt_s_ hf v27 ev27
        refine lv_iinc (v := v27) (lv' := [(4, .int v27), (3, .int v26), (6, .int r19), (5, .int r13), (0, .ref (qm 0)), (1, .int l1), (2, .int l2)]) hx hb dX7_rank_88 hl (k := 6) rfl (by rw [ev27]; rfl) (by decide) rfl (fun ls hl => ?_)
        refine lv_goto (tgt := 21) hx hb dX7_rank_91 (by decide) ?_
        exact ih v26 v27 H locs ls hw (lv_sub hl [4, 5, 6, 1, 0] rfl)  hf
      · have hf := if_f hc25 hf
        refine lv_iload hx hb dX7_rank_61 (lv_at hl 1 rfl) ?_
        refine lv_iload hx hb dX7_rank_63 (lv_at hl 0 rfl) ?_
        refine lv_icmp_gt (tgt := 81) hx hb dX7_rank_65 (by decide) (fun hc28 => ?_) (fun hc28 => ?_)
        · have hf := if_t hc28 hf
          refine lv_iconst (v := 1) hx hb dX7_rank_81 (by decide) ?_
          refine lv_goto (tgt := 86) hx hb dX7_rank_82 (by decide) ?_
          refine lv_iadd hx hb dX7_rank_86 ?_
          refine lv_topi (fun v29 ev29 => ?_)
          have hf := lt_s_ hf v29 ev29
          refine lv_istore_n (lv' := [(3, .int v29), (6, .int r19), (5, .int r13), (0, .ref (qm 0)), (1, .int l1), (2, .int l2), (4, .int l4)]) hx hb dX7_rank_87 rfl hl (by decide) rfl (fun ls hl => ?_)
          obtain ⟨v30, ev30⟩ : ∃ z : Int32, z = (l4 + (1 : Int32)) := ⟨_, rfl⟩
          have hf := lt_s_ hf v30 ev30
          refine lv_iinc (v := v30) (lv' := [(4, .int v30), (3, .int v29), (6, .int r19), (5, .int r13), (0, .ref (qm 0)), (1, .int l1), (2, .int l2)]) hx hb dX7_rank_88 hl (k := 6) rfl (by rw [ev30]; rfl) (by decide) rfl (fun ls hl => ?_)
          refine lv_goto (tgt := 21) hx hb dX7_rank_91 (by decide) ?_
          exact ih v29 v30 H locs ls hw (lv_sub hl [4, 5, 6, 1, 0] rfl)  hf
        · have hf := if_f hc28 hf
          refine lv_iload hx hb dX7_rank_68 (lv_at hl 1 rfl) ?_
          refine lv_iload hx hb dX7_rank_70 (lv_at hl 0 rfl) ?_
          refine lv_icmp_ne (tgt := 85) hx hb dX7_rank_72 (by decide) (fun hc31 => ?_) (fun hc31 => ?_)
          · have hf := if_f hc31 hf
            refine lv_iconst (v := 0) hx hb dX7_rank_85 (by decide) ?_
            refine lv_iadd hx hb dX7_rank_86 ?_
            refine lv_topi (fun v32 ev32 => ?_)
            have hf := lt_s_ hf v32 ev32
            refine lv_istore_n (lv' := [(3, .int v32), (6, .int r19), (5, .int r13), (0, .ref (qm 0)), (1, .int l1), (2, .int l2), (4, .int l4)]) hx hb dX7_rank_87 rfl hl (by decide) rfl (fun ls hl => ?_)
            obtain ⟨v33, ev33⟩ : ∃ z : Int32, z = (l4 + (1 : Int32)) := ⟨_, rfl⟩
            have hf := lt_s_ hf v33 ev33
            refine lv_iinc (v := v33) (lv' := [(4, .int v33), (3, .int v32), (6, .int r19), (5, .int r13), (0, .ref (qm 0)), (1, .int l1), (2, .int l2)]) hx hb dX7_rank_88 hl (k := 6) rfl (by rw [ev33]; rfl) (by decide) rfl (fun ls hl => ?_)
            refine lv_goto (tgt := 21) hx hb dX7_rank_91 (by decide) ?_
            exact ih v32 v33 H locs ls hw (lv_sub hl [4, 5, 6, 1, 0] rfl)  hf
          · have hf := if_t hc31 hf
            refine lv_iload hx hb dX7_rank_75 (lv_at hl 6 rfl) ?_
            refine lv_iload_n hx hb dX7_rank_77 rfl (lv_at hl 4 rfl) ?_
            refine lv_icmp_ge (tgt := 85) hx hb dX7_rank_78 (by decide) (fun hc34 => ?_) (fun hc34 => ?_)
            · have hf := if_t hc34 hf
              refine lv_iconst (v := 0) hx hb dX7_rank_85 (by decide) ?_
              refine lv_iadd hx hb dX7_rank_86 ?_
              refine lv_topi (fun v35 ev35 => ?_)
              have hf := lt_s_ hf v35 ev35
              refine lv_istore_n (lv' := [(3, .int v35), (6, .int r19), (5, .int r13), (0, .ref (qm 0)), (1, .int l1), (2, .int l2), (4, .int l4)]) hx hb dX7_rank_87 rfl hl (by decide) rfl (fun ls hl => ?_)
              obtain ⟨v36, ev36⟩ : ∃ z : Int32, z = (l4 + (1 : Int32)) := ⟨_, rfl⟩
              have hf := lt_s_ hf v36 ev36
              refine lv_iinc (v := v36) (lv' := [(4, .int v36), (3, .int v35), (6, .int r19), (5, .int r13), (0, .ref (qm 0)), (1, .int l1), (2, .int l2)]) hx hb dX7_rank_88 hl (k := 6) rfl (by rw [ev36]; rfl) (by decide) rfl (fun ls hl => ?_)
              refine lv_goto (tgt := 21) hx hb dX7_rank_91 (by decide) ?_
              exact ih v35 v36 H locs ls hw (lv_sub hl [4, 5, 6, 1, 0] rfl)  hf
            · have hf := if_f hc34 hf
              refine lv_iconst (v := 1) hx hb dX7_rank_81 (by decide) ?_
              refine lv_goto (tgt := 86) hx hb dX7_rank_82 (by decide) ?_
              refine lv_iadd hx hb dX7_rank_86 ?_
              refine lv_topi (fun v37 ev37 => ?_)
              have hf := lt_s_ hf v37 ev37
              refine lv_istore_n (lv' := [(3, .int v37), (6, .int r19), (5, .int r13), (0, .ref (qm 0)), (1, .int l1), (2, .int l2), (4, .int l4)]) hx hb dX7_rank_87 rfl hl (by decide) rfl (fun ls hl => ?_)
              obtain ⟨v38, ev38⟩ : ∃ z : Int32, z = (l4 + (1 : Int32)) := ⟨_, rfl⟩
              have hf := lt_s_ hf v38 ev38
              refine lv_iinc (v := v38) (lv' := [(4, .int v38), (3, .int v37), (6, .int r19), (5, .int r13), (0, .ref (qm 0)), (1, .int l1), (2, .int l2)]) hx hb dX7_rank_88 hl (k := 6) rfl (by rw [ev38]; rfl) (by decide) rfl (fun ls hl => ?_)
              refine lv_goto (tgt := 21) hx hb dX7_rank_91 (by decide) ?_
              exact ih v37 v38 H locs ls hw (lv_sub hl [4, 5, 6, 1, 0] rfl)  hf
set_option maxHeartbeats 4000000 in
set_option maxRecDepth 100000 in
theorem wMo_rank_L8 {p : Program} {l : Launch} {e : Env} {s : State} {m : MethodId} {args : Array Value} {below : List Frame} {meth : Method} {c : Code} {A : Nat → Prop} {D : va_G} {κ : Nat → ClassId} (C0 : cx_ p s m meth c args cX7_rank RX7 (some .int) 7 A) (qm : Nat → Nat) (m_state m_tape : Nat → Int32) (m_taped m_fault m_broken m_brokenAt m_spot m_here m_token m_value : Int32) (m_ends m_letters m_moments m_stepsAt : Nat → Int32) (m_steps m_latest : Int32) (m_matrix m_sides m_tried m_answers : Nat → Int64) (m_rowOf : Nat → Int32) (m_whole : Int64) (m_shares m_isKept m_lanes m_lengths m_cells : Nat → Int32) (m_torn l1 : Int32) (zr : Int32) : ∀ (n : Nat) (l2 : Int32) (H : Heap) (locs : List Loc) (ls : Array Slot), wd_ D (tys0 κ) A s (List.flatten [pMo κ qm m_state m_tape m_taped m_fault m_broken m_brokenAt m_spot m_here m_token m_value m_ends m_letters m_moments m_stepsAt m_steps m_latest m_matrix m_sides m_tried m_answers m_rowOf m_whole m_shares m_isKept m_lanes m_lengths m_cells m_torn]) H locs → lv_has ls 7 [(0, .ref (qm 0)), (1, .int l1), (2, .int l2)] → FMo_rank_L8 m_state m_moments l1 n l2 = some zr → W p l e ({ frames := 4, cells := 0, slots := 0, locals := 86 } : Room) s m args below meth c H locs 0 0 (qI_ D (tys0 κ) A nT_ zr (List.flatten [pMo κ qm m_state m_tape m_taped m_fault m_broken m_brokenAt m_spot m_here m_token m_value m_ends m_letters m_moments m_stepsAt m_steps m_latest m_matrix m_sides m_tried m_answers m_rowOf m_whole m_shares m_isKept m_lanes m_lengths m_cells m_torn]) below args s) (F0 m 8 ls []) := by
  obtain ⟨hx, hb, -, hml, hown, hts, -, -⟩ := id C0
  intro n
  induction n with
  | zero =>
    intro l2 H locs ls hw hl  hf
    cases hf
  | succ n ih =>
    intro l2 H locs ls hw hl  hf
    rw [FMo_rank_L8.eq_2] at hf
    refine lv_iload_n hx hb dX7_rank_8 rfl (lv_at hl 2 rfl) ?_
    refine lv_aload_n hx hb dX7_rank_9 rfl (lv_at hl 0 rfl) ?_
    obtain ⟨r2, hk3, hf⟩ := b1_s hf
    refine rv_i (vq := (RX7, TX7, 28)) (As := []) (rest := [.int l2]) (bs' := [pMo κ qm m_state m_tape m_taped m_fault m_broken m_brokenAt m_spot m_here m_token m_value m_ends m_letters m_moments m_stepsAt m_steps m_latest m_matrix m_sides m_tried m_answers m_rowOf m_whole m_shares m_isKept m_lanes m_lengths m_cells m_torn]) C0 hw (cMo_joints l D κ qm m_state m_tape m_taped m_fault m_broken m_brokenAt m_spot m_here m_token m_value m_ends m_letters m_moments m_stepsAt m_steps m_latest m_matrix m_sides m_tried m_answers m_rowOf m_whole m_shares m_isKept m_lanes m_lengths m_cells m_torn r2 hk3) cv_RX7_183 ⟨rfl, rfl, Nat.le_of_ble_eq_true rfl, Nat.le_of_ble_eq_true rfl⟩ ⟨Nat.zero_le _, Nat.zero_le _⟩ [0] [] [0] rfl rfl rfl rfl (by decide) rfl rfl rfl rfl rfl hl.1 (by simp only [List.map, List.sum_cons, List.sum_nil, Value.category]; decide) dX7_rank_10 (fun H locs hw hn4 => ?_)
    refine lv_icmp_ge (tgt := 115) hx hb dX7_rank_13 (by decide) (fun hc5 => ?_) (fun hc5 => ?_)
    · have hf := if_t hc5 hf
      refine lv_bipush (v := -4) hx hb dX7_rank_115 (by decide) ?_
      obtain rfl := e1_ hf
      exact r_iret C0 hw trivial dX7_rank_117
    · have hf := if_f hc5 hf
      refine lv_iconst (v := 0) hx hb dX7_rank_16 (by decide) ?_
      refine lv_istore_n (lv' := [(3, .int (0 : Int32)), (0, .ref (qm 0)), (1, .int l1), (2, .int l2)]) hx hb dX7_rank_17 rfl hl (by decide) rfl (fun ls hl => ?_)
      refine lv_iconst (v := 0) hx hb dX7_rank_18 (by decide) ?_
      refine lv_istore (lv' := [(4, .int (0 : Int32)), (3, .int (0 : Int32)), (0, .ref (qm 0)), (1, .int l1), (2, .int l2)]) hx hb dX7_rank_19 hl (by decide) rfl (fun ls hl => ?_)
      refine wMo_rank_L21 C0 qm m_state m_tape m_taped m_fault m_broken m_brokenAt m_spot m_here m_token m_value m_ends m_letters m_moments m_stepsAt m_steps m_latest m_matrix m_sides m_tried m_answers m_rowOf m_whole m_shares m_isKept m_lanes m_lengths m_cells m_torn l1 l2 zr _ (fun v40 v41 H locs ls hw hl  hf => ?_) 1000 (0 : Int32) (0 : Int32) H locs ls hw (lv_sub hl [2, 3, 4, 1, 0] rfl)  hf
      refine lv_aload_n hx hb dX7_rank_94 rfl (lv_at hl 0 rfl) ?_
      refine lv_iload_n hx hb dX7_rank_95 rfl (lv_at hl 2 rfl) ?_
      obtain ⟨r42, hk43, hf⟩ := b1_s hf
      refine rv_i (vq := (RX7, TX7, 28)) (As := [.int l2]) (rest := []) (bs' := [pMo κ qm m_state m_tape m_taped m_fault m_broken m_brokenAt m_spot m_here m_token m_value m_ends m_letters m_moments m_stepsAt m_steps m_latest m_matrix m_sides m_tried m_answers m_rowOf m_whole m_shares m_isKept m_lanes m_lengths m_cells m_torn]) C0 hw (cMo_isLoose l D κ qm m_state m_tape m_taped m_fault m_broken m_brokenAt m_spot m_here m_token m_value m_ends m_letters m_moments m_stepsAt m_steps m_latest m_matrix m_sides m_tried m_answers m_rowOf m_whole m_shares m_isKept m_lanes m_lengths m_cells m_torn l2 r42 hk43) cv_RX7_186 ⟨rfl, rfl, Nat.le_of_ble_eq_true rfl, Nat.le_of_ble_eq_true rfl⟩ ⟨Nat.zero_le _, Nat.zero_le _⟩ [0] [] [0] rfl rfl rfl rfl (by decide) rfl rfl rfl rfl rfl hl.1 (by simp only [List.map, List.sum_cons, List.sum_nil, Value.category]; decide) dX7_rank_96 (fun H locs hw hn44 => ?_)
      refine lv_if_eq (tgt := 109) hx hb dX7_rank_99 (by decide) (fun hc45 => ?_) (fun hc45 => ?_)
      · have hf := if_t hc45 hf
        obtain ⟨v46, ev46⟩ : ∃ z : Int32, z = (l2 + (1 : Int32)) := ⟨_, rfl⟩
        have hf := lt_s_ hf v46 ev46
        refine lv_iinc (v := v46) (lv' := [(2, .int v46), (0, .ref (qm 0)), (1, .int l1), (3, .int v40)]) hx hb dX7_rank_109 hl (k := 2) rfl (by rw [ev46]; rfl) (by decide) rfl (fun ls hl => ?_)
        refine lv_goto (tgt := 8) hx hb dX7_rank_112 (by decide) ?_
        exact ih v46 H locs ls hw (lv_sub hl [1, 2, 0] rfl)  hf
      · have hf := if_f hc45 hf
        refine lv_iload_n hx hb dX7_rank_102 rfl (lv_at hl 3 rfl) ?_
        refine lv_iload_n hx hb dX7_rank_103 rfl (lv_at hl 1 rfl) ?_
        refine lv_icmp_ne (tgt := 109) hx hb dX7_rank_104 (by decide) (fun hc47 => ?_) (fun hc47 => ?_)
        · have hf := if_f hc47 hf
          obtain ⟨v48, ev48⟩ : ∃ z : Int32, z = (l2 + (1 : Int32)) := ⟨_, rfl⟩
          have hf := lt_s_ hf v48 ev48
          refine lv_iinc (v := v48) (lv' := [(2, .int v48), (0, .ref (qm 0)), (1, .int l1), (3, .int v40)]) hx hb dX7_rank_109 hl (k := 2) rfl (by rw [ev48]; rfl) (by decide) rfl (fun ls hl => ?_)
          refine lv_goto (tgt := 8) hx hb dX7_rank_112 (by decide) ?_
          exact ih v48 H locs ls hw (lv_sub hl [1, 2, 0] rfl)  hf
        · have hf := if_t hc47 hf
          refine lv_iload_n hx hb dX7_rank_107 rfl (lv_at hl 2 rfl) ?_
          obtain rfl := e1_ hf
          exact r_iret C0 hw trivial dX7_rank_108
set_option maxHeartbeats 4000000 in
set_option maxRecDepth 100000 in
theorem cMo_rank (l : Launch) (D : va_G) (κ : Nat → ClassId) (qm : Nat → Nat) (m_state m_tape : Nat → Int32) (m_taped m_fault m_broken m_brokenAt m_spot m_here m_token m_value : Int32) (m_ends m_letters m_moments m_stepsAt : Nat → Int32) (m_steps m_latest : Int32) (m_matrix m_sides m_tried m_answers : Nat → Int64) (m_rowOf : Nat → Int32) (m_whole : Int64) (m_shares m_isKept m_lanes m_lengths m_cells : Nat → Int32) (m_torn a1 zr : Int32) (hf : FMo_rank m_state m_moments a1 = some zr) : mI_ l yX7_rank (Cond.code yX7_rank cX7_rank 7 (some .int) :: uw) ({ frames := 4, cells := 0, slots := 0, locals := 86 } : Room) D (tys0 κ) [.ref (qm 0), .int a1] (List.flatten [pMo κ qm m_state m_tape m_taped m_fault m_broken m_brokenAt m_spot m_here m_token m_value m_ends m_letters m_moments m_stepsAt m_steps m_latest m_matrix m_sides m_tried m_answers m_rowOf m_whole m_shares m_isKept m_lanes m_lengths m_cells m_torn]) nT_ zr (List.flatten [pMo κ qm m_state m_tape m_taped m_fault m_broken m_brokenAt m_spot m_here m_token m_value m_ends m_letters m_moments m_stepsAt m_steps m_latest m_matrix m_sides m_tried m_answers m_rowOf m_whole m_shares m_isKept m_lanes m_lengths m_cells m_torn]) := by
  unfold FMo_rank at hf
  refine mI_of (by decide) (Nat.le_of_ble_eq_true rfl) ?_
  intro p e s m below meth c A ls H locs C0 hw hl
  obtain ⟨hx, hb, -, hml, hown, hts, -, -⟩ := id C0
  have hl : lv_has ls 7 [(0, .ref (qm 0)), (1, .int a1)] := hl
  refine lv_iload_n hx hb dX7_rank_0 rfl (lv_at hl 1 rfl) ?_
  refine lv_if_ge (tgt := 6) hx hb dX7_rank_1 (by decide) (fun hc1 => ?_) (fun hc1 => ?_)
  · have hf := if_t hc1 hf
    refine lv_iconst (v := 0) hx hb dX7_rank_6 (by decide) ?_
    refine lv_istore_n (lv' := [(2, .int (0 : Int32)), (0, .ref (qm 0)), (1, .int a1)]) hx hb dX7_rank_7 rfl hl (by decide) rfl (fun ls hl => ?_)
    exact wMo_rank_L8 C0 qm m_state m_tape m_taped m_fault m_broken m_brokenAt m_spot m_here m_token m_value m_ends m_letters m_moments m_stepsAt m_steps m_latest m_matrix m_sides m_tried m_answers m_rowOf m_whole m_shares m_isKept m_lanes m_lengths m_cells m_torn a1 zr 1000 (0 : Int32) H locs ls hw (lv_sub hl [1, 2, 0] rfl)  hf
  · have hf := if_f hc1 hf
    refine lv_iconst (v := -1) hx hb dX7_rank_4 (by decide) ?_
    obtain rfl := e1_ hf
    exact r_iret C0 hw trivial dX7_rank_5
def FMo_nextOf_L12 (m_state m_moments : Nat → Int32) (m_latest : Int32) : Nat → Int32 → Option (Int32)
  | 0, _ => none
  | n + 1, l2 =>
      b1_ (FMo_joints m_state) fun r2 =>
      if r2 < l2 then
        some ((-4 : Int32))
      else
        lt_ (fun (v6 : Int32) =>
          b1_ (FMo_joints m_state) fun r7 =>
          dz_ r7 <|
          lt_ ((v6 + l2) - (v6 + l2) / r7 * r7) fun v11 =>
          b1_ (FMo_isLoose m_state m_moments v11) fun r12 =>
          if r12 = 0 then
            lt_ (l2 + (1 : Int32)) fun v16 =>
            FMo_nextOf_L12 m_state m_moments m_latest n v16
          else
            some (v11) : Int32 → Option (Int32)) fun j17 =>
        if m_latest = (-4 : Int32) then
          j17 (-1 : Int32)
        else
          j17 m_latest
def FMo_nextOf (m_state m_moments : Nat → Int32) (m_latest a1 : Int32) : Option (Int32) :=
  if a1 = 0 then
    b1_ (FMo_rank m_state m_moments (0 : Int32)) fun r20 =>
    some (r20)
  else
    FMo_nextOf_L12 m_state m_moments m_latest 1000 (1 : Int32)
set_option maxHeartbeats 4000000 in
set_option maxRecDepth 100000 in
theorem wMo_nextOf_L12 {p : Program} {l : Launch} {e : Env} {s : State} {m : MethodId} {args : Array Value} {below : List Frame} {meth : Method} {c : Code} {A : Nat → Prop} {D : va_G} {κ : Nat → ClassId} (C0 : cx_ p s m meth c args cX7_nextOf RX7 (some .int) 4 A) (qm : Nat → Nat) (m_state m_tape : Nat → Int32) (m_taped m_fault m_broken m_brokenAt m_spot m_here m_token m_value : Int32) (m_ends m_letters m_moments m_stepsAt : Nat → Int32) (m_steps m_latest : Int32) (m_matrix m_sides m_tried m_answers : Nat → Int64) (m_rowOf : Nat → Int32) (m_whole : Int64) (m_shares m_isKept m_lanes m_lengths m_cells : Nat → Int32) (m_torn : Int32) (zr : Int32) : ∀ (n : Nat) (l2 : Int32) (H : Heap) (locs : List Loc) (ls : Array Slot), wd_ D (tys0 κ) A s (List.flatten [pMo κ qm m_state m_tape m_taped m_fault m_broken m_brokenAt m_spot m_here m_token m_value m_ends m_letters m_moments m_stepsAt m_steps m_latest m_matrix m_sides m_tried m_answers m_rowOf m_whole m_shares m_isKept m_lanes m_lengths m_cells m_torn]) H locs → lv_has ls 4 [(0, .ref (qm 0)), (2, .int l2)] → FMo_nextOf_L12 m_state m_moments m_latest n l2 = some zr → W p l e ({ frames := 5, cells := 0, slots := 0, locals := 112 } : Room) s m args below meth c H locs 0 0 (qI_ D (tys0 κ) A nT_ zr (List.flatten [pMo κ qm m_state m_tape m_taped m_fault m_broken m_brokenAt m_spot m_here m_token m_value m_ends m_letters m_moments m_stepsAt m_steps m_latest m_matrix m_sides m_tried m_answers m_rowOf m_whole m_shares m_isKept m_lanes m_lengths m_cells m_torn]) below args s) (F0 m 12 ls []) := by
  obtain ⟨hx, hb, -, hml, hown, hts, -, -⟩ := id C0
  intro n
  induction n with
  | zero =>
    intro l2 H locs ls hw hl  hf
    cases hf
  | succ n ih =>
    intro l2 H locs ls hw hl  hf
    rw [FMo_nextOf_L12.eq_2] at hf
    refine lv_iload_n hx hb dX7_nextOf_12 rfl (lv_at hl 1 rfl) ?_
    refine lv_aload_n hx hb dX7_nextOf_13 rfl (lv_at hl 0 rfl) ?_
    obtain ⟨r2, hk3, hf⟩ := b1_s hf
    refine rv_i (vq := (RX7, TX7, 28)) (As := []) (rest := [.int l2]) (bs' := [pMo κ qm m_state m_tape m_taped m_fault m_broken m_brokenAt m_spot m_here m_token m_value m_ends m_letters m_moments m_stepsAt m_steps m_latest m_matrix m_sides m_tried m_answers m_rowOf m_whole m_shares m_isKept m_lanes m_lengths m_cells m_torn]) C0 hw (cMo_joints l D κ qm m_state m_tape m_taped m_fault m_broken m_brokenAt m_spot m_here m_token m_value m_ends m_letters m_moments m_stepsAt m_steps m_latest m_matrix m_sides m_tried m_answers m_rowOf m_whole m_shares m_isKept m_lanes m_lengths m_cells m_torn r2 hk3) cv_RX7_183 ⟨rfl, rfl, Nat.le_of_ble_eq_true rfl, Nat.le_of_ble_eq_true rfl⟩ ⟨Nat.zero_le _, Nat.zero_le _⟩ [0] [] [0] rfl rfl rfl rfl (by decide) rfl rfl rfl rfl rfl hl.1 (by simp only [List.map, List.sum_cons, List.sum_nil, Value.category]; decide) dX7_nextOf_14 (fun H locs hw hn4 => ?_)
    refine lv_icmp_gt (tgt := 61) hx hb dX7_nextOf_17 (by decide) (fun hc5 => ?_) (fun hc5 => ?_)
    · have hf := if_t hc5 hf
      refine lv_bipush (v := -4) hx hb dX7_nextOf_61 (by decide) ?_
      obtain rfl := e1_ hf
      exact r_iret C0 hw trivial dX7_nextOf_63
    · have hf := if_f hc5 hf
      refine lv_aload_n hx hb dX7_nextOf_20 rfl (lv_at hl 0 rfl) ?_
      refine r_get C0 hw 0 15 (v := .int m_latest) rfl rfl inX7 (by decide) lk_X7_28 rfl dX7_nextOf_21 ?_
      refine lv_bipush (v := -4) hx hb dX7_nextOf_24 (by decide) ?_
      obtain ⟨j17, ej17, hf⟩ := lt_e hf
      have hj18 : ∀ (v6 : Int32) (H : Heap) (locs : List Loc) (ls : Array Slot), wd_ D (tys0 κ) A s (List.flatten [pMo κ qm m_state m_tape m_taped m_fault m_broken m_brokenAt m_spot m_here m_token m_value m_ends m_letters m_moments m_stepsAt m_steps m_latest m_matrix m_sides m_tried m_answers m_rowOf m_whole m_shares m_isKept m_lanes m_lengths m_cells m_torn]) H locs → lv_has ls 4 [(0, .ref (qm 0)), (2, .int l2)] → j17 v6 = some zr → W p l e ({ frames := 5, cells := 0, slots := 0, locals := 112 } : Room) s m args below meth c H locs 0 0 (qI_ D (tys0 κ) A nT_ zr (List.flatten [pMo κ qm m_state m_tape m_taped m_fault m_broken m_brokenAt m_spot m_here m_token m_value m_ends m_letters m_moments m_stepsAt m_steps m_latest m_matrix m_sides m_tried m_answers m_rowOf m_whole m_shares m_isKept m_lanes m_lengths m_cells m_torn]) below args s) (F0 m 37 ls [.int v6]) := by
        intro v6 H locs ls hw hl  hf
        have hf : (b1_ (FMo_joints m_state) fun r7 => dz_ r7 <| lt_ ((v6 + l2) - (v6 + l2) / r7 * r7) fun v11 => b1_ (FMo_isLoose m_state m_moments v11) fun r12 => if r12 = 0 then lt_ (l2 + (1 : Int32)) fun v16 => FMo_nextOf_L12 m_state m_moments m_latest n v16 else some (v11)) = some zr := by rw [ej17] at hf; exact hf
        refine lv_iload_n hx hb dX7_nextOf_37 rfl (lv_at hl 1 rfl) ?_
        refine lv_iadd hx hb dX7_nextOf_38 ?_
        refine lv_aload_n hx hb dX7_nextOf_39 rfl (lv_at hl 0 rfl) ?_
        obtain ⟨r7, hk8, hf⟩ := b1_s hf
        refine rv_i (vq := (RX7, TX7, 28)) (As := []) (rest := [.int (v6 + l2)]) (bs' := [pMo κ qm m_state m_tape m_taped m_fault m_broken m_brokenAt m_spot m_here m_token m_value m_ends m_letters m_moments m_stepsAt m_steps m_latest m_matrix m_sides m_tried m_answers m_rowOf m_whole m_shares m_isKept m_lanes m_lengths m_cells m_torn]) C0 hw (cMo_joints l D κ qm m_state m_tape m_taped m_fault m_broken m_brokenAt m_spot m_here m_token m_value m_ends m_letters m_moments m_stepsAt m_steps m_latest m_matrix m_sides m_tried m_answers m_rowOf m_whole m_shares m_isKept m_lanes m_lengths m_cells m_torn r7 hk8) cv_RX7_183 ⟨rfl, rfl, Nat.le_of_ble_eq_true rfl, Nat.le_of_ble_eq_true rfl⟩ ⟨Nat.zero_le _, Nat.zero_le _⟩ [0] [] [0] rfl rfl rfl rfl (by decide) rfl rfl rfl rfl rfl hl.1 (by simp only [List.map, List.sum_cons, List.sum_nil, Value.category]; decide) dX7_nextOf_40 (fun H locs hw hn9 => ?_)
        obtain ⟨hz10, hf⟩ := dz_s hf
        refine lv_irem hx hb dX7_nextOf_43 hz10 ?_
        refine lv_topi (fun v11 ev11 => ?_)
        have hf := lt_s_ hf v11 ev11
        refine lv_istore_n (lv' := [(3, .int v11), (0, .ref (qm 0)), (2, .int l2)]) hx hb dX7_nextOf_44 rfl hl (by decide) rfl (fun ls hl => ?_)
        refine lv_aload_n hx hb dX7_nextOf_45 rfl (lv_at hl 1 rfl) ?_
        refine lv_iload_n hx hb dX7_nextOf_46 rfl (lv_at hl 0 rfl) ?_
        obtain ⟨r12, hk13, hf⟩ := b1_s hf
        refine rv_i (vq := (RX7, TX7, 28)) (As := [.int v11]) (rest := []) (bs' := [pMo κ qm m_state m_tape m_taped m_fault m_broken m_brokenAt m_spot m_here m_token m_value m_ends m_letters m_moments m_stepsAt m_steps m_latest m_matrix m_sides m_tried m_answers m_rowOf m_whole m_shares m_isKept m_lanes m_lengths m_cells m_torn]) C0 hw (cMo_isLoose l D κ qm m_state m_tape m_taped m_fault m_broken m_brokenAt m_spot m_here m_token m_value m_ends m_letters m_moments m_stepsAt m_steps m_latest m_matrix m_sides m_tried m_answers m_rowOf m_whole m_shares m_isKept m_lanes m_lengths m_cells m_torn v11 r12 hk13) cv_RX7_186 ⟨rfl, rfl, Nat.le_of_ble_eq_true rfl, Nat.le_of_ble_eq_true rfl⟩ ⟨Nat.zero_le _, Nat.zero_le _⟩ [0] [] [0] rfl rfl rfl rfl (by decide) rfl rfl rfl rfl rfl hl.1 (by simp only [List.map, List.sum_cons, List.sum_nil, Value.category]; decide) dX7_nextOf_47 (fun H locs hw hn14 => ?_)
        refine lv_if_eq (tgt := 55) hx hb dX7_nextOf_50 (by decide) (fun hc15 => ?_) (fun hc15 => ?_)
        · have hf := if_t hc15 hf
          obtain ⟨v16, ev16⟩ : ∃ z : Int32, z = (l2 + (1 : Int32)) := ⟨_, rfl⟩
          have hf := lt_s_ hf v16 ev16
          refine lv_iinc (v := v16) (lv' := [(2, .int v16), (3, .int v11), (0, .ref (qm 0))]) hx hb dX7_nextOf_55 hl (k := 2) rfl (by rw [ev16]; rfl) (by decide) rfl (fun ls hl => ?_)
          refine lv_goto (tgt := 12) hx hb dX7_nextOf_58 (by decide) ?_
          exact ih v16 H locs ls hw (lv_sub hl [2, 0] rfl)  hf
        · have hf := if_f hc15 hf
          refine lv_iload_n hx hb dX7_nextOf_53 rfl (lv_at hl 0 rfl) ?_
          obtain rfl := e1_ hf
          exact r_iret C0 hw trivial dX7_nextOf_54
      refine lv_icmp_ne (tgt := 33) hx hb dX7_nextOf_26 (by decide) (fun hc19 => ?_) (fun hc19 => ?_)
      · have hf := if_f hc19 hf
        refine lv_aload_n hx hb dX7_nextOf_33 rfl (lv_at hl 0 rfl) ?_
        refine r_get C0 hw 0 15 (v := .int m_latest) rfl rfl inX7 (by decide) lk_X7_28 rfl dX7_nextOf_34 ?_
        exact hj18 m_latest H locs ls hw (lv_sub hl [0, 1] rfl)  hf
      · have hf := if_t hc19 hf
        refine lv_iconst (v := -1) hx hb dX7_nextOf_29 (by decide) ?_
        refine lv_goto (tgt := 37) hx hb dX7_nextOf_30 (by decide) ?_
        exact hj18 (-1 : Int32) H locs ls hw (lv_sub hl [0, 1] rfl)  hf
set_option maxHeartbeats 4000000 in
set_option maxRecDepth 100000 in
theorem cMo_nextOf (l : Launch) (D : va_G) (κ : Nat → ClassId) (qm : Nat → Nat) (m_state m_tape : Nat → Int32) (m_taped m_fault m_broken m_brokenAt m_spot m_here m_token m_value : Int32) (m_ends m_letters m_moments m_stepsAt : Nat → Int32) (m_steps m_latest : Int32) (m_matrix m_sides m_tried m_answers : Nat → Int64) (m_rowOf : Nat → Int32) (m_whole : Int64) (m_shares m_isKept m_lanes m_lengths m_cells : Nat → Int32) (m_torn a1 zr : Int32) (hf : FMo_nextOf m_state m_moments m_latest a1 = some zr) : mI_ l yX7_nextOf (Cond.code yX7_nextOf cX7_nextOf 4 (some .int) :: uw) ({ frames := 5, cells := 0, slots := 0, locals := 112 } : Room) D (tys0 κ) [.ref (qm 0), .int a1] (List.flatten [pMo κ qm m_state m_tape m_taped m_fault m_broken m_brokenAt m_spot m_here m_token m_value m_ends m_letters m_moments m_stepsAt m_steps m_latest m_matrix m_sides m_tried m_answers m_rowOf m_whole m_shares m_isKept m_lanes m_lengths m_cells m_torn]) nT_ zr (List.flatten [pMo κ qm m_state m_tape m_taped m_fault m_broken m_brokenAt m_spot m_here m_token m_value m_ends m_letters m_moments m_stepsAt m_steps m_latest m_matrix m_sides m_tried m_answers m_rowOf m_whole m_shares m_isKept m_lanes m_lengths m_cells m_torn]) := by
  unfold FMo_nextOf at hf
  refine mI_of (by decide) (Nat.le_of_ble_eq_true rfl) ?_
  intro p e s m below meth c A ls H locs C0 hw hl
  obtain ⟨hx, hb, -, hml, hown, hts, -, -⟩ := id C0
  have hl : lv_has ls 4 [(0, .ref (qm 0)), (1, .int a1)] := hl
  refine lv_iload_n hx hb dX7_nextOf_0 rfl (lv_at hl 1 rfl) ?_
  refine lv_if_ne (tgt := 10) hx hb dX7_nextOf_1 (by decide) (fun hc1 => ?_) (fun hc1 => ?_)
  · have hf := if_f hc1 hf
    refine lv_iconst (v := 1) hx hb dX7_nextOf_10 (by decide) ?_
    refine lv_istore_n (lv' := [(2, .int (1 : Int32)), (0, .ref (qm 0)), (1, .int a1)]) hx hb dX7_nextOf_11 rfl hl (by decide) rfl (fun ls hl => ?_)
    exact wMo_nextOf_L12 C0 qm m_state m_tape m_taped m_fault m_broken m_brokenAt m_spot m_here m_token m_value m_ends m_letters m_moments m_stepsAt m_steps m_latest m_matrix m_sides m_tried m_answers m_rowOf m_whole m_shares m_isKept m_lanes m_lengths m_cells m_torn zr 1000 (1 : Int32) H locs ls hw (lv_sub hl [1, 0] rfl)  hf
  · have hf := if_t hc1 hf
    refine lv_aload_n hx hb dX7_nextOf_4 rfl (lv_at hl 0 rfl) ?_
    refine lv_iconst (v := 0) hx hb dX7_nextOf_5 (by decide) ?_
    obtain ⟨r20, hk21, hf⟩ := b1_s hf
    refine rv_i (vq := (RX7, TX7, 28)) (As := [.int (0 : Int32)]) (rest := []) (bs' := [pMo κ qm m_state m_tape m_taped m_fault m_broken m_brokenAt m_spot m_here m_token m_value m_ends m_letters m_moments m_stepsAt m_steps m_latest m_matrix m_sides m_tried m_answers m_rowOf m_whole m_shares m_isKept m_lanes m_lengths m_cells m_torn]) C0 hw (cMo_rank l D κ qm m_state m_tape m_taped m_fault m_broken m_brokenAt m_spot m_here m_token m_value m_ends m_letters m_moments m_stepsAt m_steps m_latest m_matrix m_sides m_tried m_answers m_rowOf m_whole m_shares m_isKept m_lanes m_lengths m_cells m_torn (0 : Int32) r20 hk21) cv_RX7_260 ⟨rfl, rfl, Nat.le_of_ble_eq_true rfl, Nat.le_of_ble_eq_true rfl⟩ ⟨Nat.zero_le _, Nat.zero_le _⟩ [0] [] [0] rfl rfl rfl rfl (by decide) rfl rfl rfl rfl rfl hl.1 (by simp only [List.map, List.sum_cons, List.sum_nil, Value.category]; decide) dX7_nextOf_6 (fun H locs hw hn22 => ?_)
    obtain rfl := e1_ hf
    exact r_iret C0 hw trivial dX7_nextOf_9
def FMo_next (m_state m_moments : Nat → Int32) (m_latest a1 : Int32) : Option (Int32) :=
  b1_ (FMo_in (a1.toInt64) (0 : Int64) (1 : Int64)) fun r1 =>
  if r1 = 0 then
    some ((-1 : Int32))
  else
    b1_ (FMo_nextOf m_state m_moments m_latest a1) fun r5 =>
    some (r5)
set_option maxHeartbeats 4000000 in
set_option maxRecDepth 100000 in
theorem cMo_next (l : Launch) (D : va_G) (κ : Nat → ClassId) (qm : Nat → Nat) (m_state m_tape : Nat → Int32) (m_taped m_fault m_broken m_brokenAt m_spot m_here m_token m_value : Int32) (m_ends m_letters m_moments m_stepsAt : Nat → Int32) (m_steps m_latest : Int32) (m_matrix m_sides m_tried m_answers : Nat → Int64) (m_rowOf : Nat → Int32) (m_whole : Int64) (m_shares m_isKept m_lanes m_lengths m_cells : Nat → Int32) (m_torn a1 zr : Int32) (hf : FMo_next m_state m_moments m_latest a1 = some zr) : mI_ l yX7_next (Cond.code yX7_next cX7_next 2 (some .int) :: uw) ({ frames := 6, cells := 0, slots := 0, locals := 135 } : Room) D (tys0 κ) [.ref (qm 0), .int a1] (List.flatten [pMo κ qm m_state m_tape m_taped m_fault m_broken m_brokenAt m_spot m_here m_token m_value m_ends m_letters m_moments m_stepsAt m_steps m_latest m_matrix m_sides m_tried m_answers m_rowOf m_whole m_shares m_isKept m_lanes m_lengths m_cells m_torn]) nT_ zr (List.flatten [pMo κ qm m_state m_tape m_taped m_fault m_broken m_brokenAt m_spot m_here m_token m_value m_ends m_letters m_moments m_stepsAt m_steps m_latest m_matrix m_sides m_tried m_answers m_rowOf m_whole m_shares m_isKept m_lanes m_lengths m_cells m_torn]) := by
  unfold FMo_next at hf
  refine mI_of (by decide) (Nat.le_of_ble_eq_true rfl) ?_
  intro p e s m below meth c A ls H locs C0 hw hl
  obtain ⟨hx, hb, -, hml, hown, hts, -, -⟩ := id C0
  have hl : lv_has ls 2 [(0, .ref (qm 0)), (1, .int a1)] := hl
  refine lv_iload_n hx hb dX7_next_0 rfl (lv_at hl 1 rfl) ?_
  refine lv_i2l hx hb dX7_next_1 rfl ?_
  refine lv_lconst (v := 0) hx hb dX7_next_2 (by decide) ?_
  refine lv_lconst (v := 1) hx hb dX7_next_3 (by decide) ?_
  obtain ⟨r1, hk2, hf⟩ := b1_s hf
  refine rs_i (As := [.long (a1.toInt64), .long (0 : Int64), .long (1 : Int64)]) (rest := []) (bs' := [pMo κ qm m_state m_tape m_taped m_fault m_broken m_brokenAt m_spot m_here m_token m_value m_ends m_letters m_moments m_stepsAt m_steps m_latest m_matrix m_sides m_tried m_answers m_rowOf m_whole m_shares m_isKept m_lanes m_lengths m_cells m_torn]) C0 hw (cMo_in l D κ (a1.toInt64) (0 : Int64) (1 : Int64) r1 hk2) cs_X7_66 ⟨rfl, rfl, Nat.le_of_ble_eq_true rfl, Nat.le_of_ble_eq_true rfl⟩ ⟨Nat.zero_le _, Nat.zero_le _⟩ [] [0] [0] rfl rfl rfl rfl (by decide) rfl rfl rfl hl.1 (by simp only [List.map, List.sum_cons, List.sum_nil, Value.category]; decide) dX7_next_4 (fun H locs hw hn3 => ?_)
  refine lv_if_eq (tgt := 18) hx hb dX7_next_7 (by decide) (fun hc4 => ?_) (fun hc4 => ?_)
  · have hf := if_t hc4 hf
    refine lv_iconst (v := -1) hx hb dX7_next_18 (by decide) ?_
    obtain rfl := e1_ hf
    exact r_iret C0 hw trivial dX7_next_19
  · have hf := if_f hc4 hf
    refine lv_aload_n hx hb dX7_next_10 rfl (lv_at hl 0 rfl) ?_
    refine lv_iload_n hx hb dX7_next_11 rfl (lv_at hl 1 rfl) ?_
    obtain ⟨r5, hk6, hf⟩ := b1_s hf
    refine rv_i (vq := (RX7, TX7, 28)) (As := [.int a1]) (rest := []) (bs' := [pMo κ qm m_state m_tape m_taped m_fault m_broken m_brokenAt m_spot m_here m_token m_value m_ends m_letters m_moments m_stepsAt m_steps m_latest m_matrix m_sides m_tried m_answers m_rowOf m_whole m_shares m_isKept m_lanes m_lengths m_cells m_torn]) C0 hw (cMo_nextOf l D κ qm m_state m_tape m_taped m_fault m_broken m_brokenAt m_spot m_here m_token m_value m_ends m_letters m_moments m_stepsAt m_steps m_latest m_matrix m_sides m_tried m_answers m_rowOf m_whole m_shares m_isKept m_lanes m_lengths m_cells m_torn a1 r5 hk6) cv_RX7_263 ⟨rfl, rfl, Nat.le_of_ble_eq_true rfl, Nat.le_of_ble_eq_true rfl⟩ ⟨Nat.zero_le _, Nat.zero_le _⟩ [0] [] [0] rfl rfl rfl rfl (by decide) rfl rfl rfl rfl rfl hl.1 (by simp only [List.map, List.sum_cons, List.sum_nil, Value.category]; decide) dX7_next_12 (fun H locs hw hn7 => ?_)
    refine lv_goto (tgt := 19) hx hb dX7_next_15 (by decide) ?_
    obtain rfl := e1_ hf
    exact r_iret C0 hw trivial dX7_next_19
def FMo_doesStep_L7 (m_state m_shares : Nat → Int32) (l1 : Int32) (k_ : Int32 → (Nat → Int32) → Option ((Nat → Int32) × (Nat → Int32) × Int32 × Int32 × (Nat → Int32))) : Nat → Int32 → (Nat → Int32) → Option ((Nat → Int32) × (Nat → Int32) × Int32 × Int32 × (Nat → Int32))
  | 0, _, _ => none
  | n + 1, l2, m_moments =>
      b1_ (FMo_beams m_state) fun r4 =>
      if ((2 : Int32) * r4) ≤ l2 then
        k_ l2 m_moments
      else
        b1_ (FMo_jointOf m_state l2) fun r8 =>
        if r8 = l1 then
          gd_ l2 20 <|
          gd_ l2 20 <|
          gd_ l2 20 <|
          lt_ (upd m_moments l2.toNatClampNeg ((m_moments l2.toNatClampNeg) + (m_shares l2.toNatClampNeg))) fun w16 =>
          b1_ (FMo_otherOf l2) fun r17 =>
          gd_ r17 20 <|
          gd_ l2 20 <|
          gd_ r17 20 <|
          lt_ (upd w16 r17.toNatClampNeg ((w16 r17.toNatClampNeg) + ((m_shares l2.toNatClampNeg) / (2 : Int32)))) fun w23 =>
          lt_ (l2 + (1 : Int32)) fun v24 =>
          FMo_doesStep_L7 m_state m_shares l1 k_ n v24 w23
        else
          lt_ (l2 + (1 : Int32)) fun v12 =>
          FMo_doesStep_L7 m_state m_shares l1 k_ n v12 m_moments
def FMo_doesStep (m_state m_moments m_stepsAt : Nat → Int32) (m_steps : Int32) (m_shares : Nat → Int32) (a1 : Int32) : Option ((Nat → Int32) × (Nat → Int32) × Int32 × Int32 × (Nat → Int32)) :=
  b1_ (FMo_sharesOf m_state m_moments m_shares a1) fun w1 =>
  FMo_doesStep_L7 m_state w1 a1 (fun (v25 : Int32) (w26 : Nat → Int32) =>
      lt_ (m_steps + (1 : Int32)) fun v27 =>
      gd_ a1 6 <|
      gd_ a1 6 <|
      lt_ (upd m_stepsAt a1.toNatClampNeg ((m_stepsAt a1.toNatClampNeg) + (1 : Int32))) fun w30 =>
      some (w26, w30, v27, a1, w1)) 1000 (0 : Int32) m_moments
set_option maxHeartbeats 4000000 in
set_option maxRecDepth 100000 in
theorem wMo_doesStep_L7 {p : Program} {l : Launch} {e : Env} {s : State} {m : MethodId} {args : Array Value} {below : List Frame} {meth : Method} {c : Code} {A : Nat → Prop} {D : va_G} {κ : Nat → ClassId} (C0 : cx_ p s m meth c args cX7_doesStep RX7 none 3 A) (qm : Nat → Nat) (m_state m_tape : Nat → Int32) (m_taped m_fault m_broken m_brokenAt m_spot m_here m_token m_value : Int32) (m_ends m_letters m_stepsAt : Nat → Int32) (m_steps m_latest : Int32) (m_matrix m_sides m_tried m_answers : Nat → Int64) (m_rowOf : Nat → Int32) (m_whole : Int64) (m_shares m_isKept m_lanes m_lengths m_cells : Nat → Int32) (m_torn l1 : Int32) (z1 z2 : Nat → Int32) (z3 z4 : Int32) (z5 : Nat → Int32) (k_ : Int32 → (Nat → Int32) → Option ((Nat → Int32) × (Nat → Int32) × Int32 × Int32 × (Nat → Int32))) (hk_ : ∀ (l2 : Int32) (m_moments : Nat → Int32) (H : Heap) (locs : List Loc) (ls : Array Slot), wd_ D (tys0 κ) A s (List.flatten [pMo κ qm m_state m_tape m_taped m_fault m_broken m_brokenAt m_spot m_here m_token m_value m_ends m_letters m_moments m_stepsAt m_steps m_latest m_matrix m_sides m_tried m_answers m_rowOf m_whole m_shares m_isKept m_lanes m_lengths m_cells m_torn]) H locs → lv_has ls 3 [(0, .ref (qm 0)), (1, .int l1)] → k_ l2 m_moments = some (z1, z2, z3, z4, z5) → W p l e ({ frames := 3, cells := 0, slots := 0, locals := 73 } : Room) s m args below meth c H locs 0 0 (qV_ D (tys0 κ) A (List.flatten [pMo κ qm m_state m_tape m_taped m_fault m_broken m_brokenAt m_spot m_here m_token m_value m_ends m_letters z1 z2 z3 z4 m_matrix m_sides m_tried m_answers m_rowOf m_whole z5 m_isKept m_lanes m_lengths m_cells m_torn]) below args s) (F0 m 67 ls [])) : ∀ (n : Nat) (l2 : Int32) (m_moments : Nat → Int32) (H : Heap) (locs : List Loc) (ls : Array Slot), wd_ D (tys0 κ) A s (List.flatten [pMo κ qm m_state m_tape m_taped m_fault m_broken m_brokenAt m_spot m_here m_token m_value m_ends m_letters m_moments m_stepsAt m_steps m_latest m_matrix m_sides m_tried m_answers m_rowOf m_whole m_shares m_isKept m_lanes m_lengths m_cells m_torn]) H locs → lv_has ls 3 [(0, .ref (qm 0)), (1, .int l1), (2, .int l2)] → FMo_doesStep_L7 m_state m_shares l1 k_ n l2 m_moments = some (z1, z2, z3, z4, z5) → W p l e ({ frames := 3, cells := 0, slots := 0, locals := 73 } : Room) s m args below meth c H locs 0 0 (qV_ D (tys0 κ) A (List.flatten [pMo κ qm m_state m_tape m_taped m_fault m_broken m_brokenAt m_spot m_here m_token m_value m_ends m_letters z1 z2 z3 z4 m_matrix m_sides m_tried m_answers m_rowOf m_whole z5 m_isKept m_lanes m_lengths m_cells m_torn]) below args s) (F0 m 7 ls []) := by
  obtain ⟨hx, hb, -, hml, hown, hts, -, -⟩ := id C0
  intro n
  induction n with
  | zero =>
    intro l2 m_moments H locs ls hw hl  hf
    cases hf
  | succ n ih =>
    intro l2 m_moments H locs ls hw hl  hf
    rw [FMo_doesStep_L7.eq_2] at hf
    refine lv_iload_n hx hb dX7_doesStep_7 rfl (lv_at hl 2 rfl) ?_
    refine lv_iconst (v := 2) hx hb dX7_doesStep_8 (by decide) ?_
    refine lv_aload_n hx hb dX7_doesStep_9 rfl (lv_at hl 0 rfl) ?_
    obtain ⟨r4, hk5, hf⟩ := b1_s hf
    refine rv_i (vq := (RX7, TX7, 28)) (As := []) (rest := [.int (2 : Int32), .int l2]) (bs' := [pMo κ qm m_state m_tape m_taped m_fault m_broken m_brokenAt m_spot m_here m_token m_value m_ends m_letters m_moments m_stepsAt m_steps m_latest m_matrix m_sides m_tried m_answers m_rowOf m_whole m_shares m_isKept m_lanes m_lengths m_cells m_torn]) C0 hw (cMo_beams l D κ qm m_state m_tape m_taped m_fault m_broken m_brokenAt m_spot m_here m_token m_value m_ends m_letters m_moments m_stepsAt m_steps m_latest m_matrix m_sides m_tried m_answers m_rowOf m_whole m_shares m_isKept m_lanes m_lengths m_cells m_torn r4 hk5) cv_RX7_162 ⟨rfl, rfl, Nat.le_of_ble_eq_true rfl, Nat.le_of_ble_eq_true rfl⟩ ⟨Nat.zero_le _, Nat.zero_le _⟩ [0] [] [0] rfl rfl rfl rfl (by decide) rfl rfl rfl rfl rfl hl.1 (by simp only [List.map, List.sum_cons, List.sum_nil, Value.category]; decide) dX7_doesStep_10 (fun H locs hw hn6 => ?_)
    refine lv_imul hx hb dX7_doesStep_13 ?_
    refine lv_icmp_ge (tgt := 67) hx hb dX7_doesStep_14 (by decide) (fun hc7 => ?_) (fun hc7 => ?_)
    · have hf := if_t hc7 hf
      exact hk_ l2 m_moments H locs ls hw (lv_sub hl [0, 1] rfl)  hf
    · have hf := if_f hc7 hf
      refine lv_aload_n hx hb dX7_doesStep_17 rfl (lv_at hl 0 rfl) ?_
      refine lv_iload_n hx hb dX7_doesStep_18 rfl (lv_at hl 2 rfl) ?_
      obtain ⟨r8, hk9, hf⟩ := b1_s hf
      refine rv_i (vq := (RX7, TX7, 28)) (As := [.int l2]) (rest := []) (bs' := [pMo κ qm m_state m_tape m_taped m_fault m_broken m_brokenAt m_spot m_here m_token m_value m_ends m_letters m_moments m_stepsAt m_steps m_latest m_matrix m_sides m_tried m_answers m_rowOf m_whole m_shares m_isKept m_lanes m_lengths m_cells m_torn]) C0 hw (cMo_jointOf l D κ qm m_state m_tape m_taped m_fault m_broken m_brokenAt m_spot m_here m_token m_value m_ends m_letters m_moments m_stepsAt m_steps m_latest m_matrix m_sides m_tried m_answers m_rowOf m_whole m_shares m_isKept m_lanes m_lengths m_cells m_torn l2 r8 hk9) cv_RX7_168 ⟨rfl, rfl, Nat.le_of_ble_eq_true rfl, Nat.le_of_ble_eq_true rfl⟩ ⟨Nat.zero_le _, Nat.zero_le _⟩ [0] [] [0] rfl rfl rfl rfl (by decide) rfl rfl rfl rfl rfl hl.1 (by simp only [List.map, List.sum_cons, List.sum_nil, Value.category]; decide) dX7_doesStep_19 (fun H locs hw hn10 => ?_)
      refine lv_iload_n hx hb dX7_doesStep_22 rfl (lv_at hl 1 rfl) ?_
      refine lv_icmp_ne (tgt := 61) hx hb dX7_doesStep_23 (by decide) (fun hc11 => ?_) (fun hc11 => ?_)
      · have hf := if_f hc11 hf
        obtain ⟨v12, ev12⟩ : ∃ z : Int32, z = (l2 + (1 : Int32)) := ⟨_, rfl⟩
        have hf := lt_s_ hf v12 ev12
        refine lv_iinc (v := v12) (lv' := [(2, .int v12), (0, .ref (qm 0)), (1, .int l1)]) hx hb dX7_doesStep_61 hl (k := 2) rfl (by rw [ev12]; rfl) (by decide) rfl (fun ls hl => ?_)
        refine lv_goto (tgt := 7) hx hb dX7_doesStep_64 (by decide) ?_
        exact ih v12 m_moments H locs ls hw (lv_sub hl [1, 2, 0] rfl)  hf
      · have hf := if_t hc11 hf
        refine lv_aload_n hx hb dX7_doesStep_26 rfl (lv_at hl 0 rfl) ?_
        refine r_get C0 hw 0 12 (v := .ref (qm 5)) rfl rfl inX7 (by decide) lk_X7_22 rfl dX7_doesStep_27 ?_
        refine lv_iload_n hx hb dX7_doesStep_30 rfl (lv_at hl 2 rfl) ?_
        refine lv_dup2_11 hx hb dX7_doesStep_31 rfl rfl ?_
        obtain ⟨hi13, hf⟩ := gd_s hf
        refine r_iald C0 hw 5 0 rfl rfl hi13 dX7_doesStep_32 ?_
        refine lv_aload_n hx hb dX7_doesStep_33 rfl (lv_at hl 0 rfl) ?_
        refine r_get C0 hw 0 22 (v := .ref (qm 12)) rfl rfl inX7 (by decide) lk_X7_48 rfl dX7_doesStep_34 ?_
        refine lv_iload_n hx hb dX7_doesStep_37 rfl (lv_at hl 2 rfl) ?_
        obtain ⟨hi14, hf⟩ := gd_s hf
        refine r_iald C0 hw 12 0 rfl rfl hi14 dX7_doesStep_38 ?_
        refine lv_iadd hx hb dX7_doesStep_39 ?_
        obtain ⟨hi15, hf⟩ := gd_s hf
        obtain ⟨w16, ew16⟩ : ∃ z : Nat → Int32, z = (upd m_moments l2.toNatClampNeg ((m_moments l2.toNatClampNeg) + (m_shares l2.toNatClampNeg))) := ⟨_, rfl⟩
        have hf := lt_s_ hf w16 ew16
        refine r_iast C0 hw 5 0 rfl rfl hi15 dX7_doesStep_40 (ws' := List.flatten [pMo κ qm m_state m_tape m_taped m_fault m_broken m_brokenAt m_spot m_here m_token m_value m_ends m_letters w16 m_stepsAt m_steps m_latest m_matrix m_sides m_tried m_answers m_rowOf m_whole m_shares m_isKept m_lanes m_lengths m_cells m_torn]) (by subst ew16; rfl) (fun H locs hw => ?_)
        refine lv_aload_n hx hb dX7_doesStep_41 rfl (lv_at hl 0 rfl) ?_
        refine r_get C0 hw 0 12 (v := .ref (qm 5)) rfl rfl inX7 (by decide) lk_X7_22 rfl dX7_doesStep_42 ?_
        refine lv_iload_n hx hb dX7_doesStep_45 rfl (lv_at hl 2 rfl) ?_
        obtain ⟨r17, hk18, hf⟩ := b1_s hf
        refine rs_i (As := [.int l2]) (rest := [.ref (qm 5)]) (bs' := [pMo κ qm m_state m_tape m_taped m_fault m_broken m_brokenAt m_spot m_here m_token m_value m_ends m_letters w16 m_stepsAt m_steps m_latest m_matrix m_sides m_tried m_answers m_rowOf m_whole m_shares m_isKept m_lanes m_lengths m_cells m_torn]) C0 hw (cMo_otherOf l D κ l2 r17 hk18) cs_X7_219 ⟨rfl, rfl, Nat.le_of_ble_eq_true rfl, Nat.le_of_ble_eq_true rfl⟩ ⟨Nat.zero_le _, Nat.zero_le _⟩ [] [0] [0] rfl rfl rfl rfl (by decide) rfl rfl rfl hl.1 (by simp only [List.map, List.sum_cons, List.sum_nil, Value.category]; decide) dX7_doesStep_46 (fun H locs hw hn19 => ?_)
        refine lv_dup2_11 hx hb dX7_doesStep_49 rfl rfl ?_
        obtain ⟨hi20, hf⟩ := gd_s hf
        refine r_iald C0 hw 5 0 rfl rfl hi20 dX7_doesStep_50 ?_
        refine lv_aload_n hx hb dX7_doesStep_51 rfl (lv_at hl 0 rfl) ?_
        refine r_get C0 hw 0 22 (v := .ref (qm 12)) rfl rfl inX7 (by decide) lk_X7_48 rfl dX7_doesStep_52 ?_
        refine lv_iload_n hx hb dX7_doesStep_55 rfl (lv_at hl 2 rfl) ?_
        obtain ⟨hi21, hf⟩ := gd_s hf
        refine r_iald C0 hw 12 0 rfl rfl hi21 dX7_doesStep_56 ?_
        refine lv_iconst (v := 2) hx hb dX7_doesStep_57 (by decide) ?_
        refine lv_idiv hx hb dX7_doesStep_58 (by decide) ?_
        refine lv_iadd hx hb dX7_doesStep_59 ?_
        obtain ⟨hi22, hf⟩ := gd_s hf
        obtain ⟨w23, ew23⟩ : ∃ z : Nat → Int32, z = (upd w16 r17.toNatClampNeg ((w16 r17.toNatClampNeg) + ((m_shares l2.toNatClampNeg) / (2 : Int32)))) := ⟨_, rfl⟩
        have hf := lt_s_ hf w23 ew23
        refine r_iast C0 hw 5 0 rfl rfl hi22 dX7_doesStep_60 (ws' := List.flatten [pMo κ qm m_state m_tape m_taped m_fault m_broken m_brokenAt m_spot m_here m_token m_value m_ends m_letters w23 m_stepsAt m_steps m_latest m_matrix m_sides m_tried m_answers m_rowOf m_whole m_shares m_isKept m_lanes m_lengths m_cells m_torn]) (by subst ew23; rfl) (fun H locs hw => ?_)
        obtain ⟨v24, ev24⟩ : ∃ z : Int32, z = (l2 + (1 : Int32)) := ⟨_, rfl⟩
        have hf := lt_s_ hf v24 ev24
        refine lv_iinc (v := v24) (lv' := [(2, .int v24), (0, .ref (qm 0)), (1, .int l1)]) hx hb dX7_doesStep_61 hl (k := 2) rfl (by rw [ev24]; rfl) (by decide) rfl (fun ls hl => ?_)
        refine lv_goto (tgt := 7) hx hb dX7_doesStep_64 (by decide) ?_
        exact ih v24 w23 H locs ls hw (lv_sub hl [1, 2, 0] rfl)  hf
set_option maxHeartbeats 4000000 in
set_option maxRecDepth 100000 in
theorem cMo_doesStep (l : Launch) (D : va_G) (κ : Nat → ClassId) (qm : Nat → Nat) (m_state m_tape : Nat → Int32) (m_taped m_fault m_broken m_brokenAt m_spot m_here m_token m_value : Int32) (m_ends m_letters m_moments m_stepsAt : Nat → Int32) (m_steps m_latest : Int32) (m_matrix m_sides m_tried m_answers : Nat → Int64) (m_rowOf : Nat → Int32) (m_whole : Int64) (m_shares m_isKept m_lanes m_lengths m_cells : Nat → Int32) (m_torn a1 : Int32) (z1 z2 : Nat → Int32) (z3 z4 : Int32) (z5 : Nat → Int32) (hf : FMo_doesStep m_state m_moments m_stepsAt m_steps m_shares a1 = some (z1, z2, z3, z4, z5)) : mV_ l yX7_doesStep (Cond.code yX7_doesStep cX7_doesStep 3 none :: uw) ({ frames := 3, cells := 0, slots := 0, locals := 73 } : Room) D (tys0 κ) [.ref (qm 0), .int a1] (List.flatten [pMo κ qm m_state m_tape m_taped m_fault m_broken m_brokenAt m_spot m_here m_token m_value m_ends m_letters m_moments m_stepsAt m_steps m_latest m_matrix m_sides m_tried m_answers m_rowOf m_whole m_shares m_isKept m_lanes m_lengths m_cells m_torn])  (List.flatten [pMo κ qm m_state m_tape m_taped m_fault m_broken m_brokenAt m_spot m_here m_token m_value m_ends m_letters z1 z2 z3 z4 m_matrix m_sides m_tried m_answers m_rowOf m_whole z5 m_isKept m_lanes m_lengths m_cells m_torn]) := by
  unfold FMo_doesStep at hf
  refine mV_of (by decide) (Nat.le_of_ble_eq_true rfl) ?_
  intro p e s m below meth c A ls H locs C0 hw hl
  obtain ⟨hx, hb, -, hml, hown, hts, -, -⟩ := id C0
  have hl : lv_has ls 3 [(0, .ref (qm 0)), (1, .int a1)] := hl
  refine lv_aload_n hx hb dX7_doesStep_0 rfl (lv_at hl 0 rfl) ?_
  refine lv_iload_n hx hb dX7_doesStep_1 rfl (lv_at hl 1 rfl) ?_
  obtain ⟨w1, hk2, hf⟩ := b1_s hf
  refine rv_v (vq := (RX7, TX7, 28)) (As := [.int a1]) (rest := []) (bs' := [pMo κ qm m_state m_tape m_taped m_fault m_broken m_brokenAt m_spot m_here m_token m_value m_ends m_letters m_moments m_stepsAt m_steps m_latest m_matrix m_sides m_tried m_answers m_rowOf m_whole w1 m_isKept m_lanes m_lengths m_cells m_torn]) C0 hw (cMo_sharesOf l D κ qm m_state m_tape m_taped m_fault m_broken m_brokenAt m_spot m_here m_token m_value m_ends m_letters m_moments m_stepsAt m_steps m_latest m_matrix m_sides m_tried m_answers m_rowOf m_whole m_shares m_isKept m_lanes m_lengths m_cells m_torn a1 w1 hk2) cv_RX7_257 ⟨rfl, rfl, Nat.le_of_ble_eq_true rfl, Nat.le_of_ble_eq_true rfl⟩ ⟨Nat.zero_le _, Nat.zero_le _⟩ [0] [] [0] rfl rfl rfl rfl (by decide) rfl rfl rfl rfl rfl hl.1 (by simp only [List.map, List.sum_cons, List.sum_nil, Value.category]; decide) dX7_doesStep_2 (fun H locs hw => ?_)
  refine lv_iconst (v := 0) hx hb dX7_doesStep_5 (by decide) ?_
  refine lv_istore_n (lv' := [(2, .int (0 : Int32)), (0, .ref (qm 0)), (1, .int a1)]) hx hb dX7_doesStep_6 rfl hl (by decide) rfl (fun ls hl => ?_)
  refine wMo_doesStep_L7 C0 qm m_state m_tape m_taped m_fault m_broken m_brokenAt m_spot m_here m_token m_value m_ends m_letters m_stepsAt m_steps m_latest m_matrix m_sides m_tried m_answers m_rowOf m_whole w1 m_isKept m_lanes m_lengths m_cells m_torn a1 z1 z2 z3 z4 z5 _ (fun v25 w26 H locs ls hw hl  hf => ?_) 1000 (0 : Int32) m_moments H locs ls hw (lv_sub hl [1, 2, 0] rfl)  hf
  refine lv_aload_n hx hb dX7_doesStep_67 rfl (lv_at hl 0 rfl) ?_
  refine lv_dup hx hb dX7_doesStep_68 rfl ?_
  refine r_get C0 hw 0 14 (v := .int m_steps) rfl rfl inX7 (by decide) lk_X7_159 rfl dX7_doesStep_69 ?_
  refine lv_iconst (v := 1) hx hb dX7_doesStep_72 (by decide) ?_
  refine lv_iadd hx hb dX7_doesStep_73 ?_
  refine lv_topi (fun v27 ev27 => ?_)
  have hf := lt_s_ hf v27 ev27
  refine r_put C0 hw 0 14 (v := .int v27) (ws' := List.flatten [pMo κ qm m_state m_tape m_taped m_fault m_broken m_brokenAt m_spot m_here m_token m_value m_ends m_letters w26 m_stepsAt v27 m_latest m_matrix m_sides m_tried m_answers m_rowOf m_whole w1 m_isKept m_lanes m_lengths m_cells m_torn]) rfl rfl inX7 tyX7_ok nmX7 (by decide) lk_X7_159 rfl rfl rfl rfl (Nat.le_of_ble_eq_true rfl) dX7_doesStep_74 rfl (fun H locs hw => ?_)
  refine lv_aload_n hx hb dX7_doesStep_77 rfl (lv_at hl 0 rfl) ?_
  refine r_get C0 hw 0 13 (v := .ref (qm 6)) rfl rfl inX7 (by decide) lk_X7_25 rfl dX7_doesStep_78 ?_
  refine lv_iload_n hx hb dX7_doesStep_81 rfl (lv_at hl 1 rfl) ?_
  refine lv_dup2_11 hx hb dX7_doesStep_82 rfl rfl ?_
  obtain ⟨hi28, hf⟩ := gd_s hf
  refine r_iald C0 hw 6 0 rfl rfl hi28 dX7_doesStep_83 ?_
  refine lv_iconst (v := 1) hx hb dX7_doesStep_84 (by decide) ?_
  refine lv_iadd hx hb dX7_doesStep_85 ?_
  obtain ⟨hi29, hf⟩ := gd_s hf
  obtain ⟨w30, ew30⟩ : ∃ z : Nat → Int32, z = (upd m_stepsAt a1.toNatClampNeg ((m_stepsAt a1.toNatClampNeg) + (1 : Int32))) := ⟨_, rfl⟩
  have hf := lt_s_ hf w30 ew30
  refine r_iast C0 hw 6 0 rfl rfl hi29 dX7_doesStep_86 (ws' := List.flatten [pMo κ qm m_state m_tape m_taped m_fault m_broken m_brokenAt m_spot m_here m_token m_value m_ends m_letters w26 w30 v27 m_latest m_matrix m_sides m_tried m_answers m_rowOf m_whole w1 m_isKept m_lanes m_lengths m_cells m_torn]) (by subst ew30; rfl) (fun H locs hw => ?_)
  refine lv_aload_n hx hb dX7_doesStep_87 rfl (lv_at hl 0 rfl) ?_
  refine lv_iload_n hx hb dX7_doesStep_88 rfl (lv_at hl 1 rfl) ?_
  refine r_put C0 hw 0 15 (v := .int a1) (ws' := List.flatten [pMo κ qm m_state m_tape m_taped m_fault m_broken m_brokenAt m_spot m_here m_token m_value m_ends m_letters w26 w30 v27 a1 m_matrix m_sides m_tried m_answers m_rowOf m_whole w1 m_isKept m_lanes m_lengths m_cells m_torn]) rfl rfl inX7 tyX7_ok nmX7 (by decide) lk_X7_28 rfl rfl rfl rfl (Nat.le_of_ble_eq_true rfl) dX7_doesStep_89 rfl (fun H locs hw => ?_)
  obtain ⟨rfl, rfl, rfl, rfl, rfl⟩ := e5_ hf
  exact r_vret C0 hw dX7_doesStep_92
def FMo_step (m_state m_moments m_stepsAt : Nat → Int32) (m_steps m_latest : Int32) (m_shares : Nat → Int32) (a1 : Int32) : Option (Int32 × (Nat → Int32) × (Nat → Int32) × Int32 × Int32 × (Nat → Int32)) :=
  b1_ (FMo_isJoint m_state a1) fun r1 =>
  if r1 = 0 then
    some ((-1 : Int32), m_moments, m_stepsAt, m_steps, m_latest, m_shares)
  else
    b1_ (FMo_isTurning m_state a1) fun r5 =>
    if r5 = 0 then
      some ((-2 : Int32), m_moments, m_stepsAt, m_steps, m_latest, m_shares)
    else
      b5_ (FMo_doesStep m_state m_moments m_stepsAt m_steps m_shares a1) fun w9 w10 w11 w12 w13 =>
      some (w11, w9, w10, w11, w12, w13)
set_option maxHeartbeats 4000000 in
set_option maxRecDepth 100000 in
theorem cMo_step (l : Launch) (D : va_G) (κ : Nat → ClassId) (qm : Nat → Nat) (m_state m_tape : Nat → Int32) (m_taped m_fault m_broken m_brokenAt m_spot m_here m_token m_value : Int32) (m_ends m_letters m_moments m_stepsAt : Nat → Int32) (m_steps m_latest : Int32) (m_matrix m_sides m_tried m_answers : Nat → Int64) (m_rowOf : Nat → Int32) (m_whole : Int64) (m_shares m_isKept m_lanes m_lengths m_cells : Nat → Int32) (m_torn a1 zr : Int32) (z1 z2 : Nat → Int32) (z3 z4 : Int32) (z5 : Nat → Int32) (hf : FMo_step m_state m_moments m_stepsAt m_steps m_latest m_shares a1 = some (zr, z1, z2, z3, z4, z5)) : mI_ l yX7_step (Cond.code yX7_step cX7_step 2 (some .int) :: uw) ({ frames := 4, cells := 0, slots := 0, locals := 95 } : Room) D (tys0 κ) [.ref (qm 0), .int a1] (List.flatten [pMo κ qm m_state m_tape m_taped m_fault m_broken m_brokenAt m_spot m_here m_token m_value m_ends m_letters m_moments m_stepsAt m_steps m_latest m_matrix m_sides m_tried m_answers m_rowOf m_whole m_shares m_isKept m_lanes m_lengths m_cells m_torn]) nT_ zr (List.flatten [pMo κ qm m_state m_tape m_taped m_fault m_broken m_brokenAt m_spot m_here m_token m_value m_ends m_letters z1 z2 z3 z4 m_matrix m_sides m_tried m_answers m_rowOf m_whole z5 m_isKept m_lanes m_lengths m_cells m_torn]) := by
  unfold FMo_step at hf
  refine mI_of (by decide) (Nat.le_of_ble_eq_true rfl) ?_
  intro p e s m below meth c A ls H locs C0 hw hl
  obtain ⟨hx, hb, -, hml, hown, hts, -, -⟩ := id C0
  have hl : lv_has ls 2 [(0, .ref (qm 0)), (1, .int a1)] := hl
  refine lv_aload_n hx hb dX7_step_0 rfl (lv_at hl 0 rfl) ?_
  refine lv_iload_n hx hb dX7_step_1 rfl (lv_at hl 1 rfl) ?_
  obtain ⟨r1, hk2, hf⟩ := b1_s hf
  refine rv_i (vq := (RX7, TX7, 28)) (As := [.int a1]) (rest := []) (bs' := [pMo κ qm m_state m_tape m_taped m_fault m_broken m_brokenAt m_spot m_here m_token m_value m_ends m_letters m_moments m_stepsAt m_steps m_latest m_matrix m_sides m_tried m_answers m_rowOf m_whole m_shares m_isKept m_lanes m_lengths m_cells m_torn]) C0 hw (cMo_isJoint l D κ qm m_state m_tape m_taped m_fault m_broken m_brokenAt m_spot m_here m_token m_value m_ends m_letters m_moments m_stepsAt m_steps m_latest m_matrix m_sides m_tried m_answers m_rowOf m_whole m_shares m_isKept m_lanes m_lengths m_cells m_torn a1 r1 hk2) cv_RX7_198 ⟨rfl, rfl, Nat.le_of_ble_eq_true rfl, Nat.le_of_ble_eq_true rfl⟩ ⟨Nat.zero_le _, Nat.zero_le _⟩ [0] [] [0] rfl rfl rfl rfl (by decide) rfl rfl rfl rfl rfl hl.1 (by simp only [List.map, List.sum_cons, List.sum_nil, Value.category]; decide) dX7_step_2 (fun H locs hw hn3 => ?_)
  refine lv_if_ne (tgt := 10) hx hb dX7_step_5 (by decide) (fun hc4 => ?_) (fun hc4 => ?_)
  · have hf := if_f hc4 hf
    refine lv_aload_n hx hb dX7_step_10 rfl (lv_at hl 0 rfl) ?_
    refine lv_iload_n hx hb dX7_step_11 rfl (lv_at hl 1 rfl) ?_
    obtain ⟨r5, hk6, hf⟩ := b1_s hf
    refine rv_i (vq := (RX7, TX7, 28)) (As := [.int a1]) (rest := []) (bs' := [pMo κ qm m_state m_tape m_taped m_fault m_broken m_brokenAt m_spot m_here m_token m_value m_ends m_letters m_moments m_stepsAt m_steps m_latest m_matrix m_sides m_tried m_answers m_rowOf m_whole m_shares m_isKept m_lanes m_lengths m_cells m_torn]) C0 hw (cMo_isTurning l D κ qm m_state m_tape m_taped m_fault m_broken m_brokenAt m_spot m_here m_token m_value m_ends m_letters m_moments m_stepsAt m_steps m_latest m_matrix m_sides m_tried m_answers m_rowOf m_whole m_shares m_isKept m_lanes m_lengths m_cells m_torn a1 r5 hk6) cv_RX7_177 ⟨rfl, rfl, Nat.le_of_ble_eq_true rfl, Nat.le_of_ble_eq_true rfl⟩ ⟨Nat.zero_le _, Nat.zero_le _⟩ [0] [] [0] rfl rfl rfl rfl (by decide) rfl rfl rfl rfl rfl hl.1 (by simp only [List.map, List.sum_cons, List.sum_nil, Value.category]; decide) dX7_step_12 (fun H locs hw hn7 => ?_)
    refine lv_if_ne (tgt := 21) hx hb dX7_step_15 (by decide) (fun hc8 => ?_) (fun hc8 => ?_)
    · have hf := if_f hc8 hf
      refine lv_aload_n hx hb dX7_step_21 rfl (lv_at hl 0 rfl) ?_
      refine lv_iload_n hx hb dX7_step_22 rfl (lv_at hl 1 rfl) ?_
      obtain ⟨w9, w10, w11, w12, w13, hk14, hf⟩ := b5_s hf
      refine rv_v (vq := (RX7, TX7, 28)) (As := [.int a1]) (rest := []) (bs' := [pMo κ qm m_state m_tape m_taped m_fault m_broken m_brokenAt m_spot m_here m_token m_value m_ends m_letters w9 w10 w11 w12 m_matrix m_sides m_tried m_answers m_rowOf m_whole w13 m_isKept m_lanes m_lengths m_cells m_torn]) C0 hw (cMo_doesStep l D κ qm m_state m_tape m_taped m_fault m_broken m_brokenAt m_spot m_here m_token m_value m_ends m_letters m_moments m_stepsAt m_steps m_latest m_matrix m_sides m_tried m_answers m_rowOf m_whole m_shares m_isKept m_lanes m_lengths m_cells m_torn a1 w9 w10 w11 w12 w13 hk14) cv_RX7_266 ⟨rfl, rfl, Nat.le_of_ble_eq_true rfl, Nat.le_of_ble_eq_true rfl⟩ ⟨Nat.zero_le _, Nat.zero_le _⟩ [0] [] [0] rfl rfl rfl rfl (by decide) rfl rfl rfl rfl rfl hl.1 (by simp only [List.map, List.sum_cons, List.sum_nil, Value.category]; decide) dX7_step_23 (fun H locs hw => ?_)
      refine lv_aload_n hx hb dX7_step_26 rfl (lv_at hl 0 rfl) ?_
      refine r_get C0 hw 0 14 (v := .int w11) rfl rfl inX7 (by decide) lk_X7_159 rfl dX7_step_27 ?_
      obtain ⟨rfl, rfl, rfl, rfl, rfl, rfl⟩ := e6_ hf
      exact r_iret C0 hw trivial dX7_step_30
    · have hf := if_t hc8 hf
      refine lv_bipush (v := -2) hx hb dX7_step_18 (by decide) ?_
      obtain ⟨rfl, rfl, rfl, rfl, rfl, rfl⟩ := e6_ hf
      exact r_iret C0 hw trivial dX7_step_20
  · have hf := if_t hc4 hf
    refine lv_iconst (v := -1) hx hb dX7_step_8 (by decide) ?_
    obtain ⟨rfl, rfl, rfl, rfl, rfl, rfl⟩ := e6_ hf
    exact r_iret C0 hw trivial dX7_step_9
def FMo_sweep_L33 (m_state : Nat → Int32) (l1 l2 : Int32) : Nat → Int32 → Int32 → (Nat → Int32) → (Nat → Int32) → Int32 → Int32 → (Nat → Int32) → Option (Int32 × (Nat → Int32) × (Nat → Int32) × Int32 × Int32 × (Nat → Int32))
  | 0, _, _, _, _, _, _, _ => none
  | n + 1, l3, l4, m_moments, m_stepsAt, m_steps, m_latest, m_shares =>
      if l2 ≤ l3 then
        some (l3, m_moments, m_stepsAt, m_steps, m_latest, m_shares)
      else
        if l4 = (-4 : Int32) then
          some (l3, m_moments, m_stepsAt, m_steps, m_latest, m_shares)
        else
          b5_ (FMo_doesStep m_state m_moments m_stepsAt m_steps m_shares l4) fun w14 w15 w16 w17 w18 =>
          lt_ (l3 + (1 : Int32)) fun v21 =>
          b1_ (FMo_nextOf m_state w14 w17 l1) fun r22 =>
          FMo_sweep_L33 m_state l1 l2 n v21 r22 w14 w15 w16 w17 w18
def FMo_sweep (m_state m_moments m_stepsAt : Nat → Int32) (m_steps m_latest : Int32) (m_shares : Nat → Int32) (a1 a2 : Int32) : Option (Int32 × (Nat → Int32) × (Nat → Int32) × Int32 × Int32 × (Nat → Int32)) :=
  b1_ (FMo_in (a1.toInt64) (0 : Int64) (1 : Int64)) fun r1 =>
  if r1 = 0 then
    some ((-1 : Int32), m_moments, m_stepsAt, m_steps, m_latest, m_shares)
  else
    b1_ (FMo_in (a2.toInt64) (1 : Int64) (200 : Int64)) fun r5 =>
    if r5 = 0 then
      some ((-1 : Int32), m_moments, m_stepsAt, m_steps, m_latest, m_shares)
    else
      b1_ (FMo_nextOf m_state m_moments m_latest a1) fun r9 =>
      FMo_sweep_L33 m_state a1 a2 1000 (0 : Int32) r9 m_moments m_stepsAt m_steps m_latest m_shares
set_option maxHeartbeats 4000000 in
set_option maxRecDepth 100000 in
theorem wMo_sweep_L33 {p : Program} {l : Launch} {e : Env} {s : State} {m : MethodId} {args : Array Value} {below : List Frame} {meth : Method} {c : Code} {A : Nat → Prop} {D : va_G} {κ : Nat → ClassId} (C0 : cx_ p s m meth c args cX7_sweep RX7 (some .int) 5 A) (qm : Nat → Nat) (m_state m_tape : Nat → Int32) (m_taped m_fault m_broken m_brokenAt m_spot m_here m_token m_value : Int32) (m_ends m_letters : Nat → Int32) (m_matrix m_sides m_tried m_answers : Nat → Int64) (m_rowOf : Nat → Int32) (m_whole : Int64) (m_isKept m_lanes m_lengths m_cells : Nat → Int32) (m_torn l1 l2 : Int32) (zr : Int32) (z1 z2 : Nat → Int32) (z3 z4 : Int32) (z5 : Nat → Int32) : ∀ (n : Nat) (l3 : Int32) (l4 : Int32) (m_moments : Nat → Int32) (m_stepsAt : Nat → Int32) (m_steps : Int32) (m_latest : Int32) (m_shares : Nat → Int32) (H : Heap) (locs : List Loc) (ls : Array Slot), wd_ D (tys0 κ) A s (List.flatten [pMo κ qm m_state m_tape m_taped m_fault m_broken m_brokenAt m_spot m_here m_token m_value m_ends m_letters m_moments m_stepsAt m_steps m_latest m_matrix m_sides m_tried m_answers m_rowOf m_whole m_shares m_isKept m_lanes m_lengths m_cells m_torn]) H locs → lv_has ls 5 [(0, .ref (qm 0)), (1, .int l1), (2, .int l2), (3, .int l3), (4, .int l4)] → FMo_sweep_L33 m_state l1 l2 n l3 l4 m_moments m_stepsAt m_steps m_latest m_shares = some (zr, z1, z2, z3, z4, z5) → W p l e ({ frames := 6, cells := 0, slots := 0, locals := 135 } : Room) s m args below meth c H locs 0 0 (qI_ D (tys0 κ) A nT_ zr (List.flatten [pMo κ qm m_state m_tape m_taped m_fault m_broken m_brokenAt m_spot m_here m_token m_value m_ends m_letters z1 z2 z3 z4 m_matrix m_sides m_tried m_answers m_rowOf m_whole z5 m_isKept m_lanes m_lengths m_cells m_torn]) below args s) (F0 m 33 ls []) := by
  obtain ⟨hx, hb, -, hml, hown, hts, -, -⟩ := id C0
  intro n
  induction n with
  | zero =>
    intro l3 l4 m_moments m_stepsAt m_steps m_latest m_shares H locs ls hw hl  hf
    cases hf
  | succ n ih =>
    intro l3 l4 m_moments m_stepsAt m_steps m_latest m_shares H locs ls hw hl  hf
    rw [FMo_sweep_L33.eq_2] at hf
    refine lv_iload_n hx hb dX7_sweep_33 rfl (lv_at hl 3 rfl) ?_
    refine lv_iload_n hx hb dX7_sweep_34 rfl (lv_at hl 2 rfl) ?_
    refine lv_icmp_ge (tgt := 64) hx hb dX7_sweep_35 (by decide) (fun hc12 => ?_) (fun hc12 => ?_)
    · have hf := if_t hc12 hf
      refine lv_iload_n hx hb dX7_sweep_64 rfl (lv_at hl 3 rfl) ?_
      obtain ⟨rfl, rfl, rfl, rfl, rfl, rfl⟩ := e6_ hf
      exact r_iret C0 hw trivial dX7_sweep_65
    · have hf := if_f hc12 hf
      refine lv_iload hx hb dX7_sweep_38 (lv_at hl 4 rfl) ?_
      refine lv_bipush (v := -4) hx hb dX7_sweep_40 (by decide) ?_
      refine lv_icmp_eq (tgt := 64) hx hb dX7_sweep_42 (by decide) (fun hc13 => ?_) (fun hc13 => ?_)
      · have hf := if_t hc13 hf
        refine lv_iload_n hx hb dX7_sweep_64 rfl (lv_at hl 3 rfl) ?_
        obtain ⟨rfl, rfl, rfl, rfl, rfl, rfl⟩ := e6_ hf
        exact r_iret C0 hw trivial dX7_sweep_65
      · have hf := if_f hc13 hf
        refine lv_aload_n hx hb dX7_sweep_45 rfl (lv_at hl 0 rfl) ?_
        refine lv_iload hx hb dX7_sweep_46 (lv_at hl 4 rfl) ?_
        obtain ⟨w14, w15, w16, w17, w18, hk19, hf⟩ := b5_s hf
        refine rv_v (vq := (RX7, TX7, 28)) (As := [.int l4]) (rest := []) (bs' := [pMo κ qm m_state m_tape m_taped m_fault m_broken m_brokenAt m_spot m_here m_token m_value m_ends m_letters w14 w15 w16 w17 m_matrix m_sides m_tried m_answers m_rowOf m_whole w18 m_isKept m_lanes m_lengths m_cells m_torn]) C0 hw (cMo_doesStep l D κ qm m_state m_tape m_taped m_fault m_broken m_brokenAt m_spot m_here m_token m_value m_ends m_letters m_moments m_stepsAt m_steps m_latest m_matrix m_sides m_tried m_answers m_rowOf m_whole m_shares m_isKept m_lanes m_lengths m_cells m_torn l4 w14 w15 w16 w17 w18 hk19) cv_RX7_266 ⟨rfl, rfl, Nat.le_of_ble_eq_true rfl, Nat.le_of_ble_eq_true rfl⟩ ⟨Nat.zero_le _, Nat.zero_le _⟩ [0] [] [0] rfl rfl rfl rfl (by decide) rfl rfl rfl rfl rfl hl.1 (by simp only [List.map, List.sum_cons, List.sum_nil, Value.category]; decide) dX7_sweep_48 (fun H locs hw => ?_)
        obtain ⟨v21, ev21⟩ : ∃ z : Int32, z = (l3 + (1 : Int32)) := ⟨_, rfl⟩
        have hf := lt_s_ hf v21 ev21
        refine lv_iinc (v := v21) (lv' := [(3, .int v21), (0, .ref (qm 0)), (1, .int l1), (2, .int l2), (4, .int l4)]) hx hb dX7_sweep_51 hl (k := 3) rfl (by rw [ev21]; rfl) (by decide) rfl (fun ls hl => ?_)
        refine lv_aload_n hx hb dX7_sweep_54 rfl (lv_at hl 1 rfl) ?_
        refine lv_iload_n hx hb dX7_sweep_55 rfl (lv_at hl 2 rfl) ?_
        obtain ⟨r22, hk23, hf⟩ := b1_s hf
        refine rv_i (vq := (RX7, TX7, 28)) (As := [.int l1]) (rest := []) (bs' := [pMo κ qm m_state m_tape m_taped m_fault m_broken m_brokenAt m_spot m_here m_token m_value m_ends m_letters w14 w15 w16 w17 m_matrix m_sides m_tried m_answers m_rowOf m_whole w18 m_isKept m_lanes m_lengths m_cells m_torn]) C0 hw (cMo_nextOf l D κ qm m_state m_tape m_taped m_fault m_broken m_brokenAt m_spot m_here m_token m_value m_ends m_letters w14 w15 w16 w17 m_matrix m_sides m_tried m_answers m_rowOf m_whole w18 m_isKept m_lanes m_lengths m_cells m_torn l1 r22 hk23) cv_RX7_263 ⟨rfl, rfl, Nat.le_of_ble_eq_true rfl, Nat.le_of_ble_eq_true rfl⟩ ⟨Nat.zero_le _, Nat.zero_le _⟩ [0] [] [0] rfl rfl rfl rfl (by decide) rfl rfl rfl rfl rfl hl.1 (by simp only [List.map, List.sum_cons, List.sum_nil, Value.category]; decide) dX7_sweep_56 (fun H locs hw hn24 => ?_)
        refine lv_istore (lv' := [(4, .int r22), (3, .int v21), (0, .ref (qm 0)), (1, .int l1), (2, .int l2)]) hx hb dX7_sweep_59 hl (by decide) rfl (fun ls hl => ?_)
        refine lv_goto (tgt := 33) hx hb dX7_sweep_61 (by decide) ?_
        exact ih v21 r22 w14 w15 w16 w17 w18 H locs ls hw (lv_sub hl [2, 3, 4, 1, 0] rfl)  hf
set_option maxHeartbeats 4000000 in
set_option maxRecDepth 100000 in
theorem cMo_sweep (l : Launch) (D : va_G) (κ : Nat → ClassId) (qm : Nat → Nat) (m_state m_tape : Nat → Int32) (m_taped m_fault m_broken m_brokenAt m_spot m_here m_token m_value : Int32) (m_ends m_letters m_moments m_stepsAt : Nat → Int32) (m_steps m_latest : Int32) (m_matrix m_sides m_tried m_answers : Nat → Int64) (m_rowOf : Nat → Int32) (m_whole : Int64) (m_shares m_isKept m_lanes m_lengths m_cells : Nat → Int32) (m_torn a1 a2 zr : Int32) (z1 z2 : Nat → Int32) (z3 z4 : Int32) (z5 : Nat → Int32) (hf : FMo_sweep m_state m_moments m_stepsAt m_steps m_latest m_shares a1 a2 = some (zr, z1, z2, z3, z4, z5)) : mI_ l yX7_sweep (Cond.code yX7_sweep cX7_sweep 5 (some .int) :: uw) ({ frames := 6, cells := 0, slots := 0, locals := 135 } : Room) D (tys0 κ) [.ref (qm 0), .int a1, .int a2] (List.flatten [pMo κ qm m_state m_tape m_taped m_fault m_broken m_brokenAt m_spot m_here m_token m_value m_ends m_letters m_moments m_stepsAt m_steps m_latest m_matrix m_sides m_tried m_answers m_rowOf m_whole m_shares m_isKept m_lanes m_lengths m_cells m_torn]) nT_ zr (List.flatten [pMo κ qm m_state m_tape m_taped m_fault m_broken m_brokenAt m_spot m_here m_token m_value m_ends m_letters z1 z2 z3 z4 m_matrix m_sides m_tried m_answers m_rowOf m_whole z5 m_isKept m_lanes m_lengths m_cells m_torn]) := by
  unfold FMo_sweep at hf
  refine mI_of (by decide) (Nat.le_of_ble_eq_true rfl) ?_
  intro p e s m below meth c A ls H locs C0 hw hl
  obtain ⟨hx, hb, -, hml, hown, hts, -, -⟩ := id C0
  have hl : lv_has ls 5 [(0, .ref (qm 0)), (1, .int a1), (2, .int a2)] := hl
  refine lv_iload_n hx hb dX7_sweep_0 rfl (lv_at hl 1 rfl) ?_
  refine lv_i2l hx hb dX7_sweep_1 rfl ?_
  refine lv_lconst (v := 0) hx hb dX7_sweep_2 (by decide) ?_
  refine lv_lconst (v := 1) hx hb dX7_sweep_3 (by decide) ?_
  obtain ⟨r1, hk2, hf⟩ := b1_s hf
  refine rs_i (As := [.long (a1.toInt64), .long (0 : Int64), .long (1 : Int64)]) (rest := []) (bs' := [pMo κ qm m_state m_tape m_taped m_fault m_broken m_brokenAt m_spot m_here m_token m_value m_ends m_letters m_moments m_stepsAt m_steps m_latest m_matrix m_sides m_tried m_answers m_rowOf m_whole m_shares m_isKept m_lanes m_lengths m_cells m_torn]) C0 hw (cMo_in l D κ (a1.toInt64) (0 : Int64) (1 : Int64) r1 hk2) cs_X7_66 ⟨rfl, rfl, Nat.le_of_ble_eq_true rfl, Nat.le_of_ble_eq_true rfl⟩ ⟨Nat.zero_le _, Nat.zero_le _⟩ [] [0] [0] rfl rfl rfl rfl (by decide) rfl rfl rfl hl.1 (by simp only [List.map, List.sum_cons, List.sum_nil, Value.category]; decide) dX7_sweep_4 (fun H locs hw hn3 => ?_)
  refine lv_if_eq (tgt := 22) hx hb dX7_sweep_7 (by decide) (fun hc4 => ?_) (fun hc4 => ?_)
  · have hf := if_t hc4 hf
    refine lv_iconst (v := -1) hx hb dX7_sweep_22 (by decide) ?_
    obtain ⟨rfl, rfl, rfl, rfl, rfl, rfl⟩ := e6_ hf
    exact r_iret C0 hw trivial dX7_sweep_23
  · have hf := if_f hc4 hf
    refine lv_iload_n hx hb dX7_sweep_10 rfl (lv_at hl 2 rfl) ?_
    refine lv_i2l hx hb dX7_sweep_11 rfl ?_
    refine lv_lconst (v := 1) hx hb dX7_sweep_12 (by decide) ?_
    refine lv_ldc2 (v := 200) hx hb hown (hts _ kl_X7_269) dX7_sweep_13 ?_
    obtain ⟨r5, hk6, hf⟩ := b1_s hf
    refine rs_i (As := [.long (a2.toInt64), .long (1 : Int64), .long (200 : Int64)]) (rest := []) (bs' := [pMo κ qm m_state m_tape m_taped m_fault m_broken m_brokenAt m_spot m_here m_token m_value m_ends m_letters m_moments m_stepsAt m_steps m_latest m_matrix m_sides m_tried m_answers m_rowOf m_whole m_shares m_isKept m_lanes m_lengths m_cells m_torn]) C0 hw (cMo_in l D κ (a2.toInt64) (1 : Int64) (200 : Int64) r5 hk6) cs_X7_66 ⟨rfl, rfl, Nat.le_of_ble_eq_true rfl, Nat.le_of_ble_eq_true rfl⟩ ⟨Nat.zero_le _, Nat.zero_le _⟩ [] [0] [0] rfl rfl rfl rfl (by decide) rfl rfl rfl hl.1 (by simp only [List.map, List.sum_cons, List.sum_nil, Value.category]; decide) dX7_sweep_16 (fun H locs hw hn7 => ?_)
    refine lv_if_ne (tgt := 24) hx hb dX7_sweep_19 (by decide) (fun hc8 => ?_) (fun hc8 => ?_)
    · have hf := if_f hc8 hf
      refine lv_iconst (v := 0) hx hb dX7_sweep_24 (by decide) ?_
      refine lv_istore_n (lv' := [(3, .int (0 : Int32)), (0, .ref (qm 0)), (1, .int a1), (2, .int a2)]) hx hb dX7_sweep_25 rfl hl (by decide) rfl (fun ls hl => ?_)
      refine lv_aload_n hx hb dX7_sweep_26 rfl (lv_at hl 1 rfl) ?_
      refine lv_iload_n hx hb dX7_sweep_27 rfl (lv_at hl 2 rfl) ?_
      obtain ⟨r9, hk10, hf⟩ := b1_s hf
      refine rv_i (vq := (RX7, TX7, 28)) (As := [.int a1]) (rest := []) (bs' := [pMo κ qm m_state m_tape m_taped m_fault m_broken m_brokenAt m_spot m_here m_token m_value m_ends m_letters m_moments m_stepsAt m_steps m_latest m_matrix m_sides m_tried m_answers m_rowOf m_whole m_shares m_isKept m_lanes m_lengths m_cells m_torn]) C0 hw (cMo_nextOf l D κ qm m_state m_tape m_taped m_fault m_broken m_brokenAt m_spot m_here m_token m_value m_ends m_letters m_moments m_stepsAt m_steps m_latest m_matrix m_sides m_tried m_answers m_rowOf m_whole m_shares m_isKept m_lanes m_lengths m_cells m_torn a1 r9 hk10) cv_RX7_263 ⟨rfl, rfl, Nat.le_of_ble_eq_true rfl, Nat.le_of_ble_eq_true rfl⟩ ⟨Nat.zero_le _, Nat.zero_le _⟩ [0] [] [0] rfl rfl rfl rfl (by decide) rfl rfl rfl rfl rfl hl.1 (by simp only [List.map, List.sum_cons, List.sum_nil, Value.category]; decide) dX7_sweep_28 (fun H locs hw hn11 => ?_)
      refine lv_istore (lv' := [(4, .int r9), (3, .int (0 : Int32)), (0, .ref (qm 0)), (1, .int a1), (2, .int a2)]) hx hb dX7_sweep_31 hl (by decide) rfl (fun ls hl => ?_)
      exact wMo_sweep_L33 C0 qm m_state m_tape m_taped m_fault m_broken m_brokenAt m_spot m_here m_token m_value m_ends m_letters m_matrix m_sides m_tried m_answers m_rowOf m_whole m_isKept m_lanes m_lengths m_cells m_torn a1 a2 zr z1 z2 z3 z4 z5 1000 (0 : Int32) r9 m_moments m_stepsAt m_steps m_latest m_shares H locs ls hw (lv_sub hl [2, 3, 4, 1, 0] rfl)  hf
    · have hf := if_t hc8 hf
      refine lv_iconst (v := -1) hx hb dX7_sweep_22 (by decide) ?_
      obtain ⟨rfl, rfl, rfl, rfl, rfl, rfl⟩ := e6_ hf
      exact r_iret C0 hw trivial dX7_sweep_23
def FMo_begin (m_state m_moments m_stepsAt : Nat → Int32) (m_steps : Int32) : Option (Int32 × (Nat → Int32) × (Nat → Int32) × Int32 × Int32) :=
  b5_ (FMo_begins m_state m_moments m_stepsAt m_steps) fun r1 w2 w3 w4 w5 =>
  some (r1, w2, w3, w4, w5)
set_option maxHeartbeats 4000000 in
set_option maxRecDepth 100000 in
theorem cMo_begin (l : Launch) (D : va_G) (κ : Nat → ClassId) (qm : Nat → Nat) (m_state m_tape : Nat → Int32) (m_taped m_fault m_broken m_brokenAt m_spot m_here m_token m_value : Int32) (m_ends m_letters m_moments m_stepsAt : Nat → Int32) (m_steps m_latest : Int32) (m_matrix m_sides m_tried m_answers : Nat → Int64) (m_rowOf : Nat → Int32) (m_whole : Int64) (m_shares m_isKept m_lanes m_lengths m_cells : Nat → Int32) (m_torn zr : Int32) (z1 z2 : Nat → Int32) (z3 z4 : Int32) (hf : FMo_begin m_state m_moments m_stepsAt m_steps = some (zr, z1, z2, z3, z4)) : mI_ l yX7_begin (Cond.code yX7_begin cX7_begin 1 (some .int) :: uw) ({ frames := 3, cells := 0, slots := 0, locals := 71 } : Room) D (tys0 κ) [.ref (qm 0)] (List.flatten [pMo κ qm m_state m_tape m_taped m_fault m_broken m_brokenAt m_spot m_here m_token m_value m_ends m_letters m_moments m_stepsAt m_steps m_latest m_matrix m_sides m_tried m_answers m_rowOf m_whole m_shares m_isKept m_lanes m_lengths m_cells m_torn]) nT_ zr (List.flatten [pMo κ qm m_state m_tape m_taped m_fault m_broken m_brokenAt m_spot m_here m_token m_value m_ends m_letters z1 z2 z3 z4 m_matrix m_sides m_tried m_answers m_rowOf m_whole m_shares m_isKept m_lanes m_lengths m_cells m_torn]) := by
  unfold FMo_begin at hf
  refine mI_of (by decide) (Nat.le_of_ble_eq_true rfl) ?_
  intro p e s m below meth c A ls H locs C0 hw hl
  obtain ⟨hx, hb, -, hml, hown, hts, -, -⟩ := id C0
  have hl : lv_has ls 1 [(0, .ref (qm 0))] := hl
  refine lv_aload_n hx hb dX7_begin_0 rfl (lv_at hl 0 rfl) ?_
  obtain ⟨r1, w2, w3, w4, w5, hk6, hf⟩ := b5_s hf
  refine rv_i (vq := (RX7, TX7, 28)) (As := []) (rest := []) (bs' := [pMo κ qm m_state m_tape m_taped m_fault m_broken m_brokenAt m_spot m_here m_token m_value m_ends m_letters w2 w3 w4 w5 m_matrix m_sides m_tried m_answers m_rowOf m_whole m_shares m_isKept m_lanes m_lengths m_cells m_torn]) C0 hw (cMo_begins l D κ qm m_state m_tape m_taped m_fault m_broken m_brokenAt m_spot m_here m_token m_value m_ends m_letters m_moments m_stepsAt m_steps m_latest m_matrix m_sides m_tried m_answers m_rowOf m_whole m_shares m_isKept m_lanes m_lengths m_cells m_torn r1 w2 w3 w4 w5 hk6) cv_RX7_149 ⟨rfl, rfl, Nat.le_of_ble_eq_true rfl, Nat.le_of_ble_eq_true rfl⟩ ⟨Nat.zero_le _, Nat.zero_le _⟩ [0] [] [0] rfl rfl rfl rfl (by decide) rfl rfl rfl rfl rfl hl.1 (by simp only [List.map, List.sum_cons, List.sum_nil, Value.category]; decide) dX7_begin_1 (fun H locs hw hn7 => ?_)
  obtain ⟨rfl, rfl, rfl, rfl, rfl⟩ := e5_ hf
  exact r_iret C0 hw trivial dX7_begin_4
def FMo_isCouple (m_state : Nat → Int32) (a1 a2 : Int32) : Option (Int32) :=
  b1_ (FMo_isJoint m_state a1) fun r1 =>
  if r1 = 0 then
    some ((0 : Int32))
  else
    b1_ (FMo_in (a2.toInt64) (-9999 : Int64) (9999 : Int64)) fun r5 =>
    if r5 = 0 then
      some ((0 : Int32))
    else
      some ((1 : Int32))
set_option maxHeartbeats 4000000 in
set_option maxRecDepth 100000 in
theorem cMo_isCouple (l : Launch) (D : va_G) (κ : Nat → ClassId) (qm : Nat → Nat) (m_state m_tape : Nat → Int32) (m_taped m_fault m_broken m_brokenAt m_spot m_here m_token m_value : Int32) (m_ends m_letters m_moments m_stepsAt : Nat → Int32) (m_steps m_latest : Int32) (m_matrix m_sides m_tried m_answers : Nat → Int64) (m_rowOf : Nat → Int32) (m_whole : Int64) (m_shares m_isKept m_lanes m_lengths m_cells : Nat → Int32) (m_torn a1 a2 zr : Int32) (hf : FMo_isCouple m_state a1 a2 = some zr) : mI_ l yX7_isCouple (Cond.code yX7_isCouple cX7_isCouple 3 (some .boolean) :: uw) ({ frames := 2, cells := 0, slots := 0, locals := 46 } : Room) D (tys0 κ) [.ref (qm 0), .int a1, .int a2] (List.flatten [pMo κ qm m_state m_tape m_taped m_fault m_broken m_brokenAt m_spot m_here m_token m_value m_ends m_letters m_moments m_stepsAt m_steps m_latest m_matrix m_sides m_tried m_answers m_rowOf m_whole m_shares m_isKept m_lanes m_lengths m_cells m_torn]) nB_ zr (List.flatten [pMo κ qm m_state m_tape m_taped m_fault m_broken m_brokenAt m_spot m_here m_token m_value m_ends m_letters m_moments m_stepsAt m_steps m_latest m_matrix m_sides m_tried m_answers m_rowOf m_whole m_shares m_isKept m_lanes m_lengths m_cells m_torn]) := by
  unfold FMo_isCouple at hf
  refine mI_of (by decide) (Nat.le_of_ble_eq_true rfl) ?_
  intro p e s m below meth c A ls H locs C0 hw hl
  obtain ⟨hx, hb, -, hml, hown, hts, -, -⟩ := id C0
  have hl : lv_has ls 3 [(0, .ref (qm 0)), (1, .int a1), (2, .int a2)] := hl
  refine lv_aload_n hx hb dX7_isCouple_0 rfl (lv_at hl 0 rfl) ?_
  refine lv_iload_n hx hb dX7_isCouple_1 rfl (lv_at hl 1 rfl) ?_
  obtain ⟨r1, hk2, hf⟩ := b1_s hf
  refine rv_i (vq := (RX7, TX7, 28)) (As := [.int a1]) (rest := []) (bs' := [pMo κ qm m_state m_tape m_taped m_fault m_broken m_brokenAt m_spot m_here m_token m_value m_ends m_letters m_moments m_stepsAt m_steps m_latest m_matrix m_sides m_tried m_answers m_rowOf m_whole m_shares m_isKept m_lanes m_lengths m_cells m_torn]) C0 hw (cMo_isJoint l D κ qm m_state m_tape m_taped m_fault m_broken m_brokenAt m_spot m_here m_token m_value m_ends m_letters m_moments m_stepsAt m_steps m_latest m_matrix m_sides m_tried m_answers m_rowOf m_whole m_shares m_isKept m_lanes m_lengths m_cells m_torn a1 r1 hk2) cv_RX7_198 ⟨rfl, rfl, Nat.le_of_ble_eq_true rfl, Nat.le_of_ble_eq_true rfl⟩ ⟨Nat.zero_le _, Nat.zero_le _⟩ [0] [] [0] rfl rfl rfl rfl (by decide) rfl rfl rfl rfl rfl hl.1 (by simp only [List.map, List.sum_cons, List.sum_nil, Value.category]; decide) dX7_isCouple_2 (fun H locs hw hn3 => ?_)
  refine lv_if_eq (tgt := 26) hx hb dX7_isCouple_5 (by decide) (fun hc4 => ?_) (fun hc4 => ?_)
  · have hf := if_t hc4 hf
    refine lv_iconst (v := 0) hx hb dX7_isCouple_26 (by decide) ?_
    obtain rfl := e1_ hf
    exact r_zret C0 hw (Or.inl rfl) dX7_isCouple_27
  · have hf := if_f hc4 hf
    refine lv_iload_n hx hb dX7_isCouple_8 rfl (lv_at hl 2 rfl) ?_
    refine lv_i2l hx hb dX7_isCouple_9 rfl ?_
    refine lv_ldc2 (v := -9999) hx hb hown (hts _ kl_X7_271) dX7_isCouple_10 ?_
    refine lv_ldc2 (v := 9999) hx hb hown (hts _ kl_X7_273) dX7_isCouple_13 ?_
    obtain ⟨r5, hk6, hf⟩ := b1_s hf
    refine rs_i (As := [.long (a2.toInt64), .long (-9999 : Int64), .long (9999 : Int64)]) (rest := []) (bs' := [pMo κ qm m_state m_tape m_taped m_fault m_broken m_brokenAt m_spot m_here m_token m_value m_ends m_letters m_moments m_stepsAt m_steps m_latest m_matrix m_sides m_tried m_answers m_rowOf m_whole m_shares m_isKept m_lanes m_lengths m_cells m_torn]) C0 hw (cMo_in l D κ (a2.toInt64) (-9999 : Int64) (9999 : Int64) r5 hk6) cs_X7_66 ⟨rfl, rfl, Nat.le_of_ble_eq_true rfl, Nat.le_of_ble_eq_true rfl⟩ ⟨Nat.zero_le _, Nat.zero_le _⟩ [] [0] [0] rfl rfl rfl rfl (by decide) rfl rfl rfl hl.1 (by simp only [List.map, List.sum_cons, List.sum_nil, Value.category]; decide) dX7_isCouple_16 (fun H locs hw hn7 => ?_)
    refine lv_if_eq (tgt := 26) hx hb dX7_isCouple_19 (by decide) (fun hc8 => ?_) (fun hc8 => ?_)
    · have hf := if_t hc8 hf
      refine lv_iconst (v := 0) hx hb dX7_isCouple_26 (by decide) ?_
      obtain rfl := e1_ hf
      exact r_zret C0 hw (Or.inl rfl) dX7_isCouple_27
    · have hf := if_f hc8 hf
      refine lv_iconst (v := 1) hx hb dX7_isCouple_22 (by decide) ?_
      refine lv_goto (tgt := 27) hx hb dX7_isCouple_23 (by decide) ?_
      obtain rfl := e1_ hf
      exact r_zret C0 hw (Or.inr rfl) dX7_isCouple_27
def FMo_couple (m_state m_moments m_stepsAt : Nat → Int32) (m_steps m_latest a1 a2 : Int32) : Option (Int32 × (Nat → Int32) × (Nat → Int32) × (Nat → Int32) × Int32 × Int32) :=
  b1_ (FMo_isCouple m_state a1 a2) fun r1 =>
  if r1 = 0 then
    some ((-1 : Int32), m_state, m_moments, m_stepsAt, m_steps, m_latest)
  else
    gd_ ((6 : Int32) + a1) 395 <|
    lt_ (upd m_state ((6 : Int32) + a1).toNatClampNeg a2) fun w6 =>
    b5_ (FMo_begins w6 m_moments m_stepsAt m_steps) fun r7 w8 w9 w10 w11 =>
    some ((1 : Int32), w6, w8, w9, w10, w11)
set_option maxHeartbeats 4000000 in
set_option maxRecDepth 100000 in
theorem cMo_couple (l : Launch) (D : va_G) (κ : Nat → ClassId) (qm : Nat → Nat) (m_state m_tape : Nat → Int32) (m_taped m_fault m_broken m_brokenAt m_spot m_here m_token m_value : Int32) (m_ends m_letters m_moments m_stepsAt : Nat → Int32) (m_steps m_latest : Int32) (m_matrix m_sides m_tried m_answers : Nat → Int64) (m_rowOf : Nat → Int32) (m_whole : Int64) (m_shares m_isKept m_lanes m_lengths m_cells : Nat → Int32) (m_torn a1 a2 zr : Int32) (z1 z2 z3 : Nat → Int32) (z4 z5 : Int32) (hf : FMo_couple m_state m_moments m_stepsAt m_steps m_latest a1 a2 = some (zr, z1, z2, z3, z4, z5)) : mI_ l yX7_couple (Cond.code yX7_couple cX7_couple 3 (some .int) :: uw) ({ frames := 3, cells := 0, slots := 0, locals := 71 } : Room) D (tys0 κ) [.ref (qm 0), .int a1, .int a2] (List.flatten [pMo κ qm m_state m_tape m_taped m_fault m_broken m_brokenAt m_spot m_here m_token m_value m_ends m_letters m_moments m_stepsAt m_steps m_latest m_matrix m_sides m_tried m_answers m_rowOf m_whole m_shares m_isKept m_lanes m_lengths m_cells m_torn]) nT_ zr (List.flatten [pMo κ qm z1 m_tape m_taped m_fault m_broken m_brokenAt m_spot m_here m_token m_value m_ends m_letters z2 z3 z4 z5 m_matrix m_sides m_tried m_answers m_rowOf m_whole m_shares m_isKept m_lanes m_lengths m_cells m_torn]) := by
  unfold FMo_couple at hf
  refine mI_of (by decide) (Nat.le_of_ble_eq_true rfl) ?_
  intro p e s m below meth c A ls H locs C0 hw hl
  obtain ⟨hx, hb, -, hml, hown, hts, -, -⟩ := id C0
  have hl : lv_has ls 3 [(0, .ref (qm 0)), (1, .int a1), (2, .int a2)] := hl
  refine lv_aload_n hx hb dX7_couple_0 rfl (lv_at hl 0 rfl) ?_
  refine lv_iload_n hx hb dX7_couple_1 rfl (lv_at hl 1 rfl) ?_
  refine lv_iload_n hx hb dX7_couple_2 rfl (lv_at hl 2 rfl) ?_
  obtain ⟨r1, hk2, hf⟩ := b1_s hf
  refine rv_i (vq := (RX7, TX7, 28)) (As := [.int a1, .int a2]) (rest := []) (bs' := [pMo κ qm m_state m_tape m_taped m_fault m_broken m_brokenAt m_spot m_here m_token m_value m_ends m_letters m_moments m_stepsAt m_steps m_latest m_matrix m_sides m_tried m_answers m_rowOf m_whole m_shares m_isKept m_lanes m_lengths m_cells m_torn]) C0 hw (cMo_isCouple l D κ qm m_state m_tape m_taped m_fault m_broken m_brokenAt m_spot m_here m_token m_value m_ends m_letters m_moments m_stepsAt m_steps m_latest m_matrix m_sides m_tried m_answers m_rowOf m_whole m_shares m_isKept m_lanes m_lengths m_cells m_torn a1 a2 r1 hk2) cv_RX7_275 ⟨rfl, rfl, Nat.le_of_ble_eq_true rfl, Nat.le_of_ble_eq_true rfl⟩ ⟨Nat.zero_le _, Nat.zero_le _⟩ [0] [] [0] rfl rfl rfl rfl (by decide) rfl rfl rfl rfl rfl hl.1 (by simp only [List.map, List.sum_cons, List.sum_nil, Value.category]; decide) dX7_couple_3 (fun H locs hw hn3 => ?_)
  refine lv_if_ne (tgt := 11) hx hb dX7_couple_6 (by decide) (fun hc4 => ?_) (fun hc4 => ?_)
  · have hf := if_f hc4 hf
    refine lv_aload_n hx hb dX7_couple_11 rfl (lv_at hl 0 rfl) ?_
    refine r_get C0 hw 0 0 (v := .ref (qm 1)) rfl rfl inX7 (by decide) lk_X7_7 rfl dX7_couple_12 ?_
    refine lv_bipush (v := 6) hx hb dX7_couple_15 (by decide) ?_
    refine lv_iload_n hx hb dX7_couple_17 rfl (lv_at hl 1 rfl) ?_
    refine lv_iadd hx hb dX7_couple_18 ?_
    refine lv_iload_n hx hb dX7_couple_19 rfl (lv_at hl 2 rfl) ?_
    obtain ⟨hi5, hf⟩ := gd_s hf
    obtain ⟨w6, ew6⟩ : ∃ z : Nat → Int32, z = (upd m_state ((6 : Int32) + a1).toNatClampNeg a2) := ⟨_, rfl⟩
    have hf := lt_s_ hf w6 ew6
    refine r_iast C0 hw 1 0 rfl rfl hi5 dX7_couple_20 (ws' := List.flatten [pMo κ qm w6 m_tape m_taped m_fault m_broken m_brokenAt m_spot m_here m_token m_value m_ends m_letters m_moments m_stepsAt m_steps m_latest m_matrix m_sides m_tried m_answers m_rowOf m_whole m_shares m_isKept m_lanes m_lengths m_cells m_torn]) (by subst ew6; rfl) (fun H locs hw => ?_)
    refine lv_aload_n hx hb dX7_couple_21 rfl (lv_at hl 0 rfl) ?_
    obtain ⟨r7, w8, w9, w10, w11, hk12, hf⟩ := b5_s hf
    refine rv_i (vq := (RX7, TX7, 28)) (As := []) (rest := []) (bs' := [pMo κ qm w6 m_tape m_taped m_fault m_broken m_brokenAt m_spot m_here m_token m_value m_ends m_letters w8 w9 w10 w11 m_matrix m_sides m_tried m_answers m_rowOf m_whole m_shares m_isKept m_lanes m_lengths m_cells m_torn]) C0 hw (cMo_begins l D κ qm w6 m_tape m_taped m_fault m_broken m_brokenAt m_spot m_here m_token m_value m_ends m_letters m_moments m_stepsAt m_steps m_latest m_matrix m_sides m_tried m_answers m_rowOf m_whole m_shares m_isKept m_lanes m_lengths m_cells m_torn r7 w8 w9 w10 w11 hk12) cv_RX7_149 ⟨rfl, rfl, Nat.le_of_ble_eq_true rfl, Nat.le_of_ble_eq_true rfl⟩ ⟨Nat.zero_le _, Nat.zero_le _⟩ [0] [] [0] rfl rfl rfl rfl (by decide) rfl rfl rfl rfl rfl hl.1 (by simp only [List.map, List.sum_cons, List.sum_nil, Value.category]; decide) dX7_couple_22 (fun H locs hw hn13 => ?_)
    refine lv_pop hx hb dX7_couple_25 rfl ?_
    refine lv_iconst (v := 1) hx hb dX7_couple_26 (by decide) ?_
    obtain ⟨rfl, rfl, rfl, rfl, rfl, rfl⟩ := e6_ hf
    exact r_iret C0 hw trivial dX7_couple_27
  · have hf := if_t hc4 hf
    refine lv_iconst (v := -1) hx hb dX7_couple_9 (by decide) ?_
    obtain ⟨rfl, rfl, rfl, rfl, rfl, rfl⟩ := e6_ hf
    exact r_iret C0 hw trivial dX7_couple_10
def FMo_hold (m_state m_moments m_stepsAt : Nat → Int32) (m_steps m_latest a1 a2 : Int32) : Option (Int32 × (Nat → Int32) × (Nat → Int32) × (Nat → Int32) × Int32 × Int32) :=
  b1_ (FMo_isJoint m_state a1) fun r1 =>
  if r1 = 0 then
    some ((-1 : Int32), m_state, m_moments, m_stepsAt, m_steps, m_latest)
  else
    b1_ (FMo_in (a2.toInt64) (0 : Int64) (1 : Int64)) fun r5 =>
    if r5 = 0 then
      some ((-1 : Int32), m_state, m_moments, m_stepsAt, m_steps, m_latest)
    else
      gd_ a1 395 <|
      lt_ (m_state a1.toNatClampNeg) fun v10 =>
      lt_ (fun (_ : Unit) =>
        gd_ a1 395 <|
        lt_ (upd m_state a1.toNatClampNeg a2) fun w12 =>
        b5_ (FMo_begins w12 m_moments m_stepsAt m_steps) fun r13 w14 w15 w16 w17 =>
        some (v10, w12, w14, w15, w16, w17) : Unit → Option (Int32 × (Nat → Int32) × (Nat → Int32) × (Nat → Int32) × Int32 × Int32)) fun j20 =>
      if v10 = (1 : Int32) then
        if a2 = 0 then
          b1_ (FMo_turning m_state (0 : Int32)) fun r24 =>
          if r24 = (4 : Int32) then
            some ((-3 : Int32), m_state, m_moments, m_stepsAt, m_steps, m_latest)
          else
            j20 ()
        else
          j20 ()
      else
        j20 ()
set_option maxHeartbeats 4000000 in
set_option maxRecDepth 100000 in
theorem cMo_hold (l : Launch) (D : va_G) (κ : Nat → ClassId) (qm : Nat → Nat) (m_state m_tape : Nat → Int32) (m_taped m_fault m_broken m_brokenAt m_spot m_here m_token m_value : Int32) (m_ends m_letters m_moments m_stepsAt : Nat → Int32) (m_steps m_latest : Int32) (m_matrix m_sides m_tried m_answers : Nat → Int64) (m_rowOf : Nat → Int32) (m_whole : Int64) (m_shares m_isKept m_lanes m_lengths m_cells : Nat → Int32) (m_torn a1 a2 zr : Int32) (z1 z2 z3 : Nat → Int32) (z4 z5 : Int32) (hf : FMo_hold m_state m_moments m_stepsAt m_steps m_latest a1 a2 = some (zr, z1, z2, z3, z4, z5)) : mI_ l yX7_hold (Cond.code yX7_hold cX7_hold 4 (some .int) :: uw) ({ frames := 3, cells := 0, slots := 0, locals := 71 } : Room) D (tys0 κ) [.ref (qm 0), .int a1, .int a2] (List.flatten [pMo κ qm m_state m_tape m_taped m_fault m_broken m_brokenAt m_spot m_here m_token m_value m_ends m_letters m_moments m_stepsAt m_steps m_latest m_matrix m_sides m_tried m_answers m_rowOf m_whole m_shares m_isKept m_lanes m_lengths m_cells m_torn]) nT_ zr (List.flatten [pMo κ qm z1 m_tape m_taped m_fault m_broken m_brokenAt m_spot m_here m_token m_value m_ends m_letters z2 z3 z4 z5 m_matrix m_sides m_tried m_answers m_rowOf m_whole m_shares m_isKept m_lanes m_lengths m_cells m_torn]) := by
  unfold FMo_hold at hf
  refine mI_of (by decide) (Nat.le_of_ble_eq_true rfl) ?_
  intro p e s m below meth c A ls H locs C0 hw hl
  obtain ⟨hx, hb, -, hml, hown, hts, -, -⟩ := id C0
  have hl : lv_has ls 4 [(0, .ref (qm 0)), (1, .int a1), (2, .int a2)] := hl
  refine lv_aload_n hx hb dX7_hold_0 rfl (lv_at hl 0 rfl) ?_
  refine lv_iload_n hx hb dX7_hold_1 rfl (lv_at hl 1 rfl) ?_
  obtain ⟨r1, hk2, hf⟩ := b1_s hf
  refine rv_i (vq := (RX7, TX7, 28)) (As := [.int a1]) (rest := []) (bs' := [pMo κ qm m_state m_tape m_taped m_fault m_broken m_brokenAt m_spot m_here m_token m_value m_ends m_letters m_moments m_stepsAt m_steps m_latest m_matrix m_sides m_tried m_answers m_rowOf m_whole m_shares m_isKept m_lanes m_lengths m_cells m_torn]) C0 hw (cMo_isJoint l D κ qm m_state m_tape m_taped m_fault m_broken m_brokenAt m_spot m_here m_token m_value m_ends m_letters m_moments m_stepsAt m_steps m_latest m_matrix m_sides m_tried m_answers m_rowOf m_whole m_shares m_isKept m_lanes m_lengths m_cells m_torn a1 r1 hk2) cv_RX7_198 ⟨rfl, rfl, Nat.le_of_ble_eq_true rfl, Nat.le_of_ble_eq_true rfl⟩ ⟨Nat.zero_le _, Nat.zero_le _⟩ [0] [] [0] rfl rfl rfl rfl (by decide) rfl rfl rfl rfl rfl hl.1 (by simp only [List.map, List.sum_cons, List.sum_nil, Value.category]; decide) dX7_hold_2 (fun H locs hw hn3 => ?_)
  refine lv_if_eq (tgt := 18) hx hb dX7_hold_5 (by decide) (fun hc4 => ?_) (fun hc4 => ?_)
  · have hf := if_t hc4 hf
    refine lv_iconst (v := -1) hx hb dX7_hold_18 (by decide) ?_
    obtain ⟨rfl, rfl, rfl, rfl, rfl, rfl⟩ := e6_ hf
    exact r_iret C0 hw trivial dX7_hold_19
  · have hf := if_f hc4 hf
    refine lv_iload_n hx hb dX7_hold_8 rfl (lv_at hl 2 rfl) ?_
    refine lv_i2l hx hb dX7_hold_9 rfl ?_
    refine lv_lconst (v := 0) hx hb dX7_hold_10 (by decide) ?_
    refine lv_lconst (v := 1) hx hb dX7_hold_11 (by decide) ?_
    obtain ⟨r5, hk6, hf⟩ := b1_s hf
    refine rs_i (As := [.long (a2.toInt64), .long (0 : Int64), .long (1 : Int64)]) (rest := []) (bs' := [pMo κ qm m_state m_tape m_taped m_fault m_broken m_brokenAt m_spot m_here m_token m_value m_ends m_letters m_moments m_stepsAt m_steps m_latest m_matrix m_sides m_tried m_answers m_rowOf m_whole m_shares m_isKept m_lanes m_lengths m_cells m_torn]) C0 hw (cMo_in l D κ (a2.toInt64) (0 : Int64) (1 : Int64) r5 hk6) cs_X7_66 ⟨rfl, rfl, Nat.le_of_ble_eq_true rfl, Nat.le_of_ble_eq_true rfl⟩ ⟨Nat.zero_le _, Nat.zero_le _⟩ [] [0] [0] rfl rfl rfl rfl (by decide) rfl rfl rfl hl.1 (by simp only [List.map, List.sum_cons, List.sum_nil, Value.category]; decide) dX7_hold_12 (fun H locs hw hn7 => ?_)
    refine lv_if_ne (tgt := 20) hx hb dX7_hold_15 (by decide) (fun hc8 => ?_) (fun hc8 => ?_)
    · have hf := if_f hc8 hf
      refine lv_aload_n hx hb dX7_hold_20 rfl (lv_at hl 0 rfl) ?_
      refine r_get C0 hw 0 0 (v := .ref (qm 1)) rfl rfl inX7 (by decide) lk_X7_7 rfl dX7_hold_21 ?_
      refine lv_iload_n hx hb dX7_hold_24 rfl (lv_at hl 1 rfl) ?_
      obtain ⟨hi9, hf⟩ := gd_s hf
      refine r_iald C0 hw 1 0 rfl rfl hi9 dX7_hold_25 ?_
      refine lv_topi (fun v10 ev10 => ?_)
      have hf := lt_s_ hf v10 ev10
      refine lv_istore_n (lv' := [(3, .int v10), (0, .ref (qm 0)), (1, .int a1), (2, .int a2)]) hx hb dX7_hold_26 rfl hl (by decide) rfl (fun ls hl => ?_)
      refine lv_iload_n hx hb dX7_hold_27 rfl (lv_at hl 0 rfl) ?_
      refine lv_iconst (v := 1) hx hb dX7_hold_28 (by decide) ?_
      obtain ⟨j20, ej20, hf⟩ := lt_e hf
      have hj21 : ∀  (H : Heap) (locs : List Loc) (ls : Array Slot), wd_ D (tys0 κ) A s (List.flatten [pMo κ qm m_state m_tape m_taped m_fault m_broken m_brokenAt m_spot m_here m_token m_value m_ends m_letters m_moments m_stepsAt m_steps m_latest m_matrix m_sides m_tried m_answers m_rowOf m_whole m_shares m_isKept m_lanes m_lengths m_cells m_torn]) H locs → lv_has ls 4 [(3, .int v10), (0, .ref (qm 0)), (1, .int a1), (2, .int a2)] → j20 () = some (zr, z1, z2, z3, z4, z5) → W p l e ({ frames := 3, cells := 0, slots := 0, locals := 71 } : Room) s m ([.ref (qm 0), .int a1, .int a2] : List Value).toArray below meth c H locs 0 0 (qI_ D (tys0 κ) A nT_ zr (List.flatten [pMo κ qm z1 m_tape m_taped m_fault m_broken m_brokenAt m_spot m_here m_token m_value m_ends m_letters z2 z3 z4 z5 m_matrix m_sides m_tried m_answers m_rowOf m_whole m_shares m_isKept m_lanes m_lengths m_cells m_torn]) below ([.ref (qm 0), .int a1, .int a2] : List Value).toArray s) (F0 m 48 ls []) := by
        intro  H locs ls hw hl  hf
        have hf : (gd_ a1 395 <| lt_ (upd m_state a1.toNatClampNeg a2) fun w12 => b5_ (FMo_begins w12 m_moments m_stepsAt m_steps) fun r13 w14 w15 w16 w17 => some (v10, w12, w14, w15, w16, w17)) = some (zr, z1, z2, z3, z4, z5) := by rw [ej20] at hf; exact hf
        refine lv_aload_n hx hb dX7_hold_48 rfl (lv_at hl 1 rfl) ?_
        refine r_get C0 hw 0 0 (v := .ref (qm 1)) rfl rfl inX7 (by decide) lk_X7_7 rfl dX7_hold_49 ?_
        refine lv_iload_n hx hb dX7_hold_52 rfl (lv_at hl 2 rfl) ?_
        refine lv_iload_n hx hb dX7_hold_53 rfl (lv_at hl 3 rfl) ?_
        obtain ⟨hi11, hf⟩ := gd_s hf
        obtain ⟨w12, ew12⟩ : ∃ z : Nat → Int32, z = (upd m_state a1.toNatClampNeg a2) := ⟨_, rfl⟩
        have hf := lt_s_ hf w12 ew12
        refine r_iast C0 hw 1 0 rfl rfl hi11 dX7_hold_54 (ws' := List.flatten [pMo κ qm w12 m_tape m_taped m_fault m_broken m_brokenAt m_spot m_here m_token m_value m_ends m_letters m_moments m_stepsAt m_steps m_latest m_matrix m_sides m_tried m_answers m_rowOf m_whole m_shares m_isKept m_lanes m_lengths m_cells m_torn]) (by subst ew12; rfl) (fun H locs hw => ?_)
        refine lv_aload_n hx hb dX7_hold_55 rfl (lv_at hl 1 rfl) ?_
        obtain ⟨r13, w14, w15, w16, w17, hk18, hf⟩ := b5_s hf
        refine rv_i (vq := (RX7, TX7, 28)) (As := []) (rest := []) (bs' := [pMo κ qm w12 m_tape m_taped m_fault m_broken m_brokenAt m_spot m_here m_token m_value m_ends m_letters w14 w15 w16 w17 m_matrix m_sides m_tried m_answers m_rowOf m_whole m_shares m_isKept m_lanes m_lengths m_cells m_torn]) C0 hw (cMo_begins l D κ qm w12 m_tape m_taped m_fault m_broken m_brokenAt m_spot m_here m_token m_value m_ends m_letters m_moments m_stepsAt m_steps m_latest m_matrix m_sides m_tried m_answers m_rowOf m_whole m_shares m_isKept m_lanes m_lengths m_cells m_torn r13 w14 w15 w16 w17 hk18) cv_RX7_149 ⟨rfl, rfl, Nat.le_of_ble_eq_true rfl, Nat.le_of_ble_eq_true rfl⟩ ⟨Nat.zero_le _, Nat.zero_le _⟩ [0] [] [0] rfl rfl rfl rfl (by decide) rfl rfl rfl rfl rfl hl.1 (by simp only [List.map, List.sum_cons, List.sum_nil, Value.category]; decide) dX7_hold_56 (fun H locs hw hn19 => ?_)
        refine lv_pop hx hb dX7_hold_59 rfl ?_
        refine lv_iload_n hx hb dX7_hold_60 rfl (lv_at hl 0 rfl) ?_
        obtain ⟨rfl, rfl, rfl, rfl, rfl, rfl⟩ := e6_ hf
        exact r_iret C0 hw trivial dX7_hold_61
      refine lv_icmp_ne (tgt := 48) hx hb dX7_hold_29 (by decide) (fun hc22 => ?_) (fun hc22 => ?_)
      · have hf := if_f hc22 hf
        exact hj21  H locs ls hw (lv_sub hl [0, 1, 2, 3] rfl)  hf
      · have hf := if_t hc22 hf
        refine lv_iload_n hx hb dX7_hold_32 rfl (lv_at hl 3 rfl) ?_
        refine lv_if_ne (tgt := 48) hx hb dX7_hold_33 (by decide) (fun hc23 => ?_) (fun hc23 => ?_)
        · have hf := if_f hc23 hf
          exact hj21  H locs ls hw (lv_sub hl [0, 1, 2, 3] rfl)  hf
        · have hf := if_t hc23 hf
          refine lv_aload_n hx hb dX7_hold_36 rfl (lv_at hl 1 rfl) ?_
          refine lv_iconst (v := 0) hx hb dX7_hold_37 (by decide) ?_
          obtain ⟨r24, hk25, hf⟩ := b1_s hf
          refine rv_i (vq := (RX7, TX7, 28)) (As := [.int (0 : Int32)]) (rest := []) (bs' := [pMo κ qm m_state m_tape m_taped m_fault m_broken m_brokenAt m_spot m_here m_token m_value m_ends m_letters m_moments m_stepsAt m_steps m_latest m_matrix m_sides m_tried m_answers m_rowOf m_whole m_shares m_isKept m_lanes m_lengths m_cells m_torn]) C0 hw (cMo_turning l D κ qm m_state m_tape m_taped m_fault m_broken m_brokenAt m_spot m_here m_token m_value m_ends m_letters m_moments m_stepsAt m_steps m_latest m_matrix m_sides m_tried m_answers m_rowOf m_whole m_shares m_isKept m_lanes m_lengths m_cells m_torn (0 : Int32) r24 hk25) cv_RX7_110 ⟨rfl, rfl, Nat.le_of_ble_eq_true rfl, Nat.le_of_ble_eq_true rfl⟩ ⟨Nat.zero_le _, Nat.zero_le _⟩ [0] [] [0] rfl rfl rfl rfl (by decide) rfl rfl rfl rfl rfl hl.1 (by simp only [List.map, List.sum_cons, List.sum_nil, Value.category]; decide) dX7_hold_38 (fun H locs hw hn26 => ?_)
          refine lv_iconst (v := 4) hx hb dX7_hold_41 (by decide) ?_
          refine lv_icmp_ne (tgt := 48) hx hb dX7_hold_42 (by decide) (fun hc27 => ?_) (fun hc27 => ?_)
          · have hf := if_f hc27 hf
            exact hj21  H locs ls hw (lv_sub hl [0, 1, 2, 3] rfl)  hf
          · have hf := if_t hc27 hf
            refine lv_bipush (v := -3) hx hb dX7_hold_45 (by decide) ?_
            obtain ⟨rfl, rfl, rfl, rfl, rfl, rfl⟩ := e6_ hf
            exact r_iret C0 hw trivial dX7_hold_47
    · have hf := if_t hc8 hf
      refine lv_iconst (v := -1) hx hb dX7_hold_18 (by decide) ?_
      obtain ⟨rfl, rfl, rfl, rfl, rfl, rfl⟩ := e6_ hf
      exact r_iret C0 hw trivial dX7_hold_19
def FMo_stiffen (m_state m_moments m_stepsAt : Nat → Int32) (m_steps m_latest a1 a2 : Int32) : Option (Int32 × (Nat → Int32) × (Nat → Int32) × (Nat → Int32) × Int32 × Int32) :=
  b1_ (FMo_isBeam m_state a1) fun r1 =>
  if r1 = 0 then
    some ((-1 : Int32), m_state, m_moments, m_stepsAt, m_steps, m_latest)
  else
    b1_ (FMo_in (a2.toInt64) (1 : Int64) (10 : Int64)) fun r5 =>
    if r5 = 0 then
      some ((-1 : Int32), m_state, m_moments, m_stepsAt, m_steps, m_latest)
    else
      gd_ ((42 : Int32) + a1) 395 <|
      lt_ (m_state ((42 : Int32) + a1).toNatClampNeg) fun v10 =>
      gd_ ((42 : Int32) + a1) 395 <|
      lt_ (upd m_state ((42 : Int32) + a1).toNatClampNeg a2) fun w12 =>
      b5_ (FMo_begins w12 m_moments m_stepsAt m_steps) fun r13 w14 w15 w16 w17 =>
      some (v10, w12, w14, w15, w16, w17)
set_option maxHeartbeats 4000000 in
set_option maxRecDepth 100000 in
theorem cMo_stiffen (l : Launch) (D : va_G) (κ : Nat → ClassId) (qm : Nat → Nat) (m_state m_tape : Nat → Int32) (m_taped m_fault m_broken m_brokenAt m_spot m_here m_token m_value : Int32) (m_ends m_letters m_moments m_stepsAt : Nat → Int32) (m_steps m_latest : Int32) (m_matrix m_sides m_tried m_answers : Nat → Int64) (m_rowOf : Nat → Int32) (m_whole : Int64) (m_shares m_isKept m_lanes m_lengths m_cells : Nat → Int32) (m_torn a1 a2 zr : Int32) (z1 z2 z3 : Nat → Int32) (z4 z5 : Int32) (hf : FMo_stiffen m_state m_moments m_stepsAt m_steps m_latest a1 a2 = some (zr, z1, z2, z3, z4, z5)) : mI_ l yX7_stiffen (Cond.code yX7_stiffen cX7_stiffen 4 (some .int) :: uw) ({ frames := 3, cells := 0, slots := 0, locals := 71 } : Room) D (tys0 κ) [.ref (qm 0), .int a1, .int a2] (List.flatten [pMo κ qm m_state m_tape m_taped m_fault m_broken m_brokenAt m_spot m_here m_token m_value m_ends m_letters m_moments m_stepsAt m_steps m_latest m_matrix m_sides m_tried m_answers m_rowOf m_whole m_shares m_isKept m_lanes m_lengths m_cells m_torn]) nT_ zr (List.flatten [pMo κ qm z1 m_tape m_taped m_fault m_broken m_brokenAt m_spot m_here m_token m_value m_ends m_letters z2 z3 z4 z5 m_matrix m_sides m_tried m_answers m_rowOf m_whole m_shares m_isKept m_lanes m_lengths m_cells m_torn]) := by
  unfold FMo_stiffen at hf
  refine mI_of (by decide) (Nat.le_of_ble_eq_true rfl) ?_
  intro p e s m below meth c A ls H locs C0 hw hl
  obtain ⟨hx, hb, -, hml, hown, hts, -, -⟩ := id C0
  have hl : lv_has ls 4 [(0, .ref (qm 0)), (1, .int a1), (2, .int a2)] := hl
  refine lv_aload_n hx hb dX7_stiffen_0 rfl (lv_at hl 0 rfl) ?_
  refine lv_iload_n hx hb dX7_stiffen_1 rfl (lv_at hl 1 rfl) ?_
  obtain ⟨r1, hk2, hf⟩ := b1_s hf
  refine rv_i (vq := (RX7, TX7, 28)) (As := [.int a1]) (rest := []) (bs' := [pMo κ qm m_state m_tape m_taped m_fault m_broken m_brokenAt m_spot m_here m_token m_value m_ends m_letters m_moments m_stepsAt m_steps m_latest m_matrix m_sides m_tried m_answers m_rowOf m_whole m_shares m_isKept m_lanes m_lengths m_cells m_torn]) C0 hw (cMo_isBeam l D κ qm m_state m_tape m_taped m_fault m_broken m_brokenAt m_spot m_here m_token m_value m_ends m_letters m_moments m_stepsAt m_steps m_latest m_matrix m_sides m_tried m_answers m_rowOf m_whole m_shares m_isKept m_lanes m_lengths m_cells m_torn a1 r1 hk2) cv_RX7_205 ⟨rfl, rfl, Nat.le_of_ble_eq_true rfl, Nat.le_of_ble_eq_true rfl⟩ ⟨Nat.zero_le _, Nat.zero_le _⟩ [0] [] [0] rfl rfl rfl rfl (by decide) rfl rfl rfl rfl rfl hl.1 (by simp only [List.map, List.sum_cons, List.sum_nil, Value.category]; decide) dX7_stiffen_2 (fun H locs hw hn3 => ?_)
  refine lv_if_eq (tgt := 20) hx hb dX7_stiffen_5 (by decide) (fun hc4 => ?_) (fun hc4 => ?_)
  · have hf := if_t hc4 hf
    refine lv_iconst (v := -1) hx hb dX7_stiffen_20 (by decide) ?_
    obtain ⟨rfl, rfl, rfl, rfl, rfl, rfl⟩ := e6_ hf
    exact r_iret C0 hw trivial dX7_stiffen_21
  · have hf := if_f hc4 hf
    refine lv_iload_n hx hb dX7_stiffen_8 rfl (lv_at hl 2 rfl) ?_
    refine lv_i2l hx hb dX7_stiffen_9 rfl ?_
    refine lv_lconst (v := 1) hx hb dX7_stiffen_10 (by decide) ?_
    refine lv_ldc2 (v := 10) hx hb hown (hts _ kl_X7_279) dX7_stiffen_11 ?_
    obtain ⟨r5, hk6, hf⟩ := b1_s hf
    refine rs_i (As := [.long (a2.toInt64), .long (1 : Int64), .long (10 : Int64)]) (rest := []) (bs' := [pMo κ qm m_state m_tape m_taped m_fault m_broken m_brokenAt m_spot m_here m_token m_value m_ends m_letters m_moments m_stepsAt m_steps m_latest m_matrix m_sides m_tried m_answers m_rowOf m_whole m_shares m_isKept m_lanes m_lengths m_cells m_torn]) C0 hw (cMo_in l D κ (a2.toInt64) (1 : Int64) (10 : Int64) r5 hk6) cs_X7_66 ⟨rfl, rfl, Nat.le_of_ble_eq_true rfl, Nat.le_of_ble_eq_true rfl⟩ ⟨Nat.zero_le _, Nat.zero_le _⟩ [] [0] [0] rfl rfl rfl rfl (by decide) rfl rfl rfl hl.1 (by simp only [List.map, List.sum_cons, List.sum_nil, Value.category]; decide) dX7_stiffen_14 (fun H locs hw hn7 => ?_)
    refine lv_if_ne (tgt := 22) hx hb dX7_stiffen_17 (by decide) (fun hc8 => ?_) (fun hc8 => ?_)
    · have hf := if_f hc8 hf
      refine lv_aload_n hx hb dX7_stiffen_22 rfl (lv_at hl 0 rfl) ?_
      refine r_get C0 hw 0 0 (v := .ref (qm 1)) rfl rfl inX7 (by decide) lk_X7_7 rfl dX7_stiffen_23 ?_
      refine lv_bipush (v := 42) hx hb dX7_stiffen_26 (by decide) ?_
      refine lv_iload_n hx hb dX7_stiffen_28 rfl (lv_at hl 1 rfl) ?_
      refine lv_iadd hx hb dX7_stiffen_29 ?_
      obtain ⟨hi9, hf⟩ := gd_s hf
      refine r_iald C0 hw 1 0 rfl rfl hi9 dX7_stiffen_30 ?_
      refine lv_topi (fun v10 ev10 => ?_)
      have hf := lt_s_ hf v10 ev10
      refine lv_istore_n (lv' := [(3, .int v10), (0, .ref (qm 0)), (1, .int a1), (2, .int a2)]) hx hb dX7_stiffen_31 rfl hl (by decide) rfl (fun ls hl => ?_)
      refine lv_aload_n hx hb dX7_stiffen_32 rfl (lv_at hl 1 rfl) ?_
      refine r_get C0 hw 0 0 (v := .ref (qm 1)) rfl rfl inX7 (by decide) lk_X7_7 rfl dX7_stiffen_33 ?_
      refine lv_bipush (v := 42) hx hb dX7_stiffen_36 (by decide) ?_
      refine lv_iload_n hx hb dX7_stiffen_38 rfl (lv_at hl 2 rfl) ?_
      refine lv_iadd hx hb dX7_stiffen_39 ?_
      refine lv_iload_n hx hb dX7_stiffen_40 rfl (lv_at hl 3 rfl) ?_
      obtain ⟨hi11, hf⟩ := gd_s hf
      obtain ⟨w12, ew12⟩ : ∃ z : Nat → Int32, z = (upd m_state ((42 : Int32) + a1).toNatClampNeg a2) := ⟨_, rfl⟩
      have hf := lt_s_ hf w12 ew12
      refine r_iast C0 hw 1 0 rfl rfl hi11 dX7_stiffen_41 (ws' := List.flatten [pMo κ qm w12 m_tape m_taped m_fault m_broken m_brokenAt m_spot m_here m_token m_value m_ends m_letters m_moments m_stepsAt m_steps m_latest m_matrix m_sides m_tried m_answers m_rowOf m_whole m_shares m_isKept m_lanes m_lengths m_cells m_torn]) (by subst ew12; rfl) (fun H locs hw => ?_)
      refine lv_aload_n hx hb dX7_stiffen_42 rfl (lv_at hl 1 rfl) ?_
      obtain ⟨r13, w14, w15, w16, w17, hk18, hf⟩ := b5_s hf
      refine rv_i (vq := (RX7, TX7, 28)) (As := []) (rest := []) (bs' := [pMo κ qm w12 m_tape m_taped m_fault m_broken m_brokenAt m_spot m_here m_token m_value m_ends m_letters w14 w15 w16 w17 m_matrix m_sides m_tried m_answers m_rowOf m_whole m_shares m_isKept m_lanes m_lengths m_cells m_torn]) C0 hw (cMo_begins l D κ qm w12 m_tape m_taped m_fault m_broken m_brokenAt m_spot m_here m_token m_value m_ends m_letters m_moments m_stepsAt m_steps m_latest m_matrix m_sides m_tried m_answers m_rowOf m_whole m_shares m_isKept m_lanes m_lengths m_cells m_torn r13 w14 w15 w16 w17 hk18) cv_RX7_149 ⟨rfl, rfl, Nat.le_of_ble_eq_true rfl, Nat.le_of_ble_eq_true rfl⟩ ⟨Nat.zero_le _, Nat.zero_le _⟩ [0] [] [0] rfl rfl rfl rfl (by decide) rfl rfl rfl rfl rfl hl.1 (by simp only [List.map, List.sum_cons, List.sum_nil, Value.category]; decide) dX7_stiffen_43 (fun H locs hw hn19 => ?_)
      refine lv_pop hx hb dX7_stiffen_46 rfl ?_
      refine lv_iload_n hx hb dX7_stiffen_47 rfl (lv_at hl 0 rfl) ?_
      obtain ⟨rfl, rfl, rfl, rfl, rfl, rfl⟩ := e6_ hf
      exact r_iret C0 hw trivial dX7_stiffen_48
    · have hf := if_t hc8 hf
      refine lv_iconst (v := -1) hx hb dX7_stiffen_20 (by decide) ?_
      obtain ⟨rfl, rfl, rfl, rfl, rfl, rfl⟩ := e6_ hf
      exact r_iret C0 hw trivial dX7_stiffen_21
def FMo_puts (m_state : Nat → Int32) (a1 a2 a3 : Int32) : Option ((Nat → Int32)) :=
  b1_ (FMo_loads m_state) fun r1 =>
  gd_ ((52 : Int32) + r1) 395 <|
  lt_ (upd m_state ((52 : Int32) + r1).toNatClampNeg a1) fun w5 =>
  gd_ ((60 : Int32) + r1) 395 <|
  lt_ (upd w5 ((60 : Int32) + r1).toNatClampNeg a2) fun w7 =>
  gd_ ((68 : Int32) + r1) 395 <|
  lt_ (upd w7 ((68 : Int32) + r1).toNatClampNeg a3) fun w9 =>
  gd_ (78 : Int32) 395 <|
  gd_ (78 : Int32) 395 <|
  lt_ (upd w9 (78 : Int32).toNatClampNeg ((w9 (78 : Int32).toNatClampNeg) + (1 : Int32))) fun w12 =>
  some (w12)
set_option maxHeartbeats 4000000 in
set_option maxRecDepth 100000 in
theorem cMo_puts (l : Launch) (D : va_G) (κ : Nat → ClassId) (qm : Nat → Nat) (m_state m_tape : Nat → Int32) (m_taped m_fault m_broken m_brokenAt m_spot m_here m_token m_value : Int32) (m_ends m_letters m_moments m_stepsAt : Nat → Int32) (m_steps m_latest : Int32) (m_matrix m_sides m_tried m_answers : Nat → Int64) (m_rowOf : Nat → Int32) (m_whole : Int64) (m_shares m_isKept m_lanes m_lengths m_cells : Nat → Int32) (m_torn a1 a2 a3 : Int32) (z1 : Nat → Int32) (hf : FMo_puts m_state a1 a2 a3 = some z1) : mV_ l yX7_puts (Cond.code yX7_puts cX7_puts 5 none :: uw) ({ frames := 1, cells := 0, slots := 0, locals := 20 } : Room) D (tys0 κ) [.ref (qm 0), .int a1, .int a2, .int a3] (List.flatten [pMo κ qm m_state m_tape m_taped m_fault m_broken m_brokenAt m_spot m_here m_token m_value m_ends m_letters m_moments m_stepsAt m_steps m_latest m_matrix m_sides m_tried m_answers m_rowOf m_whole m_shares m_isKept m_lanes m_lengths m_cells m_torn])  (List.flatten [pMo κ qm z1 m_tape m_taped m_fault m_broken m_brokenAt m_spot m_here m_token m_value m_ends m_letters m_moments m_stepsAt m_steps m_latest m_matrix m_sides m_tried m_answers m_rowOf m_whole m_shares m_isKept m_lanes m_lengths m_cells m_torn]) := by
  unfold FMo_puts at hf
  refine mV_of (by decide) (Nat.le_of_ble_eq_true rfl) ?_
  intro p e s m below meth c A ls H locs C0 hw hl
  obtain ⟨hx, hb, -, hml, hown, hts, -, -⟩ := id C0
  have hl : lv_has ls 5 [(0, .ref (qm 0)), (1, .int a1), (2, .int a2), (3, .int a3)] := hl
  refine lv_aload_n hx hb dX7_puts_0 rfl (lv_at hl 0 rfl) ?_
  obtain ⟨r1, hk2, hf⟩ := b1_s hf
  refine rv_i (vq := (RX7, TX7, 28)) (As := []) (rest := []) (bs' := [pMo κ qm m_state m_tape m_taped m_fault m_broken m_brokenAt m_spot m_here m_token m_value m_ends m_letters m_moments m_stepsAt m_steps m_latest m_matrix m_sides m_tried m_answers m_rowOf m_whole m_shares m_isKept m_lanes m_lengths m_cells m_torn]) C0 hw (cMo_loads l D κ qm m_state m_tape m_taped m_fault m_broken m_brokenAt m_spot m_here m_token m_value m_ends m_letters m_moments m_stepsAt m_steps m_latest m_matrix m_sides m_tried m_answers m_rowOf m_whole m_shares m_isKept m_lanes m_lengths m_cells m_torn r1 hk2) cv_RX7_152 ⟨rfl, rfl, Nat.le_of_ble_eq_true rfl, Nat.le_of_ble_eq_true rfl⟩ ⟨Nat.zero_le _, Nat.zero_le _⟩ [0] [] [0] rfl rfl rfl rfl (by decide) rfl rfl rfl rfl rfl hl.1 (by simp only [List.map, List.sum_cons, List.sum_nil, Value.category]; decide) dX7_puts_1 (fun H locs hw hn3 => ?_)
  refine lv_istore (lv' := [(4, .int r1), (0, .ref (qm 0)), (1, .int a1), (2, .int a2), (3, .int a3)]) hx hb dX7_puts_4 hl (by decide) rfl (fun ls hl => ?_)
  refine lv_aload_n hx hb dX7_puts_6 rfl (lv_at hl 1 rfl) ?_
  refine r_get C0 hw 0 0 (v := .ref (qm 1)) rfl rfl inX7 (by decide) lk_X7_7 rfl dX7_puts_7 ?_
  refine lv_bipush (v := 52) hx hb dX7_puts_10 (by decide) ?_
  refine lv_iload hx hb dX7_puts_12 (lv_at hl 0 rfl) ?_
  refine lv_iadd hx hb dX7_puts_14 ?_
  refine lv_iload_n hx hb dX7_puts_15 rfl (lv_at hl 2 rfl) ?_
  obtain ⟨hi4, hf⟩ := gd_s hf
  obtain ⟨w5, ew5⟩ : ∃ z : Nat → Int32, z = (upd m_state ((52 : Int32) + r1).toNatClampNeg a1) := ⟨_, rfl⟩
  have hf := lt_s_ hf w5 ew5
  refine r_iast C0 hw 1 0 rfl rfl hi4 dX7_puts_16 (ws' := List.flatten [pMo κ qm w5 m_tape m_taped m_fault m_broken m_brokenAt m_spot m_here m_token m_value m_ends m_letters m_moments m_stepsAt m_steps m_latest m_matrix m_sides m_tried m_answers m_rowOf m_whole m_shares m_isKept m_lanes m_lengths m_cells m_torn]) (by subst ew5; rfl) (fun H locs hw => ?_)
  refine lv_aload_n hx hb dX7_puts_17 rfl (lv_at hl 1 rfl) ?_
  refine r_get C0 hw 0 0 (v := .ref (qm 1)) rfl rfl inX7 (by decide) lk_X7_7 rfl dX7_puts_18 ?_
  refine lv_bipush (v := 60) hx hb dX7_puts_21 (by decide) ?_
  refine lv_iload hx hb dX7_puts_23 (lv_at hl 0 rfl) ?_
  refine lv_iadd hx hb dX7_puts_25 ?_
  refine lv_iload_n hx hb dX7_puts_26 rfl (lv_at hl 3 rfl) ?_
  obtain ⟨hi6, hf⟩ := gd_s hf
  obtain ⟨w7, ew7⟩ : ∃ z : Nat → Int32, z = (upd w5 ((60 : Int32) + r1).toNatClampNeg a2) := ⟨_, rfl⟩
  have hf := lt_s_ hf w7 ew7
  refine r_iast C0 hw 1 0 rfl rfl hi6 dX7_puts_27 (ws' := List.flatten [pMo κ qm w7 m_tape m_taped m_fault m_broken m_brokenAt m_spot m_here m_token m_value m_ends m_letters m_moments m_stepsAt m_steps m_latest m_matrix m_sides m_tried m_answers m_rowOf m_whole m_shares m_isKept m_lanes m_lengths m_cells m_torn]) (by subst ew7; rfl) (fun H locs hw => ?_)
  refine lv_aload_n hx hb dX7_puts_28 rfl (lv_at hl 1 rfl) ?_
  refine r_get C0 hw 0 0 (v := .ref (qm 1)) rfl rfl inX7 (by decide) lk_X7_7 rfl dX7_puts_29 ?_
  refine lv_bipush (v := 68) hx hb dX7_puts_32 (by decide) ?_
  refine lv_iload hx hb dX7_puts_34 (lv_at hl 0 rfl) ?_
  refine lv_iadd hx hb dX7_puts_36 ?_
  refine lv_iload_n hx hb dX7_puts_37 rfl (lv_at hl 4 rfl) ?_
  obtain ⟨hi8, hf⟩ := gd_s hf
  obtain ⟨w9, ew9⟩ : ∃ z : Nat → Int32, z = (upd w7 ((68 : Int32) + r1).toNatClampNeg a3) := ⟨_, rfl⟩
  have hf := lt_s_ hf w9 ew9
  refine r_iast C0 hw 1 0 rfl rfl hi8 dX7_puts_38 (ws' := List.flatten [pMo κ qm w9 m_tape m_taped m_fault m_broken m_brokenAt m_spot m_here m_token m_value m_ends m_letters m_moments m_stepsAt m_steps m_latest m_matrix m_sides m_tried m_answers m_rowOf m_whole m_shares m_isKept m_lanes m_lengths m_cells m_torn]) (by subst ew9; rfl) (fun H locs hw => ?_)
  refine lv_aload_n hx hb dX7_puts_39 rfl (lv_at hl 1 rfl) ?_
  refine r_get C0 hw 0 0 (v := .ref (qm 1)) rfl rfl inX7 (by decide) lk_X7_7 rfl dX7_puts_40 ?_
  refine lv_bipush (v := 78) hx hb dX7_puts_43 (by decide) ?_
  refine lv_dup2_11 hx hb dX7_puts_45 rfl rfl ?_
  obtain ⟨hi10, hf⟩ := gd_s hf
  refine r_iald C0 hw 1 0 rfl rfl hi10 dX7_puts_46 ?_
  refine lv_iconst (v := 1) hx hb dX7_puts_47 (by decide) ?_
  refine lv_iadd hx hb dX7_puts_48 ?_
  obtain ⟨hi11, hf⟩ := gd_s hf
  obtain ⟨w12, ew12⟩ : ∃ z : Nat → Int32, z = (upd w9 (78 : Int32).toNatClampNeg ((w9 (78 : Int32).toNatClampNeg) + (1 : Int32))) := ⟨_, rfl⟩
  have hf := lt_s_ hf w12 ew12
  refine r_iast C0 hw 1 0 rfl rfl hi11 dX7_puts_49 (ws' := List.flatten [pMo κ qm w12 m_tape m_taped m_fault m_broken m_brokenAt m_spot m_here m_token m_value m_ends m_letters m_moments m_stepsAt m_steps m_latest m_matrix m_sides m_tried m_answers m_rowOf m_whole m_shares m_isKept m_lanes m_lengths m_cells m_torn]) (by subst ew12; rfl) (fun H locs hw => ?_)
  obtain rfl := e1_ hf
  exact r_vret C0 hw dX7_puts_50
def FMo_put (m_state m_moments m_stepsAt : Nat → Int32) (m_steps m_latest a1 a2 a3 : Int32) : Option (Int32 × (Nat → Int32) × (Nat → Int32) × (Nat → Int32) × Int32 × Int32) :=
  b1_ (FMo_isBeam m_state a1) fun r1 =>
  if r1 = 0 then
    some ((-1 : Int32), m_state, m_moments, m_stepsAt, m_steps, m_latest)
  else
    gd_ ((32 : Int32) + a1) 395 <|
    b1_ (FMo_in (a3.toInt64) (0 : Int64) (((m_state ((32 : Int32) + a1).toNatClampNeg) - (1 : Int32)).toInt64)) fun r6 =>
    if r6 = 0 then
      some ((-1 : Int32), m_state, m_moments, m_stepsAt, m_steps, m_latest)
    else
      lt_ (fun (v10 : Int64) =>
        b1_ (FMo_in (a2.toInt64) (1 : Int64) v10) fun r11 =>
        if r11 = 0 then
          some ((-1 : Int32), m_state, m_moments, m_stepsAt, m_steps, m_latest)
        else
          b1_ (FMo_loads m_state) fun r15 =>
          if r15 = (8 : Int32) then
            some ((-3 : Int32), m_state, m_moments, m_stepsAt, m_steps, m_latest)
          else
            b1_ (FMo_puts m_state a1 a2 a3) fun w19 =>
            b5_ (FMo_begins w19 m_moments m_stepsAt m_steps) fun r22 w23 w24 w25 w26 =>
            b1_ (FMo_loads w19) fun r29 =>
            some (r29, w19, w23, w24, w25, w26) : Int64 → Option (Int32 × (Nat → Int32) × (Nat → Int32) × (Nat → Int32) × Int32 × Int32)) fun j32 =>
      if a3 = 0 then
        j32 (99 : Int64)
      else
        j32 (999 : Int64)
set_option maxHeartbeats 4000000 in
set_option maxRecDepth 100000 in
theorem cMo_put (l : Launch) (D : va_G) (κ : Nat → ClassId) (qm : Nat → Nat) (m_state m_tape : Nat → Int32) (m_taped m_fault m_broken m_brokenAt m_spot m_here m_token m_value : Int32) (m_ends m_letters m_moments m_stepsAt : Nat → Int32) (m_steps m_latest : Int32) (m_matrix m_sides m_tried m_answers : Nat → Int64) (m_rowOf : Nat → Int32) (m_whole : Int64) (m_shares m_isKept m_lanes m_lengths m_cells : Nat → Int32) (m_torn a1 a2 a3 zr : Int32) (z1 z2 z3 : Nat → Int32) (z4 z5 : Int32) (hf : FMo_put m_state m_moments m_stepsAt m_steps m_latest a1 a2 a3 = some (zr, z1, z2, z3, z4, z5)) : mI_ l yX7_put (Cond.code yX7_put cX7_put 4 (some .int) :: uw) ({ frames := 3, cells := 0, slots := 0, locals := 71 } : Room) D (tys0 κ) [.ref (qm 0), .int a1, .int a2, .int a3] (List.flatten [pMo κ qm m_state m_tape m_taped m_fault m_broken m_brokenAt m_spot m_here m_token m_value m_ends m_letters m_moments m_stepsAt m_steps m_latest m_matrix m_sides m_tried m_answers m_rowOf m_whole m_shares m_isKept m_lanes m_lengths m_cells m_torn]) nT_ zr (List.flatten [pMo κ qm z1 m_tape m_taped m_fault m_broken m_brokenAt m_spot m_here m_token m_value m_ends m_letters z2 z3 z4 z5 m_matrix m_sides m_tried m_answers m_rowOf m_whole m_shares m_isKept m_lanes m_lengths m_cells m_torn]) := by
  unfold FMo_put at hf
  refine mI_of (by decide) (Nat.le_of_ble_eq_true rfl) ?_
  intro p e s m below meth c A ls H locs C0 hw hl
  obtain ⟨hx, hb, -, hml, hown, hts, -, -⟩ := id C0
  have hl : lv_has ls 4 [(0, .ref (qm 0)), (1, .int a1), (2, .int a2), (3, .int a3)] := hl
  refine lv_aload_n hx hb dX7_put_0 rfl (lv_at hl 0 rfl) ?_
  refine lv_iload_n hx hb dX7_put_1 rfl (lv_at hl 1 rfl) ?_
  obtain ⟨r1, hk2, hf⟩ := b1_s hf
  refine rv_i (vq := (RX7, TX7, 28)) (As := [.int a1]) (rest := []) (bs' := [pMo κ qm m_state m_tape m_taped m_fault m_broken m_brokenAt m_spot m_here m_token m_value m_ends m_letters m_moments m_stepsAt m_steps m_latest m_matrix m_sides m_tried m_answers m_rowOf m_whole m_shares m_isKept m_lanes m_lengths m_cells m_torn]) C0 hw (cMo_isBeam l D κ qm m_state m_tape m_taped m_fault m_broken m_brokenAt m_spot m_here m_token m_value m_ends m_letters m_moments m_stepsAt m_steps m_latest m_matrix m_sides m_tried m_answers m_rowOf m_whole m_shares m_isKept m_lanes m_lengths m_cells m_torn a1 r1 hk2) cv_RX7_205 ⟨rfl, rfl, Nat.le_of_ble_eq_true rfl, Nat.le_of_ble_eq_true rfl⟩ ⟨Nat.zero_le _, Nat.zero_le _⟩ [0] [] [0] rfl rfl rfl rfl (by decide) rfl rfl rfl rfl rfl hl.1 (by simp only [List.map, List.sum_cons, List.sum_nil, Value.category]; decide) dX7_put_2 (fun H locs hw hn3 => ?_)
  refine lv_if_eq (tgt := 51) hx hb dX7_put_5 (by decide) (fun hc4 => ?_) (fun hc4 => ?_)
  · have hf := if_t hc4 hf
    refine lv_iconst (v := -1) hx hb dX7_put_51 (by decide) ?_
    obtain ⟨rfl, rfl, rfl, rfl, rfl, rfl⟩ := e6_ hf
    exact r_iret C0 hw trivial dX7_put_52
  · have hf := if_f hc4 hf
    refine lv_iload_n hx hb dX7_put_8 rfl (lv_at hl 3 rfl) ?_
    refine lv_i2l hx hb dX7_put_9 rfl ?_
    refine lv_lconst (v := 0) hx hb dX7_put_10 (by decide) ?_
    refine lv_aload_n hx hb dX7_put_11 rfl (lv_at hl 0 rfl) ?_
    refine r_get C0 hw 0 0 (v := .ref (qm 1)) rfl rfl inX7 (by decide) lk_X7_7 rfl dX7_put_12 ?_
    refine lv_bipush (v := 32) hx hb dX7_put_15 (by decide) ?_
    refine lv_iload_n hx hb dX7_put_17 rfl (lv_at hl 1 rfl) ?_
    refine lv_iadd hx hb dX7_put_18 ?_
    obtain ⟨hi5, hf⟩ := gd_s hf
    refine r_iald C0 hw 1 0 rfl rfl hi5 dX7_put_19 ?_
    refine lv_iconst (v := 1) hx hb dX7_put_20 (by decide) ?_
    refine lv_isub hx hb dX7_put_21 ?_
    refine lv_i2l hx hb dX7_put_22 rfl ?_
    obtain ⟨r6, hk7, hf⟩ := b1_s hf
    refine rs_i (As := [.long (a3.toInt64), .long (0 : Int64), .long (((m_state ((32 : Int32) + a1).toNatClampNeg) - (1 : Int32)).toInt64)]) (rest := []) (bs' := [pMo κ qm m_state m_tape m_taped m_fault m_broken m_brokenAt m_spot m_here m_token m_value m_ends m_letters m_moments m_stepsAt m_steps m_latest m_matrix m_sides m_tried m_answers m_rowOf m_whole m_shares m_isKept m_lanes m_lengths m_cells m_torn]) C0 hw (cMo_in l D κ (a3.toInt64) (0 : Int64) (((m_state ((32 : Int32) + a1).toNatClampNeg) - (1 : Int32)).toInt64) r6 hk7) cs_X7_66 ⟨rfl, rfl, Nat.le_of_ble_eq_true rfl, Nat.le_of_ble_eq_true rfl⟩ ⟨Nat.zero_le _, Nat.zero_le _⟩ [] [0] [0] rfl rfl rfl rfl (by decide) rfl rfl rfl hl.1 (by simp only [List.map, List.sum_cons, List.sum_nil, Value.category]; decide) dX7_put_23 (fun H locs hw hn8 => ?_)
    refine lv_if_eq (tgt := 51) hx hb dX7_put_26 (by decide) (fun hc9 => ?_) (fun hc9 => ?_)
    · have hf := if_t hc9 hf
      refine lv_iconst (v := -1) hx hb dX7_put_51 (by decide) ?_
      obtain ⟨rfl, rfl, rfl, rfl, rfl, rfl⟩ := e6_ hf
      exact r_iret C0 hw trivial dX7_put_52
    · have hf := if_f hc9 hf
      refine lv_iload_n hx hb dX7_put_29 rfl (lv_at hl 2 rfl) ?_
      refine lv_i2l hx hb dX7_put_30 rfl ?_
      refine lv_lconst (v := 1) hx hb dX7_put_31 (by decide) ?_
      refine lv_iload_n hx hb dX7_put_32 rfl (lv_at hl 3 rfl) ?_
      obtain ⟨j32, ej32, hf⟩ := lt_e hf
      have hj33 : ∀ (v10 : Int64) (H : Heap) (locs : List Loc) (ls : Array Slot), wd_ D (tys0 κ) A s (List.flatten [pMo κ qm m_state m_tape m_taped m_fault m_broken m_brokenAt m_spot m_here m_token m_value m_ends m_letters m_moments m_stepsAt m_steps m_latest m_matrix m_sides m_tried m_answers m_rowOf m_whole m_shares m_isKept m_lanes m_lengths m_cells m_torn]) H locs → lv_has ls 4 [(0, .ref (qm 0)), (1, .int a1), (2, .int a2), (3, .int a3)] → j32 v10 = some (zr, z1, z2, z3, z4, z5) → W p l e ({ frames := 3, cells := 0, slots := 0, locals := 71 } : Room) s m ([.ref (qm 0), .int a1, .int a2, .int a3] : List Value).toArray below meth c H locs 0 0 (qI_ D (tys0 κ) A nT_ zr (List.flatten [pMo κ qm z1 m_tape m_taped m_fault m_broken m_brokenAt m_spot m_here m_token m_value m_ends m_letters z2 z3 z4 z5 m_matrix m_sides m_tried m_answers m_rowOf m_whole m_shares m_isKept m_lanes m_lengths m_cells m_torn]) below ([.ref (qm 0), .int a1, .int a2, .int a3] : List Value).toArray s) (F0 m 45 ls [.long v10, .long (1 : Int64), .long (a2.toInt64)]) := by
        intro v10 H locs ls hw hl  hf
        have hf : (b1_ (FMo_in (a2.toInt64) (1 : Int64) v10) fun r11 => if r11 = 0 then some ((-1 : Int32), m_state, m_moments, m_stepsAt, m_steps, m_latest) else b1_ (FMo_loads m_state) fun r15 => if r15 = (8 : Int32) then some ((-3 : Int32), m_state, m_moments, m_stepsAt, m_steps, m_latest) else b1_ (FMo_puts m_state a1 a2 a3) fun w19 => b5_ (FMo_begins w19 m_moments m_stepsAt m_steps) fun r22 w23 w24 w25 w26 => b1_ (FMo_loads w19) fun r29 => some (r29, w19, w23, w24, w25, w26)) = some (zr, z1, z2, z3, z4, z5) := by rw [ej32] at hf; exact hf
        obtain ⟨r11, hk12, hf⟩ := b1_s hf
        refine rs_i (As := [.long (a2.toInt64), .long (1 : Int64), .long v10]) (rest := []) (bs' := [pMo κ qm m_state m_tape m_taped m_fault m_broken m_brokenAt m_spot m_here m_token m_value m_ends m_letters m_moments m_stepsAt m_steps m_latest m_matrix m_sides m_tried m_answers m_rowOf m_whole m_shares m_isKept m_lanes m_lengths m_cells m_torn]) C0 hw (cMo_in l D κ (a2.toInt64) (1 : Int64) v10 r11 hk12) cs_X7_66 ⟨rfl, rfl, Nat.le_of_ble_eq_true rfl, Nat.le_of_ble_eq_true rfl⟩ ⟨Nat.zero_le _, Nat.zero_le _⟩ [] [0] [0] rfl rfl rfl rfl (by decide) rfl rfl rfl hl.1 (by simp only [List.map, List.sum_cons, List.sum_nil, Value.category]; decide) dX7_put_45 (fun H locs hw hn13 => ?_)
        refine lv_if_ne (tgt := 53) hx hb dX7_put_48 (by decide) (fun hc14 => ?_) (fun hc14 => ?_)
        · have hf := if_f hc14 hf
          refine lv_aload_n hx hb dX7_put_53 rfl (lv_at hl 0 rfl) ?_
          obtain ⟨r15, hk16, hf⟩ := b1_s hf
          refine rv_i (vq := (RX7, TX7, 28)) (As := []) (rest := []) (bs' := [pMo κ qm m_state m_tape m_taped m_fault m_broken m_brokenAt m_spot m_here m_token m_value m_ends m_letters m_moments m_stepsAt m_steps m_latest m_matrix m_sides m_tried m_answers m_rowOf m_whole m_shares m_isKept m_lanes m_lengths m_cells m_torn]) C0 hw (cMo_loads l D κ qm m_state m_tape m_taped m_fault m_broken m_brokenAt m_spot m_here m_token m_value m_ends m_letters m_moments m_stepsAt m_steps m_latest m_matrix m_sides m_tried m_answers m_rowOf m_whole m_shares m_isKept m_lanes m_lengths m_cells m_torn r15 hk16) cv_RX7_152 ⟨rfl, rfl, Nat.le_of_ble_eq_true rfl, Nat.le_of_ble_eq_true rfl⟩ ⟨Nat.zero_le _, Nat.zero_le _⟩ [0] [] [0] rfl rfl rfl rfl (by decide) rfl rfl rfl rfl rfl hl.1 (by simp only [List.map, List.sum_cons, List.sum_nil, Value.category]; decide) dX7_put_54 (fun H locs hw hn17 => ?_)
          refine lv_bipush (v := 8) hx hb dX7_put_57 (by decide) ?_
          refine lv_icmp_ne (tgt := 65) hx hb dX7_put_59 (by decide) (fun hc18 => ?_) (fun hc18 => ?_)
          · have hf := if_f hc18 hf
            refine lv_aload_n hx hb dX7_put_65 rfl (lv_at hl 0 rfl) ?_
            refine lv_iload_n hx hb dX7_put_66 rfl (lv_at hl 1 rfl) ?_
            refine lv_iload_n hx hb dX7_put_67 rfl (lv_at hl 2 rfl) ?_
            refine lv_iload_n hx hb dX7_put_68 rfl (lv_at hl 3 rfl) ?_
            obtain ⟨w19, hk20, hf⟩ := b1_s hf
            refine rv_v (vq := (RX7, TX7, 28)) (As := [.int a1, .int a2, .int a3]) (rest := []) (bs' := [pMo κ qm w19 m_tape m_taped m_fault m_broken m_brokenAt m_spot m_here m_token m_value m_ends m_letters m_moments m_stepsAt m_steps m_latest m_matrix m_sides m_tried m_answers m_rowOf m_whole m_shares m_isKept m_lanes m_lengths m_cells m_torn]) C0 hw (cMo_puts l D κ qm m_state m_tape m_taped m_fault m_broken m_brokenAt m_spot m_here m_token m_value m_ends m_letters m_moments m_stepsAt m_steps m_latest m_matrix m_sides m_tried m_answers m_rowOf m_whole m_shares m_isKept m_lanes m_lengths m_cells m_torn a1 a2 a3 w19 hk20) cv_RX7_285 ⟨rfl, rfl, Nat.le_of_ble_eq_true rfl, Nat.le_of_ble_eq_true rfl⟩ ⟨Nat.zero_le _, Nat.zero_le _⟩ [0] [] [0] rfl rfl rfl rfl (by decide) rfl rfl rfl rfl rfl hl.1 (by simp only [List.map, List.sum_cons, List.sum_nil, Value.category]; decide) dX7_put_69 (fun H locs hw => ?_)
            refine lv_aload_n hx hb dX7_put_72 rfl (lv_at hl 0 rfl) ?_
            obtain ⟨r22, w23, w24, w25, w26, hk27, hf⟩ := b5_s hf
            refine rv_i (vq := (RX7, TX7, 28)) (As := []) (rest := []) (bs' := [pMo κ qm w19 m_tape m_taped m_fault m_broken m_brokenAt m_spot m_here m_token m_value m_ends m_letters w23 w24 w25 w26 m_matrix m_sides m_tried m_answers m_rowOf m_whole m_shares m_isKept m_lanes m_lengths m_cells m_torn]) C0 hw (cMo_begins l D κ qm w19 m_tape m_taped m_fault m_broken m_brokenAt m_spot m_here m_token m_value m_ends m_letters m_moments m_stepsAt m_steps m_latest m_matrix m_sides m_tried m_answers m_rowOf m_whole m_shares m_isKept m_lanes m_lengths m_cells m_torn r22 w23 w24 w25 w26 hk27) cv_RX7_149 ⟨rfl, rfl, Nat.le_of_ble_eq_true rfl, Nat.le_of_ble_eq_true rfl⟩ ⟨Nat.zero_le _, Nat.zero_le _⟩ [0] [] [0] rfl rfl rfl rfl (by decide) rfl rfl rfl rfl rfl hl.1 (by simp only [List.map, List.sum_cons, List.sum_nil, Value.category]; decide) dX7_put_73 (fun H locs hw hn28 => ?_)
            refine lv_pop hx hb dX7_put_76 rfl ?_
            refine lv_aload_n hx hb dX7_put_77 rfl (lv_at hl 0 rfl) ?_
            obtain ⟨r29, hk30, hf⟩ := b1_s hf
            refine rv_i (vq := (RX7, TX7, 28)) (As := []) (rest := []) (bs' := [pMo κ qm w19 m_tape m_taped m_fault m_broken m_brokenAt m_spot m_here m_token m_value m_ends m_letters w23 w24 w25 w26 m_matrix m_sides m_tried m_answers m_rowOf m_whole m_shares m_isKept m_lanes m_lengths m_cells m_torn]) C0 hw (cMo_loads l D κ qm w19 m_tape m_taped m_fault m_broken m_brokenAt m_spot m_here m_token m_value m_ends m_letters w23 w24 w25 w26 m_matrix m_sides m_tried m_answers m_rowOf m_whole m_shares m_isKept m_lanes m_lengths m_cells m_torn r29 hk30) cv_RX7_152 ⟨rfl, rfl, Nat.le_of_ble_eq_true rfl, Nat.le_of_ble_eq_true rfl⟩ ⟨Nat.zero_le _, Nat.zero_le _⟩ [0] [] [0] rfl rfl rfl rfl (by decide) rfl rfl rfl rfl rfl hl.1 (by simp only [List.map, List.sum_cons, List.sum_nil, Value.category]; decide) dX7_put_78 (fun H locs hw hn31 => ?_)
            obtain ⟨rfl, rfl, rfl, rfl, rfl, rfl⟩ := e6_ hf
            exact r_iret C0 hw trivial dX7_put_81
          · have hf := if_t hc18 hf
            refine lv_bipush (v := -3) hx hb dX7_put_62 (by decide) ?_
            obtain ⟨rfl, rfl, rfl, rfl, rfl, rfl⟩ := e6_ hf
            exact r_iret C0 hw trivial dX7_put_64
        · have hf := if_t hc14 hf
          refine lv_iconst (v := -1) hx hb dX7_put_51 (by decide) ?_
          obtain ⟨rfl, rfl, rfl, rfl, rfl, rfl⟩ := e6_ hf
          exact r_iret C0 hw trivial dX7_put_52
      refine lv_if_ne (tgt := 42) hx hb dX7_put_33 (by decide) (fun hc34 => ?_) (fun hc34 => ?_)
      · have hf := if_f hc34 hf
        refine lv_ldc2 (v := 999) hx hb hown (hts _ kl_X7_283) dX7_put_42 ?_
        exact hj33 (999 : Int64) H locs ls hw (lv_sub hl [0, 1, 2, 3] rfl)  hf
      · have hf := if_t hc34 hf
        refine lv_ldc2 (v := 99) hx hb hown (hts _ kl_X7_281) dX7_put_36 ?_
        refine lv_goto (tgt := 45) hx hb dX7_put_39 (by decide) ?_
        exact hj33 (99 : Int64) H locs ls hw (lv_sub hl [0, 1, 2, 3] rfl)  hf
def FMo_lift_L33 (l2 : Int32) (k_ : Int32 → (Nat → Int32) → Option (Int32 × (Nat → Int32) × (Nat → Int32) × (Nat → Int32) × Int32 × Int32)) : Nat → Int32 → (Nat → Int32) → Option (Int32 × (Nat → Int32) × (Nat → Int32) × (Nat → Int32) × Int32 × Int32)
  | 0, _, _ => none
  | n + 1, l3, m_state =>
      if (68 : Int32) < l3 then
        k_ l3 m_state
      else
        gd_ ((l3 + l2) + (1 : Int32)) 395 <|
        gd_ (l3 + l2) 395 <|
        lt_ (upd m_state (l3 + l2).toNatClampNeg (m_state ((l3 + l2) + (1 : Int32)).toNatClampNeg)) fun w15 =>
        lt_ (l3 + (8 : Int32)) fun v16 =>
        FMo_lift_L33 l2 k_ n v16 w15
def FMo_lift_L20  (k_ : Int32 → (Nat → Int32) → Option (Int32 × (Nat → Int32) × (Nat → Int32) × (Nat → Int32) × Int32 × Int32)) : Nat → Int32 → (Nat → Int32) → Option (Int32 × (Nat → Int32) × (Nat → Int32) × (Nat → Int32) × Int32 × Int32)
  | 0, _, _ => none
  | n + 1, l2, m_state =>
      b1_ (FMo_loads m_state) fun r8 =>
      if r8 ≤ (l2 + (1 : Int32)) then
        k_ l2 m_state
      else
        FMo_lift_L33 l2 (fun (v17 : Int32) (w18 : Nat → Int32) =>
            lt_ (l2 + (1 : Int32)) fun v19 =>
            FMo_lift_L20  k_ n v19 w18) 1000 (52 : Int32) m_state
def FMo_lift (m_state m_moments m_stepsAt : Nat → Int32) (m_steps m_latest a1 : Int32) : Option (Int32 × (Nat → Int32) × (Nat → Int32) × (Nat → Int32) × Int32 × Int32) :=
  b1_ (FMo_loads m_state) fun r1 =>
  b1_ (FMo_in (a1.toInt64) (0 : Int64) ((r1 - (1 : Int32)).toInt64)) fun r4 =>
  if r4 = 0 then
    some ((-1 : Int32), m_state, m_moments, m_stepsAt, m_steps, m_latest)
  else
    FMo_lift_L20 (fun (v20 : Int32) (w21 : Nat → Int32) =>
        gd_ (78 : Int32) 395 <|
        gd_ (78 : Int32) 395 <|
        lt_ (upd w21 (78 : Int32).toNatClampNeg ((w21 (78 : Int32).toNatClampNeg) - (1 : Int32))) fun w24 =>
        b5_ (FMo_begins w24 m_moments m_stepsAt m_steps) fun r25 w26 w27 w28 w29 =>
        b1_ (FMo_loads w24) fun r32 =>
        some (r32, w24, w26, w27, w28, w29)) 1000 a1 m_state
set_option maxHeartbeats 4000000 in
set_option maxRecDepth 100000 in
theorem wMo_lift_L33 {p : Program} {l : Launch} {e : Env} {s : State} {m : MethodId} {args : Array Value} {below : List Frame} {meth : Method} {c : Code} {A : Nat → Prop} {D : va_G} {κ : Nat → ClassId} (C0 : cx_ p s m meth c args cX7_lift RX7 (some .int) 4 A) (qm : Nat → Nat) (m_tape : Nat → Int32) (m_taped m_fault m_broken m_brokenAt m_spot m_here m_token m_value : Int32) (m_ends m_letters m_moments m_stepsAt : Nat → Int32) (m_steps m_latest : Int32) (m_matrix m_sides m_tried m_answers : Nat → Int64) (m_rowOf : Nat → Int32) (m_whole : Int64) (m_shares m_isKept m_lanes m_lengths m_cells : Nat → Int32) (m_torn l2 : Int32) (zr : Int32) (z1 z2 z3 : Nat → Int32) (z4 z5 : Int32) (k_ : Int32 → (Nat → Int32) → Option (Int32 × (Nat → Int32) × (Nat → Int32) × (Nat → Int32) × Int32 × Int32)) (hk_ : ∀ (l3 : Int32) (m_state : Nat → Int32) (H : Heap) (locs : List Loc) (ls : Array Slot), wd_ D (tys0 κ) A s (List.flatten [pMo κ qm m_state m_tape m_taped m_fault m_broken m_brokenAt m_spot m_here m_token m_value m_ends m_letters m_moments m_stepsAt m_steps m_latest m_matrix m_sides m_tried m_answers m_rowOf m_whole m_shares m_isKept m_lanes m_lengths m_cells m_torn]) H locs → lv_has ls 4 [(0, .ref (qm 0)), (2, .int l2)] → k_ l3 m_state = some (zr, z1, z2, z3, z4, z5) → W p l e ({ frames := 3, cells := 0, slots := 0, locals := 71 } : Room) s m args below meth c H locs 0 0 (qI_ D (tys0 κ) A nT_ zr (List.flatten [pMo κ qm z1 m_tape m_taped m_fault m_broken m_brokenAt m_spot m_here m_token m_value m_ends m_letters z2 z3 z4 z5 m_matrix m_sides m_tried m_answers m_rowOf m_whole m_shares m_isKept m_lanes m_lengths m_cells m_torn]) below args s) (F0 m 63 ls [])) : ∀ (n : Nat) (l3 : Int32) (m_state : Nat → Int32) (H : Heap) (locs : List Loc) (ls : Array Slot), wd_ D (tys0 κ) A s (List.flatten [pMo κ qm m_state m_tape m_taped m_fault m_broken m_brokenAt m_spot m_here m_token m_value m_ends m_letters m_moments m_stepsAt m_steps m_latest m_matrix m_sides m_tried m_answers m_rowOf m_whole m_shares m_isKept m_lanes m_lengths m_cells m_torn]) H locs → lv_has ls 4 [(0, .ref (qm 0)), (2, .int l2), (3, .int l3)] → FMo_lift_L33 l2 k_ n l3 m_state = some (zr, z1, z2, z3, z4, z5) → W p l e ({ frames := 3, cells := 0, slots := 0, locals := 71 } : Room) s m args below meth c H locs 0 0 (qI_ D (tys0 κ) A nT_ zr (List.flatten [pMo κ qm z1 m_tape m_taped m_fault m_broken m_brokenAt m_spot m_here m_token m_value m_ends m_letters z2 z3 z4 z5 m_matrix m_sides m_tried m_answers m_rowOf m_whole m_shares m_isKept m_lanes m_lengths m_cells m_torn]) below args s) (F0 m 33 ls []) := by
  obtain ⟨hx, hb, -, hml, hown, hts, -, -⟩ := id C0
  intro n
  induction n with
  | zero =>
    intro l3 m_state H locs ls hw hl  hf
    cases hf
  | succ n ih =>
    intro l3 m_state H locs ls hw hl  hf
    rw [FMo_lift_L33.eq_2] at hf
    refine lv_iload_n hx hb dX7_lift_33 rfl (lv_at hl 2 rfl) ?_
    refine lv_bipush (v := 68) hx hb dX7_lift_34 (by decide) ?_
    refine lv_icmp_gt (tgt := 63) hx hb dX7_lift_36 (by decide) (fun hc12 => ?_) (fun hc12 => ?_)
    · have hf := if_t hc12 hf
      exact hk_ l3 m_state H locs ls hw (lv_sub hl [0, 1] rfl)  hf
    · have hf := if_f hc12 hf
      refine lv_aload_n hx hb dX7_lift_39 rfl (lv_at hl 0 rfl) ?_
      refine r_get C0 hw 0 0 (v := .ref (qm 1)) rfl rfl inX7 (by decide) lk_X7_7 rfl dX7_lift_40 ?_
      refine lv_iload_n hx hb dX7_lift_43 rfl (lv_at hl 2 rfl) ?_
      refine lv_iload_n hx hb dX7_lift_44 rfl (lv_at hl 1 rfl) ?_
      refine lv_iadd hx hb dX7_lift_45 ?_
      refine lv_aload_n hx hb dX7_lift_46 rfl (lv_at hl 0 rfl) ?_
      refine r_get C0 hw 0 0 (v := .ref (qm 1)) rfl rfl inX7 (by decide) lk_X7_7 rfl dX7_lift_47 ?_
      refine lv_iload_n hx hb dX7_lift_50 rfl (lv_at hl 2 rfl) ?_
      refine lv_iload_n hx hb dX7_lift_51 rfl (lv_at hl 1 rfl) ?_
      refine lv_iadd hx hb dX7_lift_52 ?_
      refine lv_iconst (v := 1) hx hb dX7_lift_53 (by decide) ?_
      refine lv_iadd hx hb dX7_lift_54 ?_
      obtain ⟨hi13, hf⟩ := gd_s hf
      refine r_iald C0 hw 1 0 rfl rfl hi13 dX7_lift_55 ?_
      obtain ⟨hi14, hf⟩ := gd_s hf
      obtain ⟨w15, ew15⟩ : ∃ z : Nat → Int32, z = (upd m_state (l3 + l2).toNatClampNeg (m_state ((l3 + l2) + (1 : Int32)).toNatClampNeg)) := ⟨_, rfl⟩
      have hf := lt_s_ hf w15 ew15
      refine r_iast C0 hw 1 0 rfl rfl hi14 dX7_lift_56 (ws' := List.flatten [pMo κ qm w15 m_tape m_taped m_fault m_broken m_brokenAt m_spot m_here m_token m_value m_ends m_letters m_moments m_stepsAt m_steps m_latest m_matrix m_sides m_tried m_answers m_rowOf m_whole m_shares m_isKept m_lanes m_lengths m_cells m_torn]) (by subst ew15; rfl) (fun H locs hw => ?_)
      obtain ⟨v16, ev16⟩ : ∃ z : Int32, z = (l3 + (8 : Int32)) := ⟨_, rfl⟩
      have hf := lt_s_ hf v16 ev16
      refine lv_iinc (v := v16) (lv' := [(3, .int v16), (0, .ref (qm 0)), (2, .int l2)]) hx hb dX7_lift_57 hl (k := 2) rfl (by rw [ev16]; rfl) (by decide) rfl (fun ls hl => ?_)
      refine lv_goto (tgt := 33) hx hb dX7_lift_60 (by decide) ?_
      exact ih v16 w15 H locs ls hw (lv_sub hl [1, 2, 0] rfl)  hf
set_option maxHeartbeats 4000000 in
set_option maxRecDepth 100000 in
theorem wMo_lift_L20 {p : Program} {l : Launch} {e : Env} {s : State} {m : MethodId} {args : Array Value} {below : List Frame} {meth : Method} {c : Code} {A : Nat → Prop} {D : va_G} {κ : Nat → ClassId} (C0 : cx_ p s m meth c args cX7_lift RX7 (some .int) 4 A) (qm : Nat → Nat) (m_tape : Nat → Int32) (m_taped m_fault m_broken m_brokenAt m_spot m_here m_token m_value : Int32) (m_ends m_letters m_moments m_stepsAt : Nat → Int32) (m_steps m_latest : Int32) (m_matrix m_sides m_tried m_answers : Nat → Int64) (m_rowOf : Nat → Int32) (m_whole : Int64) (m_shares m_isKept m_lanes m_lengths m_cells : Nat → Int32) (m_torn : Int32) (zr : Int32) (z1 z2 z3 : Nat → Int32) (z4 z5 : Int32) (k_ : Int32 → (Nat → Int32) → Option (Int32 × (Nat → Int32) × (Nat → Int32) × (Nat → Int32) × Int32 × Int32)) (hk_ : ∀ (l2 : Int32) (m_state : Nat → Int32) (H : Heap) (locs : List Loc) (ls : Array Slot), wd_ D (tys0 κ) A s (List.flatten [pMo κ qm m_state m_tape m_taped m_fault m_broken m_brokenAt m_spot m_here m_token m_value m_ends m_letters m_moments m_stepsAt m_steps m_latest m_matrix m_sides m_tried m_answers m_rowOf m_whole m_shares m_isKept m_lanes m_lengths m_cells m_torn]) H locs → lv_has ls 4 [(0, .ref (qm 0))] → k_ l2 m_state = some (zr, z1, z2, z3, z4, z5) → W p l e ({ frames := 3, cells := 0, slots := 0, locals := 71 } : Room) s m args below meth c H locs 0 0 (qI_ D (tys0 κ) A nT_ zr (List.flatten [pMo κ qm z1 m_tape m_taped m_fault m_broken m_brokenAt m_spot m_here m_token m_value m_ends m_letters z2 z3 z4 z5 m_matrix m_sides m_tried m_answers m_rowOf m_whole m_shares m_isKept m_lanes m_lengths m_cells m_torn]) below args s) (F0 m 69 ls [])) : ∀ (n : Nat) (l2 : Int32) (m_state : Nat → Int32) (H : Heap) (locs : List Loc) (ls : Array Slot), wd_ D (tys0 κ) A s (List.flatten [pMo κ qm m_state m_tape m_taped m_fault m_broken m_brokenAt m_spot m_here m_token m_value m_ends m_letters m_moments m_stepsAt m_steps m_latest m_matrix m_sides m_tried m_answers m_rowOf m_whole m_shares m_isKept m_lanes m_lengths m_cells m_torn]) H locs → lv_has ls 4 [(0, .ref (qm 0)), (2, .int l2)] → FMo_lift_L20 k_ n l2 m_state = some (zr, z1, z2, z3, z4, z5) → W p l e ({ frames := 3, cells := 0, slots := 0, locals := 71 } : Room) s m args below meth c H locs 0 0 (qI_ D (tys0 κ) A nT_ zr (List.flatten [pMo κ qm z1 m_tape m_taped m_fault m_broken m_brokenAt m_spot m_here m_token m_value m_ends m_letters z2 z3 z4 z5 m_matrix m_sides m_tried m_answers m_rowOf m_whole m_shares m_isKept m_lanes m_lengths m_cells m_torn]) below args s) (F0 m 20 ls []) := by
  obtain ⟨hx, hb, -, hml, hown, hts, -, -⟩ := id C0
  intro n
  induction n with
  | zero =>
    intro l2 m_state H locs ls hw hl  hf
    cases hf
  | succ n ih =>
    intro l2 m_state H locs ls hw hl  hf
    rw [FMo_lift_L20.eq_2] at hf
    refine lv_iload_n hx hb dX7_lift_20 rfl (lv_at hl 1 rfl) ?_
    refine lv_iconst (v := 1) hx hb dX7_lift_21 (by decide) ?_
    refine lv_iadd hx hb dX7_lift_22 ?_
    refine lv_aload_n hx hb dX7_lift_23 rfl (lv_at hl 0 rfl) ?_
    obtain ⟨r8, hk9, hf⟩ := b1_s hf
    refine rv_i (vq := (RX7, TX7, 28)) (As := []) (rest := [.int (l2 + (1 : Int32))]) (bs' := [pMo κ qm m_state m_tape m_taped m_fault m_broken m_brokenAt m_spot m_here m_token m_value m_ends m_letters m_moments m_stepsAt m_steps m_latest m_matrix m_sides m_tried m_answers m_rowOf m_whole m_shares m_isKept m_lanes m_lengths m_cells m_torn]) C0 hw (cMo_loads l D κ qm m_state m_tape m_taped m_fault m_broken m_brokenAt m_spot m_here m_token m_value m_ends m_letters m_moments m_stepsAt m_steps m_latest m_matrix m_sides m_tried m_answers m_rowOf m_whole m_shares m_isKept m_lanes m_lengths m_cells m_torn r8 hk9) cv_RX7_152 ⟨rfl, rfl, Nat.le_of_ble_eq_true rfl, Nat.le_of_ble_eq_true rfl⟩ ⟨Nat.zero_le _, Nat.zero_le _⟩ [0] [] [0] rfl rfl rfl rfl (by decide) rfl rfl rfl rfl rfl hl.1 (by simp only [List.map, List.sum_cons, List.sum_nil, Value.category]; decide) dX7_lift_24 (fun H locs hw hn10 => ?_)
    refine lv_icmp_ge (tgt := 69) hx hb dX7_lift_27 (by decide) (fun hc11 => ?_) (fun hc11 => ?_)
    · have hf := if_t hc11 hf
      exact hk_ l2 m_state H locs ls hw (lv_sub hl [0] rfl)  hf
    · have hf := if_f hc11 hf
      refine lv_bipush (v := 52) hx hb dX7_lift_30 (by decide) ?_
      refine lv_istore_n (lv' := [(3, .int (52 : Int32)), (0, .ref (qm 0)), (2, .int l2)]) hx hb dX7_lift_32 rfl hl (by decide) rfl (fun ls hl => ?_)
      refine wMo_lift_L33 C0 qm m_tape m_taped m_fault m_broken m_brokenAt m_spot m_here m_token m_value m_ends m_letters m_moments m_stepsAt m_steps m_latest m_matrix m_sides m_tried m_answers m_rowOf m_whole m_shares m_isKept m_lanes m_lengths m_cells m_torn l2 zr z1 z2 z3 z4 z5 _ (fun v17 w18 H locs ls hw hl  hf => ?_) 1000 (52 : Int32) m_state H locs ls hw (lv_sub hl [1, 2, 0] rfl)  hf
      obtain ⟨v19, ev19⟩ : ∃ z : Int32, z = (l2 + (1 : Int32)) := ⟨_, rfl⟩
      have hf := lt_s_ hf v19 ev19
      refine lv_iinc (v := v19) (lv' := [(2, .int v19), (0, .ref (qm 0))]) hx hb dX7_lift_63 hl (k := 1) rfl (by rw [ev19]; rfl) (by decide) rfl (fun ls hl => ?_)
      refine lv_goto (tgt := 20) hx hb dX7_lift_66 (by decide) ?_
      exact ih v19 w18 H locs ls hw (lv_sub hl [1, 0] rfl)  hf
set_option maxHeartbeats 4000000 in
set_option maxRecDepth 100000 in
theorem cMo_lift (l : Launch) (D : va_G) (κ : Nat → ClassId) (qm : Nat → Nat) (m_state m_tape : Nat → Int32) (m_taped m_fault m_broken m_brokenAt m_spot m_here m_token m_value : Int32) (m_ends m_letters m_moments m_stepsAt : Nat → Int32) (m_steps m_latest : Int32) (m_matrix m_sides m_tried m_answers : Nat → Int64) (m_rowOf : Nat → Int32) (m_whole : Int64) (m_shares m_isKept m_lanes m_lengths m_cells : Nat → Int32) (m_torn a1 zr : Int32) (z1 z2 z3 : Nat → Int32) (z4 z5 : Int32) (hf : FMo_lift m_state m_moments m_stepsAt m_steps m_latest a1 = some (zr, z1, z2, z3, z4, z5)) : mI_ l yX7_lift (Cond.code yX7_lift cX7_lift 4 (some .int) :: uw) ({ frames := 3, cells := 0, slots := 0, locals := 71 } : Room) D (tys0 κ) [.ref (qm 0), .int a1] (List.flatten [pMo κ qm m_state m_tape m_taped m_fault m_broken m_brokenAt m_spot m_here m_token m_value m_ends m_letters m_moments m_stepsAt m_steps m_latest m_matrix m_sides m_tried m_answers m_rowOf m_whole m_shares m_isKept m_lanes m_lengths m_cells m_torn]) nT_ zr (List.flatten [pMo κ qm z1 m_tape m_taped m_fault m_broken m_brokenAt m_spot m_here m_token m_value m_ends m_letters z2 z3 z4 z5 m_matrix m_sides m_tried m_answers m_rowOf m_whole m_shares m_isKept m_lanes m_lengths m_cells m_torn]) := by
  unfold FMo_lift at hf
  refine mI_of (by decide) (Nat.le_of_ble_eq_true rfl) ?_
  intro p e s m below meth c A ls H locs C0 hw hl
  obtain ⟨hx, hb, -, hml, hown, hts, -, -⟩ := id C0
  have hl : lv_has ls 4 [(0, .ref (qm 0)), (1, .int a1)] := hl
  refine lv_iload_n hx hb dX7_lift_0 rfl (lv_at hl 1 rfl) ?_
  refine lv_i2l hx hb dX7_lift_1 rfl ?_
  refine lv_lconst (v := 0) hx hb dX7_lift_2 (by decide) ?_
  refine lv_aload_n hx hb dX7_lift_3 rfl (lv_at hl 0 rfl) ?_
  obtain ⟨r1, hk2, hf⟩ := b1_s hf
  refine rv_i (vq := (RX7, TX7, 28)) (As := []) (rest := [.long (0 : Int64), .long (a1.toInt64)]) (bs' := [pMo κ qm m_state m_tape m_taped m_fault m_broken m_brokenAt m_spot m_here m_token m_value m_ends m_letters m_moments m_stepsAt m_steps m_latest m_matrix m_sides m_tried m_answers m_rowOf m_whole m_shares m_isKept m_lanes m_lengths m_cells m_torn]) C0 hw (cMo_loads l D κ qm m_state m_tape m_taped m_fault m_broken m_brokenAt m_spot m_here m_token m_value m_ends m_letters m_moments m_stepsAt m_steps m_latest m_matrix m_sides m_tried m_answers m_rowOf m_whole m_shares m_isKept m_lanes m_lengths m_cells m_torn r1 hk2) cv_RX7_152 ⟨rfl, rfl, Nat.le_of_ble_eq_true rfl, Nat.le_of_ble_eq_true rfl⟩ ⟨Nat.zero_le _, Nat.zero_le _⟩ [0] [] [0] rfl rfl rfl rfl (by decide) rfl rfl rfl rfl rfl hl.1 (by simp only [List.map, List.sum_cons, List.sum_nil, Value.category]; decide) dX7_lift_4 (fun H locs hw hn3 => ?_)
  refine lv_iconst (v := 1) hx hb dX7_lift_7 (by decide) ?_
  refine lv_isub hx hb dX7_lift_8 ?_
  refine lv_i2l hx hb dX7_lift_9 rfl ?_
  obtain ⟨r4, hk5, hf⟩ := b1_s hf
  refine rs_i (As := [.long (a1.toInt64), .long (0 : Int64), .long ((r1 - (1 : Int32)).toInt64)]) (rest := []) (bs' := [pMo κ qm m_state m_tape m_taped m_fault m_broken m_brokenAt m_spot m_here m_token m_value m_ends m_letters m_moments m_stepsAt m_steps m_latest m_matrix m_sides m_tried m_answers m_rowOf m_whole m_shares m_isKept m_lanes m_lengths m_cells m_torn]) C0 hw (cMo_in l D κ (a1.toInt64) (0 : Int64) ((r1 - (1 : Int32)).toInt64) r4 hk5) cs_X7_66 ⟨rfl, rfl, Nat.le_of_ble_eq_true rfl, Nat.le_of_ble_eq_true rfl⟩ ⟨Nat.zero_le _, Nat.zero_le _⟩ [] [0] [0] rfl rfl rfl rfl (by decide) rfl rfl rfl hl.1 (by simp only [List.map, List.sum_cons, List.sum_nil, Value.category]; decide) dX7_lift_10 (fun H locs hw hn6 => ?_)
  refine lv_if_ne (tgt := 18) hx hb dX7_lift_13 (by decide) (fun hc7 => ?_) (fun hc7 => ?_)
  · have hf := if_f hc7 hf
    refine lv_iload_n hx hb dX7_lift_18 rfl (lv_at hl 1 rfl) ?_
    refine lv_istore_n (lv' := [(2, .int a1), (0, .ref (qm 0)), (1, .int a1)]) hx hb dX7_lift_19 rfl hl (by decide) rfl (fun ls hl => ?_)
    refine wMo_lift_L20 C0 qm m_tape m_taped m_fault m_broken m_brokenAt m_spot m_here m_token m_value m_ends m_letters m_moments m_stepsAt m_steps m_latest m_matrix m_sides m_tried m_answers m_rowOf m_whole m_shares m_isKept m_lanes m_lengths m_cells m_torn zr z1 z2 z3 z4 z5 _ (fun v20 w21 H locs ls hw hl  hf => ?_) 1000 a1 m_state H locs ls hw (lv_sub hl [1, 0] rfl)  hf
    refine lv_aload_n hx hb dX7_lift_69 rfl (lv_at hl 0 rfl) ?_
    refine r_get C0 hw 0 0 (v := .ref (qm 1)) rfl rfl inX7 (by decide) lk_X7_7 rfl dX7_lift_70 ?_
    refine lv_bipush (v := 78) hx hb dX7_lift_73 (by decide) ?_
    refine lv_dup2_11 hx hb dX7_lift_75 rfl rfl ?_
    obtain ⟨hi22, hf⟩ := gd_s hf
    refine r_iald C0 hw 1 0 rfl rfl hi22 dX7_lift_76 ?_
    refine lv_iconst (v := 1) hx hb dX7_lift_77 (by decide) ?_
    refine lv_isub hx hb dX7_lift_78 ?_
    obtain ⟨hi23, hf⟩ := gd_s hf
    obtain ⟨w24, ew24⟩ : ∃ z : Nat → Int32, z = (upd w21 (78 : Int32).toNatClampNeg ((w21 (78 : Int32).toNatClampNeg) - (1 : Int32))) := ⟨_, rfl⟩
    have hf := lt_s_ hf w24 ew24
    refine r_iast C0 hw 1 0 rfl rfl hi23 dX7_lift_79 (ws' := List.flatten [pMo κ qm w24 m_tape m_taped m_fault m_broken m_brokenAt m_spot m_here m_token m_value m_ends m_letters m_moments m_stepsAt m_steps m_latest m_matrix m_sides m_tried m_answers m_rowOf m_whole m_shares m_isKept m_lanes m_lengths m_cells m_torn]) (by subst ew24; rfl) (fun H locs hw => ?_)
    refine lv_aload_n hx hb dX7_lift_80 rfl (lv_at hl 0 rfl) ?_
    obtain ⟨r25, w26, w27, w28, w29, hk30, hf⟩ := b5_s hf
    refine rv_i (vq := (RX7, TX7, 28)) (As := []) (rest := []) (bs' := [pMo κ qm w24 m_tape m_taped m_fault m_broken m_brokenAt m_spot m_here m_token m_value m_ends m_letters w26 w27 w28 w29 m_matrix m_sides m_tried m_answers m_rowOf m_whole m_shares m_isKept m_lanes m_lengths m_cells m_torn]) C0 hw (cMo_begins l D κ qm w24 m_tape m_taped m_fault m_broken m_brokenAt m_spot m_here m_token m_value m_ends m_letters m_moments m_stepsAt m_steps m_latest m_matrix m_sides m_tried m_answers m_rowOf m_whole m_shares m_isKept m_lanes m_lengths m_cells m_torn r25 w26 w27 w28 w29 hk30) cv_RX7_149 ⟨rfl, rfl, Nat.le_of_ble_eq_true rfl, Nat.le_of_ble_eq_true rfl⟩ ⟨Nat.zero_le _, Nat.zero_le _⟩ [0] [] [0] rfl rfl rfl rfl (by decide) rfl rfl rfl rfl rfl hl.1 (by simp only [List.map, List.sum_cons, List.sum_nil, Value.category]; decide) dX7_lift_81 (fun H locs hw hn31 => ?_)
    refine lv_pop hx hb dX7_lift_84 rfl ?_
    refine lv_aload_n hx hb dX7_lift_85 rfl (lv_at hl 0 rfl) ?_
    obtain ⟨r32, hk33, hf⟩ := b1_s hf
    refine rv_i (vq := (RX7, TX7, 28)) (As := []) (rest := []) (bs' := [pMo κ qm w24 m_tape m_taped m_fault m_broken m_brokenAt m_spot m_here m_token m_value m_ends m_letters w26 w27 w28 w29 m_matrix m_sides m_tried m_answers m_rowOf m_whole m_shares m_isKept m_lanes m_lengths m_cells m_torn]) C0 hw (cMo_loads l D κ qm w24 m_tape m_taped m_fault m_broken m_brokenAt m_spot m_here m_token m_value m_ends m_letters w26 w27 w28 w29 m_matrix m_sides m_tried m_answers m_rowOf m_whole m_shares m_isKept m_lanes m_lengths m_cells m_torn r32 hk33) cv_RX7_152 ⟨rfl, rfl, Nat.le_of_ble_eq_true rfl, Nat.le_of_ble_eq_true rfl⟩ ⟨Nat.zero_le _, Nat.zero_le _⟩ [0] [] [0] rfl rfl rfl rfl (by decide) rfl rfl rfl rfl rfl hl.1 (by simp only [List.map, List.sum_cons, List.sum_nil, Value.category]; decide) dX7_lift_86 (fun H locs hw hn34 => ?_)
    obtain ⟨rfl, rfl, rfl, rfl, rfl, rfl⟩ := e6_ hf
    exact r_iret C0 hw trivial dX7_lift_89
  · have hf := if_t hc7 hf
    refine lv_iconst (v := -1) hx hb dX7_lift_16 (by decide) ?_
    obtain ⟨rfl, rfl, rfl, rfl, rfl, rfl⟩ := e6_ hf
    exact r_iret C0 hw trivial dX7_lift_17
def FMo_fall_L29 (l2 : Int32) (k_ : Int32 → Int32 → (Nat → Int32) → Option (Int32 × (Nat → Int32) × (Nat → Int32) × (Nat → Int32) × Int32 × Int32)) : Nat → Int32 → Int32 → (Nat → Int32) → Option (Int32 × (Nat → Int32) × (Nat → Int32) × (Nat → Int32) × Int32 × Int32)
  | 0, _, _, _ => none
  | n + 1, l3, l4, m_state =>
      lt_ (fun (_ : Unit) =>
        k_ (0 : Int32) l4 m_state : Unit → Option (Int32 × (Nat → Int32) × (Nat → Int32) × (Nat → Int32) × Int32 × Int32)) fun j9 =>
      if l2 ≤ l4 then
        j9 ()
      else
        b1_ (FMo_loads m_state) fun r12 =>
        if (8 : Int32) ≤ r12 then
          j9 ()
        else
          lt_ ((l3 * (1103515245 : Int32)) + (12345 : Int32)) fun v16 =>
          lt_ ((v16 >>> ((16 : Int32) &&& 31)) &&& (32767 : Int32)) fun v17 =>
          b1_ (FMo_beams m_state) fun r18 =>
          dz_ r18 <|
          lt_ (v17 - v17 / r18 * r18) fun v22 =>
          gd_ ((32 : Int32) + v22) 395 <|
          dz_ (m_state ((32 : Int32) + v22).toNatClampNeg) <|
          lt_ ((v17 / (16 : Int32)) - (v17 / (16 : Int32)) / (m_state ((32 : Int32) + v22).toNatClampNeg) * (m_state ((32 : Int32) + v22).toNatClampNeg)) fun v25 =>
          if v25 = 0 then
            b1_ (FMo_puts m_state v22 (((v17 / (8 : Int32)) - (v17 / (8 : Int32)) / (99 : Int32) * (99 : Int32)) + (1 : Int32)) v25) fun w31 =>
            lt_ (l4 + (1 : Int32)) fun v34 =>
            FMo_fall_L29 l2 k_ n v16 v34 w31
          else
            b1_ (FMo_puts m_state v22 (((v17 / (8 : Int32)) - (v17 / (8 : Int32)) / (999 : Int32) * (999 : Int32)) + (1 : Int32)) v25) fun w27 =>
            lt_ (l4 + (1 : Int32)) fun v30 =>
            FMo_fall_L29 l2 k_ n v16 v30 w27
def FMo_fall (m_state m_moments m_stepsAt : Nat → Int32) (m_steps m_latest a1 a2 : Int32) : Option (Int32 × (Nat → Int32) × (Nat → Int32) × (Nat → Int32) × Int32 × Int32) :=
  b1_ (FMo_in (a2.toInt64) (1 : Int64) (8 : Int64)) fun r1 =>
  if r1 = 0 then
    some ((-1 : Int32), m_state, m_moments, m_stepsAt, m_steps, m_latest)
  else
    b1_ (FMo_beams m_state) fun r5 =>
    if r5 = 0 then
      some ((-2 : Int32), m_state, m_moments, m_stepsAt, m_steps, m_latest)
    else
      FMo_fall_L29 a2 (fun (v36 : Int32) (v37 : Int32) (w38 : Nat → Int32) =>
          if v37 ≤ 0 then
            some (v37, w38, m_moments, m_stepsAt, m_steps, m_latest)
          else
            b5_ (FMo_begins w38 m_moments m_stepsAt m_steps) fun r40 w41 w42 w43 w44 =>
            some (v37, w38, w41, w42, w43, w44)) 1000 a1 (0 : Int32) m_state
set_option maxHeartbeats 4000000 in
set_option maxRecDepth 100000 in
theorem wMo_fall_L29 {p : Program} {l : Launch} {e : Env} {s : State} {m : MethodId} {args : Array Value} {below : List Frame} {meth : Method} {c : Code} {A : Nat → Prop} {D : va_G} {κ : Nat → ClassId} (C0 : cx_ p s m meth c args cX7_fall RX7 (some .int) 8 A) (qm : Nat → Nat) (m_tape : Nat → Int32) (m_taped m_fault m_broken m_brokenAt m_spot m_here m_token m_value : Int32) (m_ends m_letters m_moments m_stepsAt : Nat → Int32) (m_steps m_latest : Int32) (m_matrix m_sides m_tried m_answers : Nat → Int64) (m_rowOf : Nat → Int32) (m_whole : Int64) (m_shares m_isKept m_lanes m_lengths m_cells : Nat → Int32) (m_torn l2 : Int32) (zr : Int32) (z1 z2 z3 : Nat → Int32) (z4 z5 : Int32) (k_ : Int32 → Int32 → (Nat → Int32) → Option (Int32 × (Nat → Int32) × (Nat → Int32) × (Nat → Int32) × Int32 × Int32)) (hk_ : ∀ (l3 : Int32) (l4 : Int32) (m_state : Nat → Int32) (H : Heap) (locs : List Loc) (ls : Array Slot), wd_ D (tys0 κ) A s (List.flatten [pMo κ qm m_state m_tape m_taped m_fault m_broken m_brokenAt m_spot m_here m_token m_value m_ends m_letters m_moments m_stepsAt m_steps m_latest m_matrix m_sides m_tried m_answers m_rowOf m_whole m_shares m_isKept m_lanes m_lengths m_cells m_torn]) H locs → lv_has ls 8 [(0, .ref (qm 0)), (4, .int l4)] → k_ l3 l4 m_state = some (zr, z1, z2, z3, z4, z5) → W p l e ({ frames := 3, cells := 0, slots := 0, locals := 71 } : Room) s m args below meth c H locs 0 0 (qI_ D (tys0 κ) A nT_ zr (List.flatten [pMo κ qm z1 m_tape m_taped m_fault m_broken m_brokenAt m_spot m_here m_token m_value m_ends m_letters z2 z3 z4 z5 m_matrix m_sides m_tried m_answers m_rowOf m_whole m_shares m_isKept m_lanes m_lengths m_cells m_torn]) below args s) (F0 m 126 ls [])) : ∀ (n : Nat) (l3 : Int32) (l4 : Int32) (m_state : Nat → Int32) (H : Heap) (locs : List Loc) (ls : Array Slot), wd_ D (tys0 κ) A s (List.flatten [pMo κ qm m_state m_tape m_taped m_fault m_broken m_brokenAt m_spot m_here m_token m_value m_ends m_letters m_moments m_stepsAt m_steps m_latest m_matrix m_sides m_tried m_answers m_rowOf m_whole m_shares m_isKept m_lanes m_lengths m_cells m_torn]) H locs → lv_has ls 8 [(0, .ref (qm 0)), (2, .int l2), (3, .int l3), (4, .int l4)] → FMo_fall_L29 l2 k_ n l3 l4 m_state = some (zr, z1, z2, z3, z4, z5) → W p l e ({ frames := 3, cells := 0, slots := 0, locals := 71 } : Room) s m args below meth c H locs 0 0 (qI_ D (tys0 κ) A nT_ zr (List.flatten [pMo κ qm z1 m_tape m_taped m_fault m_broken m_brokenAt m_spot m_here m_token m_value m_ends m_letters z2 z3 z4 z5 m_matrix m_sides m_tried m_answers m_rowOf m_whole m_shares m_isKept m_lanes m_lengths m_cells m_torn]) below args s) (F0 m 29 ls []) := by
  obtain ⟨hx, hb, -, hml, hown, hts, -, -⟩ := id C0
  intro n
  induction n with
  | zero =>
    intro l3 l4 m_state H locs ls hw hl  hf
    cases hf
  | succ n ih =>
    intro l3 l4 m_state H locs ls hw hl  hf
    rw [FMo_fall_L29.eq_2] at hf
    refine lv_iload hx hb dX7_fall_29 (lv_at hl 3 rfl) ?_
    refine lv_iload_n hx hb dX7_fall_31 rfl (lv_at hl 1 rfl) ?_
    obtain ⟨j9, ej9, hf⟩ := lt_e hf
    have hj10 : ∀  (H : Heap) (locs : List Loc) (ls : Array Slot), wd_ D (tys0 κ) A s (List.flatten [pMo κ qm m_state m_tape m_taped m_fault m_broken m_brokenAt m_spot m_here m_token m_value m_ends m_letters m_moments m_stepsAt m_steps m_latest m_matrix m_sides m_tried m_answers m_rowOf m_whole m_shares m_isKept m_lanes m_lengths m_cells m_torn]) H locs → lv_has ls 8 [(0, .ref (qm 0)), (4, .int l4)] → j9 () = some (zr, z1, z2, z3, z4, z5) → W p l e ({ frames := 3, cells := 0, slots := 0, locals := 71 } : Room) s m args below meth c H locs 0 0 (qI_ D (tys0 κ) A nT_ zr (List.flatten [pMo κ qm z1 m_tape m_taped m_fault m_broken m_brokenAt m_spot m_here m_token m_value m_ends m_letters z2 z3 z4 z5 m_matrix m_sides m_tried m_answers m_rowOf m_whole m_shares m_isKept m_lanes m_lengths m_cells m_torn]) below args s) (F0 m 126 ls []) := by
      intro  H locs ls hw hl  hf
      have hf : (k_ (0 : Int32) l4 m_state) = some (zr, z1, z2, z3, z4, z5) := by rw [ej9] at hf; exact hf
      exact hk_ (0 : Int32) l4 m_state H locs ls hw (lv_sub hl [0, 1] rfl)  hf
    refine lv_icmp_ge (tgt := 126) hx hb dX7_fall_32 (by decide) (fun hc11 => ?_) (fun hc11 => ?_)
    · have hf := if_t hc11 hf
      exact hj10  H locs ls hw (lv_sub hl [0, 3] rfl)  hf
    · have hf := if_f hc11 hf
      refine lv_aload_n hx hb dX7_fall_35 rfl (lv_at hl 0 rfl) ?_
      obtain ⟨r12, hk13, hf⟩ := b1_s hf
      refine rv_i (vq := (RX7, TX7, 28)) (As := []) (rest := []) (bs' := [pMo κ qm m_state m_tape m_taped m_fault m_broken m_brokenAt m_spot m_here m_token m_value m_ends m_letters m_moments m_stepsAt m_steps m_latest m_matrix m_sides m_tried m_answers m_rowOf m_whole m_shares m_isKept m_lanes m_lengths m_cells m_torn]) C0 hw (cMo_loads l D κ qm m_state m_tape m_taped m_fault m_broken m_brokenAt m_spot m_here m_token m_value m_ends m_letters m_moments m_stepsAt m_steps m_latest m_matrix m_sides m_tried m_answers m_rowOf m_whole m_shares m_isKept m_lanes m_lengths m_cells m_torn r12 hk13) cv_RX7_152 ⟨rfl, rfl, Nat.le_of_ble_eq_true rfl, Nat.le_of_ble_eq_true rfl⟩ ⟨Nat.zero_le _, Nat.zero_le _⟩ [0] [] [0] rfl rfl rfl rfl (by decide) rfl rfl rfl rfl rfl hl.1 (by simp only [List.map, List.sum_cons, List.sum_nil, Value.category]; decide) dX7_fall_36 (fun H locs hw hn14 => ?_)
      refine lv_bipush (v := 8) hx hb dX7_fall_39 (by decide) ?_
      refine lv_icmp_ge (tgt := 126) hx hb dX7_fall_41 (by decide) (fun hc15 => ?_) (fun hc15 => ?_)
      · have hf := if_t hc15 hf
        exact hj10  H locs ls hw (lv_sub hl [0, 3] rfl)  hf
      · have hf := if_f hc15 hf
        refine lv_iload_n hx hb dX7_fall_44 rfl (lv_at hl 2 rfl) ?_
        refine lv_ldcw (v := 1103515245) hx hb hown (hts _ kc_X7_291) dX7_fall_45 ?_
        refine lv_imul hx hb dX7_fall_48 ?_
        refine lv_sipush (v := 12345) hx hb dX7_fall_49 (by decide) ?_
        refine lv_iadd hx hb dX7_fall_52 ?_
        refine lv_topi (fun v16 ev16 => ?_)
        have hf := lt_s_ hf v16 ev16
        refine lv_istore_n (lv' := [(3, .int v16), (0, .ref (qm 0)), (2, .int l2), (4, .int l4)]) hx hb dX7_fall_53 rfl hl (by decide) rfl (fun ls hl => ?_)
        refine lv_iload_n hx hb dX7_fall_54 rfl (lv_at hl 0 rfl) ?_
        refine lv_bipush (v := 16) hx hb dX7_fall_55 (by decide) ?_
        refine lv_ishr hx hb dX7_fall_57 ?_
        refine lv_sipush (v := 32767) hx hb dX7_fall_58 (by decide) ?_
        refine lv_iand hx hb dX7_fall_61 ?_
        refine lv_topi (fun v17 ev17 => ?_)
        have hf := lt_s_ hf v17 ev17
        refine lv_istore (lv' := [(5, .int v17), (3, .int v16), (0, .ref (qm 0)), (2, .int l2), (4, .int l4)]) hx hb dX7_fall_62 hl (by decide) rfl (fun ls hl => ?_)
        refine lv_iload hx hb dX7_fall_64 (lv_at hl 0 rfl) ?_
        refine lv_aload_n hx hb dX7_fall_66 rfl (lv_at hl 2 rfl) ?_
        obtain ⟨r18, hk19, hf⟩ := b1_s hf
        refine rv_i (vq := (RX7, TX7, 28)) (As := []) (rest := [.int v17]) (bs' := [pMo κ qm m_state m_tape m_taped m_fault m_broken m_brokenAt m_spot m_here m_token m_value m_ends m_letters m_moments m_stepsAt m_steps m_latest m_matrix m_sides m_tried m_answers m_rowOf m_whole m_shares m_isKept m_lanes m_lengths m_cells m_torn]) C0 hw (cMo_beams l D κ qm m_state m_tape m_taped m_fault m_broken m_brokenAt m_spot m_here m_token m_value m_ends m_letters m_moments m_stepsAt m_steps m_latest m_matrix m_sides m_tried m_answers m_rowOf m_whole m_shares m_isKept m_lanes m_lengths m_cells m_torn r18 hk19) cv_RX7_162 ⟨rfl, rfl, Nat.le_of_ble_eq_true rfl, Nat.le_of_ble_eq_true rfl⟩ ⟨Nat.zero_le _, Nat.zero_le _⟩ [0] [] [0] rfl rfl rfl rfl (by decide) rfl rfl rfl rfl rfl hl.1 (by simp only [List.map, List.sum_cons, List.sum_nil, Value.category]; decide) dX7_fall_67 (fun H locs hw hn20 => ?_)
        obtain ⟨hz21, hf⟩ := dz_s hf
        refine lv_irem hx hb dX7_fall_70 hz21 ?_
        refine lv_topi (fun v22 ev22 => ?_)
        have hf := lt_s_ hf v22 ev22
        refine lv_istore (lv' := [(6, .int v22), (5, .int v17), (3, .int v16), (0, .ref (qm 0)), (2, .int l2), (4, .int l4)]) hx hb dX7_fall_71 hl (by decide) rfl (fun ls hl => ?_)
        refine lv_iload hx hb dX7_fall_73 (lv_at hl 1 rfl) ?_
        refine lv_bipush (v := 16) hx hb dX7_fall_75 (by decide) ?_
        refine lv_idiv hx hb dX7_fall_77 (by decide) ?_
        refine lv_aload_n hx hb dX7_fall_78 rfl (lv_at hl 3 rfl) ?_
        refine r_get C0 hw 0 0 (v := .ref (qm 1)) rfl rfl inX7 (by decide) lk_X7_7 rfl dX7_fall_79 ?_
        refine lv_bipush (v := 32) hx hb dX7_fall_82 (by decide) ?_
        refine lv_iload hx hb dX7_fall_84 (lv_at hl 0 rfl) ?_
        refine lv_iadd hx hb dX7_fall_86 ?_
        obtain ⟨hi23, hf⟩ := gd_s hf
        refine r_iald C0 hw 1 0 rfl rfl hi23 dX7_fall_87 ?_
        obtain ⟨hz24, hf⟩ := dz_s hf
        refine lv_irem hx hb dX7_fall_88 hz24 ?_
        refine lv_topi (fun v25 ev25 => ?_)
        have hf := lt_s_ hf v25 ev25
        refine lv_istore (lv' := [(7, .int v25), (6, .int v22), (5, .int v17), (3, .int v16), (0, .ref (qm 0)), (2, .int l2), (4, .int l4)]) hx hb dX7_fall_89 hl (by decide) rfl (fun ls hl => ?_)
        refine lv_aload_n hx hb dX7_fall_91 rfl (lv_at hl 4 rfl) ?_
        refine lv_iload hx hb dX7_fall_92 (lv_at hl 1 rfl) ?_
        refine lv_iload hx hb dX7_fall_94 (lv_at hl 2 rfl) ?_
        refine lv_bipush (v := 8) hx hb dX7_fall_96 (by decide) ?_
        refine lv_idiv hx hb dX7_fall_98 (by decide) ?_
        refine lv_iload hx hb dX7_fall_99 (lv_at hl 0 rfl) ?_
        refine lv_if_ne (tgt := 109) hx hb dX7_fall_101 (by decide) (fun hc26 => ?_) (fun hc26 => ?_)
        · have hf := if_f hc26 hf
          refine lv_sipush (v := 999) hx hb dX7_fall_109 (by decide) ?_
          refine lv_irem hx hb dX7_fall_112 (by decide) ?_
          refine lv_iconst (v := 1) hx hb dX7_fall_113 (by decide) ?_
          refine lv_iadd hx hb dX7_fall_114 ?_
          refine lv_iload hx hb dX7_fall_115 (lv_at hl 0 rfl) ?_
          obtain ⟨w27, hk28, hf⟩ := b1_s hf
          refine rv_v (vq := (RX7, TX7, 28)) (As := [.int v22, .int (((v17 / (8 : Int32)) - (v17 / (8 : Int32)) / (999 : Int32) * (999 : Int32)) + (1 : Int32)), .int v25]) (rest := []) (bs' := [pMo κ qm w27 m_tape m_taped m_fault m_broken m_brokenAt m_spot m_here m_token m_value m_ends m_letters m_moments m_stepsAt m_steps m_latest m_matrix m_sides m_tried m_answers m_rowOf m_whole m_shares m_isKept m_lanes m_lengths m_cells m_torn]) C0 hw (cMo_puts l D κ qm m_state m_tape m_taped m_fault m_broken m_brokenAt m_spot m_here m_token m_value m_ends m_letters m_moments m_stepsAt m_steps m_latest m_matrix m_sides m_tried m_answers m_rowOf m_whole m_shares m_isKept m_lanes m_lengths m_cells m_torn v22 (((v17 / (8 : Int32)) - (v17 / (8 : Int32)) / (999 : Int32) * (999 : Int32)) + (1 : Int32)) v25 w27 hk28) cv_RX7_285 ⟨rfl, rfl, Nat.le_of_ble_eq_true rfl, Nat.le_of_ble_eq_true rfl⟩ ⟨Nat.zero_le _, Nat.zero_le _⟩ [0] [] [0] rfl rfl rfl rfl (by decide) rfl rfl rfl rfl rfl hl.1 (by simp only [List.map, List.sum_cons, List.sum_nil, Value.category]; decide) dX7_fall_117 (fun H locs hw => ?_)
          obtain ⟨v30, ev30⟩ : ∃ z : Int32, z = (l4 + (1 : Int32)) := ⟨_, rfl⟩
          have hf := lt_s_ hf v30 ev30
          refine lv_iinc (v := v30) (lv' := [(4, .int v30), (7, .int v25), (6, .int v22), (5, .int v17), (3, .int v16), (0, .ref (qm 0)), (2, .int l2)]) hx hb dX7_fall_120 hl (k := 6) rfl (by rw [ev30]; rfl) (by decide) rfl (fun ls hl => ?_)
          refine lv_goto (tgt := 29) hx hb dX7_fall_123 (by decide) ?_
          exact ih v16 v30 w27 H locs ls hw (lv_sub hl [5, 6, 4, 0] rfl)  hf
        · have hf := if_t hc26 hf
          refine lv_bipush (v := 99) hx hb dX7_fall_104 (by decide) ?_
          refine lv_goto (tgt := 112) hx hb dX7_fall_106 (by decide) ?_
          refine lv_irem hx hb dX7_fall_112 (by decide) ?_
          refine lv_iconst (v := 1) hx hb dX7_fall_113 (by decide) ?_
          refine lv_iadd hx hb dX7_fall_114 ?_
          refine lv_iload hx hb dX7_fall_115 (lv_at hl 0 rfl) ?_
          obtain ⟨w31, hk32, hf⟩ := b1_s hf
          refine rv_v (vq := (RX7, TX7, 28)) (As := [.int v22, .int (((v17 / (8 : Int32)) - (v17 / (8 : Int32)) / (99 : Int32) * (99 : Int32)) + (1 : Int32)), .int v25]) (rest := []) (bs' := [pMo κ qm w31 m_tape m_taped m_fault m_broken m_brokenAt m_spot m_here m_token m_value m_ends m_letters m_moments m_stepsAt m_steps m_latest m_matrix m_sides m_tried m_answers m_rowOf m_whole m_shares m_isKept m_lanes m_lengths m_cells m_torn]) C0 hw (cMo_puts l D κ qm m_state m_tape m_taped m_fault m_broken m_brokenAt m_spot m_here m_token m_value m_ends m_letters m_moments m_stepsAt m_steps m_latest m_matrix m_sides m_tried m_answers m_rowOf m_whole m_shares m_isKept m_lanes m_lengths m_cells m_torn v22 (((v17 / (8 : Int32)) - (v17 / (8 : Int32)) / (99 : Int32) * (99 : Int32)) + (1 : Int32)) v25 w31 hk32) cv_RX7_285 ⟨rfl, rfl, Nat.le_of_ble_eq_true rfl, Nat.le_of_ble_eq_true rfl⟩ ⟨Nat.zero_le _, Nat.zero_le _⟩ [0] [] [0] rfl rfl rfl rfl (by decide) rfl rfl rfl rfl rfl hl.1 (by simp only [List.map, List.sum_cons, List.sum_nil, Value.category]; decide) dX7_fall_117 (fun H locs hw => ?_)
          obtain ⟨v34, ev34⟩ : ∃ z : Int32, z = (l4 + (1 : Int32)) := ⟨_, rfl⟩
          have hf := lt_s_ hf v34 ev34
          refine lv_iinc (v := v34) (lv' := [(4, .int v34), (7, .int v25), (6, .int v22), (5, .int v17), (3, .int v16), (0, .ref (qm 0)), (2, .int l2)]) hx hb dX7_fall_120 hl (k := 6) rfl (by rw [ev34]; rfl) (by decide) rfl (fun ls hl => ?_)
          refine lv_goto (tgt := 29) hx hb dX7_fall_123 (by decide) ?_
          exact ih v16 v34 w31 H locs ls hw (lv_sub hl [5, 6, 4, 0] rfl)  hf
set_option maxHeartbeats 4000000 in
set_option maxRecDepth 100000 in
theorem cMo_fall (l : Launch) (D : va_G) (κ : Nat → ClassId) (qm : Nat → Nat) (m_state m_tape : Nat → Int32) (m_taped m_fault m_broken m_brokenAt m_spot m_here m_token m_value : Int32) (m_ends m_letters m_moments m_stepsAt : Nat → Int32) (m_steps m_latest : Int32) (m_matrix m_sides m_tried m_answers : Nat → Int64) (m_rowOf : Nat → Int32) (m_whole : Int64) (m_shares m_isKept m_lanes m_lengths m_cells : Nat → Int32) (m_torn a1 a2 zr : Int32) (z1 z2 z3 : Nat → Int32) (z4 z5 : Int32) (hf : FMo_fall m_state m_moments m_stepsAt m_steps m_latest a1 a2 = some (zr, z1, z2, z3, z4, z5)) : mI_ l yX7_fall (Cond.code yX7_fall cX7_fall 8 (some .int) :: uw) ({ frames := 3, cells := 0, slots := 0, locals := 71 } : Room) D (tys0 κ) [.ref (qm 0), .int a1, .int a2] (List.flatten [pMo κ qm m_state m_tape m_taped m_fault m_broken m_brokenAt m_spot m_here m_token m_value m_ends m_letters m_moments m_stepsAt m_steps m_latest m_matrix m_sides m_tried m_answers m_rowOf m_whole m_shares m_isKept m_lanes m_lengths m_cells m_torn]) nT_ zr (List.flatten [pMo κ qm z1 m_tape m_taped m_fault m_broken m_brokenAt m_spot m_here m_token m_value m_ends m_letters z2 z3 z4 z5 m_matrix m_sides m_tried m_answers m_rowOf m_whole m_shares m_isKept m_lanes m_lengths m_cells m_torn]) := by
  unfold FMo_fall at hf
  refine mI_of (by decide) (Nat.le_of_ble_eq_true rfl) ?_
  intro p e s m below meth c A ls H locs C0 hw hl
  obtain ⟨hx, hb, -, hml, hown, hts, -, -⟩ := id C0
  have hl : lv_has ls 8 [(0, .ref (qm 0)), (1, .int a1), (2, .int a2)] := hl
  refine lv_iload_n hx hb dX7_fall_0 rfl (lv_at hl 2 rfl) ?_
  refine lv_i2l hx hb dX7_fall_1 rfl ?_
  refine lv_lconst (v := 1) hx hb dX7_fall_2 (by decide) ?_
  refine lv_ldc2 (v := 8) hx hb hown (hts _ kl_X7_289) dX7_fall_3 ?_
  obtain ⟨r1, hk2, hf⟩ := b1_s hf
  refine rs_i (As := [.long (a2.toInt64), .long (1 : Int64), .long (8 : Int64)]) (rest := []) (bs' := [pMo κ qm m_state m_tape m_taped m_fault m_broken m_brokenAt m_spot m_here m_token m_value m_ends m_letters m_moments m_stepsAt m_steps m_latest m_matrix m_sides m_tried m_answers m_rowOf m_whole m_shares m_isKept m_lanes m_lengths m_cells m_torn]) C0 hw (cMo_in l D κ (a2.toInt64) (1 : Int64) (8 : Int64) r1 hk2) cs_X7_66 ⟨rfl, rfl, Nat.le_of_ble_eq_true rfl, Nat.le_of_ble_eq_true rfl⟩ ⟨Nat.zero_le _, Nat.zero_le _⟩ [] [0] [0] rfl rfl rfl rfl (by decide) rfl rfl rfl hl.1 (by simp only [List.map, List.sum_cons, List.sum_nil, Value.category]; decide) dX7_fall_6 (fun H locs hw hn3 => ?_)
  refine lv_if_ne (tgt := 14) hx hb dX7_fall_9 (by decide) (fun hc4 => ?_) (fun hc4 => ?_)
  · have hf := if_f hc4 hf
    refine lv_aload_n hx hb dX7_fall_14 rfl (lv_at hl 0 rfl) ?_
    obtain ⟨r5, hk6, hf⟩ := b1_s hf
    refine rv_i (vq := (RX7, TX7, 28)) (As := []) (rest := []) (bs' := [pMo κ qm m_state m_tape m_taped m_fault m_broken m_brokenAt m_spot m_here m_token m_value m_ends m_letters m_moments m_stepsAt m_steps m_latest m_matrix m_sides m_tried m_answers m_rowOf m_whole m_shares m_isKept m_lanes m_lengths m_cells m_torn]) C0 hw (cMo_beams l D κ qm m_state m_tape m_taped m_fault m_broken m_brokenAt m_spot m_here m_token m_value m_ends m_letters m_moments m_stepsAt m_steps m_latest m_matrix m_sides m_tried m_answers m_rowOf m_whole m_shares m_isKept m_lanes m_lengths m_cells m_torn r5 hk6) cv_RX7_162 ⟨rfl, rfl, Nat.le_of_ble_eq_true rfl, Nat.le_of_ble_eq_true rfl⟩ ⟨Nat.zero_le _, Nat.zero_le _⟩ [0] [] [0] rfl rfl rfl rfl (by decide) rfl rfl rfl rfl rfl hl.1 (by simp only [List.map, List.sum_cons, List.sum_nil, Value.category]; decide) dX7_fall_15 (fun H locs hw hn7 => ?_)
    refine lv_if_ne (tgt := 24) hx hb dX7_fall_18 (by decide) (fun hc8 => ?_) (fun hc8 => ?_)
    · have hf := if_f hc8 hf
      refine lv_iload_n hx hb dX7_fall_24 rfl (lv_at hl 1 rfl) ?_
      refine lv_istore_n (lv' := [(3, .int a1), (0, .ref (qm 0)), (1, .int a1), (2, .int a2)]) hx hb dX7_fall_25 rfl hl (by decide) rfl (fun ls hl => ?_)
      refine lv_iconst (v := 0) hx hb dX7_fall_26 (by decide) ?_
      refine lv_istore (lv' := [(4, .int (0 : Int32)), (3, .int a1), (0, .ref (qm 0)), (1, .int a1), (2, .int a2)]) hx hb dX7_fall_27 hl (by decide) rfl (fun ls hl => ?_)
      refine wMo_fall_L29 C0 qm m_tape m_taped m_fault m_broken m_brokenAt m_spot m_here m_token m_value m_ends m_letters m_moments m_stepsAt m_steps m_latest m_matrix m_sides m_tried m_answers m_rowOf m_whole m_shares m_isKept m_lanes m_lengths m_cells m_torn a2 zr z1 z2 z3 z4 z5 _ (fun v36 v37 w38 H locs ls hw hl  hf => ?_) 1000 a1 (0 : Int32) m_state H locs ls hw (lv_sub hl [2, 4, 1, 0] rfl)  hf
      refine lv_iload hx hb dX7_fall_126 (lv_at hl 1 rfl) ?_
      refine lv_if_le (tgt := 136) hx hb dX7_fall_128 (by decide) (fun hc39 => ?_) (fun hc39 => ?_)
      · have hf := if_t hc39 hf
        refine lv_iload hx hb dX7_fall_136 (lv_at hl 1 rfl) ?_
        obtain ⟨rfl, rfl, rfl, rfl, rfl, rfl⟩ := e6_ hf
        exact r_iret C0 hw trivial dX7_fall_138
      · have hf := if_f hc39 hf
        refine lv_aload_n hx hb dX7_fall_131 rfl (lv_at hl 0 rfl) ?_
        obtain ⟨r40, w41, w42, w43, w44, hk45, hf⟩ := b5_s hf
        refine rv_i (vq := (RX7, TX7, 28)) (As := []) (rest := []) (bs' := [pMo κ qm w38 m_tape m_taped m_fault m_broken m_brokenAt m_spot m_here m_token m_value m_ends m_letters w41 w42 w43 w44 m_matrix m_sides m_tried m_answers m_rowOf m_whole m_shares m_isKept m_lanes m_lengths m_cells m_torn]) C0 hw (cMo_begins l D κ qm w38 m_tape m_taped m_fault m_broken m_brokenAt m_spot m_here m_token m_value m_ends m_letters m_moments m_stepsAt m_steps m_latest m_matrix m_sides m_tried m_answers m_rowOf m_whole m_shares m_isKept m_lanes m_lengths m_cells m_torn r40 w41 w42 w43 w44 hk45) cv_RX7_149 ⟨rfl, rfl, Nat.le_of_ble_eq_true rfl, Nat.le_of_ble_eq_true rfl⟩ ⟨Nat.zero_le _, Nat.zero_le _⟩ [0] [] [0] rfl rfl rfl rfl (by decide) rfl rfl rfl rfl rfl hl.1 (by simp only [List.map, List.sum_cons, List.sum_nil, Value.category]; decide) dX7_fall_132 (fun H locs hw hn46 => ?_)
        refine lv_pop hx hb dX7_fall_135 rfl ?_
        refine lv_iload hx hb dX7_fall_136 (lv_at hl 1 rfl) ?_
        obtain ⟨rfl, rfl, rfl, rfl, rfl, rfl⟩ := e6_ hf
        exact r_iret C0 hw trivial dX7_fall_138
    · have hf := if_t hc8 hf
      refine lv_bipush (v := -2) hx hb dX7_fall_21 (by decide) ?_
      obtain ⟨rfl, rfl, rfl, rfl, rfl, rfl⟩ := e6_ hf
      exact r_iret C0 hw trivial dX7_fall_23
  · have hf := if_t hc4 hf
    refine lv_iconst (v := -1) hx hb dX7_fall_12 (by decide) ?_
    obtain ⟨rfl, rfl, rfl, rfl, rfl, rfl⟩ := e6_ hf
    exact r_iret C0 hw trivial dX7_fall_13
def FMo_keep (m_state m_isKept : Nat → Int32) (a1 : Int32) : Option (Int32 × (Nat → Int32) × (Nat → Int32)) :=
  b1_ (FMo_in (a1.toInt64) (0 : Int64) (1 : Int64)) fun r1 =>
  if r1 = 0 then
    some ((-1 : Int32), m_state, m_isKept)
  else
    gd_ a1 2 <|
    lt_ (fun (v6 : Int32) =>
      b1_ (FMo_copies m_state (0 : Int32) (((79 : Int32) * a1) + (79 : Int32))) fun w7 =>
      gd_ a1 2 <|
      lt_ (upd m_isKept a1.toNatClampNeg (vp_nar .boolean (1 : Int32))) fun w11 =>
      some (v6, w7, w11) : Int32 → Option (Int32 × (Nat → Int32) × (Nat → Int32))) fun j12 =>
    if (m_isKept a1.toNatClampNeg) = 0 then
      j12 (0 : Int32)
    else
      j12 (1 : Int32)
set_option maxHeartbeats 4000000 in
set_option maxRecDepth 100000 in
theorem cMo_keep (l : Launch) (D : va_G) (κ : Nat → ClassId) (qm : Nat → Nat) (m_state m_tape : Nat → Int32) (m_taped m_fault m_broken m_brokenAt m_spot m_here m_token m_value : Int32) (m_ends m_letters m_moments m_stepsAt : Nat → Int32) (m_steps m_latest : Int32) (m_matrix m_sides m_tried m_answers : Nat → Int64) (m_rowOf : Nat → Int32) (m_whole : Int64) (m_shares m_isKept m_lanes m_lengths m_cells : Nat → Int32) (m_torn a1 zr : Int32) (z1 z2 : Nat → Int32) (hf : FMo_keep m_state m_isKept a1 = some (zr, z1, z2)) : mI_ l yX7_keep (Cond.code yX7_keep cX7_keep 3 (some .int) :: uw) ({ frames := 1, cells := 0, slots := 0, locals := 25 } : Room) D (tys0 κ) [.ref (qm 0), .int a1] (List.flatten [pMo κ qm m_state m_tape m_taped m_fault m_broken m_brokenAt m_spot m_here m_token m_value m_ends m_letters m_moments m_stepsAt m_steps m_latest m_matrix m_sides m_tried m_answers m_rowOf m_whole m_shares m_isKept m_lanes m_lengths m_cells m_torn]) nT_ zr (List.flatten [pMo κ qm z1 m_tape m_taped m_fault m_broken m_brokenAt m_spot m_here m_token m_value m_ends m_letters m_moments m_stepsAt m_steps m_latest m_matrix m_sides m_tried m_answers m_rowOf m_whole m_shares z2 m_lanes m_lengths m_cells m_torn]) := by
  unfold FMo_keep at hf
  refine mI_of (by decide) (Nat.le_of_ble_eq_true rfl) ?_
  intro p e s m below meth c A ls H locs C0 hw hl
  obtain ⟨hx, hb, -, hml, hown, hts, -, -⟩ := id C0
  have hl : lv_has ls 3 [(0, .ref (qm 0)), (1, .int a1)] := hl
  refine lv_iload_n hx hb dX7_keep_0 rfl (lv_at hl 1 rfl) ?_
  refine lv_i2l hx hb dX7_keep_1 rfl ?_
  refine lv_lconst (v := 0) hx hb dX7_keep_2 (by decide) ?_
  refine lv_lconst (v := 1) hx hb dX7_keep_3 (by decide) ?_
  obtain ⟨r1, hk2, hf⟩ := b1_s hf
  refine rs_i (As := [.long (a1.toInt64), .long (0 : Int64), .long (1 : Int64)]) (rest := []) (bs' := [pMo κ qm m_state m_tape m_taped m_fault m_broken m_brokenAt m_spot m_here m_token m_value m_ends m_letters m_moments m_stepsAt m_steps m_latest m_matrix m_sides m_tried m_answers m_rowOf m_whole m_shares m_isKept m_lanes m_lengths m_cells m_torn]) C0 hw (cMo_in l D κ (a1.toInt64) (0 : Int64) (1 : Int64) r1 hk2) cs_X7_66 ⟨rfl, rfl, Nat.le_of_ble_eq_true rfl, Nat.le_of_ble_eq_true rfl⟩ ⟨Nat.zero_le _, Nat.zero_le _⟩ [] [0] [0] rfl rfl rfl rfl (by decide) rfl rfl rfl hl.1 (by simp only [List.map, List.sum_cons, List.sum_nil, Value.category]; decide) dX7_keep_4 (fun H locs hw hn3 => ?_)
  refine lv_if_ne (tgt := 12) hx hb dX7_keep_7 (by decide) (fun hc4 => ?_) (fun hc4 => ?_)
  · have hf := if_f hc4 hf
    refine lv_aload_n hx hb dX7_keep_12 rfl (lv_at hl 0 rfl) ?_
    refine r_get C0 hw 0 23 (v := .ref (qm 13)) rfl rfl inX7 (by decide) lk_X7_51 rfl dX7_keep_13 ?_
    refine lv_iload_n hx hb dX7_keep_16 rfl (lv_at hl 1 rfl) ?_
    obtain ⟨hi5, hf⟩ := gd_s hf
    refine r_zald C0 hw 13 1 rfl rfl hi5 dX7_keep_17 ?_
    obtain ⟨j12, ej12, hf⟩ := lt_e hf
    have hj13 : ∀ (v6 : Int32) (H : Heap) (locs : List Loc) (ls : Array Slot), wd_ D (tys0 κ) A s (List.flatten [pMo κ qm m_state m_tape m_taped m_fault m_broken m_brokenAt m_spot m_here m_token m_value m_ends m_letters m_moments m_stepsAt m_steps m_latest m_matrix m_sides m_tried m_answers m_rowOf m_whole m_shares m_isKept m_lanes m_lengths m_cells m_torn]) H locs → lv_has ls 3 [(0, .ref (qm 0)), (1, .int a1)] → j12 v6 = some (zr, z1, z2) → W p l e ({ frames := 1, cells := 0, slots := 0, locals := 25 } : Room) s m ([.ref (qm 0), .int a1] : List Value).toArray below meth c H locs 0 0 (qI_ D (tys0 κ) A nT_ zr (List.flatten [pMo κ qm z1 m_tape m_taped m_fault m_broken m_brokenAt m_spot m_here m_token m_value m_ends m_letters m_moments m_stepsAt m_steps m_latest m_matrix m_sides m_tried m_answers m_rowOf m_whole m_shares z2 m_lanes m_lengths m_cells m_torn]) below ([.ref (qm 0), .int a1] : List Value).toArray s) (F0 m 26 ls [.int v6]) := by
      intro v6 H locs ls hw hl  hf
      have hf : (b1_ (FMo_copies m_state (0 : Int32) (((79 : Int32) * a1) + (79 : Int32))) fun w7 => gd_ a1 2 <| lt_ (upd m_isKept a1.toNatClampNeg (vp_nar .boolean (1 : Int32))) fun w11 => some (v6, w7, w11)) = some (zr, z1, z2) := by rw [ej12] at hf; exact hf
      refine lv_istore_n (lv' := [(2, .int v6), (0, .ref (qm 0)), (1, .int a1)]) hx hb dX7_keep_26 rfl hl (by decide) rfl (fun ls hl => ?_)
      refine lv_aload_n hx hb dX7_keep_27 rfl (lv_at hl 1 rfl) ?_
      refine lv_iconst (v := 0) hx hb dX7_keep_28 (by decide) ?_
      refine lv_bipush (v := 79) hx hb dX7_keep_29 (by decide) ?_
      refine lv_iload_n hx hb dX7_keep_31 rfl (lv_at hl 2 rfl) ?_
      refine lv_imul hx hb dX7_keep_32 ?_
      refine lv_bipush (v := 79) hx hb dX7_keep_33 (by decide) ?_
      refine lv_iadd hx hb dX7_keep_35 ?_
      obtain ⟨w7, hk8, hf⟩ := b1_s hf
      refine rv_v (vq := (RX7, TX7, 28)) (As := [.int (0 : Int32), .int (((79 : Int32) * a1) + (79 : Int32))]) (rest := []) (bs' := [pMo κ qm w7 m_tape m_taped m_fault m_broken m_brokenAt m_spot m_here m_token m_value m_ends m_letters m_moments m_stepsAt m_steps m_latest m_matrix m_sides m_tried m_answers m_rowOf m_whole m_shares m_isKept m_lanes m_lengths m_cells m_torn]) C0 hw (cMo_copies l D κ qm m_state m_tape m_taped m_fault m_broken m_brokenAt m_spot m_here m_token m_value m_ends m_letters m_moments m_stepsAt m_steps m_latest m_matrix m_sides m_tried m_answers m_rowOf m_whole m_shares m_isKept m_lanes m_lengths m_cells m_torn (0 : Int32) (((79 : Int32) * a1) + (79 : Int32)) w7 hk8) cv_RX7_145 ⟨rfl, rfl, Nat.le_of_ble_eq_true rfl, Nat.le_of_ble_eq_true rfl⟩ ⟨Nat.zero_le _, Nat.zero_le _⟩ [0] [] [0] rfl rfl rfl rfl (by decide) rfl rfl rfl rfl rfl hl.1 (by simp only [List.map, List.sum_cons, List.sum_nil, Value.category]; decide) dX7_keep_36 (fun H locs hw => ?_)
      refine lv_aload_n hx hb dX7_keep_39 rfl (lv_at hl 1 rfl) ?_
      refine r_get C0 hw 0 23 (v := .ref (qm 13)) rfl rfl inX7 (by decide) lk_X7_51 rfl dX7_keep_40 ?_
      refine lv_iload_n hx hb dX7_keep_43 rfl (lv_at hl 2 rfl) ?_
      refine lv_iconst (v := 1) hx hb dX7_keep_44 (by decide) ?_
      obtain ⟨hi10, hf⟩ := gd_s hf
      obtain ⟨w11, ew11⟩ : ∃ z : Nat → Int32, z = (upd m_isKept a1.toNatClampNeg (vp_nar .boolean (1 : Int32))) := ⟨_, rfl⟩
      have hf := lt_s_ hf w11 ew11
      refine r_zast C0 hw 13 1 rfl rfl hi10 dX7_keep_45 (ws' := List.flatten [pMo κ qm w7 m_tape m_taped m_fault m_broken m_brokenAt m_spot m_here m_token m_value m_ends m_letters m_moments m_stepsAt m_steps m_latest m_matrix m_sides m_tried m_answers m_rowOf m_whole m_shares w11 m_lanes m_lengths m_cells m_torn]) (by subst ew11; rfl) (fun H locs hw => ?_)
      refine lv_iload_n hx hb dX7_keep_46 rfl (lv_at hl 0 rfl) ?_
      obtain ⟨rfl, rfl, rfl⟩ := e3_ hf
      exact r_iret C0 hw trivial dX7_keep_47
    refine lv_if_eq (tgt := 25) hx hb dX7_keep_18 (by decide) (fun hc14 => ?_) (fun hc14 => ?_)
    · have hf := if_t hc14 hf
      refine lv_iconst (v := 0) hx hb dX7_keep_25 (by decide) ?_
      exact hj13 (0 : Int32) H locs ls hw (lv_sub hl [0, 1] rfl)  hf
    · have hf := if_f hc14 hf
      refine lv_iconst (v := 1) hx hb dX7_keep_21 (by decide) ?_
      refine lv_goto (tgt := 26) hx hb dX7_keep_22 (by decide) ?_
      exact hj13 (1 : Int32) H locs ls hw (lv_sub hl [0, 1] rfl)  hf
  · have hf := if_t hc4 hf
    refine lv_iconst (v := -1) hx hb dX7_keep_10 (by decide) ?_
    obtain ⟨rfl, rfl, rfl⟩ := e3_ hf
    exact r_iret C0 hw trivial dX7_keep_11
def FMo_back (m_state m_moments m_stepsAt : Nat → Int32) (m_steps m_latest : Int32) (m_isKept : Nat → Int32) (a1 : Int32) : Option (Int32 × (Nat → Int32) × (Nat → Int32) × (Nat → Int32) × Int32 × Int32) :=
  b1_ (FMo_in (a1.toInt64) (0 : Int64) (1 : Int64)) fun r1 =>
  if r1 = 0 then
    some ((-1 : Int32), m_state, m_moments, m_stepsAt, m_steps, m_latest)
  else
    gd_ a1 2 <|
    if (m_isKept a1.toNatClampNeg) = 0 then
      some ((-2 : Int32), m_state, m_moments, m_stepsAt, m_steps, m_latest)
    else
      b1_ (FMo_copies m_state (((79 : Int32) * a1) + (79 : Int32)) (0 : Int32)) fun w7 =>
      b5_ (FMo_begins w7 m_moments m_stepsAt m_steps) fun r10 w11 w12 w13 w14 =>
      b1_ (FMo_joints w7) fun r17 =>
      some (r17, w7, w11, w12, w13, w14)
set_option maxHeartbeats 4000000 in
set_option maxRecDepth 100000 in
theorem cMo_back (l : Launch) (D : va_G) (κ : Nat → ClassId) (qm : Nat → Nat) (m_state m_tape : Nat → Int32) (m_taped m_fault m_broken m_brokenAt m_spot m_here m_token m_value : Int32) (m_ends m_letters m_moments m_stepsAt : Nat → Int32) (m_steps m_latest : Int32) (m_matrix m_sides m_tried m_answers : Nat → Int64) (m_rowOf : Nat → Int32) (m_whole : Int64) (m_shares m_isKept m_lanes m_lengths m_cells : Nat → Int32) (m_torn a1 zr : Int32) (z1 z2 z3 : Nat → Int32) (z4 z5 : Int32) (hf : FMo_back m_state m_moments m_stepsAt m_steps m_latest m_isKept a1 = some (zr, z1, z2, z3, z4, z5)) : mI_ l yX7_back (Cond.code yX7_back cX7_back 2 (some .int) :: uw) ({ frames := 3, cells := 0, slots := 0, locals := 71 } : Room) D (tys0 κ) [.ref (qm 0), .int a1] (List.flatten [pMo κ qm m_state m_tape m_taped m_fault m_broken m_brokenAt m_spot m_here m_token m_value m_ends m_letters m_moments m_stepsAt m_steps m_latest m_matrix m_sides m_tried m_answers m_rowOf m_whole m_shares m_isKept m_lanes m_lengths m_cells m_torn]) nT_ zr (List.flatten [pMo κ qm z1 m_tape m_taped m_fault m_broken m_brokenAt m_spot m_here m_token m_value m_ends m_letters z2 z3 z4 z5 m_matrix m_sides m_tried m_answers m_rowOf m_whole m_shares m_isKept m_lanes m_lengths m_cells m_torn]) := by
  unfold FMo_back at hf
  refine mI_of (by decide) (Nat.le_of_ble_eq_true rfl) ?_
  intro p e s m below meth c A ls H locs C0 hw hl
  obtain ⟨hx, hb, -, hml, hown, hts, -, -⟩ := id C0
  have hl : lv_has ls 2 [(0, .ref (qm 0)), (1, .int a1)] := hl
  refine lv_iload_n hx hb dX7_back_0 rfl (lv_at hl 1 rfl) ?_
  refine lv_i2l hx hb dX7_back_1 rfl ?_
  refine lv_lconst (v := 0) hx hb dX7_back_2 (by decide) ?_
  refine lv_lconst (v := 1) hx hb dX7_back_3 (by decide) ?_
  obtain ⟨r1, hk2, hf⟩ := b1_s hf
  refine rs_i (As := [.long (a1.toInt64), .long (0 : Int64), .long (1 : Int64)]) (rest := []) (bs' := [pMo κ qm m_state m_tape m_taped m_fault m_broken m_brokenAt m_spot m_here m_token m_value m_ends m_letters m_moments m_stepsAt m_steps m_latest m_matrix m_sides m_tried m_answers m_rowOf m_whole m_shares m_isKept m_lanes m_lengths m_cells m_torn]) C0 hw (cMo_in l D κ (a1.toInt64) (0 : Int64) (1 : Int64) r1 hk2) cs_X7_66 ⟨rfl, rfl, Nat.le_of_ble_eq_true rfl, Nat.le_of_ble_eq_true rfl⟩ ⟨Nat.zero_le _, Nat.zero_le _⟩ [] [0] [0] rfl rfl rfl rfl (by decide) rfl rfl rfl hl.1 (by simp only [List.map, List.sum_cons, List.sum_nil, Value.category]; decide) dX7_back_4 (fun H locs hw hn3 => ?_)
  refine lv_if_ne (tgt := 12) hx hb dX7_back_7 (by decide) (fun hc4 => ?_) (fun hc4 => ?_)
  · have hf := if_f hc4 hf
    refine lv_aload_n hx hb dX7_back_12 rfl (lv_at hl 0 rfl) ?_
    refine r_get C0 hw 0 23 (v := .ref (qm 13)) rfl rfl inX7 (by decide) lk_X7_51 rfl dX7_back_13 ?_
    refine lv_iload_n hx hb dX7_back_16 rfl (lv_at hl 1 rfl) ?_
    obtain ⟨hi5, hf⟩ := gd_s hf
    refine r_zald C0 hw 13 1 rfl rfl hi5 dX7_back_17 ?_
    refine lv_if_ne (tgt := 24) hx hb dX7_back_18 (by decide) (fun hc6 => ?_) (fun hc6 => ?_)
    · have hf := if_f hc6 hf
      refine lv_aload_n hx hb dX7_back_24 rfl (lv_at hl 0 rfl) ?_
      refine lv_bipush (v := 79) hx hb dX7_back_25 (by decide) ?_
      refine lv_iload_n hx hb dX7_back_27 rfl (lv_at hl 1 rfl) ?_
      refine lv_imul hx hb dX7_back_28 ?_
      refine lv_bipush (v := 79) hx hb dX7_back_29 (by decide) ?_
      refine lv_iadd hx hb dX7_back_31 ?_
      refine lv_iconst (v := 0) hx hb dX7_back_32 (by decide) ?_
      obtain ⟨w7, hk8, hf⟩ := b1_s hf
      refine rv_v (vq := (RX7, TX7, 28)) (As := [.int (((79 : Int32) * a1) + (79 : Int32)), .int (0 : Int32)]) (rest := []) (bs' := [pMo κ qm w7 m_tape m_taped m_fault m_broken m_brokenAt m_spot m_here m_token m_value m_ends m_letters m_moments m_stepsAt m_steps m_latest m_matrix m_sides m_tried m_answers m_rowOf m_whole m_shares m_isKept m_lanes m_lengths m_cells m_torn]) C0 hw (cMo_copies l D κ qm m_state m_tape m_taped m_fault m_broken m_brokenAt m_spot m_here m_token m_value m_ends m_letters m_moments m_stepsAt m_steps m_latest m_matrix m_sides m_tried m_answers m_rowOf m_whole m_shares m_isKept m_lanes m_lengths m_cells m_torn (((79 : Int32) * a1) + (79 : Int32)) (0 : Int32) w7 hk8) cv_RX7_145 ⟨rfl, rfl, Nat.le_of_ble_eq_true rfl, Nat.le_of_ble_eq_true rfl⟩ ⟨Nat.zero_le _, Nat.zero_le _⟩ [0] [] [0] rfl rfl rfl rfl (by decide) rfl rfl rfl rfl rfl hl.1 (by simp only [List.map, List.sum_cons, List.sum_nil, Value.category]; decide) dX7_back_33 (fun H locs hw => ?_)
      refine lv_aload_n hx hb dX7_back_36 rfl (lv_at hl 0 rfl) ?_
      obtain ⟨r10, w11, w12, w13, w14, hk15, hf⟩ := b5_s hf
      refine rv_i (vq := (RX7, TX7, 28)) (As := []) (rest := []) (bs' := [pMo κ qm w7 m_tape m_taped m_fault m_broken m_brokenAt m_spot m_here m_token m_value m_ends m_letters w11 w12 w13 w14 m_matrix m_sides m_tried m_answers m_rowOf m_whole m_shares m_isKept m_lanes m_lengths m_cells m_torn]) C0 hw (cMo_begins l D κ qm w7 m_tape m_taped m_fault m_broken m_brokenAt m_spot m_here m_token m_value m_ends m_letters m_moments m_stepsAt m_steps m_latest m_matrix m_sides m_tried m_answers m_rowOf m_whole m_shares m_isKept m_lanes m_lengths m_cells m_torn r10 w11 w12 w13 w14 hk15) cv_RX7_149 ⟨rfl, rfl, Nat.le_of_ble_eq_true rfl, Nat.le_of_ble_eq_true rfl⟩ ⟨Nat.zero_le _, Nat.zero_le _⟩ [0] [] [0] rfl rfl rfl rfl (by decide) rfl rfl rfl rfl rfl hl.1 (by simp only [List.map, List.sum_cons, List.sum_nil, Value.category]; decide) dX7_back_37 (fun H locs hw hn16 => ?_)
      refine lv_pop hx hb dX7_back_40 rfl ?_
      refine lv_aload_n hx hb dX7_back_41 rfl (lv_at hl 0 rfl) ?_
      obtain ⟨r17, hk18, hf⟩ := b1_s hf
      refine rv_i (vq := (RX7, TX7, 28)) (As := []) (rest := []) (bs' := [pMo κ qm w7 m_tape m_taped m_fault m_broken m_brokenAt m_spot m_here m_token m_value m_ends m_letters w11 w12 w13 w14 m_matrix m_sides m_tried m_answers m_rowOf m_whole m_shares m_isKept m_lanes m_lengths m_cells m_torn]) C0 hw (cMo_joints l D κ qm w7 m_tape m_taped m_fault m_broken m_brokenAt m_spot m_here m_token m_value m_ends m_letters w11 w12 w13 w14 m_matrix m_sides m_tried m_answers m_rowOf m_whole m_shares m_isKept m_lanes m_lengths m_cells m_torn r17 hk18) cv_RX7_183 ⟨rfl, rfl, Nat.le_of_ble_eq_true rfl, Nat.le_of_ble_eq_true rfl⟩ ⟨Nat.zero_le _, Nat.zero_le _⟩ [0] [] [0] rfl rfl rfl rfl (by decide) rfl rfl rfl rfl rfl hl.1 (by simp only [List.map, List.sum_cons, List.sum_nil, Value.category]; decide) dX7_back_42 (fun H locs hw hn19 => ?_)
      obtain ⟨rfl, rfl, rfl, rfl, rfl, rfl⟩ := e6_ hf
      exact r_iret C0 hw trivial dX7_back_45
    · have hf := if_t hc6 hf
      refine lv_bipush (v := -2) hx hb dX7_back_21 (by decide) ?_
      obtain ⟨rfl, rfl, rfl, rfl, rfl, rfl⟩ := e6_ hf
      exact r_iret C0 hw trivial dX7_back_23
  · have hf := if_t hc4 hf
    refine lv_iconst (v := -1) hx hb dX7_back_10 (by decide) ?_
    obtain ⟨rfl, rfl, rfl, rfl, rfl, rfl⟩ := e6_ hf
    exact r_iret C0 hw trivial dX7_back_11
def FMo_sheet_L56 (m_lanes m_lengths : Nat → Int32) (l1 : Int32) : Nat → Int32 → (Nat → Int32) → Option (Int32 × (Nat → Int32) × (Nat → Int32) × (Nat → Int32))
  | 0, _, _ => none
  | n + 1, l4, m_cells =>
      if (40 : Int32) ≤ l4 then
        some ((1 : Int32), m_lanes, m_lengths, m_cells)
      else
        gd_ (((40 : Int32) * l1) + l4) 160 <|
        lt_ (upd m_cells (((40 : Int32) * l1) + l4).toNatClampNeg (0 : Int32)) fun w17 =>
        lt_ (l4 + (1 : Int32)) fun v18 =>
        FMo_sheet_L56 m_lanes m_lengths l1 n v18 w17
def FMo_sheet (m_lanes m_lengths m_cells : Nat → Int32) (a1 a2 a3 : Int32) : Option (Int32 × (Nat → Int32) × (Nat → Int32) × (Nat → Int32)) :=
  b1_ (FMo_in (a1.toInt64) (0 : Int64) (3 : Int64)) fun r1 =>
  if r1 = 0 then
    some ((-1 : Int32), m_lanes, m_lengths, m_cells)
  else
    b1_ (FMo_in (a2.toInt64) (0 : Int64) (2 : Int64)) fun r5 =>
    if r5 = 0 then
      some ((-1 : Int32), m_lanes, m_lengths, m_cells)
    else
      if a3 ≤ (40 : Int32) then
        if 0 ≤ a3 then
          gd_ a1 4 <|
          lt_ (upd m_lanes a1.toNatClampNeg a2) fun w12 =>
          gd_ a1 4 <|
          lt_ (upd m_lengths a1.toNatClampNeg a3) fun w14 =>
          FMo_sheet_L56 w12 w14 a1 1000 (0 : Int32) m_cells
        else
          some ((-14 : Int32), m_lanes, m_lengths, m_cells)
      else
        some ((-1 : Int32), m_lanes, m_lengths, m_cells)
set_option maxHeartbeats 4000000 in
set_option maxRecDepth 100000 in
theorem wMo_sheet_L56 {p : Program} {l : Launch} {e : Env} {s : State} {m : MethodId} {args : Array Value} {below : List Frame} {meth : Method} {c : Code} {A : Nat → Prop} {D : va_G} {κ : Nat → ClassId} (C0 : cx_ p s m meth c args cX7_sheet RX7 (some .int) 5 A) (qm : Nat → Nat) (m_state m_tape : Nat → Int32) (m_taped m_fault m_broken m_brokenAt m_spot m_here m_token m_value : Int32) (m_ends m_letters m_moments m_stepsAt : Nat → Int32) (m_steps m_latest : Int32) (m_matrix m_sides m_tried m_answers : Nat → Int64) (m_rowOf : Nat → Int32) (m_whole : Int64) (m_shares m_isKept m_lanes m_lengths : Nat → Int32) (m_torn l1 : Int32) (zr : Int32) (z1 z2 z3 : Nat → Int32) : ∀ (n : Nat) (l4 : Int32) (m_cells : Nat → Int32) (H : Heap) (locs : List Loc) (ls : Array Slot), wd_ D (tys0 κ) A s (List.flatten [pMo κ qm m_state m_tape m_taped m_fault m_broken m_brokenAt m_spot m_here m_token m_value m_ends m_letters m_moments m_stepsAt m_steps m_latest m_matrix m_sides m_tried m_answers m_rowOf m_whole m_shares m_isKept m_lanes m_lengths m_cells m_torn]) H locs → lv_has ls 5 [(0, .ref (qm 0)), (1, .int l1), (4, .int l4)] → FMo_sheet_L56 m_lanes m_lengths l1 n l4 m_cells = some (zr, z1, z2, z3) → W p l e ({ frames := 1, cells := 0, slots := 0, locals := 25 } : Room) s m args below meth c H locs 0 0 (qI_ D (tys0 κ) A nT_ zr (List.flatten [pMo κ qm m_state m_tape m_taped m_fault m_broken m_brokenAt m_spot m_here m_token m_value m_ends m_letters m_moments m_stepsAt m_steps m_latest m_matrix m_sides m_tried m_answers m_rowOf m_whole m_shares m_isKept z1 z2 z3 m_torn]) below args s) (F0 m 56 ls []) := by
  obtain ⟨hx, hb, -, hml, hown, hts, -, -⟩ := id C0
  intro n
  induction n with
  | zero =>
    intro l4 m_cells H locs ls hw hl  hf
    cases hf
  | succ n ih =>
    intro l4 m_cells H locs ls hw hl  hf
    rw [FMo_sheet_L56.eq_2] at hf
    refine lv_iload hx hb dX7_sheet_56 (lv_at hl 2 rfl) ?_
    refine lv_bipush (v := 40) hx hb dX7_sheet_58 (by decide) ?_
    refine lv_icmp_ge (tgt := 82) hx hb dX7_sheet_60 (by decide) (fun hc15 => ?_) (fun hc15 => ?_)
    · have hf := if_t hc15 hf
      refine lv_iconst (v := 1) hx hb dX7_sheet_82 (by decide) ?_
      obtain ⟨rfl, rfl, rfl, rfl⟩ := e4_ hf
      exact r_iret C0 hw trivial dX7_sheet_83
    · have hf := if_f hc15 hf
      refine lv_aload_n hx hb dX7_sheet_63 rfl (lv_at hl 0 rfl) ?_
      refine r_get C0 hw 0 26 (v := .ref (qm 16)) rfl rfl inX7 (by decide) lk_X7_61 rfl dX7_sheet_64 ?_
      refine lv_bipush (v := 40) hx hb dX7_sheet_67 (by decide) ?_
      refine lv_iload_n hx hb dX7_sheet_69 rfl (lv_at hl 1 rfl) ?_
      refine lv_imul hx hb dX7_sheet_70 ?_
      refine lv_iload hx hb dX7_sheet_71 (lv_at hl 2 rfl) ?_
      refine lv_iadd hx hb dX7_sheet_73 ?_
      refine lv_iconst (v := 0) hx hb dX7_sheet_74 (by decide) ?_
      obtain ⟨hi16, hf⟩ := gd_s hf
      obtain ⟨w17, ew17⟩ : ∃ z : Nat → Int32, z = (upd m_cells (((40 : Int32) * l1) + l4).toNatClampNeg (0 : Int32)) := ⟨_, rfl⟩
      have hf := lt_s_ hf w17 ew17
      refine r_iast C0 hw 16 0 rfl rfl hi16 dX7_sheet_75 (ws' := List.flatten [pMo κ qm m_state m_tape m_taped m_fault m_broken m_brokenAt m_spot m_here m_token m_value m_ends m_letters m_moments m_stepsAt m_steps m_latest m_matrix m_sides m_tried m_answers m_rowOf m_whole m_shares m_isKept m_lanes m_lengths w17 m_torn]) (by subst ew17; rfl) (fun H locs hw => ?_)
      obtain ⟨v18, ev18⟩ : ∃ z : Int32, z = (l4 + (1 : Int32)) := ⟨_, rfl⟩
      have hf := lt_s_ hf v18 ev18
      refine lv_iinc (v := v18) (lv' := [(4, .int v18), (0, .ref (qm 0)), (1, .int l1)]) hx hb dX7_sheet_76 hl (k := 2) rfl (by rw [ev18]; rfl) (by decide) rfl (fun ls hl => ?_)
      refine lv_goto (tgt := 56) hx hb dX7_sheet_79 (by decide) ?_
      exact ih v18 w17 H locs ls hw (lv_sub hl [1, 2, 0] rfl)  hf
set_option maxHeartbeats 4000000 in
set_option maxRecDepth 100000 in
theorem cMo_sheet (l : Launch) (D : va_G) (κ : Nat → ClassId) (qm : Nat → Nat) (m_state m_tape : Nat → Int32) (m_taped m_fault m_broken m_brokenAt m_spot m_here m_token m_value : Int32) (m_ends m_letters m_moments m_stepsAt : Nat → Int32) (m_steps m_latest : Int32) (m_matrix m_sides m_tried m_answers : Nat → Int64) (m_rowOf : Nat → Int32) (m_whole : Int64) (m_shares m_isKept m_lanes m_lengths m_cells : Nat → Int32) (m_torn a1 a2 a3 zr : Int32) (z1 z2 z3 : Nat → Int32) (hf : FMo_sheet m_lanes m_lengths m_cells a1 a2 a3 = some (zr, z1, z2, z3)) : mI_ l yX7_sheet (Cond.code yX7_sheet cX7_sheet 5 (some .int) :: uw) ({ frames := 1, cells := 0, slots := 0, locals := 25 } : Room) D (tys0 κ) [.ref (qm 0), .int a1, .int a2, .int a3] (List.flatten [pMo κ qm m_state m_tape m_taped m_fault m_broken m_brokenAt m_spot m_here m_token m_value m_ends m_letters m_moments m_stepsAt m_steps m_latest m_matrix m_sides m_tried m_answers m_rowOf m_whole m_shares m_isKept m_lanes m_lengths m_cells m_torn]) nT_ zr (List.flatten [pMo κ qm m_state m_tape m_taped m_fault m_broken m_brokenAt m_spot m_here m_token m_value m_ends m_letters m_moments m_stepsAt m_steps m_latest m_matrix m_sides m_tried m_answers m_rowOf m_whole m_shares m_isKept z1 z2 z3 m_torn]) := by
  unfold FMo_sheet at hf
  refine mI_of (by decide) (Nat.le_of_ble_eq_true rfl) ?_
  intro p e s m below meth c A ls H locs C0 hw hl
  obtain ⟨hx, hb, -, hml, hown, hts, -, -⟩ := id C0
  have hl : lv_has ls 5 [(0, .ref (qm 0)), (1, .int a1), (2, .int a2), (3, .int a3)] := hl
  refine lv_iload_n hx hb dX7_sheet_0 rfl (lv_at hl 1 rfl) ?_
  refine lv_i2l hx hb dX7_sheet_1 rfl ?_
  refine lv_lconst (v := 0) hx hb dX7_sheet_2 (by decide) ?_
  refine lv_ldc2 (v := 3) hx hb hown (hts _ kl_X7_249) dX7_sheet_3 ?_
  obtain ⟨r1, hk2, hf⟩ := b1_s hf
  refine rs_i (As := [.long (a1.toInt64), .long (0 : Int64), .long (3 : Int64)]) (rest := []) (bs' := [pMo κ qm m_state m_tape m_taped m_fault m_broken m_brokenAt m_spot m_here m_token m_value m_ends m_letters m_moments m_stepsAt m_steps m_latest m_matrix m_sides m_tried m_answers m_rowOf m_whole m_shares m_isKept m_lanes m_lengths m_cells m_torn]) C0 hw (cMo_in l D κ (a1.toInt64) (0 : Int64) (3 : Int64) r1 hk2) cs_X7_66 ⟨rfl, rfl, Nat.le_of_ble_eq_true rfl, Nat.le_of_ble_eq_true rfl⟩ ⟨Nat.zero_le _, Nat.zero_le _⟩ [] [0] [0] rfl rfl rfl rfl (by decide) rfl rfl rfl hl.1 (by simp only [List.map, List.sum_cons, List.sum_nil, Value.category]; decide) dX7_sheet_6 (fun H locs hw hn3 => ?_)
  refine lv_if_eq (tgt := 30) hx hb dX7_sheet_9 (by decide) (fun hc4 => ?_) (fun hc4 => ?_)
  · have hf := if_t hc4 hf
    refine lv_iconst (v := -1) hx hb dX7_sheet_30 (by decide) ?_
    obtain ⟨rfl, rfl, rfl, rfl⟩ := e4_ hf
    exact r_iret C0 hw trivial dX7_sheet_31
  · have hf := if_f hc4 hf
    refine lv_iload_n hx hb dX7_sheet_12 rfl (lv_at hl 2 rfl) ?_
    refine lv_i2l hx hb dX7_sheet_13 rfl ?_
    refine lv_lconst (v := 0) hx hb dX7_sheet_14 (by decide) ?_
    refine lv_ldc2 (v := 2) hx hb hown (hts _ kl_X7_222) dX7_sheet_15 ?_
    obtain ⟨r5, hk6, hf⟩ := b1_s hf
    refine rs_i (As := [.long (a2.toInt64), .long (0 : Int64), .long (2 : Int64)]) (rest := []) (bs' := [pMo κ qm m_state m_tape m_taped m_fault m_broken m_brokenAt m_spot m_here m_token m_value m_ends m_letters m_moments m_stepsAt m_steps m_latest m_matrix m_sides m_tried m_answers m_rowOf m_whole m_shares m_isKept m_lanes m_lengths m_cells m_torn]) C0 hw (cMo_in l D κ (a2.toInt64) (0 : Int64) (2 : Int64) r5 hk6) cs_X7_66 ⟨rfl, rfl, Nat.le_of_ble_eq_true rfl, Nat.le_of_ble_eq_true rfl⟩ ⟨Nat.zero_le _, Nat.zero_le _⟩ [] [0] [0] rfl rfl rfl rfl (by decide) rfl rfl rfl hl.1 (by simp only [List.map, List.sum_cons, List.sum_nil, Value.category]; decide) dX7_sheet_18 (fun H locs hw hn7 => ?_)
    refine lv_if_eq (tgt := 30) hx hb dX7_sheet_21 (by decide) (fun hc8 => ?_) (fun hc8 => ?_)
    · have hf := if_t hc8 hf
      refine lv_iconst (v := -1) hx hb dX7_sheet_30 (by decide) ?_
      obtain ⟨rfl, rfl, rfl, rfl⟩ := e4_ hf
      exact r_iret C0 hw trivial dX7_sheet_31
    · have hf := if_f hc8 hf
      refine lv_iload_n hx hb dX7_sheet_24 rfl (lv_at hl 3 rfl) ?_
      refine lv_bipush (v := 40) hx hb dX7_sheet_25 (by decide) ?_
      refine lv_icmp_le (tgt := 32) hx hb dX7_sheet_27 (by decide) (fun hc9 => ?_) (fun hc9 => ?_)
      · have hf := if_t hc9 hf
        refine lv_iload_n hx hb dX7_sheet_32 rfl (lv_at hl 3 rfl) ?_
        refine lv_if_ge (tgt := 39) hx hb dX7_sheet_33 (by decide) (fun hc10 => ?_) (fun hc10 => ?_)
        · have hf := if_t hc10 hf
          refine lv_aload_n hx hb dX7_sheet_39 rfl (lv_at hl 0 rfl) ?_
          refine r_get C0 hw 0 24 (v := .ref (qm 14)) rfl rfl inX7 (by decide) lk_X7_55 rfl dX7_sheet_40 ?_
          refine lv_iload_n hx hb dX7_sheet_43 rfl (lv_at hl 1 rfl) ?_
          refine lv_iload_n hx hb dX7_sheet_44 rfl (lv_at hl 2 rfl) ?_
          obtain ⟨hi11, hf⟩ := gd_s hf
          obtain ⟨w12, ew12⟩ : ∃ z : Nat → Int32, z = (upd m_lanes a1.toNatClampNeg a2) := ⟨_, rfl⟩
          have hf := lt_s_ hf w12 ew12
          refine r_iast C0 hw 14 0 rfl rfl hi11 dX7_sheet_45 (ws' := List.flatten [pMo κ qm m_state m_tape m_taped m_fault m_broken m_brokenAt m_spot m_here m_token m_value m_ends m_letters m_moments m_stepsAt m_steps m_latest m_matrix m_sides m_tried m_answers m_rowOf m_whole m_shares m_isKept w12 m_lengths m_cells m_torn]) (by subst ew12; rfl) (fun H locs hw => ?_)
          refine lv_aload_n hx hb dX7_sheet_46 rfl (lv_at hl 0 rfl) ?_
          refine r_get C0 hw 0 25 (v := .ref (qm 15)) rfl rfl inX7 (by decide) lk_X7_58 rfl dX7_sheet_47 ?_
          refine lv_iload_n hx hb dX7_sheet_50 rfl (lv_at hl 1 rfl) ?_
          refine lv_iload_n hx hb dX7_sheet_51 rfl (lv_at hl 3 rfl) ?_
          obtain ⟨hi13, hf⟩ := gd_s hf
          obtain ⟨w14, ew14⟩ : ∃ z : Nat → Int32, z = (upd m_lengths a1.toNatClampNeg a3) := ⟨_, rfl⟩
          have hf := lt_s_ hf w14 ew14
          refine r_iast C0 hw 15 0 rfl rfl hi13 dX7_sheet_52 (ws' := List.flatten [pMo κ qm m_state m_tape m_taped m_fault m_broken m_brokenAt m_spot m_here m_token m_value m_ends m_letters m_moments m_stepsAt m_steps m_latest m_matrix m_sides m_tried m_answers m_rowOf m_whole m_shares m_isKept w12 w14 m_cells m_torn]) (by subst ew14; rfl) (fun H locs hw => ?_)
          refine lv_iconst (v := 0) hx hb dX7_sheet_53 (by decide) ?_
          refine lv_istore (lv' := [(4, .int (0 : Int32)), (0, .ref (qm 0)), (1, .int a1), (2, .int a2), (3, .int a3)]) hx hb dX7_sheet_54 hl (by decide) rfl (fun ls hl => ?_)
          exact wMo_sheet_L56 C0 qm m_state m_tape m_taped m_fault m_broken m_brokenAt m_spot m_here m_token m_value m_ends m_letters m_moments m_stepsAt m_steps m_latest m_matrix m_sides m_tried m_answers m_rowOf m_whole m_shares m_isKept w12 w14 m_torn a1 zr z1 z2 z3 1000 (0 : Int32) m_cells H locs ls hw (lv_sub hl [1, 2, 0] rfl)  hf
        · have hf := if_f hc10 hf
          refine lv_bipush (v := -14) hx hb dX7_sheet_36 (by decide) ?_
          obtain ⟨rfl, rfl, rfl, rfl⟩ := e4_ hf
          exact r_iret C0 hw trivial dX7_sheet_38
      · have hf := if_f hc9 hf
        refine lv_iconst (v := -1) hx hb dX7_sheet_30 (by decide) ?_
        obtain ⟨rfl, rfl, rfl, rfl⟩ := e4_ hf
        exact r_iret C0 hw trivial dX7_sheet_31
def FMo_lay (m_lanes m_lengths m_cells : Nat → Int32) (a1 a2 a3 : Int32) : Option (Int32 × (Nat → Int32)) :=
  b1_ (FMo_in (a1.toInt64) (0 : Int64) (3 : Int64)) fun r1 =>
  if r1 = 0 then
    some ((-1 : Int32), m_cells)
  else
    gd_ a1 4 <|
    if (m_lanes a1.toNatClampNeg) = (-4 : Int32) then
      some ((-11 : Int32), m_cells)
    else
      gd_ a1 4 <|
      b1_ (FMo_in (a2.toInt64) (0 : Int64) (((m_lengths a1.toNatClampNeg) - (1 : Int32)).toInt64)) fun r8 =>
      if r8 = 0 then
        some ((-12 : Int32), m_cells)
      else
        gd_ a1 4 <|
        if (m_lanes a1.toNatClampNeg) = 0 then
          gd_ (((40 : Int32) * a1) + a2) 160 <|
          lt_ (upd m_cells (((40 : Int32) * a1) + a2).toNatClampNeg ((a3 <<< ((24 : Int32) &&& 31)) >>> ((24 : Int32) &&& 31))) fun w21 =>
          some ((1 : Int32), w21)
        else
          gd_ a1 4 <|
          if (m_lanes a1.toNatClampNeg) = (1 : Int32) then
            gd_ (((40 : Int32) * a1) + a2) 160 <|
            lt_ (upd m_cells (((40 : Int32) * a1) + a2).toNatClampNeg ((a3 <<< ((16 : Int32) &&& 31)) >>> ((16 : Int32) &&& 31))) fun w19 =>
            some ((1 : Int32), w19)
          else
            gd_ (((40 : Int32) * a1) + a2) 160 <|
            lt_ (upd m_cells (((40 : Int32) * a1) + a2).toNatClampNeg a3) fun w17 =>
            some ((1 : Int32), w17)
set_option maxHeartbeats 4000000 in
set_option maxRecDepth 100000 in
theorem cMo_lay (l : Launch) (D : va_G) (κ : Nat → ClassId) (qm : Nat → Nat) (m_state m_tape : Nat → Int32) (m_taped m_fault m_broken m_brokenAt m_spot m_here m_token m_value : Int32) (m_ends m_letters m_moments m_stepsAt : Nat → Int32) (m_steps m_latest : Int32) (m_matrix m_sides m_tried m_answers : Nat → Int64) (m_rowOf : Nat → Int32) (m_whole : Int64) (m_shares m_isKept m_lanes m_lengths m_cells : Nat → Int32) (m_torn a1 a2 a3 zr : Int32) (z1 : Nat → Int32) (hf : FMo_lay m_lanes m_lengths m_cells a1 a2 a3 = some (zr, z1)) : mI_ l yX7_lay (Cond.code yX7_lay cX7_lay 4 (some .int) :: uw) ({ frames := 1, cells := 0, slots := 0, locals := 25 } : Room) D (tys0 κ) [.ref (qm 0), .int a1, .int a2, .int a3] (List.flatten [pMo κ qm m_state m_tape m_taped m_fault m_broken m_brokenAt m_spot m_here m_token m_value m_ends m_letters m_moments m_stepsAt m_steps m_latest m_matrix m_sides m_tried m_answers m_rowOf m_whole m_shares m_isKept m_lanes m_lengths m_cells m_torn]) nT_ zr (List.flatten [pMo κ qm m_state m_tape m_taped m_fault m_broken m_brokenAt m_spot m_here m_token m_value m_ends m_letters m_moments m_stepsAt m_steps m_latest m_matrix m_sides m_tried m_answers m_rowOf m_whole m_shares m_isKept m_lanes m_lengths z1 m_torn]) := by
  unfold FMo_lay at hf
  refine mI_of (by decide) (Nat.le_of_ble_eq_true rfl) ?_
  intro p e s m below meth c A ls H locs C0 hw hl
  obtain ⟨hx, hb, -, hml, hown, hts, -, -⟩ := id C0
  have hl : lv_has ls 4 [(0, .ref (qm 0)), (1, .int a1), (2, .int a2), (3, .int a3)] := hl
  refine lv_iload_n hx hb dX7_lay_0 rfl (lv_at hl 1 rfl) ?_
  refine lv_i2l hx hb dX7_lay_1 rfl ?_
  refine lv_lconst (v := 0) hx hb dX7_lay_2 (by decide) ?_
  refine lv_ldc2 (v := 3) hx hb hown (hts _ kl_X7_249) dX7_lay_3 ?_
  obtain ⟨r1, hk2, hf⟩ := b1_s hf
  refine rs_i (As := [.long (a1.toInt64), .long (0 : Int64), .long (3 : Int64)]) (rest := []) (bs' := [pMo κ qm m_state m_tape m_taped m_fault m_broken m_brokenAt m_spot m_here m_token m_value m_ends m_letters m_moments m_stepsAt m_steps m_latest m_matrix m_sides m_tried m_answers m_rowOf m_whole m_shares m_isKept m_lanes m_lengths m_cells m_torn]) C0 hw (cMo_in l D κ (a1.toInt64) (0 : Int64) (3 : Int64) r1 hk2) cs_X7_66 ⟨rfl, rfl, Nat.le_of_ble_eq_true rfl, Nat.le_of_ble_eq_true rfl⟩ ⟨Nat.zero_le _, Nat.zero_le _⟩ [] [0] [0] rfl rfl rfl rfl (by decide) rfl rfl rfl hl.1 (by simp only [List.map, List.sum_cons, List.sum_nil, Value.category]; decide) dX7_lay_6 (fun H locs hw hn3 => ?_)
  refine lv_if_ne (tgt := 14) hx hb dX7_lay_9 (by decide) (fun hc4 => ?_) (fun hc4 => ?_)
  · have hf := if_f hc4 hf
    refine lv_aload_n hx hb dX7_lay_14 rfl (lv_at hl 0 rfl) ?_
    refine r_get C0 hw 0 24 (v := .ref (qm 14)) rfl rfl inX7 (by decide) lk_X7_55 rfl dX7_lay_15 ?_
    refine lv_iload_n hx hb dX7_lay_18 rfl (lv_at hl 1 rfl) ?_
    obtain ⟨hi5, hf⟩ := gd_s hf
    refine r_iald C0 hw 14 0 rfl rfl hi5 dX7_lay_19 ?_
    refine lv_bipush (v := -4) hx hb dX7_lay_20 (by decide) ?_
    refine lv_icmp_ne (tgt := 28) hx hb dX7_lay_22 (by decide) (fun hc6 => ?_) (fun hc6 => ?_)
    · have hf := if_f hc6 hf
      refine lv_iload_n hx hb dX7_lay_28 rfl (lv_at hl 2 rfl) ?_
      refine lv_i2l hx hb dX7_lay_29 rfl ?_
      refine lv_lconst (v := 0) hx hb dX7_lay_30 (by decide) ?_
      refine lv_aload_n hx hb dX7_lay_31 rfl (lv_at hl 0 rfl) ?_
      refine r_get C0 hw 0 25 (v := .ref (qm 15)) rfl rfl inX7 (by decide) lk_X7_58 rfl dX7_lay_32 ?_
      refine lv_iload_n hx hb dX7_lay_35 rfl (lv_at hl 1 rfl) ?_
      obtain ⟨hi7, hf⟩ := gd_s hf
      refine r_iald C0 hw 15 0 rfl rfl hi7 dX7_lay_36 ?_
      refine lv_iconst (v := 1) hx hb dX7_lay_37 (by decide) ?_
      refine lv_isub hx hb dX7_lay_38 ?_
      refine lv_i2l hx hb dX7_lay_39 rfl ?_
      obtain ⟨r8, hk9, hf⟩ := b1_s hf
      refine rs_i (As := [.long (a2.toInt64), .long (0 : Int64), .long (((m_lengths a1.toNatClampNeg) - (1 : Int32)).toInt64)]) (rest := []) (bs' := [pMo κ qm m_state m_tape m_taped m_fault m_broken m_brokenAt m_spot m_here m_token m_value m_ends m_letters m_moments m_stepsAt m_steps m_latest m_matrix m_sides m_tried m_answers m_rowOf m_whole m_shares m_isKept m_lanes m_lengths m_cells m_torn]) C0 hw (cMo_in l D κ (a2.toInt64) (0 : Int64) (((m_lengths a1.toNatClampNeg) - (1 : Int32)).toInt64) r8 hk9) cs_X7_66 ⟨rfl, rfl, Nat.le_of_ble_eq_true rfl, Nat.le_of_ble_eq_true rfl⟩ ⟨Nat.zero_le _, Nat.zero_le _⟩ [] [0] [0] rfl rfl rfl rfl (by decide) rfl rfl rfl hl.1 (by simp only [List.map, List.sum_cons, List.sum_nil, Value.category]; decide) dX7_lay_40 (fun H locs hw hn10 => ?_)
      refine lv_if_ne (tgt := 49) hx hb dX7_lay_43 (by decide) (fun hc11 => ?_) (fun hc11 => ?_)
      · have hf := if_f hc11 hf
        refine lv_aload_n hx hb dX7_lay_49 rfl (lv_at hl 0 rfl) ?_
        refine r_get C0 hw 0 26 (v := .ref (qm 16)) rfl rfl inX7 (by decide) lk_X7_61 rfl dX7_lay_50 ?_
        refine lv_bipush (v := 40) hx hb dX7_lay_53 (by decide) ?_
        refine lv_iload_n hx hb dX7_lay_55 rfl (lv_at hl 1 rfl) ?_
        refine lv_imul hx hb dX7_lay_56 ?_
        refine lv_iload_n hx hb dX7_lay_57 rfl (lv_at hl 2 rfl) ?_
        refine lv_iadd hx hb dX7_lay_58 ?_
        refine lv_aload_n hx hb dX7_lay_59 rfl (lv_at hl 0 rfl) ?_
        refine r_get C0 hw 0 24 (v := .ref (qm 14)) rfl rfl inX7 (by decide) lk_X7_55 rfl dX7_lay_60 ?_
        refine lv_iload_n hx hb dX7_lay_63 rfl (lv_at hl 1 rfl) ?_
        obtain ⟨hi12, hf⟩ := gd_s hf
        refine r_iald C0 hw 14 0 rfl rfl hi12 dX7_lay_64 ?_
        refine lv_if_ne (tgt := 78) hx hb dX7_lay_65 (by decide) (fun hc13 => ?_) (fun hc13 => ?_)
        · have hf := if_f hc13 hf
          refine lv_aload_n hx hb dX7_lay_78 rfl (lv_at hl 0 rfl) ?_
          refine r_get C0 hw 0 24 (v := .ref (qm 14)) rfl rfl inX7 (by decide) lk_X7_55 rfl dX7_lay_79 ?_
          refine lv_iload_n hx hb dX7_lay_82 rfl (lv_at hl 1 rfl) ?_
          obtain ⟨hi14, hf⟩ := gd_s hf
          refine r_iald C0 hw 14 0 rfl rfl hi14 dX7_lay_83 ?_
          refine lv_iconst (v := 1) hx hb dX7_lay_84 (by decide) ?_
          refine lv_icmp_ne (tgt := 98) hx hb dX7_lay_85 (by decide) (fun hc15 => ?_) (fun hc15 => ?_)
          · have hf := if_f hc15 hf
            refine lv_iload_n hx hb dX7_lay_98 rfl (lv_at hl 3 rfl) ?_
            obtain ⟨hi16, hf⟩ := gd_s hf
            obtain ⟨w17, ew17⟩ : ∃ z : Nat → Int32, z = (upd m_cells (((40 : Int32) * a1) + a2).toNatClampNeg a3) := ⟨_, rfl⟩
            have hf := lt_s_ hf w17 ew17
            refine r_iast C0 hw 16 0 rfl rfl hi16 dX7_lay_99 (ws' := List.flatten [pMo κ qm m_state m_tape m_taped m_fault m_broken m_brokenAt m_spot m_here m_token m_value m_ends m_letters m_moments m_stepsAt m_steps m_latest m_matrix m_sides m_tried m_answers m_rowOf m_whole m_shares m_isKept m_lanes m_lengths w17 m_torn]) (by subst ew17; rfl) (fun H locs hw => ?_)
            refine lv_iconst (v := 1) hx hb dX7_lay_100 (by decide) ?_
            obtain ⟨rfl, rfl⟩ := e2_ hf
            exact r_iret C0 hw trivial dX7_lay_101
          · have hf := if_t hc15 hf
            refine lv_iload_n hx hb dX7_lay_88 rfl (lv_at hl 3 rfl) ?_
            refine lv_bipush (v := 16) hx hb dX7_lay_89 (by decide) ?_
            refine lv_ishl hx hb dX7_lay_91 ?_
            refine lv_bipush (v := 16) hx hb dX7_lay_92 (by decide) ?_
            refine lv_ishr hx hb dX7_lay_94 ?_
            refine lv_goto (tgt := 99) hx hb dX7_lay_95 (by decide) ?_
            obtain ⟨hi18, hf⟩ := gd_s hf
            obtain ⟨w19, ew19⟩ : ∃ z : Nat → Int32, z = (upd m_cells (((40 : Int32) * a1) + a2).toNatClampNeg ((a3 <<< ((16 : Int32) &&& 31)) >>> ((16 : Int32) &&& 31))) := ⟨_, rfl⟩
            have hf := lt_s_ hf w19 ew19
            refine r_iast C0 hw 16 0 rfl rfl hi18 dX7_lay_99 (ws' := List.flatten [pMo κ qm m_state m_tape m_taped m_fault m_broken m_brokenAt m_spot m_here m_token m_value m_ends m_letters m_moments m_stepsAt m_steps m_latest m_matrix m_sides m_tried m_answers m_rowOf m_whole m_shares m_isKept m_lanes m_lengths w19 m_torn]) (by subst ew19; rfl) (fun H locs hw => ?_)
            refine lv_iconst (v := 1) hx hb dX7_lay_100 (by decide) ?_
            obtain ⟨rfl, rfl⟩ := e2_ hf
            exact r_iret C0 hw trivial dX7_lay_101
        · have hf := if_t hc13 hf
          refine lv_iload_n hx hb dX7_lay_68 rfl (lv_at hl 3 rfl) ?_
          refine lv_bipush (v := 24) hx hb dX7_lay_69 (by decide) ?_
          refine lv_ishl hx hb dX7_lay_71 ?_
          refine lv_bipush (v := 24) hx hb dX7_lay_72 (by decide) ?_
          refine lv_ishr hx hb dX7_lay_74 ?_
          refine lv_goto (tgt := 99) hx hb dX7_lay_75 (by decide) ?_
          obtain ⟨hi20, hf⟩ := gd_s hf
          obtain ⟨w21, ew21⟩ : ∃ z : Nat → Int32, z = (upd m_cells (((40 : Int32) * a1) + a2).toNatClampNeg ((a3 <<< ((24 : Int32) &&& 31)) >>> ((24 : Int32) &&& 31))) := ⟨_, rfl⟩
          have hf := lt_s_ hf w21 ew21
          refine r_iast C0 hw 16 0 rfl rfl hi20 dX7_lay_99 (ws' := List.flatten [pMo κ qm m_state m_tape m_taped m_fault m_broken m_brokenAt m_spot m_here m_token m_value m_ends m_letters m_moments m_stepsAt m_steps m_latest m_matrix m_sides m_tried m_answers m_rowOf m_whole m_shares m_isKept m_lanes m_lengths w21 m_torn]) (by subst ew21; rfl) (fun H locs hw => ?_)
          refine lv_iconst (v := 1) hx hb dX7_lay_100 (by decide) ?_
          obtain ⟨rfl, rfl⟩ := e2_ hf
          exact r_iret C0 hw trivial dX7_lay_101
      · have hf := if_t hc11 hf
        refine lv_bipush (v := -12) hx hb dX7_lay_46 (by decide) ?_
        obtain ⟨rfl, rfl⟩ := e2_ hf
        exact r_iret C0 hw trivial dX7_lay_48
    · have hf := if_t hc6 hf
      refine lv_bipush (v := -11) hx hb dX7_lay_25 (by decide) ?_
      obtain ⟨rfl, rfl⟩ := e2_ hf
      exact r_iret C0 hw trivial dX7_lay_27
  · have hf := if_t hc4 hf
    refine lv_iconst (v := -1) hx hb dX7_lay_12 (by decide) ?_
    obtain ⟨rfl, rfl⟩ := e2_ hf
    exact r_iret C0 hw trivial dX7_lay_13
def FMo_read_L56 (m_moments m_stepsAt : Nat → Int32) (m_steps m_latest : Int32) (m_lanes m_lengths m_cells : Nat → Int32) (m_torn l1 l2 l3 l4 : Int32) (k_ : Int32 → Int32 → Int32 → (Nat → Int32) → Option (Int32 × (Nat → Int32) × (Nat → Int32) × (Nat → Int32) × Int32 × Int32 × Int32)) : Nat → Int32 → Int32 → Int32 → (Nat → Int32) → Option (Int32 × (Nat → Int32) × (Nat → Int32) × (Nat → Int32) × Int32 × Int32 × Int32)
  | 0, _, _, _, _ => none
  | n + 1, l5, l6, l7, m_state =>
      lt_ (fun (_ : Unit) =>
        k_ l5 l6 (0 : Int32) m_state : Unit → Option (Int32 × (Nat → Int32) × (Nat → Int32) × (Nat → Int32) × Int32 × Int32 × Int32)) fun j16 =>
      if ((2 : Int32) * l4) ≤ l7 then
        j16 ()
      else
        if l5 = 0 then
          lt_ ((l3.toInt64) + (l7.toInt64)) fun v20 =>
          gd_ l1 4 <|
          lt_ (fun (v22 : Int32) =>
            if v22 = 0 then
              if (l7 - l7 / (2 : Int32) * (2 : Int32)) = (1 : Int32) then
                lt_ (((40 : Int32) * l1) + (v20.toInt32)) fun v27 =>
                gd_ (v27 - (1 : Int32)) 160 <|
                gd_ v27 160 <|
                b1_ (FMo_isCouple m_state (m_cells (v27 - (1 : Int32)).toNatClampNeg) (m_cells v27.toNatClampNeg)) fun r30 =>
                if r30 = 0 then
                  b1_ (FMo_copies m_state (316 : Int32) (0 : Int32)) fun w40 =>
                  some (((-20 : Int32) - l6), w40, m_moments, m_stepsAt, m_steps, m_latest, m_torn)
                else
                  gd_ (v27 - (1 : Int32)) 160 <|
                  gd_ v27 160 <|
                  gd_ ((6 : Int32) + (m_cells (v27 - (1 : Int32)).toNatClampNeg)) 395 <|
                  lt_ (upd m_state ((6 : Int32) + (m_cells (v27 - (1 : Int32)).toNatClampNeg)).toNatClampNeg (m_cells v27.toNatClampNeg)) fun w37 =>
                  lt_ (l6 + (1 : Int32)) fun v38 =>
                  lt_ (l7 + (1 : Int32)) fun v39 =>
                  FMo_read_L56 m_moments m_stepsAt m_steps m_latest m_lanes m_lengths m_cells m_torn l1 l2 l3 l4 k_ n v22 v38 v39 w37
              else
                lt_ (l7 + (1 : Int32)) fun v26 =>
                FMo_read_L56 m_moments m_stepsAt m_steps m_latest m_lanes m_lengths m_cells m_torn l1 l2 l3 l4 k_ n v22 l6 v26 m_state
            else
              lt_ (l7 + (1 : Int32)) fun v24 =>
              FMo_read_L56 m_moments m_stepsAt m_steps m_latest m_lanes m_lengths m_cells m_torn l1 l2 l3 l4 k_ n v22 l6 v24 m_state : Int32 → Option (Int32 × (Nat → Int32) × (Nat → Int32) × (Nat → Int32) × Int32 × Int32 × Int32)) fun j43 =>
          if (m_lanes l1.toNatClampNeg) = (-4 : Int32) then
            j43 (1 : Int32)
          else
            gd_ l1 4 <|
            if (m_lanes l1.toNatClampNeg) = l2 then
              gd_ l1 4 <|
              b1_ (FMo_in v20 (0 : Int64) (((m_lengths l1.toNatClampNeg) - (1 : Int32)).toInt64)) fun r49 =>
              if r49 = 0 then
                j43 (2 : Int32)
              else
                j43 (0 : Int32)
            else
              j43 (3 : Int32)
        else
          j16 ()
def FMo_read (m_state m_moments m_stepsAt : Nat → Int32) (m_steps m_latest : Int32) (m_lanes m_lengths m_cells : Nat → Int32) (m_torn a1 a2 a3 a4 : Int32) : Option (Int32 × (Nat → Int32) × (Nat → Int32) × (Nat → Int32) × Int32 × Int32 × Int32) :=
  b1_ (FMo_in (a1.toInt64) (0 : Int64) (3 : Int64)) fun r1 =>
  if r1 = 0 then
    some ((-1 : Int32), m_state, m_moments, m_stepsAt, m_steps, m_latest, m_torn)
  else
    b1_ (FMo_in (a2.toInt64) (0 : Int64) (2 : Int64)) fun r5 =>
    if r5 = 0 then
      some ((-1 : Int32), m_state, m_moments, m_stepsAt, m_steps, m_latest, m_torn)
    else
      b1_ (FMo_in (a4.toInt64) (0 : Int64) (20 : Int64)) fun r9 =>
      if r9 = 0 then
        some ((-1 : Int32), m_state, m_moments, m_stepsAt, m_steps, m_latest, m_torn)
      else
        b1_ (FMo_copies m_state (0 : Int32) (316 : Int32)) fun w13 =>
        FMo_read_L56 m_moments m_stepsAt m_steps m_latest m_lanes m_lengths m_cells m_torn a1 a2 a3 a4 (fun (v55 : Int32) (v56 : Int32) (v57 : Int32) (w58 : Nat → Int32) =>
            if v56 ≤ 0 then
              some (v56, w58, m_moments, m_stepsAt, m_steps, m_latest, v55)
            else
              b5_ (FMo_begins w58 m_moments m_stepsAt m_steps) fun r60 w61 w62 w63 w64 =>
              some (v56, w58, w61, w62, w63, w64, v55)) 1000 (0 : Int32) (0 : Int32) (0 : Int32) w13
set_option maxHeartbeats 4000000 in
set_option maxRecDepth 100000 in
theorem wMo_read_L56 {p : Program} {l : Launch} {e : Env} {s : State} {m : MethodId} {args : Array Value} {below : List Frame} {meth : Method} {c : Code} {A : Nat → Prop} {D : va_G} {κ : Nat → ClassId} (C0 : cx_ p s m meth c args cX7_read RX7 (some .int) 11 A) (qm : Nat → Nat) (m_tape : Nat → Int32) (m_taped m_fault m_broken m_brokenAt m_spot m_here m_token m_value : Int32) (m_ends m_letters m_moments m_stepsAt : Nat → Int32) (m_steps m_latest : Int32) (m_matrix m_sides m_tried m_answers : Nat → Int64) (m_rowOf : Nat → Int32) (m_whole : Int64) (m_shares m_isKept m_lanes m_lengths m_cells : Nat → Int32) (m_torn l1 l2 l3 l4 : Int32) (zr : Int32) (z1 z2 z3 : Nat → Int32) (z4 z5 z6 : Int32) (k_ : Int32 → Int32 → Int32 → (Nat → Int32) → Option (Int32 × (Nat → Int32) × (Nat → Int32) × (Nat → Int32) × Int32 × Int32 × Int32)) (hk_ : ∀ (l5 : Int32) (l6 : Int32) (l7 : Int32) (m_state : Nat → Int32) (H : Heap) (locs : List Loc) (ls : Array Slot), wd_ D (tys0 κ) A s (List.flatten [pMo κ qm m_state m_tape m_taped m_fault m_broken m_brokenAt m_spot m_here m_token m_value m_ends m_letters m_moments m_stepsAt m_steps m_latest m_matrix m_sides m_tried m_answers m_rowOf m_whole m_shares m_isKept m_lanes m_lengths m_cells m_torn]) H locs → lv_has ls 11 [(0, .ref (qm 0)), (5, .int l5), (6, .int l6)] → k_ l5 l6 l7 m_state = some (zr, z1, z2, z3, z4, z5, z6) → W p l e ({ frames := 3, cells := 0, slots := 0, locals := 71 } : Room) s m args below meth c H locs 0 0 (qI_ D (tys0 κ) A nT_ zr (List.flatten [pMo κ qm z1 m_tape m_taped m_fault m_broken m_brokenAt m_spot m_here m_token m_value m_ends m_letters z2 z3 z4 z5 m_matrix m_sides m_tried m_answers m_rowOf m_whole m_shares m_isKept m_lanes m_lengths m_cells z6]) below args s) (F0 m 225 ls [])) : ∀ (n : Nat) (l5 : Int32) (l6 : Int32) (l7 : Int32) (m_state : Nat → Int32) (H : Heap) (locs : List Loc) (ls : Array Slot), wd_ D (tys0 κ) A s (List.flatten [pMo κ qm m_state m_tape m_taped m_fault m_broken m_brokenAt m_spot m_here m_token m_value m_ends m_letters m_moments m_stepsAt m_steps m_latest m_matrix m_sides m_tried m_answers m_rowOf m_whole m_shares m_isKept m_lanes m_lengths m_cells m_torn]) H locs → lv_has ls 11 [(0, .ref (qm 0)), (1, .int l1), (2, .int l2), (3, .int l3), (4, .int l4), (5, .int l5), (6, .int l6), (7, .int l7)] → FMo_read_L56 m_moments m_stepsAt m_steps m_latest m_lanes m_lengths m_cells m_torn l1 l2 l3 l4 k_ n l5 l6 l7 m_state = some (zr, z1, z2, z3, z4, z5, z6) → W p l e ({ frames := 3, cells := 0, slots := 0, locals := 71 } : Room) s m args below meth c H locs 0 0 (qI_ D (tys0 κ) A nT_ zr (List.flatten [pMo κ qm z1 m_tape m_taped m_fault m_broken m_brokenAt m_spot m_here m_token m_value m_ends m_letters z2 z3 z4 z5 m_matrix m_sides m_tried m_answers m_rowOf m_whole m_shares m_isKept m_lanes m_lengths m_cells z6]) below args s) (F0 m 56 ls []) := by
  obtain ⟨hx, hb, -, hml, hown, hts, -, -⟩ := id C0
  intro n
  induction n with
  | zero =>
    intro l5 l6 l7 m_state H locs ls hw hl  hf
    cases hf
  | succ n ih =>
    intro l5 l6 l7 m_state H locs ls hw hl  hf
    rw [FMo_read_L56.eq_2] at hf
    refine lv_iload hx hb dX7_read_56 (lv_at hl 7 rfl) ?_
    refine lv_iconst (v := 2) hx hb dX7_read_58 (by decide) ?_
    refine lv_iload hx hb dX7_read_59 (lv_at hl 4 rfl) ?_
    refine lv_imul hx hb dX7_read_61 ?_
    obtain ⟨j16, ej16, hf⟩ := lt_e hf
    have hj17 : ∀  (H : Heap) (locs : List Loc) (ls : Array Slot), wd_ D (tys0 κ) A s (List.flatten [pMo κ qm m_state m_tape m_taped m_fault m_broken m_brokenAt m_spot m_here m_token m_value m_ends m_letters m_moments m_stepsAt m_steps m_latest m_matrix m_sides m_tried m_answers m_rowOf m_whole m_shares m_isKept m_lanes m_lengths m_cells m_torn]) H locs → lv_has ls 11 [(0, .ref (qm 0)), (5, .int l5), (6, .int l6)] → j16 () = some (zr, z1, z2, z3, z4, z5, z6) → W p l e ({ frames := 3, cells := 0, slots := 0, locals := 71 } : Room) s m args below meth c H locs 0 0 (qI_ D (tys0 κ) A nT_ zr (List.flatten [pMo κ qm z1 m_tape m_taped m_fault m_broken m_brokenAt m_spot m_here m_token m_value m_ends m_letters z2 z3 z4 z5 m_matrix m_sides m_tried m_answers m_rowOf m_whole m_shares m_isKept m_lanes m_lengths m_cells z6]) below args s) (F0 m 225 ls []) := by
      intro  H locs ls hw hl  hf
      have hf : (k_ l5 l6 (0 : Int32) m_state) = some (zr, z1, z2, z3, z4, z5, z6) := by rw [ej16] at hf; exact hf
      exact hk_ l5 l6 (0 : Int32) m_state H locs ls hw (lv_sub hl [0, 1, 2] rfl)  hf
    refine lv_icmp_ge (tgt := 225) hx hb dX7_read_62 (by decide) (fun hc18 => ?_) (fun hc18 => ?_)
    · have hf := if_t hc18 hf
      exact hj17  H locs ls hw (lv_sub hl [0, 5, 6] rfl)  hf
    · have hf := if_f hc18 hf
      refine lv_iload hx hb dX7_read_65 (lv_at hl 5 rfl) ?_
      refine lv_if_ne (tgt := 225) hx hb dX7_read_67 (by decide) (fun hc19 => ?_) (fun hc19 => ?_)
      · have hf := if_f hc19 hf
        exact hj17  H locs ls hw (lv_sub hl [0, 5, 6] rfl)  hf
      · have hf := if_t hc19 hf
        refine lv_iload_n hx hb dX7_read_70 rfl (lv_at hl 3 rfl) ?_
        refine lv_i2l hx hb dX7_read_71 rfl ?_
        refine lv_iload hx hb dX7_read_72 (lv_at hl 7 rfl) ?_
        refine lv_i2l hx hb dX7_read_74 rfl ?_
        refine lv_ladd hx hb dX7_read_75 ?_
        refine lv_topl (fun v20 ev20 => ?_)
        have hf := lt_s_ hf v20 ev20
        refine lv_lstore (lv' := [(8, .long v20), (0, .ref (qm 0)), (1, .int l1), (2, .int l2), (3, .int l3), (4, .int l4), (5, .int l5), (6, .int l6), (7, .int l7)]) hx hb dX7_read_76 hl (by decide) rfl (fun ls hl => ?_)
        refine lv_aload_n hx hb dX7_read_78 rfl (lv_at hl 1 rfl) ?_
        refine r_get C0 hw 0 24 (v := .ref (qm 14)) rfl rfl inX7 (by decide) lk_X7_55 rfl dX7_read_79 ?_
        refine lv_iload_n hx hb dX7_read_82 rfl (lv_at hl 2 rfl) ?_
        obtain ⟨hi21, hf⟩ := gd_s hf
        refine r_iald C0 hw 14 0 rfl rfl hi21 dX7_read_83 ?_
        refine lv_bipush (v := -4) hx hb dX7_read_84 (by decide) ?_
        obtain ⟨j43, ej43, hf⟩ := lt_e hf
        have hj44 : ∀ (v22 : Int32) (H : Heap) (locs : List Loc) (ls : Array Slot), wd_ D (tys0 κ) A s (List.flatten [pMo κ qm m_state m_tape m_taped m_fault m_broken m_brokenAt m_spot m_here m_token m_value m_ends m_letters m_moments m_stepsAt m_steps m_latest m_matrix m_sides m_tried m_answers m_rowOf m_whole m_shares m_isKept m_lanes m_lengths m_cells m_torn]) H locs → lv_has ls 11 [(8, .long v20), (0, .ref (qm 0)), (1, .int l1), (2, .int l2), (3, .int l3), (4, .int l4), (6, .int l6), (7, .int l7)] → j43 v22 = some (zr, z1, z2, z3, z4, z5, z6) → W p l e ({ frames := 3, cells := 0, slots := 0, locals := 71 } : Room) s m args below meth c H locs 0 0 (qI_ D (tys0 κ) A nT_ zr (List.flatten [pMo κ qm z1 m_tape m_taped m_fault m_broken m_brokenAt m_spot m_here m_token m_value m_ends m_letters z2 z3 z4 z5 m_matrix m_sides m_tried m_answers m_rowOf m_whole m_shares m_isKept m_lanes m_lengths m_cells z6]) below args s) (F0 m 130 ls [.int v22]) := by
          intro v22 H locs ls hw hl  hf
          have hf : (if v22 = 0 then if (l7 - l7 / (2 : Int32) * (2 : Int32)) = (1 : Int32) then lt_ (((40 : Int32) * l1) + (v20.toInt32)) fun v27 => gd_ (v27 - (1 : Int32)) 160 <| gd_ v27 160 <| b1_ (FMo_isCouple m_state (m_cells (v27 - (1 : Int32)).toNatClampNeg) (m_cells v27.toNatClampNeg)) fun r30 => if r30 = 0 then b1_ (FMo_copies m_state (316 : Int32) (0 : Int32)) fun w40 => some (((-20 : Int32) - l6), w40, m_moments, m_stepsAt, m_steps, m_latest, m_torn) else gd_ (v27 - (1 : Int32)) 160 <| gd_ v27 160 <| gd_ ((6 : Int32) + (m_cells (v27 - (1 : Int32)).toNatClampNeg)) 395 <| lt_ (upd m_state ((6 : Int32) + (m_cells (v27 - (1 : Int32)).toNatClampNeg)).toNatClampNeg (m_cells v27.toNatClampNeg)) fun w37 => lt_ (l6 + (1 : Int32)) fun v38 => lt_ (l7 + (1 : Int32)) fun v39 => FMo_read_L56 m_moments m_stepsAt m_steps m_latest m_lanes m_lengths m_cells m_torn l1 l2 l3 l4 k_ n v22 v38 v39 w37 else lt_ (l7 + (1 : Int32)) fun v26 => FMo_read_L56 m_moments m_stepsAt m_steps m_latest m_lanes m_lengths m_cells m_torn l1 l2 l3 l4 k_ n v22 l6 v26 m_state else lt_ (l7 + (1 : Int32)) fun v24 => FMo_read_L56 m_moments m_stepsAt m_steps m_latest m_lanes m_lengths m_cells m_torn l1 l2 l3 l4 k_ n v22 l6 v24 m_state) = some (zr, z1, z2, z3, z4, z5, z6) := by rw [ej43] at hf; exact hf
          refine lv_istore (lv' := [(5, .int v22), (8, .long v20), (0, .ref (qm 0)), (1, .int l1), (2, .int l2), (3, .int l3), (4, .int l4), (6, .int l6), (7, .int l7)]) hx hb dX7_read_130 hl (by decide) rfl (fun ls hl => ?_)
          refine lv_iload hx hb dX7_read_132 (lv_at hl 0 rfl) ?_
          refine lv_if_ne (tgt := 219) hx hb dX7_read_134 (by decide) (fun hc23 => ?_) (fun hc23 => ?_)
          · have hf := if_f hc23 hf
            obtain ⟨v24, ev24⟩ : ∃ z : Int32, z = (l7 + (1 : Int32)) := ⟨_, rfl⟩
            have hf := lt_s_ hf v24 ev24
            refine lv_iinc (v := v24) (lv' := [(7, .int v24), (5, .int v22), (8, .long v20), (0, .ref (qm 0)), (1, .int l1), (2, .int l2), (3, .int l3), (4, .int l4), (6, .int l6)]) hx hb dX7_read_219 hl (k := 8) rfl (by rw [ev24]; rfl) (by decide) rfl (fun ls hl => ?_)
            refine lv_goto (tgt := 56) hx hb dX7_read_222 (by decide) ?_
            exact ih v22 l6 v24 m_state H locs ls hw (lv_sub hl [3, 4, 5, 6, 7, 1, 8, 0] rfl)  hf
          · have hf := if_t hc23 hf
            refine lv_iload hx hb dX7_read_137 (lv_at hl 8 rfl) ?_
            refine lv_iconst (v := 2) hx hb dX7_read_139 (by decide) ?_
            refine lv_irem hx hb dX7_read_140 (by decide) ?_
            refine lv_iconst (v := 1) hx hb dX7_read_141 (by decide) ?_
            refine lv_icmp_ne (tgt := 219) hx hb dX7_read_142 (by decide) (fun hc25 => ?_) (fun hc25 => ?_)
            · have hf := if_f hc25 hf
              obtain ⟨v26, ev26⟩ : ∃ z : Int32, z = (l7 + (1 : Int32)) := ⟨_, rfl⟩
              have hf := lt_s_ hf v26 ev26
              refine lv_iinc (v := v26) (lv' := [(7, .int v26), (5, .int v22), (8, .long v20), (0, .ref (qm 0)), (1, .int l1), (2, .int l2), (3, .int l3), (4, .int l4), (6, .int l6)]) hx hb dX7_read_219 hl (k := 8) rfl (by rw [ev26]; rfl) (by decide) rfl (fun ls hl => ?_)
              refine lv_goto (tgt := 56) hx hb dX7_read_222 (by decide) ?_
              exact ih v22 l6 v26 m_state H locs ls hw (lv_sub hl [3, 4, 5, 6, 7, 1, 8, 0] rfl)  hf
            · have hf := if_t hc25 hf
              refine lv_bipush (v := 40) hx hb dX7_read_145 (by decide) ?_
              refine lv_iload_n hx hb dX7_read_147 rfl (lv_at hl 3 rfl) ?_
              refine lv_imul hx hb dX7_read_148 ?_
              refine lv_lload hx hb dX7_read_149 (lv_at hl 1 rfl) ?_
              refine lv_l2i hx hb dX7_read_151 rfl ?_
              refine lv_iadd hx hb dX7_read_152 ?_
              refine lv_topi (fun v27 ev27 => ?_)
              have hf := lt_s_ hf v27 ev27
              refine lv_istore (lv' := [(10, .int v27), (5, .int v22), (8, .long v20), (0, .ref (qm 0)), (1, .int l1), (2, .int l2), (3, .int l3), (4, .int l4), (6, .int l6), (7, .int l7)]) hx hb dX7_read_153 hl (by decide) rfl (fun ls hl => ?_)
              refine lv_aload_n hx hb dX7_read_155 rfl (lv_at hl 3 rfl) ?_
              refine lv_aload_n hx hb dX7_read_156 rfl (lv_at hl 3 rfl) ?_
              refine r_get C0 hw 0 26 (v := .ref (qm 16)) rfl rfl inX7 (by decide) lk_X7_61 rfl dX7_read_157 ?_
              refine lv_iload hx hb dX7_read_160 (lv_at hl 0 rfl) ?_
              refine lv_iconst (v := 1) hx hb dX7_read_162 (by decide) ?_
              refine lv_isub hx hb dX7_read_163 ?_
              obtain ⟨hi28, hf⟩ := gd_s hf
              refine r_iald C0 hw 16 0 rfl rfl hi28 dX7_read_164 ?_
              refine lv_aload_n hx hb dX7_read_165 rfl (lv_at hl 3 rfl) ?_
              refine r_get C0 hw 0 26 (v := .ref (qm 16)) rfl rfl inX7 (by decide) lk_X7_61 rfl dX7_read_166 ?_
              refine lv_iload hx hb dX7_read_169 (lv_at hl 0 rfl) ?_
              obtain ⟨hi29, hf⟩ := gd_s hf
              refine r_iald C0 hw 16 0 rfl rfl hi29 dX7_read_171 ?_
              obtain ⟨r30, hk31, hf⟩ := b1_s hf
              refine rv_i (vq := (RX7, TX7, 28)) (As := [.int (m_cells (v27 - (1 : Int32)).toNatClampNeg), .int (m_cells v27.toNatClampNeg)]) (rest := []) (bs' := [pMo κ qm m_state m_tape m_taped m_fault m_broken m_brokenAt m_spot m_here m_token m_value m_ends m_letters m_moments m_stepsAt m_steps m_latest m_matrix m_sides m_tried m_answers m_rowOf m_whole m_shares m_isKept m_lanes m_lengths m_cells m_torn]) C0 hw (cMo_isCouple l D κ qm m_state m_tape m_taped m_fault m_broken m_brokenAt m_spot m_here m_token m_value m_ends m_letters m_moments m_stepsAt m_steps m_latest m_matrix m_sides m_tried m_answers m_rowOf m_whole m_shares m_isKept m_lanes m_lengths m_cells m_torn (m_cells (v27 - (1 : Int32)).toNatClampNeg) (m_cells v27.toNatClampNeg) r30 hk31) cv_RX7_275 ⟨rfl, rfl, Nat.le_of_ble_eq_true rfl, Nat.le_of_ble_eq_true rfl⟩ ⟨Nat.zero_le _, Nat.zero_le _⟩ [0] [] [0] rfl rfl rfl rfl (by decide) rfl rfl rfl rfl rfl hl.1 (by simp only [List.map, List.sum_cons, List.sum_nil, Value.category]; decide) dX7_read_172 (fun H locs hw hn32 => ?_)
              refine lv_if_ne (tgt := 192) hx hb dX7_read_175 (by decide) (fun hc33 => ?_) (fun hc33 => ?_)
              · have hf := if_f hc33 hf
                refine lv_aload_n hx hb dX7_read_192 rfl (lv_at hl 3 rfl) ?_
                refine r_get C0 hw 0 0 (v := .ref (qm 1)) rfl rfl inX7 (by decide) lk_X7_7 rfl dX7_read_193 ?_
                refine lv_bipush (v := 6) hx hb dX7_read_196 (by decide) ?_
                refine lv_aload_n hx hb dX7_read_198 rfl (lv_at hl 3 rfl) ?_
                refine r_get C0 hw 0 26 (v := .ref (qm 16)) rfl rfl inX7 (by decide) lk_X7_61 rfl dX7_read_199 ?_
                refine lv_iload hx hb dX7_read_202 (lv_at hl 0 rfl) ?_
                refine lv_iconst (v := 1) hx hb dX7_read_204 (by decide) ?_
                refine lv_isub hx hb dX7_read_205 ?_
                obtain ⟨hi34, hf⟩ := gd_s hf
                refine r_iald C0 hw 16 0 rfl rfl hi34 dX7_read_206 ?_
                refine lv_iadd hx hb dX7_read_207 ?_
                refine lv_aload_n hx hb dX7_read_208 rfl (lv_at hl 3 rfl) ?_
                refine r_get C0 hw 0 26 (v := .ref (qm 16)) rfl rfl inX7 (by decide) lk_X7_61 rfl dX7_read_209 ?_
                refine lv_iload hx hb dX7_read_212 (lv_at hl 0 rfl) ?_
                obtain ⟨hi35, hf⟩ := gd_s hf
                refine r_iald C0 hw 16 0 rfl rfl hi35 dX7_read_214 ?_
                obtain ⟨hi36, hf⟩ := gd_s hf
                obtain ⟨w37, ew37⟩ : ∃ z : Nat → Int32, z = (upd m_state ((6 : Int32) + (m_cells (v27 - (1 : Int32)).toNatClampNeg)).toNatClampNeg (m_cells v27.toNatClampNeg)) := ⟨_, rfl⟩
                have hf := lt_s_ hf w37 ew37
                refine r_iast C0 hw 1 0 rfl rfl hi36 dX7_read_215 (ws' := List.flatten [pMo κ qm w37 m_tape m_taped m_fault m_broken m_brokenAt m_spot m_here m_token m_value m_ends m_letters m_moments m_stepsAt m_steps m_latest m_matrix m_sides m_tried m_answers m_rowOf m_whole m_shares m_isKept m_lanes m_lengths m_cells m_torn]) (by subst ew37; rfl) (fun H locs hw => ?_)
                obtain ⟨v38, ev38⟩ : ∃ z : Int32, z = (l6 + (1 : Int32)) := ⟨_, rfl⟩
                have hf := lt_s_ hf v38 ev38
                refine lv_iinc (v := v38) (lv' := [(6, .int v38), (10, .int v27), (5, .int v22), (8, .long v20), (0, .ref (qm 0)), (1, .int l1), (2, .int l2), (3, .int l3), (4, .int l4), (7, .int l7)]) hx hb dX7_read_216 hl (k := 8) rfl (by rw [ev38]; rfl) (by decide) rfl (fun ls hl => ?_)
                obtain ⟨v39, ev39⟩ : ∃ z : Int32, z = (l7 + (1 : Int32)) := ⟨_, rfl⟩
                have hf := lt_s_ hf v39 ev39
                refine lv_iinc (v := v39) (lv' := [(7, .int v39), (6, .int v38), (10, .int v27), (5, .int v22), (8, .long v20), (0, .ref (qm 0)), (1, .int l1), (2, .int l2), (3, .int l3), (4, .int l4)]) hx hb dX7_read_219 hl (k := 9) rfl (by rw [ev39]; rfl) (by decide) rfl (fun ls hl => ?_)
                refine lv_goto (tgt := 56) hx hb dX7_read_222 (by decide) ?_
                exact ih v22 v38 v39 w37 H locs ls hw (lv_sub hl [5, 6, 7, 8, 9, 3, 1, 0] rfl)  hf
              · have hf := if_t hc33 hf
                refine lv_aload_n hx hb dX7_read_178 rfl (lv_at hl 3 rfl) ?_
                refine lv_sipush (v := 316) hx hb dX7_read_179 (by decide) ?_
                refine lv_iconst (v := 0) hx hb dX7_read_182 (by decide) ?_
                obtain ⟨w40, hk41, hf⟩ := b1_s hf
                refine rv_v (vq := (RX7, TX7, 28)) (As := [.int (316 : Int32), .int (0 : Int32)]) (rest := []) (bs' := [pMo κ qm w40 m_tape m_taped m_fault m_broken m_brokenAt m_spot m_here m_token m_value m_ends m_letters m_moments m_stepsAt m_steps m_latest m_matrix m_sides m_tried m_answers m_rowOf m_whole m_shares m_isKept m_lanes m_lengths m_cells m_torn]) C0 hw (cMo_copies l D κ qm m_state m_tape m_taped m_fault m_broken m_brokenAt m_spot m_here m_token m_value m_ends m_letters m_moments m_stepsAt m_steps m_latest m_matrix m_sides m_tried m_answers m_rowOf m_whole m_shares m_isKept m_lanes m_lengths m_cells m_torn (316 : Int32) (0 : Int32) w40 hk41) cv_RX7_145 ⟨rfl, rfl, Nat.le_of_ble_eq_true rfl, Nat.le_of_ble_eq_true rfl⟩ ⟨Nat.zero_le _, Nat.zero_le _⟩ [0] [] [0] rfl rfl rfl rfl (by decide) rfl rfl rfl rfl rfl hl.1 (by simp only [List.map, List.sum_cons, List.sum_nil, Value.category]; decide) dX7_read_183 (fun H locs hw => ?_)
                refine lv_bipush (v := -20) hx hb dX7_read_186 (by decide) ?_
                refine lv_iload hx hb dX7_read_188 (lv_at hl 8 rfl) ?_
                refine lv_isub hx hb dX7_read_190 ?_
                obtain ⟨rfl, rfl, rfl, rfl, rfl, rfl, rfl⟩ := e7_ hf
                exact r_iret C0 hw trivial dX7_read_191
        refine lv_icmp_ne (tgt := 93) hx hb dX7_read_86 (by decide) (fun hc45 => ?_) (fun hc45 => ?_)
        · have hf := if_f hc45 hf
          refine lv_aload_n hx hb dX7_read_93 rfl (lv_at hl 1 rfl) ?_
          refine r_get C0 hw 0 24 (v := .ref (qm 14)) rfl rfl inX7 (by decide) lk_X7_55 rfl dX7_read_94 ?_
          refine lv_iload_n hx hb dX7_read_97 rfl (lv_at hl 2 rfl) ?_
          obtain ⟨hi46, hf⟩ := gd_s hf
          refine r_iald C0 hw 14 0 rfl rfl hi46 dX7_read_98 ?_
          refine lv_iload_n hx hb dX7_read_99 rfl (lv_at hl 3 rfl) ?_
          refine lv_icmp_eq (tgt := 107) hx hb dX7_read_100 (by decide) (fun hc47 => ?_) (fun hc47 => ?_)
          · have hf := if_t hc47 hf
            refine lv_lload hx hb dX7_read_107 (lv_at hl 0 rfl) ?_
            refine lv_lconst (v := 0) hx hb dX7_read_109 (by decide) ?_
            refine lv_aload_n hx hb dX7_read_110 rfl (lv_at hl 1 rfl) ?_
            refine r_get C0 hw 0 25 (v := .ref (qm 15)) rfl rfl inX7 (by decide) lk_X7_58 rfl dX7_read_111 ?_
            refine lv_iload_n hx hb dX7_read_114 rfl (lv_at hl 2 rfl) ?_
            obtain ⟨hi48, hf⟩ := gd_s hf
            refine r_iald C0 hw 15 0 rfl rfl hi48 dX7_read_115 ?_
            refine lv_iconst (v := 1) hx hb dX7_read_116 (by decide) ?_
            refine lv_isub hx hb dX7_read_117 ?_
            refine lv_i2l hx hb dX7_read_118 rfl ?_
            obtain ⟨r49, hk50, hf⟩ := b1_s hf
            refine rs_i (As := [.long v20, .long (0 : Int64), .long (((m_lengths l1.toNatClampNeg) - (1 : Int32)).toInt64)]) (rest := []) (bs' := [pMo κ qm m_state m_tape m_taped m_fault m_broken m_brokenAt m_spot m_here m_token m_value m_ends m_letters m_moments m_stepsAt m_steps m_latest m_matrix m_sides m_tried m_answers m_rowOf m_whole m_shares m_isKept m_lanes m_lengths m_cells m_torn]) C0 hw (cMo_in l D κ v20 (0 : Int64) (((m_lengths l1.toNatClampNeg) - (1 : Int32)).toInt64) r49 hk50) cs_X7_66 ⟨rfl, rfl, Nat.le_of_ble_eq_true rfl, Nat.le_of_ble_eq_true rfl⟩ ⟨Nat.zero_le _, Nat.zero_le _⟩ [] [0] [0] rfl rfl rfl rfl (by decide) rfl rfl rfl hl.1 (by simp only [List.map, List.sum_cons, List.sum_nil, Value.category]; decide) dX7_read_119 (fun H locs hw hn51 => ?_)
            refine lv_if_ne (tgt := 129) hx hb dX7_read_122 (by decide) (fun hc52 => ?_) (fun hc52 => ?_)
            · have hf := if_f hc52 hf
              refine lv_iconst (v := 0) hx hb dX7_read_129 (by decide) ?_
              exact hj44 (0 : Int32) H locs ls hw (lv_sub hl [0, 1, 2, 3, 4, 5, 7, 8] rfl)  hf
            · have hf := if_t hc52 hf
              refine lv_iconst (v := 2) hx hb dX7_read_125 (by decide) ?_
              refine lv_goto (tgt := 130) hx hb dX7_read_126 (by decide) ?_
              exact hj44 (2 : Int32) H locs ls hw (lv_sub hl [0, 1, 2, 3, 4, 5, 7, 8] rfl)  hf
          · have hf := if_f hc47 hf
            refine lv_iconst (v := 3) hx hb dX7_read_103 (by decide) ?_
            refine lv_goto (tgt := 130) hx hb dX7_read_104 (by decide) ?_
            exact hj44 (3 : Int32) H locs ls hw (lv_sub hl [0, 1, 2, 3, 4, 5, 7, 8] rfl)  hf
        · have hf := if_t hc45 hf
          refine lv_iconst (v := 1) hx hb dX7_read_89 (by decide) ?_
          refine lv_goto (tgt := 130) hx hb dX7_read_90 (by decide) ?_
          exact hj44 (1 : Int32) H locs ls hw (lv_sub hl [0, 1, 2, 3, 4, 5, 7, 8] rfl)  hf
set_option maxHeartbeats 4000000 in
set_option maxRecDepth 100000 in
theorem cMo_read (l : Launch) (D : va_G) (κ : Nat → ClassId) (qm : Nat → Nat) (m_state m_tape : Nat → Int32) (m_taped m_fault m_broken m_brokenAt m_spot m_here m_token m_value : Int32) (m_ends m_letters m_moments m_stepsAt : Nat → Int32) (m_steps m_latest : Int32) (m_matrix m_sides m_tried m_answers : Nat → Int64) (m_rowOf : Nat → Int32) (m_whole : Int64) (m_shares m_isKept m_lanes m_lengths m_cells : Nat → Int32) (m_torn a1 a2 a3 a4 zr : Int32) (z1 z2 z3 : Nat → Int32) (z4 z5 z6 : Int32) (hf : FMo_read m_state m_moments m_stepsAt m_steps m_latest m_lanes m_lengths m_cells m_torn a1 a2 a3 a4 = some (zr, z1, z2, z3, z4, z5, z6)) : mI_ l yX7_read (Cond.code yX7_read cX7_read 11 (some .int) :: uw) ({ frames := 3, cells := 0, slots := 0, locals := 71 } : Room) D (tys0 κ) [.ref (qm 0), .int a1, .int a2, .int a3, .int a4] (List.flatten [pMo κ qm m_state m_tape m_taped m_fault m_broken m_brokenAt m_spot m_here m_token m_value m_ends m_letters m_moments m_stepsAt m_steps m_latest m_matrix m_sides m_tried m_answers m_rowOf m_whole m_shares m_isKept m_lanes m_lengths m_cells m_torn]) nT_ zr (List.flatten [pMo κ qm z1 m_tape m_taped m_fault m_broken m_brokenAt m_spot m_here m_token m_value m_ends m_letters z2 z3 z4 z5 m_matrix m_sides m_tried m_answers m_rowOf m_whole m_shares m_isKept m_lanes m_lengths m_cells z6]) := by
  unfold FMo_read at hf
  refine mI_of (by decide) (Nat.le_of_ble_eq_true rfl) ?_
  intro p e s m below meth c A ls H locs C0 hw hl
  obtain ⟨hx, hb, -, hml, hown, hts, -, -⟩ := id C0
  have hl : lv_has ls 11 [(0, .ref (qm 0)), (1, .int a1), (2, .int a2), (3, .int a3), (4, .int a4)] := hl
  refine lv_iload_n hx hb dX7_read_0 rfl (lv_at hl 1 rfl) ?_
  refine lv_i2l hx hb dX7_read_1 rfl ?_
  refine lv_lconst (v := 0) hx hb dX7_read_2 (by decide) ?_
  refine lv_ldc2 (v := 3) hx hb hown (hts _ kl_X7_249) dX7_read_3 ?_
  obtain ⟨r1, hk2, hf⟩ := b1_s hf
  refine rs_i (As := [.long (a1.toInt64), .long (0 : Int64), .long (3 : Int64)]) (rest := []) (bs' := [pMo κ qm m_state m_tape m_taped m_fault m_broken m_brokenAt m_spot m_here m_token m_value m_ends m_letters m_moments m_stepsAt m_steps m_latest m_matrix m_sides m_tried m_answers m_rowOf m_whole m_shares m_isKept m_lanes m_lengths m_cells m_torn]) C0 hw (cMo_in l D κ (a1.toInt64) (0 : Int64) (3 : Int64) r1 hk2) cs_X7_66 ⟨rfl, rfl, Nat.le_of_ble_eq_true rfl, Nat.le_of_ble_eq_true rfl⟩ ⟨Nat.zero_le _, Nat.zero_le _⟩ [] [0] [0] rfl rfl rfl rfl (by decide) rfl rfl rfl hl.1 (by simp only [List.map, List.sum_cons, List.sum_nil, Value.category]; decide) dX7_read_6 (fun H locs hw hn3 => ?_)
  refine lv_if_eq (tgt := 37) hx hb dX7_read_9 (by decide) (fun hc4 => ?_) (fun hc4 => ?_)
  · have hf := if_t hc4 hf
    refine lv_iconst (v := -1) hx hb dX7_read_37 (by decide) ?_
    obtain ⟨rfl, rfl, rfl, rfl, rfl, rfl, rfl⟩ := e7_ hf
    exact r_iret C0 hw trivial dX7_read_38
  · have hf := if_f hc4 hf
    refine lv_iload_n hx hb dX7_read_12 rfl (lv_at hl 2 rfl) ?_
    refine lv_i2l hx hb dX7_read_13 rfl ?_
    refine lv_lconst (v := 0) hx hb dX7_read_14 (by decide) ?_
    refine lv_ldc2 (v := 2) hx hb hown (hts _ kl_X7_222) dX7_read_15 ?_
    obtain ⟨r5, hk6, hf⟩ := b1_s hf
    refine rs_i (As := [.long (a2.toInt64), .long (0 : Int64), .long (2 : Int64)]) (rest := []) (bs' := [pMo κ qm m_state m_tape m_taped m_fault m_broken m_brokenAt m_spot m_here m_token m_value m_ends m_letters m_moments m_stepsAt m_steps m_latest m_matrix m_sides m_tried m_answers m_rowOf m_whole m_shares m_isKept m_lanes m_lengths m_cells m_torn]) C0 hw (cMo_in l D κ (a2.toInt64) (0 : Int64) (2 : Int64) r5 hk6) cs_X7_66 ⟨rfl, rfl, Nat.le_of_ble_eq_true rfl, Nat.le_of_ble_eq_true rfl⟩ ⟨Nat.zero_le _, Nat.zero_le _⟩ [] [0] [0] rfl rfl rfl rfl (by decide) rfl rfl rfl hl.1 (by simp only [List.map, List.sum_cons, List.sum_nil, Value.category]; decide) dX7_read_18 (fun H locs hw hn7 => ?_)
    refine lv_if_eq (tgt := 37) hx hb dX7_read_21 (by decide) (fun hc8 => ?_) (fun hc8 => ?_)
    · have hf := if_t hc8 hf
      refine lv_iconst (v := -1) hx hb dX7_read_37 (by decide) ?_
      obtain ⟨rfl, rfl, rfl, rfl, rfl, rfl, rfl⟩ := e7_ hf
      exact r_iret C0 hw trivial dX7_read_38
    · have hf := if_f hc8 hf
      refine lv_iload hx hb dX7_read_24 (lv_at hl 4 rfl) ?_
      refine lv_i2l hx hb dX7_read_26 rfl ?_
      refine lv_lconst (v := 0) hx hb dX7_read_27 (by decide) ?_
      refine lv_ldc2 (v := 20) hx hb hown (hts _ kl_X7_292) dX7_read_28 ?_
      obtain ⟨r9, hk10, hf⟩ := b1_s hf
      refine rs_i (As := [.long (a4.toInt64), .long (0 : Int64), .long (20 : Int64)]) (rest := []) (bs' := [pMo κ qm m_state m_tape m_taped m_fault m_broken m_brokenAt m_spot m_here m_token m_value m_ends m_letters m_moments m_stepsAt m_steps m_latest m_matrix m_sides m_tried m_answers m_rowOf m_whole m_shares m_isKept m_lanes m_lengths m_cells m_torn]) C0 hw (cMo_in l D κ (a4.toInt64) (0 : Int64) (20 : Int64) r9 hk10) cs_X7_66 ⟨rfl, rfl, Nat.le_of_ble_eq_true rfl, Nat.le_of_ble_eq_true rfl⟩ ⟨Nat.zero_le _, Nat.zero_le _⟩ [] [0] [0] rfl rfl rfl rfl (by decide) rfl rfl rfl hl.1 (by simp only [List.map, List.sum_cons, List.sum_nil, Value.category]; decide) dX7_read_31 (fun H locs hw hn11 => ?_)
      refine lv_if_ne (tgt := 39) hx hb dX7_read_34 (by decide) (fun hc12 => ?_) (fun hc12 => ?_)
      · have hf := if_f hc12 hf
        refine lv_aload_n hx hb dX7_read_39 rfl (lv_at hl 0 rfl) ?_
        refine lv_iconst (v := 0) hx hb dX7_read_40 (by decide) ?_
        refine lv_sipush (v := 316) hx hb dX7_read_41 (by decide) ?_
        obtain ⟨w13, hk14, hf⟩ := b1_s hf
        refine rv_v (vq := (RX7, TX7, 28)) (As := [.int (0 : Int32), .int (316 : Int32)]) (rest := []) (bs' := [pMo κ qm w13 m_tape m_taped m_fault m_broken m_brokenAt m_spot m_here m_token m_value m_ends m_letters m_moments m_stepsAt m_steps m_latest m_matrix m_sides m_tried m_answers m_rowOf m_whole m_shares m_isKept m_lanes m_lengths m_cells m_torn]) C0 hw (cMo_copies l D κ qm m_state m_tape m_taped m_fault m_broken m_brokenAt m_spot m_here m_token m_value m_ends m_letters m_moments m_stepsAt m_steps m_latest m_matrix m_sides m_tried m_answers m_rowOf m_whole m_shares m_isKept m_lanes m_lengths m_cells m_torn (0 : Int32) (316 : Int32) w13 hk14) cv_RX7_145 ⟨rfl, rfl, Nat.le_of_ble_eq_true rfl, Nat.le_of_ble_eq_true rfl⟩ ⟨Nat.zero_le _, Nat.zero_le _⟩ [0] [] [0] rfl rfl rfl rfl (by decide) rfl rfl rfl rfl rfl hl.1 (by simp only [List.map, List.sum_cons, List.sum_nil, Value.category]; decide) dX7_read_44 (fun H locs hw => ?_)
        refine lv_iconst (v := 0) hx hb dX7_read_47 (by decide) ?_
        refine lv_istore (lv' := [(5, .int (0 : Int32)), (0, .ref (qm 0)), (1, .int a1), (2, .int a2), (3, .int a3), (4, .int a4)]) hx hb dX7_read_48 hl (by decide) rfl (fun ls hl => ?_)
        refine lv_iconst (v := 0) hx hb dX7_read_50 (by decide) ?_
        refine lv_istore (lv' := [(6, .int (0 : Int32)), (5, .int (0 : Int32)), (0, .ref (qm 0)), (1, .int a1), (2, .int a2), (3, .int a3), (4, .int a4)]) hx hb dX7_read_51 hl (by decide) rfl (fun ls hl => ?_)
        refine lv_iconst (v := 0) hx hb dX7_read_53 (by decide) ?_
        refine lv_istore (lv' := [(7, .int (0 : Int32)), (6, .int (0 : Int32)), (5, .int (0 : Int32)), (0, .ref (qm 0)), (1, .int a1), (2, .int a2), (3, .int a3), (4, .int a4)]) hx hb dX7_read_54 hl (by decide) rfl (fun ls hl => ?_)
        refine wMo_read_L56 C0 qm m_tape m_taped m_fault m_broken m_brokenAt m_spot m_here m_token m_value m_ends m_letters m_moments m_stepsAt m_steps m_latest m_matrix m_sides m_tried m_answers m_rowOf m_whole m_shares m_isKept m_lanes m_lengths m_cells m_torn a1 a2 a3 a4 zr z1 z2 z3 z4 z5 z6 _ (fun v55 v56 v57 w58 H locs ls hw hl  hf => ?_) 1000 (0 : Int32) (0 : Int32) (0 : Int32) w13 H locs ls hw (lv_sub hl [3, 4, 5, 6, 7, 2, 1, 0] rfl)  hf
        refine lv_iload hx hb dX7_read_225 (lv_at hl 2 rfl) ?_
        refine lv_if_le (tgt := 235) hx hb dX7_read_227 (by decide) (fun hc59 => ?_) (fun hc59 => ?_)
        · have hf := if_t hc59 hf
          refine lv_aload_n hx hb dX7_read_235 rfl (lv_at hl 0 rfl) ?_
          refine lv_iload hx hb dX7_read_236 (lv_at hl 1 rfl) ?_
          refine r_put C0 hw 0 27 (v := .int v55) (ws' := List.flatten [pMo κ qm w58 m_tape m_taped m_fault m_broken m_brokenAt m_spot m_here m_token m_value m_ends m_letters m_moments m_stepsAt m_steps m_latest m_matrix m_sides m_tried m_answers m_rowOf m_whole m_shares m_isKept m_lanes m_lengths m_cells v55]) rfl rfl inX7 tyX7_ok nmX7 (by decide) lk_X7_294 rfl rfl rfl rfl (Nat.le_of_ble_eq_true rfl) dX7_read_238 rfl (fun H locs hw => ?_)
          refine lv_iload hx hb dX7_read_241 (lv_at hl 2 rfl) ?_
          obtain ⟨rfl, rfl, rfl, rfl, rfl, rfl, rfl⟩ := e7_ hf
          exact r_iret C0 hw trivial dX7_read_243
        · have hf := if_f hc59 hf
          refine lv_aload_n hx hb dX7_read_230 rfl (lv_at hl 0 rfl) ?_
          obtain ⟨r60, w61, w62, w63, w64, hk65, hf⟩ := b5_s hf
          refine rv_i (vq := (RX7, TX7, 28)) (As := []) (rest := []) (bs' := [pMo κ qm w58 m_tape m_taped m_fault m_broken m_brokenAt m_spot m_here m_token m_value m_ends m_letters w61 w62 w63 w64 m_matrix m_sides m_tried m_answers m_rowOf m_whole m_shares m_isKept m_lanes m_lengths m_cells m_torn]) C0 hw (cMo_begins l D κ qm w58 m_tape m_taped m_fault m_broken m_brokenAt m_spot m_here m_token m_value m_ends m_letters m_moments m_stepsAt m_steps m_latest m_matrix m_sides m_tried m_answers m_rowOf m_whole m_shares m_isKept m_lanes m_lengths m_cells m_torn r60 w61 w62 w63 w64 hk65) cv_RX7_149 ⟨rfl, rfl, Nat.le_of_ble_eq_true rfl, Nat.le_of_ble_eq_true rfl⟩ ⟨Nat.zero_le _, Nat.zero_le _⟩ [0] [] [0] rfl rfl rfl rfl (by decide) rfl rfl rfl rfl rfl hl.1 (by simp only [List.map, List.sum_cons, List.sum_nil, Value.category]; decide) dX7_read_231 (fun H locs hw hn66 => ?_)
          refine lv_pop hx hb dX7_read_234 rfl ?_
          refine lv_aload_n hx hb dX7_read_235 rfl (lv_at hl 0 rfl) ?_
          refine lv_iload hx hb dX7_read_236 (lv_at hl 1 rfl) ?_
          refine r_put C0 hw 0 27 (v := .int v55) (ws' := List.flatten [pMo κ qm w58 m_tape m_taped m_fault m_broken m_brokenAt m_spot m_here m_token m_value m_ends m_letters w61 w62 w63 w64 m_matrix m_sides m_tried m_answers m_rowOf m_whole m_shares m_isKept m_lanes m_lengths m_cells v55]) rfl rfl inX7 tyX7_ok nmX7 (by decide) lk_X7_294 rfl rfl rfl rfl (Nat.le_of_ble_eq_true rfl) dX7_read_238 rfl (fun H locs hw => ?_)
          refine lv_iload hx hb dX7_read_241 (lv_at hl 2 rfl) ?_
          obtain ⟨rfl, rfl, rfl, rfl, rfl, rfl, rfl⟩ := e7_ hf
          exact r_iret C0 hw trivial dX7_read_243
      · have hf := if_t hc12 hf
        refine lv_iconst (v := -1) hx hb dX7_read_37 (by decide) ?_
        obtain ⟨rfl, rfl, rfl, rfl, rfl, rfl, rfl⟩ := e7_ hf
        exact r_iret C0 hw trivial dX7_read_38
def FMo_torn (m_torn : Int32) : Option (Int32) :=
  some (m_torn)
set_option maxHeartbeats 4000000 in
set_option maxRecDepth 100000 in
theorem cMo_torn (l : Launch) (D : va_G) (κ : Nat → ClassId) (qm : Nat → Nat) (m_state m_tape : Nat → Int32) (m_taped m_fault m_broken m_brokenAt m_spot m_here m_token m_value : Int32) (m_ends m_letters m_moments m_stepsAt : Nat → Int32) (m_steps m_latest : Int32) (m_matrix m_sides m_tried m_answers : Nat → Int64) (m_rowOf : Nat → Int32) (m_whole : Int64) (m_shares m_isKept m_lanes m_lengths m_cells : Nat → Int32) (m_torn zr : Int32) (hf : FMo_torn m_torn = some zr) : mI_ l yX7_torn (Cond.code yX7_torn cX7_torn 1 (some .int) :: uw) ({ frames := 0, cells := 0, slots := 0, locals := 0 } : Room) D (tys0 κ) [.ref (qm 0)] (List.flatten [pMo κ qm m_state m_tape m_taped m_fault m_broken m_brokenAt m_spot m_here m_token m_value m_ends m_letters m_moments m_stepsAt m_steps m_latest m_matrix m_sides m_tried m_answers m_rowOf m_whole m_shares m_isKept m_lanes m_lengths m_cells m_torn]) nT_ zr (List.flatten [pMo κ qm m_state m_tape m_taped m_fault m_broken m_brokenAt m_spot m_here m_token m_value m_ends m_letters m_moments m_stepsAt m_steps m_latest m_matrix m_sides m_tried m_answers m_rowOf m_whole m_shares m_isKept m_lanes m_lengths m_cells m_torn]) := by
  unfold FMo_torn at hf
  refine mI_of (by decide) (Nat.le_of_ble_eq_true rfl) ?_
  intro p e s m below meth c A ls H locs C0 hw hl
  obtain ⟨hx, hb, -, hml, hown, hts, -, -⟩ := id C0
  have hl : lv_has ls 1 [(0, .ref (qm 0))] := hl
  refine lv_aload_n hx hb dX7_torn_0 rfl (lv_at hl 0 rfl) ?_
  refine r_get C0 hw 0 27 (v := .int m_torn) rfl rfl inX7 (by decide) lk_X7_294 rfl dX7_torn_1 ?_
  obtain rfl := e1_ hf
  exact r_iret C0 hw trivial dX7_torn_4
def FMo_bare_L4 (m_state : Nat → Int32) : Nat → Int32 → Int32 → Option (Int32)
  | 0, _, _ => none
  | n + 1, l1, l2 =>
      b1_ (FMo_joints m_state) fun r1 =>
      if r1 ≤ l2 then
        some (l1)
      else
        b1_ (FMo_endsAt m_state l2) fun r5 =>
        if r5 = 0 then
          lt_ (l1 + (1 : Int32)) fun v11 =>
          lt_ (l2 + (1 : Int32)) fun v12 =>
          FMo_bare_L4 m_state n v11 v12
        else
          lt_ (l1 + (0 : Int32)) fun v9 =>
          lt_ (l2 + (1 : Int32)) fun v10 =>
          FMo_bare_L4 m_state n v9 v10
def FMo_bare (m_state : Nat → Int32) : Option (Int32) :=
  FMo_bare_L4 m_state 1000 (0 : Int32) (0 : Int32)
set_option maxHeartbeats 4000000 in
set_option maxRecDepth 100000 in
theorem wMo_bare_L4 {p : Program} {l : Launch} {e : Env} {s : State} {m : MethodId} {args : Array Value} {below : List Frame} {meth : Method} {c : Code} {A : Nat → Prop} {D : va_G} {κ : Nat → ClassId} (C0 : cx_ p s m meth c args cX7_bare RX7 (some .int) 3 A) (qm : Nat → Nat) (m_state m_tape : Nat → Int32) (m_taped m_fault m_broken m_brokenAt m_spot m_here m_token m_value : Int32) (m_ends m_letters m_moments m_stepsAt : Nat → Int32) (m_steps m_latest : Int32) (m_matrix m_sides m_tried m_answers : Nat → Int64) (m_rowOf : Nat → Int32) (m_whole : Int64) (m_shares m_isKept m_lanes m_lengths m_cells : Nat → Int32) (m_torn : Int32) (zr : Int32) : ∀ (n : Nat) (l1 : Int32) (l2 : Int32) (H : Heap) (locs : List Loc) (ls : Array Slot), wd_ D (tys0 κ) A s (List.flatten [pMo κ qm m_state m_tape m_taped m_fault m_broken m_brokenAt m_spot m_here m_token m_value m_ends m_letters m_moments m_stepsAt m_steps m_latest m_matrix m_sides m_tried m_answers m_rowOf m_whole m_shares m_isKept m_lanes m_lengths m_cells m_torn]) H locs → lv_has ls 3 [(0, .ref (qm 0)), (1, .int l1), (2, .int l2)] → FMo_bare_L4 m_state n l1 l2 = some zr → W p l e ({ frames := 2, cells := 0, slots := 0, locals := 44 } : Room) s m args below meth c H locs 0 0 (qI_ D (tys0 κ) A nT_ zr (List.flatten [pMo κ qm m_state m_tape m_taped m_fault m_broken m_brokenAt m_spot m_here m_token m_value m_ends m_letters m_moments m_stepsAt m_steps m_latest m_matrix m_sides m_tried m_answers m_rowOf m_whole m_shares m_isKept m_lanes m_lengths m_cells m_torn]) below args s) (F0 m 4 ls []) := by
  obtain ⟨hx, hb, -, hml, hown, hts, -, -⟩ := id C0
  intro n
  induction n with
  | zero =>
    intro l1 l2 H locs ls hw hl  hf
    cases hf
  | succ n ih =>
    intro l1 l2 H locs ls hw hl  hf
    rw [FMo_bare_L4.eq_2] at hf
    refine lv_iload_n hx hb dX7_bare_4 rfl (lv_at hl 2 rfl) ?_
    refine lv_aload_n hx hb dX7_bare_5 rfl (lv_at hl 0 rfl) ?_
    obtain ⟨r1, hk2, hf⟩ := b1_s hf
    refine rv_i (vq := (RX7, TX7, 28)) (As := []) (rest := [.int l2]) (bs' := [pMo κ qm m_state m_tape m_taped m_fault m_broken m_brokenAt m_spot m_here m_token m_value m_ends m_letters m_moments m_stepsAt m_steps m_latest m_matrix m_sides m_tried m_answers m_rowOf m_whole m_shares m_isKept m_lanes m_lengths m_cells m_torn]) C0 hw (cMo_joints l D κ qm m_state m_tape m_taped m_fault m_broken m_brokenAt m_spot m_here m_token m_value m_ends m_letters m_moments m_stepsAt m_steps m_latest m_matrix m_sides m_tried m_answers m_rowOf m_whole m_shares m_isKept m_lanes m_lengths m_cells m_torn r1 hk2) cv_RX7_183 ⟨rfl, rfl, Nat.le_of_ble_eq_true rfl, Nat.le_of_ble_eq_true rfl⟩ ⟨Nat.zero_le _, Nat.zero_le _⟩ [0] [] [0] rfl rfl rfl rfl (by decide) rfl rfl rfl rfl rfl hl.1 (by simp only [List.map, List.sum_cons, List.sum_nil, Value.category]; decide) dX7_bare_6 (fun H locs hw hn3 => ?_)
    refine lv_icmp_ge (tgt := 34) hx hb dX7_bare_9 (by decide) (fun hc4 => ?_) (fun hc4 => ?_)
    · have hf := if_t hc4 hf
      refine lv_iload_n hx hb dX7_bare_34 rfl (lv_at hl 1 rfl) ?_
      obtain rfl := e1_ hf
      exact r_iret C0 hw trivial dX7_bare_35
    · have hf := if_f hc4 hf
      refine lv_iload_n hx hb dX7_bare_12 rfl (lv_at hl 1 rfl) ?_
      refine lv_aload_n hx hb dX7_bare_13 rfl (lv_at hl 0 rfl) ?_
      refine lv_iload_n hx hb dX7_bare_14 rfl (lv_at hl 2 rfl) ?_
      obtain ⟨r5, hk6, hf⟩ := b1_s hf
      refine rv_i (vq := (RX7, TX7, 28)) (As := [.int l2]) (rest := [.int l1]) (bs' := [pMo κ qm m_state m_tape m_taped m_fault m_broken m_brokenAt m_spot m_here m_token m_value m_ends m_letters m_moments m_stepsAt m_steps m_latest m_matrix m_sides m_tried m_answers m_rowOf m_whole m_shares m_isKept m_lanes m_lengths m_cells m_torn]) C0 hw (cMo_endsAt l D κ qm m_state m_tape m_taped m_fault m_broken m_brokenAt m_spot m_here m_token m_value m_ends m_letters m_moments m_stepsAt m_steps m_latest m_matrix m_sides m_tried m_answers m_rowOf m_whole m_shares m_isKept m_lanes m_lengths m_cells m_torn l2 r5 hk6) cv_RX7_174 ⟨rfl, rfl, Nat.le_of_ble_eq_true rfl, Nat.le_of_ble_eq_true rfl⟩ ⟨Nat.zero_le _, Nat.zero_le _⟩ [0] [] [0] rfl rfl rfl rfl (by decide) rfl rfl rfl rfl rfl hl.1 (by simp only [List.map, List.sum_cons, List.sum_nil, Value.category]; decide) dX7_bare_15 (fun H locs hw hn7 => ?_)
      refine lv_if_ne (tgt := 25) hx hb dX7_bare_18 (by decide) (fun hc8 => ?_) (fun hc8 => ?_)
      · have hf := if_f hc8 hf
        refine lv_iconst (v := 0) hx hb dX7_bare_25 (by decide) ?_
        refine lv_iadd hx hb dX7_bare_26 ?_
        refine lv_topi (fun v9 ev9 => ?_)
        have hf := lt_s_ hf v9 ev9
        refine lv_istore_n (lv' := [(1, .int v9), (0, .ref (qm 0)), (2, .int l2)]) hx hb dX7_bare_27 rfl hl (by decide) rfl (fun ls hl => ?_)
        obtain ⟨v10, ev10⟩ : ∃ z : Int32, z = (l2 + (1 : Int32)) := ⟨_, rfl⟩
        have hf := lt_s_ hf v10 ev10
        refine lv_iinc (v := v10) (lv' := [(2, .int v10), (1, .int v9), (0, .ref (qm 0))]) hx hb dX7_bare_28 hl (k := 2) rfl (by rw [ev10]; rfl) (by decide) rfl (fun ls hl => ?_)
        refine lv_goto (tgt := 4) hx hb dX7_bare_31 (by decide) ?_
        exact ih v9 v10 H locs ls hw (lv_sub hl [2, 1, 0] rfl)  hf
      · have hf := if_t hc8 hf
        refine lv_iconst (v := 1) hx hb dX7_bare_21 (by decide) ?_
        refine lv_goto (tgt := 26) hx hb dX7_bare_22 (by decide) ?_
        refine lv_iadd hx hb dX7_bare_26 ?_
        refine lv_topi (fun v11 ev11 => ?_)
        have hf := lt_s_ hf v11 ev11
        refine lv_istore_n (lv' := [(1, .int v11), (0, .ref (qm 0)), (2, .int l2)]) hx hb dX7_bare_27 rfl hl (by decide) rfl (fun ls hl => ?_)
        obtain ⟨v12, ev12⟩ : ∃ z : Int32, z = (l2 + (1 : Int32)) := ⟨_, rfl⟩
        have hf := lt_s_ hf v12 ev12
        refine lv_iinc (v := v12) (lv' := [(2, .int v12), (1, .int v11), (0, .ref (qm 0))]) hx hb dX7_bare_28 hl (k := 2) rfl (by rw [ev12]; rfl) (by decide) rfl (fun ls hl => ?_)
        refine lv_goto (tgt := 4) hx hb dX7_bare_31 (by decide) ?_
        exact ih v11 v12 H locs ls hw (lv_sub hl [2, 1, 0] rfl)  hf
set_option maxHeartbeats 4000000 in
set_option maxRecDepth 100000 in
theorem cMo_bare (l : Launch) (D : va_G) (κ : Nat → ClassId) (qm : Nat → Nat) (m_state m_tape : Nat → Int32) (m_taped m_fault m_broken m_brokenAt m_spot m_here m_token m_value : Int32) (m_ends m_letters m_moments m_stepsAt : Nat → Int32) (m_steps m_latest : Int32) (m_matrix m_sides m_tried m_answers : Nat → Int64) (m_rowOf : Nat → Int32) (m_whole : Int64) (m_shares m_isKept m_lanes m_lengths m_cells : Nat → Int32) (m_torn zr : Int32) (hf : FMo_bare m_state = some zr) : mI_ l yX7_bare (Cond.code yX7_bare cX7_bare 3 (some .int) :: uw) ({ frames := 2, cells := 0, slots := 0, locals := 44 } : Room) D (tys0 κ) [.ref (qm 0)] (List.flatten [pMo κ qm m_state m_tape m_taped m_fault m_broken m_brokenAt m_spot m_here m_token m_value m_ends m_letters m_moments m_stepsAt m_steps m_latest m_matrix m_sides m_tried m_answers m_rowOf m_whole m_shares m_isKept m_lanes m_lengths m_cells m_torn]) nT_ zr (List.flatten [pMo κ qm m_state m_tape m_taped m_fault m_broken m_brokenAt m_spot m_here m_token m_value m_ends m_letters m_moments m_stepsAt m_steps m_latest m_matrix m_sides m_tried m_answers m_rowOf m_whole m_shares m_isKept m_lanes m_lengths m_cells m_torn]) := by
  unfold FMo_bare at hf
  refine mI_of (by decide) (Nat.le_of_ble_eq_true rfl) ?_
  intro p e s m below meth c A ls H locs C0 hw hl
  obtain ⟨hx, hb, -, hml, hown, hts, -, -⟩ := id C0
  have hl : lv_has ls 3 [(0, .ref (qm 0))] := hl
  refine lv_iconst (v := 0) hx hb dX7_bare_0 (by decide) ?_
  refine lv_istore_n (lv' := [(1, .int (0 : Int32)), (0, .ref (qm 0))]) hx hb dX7_bare_1 rfl hl (by decide) rfl (fun ls hl => ?_)
  refine lv_iconst (v := 0) hx hb dX7_bare_2 (by decide) ?_
  refine lv_istore_n (lv' := [(2, .int (0 : Int32)), (1, .int (0 : Int32)), (0, .ref (qm 0))]) hx hb dX7_bare_3 rfl hl (by decide) rfl (fun ls hl => ?_)
  exact wMo_bare_L4 C0 qm m_state m_tape m_taped m_fault m_broken m_brokenAt m_spot m_here m_token m_value m_ends m_letters m_moments m_stepsAt m_steps m_latest m_matrix m_sides m_tried m_answers m_rowOf m_whole m_shares m_isKept m_lanes m_lengths m_cells m_torn zr 1000 (0 : Int32) (0 : Int32) H locs ls hw (lv_sub hl [2, 1, 0] rfl)  hf
def FMo_count (m_state : Nat → Int32) (m_taped : Int32) (m_isKept m_lanes m_lengths : Nat → Int32) (a1 : Int32) : Option (Int32) :=
  if a1 = 0 then
    gd_ (0 : Int32) 2 <|
    if (m_isKept (0 : Int32).toNatClampNeg) = 0 then
      gd_ (1 : Int32) 2 <|
      if (m_isKept (1 : Int32).toNatClampNeg) = 0 then
        some (((0 : Int32) + (0 : Int32)))
      else
        some (((0 : Int32) + (1 : Int32)))
    else
      gd_ (1 : Int32) 2 <|
      if (m_isKept (1 : Int32).toNatClampNeg) = 0 then
        some (((1 : Int32) + (0 : Int32)))
      else
        some (((1 : Int32) + (1 : Int32)))
  else
  if a1 = 1 then
    some (m_taped)
  else
  if a1 = 2 then
    gd_ (0 : Int32) 4 <|
    if (m_lanes (0 : Int32).toNatClampNeg) = (-4 : Int32) then
      some ((-4 : Int32))
    else
      gd_ (0 : Int32) 4 <|
      some ((m_lengths (0 : Int32).toNatClampNeg))
  else
  if a1 = 3 then
    b1_ (FMo_bare m_state) fun r14 =>
    some (r14)
  else
  some ((-1 : Int32))
set_option maxHeartbeats 4000000 in
set_option maxRecDepth 100000 in
theorem cMo_count (l : Launch) (D : va_G) (κ : Nat → ClassId) (qm : Nat → Nat) (m_state m_tape : Nat → Int32) (m_taped m_fault m_broken m_brokenAt m_spot m_here m_token m_value : Int32) (m_ends m_letters m_moments m_stepsAt : Nat → Int32) (m_steps m_latest : Int32) (m_matrix m_sides m_tried m_answers : Nat → Int64) (m_rowOf : Nat → Int32) (m_whole : Int64) (m_shares m_isKept m_lanes m_lengths m_cells : Nat → Int32) (m_torn a1 zr : Int32) (hf : FMo_count m_state m_taped m_isKept m_lanes m_lengths a1 = some zr) : mI_ l yX7_count (Cond.code yX7_count cX7_count 2 (some .int) :: uw) ({ frames := 3, cells := 0, slots := 0, locals := 66 } : Room) D (tys0 κ) [.ref (qm 0), .int a1] (List.flatten [pMo κ qm m_state m_tape m_taped m_fault m_broken m_brokenAt m_spot m_here m_token m_value m_ends m_letters m_moments m_stepsAt m_steps m_latest m_matrix m_sides m_tried m_answers m_rowOf m_whole m_shares m_isKept m_lanes m_lengths m_cells m_torn]) nT_ zr (List.flatten [pMo κ qm m_state m_tape m_taped m_fault m_broken m_brokenAt m_spot m_here m_token m_value m_ends m_letters m_moments m_stepsAt m_steps m_latest m_matrix m_sides m_tried m_answers m_rowOf m_whole m_shares m_isKept m_lanes m_lengths m_cells m_torn]) := by
  unfold FMo_count at hf
  refine mI_of (by decide) (Nat.le_of_ble_eq_true rfl) ?_
  intro p e s m below meth c A ls H locs C0 hw hl
  obtain ⟨hx, hb, -, hml, hown, hts, -, -⟩ := id C0
  have hl : lv_has ls 2 [(0, .ref (qm 0)), (1, .int a1)] := hl
  refine lv_iload_n hx hb dX7_count_0 rfl (lv_at hl 1 rfl) ?_
  by_cases hc1 : a1 = 0
  · have hf := if_t hc1 hf
    refine lv_tableIn (tgt := 32) hx hb dX7_count_1 (by rw [hc1]; decide) (by rw [hc1]; decide) (by rw [hc1]; rfl) (by decide) ?_
    refine lv_aload_n hx hb dX7_count_32 rfl (lv_at hl 0 rfl) ?_
    refine r_get C0 hw 0 23 (v := .ref (qm 13)) rfl rfl inX7 (by decide) lk_X7_51 rfl dX7_count_33 ?_
    refine lv_iconst (v := 0) hx hb dX7_count_36 (by decide) ?_
    obtain ⟨hi2, hf⟩ := gd_s hf
    refine r_zald C0 hw 13 1 rfl rfl hi2 dX7_count_37 ?_
    refine lv_if_eq (tgt := 45) hx hb dX7_count_38 (by decide) (fun hc3 => ?_) (fun hc3 => ?_)
    · have hf := if_t hc3 hf
      refine lv_iconst (v := 0) hx hb dX7_count_45 (by decide) ?_
      refine lv_aload_n hx hb dX7_count_46 rfl (lv_at hl 0 rfl) ?_
      refine r_get C0 hw 0 23 (v := .ref (qm 13)) rfl rfl inX7 (by decide) lk_X7_51 rfl dX7_count_47 ?_
      refine lv_iconst (v := 1) hx hb dX7_count_50 (by decide) ?_
      obtain ⟨hi4, hf⟩ := gd_s hf
      refine r_zald C0 hw 13 1 rfl rfl hi4 dX7_count_51 ?_
      refine lv_if_eq (tgt := 59) hx hb dX7_count_52 (by decide) (fun hc5 => ?_) (fun hc5 => ?_)
      · have hf := if_t hc5 hf
        refine lv_iconst (v := 0) hx hb dX7_count_59 (by decide) ?_
        refine lv_iadd hx hb dX7_count_60 ?_
        obtain rfl := e1_ hf
        exact r_iret C0 hw trivial dX7_count_61
      · have hf := if_f hc5 hf
        refine lv_iconst (v := 1) hx hb dX7_count_55 (by decide) ?_
        refine lv_goto (tgt := 60) hx hb dX7_count_56 (by decide) ?_
        refine lv_iadd hx hb dX7_count_60 ?_
        obtain rfl := e1_ hf
        exact r_iret C0 hw trivial dX7_count_61
    · have hf := if_f hc3 hf
      refine lv_iconst (v := 1) hx hb dX7_count_41 (by decide) ?_
      refine lv_goto (tgt := 46) hx hb dX7_count_42 (by decide) ?_
      refine lv_aload_n hx hb dX7_count_46 rfl (lv_at hl 0 rfl) ?_
      refine r_get C0 hw 0 23 (v := .ref (qm 13)) rfl rfl inX7 (by decide) lk_X7_51 rfl dX7_count_47 ?_
      refine lv_iconst (v := 1) hx hb dX7_count_50 (by decide) ?_
      obtain ⟨hi6, hf⟩ := gd_s hf
      refine r_zald C0 hw 13 1 rfl rfl hi6 dX7_count_51 ?_
      refine lv_if_eq (tgt := 59) hx hb dX7_count_52 (by decide) (fun hc7 => ?_) (fun hc7 => ?_)
      · have hf := if_t hc7 hf
        refine lv_iconst (v := 0) hx hb dX7_count_59 (by decide) ?_
        refine lv_iadd hx hb dX7_count_60 ?_
        obtain rfl := e1_ hf
        exact r_iret C0 hw trivial dX7_count_61
      · have hf := if_f hc7 hf
        refine lv_iconst (v := 1) hx hb dX7_count_55 (by decide) ?_
        refine lv_goto (tgt := 60) hx hb dX7_count_56 (by decide) ?_
        refine lv_iadd hx hb dX7_count_60 ?_
        obtain rfl := e1_ hf
        exact r_iret C0 hw trivial dX7_count_61
  have hf := if_f hc1 hf
  by_cases hc8 : a1 = 1
  · have hf := if_t hc8 hf
    refine lv_tableIn (tgt := 62) hx hb dX7_count_1 (by rw [hc8]; decide) (by rw [hc8]; decide) (by rw [hc8]; rfl) (by decide) ?_
    refine lv_aload_n hx hb dX7_count_62 rfl (lv_at hl 0 rfl) ?_
    refine r_get C0 hw 0 2 (v := .int m_taped) rfl rfl inX7 (by decide) lk_X7_70 rfl dX7_count_63 ?_
    obtain rfl := e1_ hf
    exact r_iret C0 hw trivial dX7_count_66
  have hf := if_f hc8 hf
  by_cases hc9 : a1 = 2
  · have hf := if_t hc9 hf
    refine lv_tableIn (tgt := 67) hx hb dX7_count_1 (by rw [hc9]; decide) (by rw [hc9]; decide) (by rw [hc9]; rfl) (by decide) ?_
    refine lv_aload_n hx hb dX7_count_67 rfl (lv_at hl 0 rfl) ?_
    refine r_get C0 hw 0 24 (v := .ref (qm 14)) rfl rfl inX7 (by decide) lk_X7_55 rfl dX7_count_68 ?_
    refine lv_iconst (v := 0) hx hb dX7_count_71 (by decide) ?_
    obtain ⟨hi10, hf⟩ := gd_s hf
    refine r_iald C0 hw 14 0 rfl rfl hi10 dX7_count_72 ?_
    refine lv_bipush (v := -4) hx hb dX7_count_73 (by decide) ?_
    refine lv_icmp_ne (tgt := 83) hx hb dX7_count_75 (by decide) (fun hc11 => ?_) (fun hc11 => ?_)
    · have hf := if_f hc11 hf
      refine lv_aload_n hx hb dX7_count_83 rfl (lv_at hl 0 rfl) ?_
      refine r_get C0 hw 0 25 (v := .ref (qm 15)) rfl rfl inX7 (by decide) lk_X7_58 rfl dX7_count_84 ?_
      refine lv_iconst (v := 0) hx hb dX7_count_87 (by decide) ?_
      obtain ⟨hi12, hf⟩ := gd_s hf
      refine r_iald C0 hw 15 0 rfl rfl hi12 dX7_count_88 ?_
      obtain rfl := e1_ hf
      exact r_iret C0 hw trivial dX7_count_89
    · have hf := if_t hc11 hf
      refine lv_bipush (v := -4) hx hb dX7_count_78 (by decide) ?_
      refine lv_goto (tgt := 89) hx hb dX7_count_80 (by decide) ?_
      obtain rfl := e1_ hf
      exact r_iret C0 hw trivial dX7_count_89
  have hf := if_f hc9 hf
  by_cases hc13 : a1 = 3
  · have hf := if_t hc13 hf
    refine lv_tableIn (tgt := 90) hx hb dX7_count_1 (by rw [hc13]; decide) (by rw [hc13]; decide) (by rw [hc13]; rfl) (by decide) ?_
    refine lv_aload_n hx hb dX7_count_90 rfl (lv_at hl 0 rfl) ?_
    obtain ⟨r14, hk15, hf⟩ := b1_s hf
    refine rv_i (vq := (RX7, TX7, 28)) (As := []) (rest := []) (bs' := [pMo κ qm m_state m_tape m_taped m_fault m_broken m_brokenAt m_spot m_here m_token m_value m_ends m_letters m_moments m_stepsAt m_steps m_latest m_matrix m_sides m_tried m_answers m_rowOf m_whole m_shares m_isKept m_lanes m_lengths m_cells m_torn]) C0 hw (cMo_bare l D κ qm m_state m_tape m_taped m_fault m_broken m_brokenAt m_spot m_here m_token m_value m_ends m_letters m_moments m_stepsAt m_steps m_latest m_matrix m_sides m_tried m_answers m_rowOf m_whole m_shares m_isKept m_lanes m_lengths m_cells m_torn r14 hk15) cv_RX7_297 ⟨rfl, rfl, Nat.le_of_ble_eq_true rfl, Nat.le_of_ble_eq_true rfl⟩ ⟨Nat.zero_le _, Nat.zero_le _⟩ [0] [] [0] rfl rfl rfl rfl (by decide) rfl rfl rfl rfl rfl hl.1 (by simp only [List.map, List.sum_cons, List.sum_nil, Value.category]; decide) dX7_count_91 (fun H locs hw hn16 => ?_)
    obtain rfl := e1_ hf
    exact r_iret C0 hw trivial dX7_count_94
  have hf := if_f hc13 hf
  have hc1 := lv_neT (a := 0) hc1 (by decide)
  have hc8 := lv_neT (a := 1) hc8 (by decide)
  have hc9 := lv_neT (a := 2) hc9 (by decide)
  have hc13 := lv_neT (a := 3) hc13 (by decide)
  refine lv_tableOut (tgt := 95) hx hb dX7_count_1 (by omega) (by decide) ?_
  refine lv_iconst (v := -1) hx hb dX7_count_95 (by decide) ?_
  obtain rfl := e1_ hf
  exact r_iret C0 hw trivial dX7_count_96
