/-! the law's loop -/
theorem and31 (z : Int32) : ∃ k : Nat, k < 32 ∧ z &&& (31 : Int32) = nI k := by
  refine ⟨z.toBitVec.toNat &&& 31, ?_, ?_⟩
  · exact Nat.lt_of_le_of_lt Nat.and_le_right (by decide)
  · apply Int32.toBitVec_inj.mp
    apply BitVec.eq_of_toNat_eq
    have h1 : (z &&& (31 : Int32)).toBitVec.toNat = z.toBitVec.toNat &&& 31 := by
      show (z.toBitVec &&& (31 : Int32).toBitVec).toNat = _
      rw [BitVec.toNat_and]
      rfl
    have h2 : (nI (z.toBitVec.toNat &&& 31)).toBitVec.toNat = (z.toBitVec.toNat &&& 31) % 2 ^ 32 := by
      show (BitVec.ofNat 32 (z.toBitVec.toNat &&& 31)).toNat = _
      rw [BitVec.toNat_ofNat]
    rw [h1, h2, Nat.mod_eq_of_lt]
    exact Nat.lt_of_le_of_lt Nat.and_le_right (by decide)
set_option maxHeartbeats 4000000 in
set_option maxRecDepth 100000 in
theorem law_loop {p : Program} {l : Launch} {e : Env} {s : State} {m : MethodId} {below : List Frame} {meth : Method} {cd : Code} {b N : Nat} {xs : Nat → Int32} {D : va_G} {κ : Nat → ClassId} {adK adV : Nat → Nat} {cells slots : Nat} {qx qm : Nat → Nat} (C0 : cx_ p s m meth cd #[Value.ref b] cL_law R_law ret 4 (fun q : Nat => s.heap.size ≤ q)) (hX : va_X b N xs s s.heap) (hbl : b < s.heap.size) (hE : ex_ adK adV (fun q : Nat => s.heap.size ≤ q) s) (hcs : cells ≤ room_1.cells ∧ slots ≤ room_1.slots) (hN : N ≤ 2560) :
    ∀ (n i : Nat) (x : Int32) (qp qt qb qu qg qf qd qia qi0 qi1 qsa qh0 qh1 qh2 qh3 : Nat → Nat) (x_kept : Nat → Int32) (x_textFault x_readFault : Int32) (p_bytes : Nat → Int32) (p_size t_lines t_fault t_faultPlace t_kind t_start t_stop t_value : Int32) (b_moments b_gains b_topped b_endStiffs b_outs b_endsAt b_stiffAt b_stepsAt : Nat → Int32) (b_steps b_latest : Int32) (u_unknowns : Nat → Int32) (u_size : Int32) (g_M : Nat → Nat → Int64) (f_held f_couples f_endJoints f_lengths f_stiffs f_loadBeams f_loadSizes f_loadPlaces : Nat → Int32) (f_joints f_beams f_loads : Int32) (d_held d_couples d_endJoints d_lengths d_stiffs d_loadBeams d_loadSizes d_loadPlaces : Nat → Int32) (d_joints d_beams d_loads : Int32) (i0_held i0_couples i0_endJoints i0_lengths i0_stiffs i0_loadBeams i0_loadSizes i0_loadPlaces : Nat → Int32) (i0_joints i0_beams i0_loads : Int32) (i1_held i1_couples i1_endJoints i1_lengths i1_stiffs i1_loadBeams i1_loadSizes i1_loadPlaces : Nat → Int32) (i1_joints i1_beams i1_loads : Int32) (h0_cells : Nat → Int32) (h0_lane h0_size : Int32) (h1_cells : Nat → Int32) (h1_lane h1_size : Int32) (h2_cells : Nat → Int32) (h2_lane h2_size : Int32) (h3_cells : Nat → Int32) (h3_lane h3_size : Int32) (m_state m_tape : Nat → Int32) (m_taped m_fault m_broken m_brokenAt m_spot m_here m_token m_value : Int32) (m_ends m_letters m_moments m_stepsAt : Nat → Int32) (m_steps m_latest : Int32) (m_matrix m_sides m_tried m_answers : Nat → Int64) (m_rowOf : Nat → Int32) (m_whole : Int64) (m_shares m_isKept m_lanes m_lengths m_cells : Nat → Int32) (m_torn : Int32) (H : Heap) (locs : List Loc) (ls : Array Slot), i ≤ N → N + 1 ≤ i + n → x = nI i → INV x_kept x_textFault x_readFault p_bytes p_size b_moments b_endStiffs b_outs b_endsAt b_stiffAt b_stepsAt b_steps b_latest f_held f_couples f_endJoints f_lengths f_stiffs f_loadBeams f_loadSizes f_loadPlaces f_joints f_beams f_loads d_held i0_held i0_couples i0_endJoints i0_lengths i0_stiffs i0_loadBeams i0_loadSizes i0_loadPlaces i0_joints i0_beams i0_loads i1_held i1_couples i1_endJoints i1_lengths i1_stiffs i1_loadBeams i1_loadSizes i1_loadPlaces i1_joints i1_beams i1_loads h0_cells h0_lane h0_size h1_cells h1_lane h1_size h2_cells h2_lane h2_size h3_cells h3_lane h3_size m_state m_tape m_taped m_fault m_ends m_letters m_moments m_stepsAt m_steps m_latest m_isKept m_lanes m_lengths m_cells m_torn → wd_ D (tys0 κ) (fun q : Nat => s.heap.size ≤ q) s (List.flatten [pJm κ qx (qp 0) (qt 0) (qb 0) (qu 0) (qia 0) (qsa 0) (qf 0) (qd 0) x_kept x_textFault x_readFault, pTa κ qp p_bytes p_size, pTe κ qt (qp 0) t_lines t_fault t_faultPlace t_kind t_start t_stop t_value, pBa κ qb b_moments b_gains b_topped b_endStiffs b_outs b_endsAt b_stiffAt b_stepsAt b_steps b_latest, pEq κ qu (qg 0) u_unknowns u_size, pGr κ qg g_M, pFr κ qf f_held f_couples f_endJoints f_lengths f_stiffs f_loadBeams f_loadSizes f_loadPlaces f_joints f_beams f_loads, pFr κ qd d_held d_couples d_endJoints d_lengths d_stiffs d_loadBeams d_loadSizes d_loadPlaces d_joints d_beams d_loads, pOa (κ 4) 2 qia [qi0 0, qi1 0], pFr κ qi0 i0_held i0_couples i0_endJoints i0_lengths i0_stiffs i0_loadBeams i0_loadSizes i0_loadPlaces i0_joints i0_beams i0_loads, pFr κ qi1 i1_held i1_couples i1_endJoints i1_lengths i1_stiffs i1_loadBeams i1_loadSizes i1_loadPlaces i1_joints i1_beams i1_loads, pOa (κ 5) 4 qsa [qh0 0, qh1 0, qh2 0, qh3 0], pSh κ qh0 h0_cells h0_lane h0_size, pSh κ qh1 h1_cells h1_lane h1_size, pSh κ qh2 h2_cells h2_lane h2_size, pSh κ qh3 h3_cells h3_lane h3_size, pMo κ qm m_state m_tape m_taped m_fault m_broken m_brokenAt m_spot m_here m_token m_value m_ends m_letters m_moments m_stepsAt m_steps m_latest m_matrix m_sides m_tried m_answers m_rowOf m_whole m_shares m_isKept m_lanes m_lengths m_cells m_torn]) H locs → lv_has ls 4 [(0, .ref b), (1, .ref (qx 0)), (2, .ref (qm 0)), (3, .int x)] → W p l e room_1 s m #[Value.ref b] below meth cd H locs cells slots (lw_Z below #[Value.ref b] s) (F0 m 18 ls []) := by
  obtain ⟨hx, hb, hr, hml, hown, hts, hlocks, -⟩ := id C0
  have hbA : ¬ (fun q : Nat => s.heap.size ≤ q) b := Nat.not_le.mpr hbl
  intro n
  induction n with
  | zero =>
    intro i x qp qt qb qu qg qf qd qia qi0 qi1 qsa qh0 qh1 qh2 qh3 x_kept x_textFault x_readFault p_bytes p_size t_lines t_fault t_faultPlace t_kind t_start t_stop t_value b_moments b_gains b_topped b_endStiffs b_outs b_endsAt b_stiffAt b_stepsAt b_steps b_latest u_unknowns u_size g_M f_held f_couples f_endJoints f_lengths f_stiffs f_loadBeams f_loadSizes f_loadPlaces f_joints f_beams f_loads d_held d_couples d_endJoints d_lengths d_stiffs d_loadBeams d_loadSizes d_loadPlaces d_joints d_beams d_loads i0_held i0_couples i0_endJoints i0_lengths i0_stiffs i0_loadBeams i0_loadSizes i0_loadPlaces i0_joints i0_beams i0_loads i1_held i1_couples i1_endJoints i1_lengths i1_stiffs i1_loadBeams i1_loadSizes i1_loadPlaces i1_joints i1_beams i1_loads h0_cells h0_lane h0_size h1_cells h1_lane h1_size h2_cells h2_lane h2_size h3_cells h3_lane h3_size m_state m_tape m_taped m_fault m_broken m_brokenAt m_spot m_here m_token m_value m_ends m_letters m_moments m_stepsAt m_steps m_latest m_matrix m_sides m_tried m_answers m_rowOf m_whole m_shares m_isKept m_lanes m_lengths m_cells m_torn H locs ls h1 h2
    exact absurd h2 (by omega)
  | succ n ih =>
    intro i x qp qt qb qu qg qf qd qia qi0 qi1 qsa qh0 qh1 qh2 qh3 x_kept x_textFault x_readFault p_bytes p_size t_lines t_fault t_faultPlace t_kind t_start t_stop t_value b_moments b_gains b_topped b_endStiffs b_outs b_endsAt b_stiffAt b_stepsAt b_steps b_latest u_unknowns u_size g_M f_held f_couples f_endJoints f_lengths f_stiffs f_loadBeams f_loadSizes f_loadPlaces f_joints f_beams f_loads d_held d_couples d_endJoints d_lengths d_stiffs d_loadBeams d_loadSizes d_loadPlaces d_joints d_beams d_loads i0_held i0_couples i0_endJoints i0_lengths i0_stiffs i0_loadBeams i0_loadSizes i0_loadPlaces i0_joints i0_beams i0_loads i1_held i1_couples i1_endJoints i1_lengths i1_stiffs i1_loadBeams i1_loadSizes i1_loadPlaces i1_joints i1_beams i1_loads h0_cells h0_lane h0_size h1_cells h1_lane h1_size h2_cells h2_lane h2_size h3_cells h3_lane h3_size m_state m_tape m_taped m_fault m_broken m_brokenAt m_spot m_here m_token m_value m_ends m_letters m_moments m_stepsAt m_steps m_latest m_matrix m_sides m_tried m_answers m_rowOf m_whole m_shares m_isKept m_lanes m_lengths m_cells m_torn H locs ls hi hn ex hI hw hl
    refine lv_iload_n hx hb dL_law_18 rfl (lv_at hl 3 rfl) ?_
    refine lv_aload_n hx hb dL_law_19 rfl (lv_at hl 0 rfl) ?_
    refine va_slen hx hb hX hbl hbA hw.2.2.1 dL_law_20 ?_
    refine lv_iconst (v := 5) hx hb dL_law_21 (by decide) ?_
    refine lv_isub hx hb dL_law_22 ?_
    refine lv_icmp_gt (tgt := 1034) hx hb dL_law_23 (by decide) (fun _ => ?_) (fun hq => ?_)
    · refine lv_iconst (v := 1) hx hb dL_law_1034 (by decide) ?_
      refine va_forget (fun q hq => hw.2.2.1.2.2 q hq) ?_
      refine W.widen (k := 600000) (n := 7302250) hcs.1 hcs.2 ?_
      exact lw_ret hx hb hr hlocks dL_law_1035
    have hlt : i + 5 ≤ N := by
      rw [ex, Int32.lt_iff_toInt_lt, nI_toInt (by omega)] at hq
      have : (Int32.ofNat N - 5).toInt = (N : Int) - 5 := pk_sub_toInt (a := N) (b := 5) (by omega) (by omega)
      rw [this] at hq
      omega
    have hj : ∀ j : Nat, j < 5 → vp_in (x + nI j) N := fun j hj => by
      rw [ex, nI_add]
      exact vp_in_nI (by omega) (by omega)
    have hin : vp_in (x + 1) N ∧ vp_in (x + 2) N ∧ vp_in (x + 3) N ∧ vp_in (x + 4) N := ⟨hj 1 (by omega), hj 2 (by omega), hj 3 (by omega), hj 4 (by omega)⟩
    have h0 : vp_in x N := by rw [ex]; exact vp_in_nI (by omega) (by omega)
    refine lv_aload_n hx hb dL_law_26 rfl (lv_at hl 0 rfl) ?_
    refine lv_iload_n hx hb dL_law_27 rfl (lv_at hl 3 rfl) ?_
    refine va_sld hx hb hX hbl hbA hw.2.2.1 h0 dL_law_28 ?_
    refine lv_bipush (v := 31) hx hb dL_law_29 (by decide) ?_
    refine lv_iand hx hb dL_law_31 ?_
    have kk : ∀ (qp qt qb qu qg qf qd qia qi0 qi1 qsa qh0 qh1 qh2 qh3 : Nat → Nat) (x_kept : Nat → Int32) (x_textFault x_readFault : Int32) (p_bytes : Nat → Int32) (p_size t_lines t_fault t_faultPlace t_kind t_start t_stop t_value : Int32) (b_moments b_gains b_topped b_endStiffs b_outs b_endsAt b_stiffAt b_stepsAt : Nat → Int32) (b_steps b_latest : Int32) (u_unknowns : Nat → Int32) (u_size : Int32) (g_M : Nat → Nat → Int64) (f_held f_couples f_endJoints f_lengths f_stiffs f_loadBeams f_loadSizes f_loadPlaces : Nat → Int32) (f_joints f_beams f_loads : Int32) (d_held d_couples d_endJoints d_lengths d_stiffs d_loadBeams d_loadSizes d_loadPlaces : Nat → Int32) (d_joints d_beams d_loads : Int32) (i0_held i0_couples i0_endJoints i0_lengths i0_stiffs i0_loadBeams i0_loadSizes i0_loadPlaces : Nat → Int32) (i0_joints i0_beams i0_loads : Int32) (i1_held i1_couples i1_endJoints i1_lengths i1_stiffs i1_loadBeams i1_loadSizes i1_loadPlaces : Nat → Int32) (i1_joints i1_beams i1_loads : Int32) (h0_cells : Nat → Int32) (h0_lane h0_size : Int32) (h1_cells : Nat → Int32) (h1_lane h1_size : Int32) (h2_cells : Nat → Int32) (h2_lane h2_size : Int32) (h3_cells : Nat → Int32) (h3_lane h3_size : Int32) (m_state m_tape : Nat → Int32) (m_taped m_fault m_broken m_brokenAt m_spot m_here m_token m_value : Int32) (m_ends m_letters m_moments m_stepsAt : Nat → Int32) (m_steps m_latest : Int32) (m_matrix m_sides m_tried m_answers : Nat → Int64) (m_rowOf : Nat → Int32) (m_whole : Int64) (m_shares m_isKept m_lanes m_lengths m_cells : Nat → Int32) (m_torn : Int32) (H : Heap) (locs : List Loc), INV x_kept x_textFault x_readFault p_bytes p_size b_moments b_endStiffs b_outs b_endsAt b_stiffAt b_stepsAt b_steps b_latest f_held f_couples f_endJoints f_lengths f_stiffs f_loadBeams f_loadSizes f_loadPlaces f_joints f_beams f_loads d_held i0_held i0_couples i0_endJoints i0_lengths i0_stiffs i0_loadBeams i0_loadSizes i0_loadPlaces i0_joints i0_beams i0_loads i1_held i1_couples i1_endJoints i1_lengths i1_stiffs i1_loadBeams i1_loadSizes i1_loadPlaces i1_joints i1_beams i1_loads h0_cells h0_lane h0_size h1_cells h1_lane h1_size h2_cells h2_lane h2_size h3_cells h3_lane h3_size m_state m_tape m_taped m_fault m_ends m_letters m_moments m_stepsAt m_steps m_latest m_isKept m_lanes m_lengths m_cells m_torn → wd_ D (tys0 κ) (fun q : Nat => s.heap.size ≤ q) s (List.flatten [pJm κ qx (qp 0) (qt 0) (qb 0) (qu 0) (qia 0) (qsa 0) (qf 0) (qd 0) x_kept x_textFault x_readFault, pTa κ qp p_bytes p_size, pTe κ qt (qp 0) t_lines t_fault t_faultPlace t_kind t_start t_stop t_value, pBa κ qb b_moments b_gains b_topped b_endStiffs b_outs b_endsAt b_stiffAt b_stepsAt b_steps b_latest, pEq κ qu (qg 0) u_unknowns u_size, pGr κ qg g_M, pFr κ qf f_held f_couples f_endJoints f_lengths f_stiffs f_loadBeams f_loadSizes f_loadPlaces f_joints f_beams f_loads, pFr κ qd d_held d_couples d_endJoints d_lengths d_stiffs d_loadBeams d_loadSizes d_loadPlaces d_joints d_beams d_loads, pOa (κ 4) 2 qia [qi0 0, qi1 0], pFr κ qi0 i0_held i0_couples i0_endJoints i0_lengths i0_stiffs i0_loadBeams i0_loadSizes i0_loadPlaces i0_joints i0_beams i0_loads, pFr κ qi1 i1_held i1_couples i1_endJoints i1_lengths i1_stiffs i1_loadBeams i1_loadSizes i1_loadPlaces i1_joints i1_beams i1_loads, pOa (κ 5) 4 qsa [qh0 0, qh1 0, qh2 0, qh3 0], pSh κ qh0 h0_cells h0_lane h0_size, pSh κ qh1 h1_cells h1_lane h1_size, pSh κ qh2 h2_cells h2_lane h2_size, pSh κ qh3 h3_cells h3_lane h3_size, pMo κ qm m_state m_tape m_taped m_fault m_broken m_brokenAt m_spot m_here m_token m_value m_ends m_letters m_moments m_stepsAt m_steps m_latest m_matrix m_sides m_tried m_answers m_rowOf m_whole m_shares m_isKept m_lanes m_lengths m_cells m_torn]) H locs → W p l e room_1 s m #[Value.ref b] below meth cd H locs cells slots (lw_Z below #[Value.ref b] s) (F0 m 1028 ls []) := by
      intro qp qt qb qu qg qf qd qia qi0 qi1 qsa qh0 qh1 qh2 qh3 x_kept x_textFault x_readFault p_bytes p_size t_lines t_fault t_faultPlace t_kind t_start t_stop t_value b_moments b_gains b_topped b_endStiffs b_outs b_endsAt b_stiffAt b_stepsAt b_steps b_latest u_unknowns u_size g_M f_held f_couples f_endJoints f_lengths f_stiffs f_loadBeams f_loadSizes f_loadPlaces f_joints f_beams f_loads d_held d_couples d_endJoints d_lengths d_stiffs d_loadBeams d_loadSizes d_loadPlaces d_joints d_beams d_loads i0_held i0_couples i0_endJoints i0_lengths i0_stiffs i0_loadBeams i0_loadSizes i0_loadPlaces i0_joints i0_beams i0_loads i1_held i1_couples i1_endJoints i1_lengths i1_stiffs i1_loadBeams i1_loadSizes i1_loadPlaces i1_joints i1_beams i1_loads h0_cells h0_lane h0_size h1_cells h1_lane h1_size h2_cells h2_lane h2_size h3_cells h3_lane h3_size m_state m_tape m_taped m_fault m_broken m_brokenAt m_spot m_here m_token m_value m_ends m_letters m_moments m_stepsAt m_steps m_latest m_matrix m_sides m_tried m_answers m_rowOf m_whole m_shares m_isKept m_lanes m_lengths m_cells m_torn H locs hI hw
      refine lv_iinc (v := x + 5) (lv' := [(3, .int (x + 5)), (0, .ref b), (1, .ref (qx 0)), (2, .ref (qm 0))]) hx hb dL_law_1028 hl (k := 3) rfl rfl (by decide) rfl (fun ls hl => ?_)
      refine lv_goto (tgt := 18) hx hb dL_law_1031 (by decide) ?_
      exact ih (i + 5) (x + 5) qp qt qb qu qg qf qd qia qi0 qi1 qsa qh0 qh1 qh2 qh3 x_kept x_textFault x_readFault p_bytes p_size t_lines t_fault t_faultPlace t_kind t_start t_stop t_value b_moments b_gains b_topped b_endStiffs b_outs b_endsAt b_stiffAt b_stepsAt b_steps b_latest u_unknowns u_size g_M f_held f_couples f_endJoints f_lengths f_stiffs f_loadBeams f_loadSizes f_loadPlaces f_joints f_beams f_loads d_held d_couples d_endJoints d_lengths d_stiffs d_loadBeams d_loadSizes d_loadPlaces d_joints d_beams d_loads i0_held i0_couples i0_endJoints i0_lengths i0_stiffs i0_loadBeams i0_loadSizes i0_loadPlaces i0_joints i0_beams i0_loads i1_held i1_couples i1_endJoints i1_lengths i1_stiffs i1_loadBeams i1_loadSizes i1_loadPlaces i1_joints i1_beams i1_loads h0_cells h0_lane h0_size h1_cells h1_lane h1_size h2_cells h2_lane h2_size h3_cells h3_lane h3_size m_state m_tape m_taped m_fault m_broken m_brokenAt m_spot m_here m_token m_value m_ends m_letters m_moments m_stepsAt m_steps m_latest m_matrix m_sides m_tried m_answers m_rowOf m_whole m_shares m_isKept m_lanes m_lengths m_cells m_torn H locs ls (by omega) (by omega) (by rw [ex]; exact nI_add i 5) hI hw (lv_sub hl [1, 2, 3, 0] rfl)
    obtain ⟨k, hk, hy⟩ := and31 (xs x.toNatClampNeg)
    by_cases h30 : 30 ≤ k
    · refine lv_tableOut (tgt := 1028) hx hb dL_law_32 (Or.inr (by rw [hy, nI_toInt (by omega)]; omega)) (by decide) ?_
      exact kk qp qt qb qu qg qf qd qia qi0 qi1 qsa qh0 qh1 qh2 qh3 x_kept x_textFault x_readFault p_bytes p_size t_lines t_fault t_faultPlace t_kind t_start t_stop t_value b_moments b_gains b_topped b_endStiffs b_outs b_endsAt b_stiffAt b_stepsAt b_steps b_latest u_unknowns u_size g_M f_held f_couples f_endJoints f_lengths f_stiffs f_loadBeams f_loadSizes f_loadPlaces f_joints f_beams f_loads d_held d_couples d_endJoints d_lengths d_stiffs d_loadBeams d_loadSizes d_loadPlaces d_joints d_beams d_loads i0_held i0_couples i0_endJoints i0_lengths i0_stiffs i0_loadBeams i0_loadSizes i0_loadPlaces i0_joints i0_beams i0_loads i1_held i1_couples i1_endJoints i1_lengths i1_stiffs i1_loadBeams i1_loadSizes i1_loadPlaces i1_joints i1_beams i1_loads h0_cells h0_lane h0_size h1_cells h1_lane h1_size h2_cells h2_lane h2_size h3_cells h3_lane h3_size m_state m_tape m_taped m_fault m_broken m_brokenAt m_spot m_here m_token m_value m_ends m_letters m_moments m_stepsAt m_steps m_latest m_matrix m_sides m_tried m_answers m_rowOf m_whole m_shares m_isKept m_lanes m_lengths m_cells m_torn H locs hI hw
    rcases (show k = 0 ∨ k = 1 ∨ k = 2 ∨ k = 3 ∨ k = 4 ∨ k = 5 ∨ k = 6 ∨ k = 7 ∨ k = 8 ∨ k = 9 ∨ k = 10 ∨ k = 11 ∨ k = 12 ∨ k = 13 ∨ k = 14 ∨ k = 15 ∨ k = 16 ∨ k = 17 ∨ k = 18 ∨ k = 19 ∨ k = 20 ∨ k = 21 ∨ k = 22 ∨ k = 23 ∨ k = 24 ∨ k = 25 ∨ k = 26 ∨ k = 27 ∨ k = 28 ∨ k = 29 by omega) with rfl | rfl | rfl | rfl | rfl | rfl | rfl | rfl | rfl | rfl | rfl | rfl | rfl | rfl | rfl | rfl | rfl | rfl | rfl | rfl | rfl | rfl | rfl | rfl | rfl | rfl | rfl | rfl | rfl | rfl
    · refine lv_tableIn (off := 136) (tgt := 168) hx hb dL_law_32 (by rw [hy]; decide) (by rw [hy]; decide) (by rw [hy]; rfl) (by decide) ?_
      exact lc_feed C0 hX hbl hE hcs hin hI hw hl kk
    · refine lv_tableIn (off := 159) (tgt := 191) hx hb dL_law_32 (by rw [hy]; decide) (by rw [hy]; decide) (by rw [hy]; rfl) (by decide) ?_
      exact lc_end C0 hX hbl hE hcs hin hI hw hl kk
    · refine lv_tableIn (off := 182) (tgt := 214) hx hb dL_law_32 (by rw [hy]; decide) (by rw [hy]; decide) (by rw [hy]; rfl) (by decide) ?_
      exact lc_text C0 hX hbl hE hcs hin hI hw hl kk
    · refine lv_tableIn (off := 195) (tgt := 227) hx hb dL_law_32 (by rw [hy]; decide) (by rw [hy]; decide) (by rw [hy]; rfl) (by decide) ?_
      exact lc_fault C0 hX hbl hE hcs hin hI hw hl kk
    · refine lv_tableIn (off := 208) (tgt := 240) hx hb dL_law_32 (by rw [hy]; decide) (by rw [hy]; decide) (by rw [hy]; rfl) (by decide) ?_
      exact lc_rule C0 hX hbl hE hcs hin hI hw hl kk
    · refine lv_tableIn (off := 231) (tgt := 263) hx hb dL_law_32 (by rw [hy]; decide) (by rw [hy]; decide) (by rw [hy]; rfl) (by decide) ?_
      exact lc_joint C0 hX hbl hE hcs hin hI hw hl kk
    · refine lv_tableIn (off := 264) (tgt := 296) hx hb dL_law_32 (by rw [hy]; decide) (by rw [hy]; decide) (by rw [hy]; rfl) (by decide) ?_
      exact lc_out C0 hX hbl hE hcs hin hI hw hl kk
    · refine lv_tableIn (off := 297) (tgt := 329) hx hb dL_law_32 (by rw [hy]; decide) (by rw [hy]; decide) (by rw [hy]; rfl) (by decide) ?_
      exact lc_at C0 hX hbl hE hcs hin hI hw hl kk
    · refine lv_tableIn (off := 330) (tgt := 362) hx hb dL_law_32 (by rw [hy]; decide) (by rw [hy]; decide) (by rw [hy]; rfl) (by decide) ?_
      exact lc_beam C0 hX hbl hE hcs hin hI hw hl kk
    · refine lv_tableIn (off := 363) (tgt := 395) hx hb dL_law_32 (by rw [hy]; decide) (by rw [hy]; decide) (by rw [hy]; rfl) (by decide) ?_
      exact lc_load C0 hX hbl hE hcs hin hI hw hl kk
    · refine lv_tableIn (off := 396) (tgt := 428) hx hb dL_law_32 (by rw [hy]; decide) (by rw [hy]; decide) (by rw [hy]; rfl) (by decide) ?_
      exact lc_moment C0 hX hbl hE hcs hin hI hw hl kk
    · refine lv_tableIn (off := 429) (tgt := 461) hx hb dL_law_32 (by rw [hy]; decide) (by rw [hy]; decide) (by rw [hy]; rfl) (by decide) ?_
      exact lc_share C0 hX hbl hE hcs hin hI hw hl kk
    · refine lv_tableIn (off := 462) (tgt := 494) hx hb dL_law_32 (by rw [hy]; decide) (by rw [hy]; decide) (by rw [hy]; rfl) (by decide) ?_
      exact lc_rank C0 hX hbl hE hcs hin hI hw hl kk
    · refine lv_tableIn (off := 485) (tgt := 517) hx hb dL_law_32 (by rw [hy]; decide) (by rw [hy]; decide) (by rw [hy]; rfl) (by decide) ?_
      exact lc_next C0 hX hbl hE hcs hin hI hw hl kk
    · refine lv_tableIn (off := 508) (tgt := 540) hx hb dL_law_32 (by rw [hy]; decide) (by rw [hy]; decide) (by rw [hy]; rfl) (by decide) ?_
      exact lc_step C0 hX hbl hE hcs hin hI hw hl kk
    · refine lv_tableIn (off := 531) (tgt := 563) hx hb dL_law_32 (by rw [hy]; decide) (by rw [hy]; decide) (by rw [hy]; rfl) (by decide) ?_
      exact lc_sweep C0 hX hbl hE hcs hin hI hw hl kk
    · refine lv_tableIn (off := 564) (tgt := 596) hx hb dL_law_32 (by rw [hy]; decide) (by rw [hy]; decide) (by rw [hy]; rfl) (by decide) ?_
      exact lc_begin C0 hX hbl hE hcs hin hI hw hl kk
    · refine lv_tableIn (off := 577) (tgt := 609) hx hb dL_law_32 (by rw [hy]; decide) (by rw [hy]; decide) (by rw [hy]; rfl) (by decide) ?_
      exact lc_couple C0 hX hbl hE hcs hin hI hw hl kk
    · refine lv_tableIn (off := 610) (tgt := 642) hx hb dL_law_32 (by rw [hy]; decide) (by rw [hy]; decide) (by rw [hy]; rfl) (by decide) ?_
      exact lc_hold C0 hX hbl hE hcs hin hI hw hl kk
    · refine lv_tableIn (off := 643) (tgt := 675) hx hb dL_law_32 (by rw [hy]; decide) (by rw [hy]; decide) (by rw [hy]; rfl) (by decide) ?_
      exact lc_stiffen C0 hX hbl hE hcs hin hI hw hl kk
    · refine lv_tableIn (off := 676) (tgt := 708) hx hb dL_law_32 (by rw [hy]; decide) (by rw [hy]; decide) (by rw [hy]; rfl) (by decide) ?_
      exact lc_put C0 hX hbl hE hcs hin hI hw hl kk
    · refine lv_tableIn (off := 719) (tgt := 751) hx hb dL_law_32 (by rw [hy]; decide) (by rw [hy]; decide) (by rw [hy]; rfl) (by decide) ?_
      exact lc_lift C0 hX hbl hE hcs hin hI hw hl kk
    · refine lv_tableIn (off := 742) (tgt := 774) hx hb dL_law_32 (by rw [hy]; decide) (by rw [hy]; decide) (by rw [hy]; rfl) (by decide) ?_
      exact lc_fall C0 hX hbl hE hcs hin hI hw hl kk
    · refine lv_tableIn (off := 775) (tgt := 807) hx hb dL_law_32 (by rw [hy]; decide) (by rw [hy]; decide) (by rw [hy]; rfl) (by decide) ?_
      exact lc_keep C0 hX hbl hE hcs hin hI hw hl kk
    · refine lv_tableIn (off := 798) (tgt := 830) hx hb dL_law_32 (by rw [hy]; decide) (by rw [hy]; decide) (by rw [hy]; rfl) (by decide) ?_
      exact lc_back C0 hX hbl hE hcs hin hI hw hl kk
    · refine lv_tableIn (off := 821) (tgt := 853) hx hb dL_law_32 (by rw [hy]; decide) (by rw [hy]; decide) (by rw [hy]; rfl) (by decide) ?_
      exact lc_sheet C0 hX hbl hE hcs hin hI hw hl kk
    · refine lv_tableIn (off := 864) (tgt := 896) hx hb dL_law_32 (by rw [hy]; decide) (by rw [hy]; decide) (by rw [hy]; rfl) (by decide) ?_
      exact lc_lay C0 hX hbl hE hcs hin hI hw hl kk
    · refine lv_tableIn (off := 907) (tgt := 939) hx hb dL_law_32 (by rw [hy]; decide) (by rw [hy]; decide) (by rw [hy]; rfl) (by decide) ?_
      exact lc_read C0 hX hbl hE hcs hin hI hw hl kk
    · refine lv_tableIn (off := 960) (tgt := 992) hx hb dL_law_32 (by rw [hy]; decide) (by rw [hy]; decide) (by rw [hy]; rfl) (by decide) ?_
      exact lc_torn C0 hX hbl hE hcs hin hI hw hl kk
    · refine lv_tableIn (off := 973) (tgt := 1005) hx hb dL_law_32 (by rw [hy]; decide) (by rw [hy]; decide) (by rw [hy]; rfl) (by decide) ?_
      exact lc_count C0 hX hbl hE hcs hin hI hw hl kk
