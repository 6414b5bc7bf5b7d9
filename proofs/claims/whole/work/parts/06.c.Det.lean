theorem hs_X1_determinant : yX1_determinant.cls ≠ "java/lang/invoke/MethodHandle" ∧ yX1_determinant.cls ≠ "java/lang/invoke/VarHandle" ∧ (parseMethodDescriptor yX1_determinant.desc).map (fun d => d.parameters.length) = some 5 := by decide +kernel
theorem cs_X1_28 : cs_ RX1 28 yX1_determinant cX1_determinant 13 (some .long) 5 := ⟨uw_3 (List.mem_of_getElem? (i := 43) rfl) rfl, uw_3 (List.mem_of_getElem? (i := 44) rfl) rfl, uw_1 (List.mem_of_getElem? (i := 5) rfl) rfl, uw_3 (List.mem_of_getElem? (i := 45) rfl) rfl, hs_X1_determinant⟩
theorem rec_le (n : Nat) : 8 + (13 + 11) + n * 32 ≤ (n + 1) * 32 := by omega
def FEq_determinant_L16 (rc_ : Int32 → Int32 → Int32 → Int32 → Option (Int64)) (g_M : Nat → Nat → Int64) (l1 l2 l3 l4 : Int32) : Nat → Int64 → Int32 → Int32 → Option (Int64)
  | 0, _, _, _ => none
  | n + 1, l5, l7, l8 =>
      if l1 ≤ l8 then
        some (l5)
      else
        if ((l4 >>> (l8 &&& 31)) &&& (1 : Int32)) = 0 then
          gd_ l3 4 <|
          lt_ (fun (v5 : Int32) =>
            gd_ v5 5 <|
            lt_ (g_M l3.toNatClampNeg v5.toNatClampNeg) fun v7 =>
            if (lg_cmp v7 (0 : Int64)) = 0 then
              if l7 = 0 then
                lt_ (l8 + (1 : Int32)) fun v11 =>
                FEq_determinant_L16 rc_ g_M l1 l2 l3 l4 n l5 (1 : Int32) v11
              else
                lt_ (l8 + (1 : Int32)) fun v10 =>
                FEq_determinant_L16 rc_ g_M l1 l2 l3 l4 n l5 (0 : Int32) v10
            else
              b1_ (rc_ l1 l2 (l3 + (1 : Int32)) (l4 ||| ((1 : Int32) <<< (l8 &&& 31)))) fun r12 =>
              lt_ (v7 * r12) fun v15 =>
              if l7 = 0 then
                lt_ (l5 + v15) fun v17 =>
                if l7 = 0 then
                  lt_ (l8 + (1 : Int32)) fun v20 =>
                  FEq_determinant_L16 rc_ g_M l1 l2 l3 l4 n v17 (1 : Int32) v20
                else
                  lt_ (l8 + (1 : Int32)) fun v19 =>
                  FEq_determinant_L16 rc_ g_M l1 l2 l3 l4 n v17 (0 : Int32) v19
              else
                lt_ (l5 + (-v15)) fun v21 =>
                if l7 = 0 then
                  lt_ (l8 + (1 : Int32)) fun v24 =>
                  FEq_determinant_L16 rc_ g_M l1 l2 l3 l4 n v21 (1 : Int32) v24
                else
                  lt_ (l8 + (1 : Int32)) fun v23 =>
                  FEq_determinant_L16 rc_ g_M l1 l2 l3 l4 n v21 (0 : Int32) v23 : Int32 → Option (Int64)) fun j25 =>
          if l8 = l2 then
            j25 (4 : Int32)
          else
            j25 l8
        else
          lt_ (l8 + (1 : Int32)) fun v28 =>
          FEq_determinant_L16 rc_ g_M l1 l2 l3 l4 n l5 l7 v28
def FEq_determinant (g_M : Nat → Nat → Int64) : Nat → Int32 → Int32 → Int32 → Int32 → Option (Int64)
  | 0, _, _, _, _ => none
  | n0 + 1, a2, a3, a4, a5 =>
      if a4 < a2 then
        FEq_determinant_L16 (FEq_determinant g_M n0) g_M a2 a3 a4 a5 1000 (0 : Int64) (0 : Int32) (0 : Int32)
      else
        some ((1 : Int64))
set_option maxHeartbeats 4000000 in
set_option maxRecDepth 100000 in
theorem wEq_determinant_L16 {p : Program} {l : Launch} {e : Env} {s : State} {m : MethodId} {args : Array Value} {below : List Frame} {meth : Method} {c : Code} {A : Nat → Prop} {D : va_G} {κ : Nat → ClassId} (C0 : cx_ p s m meth c args cX1_determinant RX1 (some .long) 13 A) (qg : Nat → Nat) (g_M : Nat → Nat → Int64) (l1 l2 l3 l4 : Int32) (n0 : Nat) (rc_ : Int32 → Int32 → Int32 → Int32 → Option (Int64)) (hrc_ : ∀ (a2 a3 a4 a5 : Int32) (zr : Int64), rc_ a2 a3 a4 a5 = some zr → mL_ l yX1_determinant (Cond.code yX1_determinant cX1_determinant 13 (some .long) :: uw) ({ frames := n0, cells := 0, slots := 0, locals := n0 * 32 } : Room) D (tys0 κ) [.ref (qg 0), .int a2, .int a3, .int a4, .int a5] (List.flatten [pGr κ qg g_M]) zr (List.flatten [pGr κ qg g_M])) (zr : Int64) : ∀ (n : Nat) (l5 : Int64) (l7 : Int32) (l8 : Int32) (H : Heap) (locs : List Loc) (ls : Array Slot), wd_ D (tys0 κ) A s (List.flatten [pGr κ qg g_M]) H locs → lv_has ls 13 [(0, .ref (qg 0)), (1, .int l1), (2, .int l2), (3, .int l3), (4, .int l4), (5, .long l5), (7, .int l7), (8, .int l8)] → FEq_determinant_L16 rc_ g_M l1 l2 l3 l4 n l5 l7 l8 = some zr → W p l e ({ frames := n0 + 1, cells := 0, slots := 0, locals := (n0 + 1) * 32 } : Room) s m args below meth c H locs 0 0 (qL_ D (tys0 κ) A zr (List.flatten [pGr κ qg g_M]) below args s) (F0 m 16 ls []) := by
  obtain ⟨hx, hb, -, hml, hown, hts, -, -⟩ := id C0
  intro n
  induction n with
  | zero =>
    intro l5 l7 l8 H locs ls hw hl  hf
    cases hf
  | succ n ih =>
    intro l5 l7 l8 H locs ls hw hl  hf
    rw [FEq_determinant_L16.eq_2] at hf
    refine lv_iload hx hb dX1_determinant_16 (lv_at hl 7 rfl) ?_
    refine lv_iload_n hx hb dX1_determinant_18 rfl (lv_at hl 1 rfl) ?_
    refine lv_icmp_ge (tgt := 117) hx hb dX1_determinant_19 (by decide) (fun hc2 => ?_) (fun hc2 => ?_)
    · have hf := if_t hc2 hf
      refine lv_lload hx hb dX1_determinant_117 (lv_at hl 5 rfl) ?_
      obtain rfl := e1_ hf
      exact r_lret C0 hw dX1_determinant_119
    · have hf := if_f hc2 hf
      refine lv_iload hx hb dX1_determinant_22 (lv_at hl 4 rfl) ?_
      refine lv_iload hx hb dX1_determinant_24 (lv_at hl 7 rfl) ?_
      refine lv_ishr hx hb dX1_determinant_26 ?_
      refine lv_iconst (v := 1) hx hb dX1_determinant_27 (by decide) ?_
      refine lv_iand hx hb dX1_determinant_28 ?_
      refine lv_if_eq (tgt := 35) hx hb dX1_determinant_29 (by decide) (fun hc3 => ?_) (fun hc3 => ?_)
      · have hf := if_t hc3 hf
        refine lv_aload_n hx hb dX1_determinant_35 rfl (lv_at hl 0 rfl) ?_
        refine lv_iload_n hx hb dX1_determinant_36 rfl (lv_at hl 3 rfl) ?_
        obtain ⟨hi4, hf⟩ := gd_s hf
        refine r_aldg C0 hw 0 6 rfl rfl hi4 rfl dX1_determinant_37 ?_
        refine lv_iload hx hb dX1_determinant_38 (lv_at hl 7 rfl) ?_
        refine lv_iload_n hx hb dX1_determinant_40 rfl (lv_at hl 2 rfl) ?_
        obtain ⟨j25, ej25, hf⟩ := lt_e hf
        have hj26 : ∀ (v5 : Int32) (H : Heap) (locs : List Loc) (ls : Array Slot), wd_ D (tys0 κ) A s (List.flatten [pGr κ qg g_M]) H locs → lv_has ls 13 [(0, .ref (qg 0)), (1, .int l1), (2, .int l2), (3, .int l3), (4, .int l4), (5, .long l5), (7, .int l7), (8, .int l8)] → j25 v5 = some zr → W p l e ({ frames := n0 + 1, cells := 0, slots := 0, locals := (n0 + 1) * 32 } : Room) s m args below meth c H locs 0 0 (qL_ D (tys0 κ) A zr (List.flatten [pGr κ qg g_M]) below args s) (F0 m 50 ls [.int v5, .ref (qg (l3.toNatClampNeg + 1))]) := by
          intro v5 H locs ls hw hl  hf
          have hf : (gd_ v5 5 <| lt_ (g_M l3.toNatClampNeg v5.toNatClampNeg) fun v7 => if (lg_cmp v7 (0 : Int64)) = 0 then if l7 = 0 then lt_ (l8 + (1 : Int32)) fun v11 => FEq_determinant_L16 rc_ g_M l1 l2 l3 l4 n l5 (1 : Int32) v11 else lt_ (l8 + (1 : Int32)) fun v10 => FEq_determinant_L16 rc_ g_M l1 l2 l3 l4 n l5 (0 : Int32) v10 else b1_ (rc_ l1 l2 (l3 + (1 : Int32)) (l4 ||| ((1 : Int32) <<< (l8 &&& 31)))) fun r12 => lt_ (v7 * r12) fun v15 => if l7 = 0 then lt_ (l5 + v15) fun v17 => if l7 = 0 then lt_ (l8 + (1 : Int32)) fun v20 => FEq_determinant_L16 rc_ g_M l1 l2 l3 l4 n v17 (1 : Int32) v20 else lt_ (l8 + (1 : Int32)) fun v19 => FEq_determinant_L16 rc_ g_M l1 l2 l3 l4 n v17 (0 : Int32) v19 else lt_ (l5 + (-v15)) fun v21 => if l7 = 0 then lt_ (l8 + (1 : Int32)) fun v24 => FEq_determinant_L16 rc_ g_M l1 l2 l3 l4 n v21 (1 : Int32) v24 else lt_ (l8 + (1 : Int32)) fun v23 => FEq_determinant_L16 rc_ g_M l1 l2 l3 l4 n v21 (0 : Int32) v23) = some zr := by rw [ej25] at hf; exact hf
          obtain ⟨hi6, hf⟩ := gd_s hf
          refine r_gald C0 hw 0 3 (M := g_M) rfl rfl rfl rfl rfl hi4 hi6 dX1_determinant_50 ?_
          refine lv_topl (fun v7 ev7 => ?_)
          have hf := lt_s_ hf v7 ev7
          refine lv_lstore (lv' := [(9, .long v7), (0, .ref (qg 0)), (1, .int l1), (2, .int l2), (3, .int l3), (4, .int l4), (5, .long l5), (7, .int l7), (8, .int l8)]) hx hb dX1_determinant_51 hl (by decide) rfl (fun ls hl => ?_)
          refine lv_lload hx hb dX1_determinant_53 (lv_at hl 0 rfl) ?_
          refine lv_lconst (v := 0) hx hb dX1_determinant_55 (by decide) ?_
          refine W.lcmp hx hb dX1_determinant_56 ?_
          refine lv_if_eq (tgt := 99) hx hb dX1_determinant_57 (by decide) (fun hc8 => ?_) (fun hc8 => ?_)
          · have hf := if_t hc8 hf
            refine lv_iload hx hb dX1_determinant_99 (lv_at hl 7 rfl) ?_
            refine lv_if_ne (tgt := 108) hx hb dX1_determinant_101 (by decide) (fun hc9 => ?_) (fun hc9 => ?_)
            · have hf := if_f hc9 hf
              refine lv_iconst (v := 0) hx hb dX1_determinant_108 (by decide) ?_
              refine lv_istore (lv' := [(7, .int (0 : Int32)), (9, .long v7), (0, .ref (qg 0)), (1, .int l1), (2, .int l2), (3, .int l3), (4, .int l4), (5, .long l5), (8, .int l8)]) hx hb dX1_determinant_109 hl (by decide) rfl (fun ls hl => ?_)
              obtain ⟨v10, ev10⟩ : ∃ z : Int32, z = (l8 + (1 : Int32)) := ⟨_, rfl⟩
              have hf := lt_s_ hf v10 ev10
              refine lv_iinc (v := v10) (lv' := [(8, .int v10), (7, .int (0 : Int32)), (9, .long v7), (0, .ref (qg 0)), (1, .int l1), (2, .int l2), (3, .int l3), (4, .int l4), (5, .long l5)]) hx hb dX1_determinant_111 hl (k := 8) rfl (by rw [ev10]; rfl) (by decide) rfl (fun ls hl => ?_)
              refine lv_goto (tgt := 16) hx hb dX1_determinant_114 (by decide) ?_
              exact ih l5 (0 : Int32) v10 H locs ls hw (lv_sub hl [3, 4, 5, 6, 7, 8, 1, 0] rfl)  hf
            · have hf := if_t hc9 hf
              refine lv_iconst (v := 1) hx hb dX1_determinant_104 (by decide) ?_
              refine lv_goto (tgt := 109) hx hb dX1_determinant_105 (by decide) ?_
              refine lv_istore (lv' := [(7, .int (1 : Int32)), (9, .long v7), (0, .ref (qg 0)), (1, .int l1), (2, .int l2), (3, .int l3), (4, .int l4), (5, .long l5), (8, .int l8)]) hx hb dX1_determinant_109 hl (by decide) rfl (fun ls hl => ?_)
              obtain ⟨v11, ev11⟩ : ∃ z : Int32, z = (l8 + (1 : Int32)) := ⟨_, rfl⟩
              have hf := lt_s_ hf v11 ev11
              refine lv_iinc (v := v11) (lv' := [(8, .int v11), (7, .int (1 : Int32)), (9, .long v7), (0, .ref (qg 0)), (1, .int l1), (2, .int l2), (3, .int l3), (4, .int l4), (5, .long l5)]) hx hb dX1_determinant_111 hl (k := 8) rfl (by rw [ev11]; rfl) (by decide) rfl (fun ls hl => ?_)
              refine lv_goto (tgt := 16) hx hb dX1_determinant_114 (by decide) ?_
              exact ih l5 (1 : Int32) v11 H locs ls hw (lv_sub hl [3, 4, 5, 6, 7, 8, 1, 0] rfl)  hf
          · have hf := if_f hc8 hf
            refine lv_lload hx hb dX1_determinant_60 (lv_at hl 0 rfl) ?_
            refine lv_aload_n hx hb dX1_determinant_62 rfl (lv_at hl 1 rfl) ?_
            refine lv_iload_n hx hb dX1_determinant_63 rfl (lv_at hl 2 rfl) ?_
            refine lv_iload_n hx hb dX1_determinant_64 rfl (lv_at hl 3 rfl) ?_
            refine lv_iload_n hx hb dX1_determinant_65 rfl (lv_at hl 4 rfl) ?_
            refine lv_iconst (v := 1) hx hb dX1_determinant_66 (by decide) ?_
            refine lv_iadd hx hb dX1_determinant_67 ?_
            refine lv_iload hx hb dX1_determinant_68 (lv_at hl 5 rfl) ?_
            refine lv_iconst (v := 1) hx hb dX1_determinant_70 (by decide) ?_
            refine lv_iload hx hb dX1_determinant_71 (lv_at hl 8 rfl) ?_
            refine lv_ishl hx hb dX1_determinant_73 ?_
            refine lv_ior hx hb dX1_determinant_74 ?_
            obtain ⟨r12, hk13, hf⟩ := b1_s hf
            refine rs_l (As := [.ref (qg 0), .int l1, .int l2, .int (l3 + (1 : Int32)), .int (l4 ||| ((1 : Int32) <<< (l8 &&& 31)))]) (rest := [.long v7]) (bs' := [pGr κ qg g_M]) C0 hw (hrc_ l1 l2 (l3 + (1 : Int32)) (l4 ||| ((1 : Int32) <<< (l8 &&& 31))) r12 hk13) cs_X1_28 ⟨rfl, rfl, Nat.le_refl _, rec_le n0⟩ ⟨Nat.zero_le _, Nat.zero_le _⟩ [0] [] [0] rfl rfl rfl rfl (by decide) rfl rfl rfl hl.1 (by simp only [List.map, List.sum_cons, List.sum_nil, Value.category]; decide) dX1_determinant_75 (fun H locs hw => ?_)
            refine lv_lmul hx hb dX1_determinant_78 ?_
            refine lv_topl (fun v15 ev15 => ?_)
            have hf := lt_s_ hf v15 ev15
            refine lv_lstore (lv' := [(11, .long v15), (9, .long v7), (0, .ref (qg 0)), (1, .int l1), (2, .int l2), (3, .int l3), (4, .int l4), (5, .long l5), (7, .int l7), (8, .int l8)]) hx hb dX1_determinant_79 hl (by decide) rfl (fun ls hl => ?_)
            refine lv_lload hx hb dX1_determinant_81 (lv_at hl 7 rfl) ?_
            refine lv_iload hx hb dX1_determinant_83 (lv_at hl 8 rfl) ?_
            refine lv_if_eq (tgt := 94) hx hb dX1_determinant_85 (by decide) (fun hc16 => ?_) (fun hc16 => ?_)
            · have hf := if_t hc16 hf
              refine lv_lload hx hb dX1_determinant_94 (lv_at hl 0 rfl) ?_
              refine lv_ladd hx hb dX1_determinant_96 ?_
              refine lv_topl (fun v17 ev17 => ?_)
              have hf := lt_s_ hf v17 ev17
              refine lv_lstore (lv' := [(5, .long v17), (11, .long v15), (9, .long v7), (0, .ref (qg 0)), (1, .int l1), (2, .int l2), (3, .int l3), (4, .int l4), (7, .int l7), (8, .int l8)]) hx hb dX1_determinant_97 hl (by decide) rfl (fun ls hl => ?_)
              refine lv_iload hx hb dX1_determinant_99 (lv_at hl 8 rfl) ?_
              refine lv_if_ne (tgt := 108) hx hb dX1_determinant_101 (by decide) (fun hc18 => ?_) (fun hc18 => ?_)
              · have hf := if_f hc18 hf
                refine lv_iconst (v := 0) hx hb dX1_determinant_108 (by decide) ?_
                refine lv_istore (lv' := [(7, .int (0 : Int32)), (5, .long v17), (11, .long v15), (9, .long v7), (0, .ref (qg 0)), (1, .int l1), (2, .int l2), (3, .int l3), (4, .int l4), (8, .int l8)]) hx hb dX1_determinant_109 hl (by decide) rfl (fun ls hl => ?_)
                obtain ⟨v19, ev19⟩ : ∃ z : Int32, z = (l8 + (1 : Int32)) := ⟨_, rfl⟩
                have hf := lt_s_ hf v19 ev19
                refine lv_iinc (v := v19) (lv' := [(8, .int v19), (7, .int (0 : Int32)), (5, .long v17), (11, .long v15), (9, .long v7), (0, .ref (qg 0)), (1, .int l1), (2, .int l2), (3, .int l3), (4, .int l4)]) hx hb dX1_determinant_111 hl (k := 9) rfl (by rw [ev19]; rfl) (by decide) rfl (fun ls hl => ?_)
                refine lv_goto (tgt := 16) hx hb dX1_determinant_114 (by decide) ?_
                exact ih v17 (0 : Int32) v19 H locs ls hw (lv_sub hl [5, 6, 7, 8, 9, 2, 1, 0] rfl)  hf
              · have hf := if_t hc18 hf
                refine lv_iconst (v := 1) hx hb dX1_determinant_104 (by decide) ?_
                refine lv_goto (tgt := 109) hx hb dX1_determinant_105 (by decide) ?_
                refine lv_istore (lv' := [(7, .int (1 : Int32)), (5, .long v17), (11, .long v15), (9, .long v7), (0, .ref (qg 0)), (1, .int l1), (2, .int l2), (3, .int l3), (4, .int l4), (8, .int l8)]) hx hb dX1_determinant_109 hl (by decide) rfl (fun ls hl => ?_)
                obtain ⟨v20, ev20⟩ : ∃ z : Int32, z = (l8 + (1 : Int32)) := ⟨_, rfl⟩
                have hf := lt_s_ hf v20 ev20
                refine lv_iinc (v := v20) (lv' := [(8, .int v20), (7, .int (1 : Int32)), (5, .long v17), (11, .long v15), (9, .long v7), (0, .ref (qg 0)), (1, .int l1), (2, .int l2), (3, .int l3), (4, .int l4)]) hx hb dX1_determinant_111 hl (k := 9) rfl (by rw [ev20]; rfl) (by decide) rfl (fun ls hl => ?_)
                refine lv_goto (tgt := 16) hx hb dX1_determinant_114 (by decide) ?_
                exact ih v17 (1 : Int32) v20 H locs ls hw (lv_sub hl [5, 6, 7, 8, 9, 2, 1, 0] rfl)  hf
            · have hf := if_f hc16 hf
              refine lv_lload hx hb dX1_determinant_88 (lv_at hl 0 rfl) ?_
              refine lv_lneg hx hb dX1_determinant_90 ?_
              refine lv_goto (tgt := 96) hx hb dX1_determinant_91 (by decide) ?_
              refine lv_ladd hx hb dX1_determinant_96 ?_
              refine lv_topl (fun v21 ev21 => ?_)
              have hf := lt_s_ hf v21 ev21
              refine lv_lstore (lv' := [(5, .long v21), (11, .long v15), (9, .long v7), (0, .ref (qg 0)), (1, .int l1), (2, .int l2), (3, .int l3), (4, .int l4), (7, .int l7), (8, .int l8)]) hx hb dX1_determinant_97 hl (by decide) rfl (fun ls hl => ?_)
              refine lv_iload hx hb dX1_determinant_99 (lv_at hl 8 rfl) ?_
              refine lv_if_ne (tgt := 108) hx hb dX1_determinant_101 (by decide) (fun hc22 => ?_) (fun hc22 => ?_)
              · have hf := if_f hc22 hf
                refine lv_iconst (v := 0) hx hb dX1_determinant_108 (by decide) ?_
                refine lv_istore (lv' := [(7, .int (0 : Int32)), (5, .long v21), (11, .long v15), (9, .long v7), (0, .ref (qg 0)), (1, .int l1), (2, .int l2), (3, .int l3), (4, .int l4), (8, .int l8)]) hx hb dX1_determinant_109 hl (by decide) rfl (fun ls hl => ?_)
                obtain ⟨v23, ev23⟩ : ∃ z : Int32, z = (l8 + (1 : Int32)) := ⟨_, rfl⟩
                have hf := lt_s_ hf v23 ev23
                refine lv_iinc (v := v23) (lv' := [(8, .int v23), (7, .int (0 : Int32)), (5, .long v21), (11, .long v15), (9, .long v7), (0, .ref (qg 0)), (1, .int l1), (2, .int l2), (3, .int l3), (4, .int l4)]) hx hb dX1_determinant_111 hl (k := 9) rfl (by rw [ev23]; rfl) (by decide) rfl (fun ls hl => ?_)
                refine lv_goto (tgt := 16) hx hb dX1_determinant_114 (by decide) ?_
                exact ih v21 (0 : Int32) v23 H locs ls hw (lv_sub hl [5, 6, 7, 8, 9, 2, 1, 0] rfl)  hf
              · have hf := if_t hc22 hf
                refine lv_iconst (v := 1) hx hb dX1_determinant_104 (by decide) ?_
                refine lv_goto (tgt := 109) hx hb dX1_determinant_105 (by decide) ?_
                refine lv_istore (lv' := [(7, .int (1 : Int32)), (5, .long v21), (11, .long v15), (9, .long v7), (0, .ref (qg 0)), (1, .int l1), (2, .int l2), (3, .int l3), (4, .int l4), (8, .int l8)]) hx hb dX1_determinant_109 hl (by decide) rfl (fun ls hl => ?_)
                obtain ⟨v24, ev24⟩ : ∃ z : Int32, z = (l8 + (1 : Int32)) := ⟨_, rfl⟩
                have hf := lt_s_ hf v24 ev24
                refine lv_iinc (v := v24) (lv' := [(8, .int v24), (7, .int (1 : Int32)), (5, .long v21), (11, .long v15), (9, .long v7), (0, .ref (qg 0)), (1, .int l1), (2, .int l2), (3, .int l3), (4, .int l4)]) hx hb dX1_determinant_111 hl (k := 9) rfl (by rw [ev24]; rfl) (by decide) rfl (fun ls hl => ?_)
                refine lv_goto (tgt := 16) hx hb dX1_determinant_114 (by decide) ?_
                exact ih v21 (1 : Int32) v24 H locs ls hw (lv_sub hl [5, 6, 7, 8, 9, 2, 1, 0] rfl)  hf
        refine lv_icmp_ne (tgt := 48) hx hb dX1_determinant_41 (by decide) (fun hc27 => ?_) (fun hc27 => ?_)
        · have hf := if_f hc27 hf
          refine lv_iload hx hb dX1_determinant_48 (lv_at hl 7 rfl) ?_
          exact hj26 l8 H locs ls hw (lv_sub hl [0, 1, 2, 3, 4, 5, 6, 7] rfl)  hf
        · have hf := if_t hc27 hf
          refine lv_iconst (v := 4) hx hb dX1_determinant_44 (by decide) ?_
          refine lv_goto (tgt := 50) hx hb dX1_determinant_45 (by decide) ?_
          exact hj26 (4 : Int32) H locs ls hw (lv_sub hl [0, 1, 2, 3, 4, 5, 6, 7] rfl)  hf
      · have hf := if_f hc3 hf
        refine lv_goto (tgt := 111) hx hb dX1_determinant_32 (by decide) ?_
        obtain ⟨v28, ev28⟩ : ∃ z : Int32, z = (l8 + (1 : Int32)) := ⟨_, rfl⟩
        have hf := lt_s_ hf v28 ev28
        refine lv_iinc (v := v28) (lv' := [(8, .int v28), (0, .ref (qg 0)), (1, .int l1), (2, .int l2), (3, .int l3), (4, .int l4), (5, .long l5), (7, .int l7)]) hx hb dX1_determinant_111 hl (k := 7) rfl (by rw [ev28]; rfl) (by decide) rfl (fun ls hl => ?_)
        refine lv_goto (tgt := 16) hx hb dX1_determinant_114 (by decide) ?_
        exact ih l5 l7 v28 H locs ls hw (lv_sub hl [1, 2, 3, 4, 5, 6, 7, 0] rfl)  hf
set_option maxHeartbeats 4000000 in
set_option maxRecDepth 100000 in
theorem cEq_determinant (l : Launch) (D : va_G) (κ : Nat → ClassId) (qg : Nat → Nat) (g_M : Nat → Nat → Int64) : ∀ (n : Nat) (a2 a3 a4 a5 : Int32) (zr : Int64), FEq_determinant g_M n a2 a3 a4 a5 = some zr → mL_ l yX1_determinant (Cond.code yX1_determinant cX1_determinant 13 (some .long) :: uw) ({ frames := n, cells := 0, slots := 0, locals := n * 32 } : Room) D (tys0 κ) [.ref (qg 0), .int a2, .int a3, .int a4, .int a5] (List.flatten [pGr κ qg g_M]) zr (List.flatten [pGr κ qg g_M]) := by
  intro n
  induction n with
  | zero =>
    intro a2 a3 a4 a5 zr hf
    cases hf
  | succ n0 ih =>
    intro a2 a3 a4 a5 zr hf
    rw [FEq_determinant.eq_2] at hf
    refine mL_of (by decide) (Nat.le_of_ble_eq_true rfl) ?_
    intro p e s m below meth c A ls H locs C0 hw hl
    obtain ⟨hx, hb, -, hml, hown, hts, -, -⟩ := id C0
    have hl : lv_has ls 13 [(0, .ref (qg 0)), (1, .int a2), (2, .int a3), (3, .int a4), (4, .int a5)] := hl
    refine lv_iload_n hx hb dX1_determinant_0 rfl (lv_at hl 3 rfl) ?_
    refine lv_iload_n hx hb dX1_determinant_1 rfl (lv_at hl 1 rfl) ?_
    refine lv_icmp_lt (tgt := 7) hx hb dX1_determinant_2 (by decide) (fun hc1 => ?_) (fun hc1 => ?_)
    · have hf := if_t hc1 hf
      refine lv_lconst (v := 0) hx hb dX1_determinant_7 (by decide) ?_
      refine lv_lstore (lv' := [(5, .long (0 : Int64)), (0, .ref (qg 0)), (1, .int a2), (2, .int a3), (3, .int a4), (4, .int a5)]) hx hb dX1_determinant_8 hl (by decide) rfl (fun ls hl => ?_)
      refine lv_iconst (v := 0) hx hb dX1_determinant_10 (by decide) ?_
      refine lv_istore (lv' := [(7, .int (0 : Int32)), (5, .long (0 : Int64)), (0, .ref (qg 0)), (1, .int a2), (2, .int a3), (3, .int a4), (4, .int a5)]) hx hb dX1_determinant_11 hl (by decide) rfl (fun ls hl => ?_)
      refine lv_iconst (v := 0) hx hb dX1_determinant_13 (by decide) ?_
      refine lv_istore (lv' := [(8, .int (0 : Int32)), (7, .int (0 : Int32)), (5, .long (0 : Int64)), (0, .ref (qg 0)), (1, .int a2), (2, .int a3), (3, .int a4), (4, .int a5)]) hx hb dX1_determinant_14 hl (by decide) rfl (fun ls hl => ?_)
      exact wEq_determinant_L16 C0 qg g_M a2 a3 a4 a5 n0 (FEq_determinant g_M n0) ih zr 1000 (0 : Int64) (0 : Int32) (0 : Int32) H locs ls hw (lv_sub hl [3, 4, 5, 6, 7, 2, 1, 0] rfl)  hf
    · have hf := if_f hc1 hf
      refine lv_lconst (v := 1) hx hb dX1_determinant_5 (by decide) ?_
      obtain rfl := e1_ hf
      exact r_lret C0 hw dX1_determinant_6
def FEq_numerator (u_unknowns : Nat → Int32) (u_size : Int32) (g_M : Nat → Nat → Int64) (a1 : Int32) : Option (Int64) :=
  gd_ a1 6 <|
  if 0 ≤ (u_unknowns a1.toNatClampNeg) then
    gd_ a1 6 <|
    b1_ (FEq_determinant g_M 8 u_size (u_unknowns a1.toNatClampNeg) (0 : Int32) (0 : Int32)) fun r4 =>
    some (r4)
  else
    some ((0 : Int64))
set_option maxHeartbeats 4000000 in
set_option maxRecDepth 100000 in
theorem cEq_numerator (l : Launch) (D : va_G) (κ : Nat → ClassId) (qu : Nat → Nat) (u_unknowns : Nat → Int32) (u_size : Int32) (qg : Nat → Nat) (g_M : Nat → Nat → Int64) (a1 : Int32) (zr : Int64) (hf : FEq_numerator u_unknowns u_size g_M a1 = some zr) : mL_ l yX1_numerator (Cond.code yX1_numerator cX1_numerator 2 (some .long) :: uw) ({ frames := 9, cells := 0, slots := 0, locals := 288 } : Room) D (tys0 κ) [.ref (qu 0), .int a1] (List.flatten [pEq κ qu (qg 0) u_unknowns u_size, pGr κ qg g_M]) zr (List.flatten [pEq κ qu (qg 0) u_unknowns u_size, pGr κ qg g_M]) := by
  unfold FEq_numerator at hf
  refine mL_of (by decide) (Nat.le_of_ble_eq_true rfl) ?_
  intro p e s m below meth c A ls H locs C0 hw hl
  obtain ⟨hx, hb, -, hml, hown, hts, -, -⟩ := id C0
  have hl : lv_has ls 2 [(0, .ref (qu 0)), (1, .int a1)] := hl
  refine lv_aload_n hx hb dX1_numerator_0 rfl (lv_at hl 0 rfl) ?_
  refine r_get C0 hw 0 1 (v := .ref (qu 1)) rfl rfl inX1 (by decide) lk_X1_16 rfl dX1_numerator_1 ?_
  refine lv_iload_n hx hb dX1_numerator_4 rfl (lv_at hl 1 rfl) ?_
  obtain ⟨hi1, hf⟩ := gd_s hf
  refine r_iald C0 hw 1 0 rfl rfl hi1 dX1_numerator_5 ?_
  refine lv_if_ge (tgt := 13) hx hb dX1_numerator_6 (by decide) (fun hc2 => ?_) (fun hc2 => ?_)
  · have hf := if_t hc2 hf
    refine lv_aload_n hx hb dX1_numerator_13 rfl (lv_at hl 0 rfl) ?_
    refine r_get C0 hw 0 0 (v := .ref (qg 0)) rfl rfl inX1 (by decide) lk_X1_11 rfl dX1_numerator_14 ?_
    refine lv_aload_n hx hb dX1_numerator_17 rfl (lv_at hl 0 rfl) ?_
    refine r_get C0 hw 0 2 (v := .int u_size) rfl rfl inX1 (by decide) lk_X1_24 rfl dX1_numerator_18 ?_
    refine lv_aload_n hx hb dX1_numerator_21 rfl (lv_at hl 0 rfl) ?_
    refine r_get C0 hw 0 1 (v := .ref (qu 1)) rfl rfl inX1 (by decide) lk_X1_16 rfl dX1_numerator_22 ?_
    refine lv_iload_n hx hb dX1_numerator_25 rfl (lv_at hl 1 rfl) ?_
    obtain ⟨hi3, hf⟩ := gd_s hf
    refine r_iald C0 hw 1 0 rfl rfl hi3 dX1_numerator_26 ?_
    refine lv_iconst (v := 0) hx hb dX1_numerator_27 (by decide) ?_
    refine lv_iconst (v := 0) hx hb dX1_numerator_28 (by decide) ?_
    obtain ⟨r4, hk5, hf⟩ := b1_s hf
    refine rs_l (As := [.ref (qg 0), .int u_size, .int (u_unknowns a1.toNatClampNeg), .int (0 : Int32), .int (0 : Int32)]) (rest := []) (bs' := [pEq κ qu (qg 0) u_unknowns u_size, pGr κ qg g_M]) C0 hw (cEq_determinant l D κ qg g_M 8 u_size (u_unknowns a1.toNatClampNeg) (0 : Int32) (0 : Int32) r4 hk5) cs_X1_28 ⟨rfl, rfl, Nat.le_of_ble_eq_true rfl, Nat.le_of_ble_eq_true rfl⟩ ⟨Nat.zero_le _, Nat.zero_le _⟩ [1] [0] [0, 1] rfl rfl rfl rfl (by decide) rfl rfl rfl hl.1 (by simp only [List.map, List.sum_cons, List.sum_nil, Value.category]; decide) dX1_numerator_29 (fun H locs hw => ?_)
    obtain rfl := e1_ hf
    exact r_lret C0 hw dX1_numerator_32
  · have hf := if_f hc2 hf
    refine lv_lconst (v := 0) hx hb dX1_numerator_9 (by decide) ?_
    refine lv_goto (tgt := 32) hx hb dX1_numerator_10 (by decide) ?_
    obtain rfl := e1_ hf
    exact r_lret C0 hw dX1_numerator_32
def FMt_floorDiv (a1 a2 : Int64) : Option (Int64) :=
  dl_ a2 <|
  lt_ (a1 / a2) fun v2 =>
  if 0 ≤ (lg_cmp (a1 ^^^ a2) (0 : Int64)) then
    some (v2)
  else
    if (lg_cmp (v2 * a2) a1) = 0 then
      some (v2)
    else
      some ((v2 - (1 : Int64)))
set_option maxHeartbeats 4000000 in
set_option maxRecDepth 100000 in
theorem cMt_floorDiv (l : Launch) (D : va_G) (κ : Nat → ClassId) (a1 a2 zr : Int64) (hf : FMt_floorDiv a1 a2 = some zr) : mL_ l yJ9_floorDiv_f86c9 (Cond.code yJ9_floorDiv_f86c9 cJ9_floorDiv_f86c9 6 (some .long) :: uw) ({ frames := 0, cells := 0, slots := 0, locals := 0 } : Room) D (tys0 κ) [.long a1, .long a2] (List.flatten ([] : List va_W)) zr (List.flatten ([] : List va_W)) := by
  unfold FMt_floorDiv at hf
  refine mL_ofF (by decide +kernel) (Nat.le_of_ble_eq_true rfl) ?_
  intro p e s m below meth c A ls H locs C0 hw hl
  obtain ⟨hx, hb, -, hml, hown, hts, -, -⟩ := id C0
  have hl : lv_has ls 6 [(0, .long a1), (2, .long a2)] := hl
  refine lv_lload_n hx hb dJ9_floorDiv_f86c9_0 rfl (lv_at hl 0 rfl) ?_
  refine lv_lload_n hx hb dJ9_floorDiv_f86c9_1 rfl (lv_at hl 1 rfl) ?_
  obtain ⟨hz1, hf⟩ := dl_s hf
  refine lv_ldiv hx hb dJ9_floorDiv_f86c9_2 hz1 ?_
  refine lv_topl (fun v2 ev2 => ?_)
  have hf := lt_s_ hf v2 ev2
  refine lv_lstore (lv' := [(4, .long v2), (0, .long a1), (2, .long a2)]) hx hb dJ9_floorDiv_f86c9_3 hl (by decide) rfl (fun ls hl => ?_)
  refine lv_lload_n hx hb dJ9_floorDiv_f86c9_5 rfl (lv_at hl 1 rfl) ?_
  refine lv_lload_n hx hb dJ9_floorDiv_f86c9_6 rfl (lv_at hl 2 rfl) ?_
  refine lv_lxor hx hb dJ9_floorDiv_f86c9_7 ?_
  refine lv_lconst (v := 0) hx hb dJ9_floorDiv_f86c9_8 (by decide) ?_
  refine W.lcmp hx hb dJ9_floorDiv_f86c9_9 ?_
  refine lv_if_ge (tgt := 27) hx hb dJ9_floorDiv_f86c9_10 (by decide) (fun hc3 => ?_) (fun hc3 => ?_)
  · have hf := if_t hc3 hf
    refine lv_lload hx hb dJ9_floorDiv_f86c9_27 (lv_at hl 0 rfl) ?_
    obtain rfl := e1_ hf
    exact r_lret C0 hw dJ9_floorDiv_f86c9_29
  · have hf := if_f hc3 hf
    refine lv_lload hx hb dJ9_floorDiv_f86c9_13 (lv_at hl 0 rfl) ?_
    refine lv_lload_n hx hb dJ9_floorDiv_f86c9_15 rfl (lv_at hl 2 rfl) ?_
    refine lv_lmul hx hb dJ9_floorDiv_f86c9_16 ?_
    refine lv_lload_n hx hb dJ9_floorDiv_f86c9_17 rfl (lv_at hl 1 rfl) ?_
    refine W.lcmp hx hb dJ9_floorDiv_f86c9_18 ?_
    refine lv_if_eq (tgt := 27) hx hb dJ9_floorDiv_f86c9_19 (by decide) (fun hc4 => ?_) (fun hc4 => ?_)
    · have hf := if_t hc4 hf
      refine lv_lload hx hb dJ9_floorDiv_f86c9_27 (lv_at hl 0 rfl) ?_
      obtain rfl := e1_ hf
      exact r_lret C0 hw dJ9_floorDiv_f86c9_29
    · have hf := if_f hc4 hf
      refine lv_lload hx hb dJ9_floorDiv_f86c9_22 (lv_at hl 0 rfl) ?_
      refine lv_lconst (v := 1) hx hb dJ9_floorDiv_f86c9_24 (by decide) ?_
      refine lv_lsub hx hb dJ9_floorDiv_f86c9_25 ?_
      obtain rfl := e1_ hf
      exact r_lret C0 hw dJ9_floorDiv_f86c9_26
