def f_X5_noteStuck (stuckRows : Int32) (soonestStuck : Int32) (p0 : Int32) : Option (Int32 × Int32) :=
nmv (α := Int32) (stuckRows + (1 : Int32)) fun stuckRows_1 =>
if soonestStuck = ((-1)) then (
some (stuckRows_1, p0)) else (
some (stuckRows_1, soonestStuck))
abbrev rX5_noteStuck : Room := { frames := 0, cells := 0, slots := 0, locals := 0 }
set_option maxRecDepth 100000 in
set_option maxHeartbeats 4000000 in
theorem c_X5_noteStuck (l : Launch) (E : En) (a : Nat → Nat) (b : Nat) (table_slots : Nat → Int32) (table_rows : Nat → Int32) (table_size : Int32) (depths : Nat → Int32) (ways : Nat → Int32) (stuckRows : Int32) (soonestStuck : Int32) {p0 : Int32} {res : Int32 × Int32} (hf : f_X5_noteStuck stuckRows soonestStuck p0 = some res) : Ct l yX5_noteStuck (.code yX5_noteStuck cX5_noteStuck 2 none) rX5_noteStuck E [.ref (a b), .int p0] (wSearch E a b table_slots table_rows table_size depths ways stuckRows soonestStuck) none (wSearch E a b table_slots table_rows table_size depths ways res.1 res.2) := by
  refine Ct.of (by decide) (Nat.le_of_ble_eq_true rfl) (fun Y hB hR => ?_)
  have hB : Cb E cX5_noteStuck RX5 rX5_noteStuck 2 Y := hB
  show J l E rX5_noteStuck Y (wSearch E a b table_slots table_rows table_size depths ways stuckRows soonestStuck) 0 [(0, .ref (a b)), (1, .int p0)] []
  unfold f_X5_noteStuck at hf
  refine J_aload_n hB dX5_noteStuck_0 rfl 0 rfl ?_
  refine J_dup hB dX5_noteStuck_1 rfl ?_
  refine J_get (v := .int stuckRows) hB inX5 0 rfl rfl 3 (Nat.le_of_ble_eq_true rfl) kf_X5_28 rfl dX5_noteStuck_2 ?_
  refine J_iconst (v := 1) hB dX5_noteStuck_5 rfl ?_
  refine J_iadd hB dX5_noteStuck_6 ?_
  obtain ⟨stuckRows_1, estuckRows_1, hf⟩ := nmv_e hf
  rw [← estuckRows_1]
  refine J_put (ws' := wSearch E a b table_slots table_rows table_size depths ways stuckRows_1 soonestStuck) (ty := .int) (v := .int stuckRows_1) hB inX5 tyX5 tyX5_ok nmX5 0 rfl rfl 3 (Nat.le_of_ble_eq_true rfl) kf_X5_28 rfl rfl rfl rfl (Nat.le_of_ble_eq_true rfl) dX5_noteStuck_7 rfl ?_
  refine J_aload_n hB dX5_noteStuck_10 rfl 0 rfl ?_
  refine J_get (v := .int soonestStuck) hB inX5 0 rfl rfl 4 (Nat.le_of_ble_eq_true rfl) kf_X5_32 rfl dX5_noteStuck_11 ?_
  refine J_iconst (v := (-1)) hB dX5_noteStuck_14 rfl ?_
  refine J_icmp_ne (tgt := 23) hB dX5_noteStuck_15 rfl (fun c_2 => ?_) (fun c_2 => ?_)
  · have hf := it_f c_2 hf
    obtain rfl := Option.some.inj hf
    exact J_vret hB hR dX5_noteStuck_23
  · have hf := it_t c_2 hf
    refine J_aload_n hB dX5_noteStuck_18 rfl 0 rfl ?_
    refine J_iload_n hB dX5_noteStuck_19 rfl 1 rfl ?_
    refine J_put (ws' := wSearch E a b table_slots table_rows table_size depths ways stuckRows_1 p0) (ty := .int) (v := .int p0) hB inX5 tyX5 tyX5_ok nmX5 0 rfl rfl 4 (Nat.le_of_ble_eq_true rfl) kf_X5_32 rfl rfl rfl rfl (Nat.le_of_ble_eq_true rfl) dX5_noteStuck_20 rfl ?_
    obtain rfl := Option.some.inj hf
    exact J_vret hB hR dX5_noteStuck_23
def f_X5_goOn (table_slots : Nat → Int32) (table_rows : Nat → Int32) (table_size : Int32) (depths : Nat → Int32) (ways : Nat → Int32) (p0 : Int32) (p1 : Int64) : Option ((Nat → Int32) × (Nat → Int32) × Int32 × (Nat → Int32) × (Nat → Int32)) :=
if p0 < 0 then (
some (table_slots, table_rows, table_size, depths, ways)) else (
if p0 < 640 then (
ald 640 depths p0 fun v_3 =>
nmv (α := Int32) (v_3 + (1 : Int32)) fun x4_5 =>
cl1 (f_J13_bitCount_95d88 p1) fun r_6 =>
lp7_5 (fun (x5_8 : Int64) (x8_9 : Int32) (table_slots_10 : Nat → Int32) (table_rows_11 : Nat → Int32) (table_size_12 : Int32) (depths_13 : Nat → Int32) (ways_14 : Nat → Int32) nx35 ex35 =>
if r_6 ≤ x8_9 then (
ex35 table_slots_10 table_rows_11 table_size_12 depths_13 ways_14) else (
cl1 (f_X3_lowestMove x5_8) fun r_21 =>
nmv (α := Int64) (x5_8 &&& (x5_8 - (1 : Int64))) fun x5_23 =>
ald 640 table_rows_11 p0 fun v_24 =>
cl1 (f_X3_moved v_24 r_21) fun r_26 =>
cl4 (f_X6_meet table_slots_10 table_rows_11 table_size_12 r_26) fun r_28 table_slots_29 table_rows_30 table_size_31 =>
jn2 (fun (depths_33 : Nat → Int32) (ways_34 : Nat → Int32) =>
nmv (α := Int32) (x8_9 + 1) fun x8_35 =>
nx35 x5_23 x8_35 table_slots_29 table_rows_30 table_size_31 depths_33 ways_34) fun j166 =>
if r_28 < 0 then (
j166 depths_13 ways_14) else (
if r_28 < 640 then (
if r_28 = table_size_12 then (
astI 640 depths_13 r_28 x4_5 fun depths_48 =>
ald 640 ways_14 p0 fun v_50 =>
astI 640 ways_14 r_28 v_50 fun ways_52 =>
j166 depths_48 ways_52) else (
ald 640 depths_13 r_28 fun v_39 =>
if v_39 = x4_5 then (
ald 640 ways_14 r_28 fun v_42 =>
ald 640 ways_14 p0 fun v_44 =>
astI 640 ways_14 r_28 (v_42 + v_44) fun ways_46 =>
j166 depths_13 ways_46) else (
j166 depths_13 ways_14))) else (
j166 depths_13 ways_14)))) (fun (table_slots_15 : Nat → Int32) (table_rows_16 : Nat → Int32) (table_size_17 : Int32) (depths_18 : Nat → Int32) (ways_19 : Nat → Int32) =>
some (table_slots_15, table_rows_16, table_size_17, depths_18, ways_19)) fuel p1 0 table_slots table_rows table_size depths ways) else (
some (table_slots, table_rows, table_size, depths, ways)))
abbrev rX5_goOn : Room := { frames := 2, cells := 0, slots := 0, locals := 46 }
set_option maxRecDepth 100000 in
set_option maxHeartbeats 4000000 in
theorem c_X5_goOn (l : Launch) (E : En) (a : Nat → Nat) (b : Nat) (table_slots : Nat → Int32) (table_rows : Nat → Int32) (table_size : Int32) (depths : Nat → Int32) (ways : Nat → Int32) (stuckRows : Int32) (soonestStuck : Int32) {p0 : Int32} {p1 : Int64} {res : (Nat → Int32) × (Nat → Int32) × Int32 × (Nat → Int32) × (Nat → Int32)} (hf : f_X5_goOn table_slots table_rows table_size depths ways p0 p1 = some res) : Ct l yX5_goOn (.code yX5_goOn cX5_goOn 12 none) rX5_goOn E [.ref (a b), .int p0, .long p1] (wSearch E a b table_slots table_rows table_size depths ways stuckRows soonestStuck) none (wSearch E a b res.1 res.2.1 res.2.2.1 res.2.2.2.1 res.2.2.2.2 stuckRows soonestStuck) := by
  refine Ct.of (by decide) (Nat.le_of_ble_eq_true rfl) (fun Y hB hR => ?_)
  have hB : Cb E cX5_goOn RX5 rX5_goOn 12 Y := hB
  show J l E rX5_goOn Y (wSearch E a b table_slots table_rows table_size depths ways stuckRows soonestStuck) 0 [(0, .ref (a b)), (1, .int p0), (2, .long p1)] []
  unfold f_X5_goOn at hf
  refine J_iload_n hB dX5_goOn_0 rfl 1 rfl ?_
  refine J_if_lt (tgt := 11) hB dX5_goOn_1 rfl (fun c_1 => ?_) (fun c_1 => ?_)
  · have hf := it_t c_1 hf
    obtain rfl := Option.some.inj hf
    exact J_vret hB hR dX5_goOn_11
  · have hf := it_f c_1 hf
    refine J_iload_n hB dX5_goOn_4 rfl 1 rfl ?_
    refine J_sipush (v := 640) hB dX5_goOn_5 rfl ?_
    refine J_icmp_lt (tgt := 12) hB dX5_goOn_8 rfl (fun c_2 => ?_) (fun c_2 => ?_)
    · have hf := it_t c_2 hf
      refine J_aload_n hB dX5_goOn_12 rfl 0 rfl ?_
      refine J_get (v := .ref (a (b + 4))) hB inX5 0 rfl rfl 1 (Nat.le_of_ble_eq_true rfl) kf_X5_18 rfl dX5_goOn_13 ?_
      refine J_iload_n hB dX5_goOn_16 rfl 1 rfl ?_
      obtain ⟨v_3, ev_3, h_4, hf⟩ := ald_e hf
      refine J_iald hB 4 rfl ev_3 h_4 dX5_goOn_17 ?_
      refine J_iconst (v := 1) hB dX5_goOn_18 rfl ?_
      refine J_iadd hB dX5_goOn_19 ?_
      obtain ⟨x4_5, ex4_5, hf⟩ := nmv_e hf
      refine J_istore (lv' := [(4, .int x4_5), (0, .ref (a b)), (1, .int p0), (2, .long p1)]) hB ex4_5 dX5_goOn_20 (Nat.le_of_ble_eq_true rfl) rfl ?_
      refine J_lload_n hB dX5_goOn_22 rfl 3 rfl ?_
      refine J_lstore (lv' := [(5, .long p1), (4, .int x4_5), (0, .ref (a b)), (1, .int p0), (2, .long p1)]) hB rfl dX5_goOn_23 (Nat.le_of_ble_eq_true rfl) rfl ?_
      refine J_lload hB dX5_goOn_25 0 rfl ?_
      obtain ⟨r_6, h_7, hf⟩ := cl1_e hf
      refine J_callS (As := [.long p1]) (rest := []) (n := 1) (ws' := wSearch E a b table_slots table_rows table_size depths ways stuckRows soonestStuck) hB (c_J13_bitCount_95d88 l E a h_7) mi_J13_bitCount_95d88 ks_J13_bitCount_95d88 km_X5_59 ⟨rfl, rfl, Nat.le_of_ble_eq_true rfl, Nat.le_of_ble_eq_true rfl⟩ Lies.none rfl rfl (Nat.le_of_ble_eq_true rfl) dX5_goOn_27 ?_
      show J l E rX5_goOn Y (wSearch E a b table_slots table_rows table_size depths ways stuckRows soonestStuck) 30 [(5, .long p1), (4, .int x4_5), (0, .ref (a b)), (1, .int p0), (2, .long p1)] [.int r_6]
      refine J_istore (lv' := [(7, .int r_6), (5, .long p1), (4, .int x4_5), (0, .ref (a b)), (1, .int p0), (2, .long p1)]) hB rfl dX5_goOn_30 (Nat.le_of_ble_eq_true rfl) rfl ?_
      refine J_iconst (v := 0) hB dX5_goOn_32 rfl ?_
      refine J_istore (lv' := [(8, .int 0), (7, .int r_6), (5, .long p1), (4, .int x4_5), (0, .ref (a b)), (1, .int p0), (2, .long p1)]) hB rfl dX5_goOn_33 (Nat.le_of_ble_eq_true rfl) rfl ?_
      refine J_lv [4, 5, 3, 2, 1, 0] rfl ?_
      refine lp7_5_J (P := fun x5_8 x8_9 table_slots_10 table_rows_11 table_size_12 depths_13 ways_14 => J l E rX5_goOn Y (wSearch E a b table_slots_10 table_rows_11 table_size_12 depths_13 ways_14 stuckRows soonestStuck) 35 [(0, .ref (a b)), (1, .int p0), (4, .int x4_5), (5, .long x5_8), (7, .int r_6), (8, .int x8_9)] []) (Q := fun table_slots_15 table_rows_16 table_size_17 depths_18 ways_19 => J l E rX5_goOn Y (wSearch E a b table_slots_15 table_rows_16 table_size_17 depths_18 ways_19 stuckRows soonestStuck) 172 [] []) (fun x5_8 x8_9 table_slots_10 table_rows_11 table_size_12 depths_13 ways_14 nx35 ex35 hnx35 hex35 hf => ?_) (fun table_slots_15 table_rows_16 table_size_17 depths_18 ways_19 hf => ?_) hf
      · refine J_iload hB dX5_goOn_35 5 rfl ?_
        refine J_iload hB dX5_goOn_37 4 rfl ?_
        refine J_icmp_ge (tgt := 172) hB dX5_goOn_39 rfl (fun c_20 => ?_) (fun c_20 => ?_)
        · have hf := it_t c_20 hf
          exact J_lv [] rfl (hex35 table_slots_10 table_rows_11 table_size_12 depths_13 ways_14 hf)
        · have hf := it_f c_20 hf
          refine J_lload hB dX5_goOn_42 3 rfl ?_
          obtain ⟨r_21, h_22, hf⟩ := cl1_e hf
          refine J_callS (As := [.long x5_8]) (rest := []) (n := 1) (ws' := wSearch E a b table_slots_10 table_rows_11 table_size_12 depths_13 ways_14 stuckRows soonestStuck) hB (c_X3_lowestMove l E a h_22) mi_X3_lowestMove ks_X3_lowestMove km_X5_65 ⟨rfl, rfl, Nat.le_of_ble_eq_true rfl, Nat.le_of_ble_eq_true rfl⟩ Lies.none rfl rfl (Nat.le_of_ble_eq_true rfl) dX5_goOn_44 ?_
          show J l E rX5_goOn Y (wSearch E a b table_slots_10 table_rows_11 table_size_12 depths_13 ways_14 stuckRows soonestStuck) 47 [(0, .ref (a b)), (1, .int p0), (4, .int x4_5), (5, .long x5_8), (7, .int r_6), (8, .int x8_9)] [.int r_21]
          refine J_istore (lv' := [(9, .int r_21), (0, .ref (a b)), (1, .int p0), (4, .int x4_5), (5, .long x5_8), (7, .int r_6), (8, .int x8_9)]) hB rfl dX5_goOn_47 (Nat.le_of_ble_eq_true rfl) rfl ?_
          refine J_lload hB dX5_goOn_49 4 rfl ?_
          refine J_lload hB dX5_goOn_51 4 rfl ?_
          refine J_lconst (v := 1) hB dX5_goOn_53 rfl ?_
          refine J_lsub hB dX5_goOn_54 ?_
          refine J_land hB dX5_goOn_55 ?_
          obtain ⟨x5_23, ex5_23, hf⟩ := nmv_e hf
          refine J_lstore (lv' := [(5, .long x5_23), (9, .int r_21), (0, .ref (a b)), (1, .int p0), (4, .int x4_5), (7, .int r_6), (8, .int x8_9)]) hB ex5_23 dX5_goOn_56 (Nat.le_of_ble_eq_true rfl) rfl ?_
          refine J_aload_n hB dX5_goOn_58 rfl 2 rfl ?_
          refine J_get (v := .ref (a (b + 1))) hB inX5 0 rfl rfl 0 (Nat.le_of_ble_eq_true rfl) kf_X5_12 rfl dX5_goOn_59 ?_
          refine J_getN (v := .int table_size_12) hB inX6 1 rfl rfl 2 (Nat.le_of_ble_eq_true rfl) kfN_X5_39 rfl dX5_goOn_62 ?_
          refine J_istore (lv' := [(10, .int table_size_12), (5, .long x5_23), (9, .int r_21), (0, .ref (a b)), (1, .int p0), (4, .int x4_5), (7, .int r_6), (8, .int x8_9)]) hB rfl dX5_goOn_65 (Nat.le_of_ble_eq_true rfl) rfl ?_
          refine J_aload_n hB dX5_goOn_67 rfl 3 rfl ?_
          refine J_get (v := .ref (a (b + 1))) hB inX5 0 rfl rfl 0 (Nat.le_of_ble_eq_true rfl) kf_X5_12 rfl dX5_goOn_68 ?_
          refine J_aload_n hB dX5_goOn_71 rfl 3 rfl ?_
          refine J_get (v := .ref (a (b + 1))) hB inX5 0 rfl rfl 0 (Nat.le_of_ble_eq_true rfl) kf_X5_12 rfl dX5_goOn_72 ?_
          refine J_getN (v := .ref (a (b + 3))) hB inX6 1 rfl rfl 1 (Nat.le_of_ble_eq_true rfl) kfN_X5_42 rfl dX5_goOn_75 ?_
          refine J_iload_n hB dX5_goOn_78 rfl 4 rfl ?_
          obtain ⟨v_24, ev_24, h_25, hf⟩ := ald_e hf
          refine J_iald hB 3 rfl ev_24 h_25 dX5_goOn_79 ?_
          refine J_iload hB dX5_goOn_80 2 rfl ?_
          obtain ⟨r_26, h_27, hf⟩ := cl1_e hf
          refine J_callS (As := [.int v_24, .int r_21]) (rest := [.ref (a (b + 1))]) (n := 2) (ws' := wSearch E a b table_slots_10 table_rows_11 table_size_12 depths_13 ways_14 stuckRows soonestStuck) hB (c_X3_moved l E a h_27) mi_X3_moved ks_X3_moved km_X5_70 ⟨rfl, rfl, Nat.le_of_ble_eq_true rfl, Nat.le_of_ble_eq_true rfl⟩ Lies.none rfl rfl (Nat.le_of_ble_eq_true rfl) dX5_goOn_82 ?_
          show J l E rX5_goOn Y (wSearch E a b table_slots_10 table_rows_11 table_size_12 depths_13 ways_14 stuckRows soonestStuck) 85 [(10, .int table_size_12), (5, .long x5_23), (9, .int r_21), (0, .ref (a b)), (1, .int p0), (4, .int x4_5), (7, .int r_6), (8, .int x8_9)] [.int r_26, .ref (a (b + 1))]
          obtain ⟨r_28, table_slots_29, table_rows_30, table_size_31, h_32, hf⟩ := cl4_e hf
          refine J_callV (As := [.int r_26]) (rest := []) (n := 1) (ws' := wSearch E a b table_slots_29 table_rows_30 table_size_31 depths_13 ways_14 stuckRows soonestStuck) hB (c_X6_meet l E a (b + 1) table_slots_10 table_rows_11 table_size_12 h_32) mi_X6_meet ⟨ki_X6_meet, kv_X6_meet⟩ km_X5_35 ⟨rfl, rfl, Nat.le_of_ble_eq_true rfl, Nat.le_of_ble_eq_true rfl⟩ (Lies.part (ws' := wSearch E a b table_slots_29 table_rows_30 table_size_31 depths_13 ways_14 stuckRows soonestStuck) [1, 2, 3] [0, 4, 5] rfl rfl rfl rfl 6 rfl (by decide +kernel) (by decide +kernel) rfl) 1 rfl rfl rfl rfl (Nat.le_of_ble_eq_true rfl) dX5_goOn_85 ?_
          show J l E rX5_goOn Y (wSearch E a b table_slots_29 table_rows_30 table_size_31 depths_13 ways_14 stuckRows soonestStuck) 88 [(10, .int table_size_12), (5, .long x5_23), (9, .int r_21), (0, .ref (a b)), (1, .int p0), (4, .int x4_5), (7, .int r_6), (8, .int x8_9)] [.int r_28]
          refine J_istore (lv' := [(11, .int r_28), (10, .int table_size_12), (5, .long x5_23), (9, .int r_21), (0, .ref (a b)), (1, .int p0), (4, .int x4_5), (7, .int r_6), (8, .int x8_9)]) hB rfl dX5_goOn_88 (Nat.le_of_ble_eq_true rfl) rfl ?_
          refine J_iload hB dX5_goOn_90 0 rfl ?_
          refine jn2_e (P := fun depths_33 ways_34 => J l E rX5_goOn Y (wSearch E a b table_slots_29 table_rows_30 table_size_31 depths_33 ways_34 stuckRows soonestStuck) 166 [(0, .ref (a b)), (1, .int p0), (4, .int x4_5), (5, .long x5_23), (7, .int r_6), (8, .int x8_9)] []) hf (fun depths_33 ways_34 hf => ?_) (fun j166 hj166 hf => ?_)
          · obtain ⟨x8_35, ex8_35, hf⟩ := nmv_e hf
            refine J_iinc (lv' := [(8, .int x8_35), (0, .ref (a b)), (1, .int p0), (4, .int x4_5), (5, .long x5_23), (7, .int r_6)]) hB ex8_35 dX5_goOn_166 5 rfl (Nat.le_of_ble_eq_true rfl) rfl ?_
            refine J_goto (tgt := 35) hB dX5_goOn_169 rfl ?_
            exact J_lv [1, 2, 3, 4, 5, 0] rfl (hnx35 x5_23 x8_35 table_slots_29 table_rows_30 table_size_31 depths_33 ways_34 hf)
          · refine J_if_lt (tgt := 166) hB dX5_goOn_92 rfl (fun c_36 => ?_) (fun c_36 => ?_)
            · have hf := it_t c_36 hf
              exact J_lv [4, 5, 6, 2, 7, 8] rfl (hj166 depths_13 ways_14 hf)
            · have hf := it_f c_36 hf
              refine J_iload hB dX5_goOn_95 0 rfl ?_
              refine J_sipush (v := 640) hB dX5_goOn_97 rfl ?_
              refine J_icmp_lt (tgt := 106) hB dX5_goOn_100 rfl (fun c_37 => ?_) (fun c_37 => ?_)
              · have hf := it_t c_37 hf
                refine J_iload hB dX5_goOn_106 0 rfl ?_
                refine J_iload hB dX5_goOn_108 1 rfl ?_
                refine J_icmp_ne (tgt := 138) hB dX5_goOn_110 rfl (fun c_38 => ?_) (fun c_38 => ?_)
                · have hf := it_f c_38 hf
                  refine J_aload_n hB dX5_goOn_138 rfl 4 rfl ?_
                  refine J_get (v := .ref (a (b + 4))) hB inX5 0 rfl rfl 1 (Nat.le_of_ble_eq_true rfl) kf_X5_18 rfl dX5_goOn_139 ?_
                  refine J_iload hB dX5_goOn_142 0 rfl ?_
                  obtain ⟨v_39, ev_39, h_40, hf⟩ := ald_e hf
                  refine J_iald hB 4 rfl ev_39 h_40 dX5_goOn_144 ?_
                  refine J_iload hB dX5_goOn_145 6 rfl ?_
                  refine J_icmp_ne (tgt := 166) hB dX5_goOn_147 rfl (fun c_41 => ?_) (fun c_41 => ?_)
                  · have hf := it_f c_41 hf
                    exact J_lv [4, 5, 6, 2, 7, 8] rfl (hj166 depths_13 ways_14 hf)
                  · have hf := it_t c_41 hf
                    refine J_aload_n hB dX5_goOn_150 rfl 4 rfl ?_
                    refine J_get (v := .ref (a (b + 5))) hB inX5 0 rfl rfl 2 (Nat.le_of_ble_eq_true rfl) kf_X5_22 rfl dX5_goOn_151 ?_
                    refine J_iload hB dX5_goOn_154 0 rfl ?_
                    refine J_dup2 hB dX5_goOn_156 rfl rfl ?_
                    obtain ⟨v_42, ev_42, h_43, hf⟩ := ald_e hf
                    refine J_iald hB 5 rfl ev_42 h_43 dX5_goOn_157 ?_
                    refine J_aload_n hB dX5_goOn_158 rfl 4 rfl ?_
                    refine J_get (v := .ref (a (b + 5))) hB inX5 0 rfl rfl 2 (Nat.le_of_ble_eq_true rfl) kf_X5_22 rfl dX5_goOn_159 ?_
                    refine J_iload_n hB dX5_goOn_162 rfl 5 rfl ?_
                    obtain ⟨v_44, ev_44, h_45, hf⟩ := ald_e hf
                    refine J_iald hB 5 rfl ev_44 h_45 dX5_goOn_163 ?_
                    refine J_iadd hB dX5_goOn_164 ?_
                    obtain ⟨ways_46, eways_46, h_47, hf⟩ := astI_e hf
                    refine J_iast (ws' := wSearch E a b table_slots_29 table_rows_30 table_size_31 depths_13 ways_46 stuckRows soonestStuck) hB 5 rfl eways_46 h_47 dX5_goOn_165 rfl ?_
                    exact J_lv [4, 5, 6, 2, 7, 8] rfl (hj166 depths_13 ways_46 hf)
                · have hf := it_t c_38 hf
                  refine J_aload_n hB dX5_goOn_113 rfl 4 rfl ?_
                  refine J_get (v := .ref (a (b + 4))) hB inX5 0 rfl rfl 1 (Nat.le_of_ble_eq_true rfl) kf_X5_18 rfl dX5_goOn_114 ?_
                  refine J_iload hB dX5_goOn_117 0 rfl ?_
                  refine J_iload hB dX5_goOn_119 6 rfl ?_
                  obtain ⟨depths_48, edepths_48, h_49, hf⟩ := astI_e hf
                  refine J_iast (ws' := wSearch E a b table_slots_29 table_rows_30 table_size_31 depths_48 ways_14 stuckRows soonestStuck) hB 4 rfl edepths_48 h_49 dX5_goOn_121 rfl ?_
                  refine J_aload_n hB dX5_goOn_122 rfl 4 rfl ?_
                  refine J_get (v := .ref (a (b + 5))) hB inX5 0 rfl rfl 2 (Nat.le_of_ble_eq_true rfl) kf_X5_22 rfl dX5_goOn_123 ?_
                  refine J_iload hB dX5_goOn_126 0 rfl ?_
                  refine J_aload_n hB dX5_goOn_128 rfl 4 rfl ?_
                  refine J_get (v := .ref (a (b + 5))) hB inX5 0 rfl rfl 2 (Nat.le_of_ble_eq_true rfl) kf_X5_22 rfl dX5_goOn_129 ?_
                  refine J_iload_n hB dX5_goOn_132 rfl 5 rfl ?_
                  obtain ⟨v_50, ev_50, h_51, hf⟩ := ald_e hf
                  refine J_iald hB 5 rfl ev_50 h_51 dX5_goOn_133 ?_
                  obtain ⟨ways_52, eways_52, h_53, hf⟩ := astI_e hf
                  refine J_iast (ws' := wSearch E a b table_slots_29 table_rows_30 table_size_31 depths_48 ways_52 stuckRows soonestStuck) hB 5 rfl eways_52 h_53 dX5_goOn_134 rfl ?_
                  refine J_goto (tgt := 166) hB dX5_goOn_135 rfl ?_
                  exact J_lv [4, 5, 6, 2, 7, 8] rfl (hj166 depths_48 ways_52 hf)
              · have hf := it_f c_37 hf
                refine J_goto (tgt := 166) hB dX5_goOn_103 rfl ?_
                exact J_lv [4, 5, 6, 2, 7, 8] rfl (hj166 depths_13 ways_14 hf)
      · obtain rfl := Option.some.inj hf
        exact J_vret hB hR dX5_goOn_172
    · have hf := it_f c_2 hf
      obtain rfl := Option.some.inj hf
      exact J_vret hB hR dX5_goOn_11
def f_X5_spread (ru_stones : Int32) (ru_any : Int32) (ru_back : Int32) (ru_ring : Int32) (ru_two : Int32) (table_slots : Nat → Int32) (table_rows : Nat → Int32) (table_size : Int32) (depths : Nat → Int32) (ways : Nat → Int32) (stuckRows : Int32) (soonestStuck : Int32) (p1 : Int32) (p2 : Int32) (p3 : Int32) : Option (Int32 × (Nat → Int32) × (Nat → Int32) × Int32 × (Nat → Int32) × (Nat → Int32) × Int32 × Int32) :=
cl2 (f_X6_clear table_slots table_size) fun table_slots_1 table_size_2 =>
cl4 (f_X6_meet table_slots_1 table_rows table_size_2 p1) fun r_4 table_slots_5 table_rows_6 table_size_7 =>
if r_4 = 0 then (
astI 640 depths 0 0 fun depths_10 =>
astI 640 ways 0 1 fun ways_12 =>
lp8_7 (fun (x6_14 : Int32) (table_slots_15 : Nat → Int32) (table_rows_16 : Nat → Int32) (table_size_17 : Int32) (depths_18 : Nat → Int32) (ways_19 : Nat → Int32) (stuckRows_20 : Int32) (soonestStuck_21 : Int32) nx51 ex51 =>
if table_size_17 ≤ x6_14 then (
ex51 table_slots_15 table_rows_16 table_size_17 depths_18 ways_19 stuckRows_20 soonestStuck_21) else (
if 640 ≤ x6_14 then (
ex51 table_slots_15 table_rows_16 table_size_17 depths_18 ways_19 stuckRows_20 soonestStuck_21) else (
ald 640 table_rows_16 x6_14 fun v_31 =>
if v_31 = p3 then (
ald 640 depths_18 x6_14 fun v_51 =>
some (v_51, table_slots_15, table_rows_16, table_size_17, depths_18, ways_19, stuckRows_20, soonestStuck_21)) else (
cl1 (f_X4_allMoves ru_stones ru_any ru_back ru_ring ru_two v_31 p2) fun r_34 =>
jn2 (fun (stuckRows_36 : Int32) (soonestStuck_37 : Int32) =>
cl5 (f_X5_goOn table_slots_15 table_rows_16 table_size_17 depths_18 ways_19 x6_14 r_34) fun table_slots_38 table_rows_39 table_size_40 depths_41 ways_42 =>
nmv (α := Int32) (x6_14 + 1) fun x6_44 =>
nx51 x6_44 table_slots_38 table_rows_39 table_size_40 depths_41 ways_42 stuckRows_36 soonestStuck_37) fun j125 =>
if (lg_cmp r_34 0) = 0 then (
ald 640 depths_18 x6_14 fun v_46 =>
cl2 (f_X5_noteStuck stuckRows_20 soonestStuck_21 v_46) fun stuckRows_48 soonestStuck_49 =>
j125 stuckRows_48 soonestStuck_49) else (
j125 stuckRows_20 soonestStuck_21))))) (fun (table_slots_22 : Nat → Int32) (table_rows_23 : Nat → Int32) (table_size_24 : Int32) (depths_25 : Nat → Int32) (ways_26 : Nat → Int32) (stuckRows_27 : Int32) (soonestStuck_28 : Int32) =>
some ((-1), table_slots_22, table_rows_23, table_size_24, depths_25, ways_26, stuckRows_27, soonestStuck_28)) fuel 0 table_slots_5 table_rows_6 table_size_7 depths_10 ways_12 0 ((-1))) else (
some ((-1), table_slots_5, table_rows_6, table_size_7, depths, ways, 0, (-1)))
abbrev rX5_spread : Room := { frames := 4, cells := 0, slots := 0, locals := 102 }
set_option maxRecDepth 100000 in
set_option maxHeartbeats 4000000 in
theorem c_X5_spread (l : Launch) (E : En) (a : Nat → Nat) (c b : Nat) (ru_stones : Int32) (ru_signs : Int32) (ru_any : Int32) (ru_back : Int32) (ru_ring : Int32) (ru_two : Int32) (table_slots : Nat → Int32) (table_rows : Nat → Int32) (table_size : Int32) (depths : Nat → Int32) (ways : Nat → Int32) (stuckRows : Int32) (soonestStuck : Int32) {p1 : Int32} {p2 : Int32} {p3 : Int32} {res : Int32 × (Nat → Int32) × (Nat → Int32) × Int32 × (Nat → Int32) × (Nat → Int32) × Int32 × Int32} (hf : f_X5_spread ru_stones ru_any ru_back ru_ring ru_two table_slots table_rows table_size depths ways stuckRows soonestStuck p1 p2 p3 = some res) : Ct l yX5_spread (.code yX5_spread cX5_spread 10 (some .int)) rX5_spread E [.ref (a b), .ref (a c), .int p1, .int p2, .int p3] (wRS E a c b ru_stones ru_signs ru_any ru_back ru_ring ru_two table_slots table_rows table_size depths ways stuckRows soonestStuck) (some (.int res.1)) (wRS E a c b ru_stones ru_signs ru_any ru_back ru_ring ru_two res.2.1 res.2.2.1 res.2.2.2.1 res.2.2.2.2.1 res.2.2.2.2.2.1 res.2.2.2.2.2.2.1 res.2.2.2.2.2.2.2) := by
  refine Ct.of (by decide) (Nat.le_of_ble_eq_true rfl) (fun Y hB hR => ?_)
  have hB : Cb E cX5_spread RX5 rX5_spread 10 Y := hB
  show J l E rX5_spread Y (wRS E a c b ru_stones ru_signs ru_any ru_back ru_ring ru_two table_slots table_rows table_size depths ways stuckRows soonestStuck) 0 [(0, .ref (a b)), (1, .ref (a c)), (2, .int p1), (3, .int p2), (4, .int p3)] []
  unfold f_X5_spread at hf
  refine J_aload_n hB dX5_spread_0 rfl 0 rfl ?_
  refine J_get (v := .ref (a (b + 1))) hB inX5 1 rfl rfl 0 (Nat.le_of_ble_eq_true rfl) kf_X5_12 rfl dX5_spread_1 ?_
  obtain ⟨table_slots_1, table_size_2, h_3, hf⟩ := cl2_e hf
  refine J_callV (As := []) (rest := []) (n := 0) (ws' := wRS E a c b ru_stones ru_signs ru_any ru_back ru_ring ru_two table_slots_1 table_rows table_size_2 depths ways stuckRows soonestStuck) hB (c_X6_clear l E a (b + 1) table_slots table_rows table_size h_3) mi_X6_clear ⟨ki_X6_clear, kv_X6_clear⟩ km_X5_25 ⟨rfl, rfl, Nat.le_of_ble_eq_true rfl, Nat.le_of_ble_eq_true rfl⟩ (Lies.part (ws' := wRS E a c b ru_stones ru_signs ru_any ru_back ru_ring ru_two table_slots_1 table_rows table_size_2 depths ways stuckRows soonestStuck) [2, 3, 4] [0, 1, 5, 6] rfl rfl rfl rfl 7 rfl (by decide +kernel) (by decide +kernel) rfl) 2 rfl rfl rfl rfl (Nat.le_of_ble_eq_true rfl) dX5_spread_4 ?_
  show J l E rX5_spread Y (wRS E a c b ru_stones ru_signs ru_any ru_back ru_ring ru_two table_slots_1 table_rows table_size_2 depths ways stuckRows soonestStuck) 7 [(0, .ref (a b)), (1, .ref (a c)), (2, .int p1), (3, .int p2), (4, .int p3)] []
  refine J_aload_n hB dX5_spread_7 rfl 0 rfl ?_
  refine J_iconst (v := 0) hB dX5_spread_8 rfl ?_
  refine J_put (ws' := wRS E a c b ru_stones ru_signs ru_any ru_back ru_ring ru_two table_slots_1 table_rows table_size_2 depths ways 0 soonestStuck) (ty := .int) (v := .int 0) hB inX5 tyX5 tyX5_ok nmX5 1 rfl rfl 3 (Nat.le_of_ble_eq_true rfl) kf_X5_28 rfl rfl rfl rfl (Nat.le_of_ble_eq_true rfl) dX5_spread_9 rfl ?_
  refine J_aload_n hB dX5_spread_12 rfl 0 rfl ?_
  refine J_iconst (v := (-1)) hB dX5_spread_13 rfl ?_
  refine J_put (ws' := wRS E a c b ru_stones ru_signs ru_any ru_back ru_ring ru_two table_slots_1 table_rows table_size_2 depths ways 0 ((-1))) (ty := .int) (v := .int ((-1))) hB inX5 tyX5 tyX5_ok nmX5 1 rfl rfl 4 (Nat.le_of_ble_eq_true rfl) kf_X5_32 rfl rfl rfl rfl (Nat.le_of_ble_eq_true rfl) dX5_spread_14 rfl ?_
  refine J_aload_n hB dX5_spread_17 rfl 0 rfl ?_
  refine J_get (v := .ref (a (b + 1))) hB inX5 1 rfl rfl 0 (Nat.le_of_ble_eq_true rfl) kf_X5_12 rfl dX5_spread_18 ?_
  refine J_iload_n hB dX5_spread_21 rfl 2 rfl ?_
  obtain ⟨r_4, table_slots_5, table_rows_6, table_size_7, h_8, hf⟩ := cl4_e hf
  refine J_callV (As := [.int p1]) (rest := []) (n := 1) (ws' := wRS E a c b ru_stones ru_signs ru_any ru_back ru_ring ru_two table_slots_5 table_rows_6 table_size_7 depths ways 0 ((-1))) hB (c_X6_meet l E a (b + 1) table_slots_1 table_rows table_size_2 h_8) mi_X6_meet ⟨ki_X6_meet, kv_X6_meet⟩ km_X5_35 ⟨rfl, rfl, Nat.le_of_ble_eq_true rfl, Nat.le_of_ble_eq_true rfl⟩ (Lies.part (ws' := wRS E a c b ru_stones ru_signs ru_any ru_back ru_ring ru_two table_slots_5 table_rows_6 table_size_7 depths ways 0 ((-1))) [2, 3, 4] [0, 1, 5, 6] rfl rfl rfl rfl 7 rfl (by decide +kernel) (by decide +kernel) rfl) 2 rfl rfl rfl rfl (Nat.le_of_ble_eq_true rfl) dX5_spread_22 ?_
  show J l E rX5_spread Y (wRS E a c b ru_stones ru_signs ru_any ru_back ru_ring ru_two table_slots_5 table_rows_6 table_size_7 depths ways 0 ((-1))) 25 [(0, .ref (a b)), (1, .ref (a c)), (2, .int p1), (3, .int p2), (4, .int p3)] [.int r_4]
  refine J_istore (lv' := [(5, .int r_4), (0, .ref (a b)), (1, .ref (a c)), (2, .int p1), (3, .int p2), (4, .int p3)]) hB rfl dX5_spread_25 (Nat.le_of_ble_eq_true rfl) rfl ?_
  refine J_iload hB dX5_spread_27 0 rfl ?_
  refine J_if_eq (tgt := 34) hB dX5_spread_29 rfl (fun c_9 => ?_) (fun c_9 => ?_)
  · have hf := it_t c_9 hf
    refine J_aload_n hB dX5_spread_34 rfl 1 rfl ?_
    refine J_get (v := .ref (a (b + 4))) hB inX5 1 rfl rfl 1 (Nat.le_of_ble_eq_true rfl) kf_X5_18 rfl dX5_spread_35 ?_
    refine J_iconst (v := 0) hB dX5_spread_38 rfl ?_
    refine J_iconst (v := 0) hB dX5_spread_39 rfl ?_
    obtain ⟨depths_10, edepths_10, h_11, hf⟩ := astI_e hf
    refine J_iast (ws' := wRS E a c b ru_stones ru_signs ru_any ru_back ru_ring ru_two table_slots_5 table_rows_6 table_size_7 depths_10 ways 0 ((-1))) hB 5 rfl edepths_10 h_11 dX5_spread_40 rfl ?_
    refine J_aload_n hB dX5_spread_41 rfl 1 rfl ?_
    refine J_get (v := .ref (a (b + 5))) hB inX5 1 rfl rfl 2 (Nat.le_of_ble_eq_true rfl) kf_X5_22 rfl dX5_spread_42 ?_
    refine J_iconst (v := 0) hB dX5_spread_45 rfl ?_
    refine J_iconst (v := 1) hB dX5_spread_46 rfl ?_
    obtain ⟨ways_12, eways_12, h_13, hf⟩ := astI_e hf
    refine J_iast (ws' := wRS E a c b ru_stones ru_signs ru_any ru_back ru_ring ru_two table_slots_5 table_rows_6 table_size_7 depths_10 ways_12 0 ((-1))) hB 6 rfl eways_12 h_13 dX5_spread_47 rfl ?_
    refine J_iconst (v := 0) hB dX5_spread_48 rfl ?_
    refine J_istore (lv' := [(6, .int 0), (5, .int r_4), (0, .ref (a b)), (1, .ref (a c)), (2, .int p1), (3, .int p2), (4, .int p3)]) hB rfl dX5_spread_49 (Nat.le_of_ble_eq_true rfl) rfl ?_
    refine J_lv [2, 3, 5, 6, 0] rfl ?_
    refine lp8_7_J (P := fun x6_14 table_slots_15 table_rows_16 table_size_17 depths_18 ways_19 stuckRows_20 soonestStuck_21 => J l E rX5_spread Y (wRS E a c b ru_stones ru_signs ru_any ru_back ru_ring ru_two table_slots_15 table_rows_16 table_size_17 depths_18 ways_19 stuckRows_20 soonestStuck_21) 51 [(0, .ref (a b)), (1, .ref (a c)), (3, .int p2), (4, .int p3), (6, .int x6_14)] []) (Q := fun table_slots_22 table_rows_23 table_size_24 depths_25 ways_26 stuckRows_27 soonestStuck_28 => J l E rX5_spread Y (wRS E a c b ru_stones ru_signs ru_any ru_back ru_ring ru_two table_slots_22 table_rows_23 table_size_24 depths_25 ways_26 stuckRows_27 soonestStuck_28) 139 [] []) (fun x6_14 table_slots_15 table_rows_16 table_size_17 depths_18 ways_19 stuckRows_20 soonestStuck_21 nx51 ex51 hnx51 hex51 hf => ?_) (fun table_slots_22 table_rows_23 table_size_24 depths_25 ways_26 stuckRows_27 soonestStuck_28 hf => ?_) hf
    · refine J_iload hB dX5_spread_51 4 rfl ?_
      refine J_aload_n hB dX5_spread_53 rfl 0 rfl ?_
      refine J_get (v := .ref (a (b + 1))) hB inX5 1 rfl rfl 0 (Nat.le_of_ble_eq_true rfl) kf_X5_12 rfl dX5_spread_54 ?_
      refine J_getN (v := .int table_size_17) hB inX6 2 rfl rfl 2 (Nat.le_of_ble_eq_true rfl) kfN_X5_39 rfl dX5_spread_57 ?_
      refine J_icmp_ge (tgt := 139) hB dX5_spread_60 rfl (fun c_29 => ?_) (fun c_29 => ?_)
      · have hf := it_t c_29 hf
        exact J_lv [] rfl (hex51 table_slots_15 table_rows_16 table_size_17 depths_18 ways_19 stuckRows_20 soonestStuck_21 hf)
      · have hf := it_f c_29 hf
        refine J_iload hB dX5_spread_63 4 rfl ?_
        refine J_sipush (v := 640) hB dX5_spread_65 rfl ?_
        refine J_icmp_ge (tgt := 139) hB dX5_spread_68 rfl (fun c_30 => ?_) (fun c_30 => ?_)
        · have hf := it_t c_30 hf
          exact J_lv [] rfl (hex51 table_slots_15 table_rows_16 table_size_17 depths_18 ways_19 stuckRows_20 soonestStuck_21 hf)
        · have hf := it_f c_30 hf
          refine J_aload_n hB dX5_spread_71 rfl 0 rfl ?_
          refine J_get (v := .ref (a (b + 1))) hB inX5 1 rfl rfl 0 (Nat.le_of_ble_eq_true rfl) kf_X5_12 rfl dX5_spread_72 ?_
          refine J_getN (v := .ref (a (b + 3))) hB inX6 2 rfl rfl 1 (Nat.le_of_ble_eq_true rfl) kfN_X5_42 rfl dX5_spread_75 ?_
          refine J_iload hB dX5_spread_78 4 rfl ?_
          obtain ⟨v_31, ev_31, h_32, hf⟩ := ald_e hf
          refine J_iald hB 4 rfl ev_31 h_32 dX5_spread_80 ?_
          refine J_istore (lv' := [(7, .int v_31), (0, .ref (a b)), (1, .ref (a c)), (3, .int p2), (4, .int p3), (6, .int x6_14)]) hB rfl dX5_spread_81 (Nat.le_of_ble_eq_true rfl) rfl ?_
          refine J_iload hB dX5_spread_83 0 rfl ?_
          refine J_iload hB dX5_spread_85 4 rfl ?_
          refine J_icmp_ne (tgt := 98) hB dX5_spread_87 rfl (fun c_33 => ?_) (fun c_33 => ?_)
          · have hf := it_f c_33 hf
            refine J_aload_n hB dX5_spread_98 rfl 2 rfl ?_
            refine J_iload hB dX5_spread_99 0 rfl ?_
            refine J_iload_n hB dX5_spread_101 rfl 3 rfl ?_
            obtain ⟨r_34, h_35, hf⟩ := cl1_e hf
            refine J_callV (As := [.int v_31, .int p2]) (rest := []) (n := 2) (ws' := wRS E a c b ru_stones ru_signs ru_any ru_back ru_ring ru_two table_slots_15 table_rows_16 table_size_17 depths_18 ways_19 stuckRows_20 soonestStuck_21) hB (c_X4_allMoves l E a c ru_stones ru_signs ru_any ru_back ru_ring ru_two h_35) mi_X4_allMoves ⟨ki_X4_allMoves, kv_X4_allMoves⟩ km_X5_45 ⟨rfl, rfl, Nat.le_of_ble_eq_true rfl, Nat.le_of_ble_eq_true rfl⟩ (Lies.part (ws' := wRS E a c b ru_stones ru_signs ru_any ru_back ru_ring ru_two table_slots_15 table_rows_16 table_size_17 depths_18 ways_19 stuckRows_20 soonestStuck_21) [0] [1, 2, 3, 4, 5, 6] rfl rfl rfl rfl 7 rfl (by decide +kernel) (by decide +kernel) rfl) 0 rfl rfl rfl rfl (Nat.le_of_ble_eq_true rfl) dX5_spread_102 ?_
            show J l E rX5_spread Y (wRS E a c b ru_stones ru_signs ru_any ru_back ru_ring ru_two table_slots_15 table_rows_16 table_size_17 depths_18 ways_19 stuckRows_20 soonestStuck_21) 105 [(7, .int v_31), (0, .ref (a b)), (1, .ref (a c)), (3, .int p2), (4, .int p3), (6, .int x6_14)] [.long r_34]
            refine J_lstore (lv' := [(8, .long r_34), (7, .int v_31), (0, .ref (a b)), (1, .ref (a c)), (3, .int p2), (4, .int p3), (6, .int x6_14)]) hB rfl dX5_spread_105 (Nat.le_of_ble_eq_true rfl) rfl ?_
            refine J_lload hB dX5_spread_107 0 rfl ?_
            refine J_lconst (v := 0) hB dX5_spread_109 rfl ?_
            refine J_lcmp hB dX5_spread_110 ?_
            refine jn2_e (P := fun stuckRows_36 soonestStuck_37 => J l E rX5_spread Y (wRS E a c b ru_stones ru_signs ru_any ru_back ru_ring ru_two table_slots_15 table_rows_16 table_size_17 depths_18 ways_19 stuckRows_36 soonestStuck_37) 125 [(0, .ref (a b)), (1, .ref (a c)), (3, .int p2), (4, .int p3), (6, .int x6_14), (8, .long r_34)] []) hf (fun stuckRows_36 soonestStuck_37 hf => ?_) (fun j125 hj125 hf => ?_)
            · refine J_aload_n hB dX5_spread_125 rfl 0 rfl ?_
              refine J_iload hB dX5_spread_126 4 rfl ?_
              refine J_lload hB dX5_spread_128 5 rfl ?_
              obtain ⟨table_slots_38, table_rows_39, table_size_40, depths_41, ways_42, h_43, hf⟩ := cl5_e hf
              refine J_callV (As := [.int x6_14, .long r_34]) (rest := []) (n := 2) (ws' := wRS E a c b ru_stones ru_signs ru_any ru_back ru_ring ru_two table_slots_38 table_rows_39 table_size_40 depths_41 ways_42 stuckRows_36 soonestStuck_37) hB (c_X5_goOn l E a b table_slots_15 table_rows_16 table_size_17 depths_18 ways_19 stuckRows_36 soonestStuck_37 h_43) mi_X5_goOn ⟨ki_X5_goOn, kv_X5_goOn⟩ km_X5_55 ⟨rfl, rfl, Nat.le_of_ble_eq_true rfl, Nat.le_of_ble_eq_true rfl⟩ (Lies.part (ws' := wRS E a c b ru_stones ru_signs ru_any ru_back ru_ring ru_two table_slots_38 table_rows_39 table_size_40 depths_41 ways_42 stuckRows_36 soonestStuck_37) [1, 2, 3, 4, 5, 6] [0] rfl rfl rfl rfl 7 rfl (by decide +kernel) (by decide +kernel) rfl) 1 rfl rfl rfl rfl (Nat.le_of_ble_eq_true rfl) dX5_spread_130 ?_
              show J l E rX5_spread Y (wRS E a c b ru_stones ru_signs ru_any ru_back ru_ring ru_two table_slots_38 table_rows_39 table_size_40 depths_41 ways_42 stuckRows_36 soonestStuck_37) 133 [(0, .ref (a b)), (1, .ref (a c)), (3, .int p2), (4, .int p3), (6, .int x6_14), (8, .long r_34)] []
              obtain ⟨x6_44, ex6_44, hf⟩ := nmv_e hf
              refine J_iinc (lv' := [(6, .int x6_44), (0, .ref (a b)), (1, .ref (a c)), (3, .int p2), (4, .int p3), (8, .long r_34)]) hB ex6_44 dX5_spread_133 4 rfl (Nat.le_of_ble_eq_true rfl) rfl ?_
              refine J_goto (tgt := 51) hB dX5_spread_136 rfl ?_
              exact J_lv [1, 2, 3, 4, 0] rfl (hnx51 x6_44 table_slots_38 table_rows_39 table_size_40 depths_41 ways_42 stuckRows_36 soonestStuck_37 hf)
            · refine J_if_ne (tgt := 125) hB dX5_spread_111 rfl (fun c_45 => ?_) (fun c_45 => ?_)
              · have hf := it_f c_45 hf
                exact J_lv [2, 3, 4, 5, 6, 0] rfl (hj125 stuckRows_20 soonestStuck_21 hf)
              · have hf := it_t c_45 hf
                refine J_aload_n hB dX5_spread_114 rfl 2 rfl ?_
                refine J_aload_n hB dX5_spread_115 rfl 2 rfl ?_
                refine J_get (v := .ref (a (b + 4))) hB inX5 1 rfl rfl 1 (Nat.le_of_ble_eq_true rfl) kf_X5_18 rfl dX5_spread_116 ?_
                refine J_iload hB dX5_spread_119 6 rfl ?_
                obtain ⟨v_46, ev_46, h_47, hf⟩ := ald_e hf
                refine J_iald hB 5 rfl ev_46 h_47 dX5_spread_121 ?_
                obtain ⟨stuckRows_48, soonestStuck_49, h_50, hf⟩ := cl2_e hf
                refine J_callV (As := [.int v_46]) (rest := []) (n := 1) (ws' := wRS E a c b ru_stones ru_signs ru_any ru_back ru_ring ru_two table_slots_15 table_rows_16 table_size_17 depths_18 ways_19 stuckRows_48 soonestStuck_49) hB (c_X5_noteStuck l E a b table_slots_15 table_rows_16 table_size_17 depths_18 ways_19 stuckRows_20 soonestStuck_21 h_50) mi_X5_noteStuck ⟨ki_X5_noteStuck, kv_X5_noteStuck⟩ km_X5_51 ⟨rfl, rfl, Nat.le_of_ble_eq_true rfl, Nat.le_of_ble_eq_true rfl⟩ (Lies.part (ws' := wRS E a c b ru_stones ru_signs ru_any ru_back ru_ring ru_two table_slots_15 table_rows_16 table_size_17 depths_18 ways_19 stuckRows_48 soonestStuck_49) [1, 2, 3, 4, 5, 6] [0] rfl rfl rfl rfl 7 rfl (by decide +kernel) (by decide +kernel) rfl) 1 rfl rfl rfl rfl (Nat.le_of_ble_eq_true rfl) dX5_spread_122 ?_
                show J l E rX5_spread Y (wRS E a c b ru_stones ru_signs ru_any ru_back ru_ring ru_two table_slots_15 table_rows_16 table_size_17 depths_18 ways_19 stuckRows_48 soonestStuck_49) 125 [(8, .long r_34), (7, .int v_31), (0, .ref (a b)), (1, .ref (a c)), (3, .int p2), (4, .int p3), (6, .int x6_14)] []
                exact J_lv [2, 3, 4, 5, 6, 0] rfl (hj125 stuckRows_48 soonestStuck_49 hf)
          · have hf := it_t c_33 hf
            refine J_aload_n hB dX5_spread_90 rfl 1 rfl ?_
            refine J_get (v := .ref (a (b + 4))) hB inX5 1 rfl rfl 1 (Nat.le_of_ble_eq_true rfl) kf_X5_18 rfl dX5_spread_91 ?_
            refine J_iload hB dX5_spread_94 5 rfl ?_
            obtain ⟨v_51, ev_51, h_52, hf⟩ := ald_e hf
            refine J_iald hB 5 rfl ev_51 h_52 dX5_spread_96 ?_
            obtain rfl := Option.some.inj hf
            exact J_iret hB hR dX5_spread_97
    · refine J_iconst (v := (-1)) hB dX5_spread_139 rfl ?_
      obtain rfl := Option.some.inj hf
      exact J_iret hB hR dX5_spread_140
  · have hf := it_f c_9 hf
    refine J_iconst (v := (-1)) hB dX5_spread_32 rfl ?_
    obtain rfl := Option.some.inj hf
    exact J_iret hB hR dX5_spread_33
def f_X5_depthOf (table_slots : Nat → Int32) (table_rows : Nat → Int32) (depths : Nat → Int32) (p0 : Int32) : Option (Int32) :=
cl1 (f_X6_find table_slots table_rows p0) fun r_1 =>
jn0 (
some ((-1))) fun j20 =>
if r_1 < 0 then (
j20) else (
if r_1 < 640 then (
ald 640 depths r_1 fun v_5 =>
some v_5) else (
j20))
abbrev rX5_depthOf : Room := { frames := 2, cells := 0, slots := 0, locals := 45 }
set_option maxRecDepth 100000 in
set_option maxHeartbeats 4000000 in
theorem c_X5_depthOf (l : Launch) (E : En) (a : Nat → Nat) (b : Nat) (table_slots : Nat → Int32) (table_rows : Nat → Int32) (table_size : Int32) (depths : Nat → Int32) (ways : Nat → Int32) (stuckRows : Int32) (soonestStuck : Int32) {p0 : Int32} {res : Int32} (hf : f_X5_depthOf table_slots table_rows depths p0 = some res) : Ct l yX5_depthOf (.code yX5_depthOf cX5_depthOf 3 (some .int)) rX5_depthOf E [.ref (a b), .int p0] (wSearch E a b table_slots table_rows table_size depths ways stuckRows soonestStuck) (some (.int res)) (wSearch E a b table_slots table_rows table_size depths ways stuckRows soonestStuck) := by
  refine Ct.of (by decide) (Nat.le_of_ble_eq_true rfl) (fun Y hB hR => ?_)
  have hB : Cb E cX5_depthOf RX5 rX5_depthOf 3 Y := hB
  show J l E rX5_depthOf Y (wSearch E a b table_slots table_rows table_size depths ways stuckRows soonestStuck) 0 [(0, .ref (a b)), (1, .int p0)] []
  unfold f_X5_depthOf at hf
  refine J_aload_n hB dX5_depthOf_0 rfl 0 rfl ?_
  refine J_get (v := .ref (a (b + 1))) hB inX5 0 rfl rfl 0 (Nat.le_of_ble_eq_true rfl) kf_X5_12 rfl dX5_depthOf_1 ?_
  refine J_iload_n hB dX5_depthOf_4 rfl 1 rfl ?_
  obtain ⟨r_1, h_2, hf⟩ := cl1_e hf
  refine J_callV (As := [.int p0]) (rest := []) (n := 1) (ws' := wSearch E a b table_slots table_rows table_size depths ways stuckRows soonestStuck) hB (c_X6_find l E a (b + 1) table_slots table_rows table_size h_2) mi_X6_find ⟨ki_X6_find, kv_X6_find⟩ km_X5_74 ⟨rfl, rfl, Nat.le_of_ble_eq_true rfl, Nat.le_of_ble_eq_true rfl⟩ (Lies.part (ws' := wSearch E a b table_slots table_rows table_size depths ways stuckRows soonestStuck) [1, 2, 3] [0, 4, 5] rfl rfl rfl rfl 6 rfl (by decide +kernel) (by decide +kernel) rfl) 1 rfl rfl rfl rfl (Nat.le_of_ble_eq_true rfl) dX5_depthOf_5 ?_
  show J l E rX5_depthOf Y (wSearch E a b table_slots table_rows table_size depths ways stuckRows soonestStuck) 8 [(0, .ref (a b)), (1, .int p0)] [.int r_1]
  refine J_istore_n (lv' := [(2, .int r_1), (0, .ref (a b)), (1, .int p0)]) hB rfl dX5_depthOf_8 rfl (Nat.le_of_ble_eq_true rfl) rfl ?_
  refine J_iload_n hB dX5_depthOf_9 rfl 0 rfl ?_
  refine jn0_e (P := J l E rX5_depthOf Y (wSearch E a b table_slots table_rows table_size depths ways stuckRows soonestStuck) 20 [] []) hf (fun hf => ?_) (fun j20 hj20 hf => ?_)
  · refine J_iconst (v := (-1)) hB dX5_depthOf_20 rfl ?_
    refine J_goto (tgt := 30) hB dX5_depthOf_21 rfl ?_
    obtain rfl := Option.some.inj hf
    exact J_iret hB hR dX5_depthOf_30
  · refine J_if_lt (tgt := 20) hB dX5_depthOf_10 rfl (fun c_3 => ?_) (fun c_3 => ?_)
    · have hf := it_t c_3 hf
      exact J_lv [] rfl (hj20 hf)
    · have hf := it_f c_3 hf
      refine J_iload_n hB dX5_depthOf_13 rfl 0 rfl ?_
      refine J_sipush (v := 640) hB dX5_depthOf_14 rfl ?_
      refine J_icmp_lt (tgt := 24) hB dX5_depthOf_17 rfl (fun c_4 => ?_) (fun c_4 => ?_)
      · have hf := it_t c_4 hf
        refine J_aload_n hB dX5_depthOf_24 rfl 1 rfl ?_
        refine J_get (v := .ref (a (b + 4))) hB inX5 0 rfl rfl 1 (Nat.le_of_ble_eq_true rfl) kf_X5_18 rfl dX5_depthOf_25 ?_
        refine J_iload_n hB dX5_depthOf_28 rfl 0 rfl ?_
        obtain ⟨v_5, ev_5, h_6, hf⟩ := ald_e hf
        refine J_iald hB 4 rfl ev_5 h_6 dX5_depthOf_29 ?_
        obtain rfl := Option.some.inj hf
        exact J_iret hB hR dX5_depthOf_30
      · have hf := it_f c_4 hf
        exact J_lv [] rfl (hj20 hf)
def f_X5_waysOf (table_slots : Nat → Int32) (table_rows : Nat → Int32) (ways : Nat → Int32) (p0 : Int32) : Option (Int32) :=
cl1 (f_X6_find table_slots table_rows p0) fun r_1 =>
jn0 (
some 0) fun j20 =>
if r_1 < 0 then (
j20) else (
if r_1 < 640 then (
ald 640 ways r_1 fun v_5 =>
some v_5) else (
j20))
abbrev rX5_waysOf : Room := { frames := 2, cells := 0, slots := 0, locals := 45 }
set_option maxRecDepth 100000 in
set_option maxHeartbeats 4000000 in
theorem c_X5_waysOf (l : Launch) (E : En) (a : Nat → Nat) (b : Nat) (table_slots : Nat → Int32) (table_rows : Nat → Int32) (table_size : Int32) (depths : Nat → Int32) (ways : Nat → Int32) (stuckRows : Int32) (soonestStuck : Int32) {p0 : Int32} {res : Int32} (hf : f_X5_waysOf table_slots table_rows ways p0 = some res) : Ct l yX5_waysOf (.code yX5_waysOf cX5_waysOf 3 (some .int)) rX5_waysOf E [.ref (a b), .int p0] (wSearch E a b table_slots table_rows table_size depths ways stuckRows soonestStuck) (some (.int res)) (wSearch E a b table_slots table_rows table_size depths ways stuckRows soonestStuck) := by
  refine Ct.of (by decide) (Nat.le_of_ble_eq_true rfl) (fun Y hB hR => ?_)
  have hB : Cb E cX5_waysOf RX5 rX5_waysOf 3 Y := hB
  show J l E rX5_waysOf Y (wSearch E a b table_slots table_rows table_size depths ways stuckRows soonestStuck) 0 [(0, .ref (a b)), (1, .int p0)] []
  unfold f_X5_waysOf at hf
  refine J_aload_n hB dX5_waysOf_0 rfl 0 rfl ?_
  refine J_get (v := .ref (a (b + 1))) hB inX5 0 rfl rfl 0 (Nat.le_of_ble_eq_true rfl) kf_X5_12 rfl dX5_waysOf_1 ?_
  refine J_iload_n hB dX5_waysOf_4 rfl 1 rfl ?_
  obtain ⟨r_1, h_2, hf⟩ := cl1_e hf
  refine J_callV (As := [.int p0]) (rest := []) (n := 1) (ws' := wSearch E a b table_slots table_rows table_size depths ways stuckRows soonestStuck) hB (c_X6_find l E a (b + 1) table_slots table_rows table_size h_2) mi_X6_find ⟨ki_X6_find, kv_X6_find⟩ km_X5_74 ⟨rfl, rfl, Nat.le_of_ble_eq_true rfl, Nat.le_of_ble_eq_true rfl⟩ (Lies.part (ws' := wSearch E a b table_slots table_rows table_size depths ways stuckRows soonestStuck) [1, 2, 3] [0, 4, 5] rfl rfl rfl rfl 6 rfl (by decide +kernel) (by decide +kernel) rfl) 1 rfl rfl rfl rfl (Nat.le_of_ble_eq_true rfl) dX5_waysOf_5 ?_
  show J l E rX5_waysOf Y (wSearch E a b table_slots table_rows table_size depths ways stuckRows soonestStuck) 8 [(0, .ref (a b)), (1, .int p0)] [.int r_1]
  refine J_istore_n (lv' := [(2, .int r_1), (0, .ref (a b)), (1, .int p0)]) hB rfl dX5_waysOf_8 rfl (Nat.le_of_ble_eq_true rfl) rfl ?_
  refine J_iload_n hB dX5_waysOf_9 rfl 0 rfl ?_
  refine jn0_e (P := J l E rX5_waysOf Y (wSearch E a b table_slots table_rows table_size depths ways stuckRows soonestStuck) 20 [] []) hf (fun hf => ?_) (fun j20 hj20 hf => ?_)
  · refine J_iconst (v := 0) hB dX5_waysOf_20 rfl ?_
    refine J_goto (tgt := 30) hB dX5_waysOf_21 rfl ?_
    obtain rfl := Option.some.inj hf
    exact J_iret hB hR dX5_waysOf_30
  · refine J_if_lt (tgt := 20) hB dX5_waysOf_10 rfl (fun c_3 => ?_) (fun c_3 => ?_)
    · have hf := it_t c_3 hf
      exact J_lv [] rfl (hj20 hf)
    · have hf := it_f c_3 hf
      refine J_iload_n hB dX5_waysOf_13 rfl 0 rfl ?_
      refine J_sipush (v := 640) hB dX5_waysOf_14 rfl ?_
      refine J_icmp_lt (tgt := 24) hB dX5_waysOf_17 rfl (fun c_4 => ?_) (fun c_4 => ?_)
      · have hf := it_t c_4 hf
        refine J_aload_n hB dX5_waysOf_24 rfl 1 rfl ?_
        refine J_get (v := .ref (a (b + 5))) hB inX5 0 rfl rfl 2 (Nat.le_of_ble_eq_true rfl) kf_X5_22 rfl dX5_waysOf_25 ?_
        refine J_iload_n hB dX5_waysOf_28 rfl 0 rfl ?_
        obtain ⟨v_5, ev_5, h_6, hf⟩ := ald_e hf
        refine J_iald hB 5 rfl ev_5 h_6 dX5_waysOf_29 ?_
        obtain rfl := Option.some.inj hf
        exact J_iret hB hR dX5_waysOf_30
      · have hf := it_f c_4 hf
        exact J_lv [] rfl (hj20 hf)
def f_X0_forget (table_slots : Nat → Int32) (table_size : Int32) (known : Nat → Int32) : Option ((Nat → Int32) × Int32 × (Nat → Int32)) :=
cl2 (f_X6_clear table_slots table_size) fun table_slots_1 table_size_2 =>
cl1 (f_J7_fill_53178 640 known 0) fun known_4 =>
some (table_slots_1, table_size_2, known_4)
abbrev rX0_forget : Room := { frames := 2, cells := 0, slots := 0, locals := 43 }
set_option maxRecDepth 100000 in
set_option maxHeartbeats 4000000 in
theorem c_X0_forget (l : Launch) (E : En) (a : Nat → Nat) (b : Nat) (table_slots : Nat → Int32) (table_rows : Nat → Int32) (table_size : Int32) (known : Nat → Int32) {res : (Nat → Int32) × Int32 × (Nat → Int32)} (hf : f_X0_forget table_slots table_size known = some res) : Ct l yX0_forget (.code yX0_forget cX0_forget 1 none) rX0_forget E [.ref (a b)] (wGame E a b table_slots table_rows table_size known) none (wGame E a b res.1 table_rows res.2.1 res.2.2) := by
  refine Ct.of (by decide) (Nat.le_of_ble_eq_true rfl) (fun Y hB hR => ?_)
  have hB : Cb E cX0_forget RX0 rX0_forget 1 Y := hB
  show J l E rX0_forget Y (wGame E a b table_slots table_rows table_size known) 0 [(0, .ref (a b))] []
  unfold f_X0_forget at hf
  refine J_aload_n hB dX0_forget_0 rfl 0 rfl ?_
  refine J_get (v := .ref (a (b + 1))) hB inX0 0 rfl rfl 0 (Nat.le_of_ble_eq_true rfl) kf_X0_12 rfl dX0_forget_1 ?_
  obtain ⟨table_slots_1, table_size_2, h_3, hf⟩ := cl2_e hf
  refine J_callV (As := []) (rest := []) (n := 0) (ws' := wGame E a b table_slots_1 table_rows table_size_2 known) hB (c_X6_clear l E a (b + 1) table_slots table_rows table_size h_3) mi_X6_clear ⟨ki_X6_clear, kv_X6_clear⟩ km_X0_22 ⟨rfl, rfl, Nat.le_of_ble_eq_true rfl, Nat.le_of_ble_eq_true rfl⟩ (Lies.part (ws' := wGame E a b table_slots_1 table_rows table_size_2 known) [1, 2, 3] [0, 4] rfl rfl rfl rfl 5 rfl (by decide +kernel) (by decide +kernel) rfl) 1 rfl rfl rfl rfl (Nat.le_of_ble_eq_true rfl) dX0_forget_4 ?_
  show J l E rX0_forget Y (wGame E a b table_slots_1 table_rows table_size_2 known) 7 [(0, .ref (a b))] []
  refine J_aload_n hB dX0_forget_7 rfl 0 rfl ?_
  refine J_get (v := .ref (a (b + 4))) hB inX0 0 rfl rfl 1 (Nat.le_of_ble_eq_true rfl) kf_X0_18 rfl dX0_forget_8 ?_
  refine J_iconst (v := 0) hB dX0_forget_11 rfl ?_
  obtain ⟨known_4, h_5, hf⟩ := cl1_e hf
  refine J_callS (As := [.ref (a (b + 4)), .int 0]) (rest := []) (n := 2) (ws' := wGame E a b table_slots_1 table_rows table_size_2 known_4) hB (c_J7_fill_53178 l E a (b + 4) h_5) mi_J7_fill_53178 ks_J7_fill_53178 km_X0_25 ⟨rfl, rfl, Nat.le_of_ble_eq_true rfl, Nat.le_of_ble_eq_true rfl⟩ (Lies.part (ws' := wGame E a b table_slots_1 table_rows table_size_2 known_4) [4] [0, 1, 2, 3] rfl rfl rfl rfl 5 rfl (by decide +kernel) (by decide +kernel) rfl) rfl rfl (Nat.le_of_ble_eq_true rfl) dX0_forget_12 ?_
  show J l E rX0_forget Y (wGame E a b table_slots_1 table_rows table_size_2 known_4) 15 [(0, .ref (a b))] []
  obtain rfl := Option.some.inj hf
  exact J_vret hB hR dX0_forget_15
