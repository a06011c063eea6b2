def gfuel : Nat := 100
abbrev rX0_hasIt (d : Nat) : Room := { frames := 4 + 2 * d, cells := 0, slots := 0, locals := 102 + 57 * d }
abbrev rX0_winningMove (d : Nat) : Room := { frames := 4 + 2 * d + 1, cells := 0, slots := 0, locals := 102 + 57 * d + 27 }
def f_X0_winningMove (hI : Int32 → Int32 → Int32 → Int32 → Int32 → (Nat → Int32) → (Nat → Int32) → Int32 → (Nat → Int32) → Int32 → Int32 → Int32 → Option (Int32 × (Nat → Int32) × (Nat → Int32) × Int32 × (Nat → Int32))) (ru_stones : Int32) (ru_any : Int32) (ru_back : Int32) (ru_ring : Int32) (ru_two : Int32) (table_slots : Nat → Int32) (table_rows : Nat → Int32) (table_size : Int32) (known : Nat → Int32) (p1 p2 p3 : Int32) : Option (Int32 × (Nat → Int32) × (Nat → Int32) × Int32 × (Nat → Int32)) :=
cl1 (f_X4_allMoves ru_stones ru_any ru_back ru_ring ru_two p1 1) fun r_1 =>
cl1 (f_J13_bitCount_95d88 r_1) fun r_3 =>
lp6_4 (fun (x5_5 : Int64) (x8_6 : Int32) (table_slots_7 : Nat → Int32) (table_rows_8 : Nat → Int32) (table_size_9 : Int32) (known_10 : Nat → Int32) nx18 ex18 =>
if r_3 ≤ x8_6 then (
ex18 table_slots_7 table_rows_8 table_size_9 known_10) else (
cl1 (f_X3_lowestMove x5_5) fun r_16 =>
nmv (α := Int64) (x5_5 &&& (x5_5 - (1 : Int64))) fun x5_18 =>
cl1 (f_X3_at p1 (r_16 >>> ((3 : Int32) &&& 31))) fun r_19 =>
jn1 (fun (s_21 : Int32) =>
jn1 (fun (s_22 : Int32) =>
jn1 (fun (s_23 : Int32) =>
jn4 (fun (table_slots_24 : Nat → Int32) (table_rows_25 : Nat → Int32) (table_size_26 : Int32) (known_27 : Nat → Int32) =>
nmv (α := Int32) (x8_6 + 1) fun x8_28 =>
nx18 x5_18 x8_28 table_slots_24 table_rows_25 table_size_26 known_27) fun j107 =>
if s_23 = 0 then (
j107 table_slots_7 table_rows_8 table_size_9 known_10) else (
cl1 (f_X3_moved p1 r_16) fun r_30 =>
cl5 (hI ru_stones ru_any ru_back ru_ring ru_two table_slots_7 table_rows_8 table_size_9 known_10 r_30 ((1 : Int32) - p2) (p3 + (1 : Int32))) fun r_32 table_slots_33 table_rows_34 table_size_35 known_36 =>
if r_32 = 0 then (
some (r_16, table_slots_33, table_rows_34, table_size_35, known_36)) else (
j107 table_slots_33 table_rows_34 table_size_35 known_36))) fun j76 =>
if s_21 = s_22 then (
j76 1) else (
j76 0)) fun j68 =>
if p2 = 1 then (
j68 1) else (
j68 0)) fun j58 =>
if r_19 = 2 then (
j58 1) else (
j58 0))) (fun (table_slots_11 : Nat → Int32) (table_rows_12 : Nat → Int32) (table_size_13 : Int32) (known_14 : Nat → Int32) =>
some ((-1), table_slots_11, table_rows_12, table_size_13, known_14)) fuel r_1 0 table_slots table_rows table_size known
set_option maxRecDepth 100000 in
set_option maxHeartbeats 4000000 in
theorem c_X0_winningMove (l : Launch) (E : En) (a : Nat → Nat) (hI : Int32 → Int32 → Int32 → Int32 → Int32 → (Nat → Int32) → (Nat → Int32) → Int32 → (Nat → Int32) → Int32 → Int32 → Int32 → Option (Int32 × (Nat → Int32) × (Nat → Int32) × Int32 × (Nat → Int32))) (d : Nat) (IH : ∀ (c b : Nat) (ru_stones : Int32) (ru_signs : Int32) (ru_any : Int32) (ru_back : Int32) (ru_ring : Int32) (ru_two : Int32) (table_slots : Nat → Int32) (table_rows : Nat → Int32) (table_size : Int32) (known : Nat → Int32) {p1 p2 p3 : Int32} {res : Int32 × (Nat → Int32) × (Nat → Int32) × Int32 × (Nat → Int32)} (hf : hI ru_stones ru_any ru_back ru_ring ru_two table_slots table_rows table_size known p1 p2 p3 = some res), Ct l yX0_hasIt (.code yX0_hasIt cX0_hasIt 8 (some .boolean)) (rX0_hasIt d) E [.ref (a b), .ref (a c), .int p1, .int p2, .int p3] (wRG E a c b ru_stones ru_signs ru_any ru_back ru_ring ru_two table_slots table_rows table_size known) (some (.int res.1)) (wRG E a c b ru_stones ru_signs ru_any ru_back ru_ring ru_two res.2.1 res.2.2.1 res.2.2.2.1 res.2.2.2.2)) (c b : Nat) (ru_stones : Int32) (ru_signs : Int32) (ru_any : Int32) (ru_back : Int32) (ru_ring : Int32) (ru_two : Int32) (table_slots : Nat → Int32) (table_rows : Nat → Int32) (table_size : Int32) (known : Nat → Int32) {p1 p2 p3 : Int32} {res : Int32 × (Nat → Int32) × (Nat → Int32) × Int32 × (Nat → Int32)} (hf : f_X0_winningMove hI ru_stones ru_any ru_back ru_ring ru_two table_slots table_rows table_size known p1 p2 p3 = some res) : Ct l yX0_winningMove (.code yX0_winningMove cX0_winningMove 11 (some .int)) (rX0_winningMove d) E [.ref (a b), .ref (a c), .int p1, .int p2, .int p3] (wRG E a c b ru_stones ru_signs ru_any ru_back ru_ring ru_two table_slots table_rows table_size known) (some (.int res.1)) (wRG E a c b ru_stones ru_signs ru_any ru_back ru_ring ru_two res.2.1 res.2.2.1 res.2.2.2.1 res.2.2.2.2) := by
  refine Ct.of (by decide) (Nat.le_of_ble_eq_true rfl) (fun Y hB hR => ?_)
  have hB : Cb E cX0_winningMove RX0 (rX0_winningMove d) 11 Y := hB
  show J l E (rX0_winningMove d) Y (wRG E a c b ru_stones ru_signs ru_any ru_back ru_ring ru_two table_slots table_rows table_size known) 0 [(0, .ref (a b)), (1, .ref (a c)), (2, .int p1), (3, .int p2), (4, .int p3)] []
  unfold f_X0_winningMove at hf
  refine J_aload_n hB dX0_winningMove_0 rfl 1 rfl ?_
  refine J_iload_n hB dX0_winningMove_1 rfl 2 rfl ?_
  refine J_iconst (v := 1) hB dX0_winningMove_2 rfl ?_
  obtain ⟨r_1, h_2, hf⟩ := cl1_e hf
  refine J_callV (As := [.int p1, .int 1]) (rest := []) (n := 2) (ws' := wRG E a c b ru_stones ru_signs ru_any ru_back ru_ring ru_two table_slots table_rows table_size known) hB (c_X4_allMoves l E a c ru_stones ru_signs ru_any ru_back ru_ring ru_two h_2) mi_X4_allMoves ⟨ki_X4_allMoves, kv_X4_allMoves⟩ km_X0_39 ⟨rfl, rfl, (by show 3 + 1 ≤ 4 + 2 * d + 1; omega), (by show 8 + (6 + 11) + (77) ≤ 102 + 57 * d + 27; omega)⟩ (Lies.part (ws' := wRG E a c b ru_stones ru_signs ru_any ru_back ru_ring ru_two table_slots table_rows table_size known) [0] [1, 2, 3, 4, 5] rfl rfl rfl rfl 6 rfl (by decide +kernel) (by decide +kernel) rfl) 0 rfl rfl rfl rfl (Nat.le_of_ble_eq_true rfl) dX0_winningMove_3 ?_
  show J l E (rX0_winningMove d) Y (wRG E a c b ru_stones ru_signs ru_any ru_back ru_ring ru_two table_slots table_rows table_size known) 6 [(0, .ref (a b)), (1, .ref (a c)), (2, .int p1), (3, .int p2), (4, .int p3)] [.long r_1]
  refine J_lstore (lv' := [(5, .long r_1), (0, .ref (a b)), (1, .ref (a c)), (2, .int p1), (3, .int p2), (4, .int p3)]) hB rfl dX0_winningMove_6 (Nat.le_of_ble_eq_true rfl) rfl ?_
  refine J_lload hB dX0_winningMove_8 0 rfl ?_
  obtain ⟨r_3, h_4, hf⟩ := cl1_e hf
  refine J_callS (As := [.long r_1]) (rest := []) (n := 1) (ws' := wRG E a c b ru_stones ru_signs ru_any ru_back ru_ring ru_two table_slots table_rows table_size known) hB (c_J13_bitCount_95d88 l E a h_4) mi_J13_bitCount_95d88 ks_J13_bitCount_95d88 km_X0_45 ⟨rfl, rfl, (by show 0 + 1 ≤ 4 + 2 * d + 1; omega), (by show 8 + (2 + 11) + (0) ≤ 102 + 57 * d + 27; omega)⟩ Lies.none rfl rfl (Nat.le_of_ble_eq_true rfl) dX0_winningMove_10 ?_
  show J l E (rX0_winningMove d) Y (wRG E a c b ru_stones ru_signs ru_any ru_back ru_ring ru_two table_slots table_rows table_size known) 13 [(5, .long r_1), (0, .ref (a b)), (1, .ref (a c)), (2, .int p1), (3, .int p2), (4, .int p3)] [.int r_3]
  refine J_istore (lv' := [(7, .int r_3), (5, .long r_1), (0, .ref (a b)), (1, .ref (a c)), (2, .int p1), (3, .int p2), (4, .int p3)]) hB rfl dX0_winningMove_13 (Nat.le_of_ble_eq_true rfl) rfl ?_
  refine J_iconst (v := 0) hB dX0_winningMove_15 rfl ?_
  refine J_istore (lv' := [(8, .int 0), (7, .int r_3), (5, .long r_1), (0, .ref (a b)), (1, .ref (a c)), (2, .int p1), (3, .int p2), (4, .int p3)]) hB rfl dX0_winningMove_16 (Nat.le_of_ble_eq_true rfl) rfl ?_
  refine J_lv [3, 4, 5, 6, 7, 2, 1, 0] rfl ?_
  refine lp6_4_J (P := fun x5_5 x8_6 table_slots_7 table_rows_8 table_size_9 known_10 => J l E (rX0_winningMove d) Y (wRG E a c b ru_stones ru_signs ru_any ru_back ru_ring ru_two table_slots_7 table_rows_8 table_size_9 known_10) 18 [(0, .ref (a b)), (1, .ref (a c)), (2, .int p1), (3, .int p2), (4, .int p3), (5, .long x5_5), (7, .int r_3), (8, .int x8_6)] []) (Q := fun table_slots_11 table_rows_12 table_size_13 known_14 => J l E (rX0_winningMove d) Y (wRG E a c b ru_stones ru_signs ru_any ru_back ru_ring ru_two table_slots_11 table_rows_12 table_size_13 known_14) 113 [] []) (fun x5_5 x8_6 table_slots_7 table_rows_8 table_size_9 known_10 nx18 ex18 hnx18 hex18 hf => ?_) (fun table_slots_11 table_rows_12 table_size_13 known_14 hf => ?_) hf
  · refine J_iload hB dX0_winningMove_18 7 rfl ?_
    refine J_iload hB dX0_winningMove_20 6 rfl ?_
    refine J_icmp_ge (tgt := 113) hB dX0_winningMove_22 rfl (fun c_15 => ?_) (fun c_15 => ?_)
    · have hf := it_t c_15 hf
      exact J_lv [] rfl (hex18 table_slots_7 table_rows_8 table_size_9 known_10 hf)
    · have hf := it_f c_15 hf
      refine J_lload hB dX0_winningMove_25 5 rfl ?_
      obtain ⟨r_16, h_17, hf⟩ := cl1_e hf
      refine J_callS (As := [.long x5_5]) (rest := []) (n := 1) (ws' := wRG E a c b ru_stones ru_signs ru_any ru_back ru_ring ru_two table_slots_7 table_rows_8 table_size_9 known_10) hB (c_X3_lowestMove l E a h_17) mi_X3_lowestMove ks_X3_lowestMove km_X0_51 ⟨rfl, rfl, (by show 1 + 1 ≤ 4 + 2 * d + 1; omega), (by show 8 + (2 + 11) + (21) ≤ 102 + 57 * d + 27; omega)⟩ Lies.none rfl rfl (Nat.le_of_ble_eq_true rfl) dX0_winningMove_27 ?_
      show J l E (rX0_winningMove d) Y (wRG E a c b ru_stones ru_signs ru_any ru_back ru_ring ru_two table_slots_7 table_rows_8 table_size_9 known_10) 30 [(0, .ref (a b)), (1, .ref (a c)), (2, .int p1), (3, .int p2), (4, .int p3), (5, .long x5_5), (7, .int r_3), (8, .int x8_6)] [.int r_16]
      refine J_istore (lv' := [(9, .int r_16), (0, .ref (a b)), (1, .ref (a c)), (2, .int p1), (3, .int p2), (4, .int p3), (5, .long x5_5), (7, .int r_3), (8, .int x8_6)]) hB rfl dX0_winningMove_30 (Nat.le_of_ble_eq_true rfl) rfl ?_
      refine J_lload hB dX0_winningMove_32 6 rfl ?_
      refine J_lload hB dX0_winningMove_34 6 rfl ?_
      refine J_lconst (v := 1) hB dX0_winningMove_36 rfl ?_
      refine J_lsub hB dX0_winningMove_37 ?_
      refine J_land hB dX0_winningMove_38 ?_
      obtain ⟨x5_18, ex5_18, hf⟩ := nmv_e hf
      refine J_lstore (lv' := [(5, .long x5_18), (9, .int r_16), (0, .ref (a b)), (1, .ref (a c)), (2, .int p1), (3, .int p2), (4, .int p3), (7, .int r_3), (8, .int x8_6)]) hB ex5_18 dX0_winningMove_39 (Nat.le_of_ble_eq_true rfl) rfl ?_
      refine J_iload_n hB dX0_winningMove_41 rfl 4 rfl ?_
      refine J_iload hB dX0_winningMove_42 1 rfl ?_
      refine J_iconst (v := 3) hB dX0_winningMove_44 rfl ?_
      refine J_ishr hB dX0_winningMove_45 ?_
      obtain ⟨r_19, h_20, hf⟩ := cl1_e hf
      refine J_callS (As := [.int p1, .int (r_16 >>> ((3 : Int32) &&& 31))]) (rest := []) (n := 2) (ws' := wRG E a c b ru_stones ru_signs ru_any ru_back ru_ring ru_two table_slots_7 table_rows_8 table_size_9 known_10) hB (c_X3_at l E a h_20) mi_X3_at ks_X3_at km_X0_56 ⟨rfl, rfl, (by show 0 + 1 ≤ 4 + 2 * d + 1; omega), (by show 8 + (2 + 11) + (0) ≤ 102 + 57 * d + 27; omega)⟩ Lies.none rfl rfl (Nat.le_of_ble_eq_true rfl) dX0_winningMove_46 ?_
      show J l E (rX0_winningMove d) Y (wRG E a c b ru_stones ru_signs ru_any ru_back ru_ring ru_two table_slots_7 table_rows_8 table_size_9 known_10) 49 [(5, .long x5_18), (9, .int r_16), (0, .ref (a b)), (1, .ref (a c)), (2, .int p1), (3, .int p2), (4, .int p3), (7, .int r_3), (8, .int x8_6)] [.int r_19]
      refine J_iconst (v := 2) hB dX0_winningMove_49 rfl ?_
      refine jn1_e (P := fun s_21 => J l E (rX0_winningMove d) Y (wRG E a c b ru_stones ru_signs ru_any ru_back ru_ring ru_two table_slots_7 table_rows_8 table_size_9 known_10) 58 [(0, .ref (a b)), (1, .ref (a c)), (2, .int p1), (3, .int p2), (4, .int p3), (5, .long x5_18), (7, .int r_3), (8, .int x8_6), (9, .int r_16)] [.int s_21]) hf (fun s_21 hf => ?_) (fun j58 hj58 hf => ?_)
      · refine J_iload_n hB dX0_winningMove_58 rfl 3 rfl ?_
        refine J_iconst (v := 1) hB dX0_winningMove_59 rfl ?_
        refine jn1_e (P := fun s_22 => J l E (rX0_winningMove d) Y (wRG E a c b ru_stones ru_signs ru_any ru_back ru_ring ru_two table_slots_7 table_rows_8 table_size_9 known_10) 68 [(0, .ref (a b)), (1, .ref (a c)), (2, .int p1), (3, .int p2), (4, .int p3), (5, .long x5_18), (7, .int r_3), (8, .int x8_6), (9, .int r_16)] [.int s_22, .int s_21]) hf (fun s_22 hf => ?_) (fun j68 hj68 hf => ?_)
        · refine jn1_e (P := fun s_23 => J l E (rX0_winningMove d) Y (wRG E a c b ru_stones ru_signs ru_any ru_back ru_ring ru_two table_slots_7 table_rows_8 table_size_9 known_10) 76 [(0, .ref (a b)), (1, .ref (a c)), (2, .int p1), (3, .int p2), (4, .int p3), (5, .long x5_18), (7, .int r_3), (8, .int x8_6), (9, .int r_16)] [.int s_23]) hf (fun s_23 hf => ?_) (fun j76 hj76 hf => ?_)
          · refine J_istore (lv' := [(10, .int s_23), (0, .ref (a b)), (1, .ref (a c)), (2, .int p1), (3, .int p2), (4, .int p3), (5, .long x5_18), (7, .int r_3), (8, .int x8_6), (9, .int r_16)]) hB rfl dX0_winningMove_76 (Nat.le_of_ble_eq_true rfl) rfl ?_
            refine J_iload hB dX0_winningMove_78 0 rfl ?_
            refine jn4_e (P := fun table_slots_24 table_rows_25 table_size_26 known_27 => J l E (rX0_winningMove d) Y (wRG E a c b ru_stones ru_signs ru_any ru_back ru_ring ru_two table_slots_24 table_rows_25 table_size_26 known_27) 107 [(0, .ref (a b)), (1, .ref (a c)), (2, .int p1), (3, .int p2), (4, .int p3), (5, .long x5_18), (7, .int r_3), (8, .int x8_6)] []) hf (fun table_slots_24 table_rows_25 table_size_26 known_27 hf => ?_) (fun j107 hj107 hf => ?_)
            · obtain ⟨x8_28, ex8_28, hf⟩ := nmv_e hf
              refine J_iinc (lv' := [(8, .int x8_28), (0, .ref (a b)), (1, .ref (a c)), (2, .int p1), (3, .int p2), (4, .int p3), (5, .long x5_18), (7, .int r_3)]) hB ex8_28 dX0_winningMove_107 7 rfl (Nat.le_of_ble_eq_true rfl) rfl ?_
              refine J_goto (tgt := 18) hB dX0_winningMove_110 rfl ?_
              exact J_lv [1, 2, 3, 4, 5, 6, 7, 0] rfl (hnx18 x5_18 x8_28 table_slots_24 table_rows_25 table_size_26 known_27 hf)
            · refine J_if_eq (tgt := 107) hB dX0_winningMove_80 rfl (fun c_29 => ?_) (fun c_29 => ?_)
              · have hf := it_t c_29 hf
                exact J_lv [1, 2, 3, 4, 5, 6, 7, 8] rfl (hj107 table_slots_7 table_rows_8 table_size_9 known_10 hf)
              · have hf := it_f c_29 hf
                refine J_aload_n hB dX0_winningMove_83 rfl 1 rfl ?_
                refine J_aload_n hB dX0_winningMove_84 rfl 2 rfl ?_
                refine J_iload_n hB dX0_winningMove_85 rfl 3 rfl ?_
                refine J_iload hB dX0_winningMove_86 9 rfl ?_
                obtain ⟨r_30, h_31, hf⟩ := cl1_e hf
                refine J_callS (As := [.int p1, .int r_16]) (rest := [.ref (a c), .ref (a b)]) (n := 2) (ws' := wRG E a c b ru_stones ru_signs ru_any ru_back ru_ring ru_two table_slots_7 table_rows_8 table_size_9 known_10) hB (c_X3_moved l E a h_31) mi_X3_moved ks_X3_moved km_X0_60 ⟨rfl, rfl, (by show 0 + 1 ≤ 4 + 2 * d + 1; omega), (by show 8 + (5 + 11) + (0) ≤ 102 + 57 * d + 27; omega)⟩ Lies.none rfl rfl (Nat.le_of_ble_eq_true rfl) dX0_winningMove_88 ?_
                show J l E (rX0_winningMove d) Y (wRG E a c b ru_stones ru_signs ru_any ru_back ru_ring ru_two table_slots_7 table_rows_8 table_size_9 known_10) 91 [(10, .int s_23), (0, .ref (a b)), (1, .ref (a c)), (2, .int p1), (3, .int p2), (4, .int p3), (5, .long x5_18), (7, .int r_3), (8, .int x8_6), (9, .int r_16)] [.int r_30, .ref (a c), .ref (a b)]
                refine J_iconst (v := 1) hB dX0_winningMove_91 rfl ?_
                refine J_iload_n hB dX0_winningMove_92 rfl 4 rfl ?_
                refine J_isub hB dX0_winningMove_93 ?_
                refine J_iload hB dX0_winningMove_94 5 rfl ?_
                refine J_iconst (v := 1) hB dX0_winningMove_96 rfl ?_
                refine J_iadd hB dX0_winningMove_97 ?_
                obtain ⟨r_32, table_slots_33, table_rows_34, table_size_35, known_36, h_37, hf⟩ := cl5_e hf
                refine J_callV (As := [.ref (a c), .int r_30, .int ((1 : Int32) - p2), .int (p3 + (1 : Int32))]) (rest := []) (n := 4) (ws' := wRG E a c b ru_stones ru_signs ru_any ru_back ru_ring ru_two table_slots_33 table_rows_34 table_size_35 known_36) hB (IH c b ru_stones ru_signs ru_any ru_back ru_ring ru_two table_slots_7 table_rows_8 table_size_9 known_10 h_37) mi_X0_hasIt ⟨ki_X0_hasIt, kv_X0_hasIt⟩ km_X0_63 ⟨rfl, rfl, (by show 4 + 2 * d + 1 ≤ 4 + 2 * d + 1; omega), (by show 8 + (8 + 11) + (102 + 57 * d) ≤ 102 + 57 * d + 27; omega)⟩ Lies.same 1 rfl rfl rfl rfl (Nat.le_of_ble_eq_true rfl) dX0_winningMove_98 ?_
                show J l E (rX0_winningMove d) Y (wRG E a c b ru_stones ru_signs ru_any ru_back ru_ring ru_two table_slots_33 table_rows_34 table_size_35 known_36) 101 [(10, .int s_23), (0, .ref (a b)), (1, .ref (a c)), (2, .int p1), (3, .int p2), (4, .int p3), (5, .long x5_18), (7, .int r_3), (8, .int x8_6), (9, .int r_16)] [.int r_32]
                refine J_if_ne (tgt := 107) hB dX0_winningMove_101 rfl (fun c_38 => ?_) (fun c_38 => ?_)
                · have hf := it_f c_38 hf
                  exact J_lv [1, 2, 3, 4, 5, 6, 7, 8] rfl (hj107 table_slots_33 table_rows_34 table_size_35 known_36 hf)
                · have hf := it_t c_38 hf
                  refine J_iload hB dX0_winningMove_104 9 rfl ?_
                  obtain rfl := Option.some.inj hf
                  exact J_iret hB hR dX0_winningMove_106
          · refine J_icmp_ne (tgt := 75) hB dX0_winningMove_68 rfl (fun c_39 => ?_) (fun c_39 => ?_)
            · have hf := it_f c_39 hf
              refine J_iconst (v := 0) hB dX0_winningMove_75 rfl ?_
              exact J_lv [0, 1, 2, 3, 4, 5, 6, 7, 8] rfl (hj76 0 hf)
            · have hf := it_t c_39 hf
              refine J_iconst (v := 1) hB dX0_winningMove_71 rfl ?_
              refine J_goto (tgt := 76) hB dX0_winningMove_72 rfl ?_
              exact J_lv [0, 1, 2, 3, 4, 5, 6, 7, 8] rfl (hj76 1 hf)
        · refine J_icmp_ne (tgt := 67) hB dX0_winningMove_60 rfl (fun c_40 => ?_) (fun c_40 => ?_)
          · have hf := it_f c_40 hf
            refine J_iconst (v := 0) hB dX0_winningMove_67 rfl ?_
            exact J_lv [0, 1, 2, 3, 4, 5, 6, 7, 8] rfl (hj68 0 hf)
          · have hf := it_t c_40 hf
            refine J_iconst (v := 1) hB dX0_winningMove_63 rfl ?_
            refine J_goto (tgt := 68) hB dX0_winningMove_64 rfl ?_
            exact J_lv [0, 1, 2, 3, 4, 5, 6, 7, 8] rfl (hj68 1 hf)
      · refine J_icmp_ne (tgt := 57) hB dX0_winningMove_50 rfl (fun c_41 => ?_) (fun c_41 => ?_)
        · have hf := it_f c_41 hf
          refine J_iconst (v := 0) hB dX0_winningMove_57 rfl ?_
          exact J_lv [2, 3, 4, 5, 6, 0, 7, 8, 1] rfl (hj58 0 hf)
        · have hf := it_t c_41 hf
          refine J_iconst (v := 1) hB dX0_winningMove_53 rfl ?_
          refine J_goto (tgt := 58) hB dX0_winningMove_54 rfl ?_
          exact J_lv [2, 3, 4, 5, 6, 0, 7, 8, 1] rfl (hj58 1 hf)
  · refine J_iconst (v := (-1)) hB dX0_winningMove_113 rfl ?_
    obtain rfl := Option.some.inj hf
    exact J_iret hB hR dX0_winningMove_114
def f_X0_hasIt : Nat → Int32 → Int32 → Int32 → Int32 → Int32 → (Nat → Int32) → (Nat → Int32) → Int32 → (Nat → Int32) → Int32 → Int32 → Int32 → Option (Int32 × (Nat → Int32) × (Nat → Int32) × Int32 × (Nat → Int32))
  | 0, _, _, _, _, _, _, _, _, _, _, _, _ => none
  | d + 1, ru_stones, ru_any, ru_back, ru_ring, ru_two, table_slots, table_rows, table_size, known, p1, p2, p3 =>
    cl4 (f_X6_meet table_slots table_rows table_size p1) fun r_1 table_slots_2 table_rows_3 table_size_4 =>
    if 64 < p3 then (
    some (0, table_slots_2, table_rows_3, table_size_4, known)) else (
    if r_1 < 0 then (
    some (0, table_slots_2, table_rows_3, table_size_4, known)) else (
    if r_1 < 640 then (
    ald 640 known r_1 fun v_9 =>
    nmv (α := Int32) ((v_9 >>> (((2 : Int32) * p2) &&& 31)) &&& (3 : Int32)) fun x6_11 =>
    if x6_11 = 0 then (
    cl5 (f_X0_winningMove (f_X0_hasIt d) ru_stones ru_any ru_back ru_ring ru_two table_slots_2 table_rows_3 table_size_4 known p1 p2 p3) fun r_13 table_slots_14 table_rows_15 table_size_16 known_17 =>
    jn1 (fun (s_19 : Int32) =>
    ald 640 known_17 r_1 fun v_20 =>
    jn1 (fun (s_22 : Int32) =>
    astI 640 known_17 r_1 (v_20 ||| (s_22 <<< (((2 : Int32) * p2) &&& 31))) fun known_23 =>
    gz s_19 fun _ =>
    some (s_19, table_slots_14, table_rows_15, table_size_16, known_23)) fun j102 =>
    if s_19 = 0 then (
    j102 1) else (
    j102 2)) fun j82 =>
    if r_13 = ((-1)) then (
    j82 0) else (
    j82 1)) else (
    if x6_11 = 2 then (
    some (1, table_slots_2, table_rows_3, table_size_4, known)) else (
    some (0, table_slots_2, table_rows_3, table_size_4, known)))) else (
    some (0, table_slots_2, table_rows_3, table_size_4, known))))
set_option maxRecDepth 100000 in
set_option maxHeartbeats 4000000 in
theorem c_X0_hasIt (l : Launch) (E : En) (a : Nat → Nat) : ∀ (d : Nat) (c b : Nat) (ru_stones : Int32) (ru_signs : Int32) (ru_any : Int32) (ru_back : Int32) (ru_ring : Int32) (ru_two : Int32) (table_slots : Nat → Int32) (table_rows : Nat → Int32) (table_size : Int32) (known : Nat → Int32) {p1 p2 p3 : Int32} {res : Int32 × (Nat → Int32) × (Nat → Int32) × Int32 × (Nat → Int32)} (hf : f_X0_hasIt d ru_stones ru_any ru_back ru_ring ru_two table_slots table_rows table_size known p1 p2 p3 = some res), Ct l yX0_hasIt (.code yX0_hasIt cX0_hasIt 8 (some .boolean)) (rX0_hasIt d) E [.ref (a b), .ref (a c), .int p1, .int p2, .int p3] (wRG E a c b ru_stones ru_signs ru_any ru_back ru_ring ru_two table_slots table_rows table_size known) (some (.int res.1)) (wRG E a c b ru_stones ru_signs ru_any ru_back ru_ring ru_two res.2.1 res.2.2.1 res.2.2.2.1 res.2.2.2.2) := by
  intro d
  induction d with
  | zero => intro c b ru_stones ru_signs ru_any ru_back ru_ring ru_two table_slots table_rows table_size known p1 p2 p3 res hf; cases hf
  | succ d ih =>
    intro c b ru_stones ru_signs ru_any ru_back ru_ring ru_two table_slots table_rows table_size known p1 p2 p3 res hf
    refine Ct.of (by decide) (Nat.le_of_ble_eq_true rfl) (fun Y hB hR => ?_)
    have hB : Cb E cX0_hasIt RX0 (rX0_hasIt (d + 1)) 8 Y := hB
    show J l E (rX0_hasIt (d + 1)) Y (wRG E a c b ru_stones ru_signs ru_any ru_back ru_ring ru_two table_slots table_rows table_size known) 0 [(0, .ref (a b)), (1, .ref (a c)), (2, .int p1), (3, .int p2), (4, .int p3)] []
    unfold f_X0_hasIt at hf
    refine J_aload_n hB dX0_hasIt_0 rfl 0 rfl ?_
    refine J_get (v := .ref (a (b + 1))) hB inX0 1 rfl rfl 0 (Nat.le_of_ble_eq_true rfl) kf_X0_12 rfl dX0_hasIt_1 ?_
    refine J_iload_n hB dX0_hasIt_4 rfl 2 rfl ?_
    obtain ⟨r_1, table_slots_2, table_rows_3, table_size_4, h_5, hf⟩ := cl4_e hf
    refine J_callV (As := [.int p1]) (rest := []) (n := 1) (ws' := wRG E a c b ru_stones ru_signs ru_any ru_back ru_ring ru_two table_slots_2 table_rows_3 table_size_4 known) hB (c_X6_meet l E a (b + 1) table_slots table_rows table_size h_5) mi_X6_meet ⟨ki_X6_meet, kv_X6_meet⟩ km_X0_31 ⟨rfl, rfl, (by show 1 + 1 ≤ 4 + 2 * (d + 1); omega), (by show 8 + (3 + 11) + (24) ≤ 102 + 57 * (d + 1); omega)⟩ (Lies.part (ws' := wRG E a c b ru_stones ru_signs ru_any ru_back ru_ring ru_two table_slots_2 table_rows_3 table_size_4 known) [2, 3, 4] [0, 1, 5] rfl rfl rfl rfl 6 rfl (by decide +kernel) (by decide +kernel) rfl) 2 rfl rfl rfl rfl (Nat.le_of_ble_eq_true rfl) dX0_hasIt_5 ?_
    show J l E (rX0_hasIt (d + 1)) Y (wRG E a c b ru_stones ru_signs ru_any ru_back ru_ring ru_two table_slots_2 table_rows_3 table_size_4 known) 8 [(0, .ref (a b)), (1, .ref (a c)), (2, .int p1), (3, .int p2), (4, .int p3)] [.int r_1]
    refine J_istore (lv' := [(5, .int r_1), (0, .ref (a b)), (1, .ref (a c)), (2, .int p1), (3, .int p2), (4, .int p3)]) hB rfl dX0_hasIt_8 (Nat.le_of_ble_eq_true rfl) rfl ?_
    refine J_iload hB dX0_hasIt_10 5 rfl ?_
    refine J_bipush (v := 64) hB dX0_hasIt_12 rfl ?_
    refine J_icmp_gt (tgt := 30) hB dX0_hasIt_14 rfl (fun c_6 => ?_) (fun c_6 => ?_)
    · have hf := it_t c_6 hf
      refine J_iconst (v := 0) hB dX0_hasIt_30 rfl ?_
      obtain rfl := Option.some.inj hf
      exact J_zret hB hR (Or.inl rfl) dX0_hasIt_31
    · have hf := it_f c_6 hf
      refine J_iload hB dX0_hasIt_17 0 rfl ?_
      refine J_if_lt (tgt := 30) hB dX0_hasIt_19 rfl (fun c_7 => ?_) (fun c_7 => ?_)
      · have hf := it_t c_7 hf
        refine J_iconst (v := 0) hB dX0_hasIt_30 rfl ?_
        obtain rfl := Option.some.inj hf
        exact J_zret hB hR (Or.inl rfl) dX0_hasIt_31
      · have hf := it_f c_7 hf
        refine J_iload hB dX0_hasIt_22 0 rfl ?_
        refine J_sipush (v := 640) hB dX0_hasIt_24 rfl ?_
        refine J_icmp_lt (tgt := 32) hB dX0_hasIt_27 rfl (fun c_8 => ?_) (fun c_8 => ?_)
        · have hf := it_t c_8 hf
          refine J_aload_n hB dX0_hasIt_32 rfl 1 rfl ?_
          refine J_get (v := .ref (a (b + 4))) hB inX0 1 rfl rfl 1 (Nat.le_of_ble_eq_true rfl) kf_X0_18 rfl dX0_hasIt_33 ?_
          refine J_iload hB dX0_hasIt_36 0 rfl ?_
          obtain ⟨v_9, ev_9, h_10, hf⟩ := ald_e hf
          refine J_iald hB 5 rfl ev_9 h_10 dX0_hasIt_38 ?_
          refine J_iconst (v := 2) hB dX0_hasIt_39 rfl ?_
          refine J_iload_n hB dX0_hasIt_40 rfl 4 rfl ?_
          refine J_imul hB dX0_hasIt_41 ?_
          refine J_ishr hB dX0_hasIt_42 ?_
          refine J_iconst (v := 3) hB dX0_hasIt_43 rfl ?_
          refine J_iand hB dX0_hasIt_44 ?_
          obtain ⟨x6_11, ex6_11, hf⟩ := nmv_e hf
          refine J_istore (lv' := [(6, .int x6_11), (5, .int r_1), (0, .ref (a b)), (1, .ref (a c)), (2, .int p1), (3, .int p2), (4, .int p3)]) hB ex6_11 dX0_hasIt_45 (Nat.le_of_ble_eq_true rfl) rfl ?_
          refine J_iload hB dX0_hasIt_47 0 rfl ?_
          refine J_if_eq (tgt := 64) hB dX0_hasIt_49 rfl (fun c_12 => ?_) (fun c_12 => ?_)
          · have hf := it_t c_12 hf
            refine J_aload_n hB dX0_hasIt_64 rfl 2 rfl ?_
            refine J_aload_n hB dX0_hasIt_65 rfl 3 rfl ?_
            refine J_iload_n hB dX0_hasIt_66 rfl 4 rfl ?_
            refine J_iload_n hB dX0_hasIt_67 rfl 5 rfl ?_
            refine J_iload hB dX0_hasIt_68 6 rfl ?_
            obtain ⟨r_13, table_slots_14, table_rows_15, table_size_16, known_17, h_18, hf⟩ := cl5_e hf
            refine J_callV (As := [.ref (a c), .int p1, .int p2, .int p3]) (rest := []) (n := 4) (ws' := wRG E a c b ru_stones ru_signs ru_any ru_back ru_ring ru_two table_slots_14 table_rows_15 table_size_16 known_17) hB (c_X0_winningMove l E a (f_X0_hasIt d) d ih c b ru_stones ru_signs ru_any ru_back ru_ring ru_two table_slots_2 table_rows_3 table_size_4 known h_18) mi_X0_winningMove ⟨ki_X0_winningMove, kv_X0_winningMove⟩ km_X0_35 ⟨rfl, rfl, (by show 4 + 2 * d + 1 + 1 ≤ 4 + 2 * (d + 1); omega), (by show 8 + (11 + 11) + (102 + 57 * d + 27) ≤ 102 + 57 * (d + 1); omega)⟩ Lies.same 1 rfl rfl rfl rfl (Nat.le_of_ble_eq_true rfl) dX0_hasIt_70 ?_
            show J l E (rX0_hasIt (d + 1)) Y (wRG E a c b ru_stones ru_signs ru_any ru_back ru_ring ru_two table_slots_14 table_rows_15 table_size_16 known_17) 73 [(6, .int x6_11), (5, .int r_1), (0, .ref (a b)), (1, .ref (a c)), (2, .int p1), (3, .int p2), (4, .int p3)] [.int r_13]
            refine J_iconst (v := (-1)) hB dX0_hasIt_73 rfl ?_
            refine jn1_e (P := fun s_19 => J l E (rX0_hasIt (d + 1)) Y (wRG E a c b ru_stones ru_signs ru_any ru_back ru_ring ru_two table_slots_14 table_rows_15 table_size_16 known_17) 82 [(0, .ref (a b)), (3, .int p2), (5, .int r_1)] [.int s_19]) hf (fun s_19 hf => ?_) (fun j82 hj82 hf => ?_)
            · refine J_istore (lv' := [(7, .int s_19), (0, .ref (a b)), (3, .int p2), (5, .int r_1)]) hB rfl dX0_hasIt_82 (Nat.le_of_ble_eq_true rfl) rfl ?_
              refine J_aload_n hB dX0_hasIt_84 rfl 1 rfl ?_
              refine J_get (v := .ref (a (b + 4))) hB inX0 1 rfl rfl 1 (Nat.le_of_ble_eq_true rfl) kf_X0_18 rfl dX0_hasIt_85 ?_
              refine J_iload hB dX0_hasIt_88 3 rfl ?_
              refine J_dup2 hB dX0_hasIt_90 rfl rfl ?_
              obtain ⟨v_20, ev_20, h_21, hf⟩ := ald_e hf
              refine J_iald hB 5 rfl ev_20 h_21 dX0_hasIt_91 ?_
              refine J_iload hB dX0_hasIt_92 0 rfl ?_
              refine jn1_e (P := fun s_22 => J l E (rX0_hasIt (d + 1)) Y (wRG E a c b ru_stones ru_signs ru_any ru_back ru_ring ru_two table_slots_14 table_rows_15 table_size_16 known_17) 102 [(3, .int p2), (7, .int s_19)] [.int s_22, .int v_20, .int r_1, .ref (a (b + 4))]) hf (fun s_22 hf => ?_) (fun j102 hj102 hf => ?_)
              · refine J_iconst (v := 2) hB dX0_hasIt_102 rfl ?_
                refine J_iload_n hB dX0_hasIt_103 rfl 0 rfl ?_
                refine J_imul hB dX0_hasIt_104 ?_
                refine J_ishl hB dX0_hasIt_105 ?_
                refine J_ior hB dX0_hasIt_106 ?_
                obtain ⟨known_23, eknown_23, h_24, hf⟩ := astI_e hf
                refine J_iast (ws' := wRG E a c b ru_stones ru_signs ru_any ru_back ru_ring ru_two table_slots_14 table_rows_15 table_size_16 known_23) hB 5 rfl eknown_23 h_24 dX0_hasIt_107 rfl ?_
                refine J_iload hB dX0_hasIt_108 1 rfl ?_
                obtain ⟨h_25, hf⟩ := gz_e hf
                obtain rfl := Option.some.inj hf
                exact J_zret hB hR h_25 dX0_hasIt_110
              · refine J_if_eq (tgt := 101) hB dX0_hasIt_94 rfl (fun c_26 => ?_) (fun c_26 => ?_)
                · have hf := it_t c_26 hf
                  refine J_iconst (v := 1) hB dX0_hasIt_101 rfl ?_
                  exact J_lv [2, 0] rfl (hj102 1 hf)
                · have hf := it_f c_26 hf
                  refine J_iconst (v := 2) hB dX0_hasIt_97 rfl ?_
                  refine J_goto (tgt := 102) hB dX0_hasIt_98 rfl ?_
                  exact J_lv [2, 0] rfl (hj102 2 hf)
            · refine J_icmp_eq (tgt := 81) hB dX0_hasIt_74 rfl (fun c_27 => ?_) (fun c_27 => ?_)
              · have hf := it_t c_27 hf
                refine J_iconst (v := 0) hB dX0_hasIt_81 rfl ?_
                exact J_lv [2, 5, 1] rfl (hj82 0 hf)
              · have hf := it_f c_27 hf
                refine J_iconst (v := 1) hB dX0_hasIt_77 rfl ?_
                refine J_goto (tgt := 82) hB dX0_hasIt_78 rfl ?_
                exact J_lv [2, 5, 1] rfl (hj82 1 hf)
          · have hf := it_f c_12 hf
            refine J_iload hB dX0_hasIt_52 0 rfl ?_
            refine J_iconst (v := 2) hB dX0_hasIt_54 rfl ?_
            refine J_icmp_ne (tgt := 62) hB dX0_hasIt_55 rfl (fun c_28 => ?_) (fun c_28 => ?_)
            · have hf := it_f c_28 hf
              refine J_iconst (v := 0) hB dX0_hasIt_62 rfl ?_
              obtain rfl := Option.some.inj hf
              exact J_zret hB hR (Or.inl rfl) dX0_hasIt_63
            · have hf := it_t c_28 hf
              refine J_iconst (v := 1) hB dX0_hasIt_58 rfl ?_
              refine J_goto (tgt := 63) hB dX0_hasIt_59 rfl ?_
              obtain rfl := Option.some.inj hf
              exact J_zret hB hR (Or.inr rfl) dX0_hasIt_63
        · have hf := it_f c_8 hf
          refine J_iconst (v := 0) hB dX0_hasIt_30 rfl ?_
          obtain rfl := Option.some.inj hf
          exact J_zret hB hR (Or.inl rfl) dX0_hasIt_31
