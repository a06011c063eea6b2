def f_X8_within (p0 : Int32) (p1 : Int32) (p2 : Int32) : Option (Int32) :=
if p0 < p1 then (
some 0) else (
if p2 < p0 then (
some 0) else (
some 1))
abbrev rX8_within : Room := { frames := 0, cells := 0, slots := 0, locals := 0 }
set_option maxRecDepth 100000 in
set_option maxHeartbeats 4000000 in
theorem c_X8_within (l : Launch) (E : En) (a : Nat → Nat) {p0 : Int32} {p1 : Int32} {p2 : Int32} {res : Int32} (hf : f_X8_within p0 p1 p2 = some res) : Ct l yX8_within (.code yX8_within cX8_within 3 (some .boolean)) rX8_within E [.int p0, .int p1, .int p2] ([]) (some (.int res)) ([]) := by
  refine Ct.of (by decide) (Nat.le_of_ble_eq_true rfl) (fun Y hB hR => ?_)
  have hB : Cb E cX8_within RX8 rX8_within 3 Y := hB
  show J l E rX8_within Y [] 0 [(0, .int p0), (1, .int p1), (2, .int p2)] []
  unfold f_X8_within at hf
  refine J_iload_n hB dX8_within_0 rfl 0 rfl ?_
  refine J_iload_n hB dX8_within_1 rfl 1 rfl ?_
  refine J_icmp_lt (tgt := 14) hB dX8_within_2 rfl (fun c_1 => ?_) (fun c_1 => ?_)
  · have hf := it_t c_1 hf
    refine J_iconst (v := 0) hB dX8_within_14 rfl ?_
    obtain rfl := Option.some.inj hf
    exact J_zret hB hR (Or.inl rfl) dX8_within_15
  · have hf := it_f c_1 hf
    refine J_iload_n hB dX8_within_5 rfl 0 rfl ?_
    refine J_iload_n hB dX8_within_6 rfl 2 rfl ?_
    refine J_icmp_gt (tgt := 14) hB dX8_within_7 rfl (fun c_2 => ?_) (fun c_2 => ?_)
    · have hf := it_t c_2 hf
      refine J_iconst (v := 0) hB dX8_within_14 rfl ?_
      obtain rfl := Option.some.inj hf
      exact J_zret hB hR (Or.inl rfl) dX8_within_15
    · have hf := it_f c_2 hf
      refine J_iconst (v := 1) hB dX8_within_10 rfl ?_
      refine J_goto (tgt := 15) hB dX8_within_11 rfl ?_
      obtain rfl := Option.some.inj hf
      exact J_zret hB hR (Or.inr rfl) dX8_within_15
def f_X8_letters (m_pageLength : Int32) (m_page : Nat → Int32) (p0 : Int64) : Option (Int32 × Int32 × (Nat → Int32)) :=
lp3_1 (fun (x3_1 : Int32) (x4_2 : Int32) (x5_3 : Int32) nx8 ex8 =>
if 8 ≤ x5_3 then (
ex8 x3_1) else (
nmv (α := Int32) (Int64.toInt32 ((p0 >>> (Int32.toInt64 ((8 : Int32) * x5_3) &&& 63)) &&& (255 : Int64))) fun x6_6 =>
if 126 < x6_6 then (
some ((-102), m_pageLength, m_page)) else (
jn0 (
jn1 (fun (s_8 : Int32) =>
jn1 (fun (s_9 : Int32) =>
nmv (α := Int32) (x3_1 + s_9) fun x3_10 =>
nmv (α := Int32) (x5_3 + 1) fun x5_11 =>
nx8 x3_10 s_8 x5_11) fun j77 =>
if x6_6 = 0 then (
j77 0) else (
j77 1)) fun j64 =>
jn0 (
j64 1) fun j59 =>
if x4_2 = 0 then (
if x6_6 = 0 then (
j59) else (
j64 0)) else (
j59)) fun j49 =>
if x4_2 = 0 then (
j49) else (
if x6_6 = 0 then (
j49) else (
some ((-102), m_pageLength, m_page)))))) (fun (x3_4 : Int32) =>
if (m_pageLength + x3_4) ≤ 14 then (
lp2_1 (fun (x5_18 : Int32) (m_page_19 : Nat → Int32) nx102 ex102 =>
if x3_4 ≤ x5_18 then (
ex102 m_page_19) else (
astB 14 m_page_19 (m_pageLength + x5_18) (Int8.toInt32 (Int32.toInt8 (Int64.toInt32 (p0 >>> (Int32.toInt64 ((8 : Int32) * x5_18) &&& 63))))) fun m_page_22 =>
nmv (α := Int32) (x5_18 + 1) fun x5_24 =>
nx102 x5_24 m_page_22)) (fun (m_page_20 : Nat → Int32) =>
nmv (α := Int32) (m_pageLength + x3_4) fun m_pageLength_25 =>
some (m_pageLength_25, m_pageLength_25, m_page_20)) fuel 0 m_page) else (
some ((-104), m_pageLength, m_page))) fuel 0 0 0
abbrev rX8_letters : Room := { frames := 0, cells := 0, slots := 0, locals := 0 }
set_option maxRecDepth 100000 in
set_option maxHeartbeats 4000000 in
theorem c_X8_letters (l : Launch) (E : En) (a : Nat → Nat) (b : Nat) (m_stones : Int32) (m_any : Int32) (m_backward : Int32) (m_ring : Int32) (m_two : Int32) (m_brooks : Int32) (m_readRow : Nat → Int32) (m_rowNow : Nat → Int32) (m_frogOn : Nat → Int32) (m_frogs : Int32) (m_kindOf : Nat → Int32) (m_moved : Int32) (m_movedFrom : Nat → Int32) (m_movedTo : Nat → Int32) (m_pageLength : Int32) (m_page : Nat → Int32) (m_faultAt : Int32) (m_isWhole : Int32) (m_newMany : Int32) (m_newSigns : Int32) (m_newRow : Nat → Int32) (m_long0 : Int32) (m_row : Nat → Int32) (m_far : Nat → Int32) (m_ways : Nat → Int64) (m_queue : Nat → Int32) (m_queueEnd : Int32) (m_endMany : Int32) (m_endSoon : Int32) (m_won : Nat → Int32) (m_seedNow : Int64) (m_isKept : Int32) (m_keptBrook : Int32) (m_keptMoved : Int32) (m_keptRow : Nat → Int32) (m_keptFrog : Nat → Int32) (m_keptFrom : Nat → Int32) (m_keptTo : Nat → Int32) (m_h : Int64) {p0 : Int64} {res : Int32 × Int32 × (Nat → Int32)} (hf : f_X8_letters m_pageLength m_page p0 = some res) : Ct l yX8_letters (.code yX8_letters cX8_letters 7 (some .int)) rX8_letters E [.ref (a b), .long p0] (wM E a b m_stones m_any m_backward m_ring m_two m_brooks m_readRow m_rowNow m_frogOn m_frogs m_kindOf m_moved m_movedFrom m_movedTo m_pageLength m_page m_faultAt m_isWhole m_newMany m_newSigns m_newRow m_long0 m_row m_far m_ways m_queue m_queueEnd m_endMany m_endSoon m_won m_seedNow m_isKept m_keptBrook m_keptMoved m_keptRow m_keptFrog m_keptFrom m_keptTo m_h) (some (.int res.1)) (wM E a b m_stones m_any m_backward m_ring m_two m_brooks m_readRow m_rowNow m_frogOn m_frogs m_kindOf m_moved m_movedFrom m_movedTo res.2.1 res.2.2 m_faultAt m_isWhole m_newMany m_newSigns m_newRow m_long0 m_row m_far m_ways m_queue m_queueEnd m_endMany m_endSoon m_won m_seedNow m_isKept m_keptBrook m_keptMoved m_keptRow m_keptFrog m_keptFrom m_keptTo m_h) := by
  refine Ct.of (by decide) (Nat.le_of_ble_eq_true rfl) (fun Y hB hR => ?_)
  have hB : Cb E cX8_letters RX8 rX8_letters 7 Y := hB
  show J l E rX8_letters Y (wM E a b m_stones m_any m_backward m_ring m_two m_brooks m_readRow m_rowNow m_frogOn m_frogs m_kindOf m_moved m_movedFrom m_movedTo m_pageLength m_page m_faultAt m_isWhole m_newMany m_newSigns m_newRow m_long0 m_row m_far m_ways m_queue m_queueEnd m_endMany m_endSoon m_won m_seedNow m_isKept m_keptBrook m_keptMoved m_keptRow m_keptFrog m_keptFrom m_keptTo m_h) 0 [(0, .ref (a b)), (1, .long p0)] []
  unfold f_X8_letters at hf
  refine J_iconst (v := 0) hB dX8_letters_0 rfl ?_
  refine J_istore_n (lv' := [(3, .int 0), (0, .ref (a b)), (1, .long p0)]) hB rfl dX8_letters_1 rfl (Nat.le_of_ble_eq_true rfl) rfl ?_
  refine J_iconst (v := 0) hB dX8_letters_2 rfl ?_
  refine J_istore (lv' := [(4, .int 0), (3, .int 0), (0, .ref (a b)), (1, .long p0)]) hB rfl dX8_letters_3 (Nat.le_of_ble_eq_true rfl) rfl ?_
  refine J_iconst (v := 0) hB dX8_letters_5 rfl ?_
  refine J_istore (lv' := [(5, .int 0), (4, .int 0), (3, .int 0), (0, .ref (a b)), (1, .long p0)]) hB rfl dX8_letters_6 (Nat.le_of_ble_eq_true rfl) rfl ?_
  refine J_lv [3, 4, 2, 1, 0] rfl ?_
  refine lp3_1_J (P := fun x3_1 x4_2 x5_3 => J l E rX8_letters Y (wM E a b m_stones m_any m_backward m_ring m_two m_brooks m_readRow m_rowNow m_frogOn m_frogs m_kindOf m_moved m_movedFrom m_movedTo m_pageLength m_page m_faultAt m_isWhole m_newMany m_newSigns m_newRow m_long0 m_row m_far m_ways m_queue m_queueEnd m_endMany m_endSoon m_won m_seedNow m_isKept m_keptBrook m_keptMoved m_keptRow m_keptFrog m_keptFrom m_keptTo m_h) 8 [(0, .ref (a b)), (1, .long p0), (3, .int x3_1), (4, .int x4_2), (5, .int x5_3)] []) (Q := fun x3_4 => J l E rX8_letters Y (wM E a b m_stones m_any m_backward m_ring m_two m_brooks m_readRow m_rowNow m_frogOn m_frogs m_kindOf m_moved m_movedFrom m_movedTo m_pageLength m_page m_faultAt m_isWhole m_newMany m_newSigns m_newRow m_long0 m_row m_far m_ways m_queue m_queueEnd m_endMany m_endSoon m_won m_seedNow m_isKept m_keptBrook m_keptMoved m_keptRow m_keptFrog m_keptFrom m_keptTo m_h) 85 [(0, .ref (a b)), (1, .long p0), (3, .int x3_4)] []) (fun x3_1 x4_2 x5_3 nx8 ex8 hnx8 hex8 hf => ?_) (fun x3_4 hf => ?_) hf
  · refine J_iload hB dX8_letters_8 4 rfl ?_
    refine J_bipush (v := 8) hB dX8_letters_10 rfl ?_
    refine J_icmp_ge (tgt := 85) hB dX8_letters_12 rfl (fun c_5 => ?_) (fun c_5 => ?_)
    · have hf := it_t c_5 hf
      exact J_lv [0, 1, 2] rfl (hex8 x3_1 hf)
    · have hf := it_f c_5 hf
      refine J_lload_n hB dX8_letters_15 rfl 1 rfl ?_
      refine J_bipush (v := 8) hB dX8_letters_16 rfl ?_
      refine J_iload hB dX8_letters_18 4 rfl ?_
      refine J_imul hB dX8_letters_20 ?_
      refine J_lshr hB dX8_letters_21 ?_
      refine J_ldc2 hB dX8_letters_22 kk_X8_64 ?_
      refine J_land hB dX8_letters_25 ?_
      refine J_l2i hB dX8_letters_26 ?_
      obtain ⟨x6_6, ex6_6, hf⟩ := nmv_e hf
      refine J_istore (lv' := [(6, .int x6_6), (0, .ref (a b)), (1, .long p0), (3, .int x3_1), (4, .int x4_2), (5, .int x5_3)]) hB ex6_6 dX8_letters_27 (Nat.le_of_ble_eq_true rfl) rfl ?_
      refine J_iload hB dX8_letters_29 0 rfl ?_
      refine J_bipush (v := 126) hB dX8_letters_31 rfl ?_
      refine J_icmp_gt (tgt := 46) hB dX8_letters_33 rfl (fun c_7 => ?_) (fun c_7 => ?_)
      · have hf := it_t c_7 hf
        refine J_bipush (v := (-102)) hB dX8_letters_46 rfl ?_
        obtain rfl := Option.some.inj hf
        exact J_iret hB hR dX8_letters_48
      · have hf := it_f c_7 hf
        refine J_iload hB dX8_letters_36 4 rfl ?_
        refine jn0_e (P := J l E rX8_letters Y (wM E a b m_stones m_any m_backward m_ring m_two m_brooks m_readRow m_rowNow m_frogOn m_frogs m_kindOf m_moved m_movedFrom m_movedTo m_pageLength m_page m_faultAt m_isWhole m_newMany m_newSigns m_newRow m_long0 m_row m_far m_ways m_queue m_queueEnd m_endMany m_endSoon m_won m_seedNow m_isKept m_keptBrook m_keptMoved m_keptRow m_keptFrog m_keptFrom m_keptTo m_h) 49 [(0, .ref (a b)), (1, .long p0), (3, .int x3_1), (4, .int x4_2), (5, .int x5_3), (6, .int x6_6)] []) hf (fun hf => ?_) (fun j49 hj49 hf => ?_)
        · refine J_iload hB dX8_letters_49 3 rfl ?_
          refine jn1_e (P := fun s_8 => J l E rX8_letters Y (wM E a b m_stones m_any m_backward m_ring m_two m_brooks m_readRow m_rowNow m_frogOn m_frogs m_kindOf m_moved m_movedFrom m_movedTo m_pageLength m_page m_faultAt m_isWhole m_newMany m_newSigns m_newRow m_long0 m_row m_far m_ways m_queue m_queueEnd m_endMany m_endSoon m_won m_seedNow m_isKept m_keptBrook m_keptMoved m_keptRow m_keptFrog m_keptFrom m_keptTo m_h) 64 [(0, .ref (a b)), (1, .long p0), (3, .int x3_1), (5, .int x5_3), (6, .int x6_6)] [.int s_8]) hf (fun s_8 hf => ?_) (fun j64 hj64 hf => ?_)
          · refine J_istore (lv' := [(4, .int s_8), (0, .ref (a b)), (1, .long p0), (3, .int x3_1), (5, .int x5_3), (6, .int x6_6)]) hB rfl dX8_letters_64 (Nat.le_of_ble_eq_true rfl) rfl ?_
            refine J_iload_n hB dX8_letters_66 rfl 3 rfl ?_
            refine J_iload hB dX8_letters_67 5 rfl ?_
            refine jn1_e (P := fun s_9 => J l E rX8_letters Y (wM E a b m_stones m_any m_backward m_ring m_two m_brooks m_readRow m_rowNow m_frogOn m_frogs m_kindOf m_moved m_movedFrom m_movedTo m_pageLength m_page m_faultAt m_isWhole m_newMany m_newSigns m_newRow m_long0 m_row m_far m_ways m_queue m_queueEnd m_endMany m_endSoon m_won m_seedNow m_isKept m_keptBrook m_keptMoved m_keptRow m_keptFrog m_keptFrom m_keptTo m_h) 77 [(0, .ref (a b)), (1, .long p0), (4, .int s_8), (5, .int x5_3)] [.int s_9, .int x3_1]) hf (fun s_9 hf => ?_) (fun j77 hj77 hf => ?_)
            · refine J_iadd hB dX8_letters_77 ?_
              obtain ⟨x3_10, ex3_10, hf⟩ := nmv_e hf
              refine J_istore_n (lv' := [(3, .int x3_10), (0, .ref (a b)), (1, .long p0), (4, .int s_8), (5, .int x5_3)]) hB ex3_10 dX8_letters_78 rfl (Nat.le_of_ble_eq_true rfl) rfl ?_
              obtain ⟨x5_11, ex5_11, hf⟩ := nmv_e hf
              refine J_iinc (lv' := [(5, .int x5_11), (3, .int x3_10), (0, .ref (a b)), (1, .long p0), (4, .int s_8)]) hB ex5_11 dX8_letters_79 4 rfl (Nat.le_of_ble_eq_true rfl) rfl ?_
              refine J_goto (tgt := 8) hB dX8_letters_82 rfl ?_
              exact J_lv [2, 3, 1, 4, 0] rfl (hnx8 x3_10 s_8 x5_11 hf)
            · refine J_if_ne (tgt := 76) hB dX8_letters_69 rfl (fun c_12 => ?_) (fun c_12 => ?_)
              · have hf := it_f c_12 hf
                refine J_iconst (v := 1) hB dX8_letters_76 rfl ?_
                exact J_lv [1, 2, 0, 4] rfl (hj77 1 hf)
              · have hf := it_t c_12 hf
                refine J_iconst (v := 0) hB dX8_letters_72 rfl ?_
                refine J_goto (tgt := 77) hB dX8_letters_73 rfl ?_
                exact J_lv [1, 2, 0, 4] rfl (hj77 0 hf)
          · refine jn0_e (P := J l E rX8_letters Y (wM E a b m_stones m_any m_backward m_ring m_two m_brooks m_readRow m_rowNow m_frogOn m_frogs m_kindOf m_moved m_movedFrom m_movedTo m_pageLength m_page m_faultAt m_isWhole m_newMany m_newSigns m_newRow m_long0 m_row m_far m_ways m_queue m_queueEnd m_endMany m_endSoon m_won m_seedNow m_isKept m_keptBrook m_keptMoved m_keptRow m_keptFrog m_keptFrom m_keptTo m_h) 59 [(0, .ref (a b)), (1, .long p0), (3, .int x3_1), (5, .int x5_3), (6, .int x6_6)] []) hf (fun hf => ?_) (fun j59 hj59 hf => ?_)
            · refine J_iconst (v := 1) hB dX8_letters_59 rfl ?_
              refine J_goto (tgt := 64) hB dX8_letters_60 rfl ?_
              exact J_lv [0, 1, 2, 3, 4] rfl (hj64 1 hf)
            · refine J_if_ne (tgt := 59) hB dX8_letters_51 rfl (fun c_13 => ?_) (fun c_13 => ?_)
              · have hf := it_f c_13 hf
                exact J_lv [0, 1, 2, 4, 5] rfl (hj59 hf)
              · have hf := it_t c_13 hf
                refine J_iload hB dX8_letters_54 5 rfl ?_
                refine J_if_ne (tgt := 63) hB dX8_letters_56 rfl (fun c_14 => ?_) (fun c_14 => ?_)
                · have hf := it_f c_14 hf
                  refine J_iconst (v := 0) hB dX8_letters_63 rfl ?_
                  exact J_lv [0, 1, 2, 4, 5] rfl (hj64 0 hf)
                · have hf := it_t c_14 hf
                  exact J_lv [0, 1, 2, 4, 5] rfl (hj59 hf)
        · refine J_if_eq (tgt := 49) hB dX8_letters_38 rfl (fun c_15 => ?_) (fun c_15 => ?_)
          · have hf := it_t c_15 hf
            exact J_lv [1, 2, 3, 4, 5, 0] rfl (hj49 hf)
          · have hf := it_f c_15 hf
            refine J_iload hB dX8_letters_41 0 rfl ?_
            refine J_if_eq (tgt := 49) hB dX8_letters_43 rfl (fun c_16 => ?_) (fun c_16 => ?_)
            · have hf := it_t c_16 hf
              exact J_lv [1, 2, 3, 4, 5, 0] rfl (hj49 hf)
            · have hf := it_f c_16 hf
              refine J_bipush (v := (-102)) hB dX8_letters_46 rfl ?_
              obtain rfl := Option.some.inj hf
              exact J_iret hB hR dX8_letters_48
  · refine J_aload_n hB dX8_letters_85 rfl 0 rfl ?_
    refine J_get (v := .int m_pageLength) hB inX8 0 rfl rfl 14 (Nat.le_of_ble_eq_true rfl) kf_X8_66 rfl dX8_letters_86 ?_
    refine J_iload_n hB dX8_letters_89 rfl 2 rfl ?_
    refine J_iadd hB dX8_letters_90 ?_
    refine J_bipush (v := 14) hB dX8_letters_91 rfl ?_
    refine J_icmp_le (tgt := 99) hB dX8_letters_93 rfl (fun c_17 => ?_) (fun c_17 => ?_)
    · have hf := it_t c_17 hf
      refine J_iconst (v := 0) hB dX8_letters_99 rfl ?_
      refine J_istore (lv' := [(5, .int 0), (0, .ref (a b)), (1, .long p0), (3, .int x3_4)]) hB rfl dX8_letters_100 (Nat.le_of_ble_eq_true rfl) rfl ?_
      refine J_lv [1, 2, 3, 0] rfl ?_
      refine lp2_1_J (P := fun x5_18 m_page_19 => J l E rX8_letters Y (wM E a b m_stones m_any m_backward m_ring m_two m_brooks m_readRow m_rowNow m_frogOn m_frogs m_kindOf m_moved m_movedFrom m_movedTo m_pageLength m_page_19 m_faultAt m_isWhole m_newMany m_newSigns m_newRow m_long0 m_row m_far m_ways m_queue m_queueEnd m_endMany m_endSoon m_won m_seedNow m_isKept m_keptBrook m_keptMoved m_keptRow m_keptFrog m_keptFrom m_keptTo m_h) 102 [(0, .ref (a b)), (1, .long p0), (3, .int x3_4), (5, .int x5_18)] []) (Q := fun m_page_20 => J l E rX8_letters Y (wM E a b m_stones m_any m_backward m_ring m_two m_brooks m_readRow m_rowNow m_frogOn m_frogs m_kindOf m_moved m_movedFrom m_movedTo m_pageLength m_page_20 m_faultAt m_isWhole m_newMany m_newSigns m_newRow m_long0 m_row m_far m_ways m_queue m_queueEnd m_endMany m_endSoon m_won m_seedNow m_isKept m_keptBrook m_keptMoved m_keptRow m_keptFrog m_keptFrom m_keptTo m_h) 135 [(0, .ref (a b)), (3, .int x3_4)] []) (fun x5_18 m_page_19 nx102 ex102 hnx102 hex102 hf => ?_) (fun m_page_20 hf => ?_) hf
      · refine J_iload hB dX8_letters_102 3 rfl ?_
        refine J_iload_n hB dX8_letters_104 rfl 2 rfl ?_
        refine J_icmp_ge (tgt := 135) hB dX8_letters_105 rfl (fun c_21 => ?_) (fun c_21 => ?_)
        · have hf := it_t c_21 hf
          exact J_lv [0, 2] rfl (hex102 m_page_19 hf)
        · have hf := it_f c_21 hf
          refine J_aload_n hB dX8_letters_108 rfl 0 rfl ?_
          refine J_get (v := .ref (a (b + 7))) hB inX8 0 rfl rfl 15 (Nat.le_of_ble_eq_true rfl) kf_X8_28 rfl dX8_letters_109 ?_
          refine J_aload_n hB dX8_letters_112 rfl 0 rfl ?_
          refine J_get (v := .int m_pageLength) hB inX8 0 rfl rfl 14 (Nat.le_of_ble_eq_true rfl) kf_X8_66 rfl dX8_letters_113 ?_
          refine J_iload hB dX8_letters_116 3 rfl ?_
          refine J_iadd hB dX8_letters_118 ?_
          refine J_lload_n hB dX8_letters_119 rfl 1 rfl ?_
          refine J_bipush (v := 8) hB dX8_letters_120 rfl ?_
          refine J_iload hB dX8_letters_122 3 rfl ?_
          refine J_imul hB dX8_letters_124 ?_
          refine J_lshr hB dX8_letters_125 ?_
          refine J_l2i hB dX8_letters_126 ?_
          refine J_i2b hB dX8_letters_127 ?_
          obtain ⟨m_page_22, em_page_22, h_23, hf⟩ := astB_e hf
          refine J_bast (ws' := wM E a b m_stones m_any m_backward m_ring m_two m_brooks m_readRow m_rowNow m_frogOn m_frogs m_kindOf m_moved m_movedFrom m_movedTo m_pageLength m_page_22 m_faultAt m_isWhole m_newMany m_newSigns m_newRow m_long0 m_row m_far m_ways m_queue m_queueEnd m_endMany m_endSoon m_won m_seedNow m_isKept m_keptBrook m_keptMoved m_keptRow m_keptFrog m_keptFrom m_keptTo m_h) hB 7 rfl em_page_22 h_23 dX8_letters_128 rfl ?_
          obtain ⟨x5_24, ex5_24, hf⟩ := nmv_e hf
          refine J_iinc (lv' := [(5, .int x5_24), (0, .ref (a b)), (1, .long p0), (3, .int x3_4)]) hB ex5_24 dX8_letters_129 3 rfl (Nat.le_of_ble_eq_true rfl) rfl ?_
          refine J_goto (tgt := 102) hB dX8_letters_132 rfl ?_
          exact J_lv [1, 2, 3, 0] rfl (hnx102 x5_24 m_page_22 hf)
      · refine J_aload_n hB dX8_letters_135 rfl 0 rfl ?_
        refine J_dup hB dX8_letters_136 rfl ?_
        refine J_get (v := .int m_pageLength) hB inX8 0 rfl rfl 14 (Nat.le_of_ble_eq_true rfl) kf_X8_66 rfl dX8_letters_137 ?_
        refine J_iload_n hB dX8_letters_140 rfl 1 rfl ?_
        refine J_iadd hB dX8_letters_141 ?_
        obtain ⟨m_pageLength_25, em_pageLength_25, hf⟩ := nmv_e hf
        rw [← em_pageLength_25]
        refine J_put (ws' := wM E a b m_stones m_any m_backward m_ring m_two m_brooks m_readRow m_rowNow m_frogOn m_frogs m_kindOf m_moved m_movedFrom m_movedTo m_pageLength_25 m_page_20 m_faultAt m_isWhole m_newMany m_newSigns m_newRow m_long0 m_row m_far m_ways m_queue m_queueEnd m_endMany m_endSoon m_won m_seedNow m_isKept m_keptBrook m_keptMoved m_keptRow m_keptFrog m_keptFrom m_keptTo m_h) (ty := .int) (v := .int m_pageLength_25) hB inX8 tyX8 tyX8_ok nmX8 0 rfl rfl 14 (Nat.le_of_ble_eq_true rfl) kf_X8_66 rfl rfl rfl rfl (Nat.le_of_ble_eq_true rfl) dX8_letters_142 rfl ?_
        refine J_aload_n hB dX8_letters_145 rfl 0 rfl ?_
        refine J_get (v := .int m_pageLength_25) hB inX8 0 rfl rfl 14 (Nat.le_of_ble_eq_true rfl) kf_X8_66 rfl dX8_letters_146 ?_
        obtain rfl := Option.some.inj hf
        exact J_iret hB hR dX8_letters_149
    · have hf := it_f c_17 hf
      refine J_bipush (v := (-104)) hB dX8_letters_96 rfl ?_
      obtain rfl := Option.some.inj hf
      exact J_iret hB hR dX8_letters_98
def f_X8_blank (m_pageLength : Int32) : Option (Int32 × Int32) :=
some (m_pageLength, 0)
abbrev rX8_blank : Room := { frames := 0, cells := 0, slots := 0, locals := 0 }
set_option maxRecDepth 100000 in
set_option maxHeartbeats 4000000 in
theorem c_X8_blank (l : Launch) (E : En) (a : Nat → Nat) (b : Nat) (m_stones : Int32) (m_any : Int32) (m_backward : Int32) (m_ring : Int32) (m_two : Int32) (m_brooks : Int32) (m_readRow : Nat → Int32) (m_rowNow : Nat → Int32) (m_frogOn : Nat → Int32) (m_frogs : Int32) (m_kindOf : Nat → Int32) (m_moved : Int32) (m_movedFrom : Nat → Int32) (m_movedTo : Nat → Int32) (m_pageLength : Int32) (m_page : Nat → Int32) (m_faultAt : Int32) (m_isWhole : Int32) (m_newMany : Int32) (m_newSigns : Int32) (m_newRow : Nat → Int32) (m_long0 : Int32) (m_row : Nat → Int32) (m_far : Nat → Int32) (m_ways : Nat → Int64) (m_queue : Nat → Int32) (m_queueEnd : Int32) (m_endMany : Int32) (m_endSoon : Int32) (m_won : Nat → Int32) (m_seedNow : Int64) (m_isKept : Int32) (m_keptBrook : Int32) (m_keptMoved : Int32) (m_keptRow : Nat → Int32) (m_keptFrog : Nat → Int32) (m_keptFrom : Nat → Int32) (m_keptTo : Nat → Int32) (m_h : Int64) {res : Int32 × Int32} (hf : f_X8_blank m_pageLength = some res) : Ct l yX8_blank (.code yX8_blank cX8_blank 2 (some .int)) rX8_blank E [.ref (a b)] (wM E a b m_stones m_any m_backward m_ring m_two m_brooks m_readRow m_rowNow m_frogOn m_frogs m_kindOf m_moved m_movedFrom m_movedTo m_pageLength m_page m_faultAt m_isWhole m_newMany m_newSigns m_newRow m_long0 m_row m_far m_ways m_queue m_queueEnd m_endMany m_endSoon m_won m_seedNow m_isKept m_keptBrook m_keptMoved m_keptRow m_keptFrog m_keptFrom m_keptTo m_h) (some (.int res.1)) (wM E a b m_stones m_any m_backward m_ring m_two m_brooks m_readRow m_rowNow m_frogOn m_frogs m_kindOf m_moved m_movedFrom m_movedTo res.2 m_page m_faultAt m_isWhole m_newMany m_newSigns m_newRow m_long0 m_row m_far m_ways m_queue m_queueEnd m_endMany m_endSoon m_won m_seedNow m_isKept m_keptBrook m_keptMoved m_keptRow m_keptFrog m_keptFrom m_keptTo m_h) := by
  refine Ct.of (by decide) (Nat.le_of_ble_eq_true rfl) (fun Y hB hR => ?_)
  have hB : Cb E cX8_blank RX8 rX8_blank 2 Y := hB
  show J l E rX8_blank Y (wM E a b m_stones m_any m_backward m_ring m_two m_brooks m_readRow m_rowNow m_frogOn m_frogs m_kindOf m_moved m_movedFrom m_movedTo m_pageLength m_page m_faultAt m_isWhole m_newMany m_newSigns m_newRow m_long0 m_row m_far m_ways m_queue m_queueEnd m_endMany m_endSoon m_won m_seedNow m_isKept m_keptBrook m_keptMoved m_keptRow m_keptFrog m_keptFrom m_keptTo m_h) 0 [(0, .ref (a b))] []
  unfold f_X8_blank at hf
  refine J_aload_n hB dX8_blank_0 rfl 0 rfl ?_
  refine J_get (v := .int m_pageLength) hB inX8 0 rfl rfl 14 (Nat.le_of_ble_eq_true rfl) kf_X8_66 rfl dX8_blank_1 ?_
  refine J_istore_n (lv' := [(1, .int m_pageLength), (0, .ref (a b))]) hB rfl dX8_blank_4 rfl (Nat.le_of_ble_eq_true rfl) rfl ?_
  refine J_aload_n hB dX8_blank_5 rfl 1 rfl ?_
  refine J_iconst (v := 0) hB dX8_blank_6 rfl ?_
  refine J_put (ws' := wM E a b m_stones m_any m_backward m_ring m_two m_brooks m_readRow m_rowNow m_frogOn m_frogs m_kindOf m_moved m_movedFrom m_movedTo 0 m_page m_faultAt m_isWhole m_newMany m_newSigns m_newRow m_long0 m_row m_far m_ways m_queue m_queueEnd m_endMany m_endSoon m_won m_seedNow m_isKept m_keptBrook m_keptMoved m_keptRow m_keptFrog m_keptFrom m_keptTo m_h) (ty := .int) (v := .int 0) hB inX8 tyX8 tyX8_ok nmX8 0 rfl rfl 14 (Nat.le_of_ble_eq_true rfl) kf_X8_66 rfl rfl rfl rfl (Nat.le_of_ble_eq_true rfl) dX8_blank_7 rfl ?_
  refine J_iload_n hB dX8_blank_10 rfl 0 rfl ?_
  obtain rfl := Option.some.inj hf
  exact J_iret hB hR dX8_blank_11
def f_X8_kindBy (p0 : Int32) : Option (Int32) :=
if p0 = 46 then (
some 0) else (
if p0 = 62 then (
some 1) else (
if p0 = 60 then (
some 2) else (
if p0 = 103 then (
some 4) else (
if p0 = 111 then (
some 3) else (
some ((-1)))))))
abbrev rX8_kindBy : Room := { frames := 0, cells := 0, slots := 0, locals := 0 }
set_option maxRecDepth 100000 in
set_option maxHeartbeats 4000000 in
theorem c_X8_kindBy (l : Launch) (E : En) (a : Nat → Nat) {p0 : Int32} {res : Int32} (hf : f_X8_kindBy p0 = some res) : Ct l yX8_kindBy (.code yX8_kindBy cX8_kindBy 1 (some .int)) rX8_kindBy E [.int p0] ([]) (some (.int res)) ([]) := by
  refine Ct.of (by decide) (Nat.le_of_ble_eq_true rfl) (fun Y hB hR => ?_)
  have hB : Cb E cX8_kindBy RX8 rX8_kindBy 1 Y := hB
  show J l E rX8_kindBy Y [] 0 [(0, .int p0)] []
  unfold f_X8_kindBy at hf
  refine J_iload_n hB dX8_kindBy_0 rfl 0 rfl ?_
  refine J_bipush (v := 46) hB dX8_kindBy_1 rfl ?_
  refine J_icmp_ne (tgt := 10) hB dX8_kindBy_3 rfl (fun c_1 => ?_) (fun c_1 => ?_)
  · have hf := it_f c_1 hf
    refine J_iload_n hB dX8_kindBy_10 rfl 0 rfl ?_
    refine J_bipush (v := 62) hB dX8_kindBy_11 rfl ?_
    refine J_icmp_ne (tgt := 20) hB dX8_kindBy_13 rfl (fun c_2 => ?_) (fun c_2 => ?_)
    · have hf := it_f c_2 hf
      refine J_iload_n hB dX8_kindBy_20 rfl 0 rfl ?_
      refine J_bipush (v := 60) hB dX8_kindBy_21 rfl ?_
      refine J_icmp_ne (tgt := 30) hB dX8_kindBy_23 rfl (fun c_3 => ?_) (fun c_3 => ?_)
      · have hf := it_f c_3 hf
        refine J_iload_n hB dX8_kindBy_30 rfl 0 rfl ?_
        refine J_bipush (v := 103) hB dX8_kindBy_31 rfl ?_
        refine J_icmp_ne (tgt := 40) hB dX8_kindBy_33 rfl (fun c_4 => ?_) (fun c_4 => ?_)
        · have hf := it_f c_4 hf
          refine J_iload_n hB dX8_kindBy_40 rfl 0 rfl ?_
          refine J_bipush (v := 111) hB dX8_kindBy_41 rfl ?_
          refine J_icmp_ne (tgt := 50) hB dX8_kindBy_43 rfl (fun c_5 => ?_) (fun c_5 => ?_)
          · have hf := it_f c_5 hf
            refine J_iconst (v := (-1)) hB dX8_kindBy_50 rfl ?_
            obtain rfl := Option.some.inj hf
            exact J_iret hB hR dX8_kindBy_51
          · have hf := it_t c_5 hf
            refine J_iconst (v := 3) hB dX8_kindBy_46 rfl ?_
            refine J_goto (tgt := 51) hB dX8_kindBy_47 rfl ?_
            obtain rfl := Option.some.inj hf
            exact J_iret hB hR dX8_kindBy_51
        · have hf := it_t c_4 hf
          refine J_iconst (v := 4) hB dX8_kindBy_36 rfl ?_
          refine J_goto (tgt := 51) hB dX8_kindBy_37 rfl ?_
          obtain rfl := Option.some.inj hf
          exact J_iret hB hR dX8_kindBy_51
      · have hf := it_t c_3 hf
        refine J_iconst (v := 2) hB dX8_kindBy_26 rfl ?_
        refine J_goto (tgt := 51) hB dX8_kindBy_27 rfl ?_
        obtain rfl := Option.some.inj hf
        exact J_iret hB hR dX8_kindBy_51
    · have hf := it_t c_2 hf
      refine J_iconst (v := 1) hB dX8_kindBy_16 rfl ?_
      refine J_goto (tgt := 51) hB dX8_kindBy_17 rfl ?_
      obtain rfl := Option.some.inj hf
      exact J_iret hB hR dX8_kindBy_51
  · have hf := it_t c_1 hf
    refine J_iconst (v := 0) hB dX8_kindBy_6 rfl ?_
    refine J_goto (tgt := 51) hB dX8_kindBy_7 rfl ?_
    obtain rfl := Option.some.inj hf
    exact J_iret hB hR dX8_kindBy_51
def f_X8_signBy (p0 : Int32) : Option (Int32) :=
if p0 = 97 then (
some 1) else (
if p0 = 98 then (
some 2) else (
if p0 = 114 then (
some 4) else (
if p0 = 116 then (
some 8) else (
some 0))))
abbrev rX8_signBy : Room := { frames := 0, cells := 0, slots := 0, locals := 0 }
set_option maxRecDepth 100000 in
set_option maxHeartbeats 4000000 in
theorem c_X8_signBy (l : Launch) (E : En) (a : Nat → Nat) {p0 : Int32} {res : Int32} (hf : f_X8_signBy p0 = some res) : Ct l yX8_signBy (.code yX8_signBy cX8_signBy 1 (some .int)) rX8_signBy E [.int p0] ([]) (some (.int res)) ([]) := by
  refine Ct.of (by decide) (Nat.le_of_ble_eq_true rfl) (fun Y hB hR => ?_)
  have hB : Cb E cX8_signBy RX8 rX8_signBy 1 Y := hB
  show J l E rX8_signBy Y [] 0 [(0, .int p0)] []
  unfold f_X8_signBy at hf
  refine J_iload_n hB dX8_signBy_0 rfl 0 rfl ?_
  refine J_bipush (v := 97) hB dX8_signBy_1 rfl ?_
  refine J_icmp_ne (tgt := 10) hB dX8_signBy_3 rfl (fun c_1 => ?_) (fun c_1 => ?_)
  · have hf := it_f c_1 hf
    refine J_iload_n hB dX8_signBy_10 rfl 0 rfl ?_
    refine J_bipush (v := 98) hB dX8_signBy_11 rfl ?_
    refine J_icmp_ne (tgt := 20) hB dX8_signBy_13 rfl (fun c_2 => ?_) (fun c_2 => ?_)
    · have hf := it_f c_2 hf
      refine J_iload_n hB dX8_signBy_20 rfl 0 rfl ?_
      refine J_bipush (v := 114) hB dX8_signBy_21 rfl ?_
      refine J_icmp_ne (tgt := 30) hB dX8_signBy_23 rfl (fun c_3 => ?_) (fun c_3 => ?_)
      · have hf := it_f c_3 hf
        refine J_iload_n hB dX8_signBy_30 rfl 0 rfl ?_
        refine J_bipush (v := 116) hB dX8_signBy_31 rfl ?_
        refine J_icmp_ne (tgt := 41) hB dX8_signBy_33 rfl (fun c_4 => ?_) (fun c_4 => ?_)
        · have hf := it_f c_4 hf
          refine J_iconst (v := 0) hB dX8_signBy_41 rfl ?_
          obtain rfl := Option.some.inj hf
          exact J_iret hB hR dX8_signBy_42
        · have hf := it_t c_4 hf
          refine J_bipush (v := 8) hB dX8_signBy_36 rfl ?_
          refine J_goto (tgt := 42) hB dX8_signBy_38 rfl ?_
          obtain rfl := Option.some.inj hf
          exact J_iret hB hR dX8_signBy_42
      · have hf := it_t c_3 hf
        refine J_iconst (v := 4) hB dX8_signBy_26 rfl ?_
        refine J_goto (tgt := 42) hB dX8_signBy_27 rfl ?_
        obtain rfl := Option.some.inj hf
        exact J_iret hB hR dX8_signBy_42
    · have hf := it_t c_2 hf
      refine J_iconst (v := 2) hB dX8_signBy_16 rfl ?_
      refine J_goto (tgt := 42) hB dX8_signBy_17 rfl ?_
      obtain rfl := Option.some.inj hf
      exact J_iret hB hR dX8_signBy_42
  · have hf := it_t c_1 hf
    refine J_iconst (v := 1) hB dX8_signBy_6 rfl ?_
    refine J_goto (tgt := 42) hB dX8_signBy_7 rfl ?_
    obtain rfl := Option.some.inj hf
    exact J_iret hB hR dX8_signBy_42
def f_X8_readBrook (m_pageLength : Int32) (m_page : Nat → Int32) (m_faultAt : Int32) (m_isWhole : Int32) (m_newMany : Int32) (m_newSigns : Int32) (m_newRow : Nat → Int32) : Option (Int32 × Int32 × Int32 × Int32 × (Nat → Int32)) :=
lp6_5 (fun (x1_1 : Int32) (x2_2 : Int32) (x3_3 : Int32) (m_newMany_4 : Int32) (m_newSigns_5 : Int32) (m_newRow_6 : Nat → Int32) nx16 ex16 =>
if m_pageLength ≤ x2_2 then (
ex16 x1_1 x2_2 m_newMany_4 m_newSigns_5 m_newRow_6) else (
if x3_3 = 0 then (
ex16 x1_1 x2_2 m_newMany_4 m_newSigns_5 m_newRow_6) else (
ald 14 m_page x2_2 fun v_14 =>
jn5 (fun (x1_16 : Int32) (x3_17 : Int32) (m_newMany_18 : Int32) (m_newSigns_19 : Int32) (m_newRow_20 : Nat → Int32) =>
jn1 (fun (s_21 : Int32) =>
nmv (α := Int32) (x2_2 + s_21) fun x2_22 =>
nx16 x1_16 x2_22 x3_17 m_newMany_18 m_newSigns_19 m_newRow_20) fun j165 =>
if x3_17 = 0 then (
j165 0) else (
j165 1)) fun j155 =>
if x1_1 = 0 then (
jn0 (
cl1 (f_X8_kindBy v_14) fun r_25 =>
jn1 (fun (s_27 : Int32) =>
if s_27 = 0 then (
j155 x1_1 s_27 m_newMany_4 m_newSigns_5 m_newRow_6) else (
cl1 (f_X8_kindBy v_14) fun r_29 =>
astI 7 m_newRow_6 m_newMany_4 r_29 fun m_newRow_31 =>
nmv (α := Int32) (m_newMany_4 + (1 : Int32)) fun m_newMany_33 =>
j155 x1_1 s_27 m_newMany_33 m_newSigns_5 m_newRow_31)) fun j126 =>
jn0 (
j126 0) fun j125 =>
if r_25 = ((-1)) then (
j125) else (
if 7 ≤ m_newMany_4 then (
j125) else (
j126 1))) fun j103 =>
if v_14 = 59 then (
if m_newMany_4 ≤ 2 then (
j103) else (
j155 1 x3_3 m_newMany_4 m_newSigns_5 m_newRow_6)) else (
j103)) else (
cl1 (f_X8_signBy v_14) fun r_38 =>
jn1 (fun (s_40 : Int32) =>
jn1 (fun (s_41 : Int32) =>
nmv (α := Int32) (m_newSigns_5 + s_41) fun m_newSigns_42 =>
j155 x1_1 s_40 m_newMany_4 m_newSigns_42 m_newRow_6) fun j76 =>
if s_40 = 0 then (
j76 0) else (
cl1 (f_X8_signBy v_14) fun r_44 =>
j76 r_44)) fun j57 =>
if r_38 ≤ m_newSigns_5 then (
j57 0) else (
j57 1))))) (fun (x1_7 : Int32) (x2_8 : Int32) (m_newMany_9 : Int32) (m_newSigns_10 : Int32) (m_newRow_11 : Nat → Int32) =>
lp2_1 (fun (x4_47 : Int32) (x5_48 : Int32) nx181 ex181 =>
if m_newMany_9 ≤ x5_48 then (
ex181 x4_47) else (
ald 7 m_newRow_11 x5_48 fun v_51 =>
nmv (α := Int32) (x4_47 + v_51) fun x4_53 =>
nmv (α := Int32) (x5_48 + 1) fun x5_54 =>
nx181 x4_53 x5_54)) (fun (x4_49 : Int32) =>
jn1 (fun (s_55 : Int32) =>
gz s_55 fun _ =>
some (x2_8, s_55, m_newMany_9, m_newSigns_10, m_newRow_11)) fun j246 =>
jn0 (
j246 0) fun j245 =>
if x2_8 = m_pageLength then (
if m_newMany_9 ≤ 2 then (
j245) else (
if x4_49 ≤ 0 then (
j245) else (
jn0 (
j246 1) fun j241 =>
if x1_7 = 0 then (
j241) else (
if m_newSigns_10 ≤ 0 then (
j245) else (
j241))))) else (
j245)) fuel 0 0) fuel 0 0 1 0 0 m_newRow
abbrev rX8_readBrook : Room := { frames := 1, cells := 0, slots := 0, locals := 20 }
set_option maxRecDepth 100000 in
set_option maxHeartbeats 4000000 in
theorem c_X8_readBrook (l : Launch) (E : En) (a : Nat → Nat) (b : Nat) (m_stones : Int32) (m_any : Int32) (m_backward : Int32) (m_ring : Int32) (m_two : Int32) (m_brooks : Int32) (m_readRow : Nat → Int32) (m_rowNow : Nat → Int32) (m_frogOn : Nat → Int32) (m_frogs : Int32) (m_kindOf : Nat → Int32) (m_moved : Int32) (m_movedFrom : Nat → Int32) (m_movedTo : Nat → Int32) (m_pageLength : Int32) (m_page : Nat → Int32) (m_faultAt : Int32) (m_isWhole : Int32) (m_newMany : Int32) (m_newSigns : Int32) (m_newRow : Nat → Int32) (m_long0 : Int32) (m_row : Nat → Int32) (m_far : Nat → Int32) (m_ways : Nat → Int64) (m_queue : Nat → Int32) (m_queueEnd : Int32) (m_endMany : Int32) (m_endSoon : Int32) (m_won : Nat → Int32) (m_seedNow : Int64) (m_isKept : Int32) (m_keptBrook : Int32) (m_keptMoved : Int32) (m_keptRow : Nat → Int32) (m_keptFrog : Nat → Int32) (m_keptFrom : Nat → Int32) (m_keptTo : Nat → Int32) (m_h : Int64) {res : Int32 × Int32 × Int32 × Int32 × (Nat → Int32)} (hf : f_X8_readBrook m_pageLength m_page m_faultAt m_isWhole m_newMany m_newSigns m_newRow = some res) : Ct l yX8_readBrook (.code yX8_readBrook cX8_readBrook 6 none) rX8_readBrook E [.ref (a b)] (wM E a b m_stones m_any m_backward m_ring m_two m_brooks m_readRow m_rowNow m_frogOn m_frogs m_kindOf m_moved m_movedFrom m_movedTo m_pageLength m_page m_faultAt m_isWhole m_newMany m_newSigns m_newRow m_long0 m_row m_far m_ways m_queue m_queueEnd m_endMany m_endSoon m_won m_seedNow m_isKept m_keptBrook m_keptMoved m_keptRow m_keptFrog m_keptFrom m_keptTo m_h) none (wM E a b m_stones m_any m_backward m_ring m_two m_brooks m_readRow m_rowNow m_frogOn m_frogs m_kindOf m_moved m_movedFrom m_movedTo m_pageLength m_page res.1 res.2.1 res.2.2.1 res.2.2.2.1 res.2.2.2.2 m_long0 m_row m_far m_ways m_queue m_queueEnd m_endMany m_endSoon m_won m_seedNow m_isKept m_keptBrook m_keptMoved m_keptRow m_keptFrog m_keptFrom m_keptTo m_h) := by
  refine Ct.of (by decide) (Nat.le_of_ble_eq_true rfl) (fun Y hB hR => ?_)
  have hB : Cb E cX8_readBrook RX8 rX8_readBrook 6 Y := hB
  show J l E rX8_readBrook Y (wM E a b m_stones m_any m_backward m_ring m_two m_brooks m_readRow m_rowNow m_frogOn m_frogs m_kindOf m_moved m_movedFrom m_movedTo m_pageLength m_page m_faultAt m_isWhole m_newMany m_newSigns m_newRow m_long0 m_row m_far m_ways m_queue m_queueEnd m_endMany m_endSoon m_won m_seedNow m_isKept m_keptBrook m_keptMoved m_keptRow m_keptFrog m_keptFrom m_keptTo m_h) 0 [(0, .ref (a b))] []
  unfold f_X8_readBrook at hf
  refine J_aload_n hB dX8_readBrook_0 rfl 0 rfl ?_
  refine J_iconst (v := 0) hB dX8_readBrook_1 rfl ?_
  refine J_put (ws' := wM E a b m_stones m_any m_backward m_ring m_two m_brooks m_readRow m_rowNow m_frogOn m_frogs m_kindOf m_moved m_movedFrom m_movedTo m_pageLength m_page m_faultAt m_isWhole 0 m_newSigns m_newRow m_long0 m_row m_far m_ways m_queue m_queueEnd m_endMany m_endSoon m_won m_seedNow m_isKept m_keptBrook m_keptMoved m_keptRow m_keptFrog m_keptFrom m_keptTo m_h) (ty := .int) (v := .int 0) hB inX8 tyX8 tyX8_ok nmX8 0 rfl rfl 18 (Nat.le_of_ble_eq_true rfl) kf_X8_70 rfl rfl rfl rfl (Nat.le_of_ble_eq_true rfl) dX8_readBrook_2 rfl ?_
  refine J_aload_n hB dX8_readBrook_5 rfl 0 rfl ?_
  refine J_iconst (v := 0) hB dX8_readBrook_6 rfl ?_
  refine J_put (ws' := wM E a b m_stones m_any m_backward m_ring m_two m_brooks m_readRow m_rowNow m_frogOn m_frogs m_kindOf m_moved m_movedFrom m_movedTo m_pageLength m_page m_faultAt m_isWhole 0 0 m_newRow m_long0 m_row m_far m_ways m_queue m_queueEnd m_endMany m_endSoon m_won m_seedNow m_isKept m_keptBrook m_keptMoved m_keptRow m_keptFrog m_keptFrom m_keptTo m_h) (ty := .int) (v := .int 0) hB inX8 tyX8 tyX8_ok nmX8 0 rfl rfl 19 (Nat.le_of_ble_eq_true rfl) kf_X8_73 rfl rfl rfl rfl (Nat.le_of_ble_eq_true rfl) dX8_readBrook_7 rfl ?_
  refine J_iconst (v := 0) hB dX8_readBrook_10 rfl ?_
  refine J_istore_n (lv' := [(1, .int 0), (0, .ref (a b))]) hB rfl dX8_readBrook_11 rfl (Nat.le_of_ble_eq_true rfl) rfl ?_
  refine J_iconst (v := 0) hB dX8_readBrook_12 rfl ?_
  refine J_istore_n (lv' := [(2, .int 0), (1, .int 0), (0, .ref (a b))]) hB rfl dX8_readBrook_13 rfl (Nat.le_of_ble_eq_true rfl) rfl ?_
  refine J_iconst (v := 1) hB dX8_readBrook_14 rfl ?_
  refine J_istore_n (lv' := [(3, .int 1), (2, .int 0), (1, .int 0), (0, .ref (a b))]) hB rfl dX8_readBrook_15 rfl (Nat.le_of_ble_eq_true rfl) rfl ?_
  refine J_lv [3, 2, 1, 0] rfl ?_
  refine lp6_5_J (P := fun x1_1 x2_2 x3_3 m_newMany_4 m_newSigns_5 m_newRow_6 => J l E rX8_readBrook Y (wM E a b m_stones m_any m_backward m_ring m_two m_brooks m_readRow m_rowNow m_frogOn m_frogs m_kindOf m_moved m_movedFrom m_movedTo m_pageLength m_page m_faultAt m_isWhole m_newMany_4 m_newSigns_5 m_newRow_6 m_long0 m_row m_far m_ways m_queue m_queueEnd m_endMany m_endSoon m_won m_seedNow m_isKept m_keptBrook m_keptMoved m_keptRow m_keptFrog m_keptFrom m_keptTo m_h) 16 [(0, .ref (a b)), (1, .int x1_1), (2, .int x2_2), (3, .int x3_3)] []) (Q := fun x1_7 x2_8 m_newMany_9 m_newSigns_10 m_newRow_11 => J l E rX8_readBrook Y (wM E a b m_stones m_any m_backward m_ring m_two m_brooks m_readRow m_rowNow m_frogOn m_frogs m_kindOf m_moved m_movedFrom m_movedTo m_pageLength m_page m_faultAt m_isWhole m_newMany_9 m_newSigns_10 m_newRow_11 m_long0 m_row m_far m_ways m_queue m_queueEnd m_endMany m_endSoon m_won m_seedNow m_isKept m_keptBrook m_keptMoved m_keptRow m_keptFrog m_keptFrom m_keptTo m_h) 170 [(0, .ref (a b)), (1, .int x1_7), (2, .int x2_8)] []) (fun x1_1 x2_2 x3_3 m_newMany_4 m_newSigns_5 m_newRow_6 nx16 ex16 hnx16 hex16 hf => ?_) (fun x1_7 x2_8 m_newMany_9 m_newSigns_10 m_newRow_11 hf => ?_) hf
  · refine J_iload_n hB dX8_readBrook_16 rfl 2 rfl ?_
    refine J_aload_n hB dX8_readBrook_17 rfl 0 rfl ?_
    refine J_get (v := .int m_pageLength) hB inX8 0 rfl rfl 14 (Nat.le_of_ble_eq_true rfl) kf_X8_66 rfl dX8_readBrook_18 ?_
    refine J_icmp_ge (tgt := 170) hB dX8_readBrook_21 rfl (fun c_12 => ?_) (fun c_12 => ?_)
    · have hf := it_t c_12 hf
      exact J_lv [0, 1, 2] rfl (hex16 x1_1 x2_2 m_newMany_4 m_newSigns_5 m_newRow_6 hf)
    · have hf := it_f c_12 hf
      refine J_iload_n hB dX8_readBrook_24 rfl 3 rfl ?_
      refine J_if_eq (tgt := 170) hB dX8_readBrook_25 rfl (fun c_13 => ?_) (fun c_13 => ?_)
      · have hf := it_t c_13 hf
        exact J_lv [0, 1, 2] rfl (hex16 x1_1 x2_2 m_newMany_4 m_newSigns_5 m_newRow_6 hf)
      · have hf := it_f c_13 hf
        refine J_aload_n hB dX8_readBrook_28 rfl 0 rfl ?_
        refine J_get (v := .ref (a (b + 7))) hB inX8 0 rfl rfl 15 (Nat.le_of_ble_eq_true rfl) kf_X8_28 rfl dX8_readBrook_29 ?_
        refine J_iload_n hB dX8_readBrook_32 rfl 2 rfl ?_
        obtain ⟨v_14, ev_14, h_15, hf⟩ := ald_e hf
        refine J_bald hB 7 rfl ev_14 h_15 dX8_readBrook_33 ?_
        refine J_istore (lv' := [(4, .int v_14), (0, .ref (a b)), (1, .int x1_1), (2, .int x2_2), (3, .int x3_3)]) hB rfl dX8_readBrook_34 (Nat.le_of_ble_eq_true rfl) rfl ?_
        refine J_iload_n hB dX8_readBrook_36 rfl 2 rfl ?_
        refine jn5_e (P := fun x1_16 x3_17 m_newMany_18 m_newSigns_19 m_newRow_20 => J l E rX8_readBrook Y (wM E a b m_stones m_any m_backward m_ring m_two m_brooks m_readRow m_rowNow m_frogOn m_frogs m_kindOf m_moved m_movedFrom m_movedTo m_pageLength m_page m_faultAt m_isWhole m_newMany_18 m_newSigns_19 m_newRow_20 m_long0 m_row m_far m_ways m_queue m_queueEnd m_endMany m_endSoon m_won m_seedNow m_isKept m_keptBrook m_keptMoved m_keptRow m_keptFrog m_keptFrom m_keptTo m_h) 155 [(0, .ref (a b)), (1, .int x1_16), (2, .int x2_2), (3, .int x3_17)] []) hf (fun x1_16 x3_17 m_newMany_18 m_newSigns_19 m_newRow_20 hf => ?_) (fun j155 hj155 hf => ?_)
        · refine J_iload_n hB dX8_readBrook_155 rfl 2 rfl ?_
          refine J_iload_n hB dX8_readBrook_156 rfl 3 rfl ?_
          refine jn1_e (P := fun s_21 => J l E rX8_readBrook Y (wM E a b m_stones m_any m_backward m_ring m_two m_brooks m_readRow m_rowNow m_frogOn m_frogs m_kindOf m_moved m_movedFrom m_movedTo m_pageLength m_page m_faultAt m_isWhole m_newMany_18 m_newSigns_19 m_newRow_20 m_long0 m_row m_far m_ways m_queue m_queueEnd m_endMany m_endSoon m_won m_seedNow m_isKept m_keptBrook m_keptMoved m_keptRow m_keptFrog m_keptFrom m_keptTo m_h) 165 [(0, .ref (a b)), (1, .int x1_16), (3, .int x3_17)] [.int s_21, .int x2_2]) hf (fun s_21 hf => ?_) (fun j165 hj165 hf => ?_)
          · refine J_iadd hB dX8_readBrook_165 ?_
            obtain ⟨x2_22, ex2_22, hf⟩ := nmv_e hf
            refine J_istore_n (lv' := [(2, .int x2_22), (0, .ref (a b)), (1, .int x1_16), (3, .int x3_17)]) hB ex2_22 dX8_readBrook_166 rfl (Nat.le_of_ble_eq_true rfl) rfl ?_
            refine J_goto (tgt := 16) hB dX8_readBrook_167 rfl ?_
            exact J_lv [1, 2, 0, 3] rfl (hnx16 x1_16 x2_22 x3_17 m_newMany_18 m_newSigns_19 m_newRow_20 hf)
          · refine J_if_eq (tgt := 164) hB dX8_readBrook_157 rfl (fun c_23 => ?_) (fun c_23 => ?_)
            · have hf := it_t c_23 hf
              refine J_iconst (v := 0) hB dX8_readBrook_164 rfl ?_
              exact J_lv [0, 1, 3] rfl (hj165 0 hf)
            · have hf := it_f c_23 hf
              refine J_iconst (v := 1) hB dX8_readBrook_160 rfl ?_
              refine J_goto (tgt := 165) hB dX8_readBrook_161 rfl ?_
              exact J_lv [0, 1, 3] rfl (hj165 1 hf)
        · refine J_if_eq (tgt := 83) hB dX8_readBrook_37 rfl (fun c_24 => ?_) (fun c_24 => ?_)
          · have hf := it_t c_24 hf
            refine J_iload hB dX8_readBrook_83 0 rfl ?_
            refine J_bipush (v := 59) hB dX8_readBrook_85 rfl ?_
            refine jn0_e (P := J l E rX8_readBrook Y (wM E a b m_stones m_any m_backward m_ring m_two m_brooks m_readRow m_rowNow m_frogOn m_frogs m_kindOf m_moved m_movedFrom m_movedTo m_pageLength m_page m_faultAt m_isWhole m_newMany_4 m_newSigns_5 m_newRow_6 m_long0 m_row m_far m_ways m_queue m_queueEnd m_endMany m_endSoon m_won m_seedNow m_isKept m_keptBrook m_keptMoved m_keptRow m_keptFrog m_keptFrom m_keptTo m_h) 103 [(0, .ref (a b)), (1, .int x1_1), (2, .int x2_2), (4, .int v_14)] []) hf (fun hf => ?_) (fun j103 hj103 hf => ?_)
            · refine J_iload hB dX8_readBrook_103 3 rfl ?_
              obtain ⟨r_25, h_26, hf⟩ := cl1_e hf
              refine J_callS (As := [.int v_14]) (rest := []) (n := 1) (ws' := wM E a b m_stones m_any m_backward m_ring m_two m_brooks m_readRow m_rowNow m_frogOn m_frogs m_kindOf m_moved m_movedFrom m_movedTo m_pageLength m_page m_faultAt m_isWhole m_newMany_4 m_newSigns_5 m_newRow_6 m_long0 m_row m_far m_ways m_queue m_queueEnd m_endMany m_endSoon m_won m_seedNow m_isKept m_keptBrook m_keptMoved m_keptRow m_keptFrog m_keptFrom m_keptTo m_h) hB (c_X8_kindBy l E a h_26) mi_X8_kindBy ks_X8_kindBy km_X8_80 ⟨rfl, rfl, Nat.le_of_ble_eq_true rfl, Nat.le_of_ble_eq_true rfl⟩ Lies.none rfl rfl (Nat.le_of_ble_eq_true rfl) dX8_readBrook_105 ?_
              show J l E rX8_readBrook Y (wM E a b m_stones m_any m_backward m_ring m_two m_brooks m_readRow m_rowNow m_frogOn m_frogs m_kindOf m_moved m_movedFrom m_movedTo m_pageLength m_page m_faultAt m_isWhole m_newMany_4 m_newSigns_5 m_newRow_6 m_long0 m_row m_far m_ways m_queue m_queueEnd m_endMany m_endSoon m_won m_seedNow m_isKept m_keptBrook m_keptMoved m_keptRow m_keptFrog m_keptFrom m_keptTo m_h) 108 [(0, .ref (a b)), (1, .int x1_1), (2, .int x2_2), (4, .int v_14)] [.int r_25]
              refine J_iconst (v := (-1)) hB dX8_readBrook_108 rfl ?_
              refine jn1_e (P := fun s_27 => J l E rX8_readBrook Y (wM E a b m_stones m_any m_backward m_ring m_two m_brooks m_readRow m_rowNow m_frogOn m_frogs m_kindOf m_moved m_movedFrom m_movedTo m_pageLength m_page m_faultAt m_isWhole m_newMany_4 m_newSigns_5 m_newRow_6 m_long0 m_row m_far m_ways m_queue m_queueEnd m_endMany m_endSoon m_won m_seedNow m_isKept m_keptBrook m_keptMoved m_keptRow m_keptFrog m_keptFrom m_keptTo m_h) 126 [(0, .ref (a b)), (1, .int x1_1), (2, .int x2_2), (4, .int v_14)] [.int s_27]) hf (fun s_27 hf => ?_) (fun j126 hj126 hf => ?_)
              · refine J_istore_n (lv' := [(3, .int s_27), (0, .ref (a b)), (1, .int x1_1), (2, .int x2_2), (4, .int v_14)]) hB rfl dX8_readBrook_126 rfl (Nat.le_of_ble_eq_true rfl) rfl ?_
                refine J_iload_n hB dX8_readBrook_127 rfl 0 rfl ?_
                refine J_if_eq (tgt := 155) hB dX8_readBrook_128 rfl (fun c_28 => ?_) (fun c_28 => ?_)
                · have hf := it_t c_28 hf
                  exact J_lv [1, 2, 3, 0] rfl (hj155 x1_1 s_27 m_newMany_4 m_newSigns_5 m_newRow_6 hf)
                · have hf := it_f c_28 hf
                  refine J_aload_n hB dX8_readBrook_131 rfl 1 rfl ?_
                  refine J_get (v := .ref (a (b + 8))) hB inX8 0 rfl rfl 20 (Nat.le_of_ble_eq_true rfl) kf_X8_32 rfl dX8_readBrook_132 ?_
                  refine J_aload_n hB dX8_readBrook_135 rfl 1 rfl ?_
                  refine J_get (v := .int m_newMany_4) hB inX8 0 rfl rfl 18 (Nat.le_of_ble_eq_true rfl) kf_X8_70 rfl dX8_readBrook_136 ?_
                  refine J_iload hB dX8_readBrook_139 4 rfl ?_
                  obtain ⟨r_29, h_30, hf⟩ := cl1_e hf
                  refine J_callS (As := [.int v_14]) (rest := [.int m_newMany_4, .ref (a (b + 8))]) (n := 1) (ws' := wM E a b m_stones m_any m_backward m_ring m_two m_brooks m_readRow m_rowNow m_frogOn m_frogs m_kindOf m_moved m_movedFrom m_movedTo m_pageLength m_page m_faultAt m_isWhole m_newMany_4 m_newSigns_5 m_newRow_6 m_long0 m_row m_far m_ways m_queue m_queueEnd m_endMany m_endSoon m_won m_seedNow m_isKept m_keptBrook m_keptMoved m_keptRow m_keptFrog m_keptFrom m_keptTo m_h) hB (c_X8_kindBy l E a h_30) mi_X8_kindBy ks_X8_kindBy km_X8_80 ⟨rfl, rfl, Nat.le_of_ble_eq_true rfl, Nat.le_of_ble_eq_true rfl⟩ Lies.none rfl rfl (Nat.le_of_ble_eq_true rfl) dX8_readBrook_141 ?_
                  show J l E rX8_readBrook Y (wM E a b m_stones m_any m_backward m_ring m_two m_brooks m_readRow m_rowNow m_frogOn m_frogs m_kindOf m_moved m_movedFrom m_movedTo m_pageLength m_page m_faultAt m_isWhole m_newMany_4 m_newSigns_5 m_newRow_6 m_long0 m_row m_far m_ways m_queue m_queueEnd m_endMany m_endSoon m_won m_seedNow m_isKept m_keptBrook m_keptMoved m_keptRow m_keptFrog m_keptFrom m_keptTo m_h) 144 [(3, .int s_27), (0, .ref (a b)), (1, .int x1_1), (2, .int x2_2), (4, .int v_14)] [.int r_29, .int m_newMany_4, .ref (a (b + 8))]
                  obtain ⟨m_newRow_31, em_newRow_31, h_32, hf⟩ := astI_e hf
                  refine J_iast (ws' := wM E a b m_stones m_any m_backward m_ring m_two m_brooks m_readRow m_rowNow m_frogOn m_frogs m_kindOf m_moved m_movedFrom m_movedTo m_pageLength m_page m_faultAt m_isWhole m_newMany_4 m_newSigns_5 m_newRow_31 m_long0 m_row m_far m_ways m_queue m_queueEnd m_endMany m_endSoon m_won m_seedNow m_isKept m_keptBrook m_keptMoved m_keptRow m_keptFrog m_keptFrom m_keptTo m_h) hB 8 rfl em_newRow_31 h_32 dX8_readBrook_144 rfl ?_
                  refine J_aload_n hB dX8_readBrook_145 rfl 1 rfl ?_
                  refine J_dup hB dX8_readBrook_146 rfl ?_
                  refine J_get (v := .int m_newMany_4) hB inX8 0 rfl rfl 18 (Nat.le_of_ble_eq_true rfl) kf_X8_70 rfl dX8_readBrook_147 ?_
                  refine J_iconst (v := 1) hB dX8_readBrook_150 rfl ?_
                  refine J_iadd hB dX8_readBrook_151 ?_
                  obtain ⟨m_newMany_33, em_newMany_33, hf⟩ := nmv_e hf
                  rw [← em_newMany_33]
                  refine J_put (ws' := wM E a b m_stones m_any m_backward m_ring m_two m_brooks m_readRow m_rowNow m_frogOn m_frogs m_kindOf m_moved m_movedFrom m_movedTo m_pageLength m_page m_faultAt m_isWhole m_newMany_33 m_newSigns_5 m_newRow_31 m_long0 m_row m_far m_ways m_queue m_queueEnd m_endMany m_endSoon m_won m_seedNow m_isKept m_keptBrook m_keptMoved m_keptRow m_keptFrog m_keptFrom m_keptTo m_h) (ty := .int) (v := .int m_newMany_33) hB inX8 tyX8 tyX8_ok nmX8 0 rfl rfl 18 (Nat.le_of_ble_eq_true rfl) kf_X8_70 rfl rfl rfl rfl (Nat.le_of_ble_eq_true rfl) dX8_readBrook_152 rfl ?_
                  exact J_lv [1, 2, 3, 0] rfl (hj155 x1_1 s_27 m_newMany_33 m_newSigns_5 m_newRow_31 hf)
              · refine jn0_e (P := J l E rX8_readBrook Y (wM E a b m_stones m_any m_backward m_ring m_two m_brooks m_readRow m_rowNow m_frogOn m_frogs m_kindOf m_moved m_movedFrom m_movedTo m_pageLength m_page m_faultAt m_isWhole m_newMany_4 m_newSigns_5 m_newRow_6 m_long0 m_row m_far m_ways m_queue m_queueEnd m_endMany m_endSoon m_won m_seedNow m_isKept m_keptBrook m_keptMoved m_keptRow m_keptFrog m_keptFrom m_keptTo m_h) 125 [(0, .ref (a b)), (1, .int x1_1), (2, .int x2_2), (4, .int v_14)] []) hf (fun hf => ?_) (fun j125 hj125 hf => ?_)
                · refine J_iconst (v := 0) hB dX8_readBrook_125 rfl ?_
                  exact J_lv [0, 1, 2, 3] rfl (hj126 0 hf)
                · refine J_icmp_eq (tgt := 125) hB dX8_readBrook_109 rfl (fun c_34 => ?_) (fun c_34 => ?_)
                  · have hf := it_t c_34 hf
                    exact J_lv [0, 1, 2, 3] rfl (hj125 hf)
                  · have hf := it_f c_34 hf
                    refine J_aload_n hB dX8_readBrook_112 rfl 0 rfl ?_
                    refine J_get (v := .int m_newMany_4) hB inX8 0 rfl rfl 18 (Nat.le_of_ble_eq_true rfl) kf_X8_70 rfl dX8_readBrook_113 ?_
                    refine J_bipush (v := 7) hB dX8_readBrook_116 rfl ?_
                    refine J_icmp_ge (tgt := 125) hB dX8_readBrook_118 rfl (fun c_35 => ?_) (fun c_35 => ?_)
                    · have hf := it_t c_35 hf
                      exact J_lv [0, 1, 2, 3] rfl (hj125 hf)
                    · have hf := it_f c_35 hf
                      refine J_iconst (v := 1) hB dX8_readBrook_121 rfl ?_
                      refine J_goto (tgt := 126) hB dX8_readBrook_122 rfl ?_
                      exact J_lv [0, 1, 2, 3] rfl (hj126 1 hf)
            · refine J_icmp_ne (tgt := 103) hB dX8_readBrook_87 rfl (fun c_36 => ?_) (fun c_36 => ?_)
              · have hf := it_f c_36 hf
                exact J_lv [1, 2, 3, 0] rfl (hj103 hf)
              · have hf := it_t c_36 hf
                refine J_aload_n hB dX8_readBrook_90 rfl 1 rfl ?_
                refine J_get (v := .int m_newMany_4) hB inX8 0 rfl rfl 18 (Nat.le_of_ble_eq_true rfl) kf_X8_70 rfl dX8_readBrook_91 ?_
                refine J_iconst (v := 2) hB dX8_readBrook_94 rfl ?_
                refine J_icmp_le (tgt := 103) hB dX8_readBrook_95 rfl (fun c_37 => ?_) (fun c_37 => ?_)
                · have hf := it_t c_37 hf
                  exact J_lv [1, 2, 3, 0] rfl (hj103 hf)
                · have hf := it_f c_37 hf
                  refine J_iconst (v := 1) hB dX8_readBrook_98 rfl ?_
                  refine J_istore_n (lv' := [(1, .int 1), (4, .int v_14), (0, .ref (a b)), (2, .int x2_2), (3, .int x3_3)]) hB rfl dX8_readBrook_99 rfl (Nat.le_of_ble_eq_true rfl) rfl ?_
                  refine J_goto (tgt := 155) hB dX8_readBrook_100 rfl ?_
                  exact J_lv [2, 0, 3, 4] rfl (hj155 1 x3_3 m_newMany_4 m_newSigns_5 m_newRow_6 hf)
          · have hf := it_f c_24 hf
            refine J_iload hB dX8_readBrook_40 0 rfl ?_
            obtain ⟨r_38, h_39, hf⟩ := cl1_e hf
            refine J_callS (As := [.int v_14]) (rest := []) (n := 1) (ws' := wM E a b m_stones m_any m_backward m_ring m_two m_brooks m_readRow m_rowNow m_frogOn m_frogs m_kindOf m_moved m_movedFrom m_movedTo m_pageLength m_page m_faultAt m_isWhole m_newMany_4 m_newSigns_5 m_newRow_6 m_long0 m_row m_far m_ways m_queue m_queueEnd m_endMany m_endSoon m_won m_seedNow m_isKept m_keptBrook m_keptMoved m_keptRow m_keptFrog m_keptFrom m_keptTo m_h) hB (c_X8_signBy l E a h_39) mi_X8_signBy ks_X8_signBy km_X8_76 ⟨rfl, rfl, Nat.le_of_ble_eq_true rfl, Nat.le_of_ble_eq_true rfl⟩ Lies.none rfl rfl (Nat.le_of_ble_eq_true rfl) dX8_readBrook_42 ?_
            show J l E rX8_readBrook Y (wM E a b m_stones m_any m_backward m_ring m_two m_brooks m_readRow m_rowNow m_frogOn m_frogs m_kindOf m_moved m_movedFrom m_movedTo m_pageLength m_page m_faultAt m_isWhole m_newMany_4 m_newSigns_5 m_newRow_6 m_long0 m_row m_far m_ways m_queue m_queueEnd m_endMany m_endSoon m_won m_seedNow m_isKept m_keptBrook m_keptMoved m_keptRow m_keptFrog m_keptFrom m_keptTo m_h) 45 [(4, .int v_14), (0, .ref (a b)), (1, .int x1_1), (2, .int x2_2), (3, .int x3_3)] [.int r_38]
            refine J_aload_n hB dX8_readBrook_45 rfl 1 rfl ?_
            refine J_get (v := .int m_newSigns_5) hB inX8 0 rfl rfl 19 (Nat.le_of_ble_eq_true rfl) kf_X8_73 rfl dX8_readBrook_46 ?_
            refine jn1_e (P := fun s_40 => J l E rX8_readBrook Y (wM E a b m_stones m_any m_backward m_ring m_two m_brooks m_readRow m_rowNow m_frogOn m_frogs m_kindOf m_moved m_movedFrom m_movedTo m_pageLength m_page m_faultAt m_isWhole m_newMany_4 m_newSigns_5 m_newRow_6 m_long0 m_row m_far m_ways m_queue m_queueEnd m_endMany m_endSoon m_won m_seedNow m_isKept m_keptBrook m_keptMoved m_keptRow m_keptFrog m_keptFrom m_keptTo m_h) 57 [(0, .ref (a b)), (1, .int x1_1), (2, .int x2_2), (4, .int v_14)] [.int s_40]) hf (fun s_40 hf => ?_) (fun j57 hj57 hf => ?_)
            · refine J_istore_n (lv' := [(3, .int s_40), (0, .ref (a b)), (1, .int x1_1), (2, .int x2_2), (4, .int v_14)]) hB rfl dX8_readBrook_57 rfl (Nat.le_of_ble_eq_true rfl) rfl ?_
              refine J_aload_n hB dX8_readBrook_58 rfl 1 rfl ?_
              refine J_dup hB dX8_readBrook_59 rfl ?_
              refine J_get (v := .int m_newSigns_5) hB inX8 0 rfl rfl 19 (Nat.le_of_ble_eq_true rfl) kf_X8_73 rfl dX8_readBrook_60 ?_
              refine J_iload_n hB dX8_readBrook_63 rfl 0 rfl ?_
              refine jn1_e (P := fun s_41 => J l E rX8_readBrook Y (wM E a b m_stones m_any m_backward m_ring m_two m_brooks m_readRow m_rowNow m_frogOn m_frogs m_kindOf m_moved m_movedFrom m_movedTo m_pageLength m_page m_faultAt m_isWhole m_newMany_4 m_newSigns_5 m_newRow_6 m_long0 m_row m_far m_ways m_queue m_queueEnd m_endMany m_endSoon m_won m_seedNow m_isKept m_keptBrook m_keptMoved m_keptRow m_keptFrog m_keptFrom m_keptTo m_h) 76 [(0, .ref (a b)), (1, .int x1_1), (2, .int x2_2), (3, .int s_40)] [.int s_41, .int m_newSigns_5, .ref (a b)]) hf (fun s_41 hf => ?_) (fun j76 hj76 hf => ?_)
              · refine J_iadd hB dX8_readBrook_76 ?_
                obtain ⟨m_newSigns_42, em_newSigns_42, hf⟩ := nmv_e hf
                rw [← em_newSigns_42]
                refine J_put (ws' := wM E a b m_stones m_any m_backward m_ring m_two m_brooks m_readRow m_rowNow m_frogOn m_frogs m_kindOf m_moved m_movedFrom m_movedTo m_pageLength m_page m_faultAt m_isWhole m_newMany_4 m_newSigns_42 m_newRow_6 m_long0 m_row m_far m_ways m_queue m_queueEnd m_endMany m_endSoon m_won m_seedNow m_isKept m_keptBrook m_keptMoved m_keptRow m_keptFrog m_keptFrom m_keptTo m_h) (ty := .int) (v := .int m_newSigns_42) hB inX8 tyX8 tyX8_ok nmX8 0 rfl rfl 19 (Nat.le_of_ble_eq_true rfl) kf_X8_73 rfl rfl rfl rfl (Nat.le_of_ble_eq_true rfl) dX8_readBrook_77 rfl ?_
                refine J_goto (tgt := 155) hB dX8_readBrook_80 rfl ?_
                exact J_lv [0, 1, 2, 3] rfl (hj155 x1_1 s_40 m_newMany_4 m_newSigns_42 m_newRow_6 hf)
              · refine J_if_eq (tgt := 75) hB dX8_readBrook_64 rfl (fun c_43 => ?_) (fun c_43 => ?_)
                · have hf := it_t c_43 hf
                  refine J_iconst (v := 0) hB dX8_readBrook_75 rfl ?_
                  exact J_lv [1, 2, 3, 0] rfl (hj76 0 hf)
                · have hf := it_f c_43 hf
                  refine J_iload hB dX8_readBrook_67 4 rfl ?_
                  obtain ⟨r_44, h_45, hf⟩ := cl1_e hf
                  refine J_callS (As := [.int v_14]) (rest := [.int m_newSigns_5, .ref (a b)]) (n := 1) (ws' := wM E a b m_stones m_any m_backward m_ring m_two m_brooks m_readRow m_rowNow m_frogOn m_frogs m_kindOf m_moved m_movedFrom m_movedTo m_pageLength m_page m_faultAt m_isWhole m_newMany_4 m_newSigns_5 m_newRow_6 m_long0 m_row m_far m_ways m_queue m_queueEnd m_endMany m_endSoon m_won m_seedNow m_isKept m_keptBrook m_keptMoved m_keptRow m_keptFrog m_keptFrom m_keptTo m_h) hB (c_X8_signBy l E a h_45) mi_X8_signBy ks_X8_signBy km_X8_76 ⟨rfl, rfl, Nat.le_of_ble_eq_true rfl, Nat.le_of_ble_eq_true rfl⟩ Lies.none rfl rfl (Nat.le_of_ble_eq_true rfl) dX8_readBrook_69 ?_
                  show J l E rX8_readBrook Y (wM E a b m_stones m_any m_backward m_ring m_two m_brooks m_readRow m_rowNow m_frogOn m_frogs m_kindOf m_moved m_movedFrom m_movedTo m_pageLength m_page m_faultAt m_isWhole m_newMany_4 m_newSigns_5 m_newRow_6 m_long0 m_row m_far m_ways m_queue m_queueEnd m_endMany m_endSoon m_won m_seedNow m_isKept m_keptBrook m_keptMoved m_keptRow m_keptFrog m_keptFrom m_keptTo m_h) 72 [(3, .int s_40), (0, .ref (a b)), (1, .int x1_1), (2, .int x2_2), (4, .int v_14)] [.int r_44, .int m_newSigns_5, .ref (a b)]
                  refine J_goto (tgt := 76) hB dX8_readBrook_72 rfl ?_
                  exact J_lv [1, 2, 3, 0] rfl (hj76 r_44 hf)
            · refine J_icmp_le (tgt := 56) hB dX8_readBrook_49 rfl (fun c_46 => ?_) (fun c_46 => ?_)
              · have hf := it_t c_46 hf
                refine J_iconst (v := 0) hB dX8_readBrook_56 rfl ?_
                exact J_lv [1, 2, 3, 0] rfl (hj57 0 hf)
              · have hf := it_f c_46 hf
                refine J_iconst (v := 1) hB dX8_readBrook_52 rfl ?_
                refine J_goto (tgt := 57) hB dX8_readBrook_53 rfl ?_
                exact J_lv [1, 2, 3, 0] rfl (hj57 1 hf)
  · refine J_aload_n hB dX8_readBrook_170 rfl 0 rfl ?_
    refine J_iload_n hB dX8_readBrook_171 rfl 2 rfl ?_
    refine J_put (ws' := wM E a b m_stones m_any m_backward m_ring m_two m_brooks m_readRow m_rowNow m_frogOn m_frogs m_kindOf m_moved m_movedFrom m_movedTo m_pageLength m_page x2_8 m_isWhole m_newMany_9 m_newSigns_10 m_newRow_11 m_long0 m_row m_far m_ways m_queue m_queueEnd m_endMany m_endSoon m_won m_seedNow m_isKept m_keptBrook m_keptMoved m_keptRow m_keptFrog m_keptFrom m_keptTo m_h) (ty := .int) (v := .int x2_8) hB inX8 tyX8 tyX8_ok nmX8 0 rfl rfl 16 (Nat.le_of_ble_eq_true rfl) kf_X8_83 rfl rfl rfl rfl (Nat.le_of_ble_eq_true rfl) dX8_readBrook_172 rfl ?_
    refine J_iconst (v := 0) hB dX8_readBrook_175 rfl ?_
    refine J_istore (lv' := [(4, .int 0), (0, .ref (a b)), (1, .int x1_7), (2, .int x2_8)]) hB rfl dX8_readBrook_176 (Nat.le_of_ble_eq_true rfl) rfl ?_
    refine J_iconst (v := 0) hB dX8_readBrook_178 rfl ?_
    refine J_istore (lv' := [(5, .int 0), (4, .int 0), (0, .ref (a b)), (1, .int x1_7), (2, .int x2_8)]) hB rfl dX8_readBrook_179 (Nat.le_of_ble_eq_true rfl) rfl ?_
    refine J_lv [2, 3, 4, 1, 0] rfl ?_
    refine lp2_1_J (P := fun x4_47 x5_48 => J l E rX8_readBrook Y (wM E a b m_stones m_any m_backward m_ring m_two m_brooks m_readRow m_rowNow m_frogOn m_frogs m_kindOf m_moved m_movedFrom m_movedTo m_pageLength m_page x2_8 m_isWhole m_newMany_9 m_newSigns_10 m_newRow_11 m_long0 m_row m_far m_ways m_queue m_queueEnd m_endMany m_endSoon m_won m_seedNow m_isKept m_keptBrook m_keptMoved m_keptRow m_keptFrog m_keptFrom m_keptTo m_h) 181 [(0, .ref (a b)), (1, .int x1_7), (2, .int x2_8), (4, .int x4_47), (5, .int x5_48)] []) (Q := fun x4_49 => J l E rX8_readBrook Y (wM E a b m_stones m_any m_backward m_ring m_two m_brooks m_readRow m_rowNow m_frogOn m_frogs m_kindOf m_moved m_movedFrom m_movedTo m_pageLength m_page x2_8 m_isWhole m_newMany_9 m_newSigns_10 m_newRow_11 m_long0 m_row m_far m_ways m_queue m_queueEnd m_endMany m_endSoon m_won m_seedNow m_isKept m_keptBrook m_keptMoved m_keptRow m_keptFrog m_keptFrom m_keptTo m_h) 208 [(0, .ref (a b)), (1, .int x1_7), (2, .int x2_8), (4, .int x4_49)] []) (fun x4_47 x5_48 nx181 ex181 hnx181 hex181 hf => ?_) (fun x4_49 hf => ?_) hf
    · refine J_iload hB dX8_readBrook_181 4 rfl ?_
      refine J_aload_n hB dX8_readBrook_183 rfl 0 rfl ?_
      refine J_get (v := .int m_newMany_9) hB inX8 0 rfl rfl 18 (Nat.le_of_ble_eq_true rfl) kf_X8_70 rfl dX8_readBrook_184 ?_
      refine J_icmp_ge (tgt := 208) hB dX8_readBrook_187 rfl (fun c_50 => ?_) (fun c_50 => ?_)
      · have hf := it_t c_50 hf
        exact J_lv [0, 1, 2, 3] rfl (hex181 x4_47 hf)
      · have hf := it_f c_50 hf
        refine J_iload hB dX8_readBrook_190 3 rfl ?_
        refine J_aload_n hB dX8_readBrook_192 rfl 0 rfl ?_
        refine J_get (v := .ref (a (b + 8))) hB inX8 0 rfl rfl 20 (Nat.le_of_ble_eq_true rfl) kf_X8_32 rfl dX8_readBrook_193 ?_
        refine J_iload hB dX8_readBrook_196 4 rfl ?_
        obtain ⟨v_51, ev_51, h_52, hf⟩ := ald_e hf
        refine J_iald hB 8 rfl ev_51 h_52 dX8_readBrook_198 ?_
        refine J_iadd hB dX8_readBrook_199 ?_
        obtain ⟨x4_53, ex4_53, hf⟩ := nmv_e hf
        refine J_istore (lv' := [(4, .int x4_53), (0, .ref (a b)), (1, .int x1_7), (2, .int x2_8), (5, .int x5_48)]) hB ex4_53 dX8_readBrook_200 (Nat.le_of_ble_eq_true rfl) rfl ?_
        obtain ⟨x5_54, ex5_54, hf⟩ := nmv_e hf
        refine J_iinc (lv' := [(5, .int x5_54), (4, .int x4_53), (0, .ref (a b)), (1, .int x1_7), (2, .int x2_8)]) hB ex5_54 dX8_readBrook_202 4 rfl (Nat.le_of_ble_eq_true rfl) rfl ?_
        refine J_goto (tgt := 181) hB dX8_readBrook_205 rfl ?_
        exact J_lv [2, 3, 4, 1, 0] rfl (hnx181 x4_53 x5_54 hf)
    · refine J_aload_n hB dX8_readBrook_208 rfl 0 rfl ?_
      refine J_iload_n hB dX8_readBrook_209 rfl 2 rfl ?_
      refine J_aload_n hB dX8_readBrook_210 rfl 0 rfl ?_
      refine J_get (v := .int m_pageLength) hB inX8 0 rfl rfl 14 (Nat.le_of_ble_eq_true rfl) kf_X8_66 rfl dX8_readBrook_211 ?_
      refine jn1_e (P := fun s_55 => J l E rX8_readBrook Y (wM E a b m_stones m_any m_backward m_ring m_two m_brooks m_readRow m_rowNow m_frogOn m_frogs m_kindOf m_moved m_movedFrom m_movedTo m_pageLength m_page x2_8 m_isWhole m_newMany_9 m_newSigns_10 m_newRow_11 m_long0 m_row m_far m_ways m_queue m_queueEnd m_endMany m_endSoon m_won m_seedNow m_isKept m_keptBrook m_keptMoved m_keptRow m_keptFrog m_keptFrom m_keptTo m_h) 246 [] [.int s_55, .ref (a b)]) hf (fun s_55 hf => ?_) (fun j246 hj246 hf => ?_)
      · obtain ⟨h_56, hf⟩ := gz_e hf
        refine J_put (ws' := wM E a b m_stones m_any m_backward m_ring m_two m_brooks m_readRow m_rowNow m_frogOn m_frogs m_kindOf m_moved m_movedFrom m_movedTo m_pageLength m_page x2_8 s_55 m_newMany_9 m_newSigns_10 m_newRow_11 m_long0 m_row m_far m_ways m_queue m_queueEnd m_endMany m_endSoon m_won m_seedNow m_isKept m_keptBrook m_keptMoved m_keptRow m_keptFrog m_keptFrom m_keptTo m_h) (ty := .boolean) (v := .int s_55) hB inX8 tyX8 tyX8_ok nmX8 0 rfl rfl 17 (Nat.le_of_ble_eq_true rfl) kf_X8_86 rfl rfl (nar_z h_56) (fit_z h_56) (Nat.le_of_ble_eq_true rfl) dX8_readBrook_246 rfl ?_
        obtain rfl := Option.some.inj hf
        exact J_vret hB hR dX8_readBrook_249
      · refine jn0_e (P := J l E rX8_readBrook Y (wM E a b m_stones m_any m_backward m_ring m_two m_brooks m_readRow m_rowNow m_frogOn m_frogs m_kindOf m_moved m_movedFrom m_movedTo m_pageLength m_page x2_8 m_isWhole m_newMany_9 m_newSigns_10 m_newRow_11 m_long0 m_row m_far m_ways m_queue m_queueEnd m_endMany m_endSoon m_won m_seedNow m_isKept m_keptBrook m_keptMoved m_keptRow m_keptFrog m_keptFrom m_keptTo m_h) 245 [] [.ref (a b)]) hf (fun hf => ?_) (fun j245 hj245 hf => ?_)
        · refine J_iconst (v := 0) hB dX8_readBrook_245 rfl ?_
          exact J_lv [] rfl (hj246 0 hf)
        · refine J_icmp_ne (tgt := 245) hB dX8_readBrook_214 rfl (fun c_57 => ?_) (fun c_57 => ?_)
          · have hf := it_f c_57 hf
            exact J_lv [] rfl (hj245 hf)
          · have hf := it_t c_57 hf
            refine J_aload_n hB dX8_readBrook_217 rfl 0 rfl ?_
            refine J_get (v := .int m_newMany_9) hB inX8 0 rfl rfl 18 (Nat.le_of_ble_eq_true rfl) kf_X8_70 rfl dX8_readBrook_218 ?_
            refine J_iconst (v := 2) hB dX8_readBrook_221 rfl ?_
            refine J_icmp_le (tgt := 245) hB dX8_readBrook_222 rfl (fun c_58 => ?_) (fun c_58 => ?_)
            · have hf := it_t c_58 hf
              exact J_lv [] rfl (hj245 hf)
            · have hf := it_f c_58 hf
              refine J_iload hB dX8_readBrook_225 3 rfl ?_
              refine J_if_le (tgt := 245) hB dX8_readBrook_227 rfl (fun c_59 => ?_) (fun c_59 => ?_)
              · have hf := it_t c_59 hf
                exact J_lv [] rfl (hj245 hf)
              · have hf := it_f c_59 hf
                refine J_iload_n hB dX8_readBrook_230 rfl 1 rfl ?_
                refine jn0_e (P := J l E rX8_readBrook Y (wM E a b m_stones m_any m_backward m_ring m_two m_brooks m_readRow m_rowNow m_frogOn m_frogs m_kindOf m_moved m_movedFrom m_movedTo m_pageLength m_page x2_8 m_isWhole m_newMany_9 m_newSigns_10 m_newRow_11 m_long0 m_row m_far m_ways m_queue m_queueEnd m_endMany m_endSoon m_won m_seedNow m_isKept m_keptBrook m_keptMoved m_keptRow m_keptFrog m_keptFrom m_keptTo m_h) 241 [] [.ref (a b)]) hf (fun hf => ?_) (fun j241 hj241 hf => ?_)
                · refine J_iconst (v := 1) hB dX8_readBrook_241 rfl ?_
                  refine J_goto (tgt := 246) hB dX8_readBrook_242 rfl ?_
                  exact J_lv [] rfl (hj246 1 hf)
                · refine J_if_eq (tgt := 241) hB dX8_readBrook_231 rfl (fun c_60 => ?_) (fun c_60 => ?_)
                  · have hf := it_t c_60 hf
                    exact J_lv [] rfl (hj241 hf)
                  · have hf := it_f c_60 hf
                    refine J_aload_n hB dX8_readBrook_234 rfl 0 rfl ?_
                    refine J_get (v := .int m_newSigns_10) hB inX8 0 rfl rfl 19 (Nat.le_of_ble_eq_true rfl) kf_X8_73 rfl dX8_readBrook_235 ?_
                    refine J_if_le (tgt := 245) hB dX8_readBrook_238 rfl (fun c_61 => ?_) (fun c_61 => ?_)
                    · have hf := it_t c_61 hf
                      exact J_lv [] rfl (hj245 hf)
                    · have hf := it_f c_61 hf
                      exact J_lv [] rfl (hj241 hf)
def f_X8_fault (m_pageLength : Int32) (m_page : Nat → Int32) (m_faultAt : Int32) (m_isWhole : Int32) (m_newMany : Int32) (m_newSigns : Int32) (m_newRow : Nat → Int32) : Option (Int32 × Int32 × Int32 × Int32 × Int32 × (Nat → Int32)) :=
cl5 (f_X8_readBrook m_pageLength m_page m_faultAt m_isWhole m_newMany m_newSigns m_newRow) fun m_faultAt_1 m_isWhole_2 m_newMany_3 m_newSigns_4 m_newRow_5 =>
some (m_faultAt_1, m_faultAt_1, m_isWhole_2, m_newMany_3, m_newSigns_4, m_newRow_5)
abbrev rX8_fault : Room := { frames := 2, cells := 0, slots := 0, locals := 45 }
set_option maxRecDepth 100000 in
set_option maxHeartbeats 4000000 in
theorem c_X8_fault (l : Launch) (E : En) (a : Nat → Nat) (b : Nat) (m_stones : Int32) (m_any : Int32) (m_backward : Int32) (m_ring : Int32) (m_two : Int32) (m_brooks : Int32) (m_readRow : Nat → Int32) (m_rowNow : Nat → Int32) (m_frogOn : Nat → Int32) (m_frogs : Int32) (m_kindOf : Nat → Int32) (m_moved : Int32) (m_movedFrom : Nat → Int32) (m_movedTo : Nat → Int32) (m_pageLength : Int32) (m_page : Nat → Int32) (m_faultAt : Int32) (m_isWhole : Int32) (m_newMany : Int32) (m_newSigns : Int32) (m_newRow : Nat → Int32) (m_long0 : Int32) (m_row : Nat → Int32) (m_far : Nat → Int32) (m_ways : Nat → Int64) (m_queue : Nat → Int32) (m_queueEnd : Int32) (m_endMany : Int32) (m_endSoon : Int32) (m_won : Nat → Int32) (m_seedNow : Int64) (m_isKept : Int32) (m_keptBrook : Int32) (m_keptMoved : Int32) (m_keptRow : Nat → Int32) (m_keptFrog : Nat → Int32) (m_keptFrom : Nat → Int32) (m_keptTo : Nat → Int32) (m_h : Int64) {res : Int32 × Int32 × Int32 × Int32 × Int32 × (Nat → Int32)} (hf : f_X8_fault m_pageLength m_page m_faultAt m_isWhole m_newMany m_newSigns m_newRow = some res) : Ct l yX8_fault (.code yX8_fault cX8_fault 1 (some .int)) rX8_fault E [.ref (a b)] (wM E a b m_stones m_any m_backward m_ring m_two m_brooks m_readRow m_rowNow m_frogOn m_frogs m_kindOf m_moved m_movedFrom m_movedTo m_pageLength m_page m_faultAt m_isWhole m_newMany m_newSigns m_newRow m_long0 m_row m_far m_ways m_queue m_queueEnd m_endMany m_endSoon m_won m_seedNow m_isKept m_keptBrook m_keptMoved m_keptRow m_keptFrog m_keptFrom m_keptTo m_h) (some (.int res.1)) (wM E a b m_stones m_any m_backward m_ring m_two m_brooks m_readRow m_rowNow m_frogOn m_frogs m_kindOf m_moved m_movedFrom m_movedTo m_pageLength m_page res.2.1 res.2.2.1 res.2.2.2.1 res.2.2.2.2.1 res.2.2.2.2.2 m_long0 m_row m_far m_ways m_queue m_queueEnd m_endMany m_endSoon m_won m_seedNow m_isKept m_keptBrook m_keptMoved m_keptRow m_keptFrog m_keptFrom m_keptTo m_h) := by
  refine Ct.of (by decide) (Nat.le_of_ble_eq_true rfl) (fun Y hB hR => ?_)
  have hB : Cb E cX8_fault RX8 rX8_fault 1 Y := hB
  show J l E rX8_fault Y (wM E a b m_stones m_any m_backward m_ring m_two m_brooks m_readRow m_rowNow m_frogOn m_frogs m_kindOf m_moved m_movedFrom m_movedTo m_pageLength m_page m_faultAt m_isWhole m_newMany m_newSigns m_newRow m_long0 m_row m_far m_ways m_queue m_queueEnd m_endMany m_endSoon m_won m_seedNow m_isKept m_keptBrook m_keptMoved m_keptRow m_keptFrog m_keptFrom m_keptTo m_h) 0 [(0, .ref (a b))] []
  unfold f_X8_fault at hf
  refine J_aload_n hB dX8_fault_0 rfl 0 rfl ?_
  obtain ⟨m_faultAt_1, m_isWhole_2, m_newMany_3, m_newSigns_4, m_newRow_5, h_6, hf⟩ := cl5_e hf
  refine J_callV (As := []) (rest := []) (n := 0) (ws' := wM E a b m_stones m_any m_backward m_ring m_two m_brooks m_readRow m_rowNow m_frogOn m_frogs m_kindOf m_moved m_movedFrom m_movedTo m_pageLength m_page m_faultAt_1 m_isWhole_2 m_newMany_3 m_newSigns_4 m_newRow_5 m_long0 m_row m_far m_ways m_queue m_queueEnd m_endMany m_endSoon m_won m_seedNow m_isKept m_keptBrook m_keptMoved m_keptRow m_keptFrog m_keptFrom m_keptTo m_h) hB (c_X8_readBrook l E a b m_stones m_any m_backward m_ring m_two m_brooks m_readRow m_rowNow m_frogOn m_frogs m_kindOf m_moved m_movedFrom m_movedTo m_pageLength m_page m_faultAt m_isWhole m_newMany m_newSigns m_newRow m_long0 m_row m_far m_ways m_queue m_queueEnd m_endMany m_endSoon m_won m_seedNow m_isKept m_keptBrook m_keptMoved m_keptRow m_keptFrog m_keptFrom m_keptTo m_h h_6) mi_X8_readBrook ⟨ki_X8_readBrook, kv_X8_readBrook⟩ km_X8_90 ⟨rfl, rfl, Nat.le_of_ble_eq_true rfl, Nat.le_of_ble_eq_true rfl⟩ Lies.same 0 rfl rfl rfl rfl (Nat.le_of_ble_eq_true rfl) dX8_fault_1 ?_
  show J l E rX8_fault Y (wM E a b m_stones m_any m_backward m_ring m_two m_brooks m_readRow m_rowNow m_frogOn m_frogs m_kindOf m_moved m_movedFrom m_movedTo m_pageLength m_page m_faultAt_1 m_isWhole_2 m_newMany_3 m_newSigns_4 m_newRow_5 m_long0 m_row m_far m_ways m_queue m_queueEnd m_endMany m_endSoon m_won m_seedNow m_isKept m_keptBrook m_keptMoved m_keptRow m_keptFrog m_keptFrom m_keptTo m_h) 4 [(0, .ref (a b))] []
  refine J_aload_n hB dX8_fault_4 rfl 0 rfl ?_
  refine J_get (v := .int m_faultAt_1) hB inX8 0 rfl rfl 16 (Nat.le_of_ble_eq_true rfl) kf_X8_83 rfl dX8_fault_5 ?_
  obtain rfl := Option.some.inj hf
  exact J_iret hB hR dX8_fault_8
def f_X8_brook (m_stones : Int32) (m_any : Int32) (m_backward : Int32) (m_ring : Int32) (m_two : Int32) (m_brooks : Int32) (m_readRow : Nat → Int32) (m_rowNow : Nat → Int32) (m_frogOn : Nat → Int32) (m_frogs : Int32) (m_kindOf : Nat → Int32) (m_moved : Int32) (m_pageLength : Int32) (m_page : Nat → Int32) (m_faultAt : Int32) (m_isWhole : Int32) (m_newMany : Int32) (m_newSigns : Int32) (m_newRow : Nat → Int32) : Option (Int32 × Int32 × Int32 × Int32 × Int32 × Int32 × Int32 × (Nat → Int32) × (Nat → Int32) × (Nat → Int32) × Int32 × (Nat → Int32) × Int32 × Int32 × Int32 × Int32 × Int32 × Int32 × (Nat → Int32)) :=
cl5 (f_X8_readBrook m_pageLength m_page m_faultAt m_isWhole m_newMany m_newSigns m_newRow) fun m_faultAt_1 m_isWhole_2 m_newMany_3 m_newSigns_4 m_newRow_5 =>
if m_isWhole_2 = 0 then (
some ((-103), m_stones, m_any, m_backward, m_ring, m_two, m_brooks, m_readRow, m_rowNow, m_frogOn, m_frogs, m_kindOf, m_moved, m_pageLength, m_faultAt_1, m_isWhole_2, m_newMany_3, m_newSigns_4, m_newRow_5)) else (
iremK m_newSigns_4 2 fun v_8 =>
jn1 (fun (s_10 : Int32) =>
gz s_10 fun _ =>
idivK m_newSigns_4 2 fun v_12 =>
iremK v_12 2 fun v_14 =>
jn1 (fun (s_16 : Int32) =>
gz s_16 fun _ =>
idivK m_newSigns_4 4 fun v_18 =>
iremK v_18 2 fun v_20 =>
jn1 (fun (s_22 : Int32) =>
gz s_22 fun _ =>
idivK m_newSigns_4 8 fun v_24 =>
jn1 (fun (s_26 : Int32) =>
gz s_26 fun _ =>
lp6_5 (fun (x1_28 : Int32) (m_readRow_29 : Nat → Int32) (m_rowNow_30 : Nat → Int32) (m_frogOn_31 : Nat → Int32) (m_frogs_32 : Int32) (m_kindOf_33 : Nat → Int32) nx110 ex110 =>
if m_newMany_3 ≤ x1_28 then (
ex110 m_readRow_29 m_rowNow_30 m_frogOn_31 m_frogs_32 m_kindOf_33) else (
ald 7 m_newRow_5 x1_28 fun v_40 =>
astI 7 m_readRow_29 x1_28 v_40 fun m_readRow_42 =>
ald 7 m_newRow_5 x1_28 fun v_44 =>
astI 7 m_rowNow_30 x1_28 v_44 fun m_rowNow_46 =>
astI 7 m_frogOn_31 x1_28 ((-1)) fun m_frogOn_48 =>
ald 7 m_newRow_5 x1_28 fun v_50 =>
jn3 (fun (m_frogOn_52 : Nat → Int32) (m_frogs_53 : Int32) (m_kindOf_54 : Nat → Int32) =>
nmv (α := Int32) (x1_28 + 1) fun x1_55 =>
nx110 x1_55 m_readRow_42 m_rowNow_46 m_frogOn_52 m_frogs_53 m_kindOf_54) fun j193 =>
if v_50 ≤ 0 then (
j193 m_frogOn_48 m_frogs_32 m_kindOf_33) else (
ald 7 m_newRow_5 x1_28 fun v_57 =>
astI 7 m_kindOf_33 m_frogs_32 v_57 fun m_kindOf_59 =>
astI 7 m_frogOn_48 x1_28 m_frogs_32 fun m_frogOn_61 =>
nmv (α := Int32) (m_frogs_32 + (1 : Int32)) fun m_frogs_63 =>
j193 m_frogOn_61 m_frogs_63 m_kindOf_59))) (fun (m_readRow_34 : Nat → Int32) (m_rowNow_35 : Nat → Int32) (m_frogOn_36 : Nat → Int32) (m_frogs_37 : Int32) (m_kindOf_38 : Nat → Int32) =>
nmv (α := Int32) (m_brooks + (1 : Int32)) fun m_brooks_64 =>
some (m_newMany_3, m_newMany_3, s_10, s_16, s_22, s_26, m_brooks_64, m_readRow_34, m_rowNow_35, m_frogOn_36, m_frogs_37, m_kindOf_38, 0, 0, m_faultAt_1, m_isWhole_2, m_newMany_3, m_newSigns_4, m_newRow_5)) fuel 0 m_readRow m_rowNow m_frogOn 0 m_kindOf) fun j100 =>
if v_24 = 1 then (
j100 1) else (
j100 0)) fun j80 =>
if v_20 = 1 then (
j80 1) else (
j80 0)) fun j59 =>
if v_14 = 1 then (
j59 1) else (
j59 0)) fun j38 =>
if v_8 = 1 then (
j38 1) else (
j38 0))
abbrev rX8_brook : Room := { frames := 2, cells := 0, slots := 0, locals := 45 }
set_option maxRecDepth 100000 in
set_option maxHeartbeats 4000000 in
theorem c_X8_brook (l : Launch) (E : En) (a : Nat → Nat) (b : Nat) (m_stones : Int32) (m_any : Int32) (m_backward : Int32) (m_ring : Int32) (m_two : Int32) (m_brooks : Int32) (m_readRow : Nat → Int32) (m_rowNow : Nat → Int32) (m_frogOn : Nat → Int32) (m_frogs : Int32) (m_kindOf : Nat → Int32) (m_moved : Int32) (m_movedFrom : Nat → Int32) (m_movedTo : Nat → Int32) (m_pageLength : Int32) (m_page : Nat → Int32) (m_faultAt : Int32) (m_isWhole : Int32) (m_newMany : Int32) (m_newSigns : Int32) (m_newRow : Nat → Int32) (m_long0 : Int32) (m_row : Nat → Int32) (m_far : Nat → Int32) (m_ways : Nat → Int64) (m_queue : Nat → Int32) (m_queueEnd : Int32) (m_endMany : Int32) (m_endSoon : Int32) (m_won : Nat → Int32) (m_seedNow : Int64) (m_isKept : Int32) (m_keptBrook : Int32) (m_keptMoved : Int32) (m_keptRow : Nat → Int32) (m_keptFrog : Nat → Int32) (m_keptFrom : Nat → Int32) (m_keptTo : Nat → Int32) (m_h : Int64) {res : Int32 × Int32 × Int32 × Int32 × Int32 × Int32 × Int32 × (Nat → Int32) × (Nat → Int32) × (Nat → Int32) × Int32 × (Nat → Int32) × Int32 × Int32 × Int32 × Int32 × Int32 × Int32 × (Nat → Int32)} (hf : f_X8_brook m_stones m_any m_backward m_ring m_two m_brooks m_readRow m_rowNow m_frogOn m_frogs m_kindOf m_moved m_pageLength m_page m_faultAt m_isWhole m_newMany m_newSigns m_newRow = some res) : Ct l yX8_brook (.code yX8_brook cX8_brook 2 (some .int)) rX8_brook E [.ref (a b)] (wM E a b m_stones m_any m_backward m_ring m_two m_brooks m_readRow m_rowNow m_frogOn m_frogs m_kindOf m_moved m_movedFrom m_movedTo m_pageLength m_page m_faultAt m_isWhole m_newMany m_newSigns m_newRow m_long0 m_row m_far m_ways m_queue m_queueEnd m_endMany m_endSoon m_won m_seedNow m_isKept m_keptBrook m_keptMoved m_keptRow m_keptFrog m_keptFrom m_keptTo m_h) (some (.int res.1)) (wM E a b res.2.1 res.2.2.1 res.2.2.2.1 res.2.2.2.2.1 res.2.2.2.2.2.1 res.2.2.2.2.2.2.1 res.2.2.2.2.2.2.2.1 res.2.2.2.2.2.2.2.2.1 res.2.2.2.2.2.2.2.2.2.1 res.2.2.2.2.2.2.2.2.2.2.1 res.2.2.2.2.2.2.2.2.2.2.2.1 res.2.2.2.2.2.2.2.2.2.2.2.2.1 m_movedFrom m_movedTo res.2.2.2.2.2.2.2.2.2.2.2.2.2.1 m_page res.2.2.2.2.2.2.2.2.2.2.2.2.2.2.1 res.2.2.2.2.2.2.2.2.2.2.2.2.2.2.2.1 res.2.2.2.2.2.2.2.2.2.2.2.2.2.2.2.2.1 res.2.2.2.2.2.2.2.2.2.2.2.2.2.2.2.2.2.1 res.2.2.2.2.2.2.2.2.2.2.2.2.2.2.2.2.2.2 m_long0 m_row m_far m_ways m_queue m_queueEnd m_endMany m_endSoon m_won m_seedNow m_isKept m_keptBrook m_keptMoved m_keptRow m_keptFrog m_keptFrom m_keptTo m_h) := by
  refine Ct.of (by decide) (Nat.le_of_ble_eq_true rfl) (fun Y hB hR => ?_)
  have hB : Cb E cX8_brook RX8 rX8_brook 2 Y := hB
  show J l E rX8_brook Y (wM E a b m_stones m_any m_backward m_ring m_two m_brooks m_readRow m_rowNow m_frogOn m_frogs m_kindOf m_moved m_movedFrom m_movedTo m_pageLength m_page m_faultAt m_isWhole m_newMany m_newSigns m_newRow m_long0 m_row m_far m_ways m_queue m_queueEnd m_endMany m_endSoon m_won m_seedNow m_isKept m_keptBrook m_keptMoved m_keptRow m_keptFrog m_keptFrom m_keptTo m_h) 0 [(0, .ref (a b))] []
  unfold f_X8_brook at hf
  refine J_aload_n hB dX8_brook_0 rfl 0 rfl ?_
  obtain ⟨m_faultAt_1, m_isWhole_2, m_newMany_3, m_newSigns_4, m_newRow_5, h_6, hf⟩ := cl5_e hf
  refine J_callV (As := []) (rest := []) (n := 0) (ws' := wM E a b m_stones m_any m_backward m_ring m_two m_brooks m_readRow m_rowNow m_frogOn m_frogs m_kindOf m_moved m_movedFrom m_movedTo m_pageLength m_page m_faultAt_1 m_isWhole_2 m_newMany_3 m_newSigns_4 m_newRow_5 m_long0 m_row m_far m_ways m_queue m_queueEnd m_endMany m_endSoon m_won m_seedNow m_isKept m_keptBrook m_keptMoved m_keptRow m_keptFrog m_keptFrom m_keptTo m_h) hB (c_X8_readBrook l E a b m_stones m_any m_backward m_ring m_two m_brooks m_readRow m_rowNow m_frogOn m_frogs m_kindOf m_moved m_movedFrom m_movedTo m_pageLength m_page m_faultAt m_isWhole m_newMany m_newSigns m_newRow m_long0 m_row m_far m_ways m_queue m_queueEnd m_endMany m_endSoon m_won m_seedNow m_isKept m_keptBrook m_keptMoved m_keptRow m_keptFrog m_keptFrom m_keptTo m_h h_6) mi_X8_readBrook ⟨ki_X8_readBrook, kv_X8_readBrook⟩ km_X8_90 ⟨rfl, rfl, Nat.le_of_ble_eq_true rfl, Nat.le_of_ble_eq_true rfl⟩ Lies.same 0 rfl rfl rfl rfl (Nat.le_of_ble_eq_true rfl) dX8_brook_1 ?_
  show J l E rX8_brook Y (wM E a b m_stones m_any m_backward m_ring m_two m_brooks m_readRow m_rowNow m_frogOn m_frogs m_kindOf m_moved m_movedFrom m_movedTo m_pageLength m_page m_faultAt_1 m_isWhole_2 m_newMany_3 m_newSigns_4 m_newRow_5 m_long0 m_row m_far m_ways m_queue m_queueEnd m_endMany m_endSoon m_won m_seedNow m_isKept m_keptBrook m_keptMoved m_keptRow m_keptFrog m_keptFrom m_keptTo m_h) 4 [(0, .ref (a b))] []
  refine J_aload_n hB dX8_brook_4 rfl 0 rfl ?_
  refine J_get (v := .int m_isWhole_2) hB inX8 0 rfl rfl 17 (Nat.le_of_ble_eq_true rfl) kf_X8_86 rfl dX8_brook_5 ?_
  refine J_if_ne (tgt := 14) hB dX8_brook_8 rfl (fun c_7 => ?_) (fun c_7 => ?_)
  · have hf := it_f c_7 hf
    refine J_aload_n hB dX8_brook_14 rfl 0 rfl ?_
    refine J_aload_n hB dX8_brook_15 rfl 0 rfl ?_
    refine J_get (v := .int m_newMany_3) hB inX8 0 rfl rfl 18 (Nat.le_of_ble_eq_true rfl) kf_X8_70 rfl dX8_brook_16 ?_
    refine J_put (ws' := wM E a b m_newMany_3 m_any m_backward m_ring m_two m_brooks m_readRow m_rowNow m_frogOn m_frogs m_kindOf m_moved m_movedFrom m_movedTo m_pageLength m_page m_faultAt_1 m_isWhole_2 m_newMany_3 m_newSigns_4 m_newRow_5 m_long0 m_row m_far m_ways m_queue m_queueEnd m_endMany m_endSoon m_won m_seedNow m_isKept m_keptBrook m_keptMoved m_keptRow m_keptFrog m_keptFrom m_keptTo m_h) (ty := .int) (v := .int m_newMany_3) hB inX8 tyX8 tyX8_ok nmX8 0 rfl rfl 0 (Nat.le_of_ble_eq_true rfl) kf_X8_93 rfl rfl rfl rfl (Nat.le_of_ble_eq_true rfl) dX8_brook_19 rfl ?_
    refine J_aload_n hB dX8_brook_22 rfl 0 rfl ?_
    refine J_aload_n hB dX8_brook_23 rfl 0 rfl ?_
    refine J_get (v := .int m_newSigns_4) hB inX8 0 rfl rfl 19 (Nat.le_of_ble_eq_true rfl) kf_X8_73 rfl dX8_brook_24 ?_
    refine J_iconst (v := 2) hB dX8_brook_27 rfl ?_
    obtain ⟨v_8, ev_8, h_9, hf⟩ := iremK_e hf
    refine J_irem hB dX8_brook_28 h_9 ?_
    rw [← ev_8]
    refine J_iconst (v := 1) hB dX8_brook_29 rfl ?_
    refine jn1_e (P := fun s_10 => J l E rX8_brook Y (wM E a b m_newMany_3 m_any m_backward m_ring m_two m_brooks m_readRow m_rowNow m_frogOn m_frogs m_kindOf m_moved m_movedFrom m_movedTo m_pageLength m_page m_faultAt_1 m_isWhole_2 m_newMany_3 m_newSigns_4 m_newRow_5 m_long0 m_row m_far m_ways m_queue m_queueEnd m_endMany m_endSoon m_won m_seedNow m_isKept m_keptBrook m_keptMoved m_keptRow m_keptFrog m_keptFrom m_keptTo m_h) 38 [(0, .ref (a b))] [.int s_10, .ref (a b)]) hf (fun s_10 hf => ?_) (fun j38 hj38 hf => ?_)
    · obtain ⟨h_11, hf⟩ := gz_e hf
      refine J_put (ws' := wM E a b m_newMany_3 s_10 m_backward m_ring m_two m_brooks m_readRow m_rowNow m_frogOn m_frogs m_kindOf m_moved m_movedFrom m_movedTo m_pageLength m_page m_faultAt_1 m_isWhole_2 m_newMany_3 m_newSigns_4 m_newRow_5 m_long0 m_row m_far m_ways m_queue m_queueEnd m_endMany m_endSoon m_won m_seedNow m_isKept m_keptBrook m_keptMoved m_keptRow m_keptFrog m_keptFrom m_keptTo m_h) (ty := .boolean) (v := .int s_10) hB inX8 tyX8 tyX8_ok nmX8 0 rfl rfl 1 (Nat.le_of_ble_eq_true rfl) kf_X8_96 rfl rfl (nar_z h_11) (fit_z h_11) (Nat.le_of_ble_eq_true rfl) dX8_brook_38 rfl ?_
      refine J_aload_n hB dX8_brook_41 rfl 0 rfl ?_
      refine J_aload_n hB dX8_brook_42 rfl 0 rfl ?_
      refine J_get (v := .int m_newSigns_4) hB inX8 0 rfl rfl 19 (Nat.le_of_ble_eq_true rfl) kf_X8_73 rfl dX8_brook_43 ?_
      refine J_iconst (v := 2) hB dX8_brook_46 rfl ?_
      obtain ⟨v_12, ev_12, h_13, hf⟩ := idivK_e hf
      refine J_idiv hB dX8_brook_47 h_13 ?_
      rw [← ev_12]
      refine J_iconst (v := 2) hB dX8_brook_48 rfl ?_
      obtain ⟨v_14, ev_14, h_15, hf⟩ := iremK_e hf
      refine J_irem hB dX8_brook_49 h_15 ?_
      rw [← ev_14]
      refine J_iconst (v := 1) hB dX8_brook_50 rfl ?_
      refine jn1_e (P := fun s_16 => J l E rX8_brook Y (wM E a b m_newMany_3 s_10 m_backward m_ring m_two m_brooks m_readRow m_rowNow m_frogOn m_frogs m_kindOf m_moved m_movedFrom m_movedTo m_pageLength m_page m_faultAt_1 m_isWhole_2 m_newMany_3 m_newSigns_4 m_newRow_5 m_long0 m_row m_far m_ways m_queue m_queueEnd m_endMany m_endSoon m_won m_seedNow m_isKept m_keptBrook m_keptMoved m_keptRow m_keptFrog m_keptFrom m_keptTo m_h) 59 [(0, .ref (a b))] [.int s_16, .ref (a b)]) hf (fun s_16 hf => ?_) (fun j59 hj59 hf => ?_)
      · obtain ⟨h_17, hf⟩ := gz_e hf
        refine J_put (ws' := wM E a b m_newMany_3 s_10 s_16 m_ring m_two m_brooks m_readRow m_rowNow m_frogOn m_frogs m_kindOf m_moved m_movedFrom m_movedTo m_pageLength m_page m_faultAt_1 m_isWhole_2 m_newMany_3 m_newSigns_4 m_newRow_5 m_long0 m_row m_far m_ways m_queue m_queueEnd m_endMany m_endSoon m_won m_seedNow m_isKept m_keptBrook m_keptMoved m_keptRow m_keptFrog m_keptFrom m_keptTo m_h) (ty := .boolean) (v := .int s_16) hB inX8 tyX8 tyX8_ok nmX8 0 rfl rfl 2 (Nat.le_of_ble_eq_true rfl) kf_X8_99 rfl rfl (nar_z h_17) (fit_z h_17) (Nat.le_of_ble_eq_true rfl) dX8_brook_59 rfl ?_
        refine J_aload_n hB dX8_brook_62 rfl 0 rfl ?_
        refine J_aload_n hB dX8_brook_63 rfl 0 rfl ?_
        refine J_get (v := .int m_newSigns_4) hB inX8 0 rfl rfl 19 (Nat.le_of_ble_eq_true rfl) kf_X8_73 rfl dX8_brook_64 ?_
        refine J_iconst (v := 4) hB dX8_brook_67 rfl ?_
        obtain ⟨v_18, ev_18, h_19, hf⟩ := idivK_e hf
        refine J_idiv hB dX8_brook_68 h_19 ?_
        rw [← ev_18]
        refine J_iconst (v := 2) hB dX8_brook_69 rfl ?_
        obtain ⟨v_20, ev_20, h_21, hf⟩ := iremK_e hf
        refine J_irem hB dX8_brook_70 h_21 ?_
        rw [← ev_20]
        refine J_iconst (v := 1) hB dX8_brook_71 rfl ?_
        refine jn1_e (P := fun s_22 => J l E rX8_brook Y (wM E a b m_newMany_3 s_10 s_16 m_ring m_two m_brooks m_readRow m_rowNow m_frogOn m_frogs m_kindOf m_moved m_movedFrom m_movedTo m_pageLength m_page m_faultAt_1 m_isWhole_2 m_newMany_3 m_newSigns_4 m_newRow_5 m_long0 m_row m_far m_ways m_queue m_queueEnd m_endMany m_endSoon m_won m_seedNow m_isKept m_keptBrook m_keptMoved m_keptRow m_keptFrog m_keptFrom m_keptTo m_h) 80 [(0, .ref (a b))] [.int s_22, .ref (a b)]) hf (fun s_22 hf => ?_) (fun j80 hj80 hf => ?_)
        · obtain ⟨h_23, hf⟩ := gz_e hf
          refine J_put (ws' := wM E a b m_newMany_3 s_10 s_16 s_22 m_two m_brooks m_readRow m_rowNow m_frogOn m_frogs m_kindOf m_moved m_movedFrom m_movedTo m_pageLength m_page m_faultAt_1 m_isWhole_2 m_newMany_3 m_newSigns_4 m_newRow_5 m_long0 m_row m_far m_ways m_queue m_queueEnd m_endMany m_endSoon m_won m_seedNow m_isKept m_keptBrook m_keptMoved m_keptRow m_keptFrog m_keptFrom m_keptTo m_h) (ty := .boolean) (v := .int s_22) hB inX8 tyX8 tyX8_ok nmX8 0 rfl rfl 3 (Nat.le_of_ble_eq_true rfl) kf_X8_102 rfl rfl (nar_z h_23) (fit_z h_23) (Nat.le_of_ble_eq_true rfl) dX8_brook_80 rfl ?_
          refine J_aload_n hB dX8_brook_83 rfl 0 rfl ?_
          refine J_aload_n hB dX8_brook_84 rfl 0 rfl ?_
          refine J_get (v := .int m_newSigns_4) hB inX8 0 rfl rfl 19 (Nat.le_of_ble_eq_true rfl) kf_X8_73 rfl dX8_brook_85 ?_
          refine J_bipush (v := 8) hB dX8_brook_88 rfl ?_
          obtain ⟨v_24, ev_24, h_25, hf⟩ := idivK_e hf
          refine J_idiv hB dX8_brook_90 h_25 ?_
          rw [← ev_24]
          refine J_iconst (v := 1) hB dX8_brook_91 rfl ?_
          refine jn1_e (P := fun s_26 => J l E rX8_brook Y (wM E a b m_newMany_3 s_10 s_16 s_22 m_two m_brooks m_readRow m_rowNow m_frogOn m_frogs m_kindOf m_moved m_movedFrom m_movedTo m_pageLength m_page m_faultAt_1 m_isWhole_2 m_newMany_3 m_newSigns_4 m_newRow_5 m_long0 m_row m_far m_ways m_queue m_queueEnd m_endMany m_endSoon m_won m_seedNow m_isKept m_keptBrook m_keptMoved m_keptRow m_keptFrog m_keptFrom m_keptTo m_h) 100 [(0, .ref (a b))] [.int s_26, .ref (a b)]) hf (fun s_26 hf => ?_) (fun j100 hj100 hf => ?_)
          · obtain ⟨h_27, hf⟩ := gz_e hf
            refine J_put (ws' := wM E a b m_newMany_3 s_10 s_16 s_22 s_26 m_brooks m_readRow m_rowNow m_frogOn m_frogs m_kindOf m_moved m_movedFrom m_movedTo m_pageLength m_page m_faultAt_1 m_isWhole_2 m_newMany_3 m_newSigns_4 m_newRow_5 m_long0 m_row m_far m_ways m_queue m_queueEnd m_endMany m_endSoon m_won m_seedNow m_isKept m_keptBrook m_keptMoved m_keptRow m_keptFrog m_keptFrom m_keptTo m_h) (ty := .boolean) (v := .int s_26) hB inX8 tyX8 tyX8_ok nmX8 0 rfl rfl 4 (Nat.le_of_ble_eq_true rfl) kf_X8_105 rfl rfl (nar_z h_27) (fit_z h_27) (Nat.le_of_ble_eq_true rfl) dX8_brook_100 rfl ?_
            refine J_aload_n hB dX8_brook_103 rfl 0 rfl ?_
            refine J_iconst (v := 0) hB dX8_brook_104 rfl ?_
            refine J_put (ws' := wM E a b m_newMany_3 s_10 s_16 s_22 s_26 m_brooks m_readRow m_rowNow m_frogOn 0 m_kindOf m_moved m_movedFrom m_movedTo m_pageLength m_page m_faultAt_1 m_isWhole_2 m_newMany_3 m_newSigns_4 m_newRow_5 m_long0 m_row m_far m_ways m_queue m_queueEnd m_endMany m_endSoon m_won m_seedNow m_isKept m_keptBrook m_keptMoved m_keptRow m_keptFrog m_keptFrom m_keptTo m_h) (ty := .int) (v := .int 0) hB inX8 tyX8 tyX8_ok nmX8 0 rfl rfl 9 (Nat.le_of_ble_eq_true rfl) kf_X8_108 rfl rfl rfl rfl (Nat.le_of_ble_eq_true rfl) dX8_brook_105 rfl ?_
            refine J_iconst (v := 0) hB dX8_brook_108 rfl ?_
            refine J_istore_n (lv' := [(1, .int 0), (0, .ref (a b))]) hB rfl dX8_brook_109 rfl (Nat.le_of_ble_eq_true rfl) rfl ?_
            refine J_lv [1, 0] rfl ?_
            refine lp6_5_J (P := fun x1_28 m_readRow_29 m_rowNow_30 m_frogOn_31 m_frogs_32 m_kindOf_33 => J l E rX8_brook Y (wM E a b m_newMany_3 s_10 s_16 s_22 s_26 m_brooks m_readRow_29 m_rowNow_30 m_frogOn_31 m_frogs_32 m_kindOf_33 m_moved m_movedFrom m_movedTo m_pageLength m_page m_faultAt_1 m_isWhole_2 m_newMany_3 m_newSigns_4 m_newRow_5 m_long0 m_row m_far m_ways m_queue m_queueEnd m_endMany m_endSoon m_won m_seedNow m_isKept m_keptBrook m_keptMoved m_keptRow m_keptFrog m_keptFrom m_keptTo m_h) 110 [(0, .ref (a b)), (1, .int x1_28)] []) (Q := fun m_readRow_34 m_rowNow_35 m_frogOn_36 m_frogs_37 m_kindOf_38 => J l E rX8_brook Y (wM E a b m_newMany_3 s_10 s_16 s_22 s_26 m_brooks m_readRow_34 m_rowNow_35 m_frogOn_36 m_frogs_37 m_kindOf_38 m_moved m_movedFrom m_movedTo m_pageLength m_page m_faultAt_1 m_isWhole_2 m_newMany_3 m_newSigns_4 m_newRow_5 m_long0 m_row m_far m_ways m_queue m_queueEnd m_endMany m_endSoon m_won m_seedNow m_isKept m_keptBrook m_keptMoved m_keptRow m_keptFrog m_keptFrom m_keptTo m_h) 199 [(0, .ref (a b))] []) (fun x1_28 m_readRow_29 m_rowNow_30 m_frogOn_31 m_frogs_32 m_kindOf_33 nx110 ex110 hnx110 hex110 hf => ?_) (fun m_readRow_34 m_rowNow_35 m_frogOn_36 m_frogs_37 m_kindOf_38 hf => ?_) hf
            · refine J_iload_n hB dX8_brook_110 rfl 1 rfl ?_
              refine J_aload_n hB dX8_brook_111 rfl 0 rfl ?_
              refine J_get (v := .int m_newMany_3) hB inX8 0 rfl rfl 0 (Nat.le_of_ble_eq_true rfl) kf_X8_93 rfl dX8_brook_112 ?_
              refine J_icmp_ge (tgt := 199) hB dX8_brook_115 rfl (fun c_39 => ?_) (fun c_39 => ?_)
              · have hf := it_t c_39 hf
                exact J_lv [0] rfl (hex110 m_readRow_29 m_rowNow_30 m_frogOn_31 m_frogs_32 m_kindOf_33 hf)
              · have hf := it_f c_39 hf
                refine J_aload_n hB dX8_brook_118 rfl 0 rfl ?_
                refine J_get (v := .ref (a (b + 1))) hB inX8 0 rfl rfl 6 (Nat.le_of_ble_eq_true rfl) kf_X8_7 rfl dX8_brook_119 ?_
                refine J_iload_n hB dX8_brook_122 rfl 1 rfl ?_
                refine J_aload_n hB dX8_brook_123 rfl 0 rfl ?_
                refine J_get (v := .ref (a (b + 8))) hB inX8 0 rfl rfl 20 (Nat.le_of_ble_eq_true rfl) kf_X8_32 rfl dX8_brook_124 ?_
                refine J_iload_n hB dX8_brook_127 rfl 1 rfl ?_
                obtain ⟨v_40, ev_40, h_41, hf⟩ := ald_e hf
                refine J_iald hB 8 rfl ev_40 h_41 dX8_brook_128 ?_
                obtain ⟨m_readRow_42, em_readRow_42, h_43, hf⟩ := astI_e hf
                refine J_iast (ws' := wM E a b m_newMany_3 s_10 s_16 s_22 s_26 m_brooks m_readRow_42 m_rowNow_30 m_frogOn_31 m_frogs_32 m_kindOf_33 m_moved m_movedFrom m_movedTo m_pageLength m_page m_faultAt_1 m_isWhole_2 m_newMany_3 m_newSigns_4 m_newRow_5 m_long0 m_row m_far m_ways m_queue m_queueEnd m_endMany m_endSoon m_won m_seedNow m_isKept m_keptBrook m_keptMoved m_keptRow m_keptFrog m_keptFrom m_keptTo m_h) hB 1 rfl em_readRow_42 h_43 dX8_brook_129 rfl ?_
                refine J_aload_n hB dX8_brook_130 rfl 0 rfl ?_
                refine J_get (v := .ref (a (b + 2))) hB inX8 0 rfl rfl 7 (Nat.le_of_ble_eq_true rfl) kf_X8_13 rfl dX8_brook_131 ?_
                refine J_iload_n hB dX8_brook_134 rfl 1 rfl ?_
                refine J_aload_n hB dX8_brook_135 rfl 0 rfl ?_
                refine J_get (v := .ref (a (b + 8))) hB inX8 0 rfl rfl 20 (Nat.le_of_ble_eq_true rfl) kf_X8_32 rfl dX8_brook_136 ?_
                refine J_iload_n hB dX8_brook_139 rfl 1 rfl ?_
                obtain ⟨v_44, ev_44, h_45, hf⟩ := ald_e hf
                refine J_iald hB 8 rfl ev_44 h_45 dX8_brook_140 ?_
                obtain ⟨m_rowNow_46, em_rowNow_46, h_47, hf⟩ := astI_e hf
                refine J_iast (ws' := wM E a b m_newMany_3 s_10 s_16 s_22 s_26 m_brooks m_readRow_42 m_rowNow_46 m_frogOn_31 m_frogs_32 m_kindOf_33 m_moved m_movedFrom m_movedTo m_pageLength m_page m_faultAt_1 m_isWhole_2 m_newMany_3 m_newSigns_4 m_newRow_5 m_long0 m_row m_far m_ways m_queue m_queueEnd m_endMany m_endSoon m_won m_seedNow m_isKept m_keptBrook m_keptMoved m_keptRow m_keptFrog m_keptFrom m_keptTo m_h) hB 2 rfl em_rowNow_46 h_47 dX8_brook_141 rfl ?_
                refine J_aload_n hB dX8_brook_142 rfl 0 rfl ?_
                refine J_get (v := .ref (a (b + 3))) hB inX8 0 rfl rfl 8 (Nat.le_of_ble_eq_true rfl) kf_X8_16 rfl dX8_brook_143 ?_
                refine J_iload_n hB dX8_brook_146 rfl 1 rfl ?_
                refine J_iconst (v := (-1)) hB dX8_brook_147 rfl ?_
                obtain ⟨m_frogOn_48, em_frogOn_48, h_49, hf⟩ := astI_e hf
                refine J_iast (ws' := wM E a b m_newMany_3 s_10 s_16 s_22 s_26 m_brooks m_readRow_42 m_rowNow_46 m_frogOn_48 m_frogs_32 m_kindOf_33 m_moved m_movedFrom m_movedTo m_pageLength m_page m_faultAt_1 m_isWhole_2 m_newMany_3 m_newSigns_4 m_newRow_5 m_long0 m_row m_far m_ways m_queue m_queueEnd m_endMany m_endSoon m_won m_seedNow m_isKept m_keptBrook m_keptMoved m_keptRow m_keptFrog m_keptFrom m_keptTo m_h) hB 3 rfl em_frogOn_48 h_49 dX8_brook_148 rfl ?_
                refine J_aload_n hB dX8_brook_149 rfl 0 rfl ?_
                refine J_get (v := .ref (a (b + 8))) hB inX8 0 rfl rfl 20 (Nat.le_of_ble_eq_true rfl) kf_X8_32 rfl dX8_brook_150 ?_
                refine J_iload_n hB dX8_brook_153 rfl 1 rfl ?_
                obtain ⟨v_50, ev_50, h_51, hf⟩ := ald_e hf
                refine J_iald hB 8 rfl ev_50 h_51 dX8_brook_154 ?_
                refine jn3_e (P := fun m_frogOn_52 m_frogs_53 m_kindOf_54 => J l E rX8_brook Y (wM E a b m_newMany_3 s_10 s_16 s_22 s_26 m_brooks m_readRow_42 m_rowNow_46 m_frogOn_52 m_frogs_53 m_kindOf_54 m_moved m_movedFrom m_movedTo m_pageLength m_page m_faultAt_1 m_isWhole_2 m_newMany_3 m_newSigns_4 m_newRow_5 m_long0 m_row m_far m_ways m_queue m_queueEnd m_endMany m_endSoon m_won m_seedNow m_isKept m_keptBrook m_keptMoved m_keptRow m_keptFrog m_keptFrom m_keptTo m_h) 193 [(0, .ref (a b)), (1, .int x1_28)] []) hf (fun m_frogOn_52 m_frogs_53 m_kindOf_54 hf => ?_) (fun j193 hj193 hf => ?_)
                · obtain ⟨x1_55, ex1_55, hf⟩ := nmv_e hf
                  refine J_iinc (lv' := [(1, .int x1_55), (0, .ref (a b))]) hB ex1_55 dX8_brook_193 1 rfl (Nat.le_of_ble_eq_true rfl) rfl ?_
                  refine J_goto (tgt := 110) hB dX8_brook_196 rfl ?_
                  exact J_lv [1, 0] rfl (hnx110 x1_55 m_readRow_42 m_rowNow_46 m_frogOn_52 m_frogs_53 m_kindOf_54 hf)
                · refine J_if_le (tgt := 193) hB dX8_brook_155 rfl (fun c_56 => ?_) (fun c_56 => ?_)
                  · have hf := it_t c_56 hf
                    exact J_lv [0, 1] rfl (hj193 m_frogOn_48 m_frogs_32 m_kindOf_33 hf)
                  · have hf := it_f c_56 hf
                    refine J_aload_n hB dX8_brook_158 rfl 0 rfl ?_
                    refine J_get (v := .ref (a (b + 4))) hB inX8 0 rfl rfl 10 (Nat.le_of_ble_eq_true rfl) kf_X8_19 rfl dX8_brook_159 ?_
                    refine J_aload_n hB dX8_brook_162 rfl 0 rfl ?_
                    refine J_get (v := .int m_frogs_32) hB inX8 0 rfl rfl 9 (Nat.le_of_ble_eq_true rfl) kf_X8_108 rfl dX8_brook_163 ?_
                    refine J_aload_n hB dX8_brook_166 rfl 0 rfl ?_
                    refine J_get (v := .ref (a (b + 8))) hB inX8 0 rfl rfl 20 (Nat.le_of_ble_eq_true rfl) kf_X8_32 rfl dX8_brook_167 ?_
                    refine J_iload_n hB dX8_brook_170 rfl 1 rfl ?_
                    obtain ⟨v_57, ev_57, h_58, hf⟩ := ald_e hf
                    refine J_iald hB 8 rfl ev_57 h_58 dX8_brook_171 ?_
                    obtain ⟨m_kindOf_59, em_kindOf_59, h_60, hf⟩ := astI_e hf
                    refine J_iast (ws' := wM E a b m_newMany_3 s_10 s_16 s_22 s_26 m_brooks m_readRow_42 m_rowNow_46 m_frogOn_48 m_frogs_32 m_kindOf_59 m_moved m_movedFrom m_movedTo m_pageLength m_page m_faultAt_1 m_isWhole_2 m_newMany_3 m_newSigns_4 m_newRow_5 m_long0 m_row m_far m_ways m_queue m_queueEnd m_endMany m_endSoon m_won m_seedNow m_isKept m_keptBrook m_keptMoved m_keptRow m_keptFrog m_keptFrom m_keptTo m_h) hB 4 rfl em_kindOf_59 h_60 dX8_brook_172 rfl ?_
                    refine J_aload_n hB dX8_brook_173 rfl 0 rfl ?_
                    refine J_get (v := .ref (a (b + 3))) hB inX8 0 rfl rfl 8 (Nat.le_of_ble_eq_true rfl) kf_X8_16 rfl dX8_brook_174 ?_
                    refine J_iload_n hB dX8_brook_177 rfl 1 rfl ?_
                    refine J_aload_n hB dX8_brook_178 rfl 0 rfl ?_
                    refine J_get (v := .int m_frogs_32) hB inX8 0 rfl rfl 9 (Nat.le_of_ble_eq_true rfl) kf_X8_108 rfl dX8_brook_179 ?_
                    obtain ⟨m_frogOn_61, em_frogOn_61, h_62, hf⟩ := astI_e hf
                    refine J_iast (ws' := wM E a b m_newMany_3 s_10 s_16 s_22 s_26 m_brooks m_readRow_42 m_rowNow_46 m_frogOn_61 m_frogs_32 m_kindOf_59 m_moved m_movedFrom m_movedTo m_pageLength m_page m_faultAt_1 m_isWhole_2 m_newMany_3 m_newSigns_4 m_newRow_5 m_long0 m_row m_far m_ways m_queue m_queueEnd m_endMany m_endSoon m_won m_seedNow m_isKept m_keptBrook m_keptMoved m_keptRow m_keptFrog m_keptFrom m_keptTo m_h) hB 3 rfl em_frogOn_61 h_62 dX8_brook_182 rfl ?_
                    refine J_aload_n hB dX8_brook_183 rfl 0 rfl ?_
                    refine J_dup hB dX8_brook_184 rfl ?_
                    refine J_get (v := .int m_frogs_32) hB inX8 0 rfl rfl 9 (Nat.le_of_ble_eq_true rfl) kf_X8_108 rfl dX8_brook_185 ?_
                    refine J_iconst (v := 1) hB dX8_brook_188 rfl ?_
                    refine J_iadd hB dX8_brook_189 ?_
                    obtain ⟨m_frogs_63, em_frogs_63, hf⟩ := nmv_e hf
                    rw [← em_frogs_63]
                    refine J_put (ws' := wM E a b m_newMany_3 s_10 s_16 s_22 s_26 m_brooks m_readRow_42 m_rowNow_46 m_frogOn_61 m_frogs_63 m_kindOf_59 m_moved m_movedFrom m_movedTo m_pageLength m_page m_faultAt_1 m_isWhole_2 m_newMany_3 m_newSigns_4 m_newRow_5 m_long0 m_row m_far m_ways m_queue m_queueEnd m_endMany m_endSoon m_won m_seedNow m_isKept m_keptBrook m_keptMoved m_keptRow m_keptFrog m_keptFrom m_keptTo m_h) (ty := .int) (v := .int m_frogs_63) hB inX8 tyX8 tyX8_ok nmX8 0 rfl rfl 9 (Nat.le_of_ble_eq_true rfl) kf_X8_108 rfl rfl rfl rfl (Nat.le_of_ble_eq_true rfl) dX8_brook_190 rfl ?_
                    exact J_lv [0, 1] rfl (hj193 m_frogOn_61 m_frogs_63 m_kindOf_59 hf)
            · refine J_aload_n hB dX8_brook_199 rfl 0 rfl ?_
              refine J_iconst (v := 0) hB dX8_brook_200 rfl ?_
              refine J_put (ws' := wM E a b m_newMany_3 s_10 s_16 s_22 s_26 m_brooks m_readRow_34 m_rowNow_35 m_frogOn_36 m_frogs_37 m_kindOf_38 0 m_movedFrom m_movedTo m_pageLength m_page m_faultAt_1 m_isWhole_2 m_newMany_3 m_newSigns_4 m_newRow_5 m_long0 m_row m_far m_ways m_queue m_queueEnd m_endMany m_endSoon m_won m_seedNow m_isKept m_keptBrook m_keptMoved m_keptRow m_keptFrog m_keptFrom m_keptTo m_h) (ty := .int) (v := .int 0) hB inX8 tyX8 tyX8_ok nmX8 0 rfl rfl 11 (Nat.le_of_ble_eq_true rfl) kf_X8_111 rfl rfl rfl rfl (Nat.le_of_ble_eq_true rfl) dX8_brook_201 rfl ?_
              refine J_aload_n hB dX8_brook_204 rfl 0 rfl ?_
              refine J_dup hB dX8_brook_205 rfl ?_
              refine J_get (v := .int m_brooks) hB inX8 0 rfl rfl 5 (Nat.le_of_ble_eq_true rfl) kf_X8_114 rfl dX8_brook_206 ?_
              refine J_iconst (v := 1) hB dX8_brook_209 rfl ?_
              refine J_iadd hB dX8_brook_210 ?_
              obtain ⟨m_brooks_64, em_brooks_64, hf⟩ := nmv_e hf
              rw [← em_brooks_64]
              refine J_put (ws' := wM E a b m_newMany_3 s_10 s_16 s_22 s_26 m_brooks_64 m_readRow_34 m_rowNow_35 m_frogOn_36 m_frogs_37 m_kindOf_38 0 m_movedFrom m_movedTo m_pageLength m_page m_faultAt_1 m_isWhole_2 m_newMany_3 m_newSigns_4 m_newRow_5 m_long0 m_row m_far m_ways m_queue m_queueEnd m_endMany m_endSoon m_won m_seedNow m_isKept m_keptBrook m_keptMoved m_keptRow m_keptFrog m_keptFrom m_keptTo m_h) (ty := .int) (v := .int m_brooks_64) hB inX8 tyX8 tyX8_ok nmX8 0 rfl rfl 5 (Nat.le_of_ble_eq_true rfl) kf_X8_114 rfl rfl rfl rfl (Nat.le_of_ble_eq_true rfl) dX8_brook_211 rfl ?_
              refine J_aload_n hB dX8_brook_214 rfl 0 rfl ?_
              refine J_iconst (v := 0) hB dX8_brook_215 rfl ?_
              refine J_put (ws' := wM E a b m_newMany_3 s_10 s_16 s_22 s_26 m_brooks_64 m_readRow_34 m_rowNow_35 m_frogOn_36 m_frogs_37 m_kindOf_38 0 m_movedFrom m_movedTo 0 m_page m_faultAt_1 m_isWhole_2 m_newMany_3 m_newSigns_4 m_newRow_5 m_long0 m_row m_far m_ways m_queue m_queueEnd m_endMany m_endSoon m_won m_seedNow m_isKept m_keptBrook m_keptMoved m_keptRow m_keptFrog m_keptFrom m_keptTo m_h) (ty := .int) (v := .int 0) hB inX8 tyX8 tyX8_ok nmX8 0 rfl rfl 14 (Nat.le_of_ble_eq_true rfl) kf_X8_66 rfl rfl rfl rfl (Nat.le_of_ble_eq_true rfl) dX8_brook_216 rfl ?_
              refine J_aload_n hB dX8_brook_219 rfl 0 rfl ?_
              refine J_get (v := .int m_newMany_3) hB inX8 0 rfl rfl 0 (Nat.le_of_ble_eq_true rfl) kf_X8_93 rfl dX8_brook_220 ?_
              obtain rfl := Option.some.inj hf
              exact J_iret hB hR dX8_brook_223
          · refine J_icmp_ne (tgt := 99) hB dX8_brook_92 rfl (fun c_65 => ?_) (fun c_65 => ?_)
            · have hf := it_f c_65 hf
              refine J_iconst (v := 0) hB dX8_brook_99 rfl ?_
              exact J_lv [0] rfl (hj100 0 hf)
            · have hf := it_t c_65 hf
              refine J_iconst (v := 1) hB dX8_brook_95 rfl ?_
              refine J_goto (tgt := 100) hB dX8_brook_96 rfl ?_
              exact J_lv [0] rfl (hj100 1 hf)
        · refine J_icmp_ne (tgt := 79) hB dX8_brook_72 rfl (fun c_66 => ?_) (fun c_66 => ?_)
          · have hf := it_f c_66 hf
            refine J_iconst (v := 0) hB dX8_brook_79 rfl ?_
            exact J_lv [0] rfl (hj80 0 hf)
          · have hf := it_t c_66 hf
            refine J_iconst (v := 1) hB dX8_brook_75 rfl ?_
            refine J_goto (tgt := 80) hB dX8_brook_76 rfl ?_
            exact J_lv [0] rfl (hj80 1 hf)
      · refine J_icmp_ne (tgt := 58) hB dX8_brook_51 rfl (fun c_67 => ?_) (fun c_67 => ?_)
        · have hf := it_f c_67 hf
          refine J_iconst (v := 0) hB dX8_brook_58 rfl ?_
          exact J_lv [0] rfl (hj59 0 hf)
        · have hf := it_t c_67 hf
          refine J_iconst (v := 1) hB dX8_brook_54 rfl ?_
          refine J_goto (tgt := 59) hB dX8_brook_55 rfl ?_
          exact J_lv [0] rfl (hj59 1 hf)
    · refine J_icmp_ne (tgt := 37) hB dX8_brook_30 rfl (fun c_68 => ?_) (fun c_68 => ?_)
      · have hf := it_f c_68 hf
        refine J_iconst (v := 0) hB dX8_brook_37 rfl ?_
        exact J_lv [0] rfl (hj38 0 hf)
      · have hf := it_t c_68 hf
        refine J_iconst (v := 1) hB dX8_brook_33 rfl ?_
        refine J_goto (tgt := 38) hB dX8_brook_34 rfl ?_
        exact J_lv [0] rfl (hj38 1 hf)
  · have hf := it_t c_7 hf
    refine J_bipush (v := (-103)) hB dX8_brook_11 rfl ?_
    obtain rfl := Option.some.inj hf
    exact J_iret hB hR dX8_brook_13
def f_X8_isStone (m_stones : Int32) (p0 : Int32) : Option (Int32) :=
cl1 (f_X8_within p0 0 (m_stones - (1 : Int32))) fun r_1 =>
gz r_1 fun _ =>
some r_1
abbrev rX8_isStone : Room := { frames := 1, cells := 0, slots := 0, locals := 22 }
set_option maxRecDepth 100000 in
set_option maxHeartbeats 4000000 in
theorem c_X8_isStone (l : Launch) (E : En) (a : Nat → Nat) (b : Nat) (m_stones : Int32) (m_any : Int32) (m_backward : Int32) (m_ring : Int32) (m_two : Int32) (m_brooks : Int32) (m_readRow : Nat → Int32) (m_rowNow : Nat → Int32) (m_frogOn : Nat → Int32) (m_frogs : Int32) (m_kindOf : Nat → Int32) (m_moved : Int32) (m_movedFrom : Nat → Int32) (m_movedTo : Nat → Int32) (m_pageLength : Int32) (m_page : Nat → Int32) (m_faultAt : Int32) (m_isWhole : Int32) (m_newMany : Int32) (m_newSigns : Int32) (m_newRow : Nat → Int32) (m_long0 : Int32) (m_row : Nat → Int32) (m_far : Nat → Int32) (m_ways : Nat → Int64) (m_queue : Nat → Int32) (m_queueEnd : Int32) (m_endMany : Int32) (m_endSoon : Int32) (m_won : Nat → Int32) (m_seedNow : Int64) (m_isKept : Int32) (m_keptBrook : Int32) (m_keptMoved : Int32) (m_keptRow : Nat → Int32) (m_keptFrog : Nat → Int32) (m_keptFrom : Nat → Int32) (m_keptTo : Nat → Int32) (m_h : Int64) {p0 : Int32} {res : Int32} (hf : f_X8_isStone m_stones p0 = some res) : Ct l yX8_isStone (.code yX8_isStone cX8_isStone 2 (some .boolean)) rX8_isStone E [.ref (a b), .int p0] (wM E a b m_stones m_any m_backward m_ring m_two m_brooks m_readRow m_rowNow m_frogOn m_frogs m_kindOf m_moved m_movedFrom m_movedTo m_pageLength m_page m_faultAt m_isWhole m_newMany m_newSigns m_newRow m_long0 m_row m_far m_ways m_queue m_queueEnd m_endMany m_endSoon m_won m_seedNow m_isKept m_keptBrook m_keptMoved m_keptRow m_keptFrog m_keptFrom m_keptTo m_h) (some (.int res)) (wM E a b m_stones m_any m_backward m_ring m_two m_brooks m_readRow m_rowNow m_frogOn m_frogs m_kindOf m_moved m_movedFrom m_movedTo m_pageLength m_page m_faultAt m_isWhole m_newMany m_newSigns m_newRow m_long0 m_row m_far m_ways m_queue m_queueEnd m_endMany m_endSoon m_won m_seedNow m_isKept m_keptBrook m_keptMoved m_keptRow m_keptFrog m_keptFrom m_keptTo m_h) := by
  refine Ct.of (by decide) (Nat.le_of_ble_eq_true rfl) (fun Y hB hR => ?_)
  have hB : Cb E cX8_isStone RX8 rX8_isStone 2 Y := hB
  show J l E rX8_isStone Y (wM E a b m_stones m_any m_backward m_ring m_two m_brooks m_readRow m_rowNow m_frogOn m_frogs m_kindOf m_moved m_movedFrom m_movedTo m_pageLength m_page m_faultAt m_isWhole m_newMany m_newSigns m_newRow m_long0 m_row m_far m_ways m_queue m_queueEnd m_endMany m_endSoon m_won m_seedNow m_isKept m_keptBrook m_keptMoved m_keptRow m_keptFrog m_keptFrom m_keptTo m_h) 0 [(0, .ref (a b)), (1, .int p0)] []
  unfold f_X8_isStone at hf
  refine J_iload_n hB dX8_isStone_0 rfl 1 rfl ?_
  refine J_iconst (v := 0) hB dX8_isStone_1 rfl ?_
  refine J_aload_n hB dX8_isStone_2 rfl 0 rfl ?_
  refine J_get (v := .int m_stones) hB inX8 0 rfl rfl 0 (Nat.le_of_ble_eq_true rfl) kf_X8_93 rfl dX8_isStone_3 ?_
  refine J_iconst (v := 1) hB dX8_isStone_6 rfl ?_
  refine J_isub hB dX8_isStone_7 ?_
  obtain ⟨r_1, h_2, hf⟩ := cl1_e hf
  refine J_callS (As := [.int p0, .int 0, .int (m_stones - (1 : Int32))]) (rest := []) (n := 3) (ws' := wM E a b m_stones m_any m_backward m_ring m_two m_brooks m_readRow m_rowNow m_frogOn m_frogs m_kindOf m_moved m_movedFrom m_movedTo m_pageLength m_page m_faultAt m_isWhole m_newMany m_newSigns m_newRow m_long0 m_row m_far m_ways m_queue m_queueEnd m_endMany m_endSoon m_won m_seedNow m_isKept m_keptBrook m_keptMoved m_keptRow m_keptFrog m_keptFrom m_keptTo m_h) hB (c_X8_within l E a h_2) mi_X8_within ks_X8_within km_X8_117 ⟨rfl, rfl, Nat.le_of_ble_eq_true rfl, Nat.le_of_ble_eq_true rfl⟩ Lies.none rfl rfl (Nat.le_of_ble_eq_true rfl) dX8_isStone_8 ?_
  show J l E rX8_isStone Y (wM E a b m_stones m_any m_backward m_ring m_two m_brooks m_readRow m_rowNow m_frogOn m_frogs m_kindOf m_moved m_movedFrom m_movedTo m_pageLength m_page m_faultAt m_isWhole m_newMany m_newSigns m_newRow m_long0 m_row m_far m_ways m_queue m_queueEnd m_endMany m_endSoon m_won m_seedNow m_isKept m_keptBrook m_keptMoved m_keptRow m_keptFrog m_keptFrom m_keptTo m_h) 11 [(0, .ref (a b)), (1, .int p0)] [.int r_1]
  obtain ⟨h_3, hf⟩ := gz_e hf
  obtain rfl := Option.some.inj hf
  exact J_zret hB hR h_3 dX8_isStone_11
def f_X8_on (m_stones : Int32) (m_rowNow : Nat → Int32) (p0 : Int32) : Option (Int32) :=
cl1 (f_X8_isStone m_stones p0) fun r_1 =>
if r_1 = 0 then (
some ((-101))) else (
ald 7 m_rowNow p0 fun v_4 =>
if v_4 = 0 then (
some ((-1))) else (
ald 7 m_rowNow p0 fun v_7 =>
some v_7))
abbrev rX8_on : Room := { frames := 2, cells := 0, slots := 0, locals := 43 }
set_option maxRecDepth 100000 in
set_option maxHeartbeats 4000000 in
theorem c_X8_on (l : Launch) (E : En) (a : Nat → Nat) (b : Nat) (m_stones : Int32) (m_any : Int32) (m_backward : Int32) (m_ring : Int32) (m_two : Int32) (m_brooks : Int32) (m_readRow : Nat → Int32) (m_rowNow : Nat → Int32) (m_frogOn : Nat → Int32) (m_frogs : Int32) (m_kindOf : Nat → Int32) (m_moved : Int32) (m_movedFrom : Nat → Int32) (m_movedTo : Nat → Int32) (m_pageLength : Int32) (m_page : Nat → Int32) (m_faultAt : Int32) (m_isWhole : Int32) (m_newMany : Int32) (m_newSigns : Int32) (m_newRow : Nat → Int32) (m_long0 : Int32) (m_row : Nat → Int32) (m_far : Nat → Int32) (m_ways : Nat → Int64) (m_queue : Nat → Int32) (m_queueEnd : Int32) (m_endMany : Int32) (m_endSoon : Int32) (m_won : Nat → Int32) (m_seedNow : Int64) (m_isKept : Int32) (m_keptBrook : Int32) (m_keptMoved : Int32) (m_keptRow : Nat → Int32) (m_keptFrog : Nat → Int32) (m_keptFrom : Nat → Int32) (m_keptTo : Nat → Int32) (m_h : Int64) {p0 : Int32} {res : Int32} (hf : f_X8_on m_stones m_rowNow p0 = some res) : Ct l yX8_on (.code yX8_on cX8_on 2 (some .int)) rX8_on E [.ref (a b), .int p0] (wM E a b m_stones m_any m_backward m_ring m_two m_brooks m_readRow m_rowNow m_frogOn m_frogs m_kindOf m_moved m_movedFrom m_movedTo m_pageLength m_page m_faultAt m_isWhole m_newMany m_newSigns m_newRow m_long0 m_row m_far m_ways m_queue m_queueEnd m_endMany m_endSoon m_won m_seedNow m_isKept m_keptBrook m_keptMoved m_keptRow m_keptFrog m_keptFrom m_keptTo m_h) (some (.int res)) (wM E a b m_stones m_any m_backward m_ring m_two m_brooks m_readRow m_rowNow m_frogOn m_frogs m_kindOf m_moved m_movedFrom m_movedTo m_pageLength m_page m_faultAt m_isWhole m_newMany m_newSigns m_newRow m_long0 m_row m_far m_ways m_queue m_queueEnd m_endMany m_endSoon m_won m_seedNow m_isKept m_keptBrook m_keptMoved m_keptRow m_keptFrog m_keptFrom m_keptTo m_h) := by
  refine Ct.of (by decide) (Nat.le_of_ble_eq_true rfl) (fun Y hB hR => ?_)
  have hB : Cb E cX8_on RX8 rX8_on 2 Y := hB
  show J l E rX8_on Y (wM E a b m_stones m_any m_backward m_ring m_two m_brooks m_readRow m_rowNow m_frogOn m_frogs m_kindOf m_moved m_movedFrom m_movedTo m_pageLength m_page m_faultAt m_isWhole m_newMany m_newSigns m_newRow m_long0 m_row m_far m_ways m_queue m_queueEnd m_endMany m_endSoon m_won m_seedNow m_isKept m_keptBrook m_keptMoved m_keptRow m_keptFrog m_keptFrom m_keptTo m_h) 0 [(0, .ref (a b)), (1, .int p0)] []
  unfold f_X8_on at hf
  refine J_aload_n hB dX8_on_0 rfl 0 rfl ?_
  refine J_iload_n hB dX8_on_1 rfl 1 rfl ?_
  obtain ⟨r_1, h_2, hf⟩ := cl1_e hf
  refine J_callV (As := [.int p0]) (rest := []) (n := 1) (ws' := wM E a b m_stones m_any m_backward m_ring m_two m_brooks m_readRow m_rowNow m_frogOn m_frogs m_kindOf m_moved m_movedFrom m_movedTo m_pageLength m_page m_faultAt m_isWhole m_newMany m_newSigns m_newRow m_long0 m_row m_far m_ways m_queue m_queueEnd m_endMany m_endSoon m_won m_seedNow m_isKept m_keptBrook m_keptMoved m_keptRow m_keptFrog m_keptFrom m_keptTo m_h) hB (c_X8_isStone l E a b m_stones m_any m_backward m_ring m_two m_brooks m_readRow m_rowNow m_frogOn m_frogs m_kindOf m_moved m_movedFrom m_movedTo m_pageLength m_page m_faultAt m_isWhole m_newMany m_newSigns m_newRow m_long0 m_row m_far m_ways m_queue m_queueEnd m_endMany m_endSoon m_won m_seedNow m_isKept m_keptBrook m_keptMoved m_keptRow m_keptFrog m_keptFrom m_keptTo m_h h_2) mi_X8_isStone ⟨ki_X8_isStone, kv_X8_isStone⟩ km_X8_121 ⟨rfl, rfl, Nat.le_of_ble_eq_true rfl, Nat.le_of_ble_eq_true rfl⟩ Lies.same 0 rfl rfl rfl rfl (Nat.le_of_ble_eq_true rfl) dX8_on_2 ?_
  show J l E rX8_on Y (wM E a b m_stones m_any m_backward m_ring m_two m_brooks m_readRow m_rowNow m_frogOn m_frogs m_kindOf m_moved m_movedFrom m_movedTo m_pageLength m_page m_faultAt m_isWhole m_newMany m_newSigns m_newRow m_long0 m_row m_far m_ways m_queue m_queueEnd m_endMany m_endSoon m_won m_seedNow m_isKept m_keptBrook m_keptMoved m_keptRow m_keptFrog m_keptFrom m_keptTo m_h) 5 [(0, .ref (a b)), (1, .int p0)] [.int r_1]
  refine J_if_ne (tgt := 13) hB dX8_on_5 rfl (fun c_3 => ?_) (fun c_3 => ?_)
  · have hf := it_f c_3 hf
    refine J_aload_n hB dX8_on_13 rfl 0 rfl ?_
    refine J_get (v := .ref (a (b + 2))) hB inX8 0 rfl rfl 7 (Nat.le_of_ble_eq_true rfl) kf_X8_13 rfl dX8_on_14 ?_
    refine J_iload_n hB dX8_on_17 rfl 1 rfl ?_
    obtain ⟨v_4, ev_4, h_5, hf⟩ := ald_e hf
    refine J_iald hB 2 rfl ev_4 h_5 dX8_on_18 ?_
    refine J_if_ne (tgt := 26) hB dX8_on_19 rfl (fun c_6 => ?_) (fun c_6 => ?_)
    · have hf := it_f c_6 hf
      refine J_aload_n hB dX8_on_26 rfl 0 rfl ?_
      refine J_get (v := .ref (a (b + 2))) hB inX8 0 rfl rfl 7 (Nat.le_of_ble_eq_true rfl) kf_X8_13 rfl dX8_on_27 ?_
      refine J_iload_n hB dX8_on_30 rfl 1 rfl ?_
      obtain ⟨v_7, ev_7, h_8, hf⟩ := ald_e hf
      refine J_iald hB 2 rfl ev_7 h_8 dX8_on_31 ?_
      obtain rfl := Option.some.inj hf
      exact J_iret hB hR dX8_on_32
    · have hf := it_t c_6 hf
      refine J_iconst (v := (-1)) hB dX8_on_22 rfl ?_
      refine J_goto (tgt := 32) hB dX8_on_23 rfl ?_
      obtain rfl := Option.some.inj hf
      exact J_iret hB hR dX8_on_32
  · have hf := it_t c_3 hf
    refine J_bipush (v := (-101)) hB dX8_on_8 rfl ?_
    refine J_goto (tgt := 32) hB dX8_on_10 rfl ?_
    obtain rfl := Option.some.inj hf
    exact J_iret hB hR dX8_on_32
def f_X8_frog (m_stones : Int32) (m_frogOn : Nat → Int32) (p0 : Int32) : Option (Int32) :=
cl1 (f_X8_isStone m_stones p0) fun r_1 =>
if r_1 = 0 then (
some ((-101))) else (
ald 7 m_frogOn p0 fun v_4 =>
some v_4)
abbrev rX8_frog : Room := { frames := 2, cells := 0, slots := 0, locals := 43 }
set_option maxRecDepth 100000 in
set_option maxHeartbeats 4000000 in
theorem c_X8_frog (l : Launch) (E : En) (a : Nat → Nat) (b : Nat) (m_stones : Int32) (m_any : Int32) (m_backward : Int32) (m_ring : Int32) (m_two : Int32) (m_brooks : Int32) (m_readRow : Nat → Int32) (m_rowNow : Nat → Int32) (m_frogOn : Nat → Int32) (m_frogs : Int32) (m_kindOf : Nat → Int32) (m_moved : Int32) (m_movedFrom : Nat → Int32) (m_movedTo : Nat → Int32) (m_pageLength : Int32) (m_page : Nat → Int32) (m_faultAt : Int32) (m_isWhole : Int32) (m_newMany : Int32) (m_newSigns : Int32) (m_newRow : Nat → Int32) (m_long0 : Int32) (m_row : Nat → Int32) (m_far : Nat → Int32) (m_ways : Nat → Int64) (m_queue : Nat → Int32) (m_queueEnd : Int32) (m_endMany : Int32) (m_endSoon : Int32) (m_won : Nat → Int32) (m_seedNow : Int64) (m_isKept : Int32) (m_keptBrook : Int32) (m_keptMoved : Int32) (m_keptRow : Nat → Int32) (m_keptFrog : Nat → Int32) (m_keptFrom : Nat → Int32) (m_keptTo : Nat → Int32) (m_h : Int64) {p0 : Int32} {res : Int32} (hf : f_X8_frog m_stones m_frogOn p0 = some res) : Ct l yX8_frog (.code yX8_frog cX8_frog 2 (some .int)) rX8_frog E [.ref (a b), .int p0] (wM E a b m_stones m_any m_backward m_ring m_two m_brooks m_readRow m_rowNow m_frogOn m_frogs m_kindOf m_moved m_movedFrom m_movedTo m_pageLength m_page m_faultAt m_isWhole m_newMany m_newSigns m_newRow m_long0 m_row m_far m_ways m_queue m_queueEnd m_endMany m_endSoon m_won m_seedNow m_isKept m_keptBrook m_keptMoved m_keptRow m_keptFrog m_keptFrom m_keptTo m_h) (some (.int res)) (wM E a b m_stones m_any m_backward m_ring m_two m_brooks m_readRow m_rowNow m_frogOn m_frogs m_kindOf m_moved m_movedFrom m_movedTo m_pageLength m_page m_faultAt m_isWhole m_newMany m_newSigns m_newRow m_long0 m_row m_far m_ways m_queue m_queueEnd m_endMany m_endSoon m_won m_seedNow m_isKept m_keptBrook m_keptMoved m_keptRow m_keptFrog m_keptFrom m_keptTo m_h) := by
  refine Ct.of (by decide) (Nat.le_of_ble_eq_true rfl) (fun Y hB hR => ?_)
  have hB : Cb E cX8_frog RX8 rX8_frog 2 Y := hB
  show J l E rX8_frog Y (wM E a b m_stones m_any m_backward m_ring m_two m_brooks m_readRow m_rowNow m_frogOn m_frogs m_kindOf m_moved m_movedFrom m_movedTo m_pageLength m_page m_faultAt m_isWhole m_newMany m_newSigns m_newRow m_long0 m_row m_far m_ways m_queue m_queueEnd m_endMany m_endSoon m_won m_seedNow m_isKept m_keptBrook m_keptMoved m_keptRow m_keptFrog m_keptFrom m_keptTo m_h) 0 [(0, .ref (a b)), (1, .int p0)] []
  unfold f_X8_frog at hf
  refine J_aload_n hB dX8_frog_0 rfl 0 rfl ?_
  refine J_iload_n hB dX8_frog_1 rfl 1 rfl ?_
  obtain ⟨r_1, h_2, hf⟩ := cl1_e hf
  refine J_callV (As := [.int p0]) (rest := []) (n := 1) (ws' := wM E a b m_stones m_any m_backward m_ring m_two m_brooks m_readRow m_rowNow m_frogOn m_frogs m_kindOf m_moved m_movedFrom m_movedTo m_pageLength m_page m_faultAt m_isWhole m_newMany m_newSigns m_newRow m_long0 m_row m_far m_ways m_queue m_queueEnd m_endMany m_endSoon m_won m_seedNow m_isKept m_keptBrook m_keptMoved m_keptRow m_keptFrog m_keptFrom m_keptTo m_h) hB (c_X8_isStone l E a b m_stones m_any m_backward m_ring m_two m_brooks m_readRow m_rowNow m_frogOn m_frogs m_kindOf m_moved m_movedFrom m_movedTo m_pageLength m_page m_faultAt m_isWhole m_newMany m_newSigns m_newRow m_long0 m_row m_far m_ways m_queue m_queueEnd m_endMany m_endSoon m_won m_seedNow m_isKept m_keptBrook m_keptMoved m_keptRow m_keptFrog m_keptFrom m_keptTo m_h h_2) mi_X8_isStone ⟨ki_X8_isStone, kv_X8_isStone⟩ km_X8_121 ⟨rfl, rfl, Nat.le_of_ble_eq_true rfl, Nat.le_of_ble_eq_true rfl⟩ Lies.same 0 rfl rfl rfl rfl (Nat.le_of_ble_eq_true rfl) dX8_frog_2 ?_
  show J l E rX8_frog Y (wM E a b m_stones m_any m_backward m_ring m_two m_brooks m_readRow m_rowNow m_frogOn m_frogs m_kindOf m_moved m_movedFrom m_movedTo m_pageLength m_page m_faultAt m_isWhole m_newMany m_newSigns m_newRow m_long0 m_row m_far m_ways m_queue m_queueEnd m_endMany m_endSoon m_won m_seedNow m_isKept m_keptBrook m_keptMoved m_keptRow m_keptFrog m_keptFrom m_keptTo m_h) 5 [(0, .ref (a b)), (1, .int p0)] [.int r_1]
  refine J_if_eq (tgt := 17) hB dX8_frog_5 rfl (fun c_3 => ?_) (fun c_3 => ?_)
  · have hf := it_t c_3 hf
    refine J_bipush (v := (-101)) hB dX8_frog_17 rfl ?_
    obtain rfl := Option.some.inj hf
    exact J_iret hB hR dX8_frog_19
  · have hf := it_f c_3 hf
    refine J_aload_n hB dX8_frog_8 rfl 0 rfl ?_
    refine J_get (v := .ref (a (b + 3))) hB inX8 0 rfl rfl 8 (Nat.le_of_ble_eq_true rfl) kf_X8_16 rfl dX8_frog_9 ?_
    refine J_iload_n hB dX8_frog_12 rfl 1 rfl ?_
    obtain ⟨v_4, ev_4, h_5, hf⟩ := ald_e hf
    refine J_iald hB 3 rfl ev_4 h_5 dX8_frog_13 ?_
    refine J_goto (tgt := 19) hB dX8_frog_14 rfl ?_
    obtain rfl := Option.some.inj hf
    exact J_iret hB hR dX8_frog_19
def f_X8_stoneOf (m_frogOn : Nat → Int32) (p0 : Int32) : Option (Int32) :=
lp1_1 (fun (x2_1 : Int32) nx2 ex2 =>
ald 7 m_frogOn x2_1 fun v_3 =>
if v_3 = p0 then (
ex2 x2_1) else (
nmv (α := Int32) (x2_1 + 1) fun x2_6 =>
nx2 x2_6)) (fun (x2_2 : Int32) =>
some x2_2) fuel 0
abbrev rX8_stoneOf : Room := { frames := 0, cells := 0, slots := 0, locals := 0 }
set_option maxRecDepth 100000 in
set_option maxHeartbeats 4000000 in
theorem c_X8_stoneOf (l : Launch) (E : En) (a : Nat → Nat) (b : Nat) (m_stones : Int32) (m_any : Int32) (m_backward : Int32) (m_ring : Int32) (m_two : Int32) (m_brooks : Int32) (m_readRow : Nat → Int32) (m_rowNow : Nat → Int32) (m_frogOn : Nat → Int32) (m_frogs : Int32) (m_kindOf : Nat → Int32) (m_moved : Int32) (m_movedFrom : Nat → Int32) (m_movedTo : Nat → Int32) (m_pageLength : Int32) (m_page : Nat → Int32) (m_faultAt : Int32) (m_isWhole : Int32) (m_newMany : Int32) (m_newSigns : Int32) (m_newRow : Nat → Int32) (m_long0 : Int32) (m_row : Nat → Int32) (m_far : Nat → Int32) (m_ways : Nat → Int64) (m_queue : Nat → Int32) (m_queueEnd : Int32) (m_endMany : Int32) (m_endSoon : Int32) (m_won : Nat → Int32) (m_seedNow : Int64) (m_isKept : Int32) (m_keptBrook : Int32) (m_keptMoved : Int32) (m_keptRow : Nat → Int32) (m_keptFrog : Nat → Int32) (m_keptFrom : Nat → Int32) (m_keptTo : Nat → Int32) (m_h : Int64) {p0 : Int32} {res : Int32} (hf : f_X8_stoneOf m_frogOn p0 = some res) : Ct l yX8_stoneOf (.code yX8_stoneOf cX8_stoneOf 3 (some .int)) rX8_stoneOf E [.ref (a b), .int p0] (wM E a b m_stones m_any m_backward m_ring m_two m_brooks m_readRow m_rowNow m_frogOn m_frogs m_kindOf m_moved m_movedFrom m_movedTo m_pageLength m_page m_faultAt m_isWhole m_newMany m_newSigns m_newRow m_long0 m_row m_far m_ways m_queue m_queueEnd m_endMany m_endSoon m_won m_seedNow m_isKept m_keptBrook m_keptMoved m_keptRow m_keptFrog m_keptFrom m_keptTo m_h) (some (.int res)) (wM E a b m_stones m_any m_backward m_ring m_two m_brooks m_readRow m_rowNow m_frogOn m_frogs m_kindOf m_moved m_movedFrom m_movedTo m_pageLength m_page m_faultAt m_isWhole m_newMany m_newSigns m_newRow m_long0 m_row m_far m_ways m_queue m_queueEnd m_endMany m_endSoon m_won m_seedNow m_isKept m_keptBrook m_keptMoved m_keptRow m_keptFrog m_keptFrom m_keptTo m_h) := by
  refine Ct.of (by decide) (Nat.le_of_ble_eq_true rfl) (fun Y hB hR => ?_)
  have hB : Cb E cX8_stoneOf RX8 rX8_stoneOf 3 Y := hB
  show J l E rX8_stoneOf Y (wM E a b m_stones m_any m_backward m_ring m_two m_brooks m_readRow m_rowNow m_frogOn m_frogs m_kindOf m_moved m_movedFrom m_movedTo m_pageLength m_page m_faultAt m_isWhole m_newMany m_newSigns m_newRow m_long0 m_row m_far m_ways m_queue m_queueEnd m_endMany m_endSoon m_won m_seedNow m_isKept m_keptBrook m_keptMoved m_keptRow m_keptFrog m_keptFrom m_keptTo m_h) 0 [(0, .ref (a b)), (1, .int p0)] []
  unfold f_X8_stoneOf at hf
  refine J_iconst (v := 0) hB dX8_stoneOf_0 rfl ?_
  refine J_istore_n (lv' := [(2, .int 0), (0, .ref (a b)), (1, .int p0)]) hB rfl dX8_stoneOf_1 rfl (Nat.le_of_ble_eq_true rfl) rfl ?_
  refine J_lv [1, 2, 0] rfl ?_
  refine lp1_1_J (P := fun x2_1 => J l E rX8_stoneOf Y (wM E a b m_stones m_any m_backward m_ring m_two m_brooks m_readRow m_rowNow m_frogOn m_frogs m_kindOf m_moved m_movedFrom m_movedTo m_pageLength m_page m_faultAt m_isWhole m_newMany m_newSigns m_newRow m_long0 m_row m_far m_ways m_queue m_queueEnd m_endMany m_endSoon m_won m_seedNow m_isKept m_keptBrook m_keptMoved m_keptRow m_keptFrog m_keptFrom m_keptTo m_h) 2 [(0, .ref (a b)), (1, .int p0), (2, .int x2_1)] []) (Q := fun x2_2 => J l E rX8_stoneOf Y (wM E a b m_stones m_any m_backward m_ring m_two m_brooks m_readRow m_rowNow m_frogOn m_frogs m_kindOf m_moved m_movedFrom m_movedTo m_pageLength m_page m_faultAt m_isWhole m_newMany m_newSigns m_newRow m_long0 m_row m_far m_ways m_queue m_queueEnd m_endMany m_endSoon m_won m_seedNow m_isKept m_keptBrook m_keptMoved m_keptRow m_keptFrog m_keptFrom m_keptTo m_h) 18 [(2, .int x2_2)] []) (fun x2_1 nx2 ex2 hnx2 hex2 hf => ?_) (fun x2_2 hf => ?_) hf
  · refine J_aload_n hB dX8_stoneOf_2 rfl 0 rfl ?_
    refine J_get (v := .ref (a (b + 3))) hB inX8 0 rfl rfl 8 (Nat.le_of_ble_eq_true rfl) kf_X8_16 rfl dX8_stoneOf_3 ?_
    refine J_iload_n hB dX8_stoneOf_6 rfl 2 rfl ?_
    obtain ⟨v_3, ev_3, h_4, hf⟩ := ald_e hf
    refine J_iald hB 3 rfl ev_3 h_4 dX8_stoneOf_7 ?_
    refine J_iload_n hB dX8_stoneOf_8 rfl 1 rfl ?_
    refine J_icmp_eq (tgt := 18) hB dX8_stoneOf_9 rfl (fun c_5 => ?_) (fun c_5 => ?_)
    · have hf := it_t c_5 hf
      exact J_lv [2] rfl (hex2 x2_1 hf)
    · have hf := it_f c_5 hf
      obtain ⟨x2_6, ex2_6, hf⟩ := nmv_e hf
      refine J_iinc (lv' := [(2, .int x2_6), (0, .ref (a b)), (1, .int p0)]) hB ex2_6 dX8_stoneOf_12 2 rfl (Nat.le_of_ble_eq_true rfl) rfl ?_
      refine J_goto (tgt := 2) hB dX8_stoneOf_15 rfl ?_
      exact J_lv [1, 2, 0] rfl (hnx2 x2_6 hf)
  · refine J_iload_n hB dX8_stoneOf_18 rfl 0 rfl ?_
    obtain rfl := Option.some.inj hf
    exact J_iret hB hR dX8_stoneOf_19
def f_X8_movedMany (m_frogOn : Nat → Int32) (m_moved : Int32) (m_movedFrom : Nat → Int32) (m_movedTo : Nat → Int32) (p0 : Int32) : Option (Int32) :=
cl1 (f_X8_stoneOf m_frogOn p0) fun r_1 =>
nmv (α := Int32) (m_moved - (1 : Int32)) fun x4_3 =>
lp3_1 (fun (x2_4 : Int32) (x3_5 : Int32) (x4_6 : Int32) nx16 ex16 =>
if x4_6 < 0 then (
ex16 x3_5) else (
ald 60 m_movedTo x4_6 fun v_9 =>
jn2 (fun (x2_11 : Int32) (x3_12 : Int32) =>
nmv (α := Int32) (x4_6 + (-1)) fun x4_13 =>
nx16 x2_11 x3_12 x4_13) fun j43 =>
if v_9 = x2_4 then (
nmv (α := Int32) (x3_5 + 1) fun x3_15 =>
ald 60 m_movedFrom x4_6 fun v_16 =>
j43 v_16 x3_15) else (
j43 x2_4 x3_5))) (fun (x3_7 : Int32) =>
some x3_7) fuel r_1 0 x4_3
abbrev rX8_movedMany : Room := { frames := 1, cells := 0, slots := 0, locals := 22 }
set_option maxRecDepth 100000 in
set_option maxHeartbeats 4000000 in
theorem c_X8_movedMany (l : Launch) (E : En) (a : Nat → Nat) (b : Nat) (m_stones : Int32) (m_any : Int32) (m_backward : Int32) (m_ring : Int32) (m_two : Int32) (m_brooks : Int32) (m_readRow : Nat → Int32) (m_rowNow : Nat → Int32) (m_frogOn : Nat → Int32) (m_frogs : Int32) (m_kindOf : Nat → Int32) (m_moved : Int32) (m_movedFrom : Nat → Int32) (m_movedTo : Nat → Int32) (m_pageLength : Int32) (m_page : Nat → Int32) (m_faultAt : Int32) (m_isWhole : Int32) (m_newMany : Int32) (m_newSigns : Int32) (m_newRow : Nat → Int32) (m_long0 : Int32) (m_row : Nat → Int32) (m_far : Nat → Int32) (m_ways : Nat → Int64) (m_queue : Nat → Int32) (m_queueEnd : Int32) (m_endMany : Int32) (m_endSoon : Int32) (m_won : Nat → Int32) (m_seedNow : Int64) (m_isKept : Int32) (m_keptBrook : Int32) (m_keptMoved : Int32) (m_keptRow : Nat → Int32) (m_keptFrog : Nat → Int32) (m_keptFrom : Nat → Int32) (m_keptTo : Nat → Int32) (m_h : Int64) {p0 : Int32} {res : Int32} (hf : f_X8_movedMany m_frogOn m_moved m_movedFrom m_movedTo p0 = some res) : Ct l yX8_movedMany (.code yX8_movedMany cX8_movedMany 5 (some .int)) rX8_movedMany E [.ref (a b), .int p0] (wM E a b m_stones m_any m_backward m_ring m_two m_brooks m_readRow m_rowNow m_frogOn m_frogs m_kindOf m_moved m_movedFrom m_movedTo m_pageLength m_page m_faultAt m_isWhole m_newMany m_newSigns m_newRow m_long0 m_row m_far m_ways m_queue m_queueEnd m_endMany m_endSoon m_won m_seedNow m_isKept m_keptBrook m_keptMoved m_keptRow m_keptFrog m_keptFrom m_keptTo m_h) (some (.int res)) (wM E a b m_stones m_any m_backward m_ring m_two m_brooks m_readRow m_rowNow m_frogOn m_frogs m_kindOf m_moved m_movedFrom m_movedTo m_pageLength m_page m_faultAt m_isWhole m_newMany m_newSigns m_newRow m_long0 m_row m_far m_ways m_queue m_queueEnd m_endMany m_endSoon m_won m_seedNow m_isKept m_keptBrook m_keptMoved m_keptRow m_keptFrog m_keptFrom m_keptTo m_h) := by
  refine Ct.of (by decide) (Nat.le_of_ble_eq_true rfl) (fun Y hB hR => ?_)
  have hB : Cb E cX8_movedMany RX8 rX8_movedMany 5 Y := hB
  show J l E rX8_movedMany Y (wM E a b m_stones m_any m_backward m_ring m_two m_brooks m_readRow m_rowNow m_frogOn m_frogs m_kindOf m_moved m_movedFrom m_movedTo m_pageLength m_page m_faultAt m_isWhole m_newMany m_newSigns m_newRow m_long0 m_row m_far m_ways m_queue m_queueEnd m_endMany m_endSoon m_won m_seedNow m_isKept m_keptBrook m_keptMoved m_keptRow m_keptFrog m_keptFrom m_keptTo m_h) 0 [(0, .ref (a b)), (1, .int p0)] []
  unfold f_X8_movedMany at hf
  refine J_aload_n hB dX8_movedMany_0 rfl 0 rfl ?_
  refine J_iload_n hB dX8_movedMany_1 rfl 1 rfl ?_
  obtain ⟨r_1, h_2, hf⟩ := cl1_e hf
  refine J_callV (As := [.int p0]) (rest := []) (n := 1) (ws' := wM E a b m_stones m_any m_backward m_ring m_two m_brooks m_readRow m_rowNow m_frogOn m_frogs m_kindOf m_moved m_movedFrom m_movedTo m_pageLength m_page m_faultAt m_isWhole m_newMany m_newSigns m_newRow m_long0 m_row m_far m_ways m_queue m_queueEnd m_endMany m_endSoon m_won m_seedNow m_isKept m_keptBrook m_keptMoved m_keptRow m_keptFrog m_keptFrom m_keptTo m_h) hB (c_X8_stoneOf l E a b m_stones m_any m_backward m_ring m_two m_brooks m_readRow m_rowNow m_frogOn m_frogs m_kindOf m_moved m_movedFrom m_movedTo m_pageLength m_page m_faultAt m_isWhole m_newMany m_newSigns m_newRow m_long0 m_row m_far m_ways m_queue m_queueEnd m_endMany m_endSoon m_won m_seedNow m_isKept m_keptBrook m_keptMoved m_keptRow m_keptFrog m_keptFrom m_keptTo m_h h_2) mi_X8_stoneOf ⟨ki_X8_stoneOf, kv_X8_stoneOf⟩ km_X8_125 ⟨rfl, rfl, Nat.le_of_ble_eq_true rfl, Nat.le_of_ble_eq_true rfl⟩ Lies.same 0 rfl rfl rfl rfl (Nat.le_of_ble_eq_true rfl) dX8_movedMany_2 ?_
  show J l E rX8_movedMany Y (wM E a b m_stones m_any m_backward m_ring m_two m_brooks m_readRow m_rowNow m_frogOn m_frogs m_kindOf m_moved m_movedFrom m_movedTo m_pageLength m_page m_faultAt m_isWhole m_newMany m_newSigns m_newRow m_long0 m_row m_far m_ways m_queue m_queueEnd m_endMany m_endSoon m_won m_seedNow m_isKept m_keptBrook m_keptMoved m_keptRow m_keptFrog m_keptFrom m_keptTo m_h) 5 [(0, .ref (a b)), (1, .int p0)] [.int r_1]
  refine J_istore_n (lv' := [(2, .int r_1), (0, .ref (a b)), (1, .int p0)]) hB rfl dX8_movedMany_5 rfl (Nat.le_of_ble_eq_true rfl) rfl ?_
  refine J_iconst (v := 0) hB dX8_movedMany_6 rfl ?_
  refine J_istore_n (lv' := [(3, .int 0), (2, .int r_1), (0, .ref (a b)), (1, .int p0)]) hB rfl dX8_movedMany_7 rfl (Nat.le_of_ble_eq_true rfl) rfl ?_
  refine J_aload_n hB dX8_movedMany_8 rfl 2 rfl ?_
  refine J_get (v := .int m_moved) hB inX8 0 rfl rfl 11 (Nat.le_of_ble_eq_true rfl) kf_X8_111 rfl dX8_movedMany_9 ?_
  refine J_iconst (v := 1) hB dX8_movedMany_12 rfl ?_
  refine J_isub hB dX8_movedMany_13 ?_
  obtain ⟨x4_3, ex4_3, hf⟩ := nmv_e hf
  refine J_istore (lv' := [(4, .int x4_3), (3, .int 0), (2, .int r_1), (0, .ref (a b)), (1, .int p0)]) hB ex4_3 dX8_movedMany_14 (Nat.le_of_ble_eq_true rfl) rfl ?_
  refine J_lv [3, 2, 1, 0] rfl ?_
  refine lp3_1_J (P := fun x2_4 x3_5 x4_6 => J l E rX8_movedMany Y (wM E a b m_stones m_any m_backward m_ring m_two m_brooks m_readRow m_rowNow m_frogOn m_frogs m_kindOf m_moved m_movedFrom m_movedTo m_pageLength m_page m_faultAt m_isWhole m_newMany m_newSigns m_newRow m_long0 m_row m_far m_ways m_queue m_queueEnd m_endMany m_endSoon m_won m_seedNow m_isKept m_keptBrook m_keptMoved m_keptRow m_keptFrog m_keptFrom m_keptTo m_h) 16 [(0, .ref (a b)), (2, .int x2_4), (3, .int x3_5), (4, .int x4_6)] []) (Q := fun x3_7 => J l E rX8_movedMany Y (wM E a b m_stones m_any m_backward m_ring m_two m_brooks m_readRow m_rowNow m_frogOn m_frogs m_kindOf m_moved m_movedFrom m_movedTo m_pageLength m_page m_faultAt m_isWhole m_newMany m_newSigns m_newRow m_long0 m_row m_far m_ways m_queue m_queueEnd m_endMany m_endSoon m_won m_seedNow m_isKept m_keptBrook m_keptMoved m_keptRow m_keptFrog m_keptFrom m_keptTo m_h) 49 [(3, .int x3_7)] []) (fun x2_4 x3_5 x4_6 nx16 ex16 hnx16 hex16 hf => ?_) (fun x3_7 hf => ?_) hf
  · refine J_iload hB dX8_movedMany_16 3 rfl ?_
    refine J_if_lt (tgt := 49) hB dX8_movedMany_18 rfl (fun c_8 => ?_) (fun c_8 => ?_)
    · have hf := it_t c_8 hf
      exact J_lv [2] rfl (hex16 x3_5 hf)
    · have hf := it_f c_8 hf
      refine J_aload_n hB dX8_movedMany_21 rfl 0 rfl ?_
      refine J_get (v := .ref (a (b + 6))) hB inX8 0 rfl rfl 13 (Nat.le_of_ble_eq_true rfl) kf_X8_25 rfl dX8_movedMany_22 ?_
      refine J_iload hB dX8_movedMany_25 3 rfl ?_
      obtain ⟨v_9, ev_9, h_10, hf⟩ := ald_e hf
      refine J_iald hB 6 rfl ev_9 h_10 dX8_movedMany_27 ?_
      refine J_iload_n hB dX8_movedMany_28 rfl 1 rfl ?_
      refine jn2_e (P := fun x2_11 x3_12 => J l E rX8_movedMany Y (wM E a b m_stones m_any m_backward m_ring m_two m_brooks m_readRow m_rowNow m_frogOn m_frogs m_kindOf m_moved m_movedFrom m_movedTo m_pageLength m_page m_faultAt m_isWhole m_newMany m_newSigns m_newRow m_long0 m_row m_far m_ways m_queue m_queueEnd m_endMany m_endSoon m_won m_seedNow m_isKept m_keptBrook m_keptMoved m_keptRow m_keptFrog m_keptFrom m_keptTo m_h) 43 [(0, .ref (a b)), (2, .int x2_11), (3, .int x3_12), (4, .int x4_6)] []) hf (fun x2_11 x3_12 hf => ?_) (fun j43 hj43 hf => ?_)
      · obtain ⟨x4_13, ex4_13, hf⟩ := nmv_e hf
        refine J_iinc (lv' := [(4, .int x4_13), (0, .ref (a b)), (2, .int x2_11), (3, .int x3_12)]) hB (ex4_13.trans (congrArg (fun z : Int32 => x4_6 + z) (by decide +kernel))) dX8_movedMany_43 3 rfl (Nat.le_of_ble_eq_true rfl) rfl ?_
        refine J_goto (tgt := 16) hB dX8_movedMany_46 rfl ?_
        exact J_lv [1, 2, 3, 0] rfl (hnx16 x2_11 x3_12 x4_13 hf)
      · refine J_icmp_ne (tgt := 43) hB dX8_movedMany_29 rfl (fun c_14 => ?_) (fun c_14 => ?_)
        · have hf := it_f c_14 hf
          exact J_lv [0, 1, 2, 3] rfl (hj43 x2_4 x3_5 hf)
        · have hf := it_t c_14 hf
          obtain ⟨x3_15, ex3_15, hf⟩ := nmv_e hf
          refine J_iinc (lv' := [(3, .int x3_15), (0, .ref (a b)), (2, .int x2_4), (4, .int x4_6)]) hB ex3_15 dX8_movedMany_32 2 rfl (Nat.le_of_ble_eq_true rfl) rfl ?_
          refine J_aload_n hB dX8_movedMany_35 rfl 1 rfl ?_
          refine J_get (v := .ref (a (b + 5))) hB inX8 0 rfl rfl 12 (Nat.le_of_ble_eq_true rfl) kf_X8_22 rfl dX8_movedMany_36 ?_
          refine J_iload hB dX8_movedMany_39 3 rfl ?_
          obtain ⟨v_16, ev_16, h_17, hf⟩ := ald_e hf
          refine J_iald hB 5 rfl ev_16 h_17 dX8_movedMany_41 ?_
          refine J_istore_n (lv' := [(2, .int v_16), (3, .int x3_15), (0, .ref (a b)), (4, .int x4_6)]) hB rfl dX8_movedMany_42 rfl (Nat.le_of_ble_eq_true rfl) rfl ?_
          exact J_lv [2, 0, 1, 3] rfl (hj43 v_16 x3_15 hf)
  · refine J_iload_n hB dX8_movedMany_49 rfl 0 rfl ?_
    obtain rfl := Option.some.inj hf
    exact J_iret hB hR dX8_movedMany_50
def f_X8_frogNow (m_frogOn : Nat → Int32) (m_kindOf : Nat → Int32) (m_moved : Int32) (m_movedFrom : Nat → Int32) (m_movedTo : Nat → Int32) (p0 : Int32) (p1 : Int32) : Option (Int32) :=
if p1 = 0 then (
ald 7 m_kindOf p0 fun v_7 =>
some v_7) else (
if p1 = 1 then (
cl1 (f_X8_stoneOf m_frogOn p0) fun r_5 =>
some r_5) else (
cl1 (f_X8_movedMany m_frogOn m_moved m_movedFrom m_movedTo p0) fun r_3 =>
some r_3))
abbrev rX8_frogNow : Room := { frames := 2, cells := 0, slots := 0, locals := 46 }
set_option maxRecDepth 100000 in
set_option maxHeartbeats 4000000 in
theorem c_X8_frogNow (l : Launch) (E : En) (a : Nat → Nat) (b : Nat) (m_stones : Int32) (m_any : Int32) (m_backward : Int32) (m_ring : Int32) (m_two : Int32) (m_brooks : Int32) (m_readRow : Nat → Int32) (m_rowNow : Nat → Int32) (m_frogOn : Nat → Int32) (m_frogs : Int32) (m_kindOf : Nat → Int32) (m_moved : Int32) (m_movedFrom : Nat → Int32) (m_movedTo : Nat → Int32) (m_pageLength : Int32) (m_page : Nat → Int32) (m_faultAt : Int32) (m_isWhole : Int32) (m_newMany : Int32) (m_newSigns : Int32) (m_newRow : Nat → Int32) (m_long0 : Int32) (m_row : Nat → Int32) (m_far : Nat → Int32) (m_ways : Nat → Int64) (m_queue : Nat → Int32) (m_queueEnd : Int32) (m_endMany : Int32) (m_endSoon : Int32) (m_won : Nat → Int32) (m_seedNow : Int64) (m_isKept : Int32) (m_keptBrook : Int32) (m_keptMoved : Int32) (m_keptRow : Nat → Int32) (m_keptFrog : Nat → Int32) (m_keptFrom : Nat → Int32) (m_keptTo : Nat → Int32) (m_h : Int64) {p0 : Int32} {p1 : Int32} {res : Int32} (hf : f_X8_frogNow m_frogOn m_kindOf m_moved m_movedFrom m_movedTo p0 p1 = some res) : Ct l yX8_frogNow (.code yX8_frogNow cX8_frogNow 3 (some .int)) rX8_frogNow E [.ref (a b), .int p0, .int p1] (wM E a b m_stones m_any m_backward m_ring m_two m_brooks m_readRow m_rowNow m_frogOn m_frogs m_kindOf m_moved m_movedFrom m_movedTo m_pageLength m_page m_faultAt m_isWhole m_newMany m_newSigns m_newRow m_long0 m_row m_far m_ways m_queue m_queueEnd m_endMany m_endSoon m_won m_seedNow m_isKept m_keptBrook m_keptMoved m_keptRow m_keptFrog m_keptFrom m_keptTo m_h) (some (.int res)) (wM E a b m_stones m_any m_backward m_ring m_two m_brooks m_readRow m_rowNow m_frogOn m_frogs m_kindOf m_moved m_movedFrom m_movedTo m_pageLength m_page m_faultAt m_isWhole m_newMany m_newSigns m_newRow m_long0 m_row m_far m_ways m_queue m_queueEnd m_endMany m_endSoon m_won m_seedNow m_isKept m_keptBrook m_keptMoved m_keptRow m_keptFrog m_keptFrom m_keptTo m_h) := by
  refine Ct.of (by decide) (Nat.le_of_ble_eq_true rfl) (fun Y hB hR => ?_)
  have hB : Cb E cX8_frogNow RX8 rX8_frogNow 3 Y := hB
  show J l E rX8_frogNow Y (wM E a b m_stones m_any m_backward m_ring m_two m_brooks m_readRow m_rowNow m_frogOn m_frogs m_kindOf m_moved m_movedFrom m_movedTo m_pageLength m_page m_faultAt m_isWhole m_newMany m_newSigns m_newRow m_long0 m_row m_far m_ways m_queue m_queueEnd m_endMany m_endSoon m_won m_seedNow m_isKept m_keptBrook m_keptMoved m_keptRow m_keptFrog m_keptFrom m_keptTo m_h) 0 [(0, .ref (a b)), (1, .int p0), (2, .int p1)] []
  unfold f_X8_frogNow at hf
  refine J_iload_n hB dX8_frogNow_0 rfl 2 rfl ?_
  refine J_if_ne (tgt := 13) hB dX8_frogNow_1 rfl (fun c_1 => ?_) (fun c_1 => ?_)
  · have hf := it_f c_1 hf
    refine J_iload_n hB dX8_frogNow_13 rfl 2 rfl ?_
    refine J_iconst (v := 1) hB dX8_frogNow_14 rfl ?_
    refine J_icmp_ne (tgt := 26) hB dX8_frogNow_15 rfl (fun c_2 => ?_) (fun c_2 => ?_)
    · have hf := it_f c_2 hf
      refine J_aload_n hB dX8_frogNow_26 rfl 0 rfl ?_
      refine J_iload_n hB dX8_frogNow_27 rfl 1 rfl ?_
      obtain ⟨r_3, h_4, hf⟩ := cl1_e hf
      refine J_callV (As := [.int p0]) (rest := []) (n := 1) (ws' := wM E a b m_stones m_any m_backward m_ring m_two m_brooks m_readRow m_rowNow m_frogOn m_frogs m_kindOf m_moved m_movedFrom m_movedTo m_pageLength m_page m_faultAt m_isWhole m_newMany m_newSigns m_newRow m_long0 m_row m_far m_ways m_queue m_queueEnd m_endMany m_endSoon m_won m_seedNow m_isKept m_keptBrook m_keptMoved m_keptRow m_keptFrog m_keptFrom m_keptTo m_h) hB (c_X8_movedMany l E a b m_stones m_any m_backward m_ring m_two m_brooks m_readRow m_rowNow m_frogOn m_frogs m_kindOf m_moved m_movedFrom m_movedTo m_pageLength m_page m_faultAt m_isWhole m_newMany m_newSigns m_newRow m_long0 m_row m_far m_ways m_queue m_queueEnd m_endMany m_endSoon m_won m_seedNow m_isKept m_keptBrook m_keptMoved m_keptRow m_keptFrog m_keptFrom m_keptTo m_h h_4) mi_X8_movedMany ⟨ki_X8_movedMany, kv_X8_movedMany⟩ km_X8_128 ⟨rfl, rfl, Nat.le_of_ble_eq_true rfl, Nat.le_of_ble_eq_true rfl⟩ Lies.same 0 rfl rfl rfl rfl (Nat.le_of_ble_eq_true rfl) dX8_frogNow_28 ?_
      show J l E rX8_frogNow Y (wM E a b m_stones m_any m_backward m_ring m_two m_brooks m_readRow m_rowNow m_frogOn m_frogs m_kindOf m_moved m_movedFrom m_movedTo m_pageLength m_page m_faultAt m_isWhole m_newMany m_newSigns m_newRow m_long0 m_row m_far m_ways m_queue m_queueEnd m_endMany m_endSoon m_won m_seedNow m_isKept m_keptBrook m_keptMoved m_keptRow m_keptFrog m_keptFrom m_keptTo m_h) 31 [(0, .ref (a b)), (1, .int p0), (2, .int p1)] [.int r_3]
      obtain rfl := Option.some.inj hf
      exact J_iret hB hR dX8_frogNow_31
    · have hf := it_t c_2 hf
      refine J_aload_n hB dX8_frogNow_18 rfl 0 rfl ?_
      refine J_iload_n hB dX8_frogNow_19 rfl 1 rfl ?_
      obtain ⟨r_5, h_6, hf⟩ := cl1_e hf
      refine J_callV (As := [.int p0]) (rest := []) (n := 1) (ws' := wM E a b m_stones m_any m_backward m_ring m_two m_brooks m_readRow m_rowNow m_frogOn m_frogs m_kindOf m_moved m_movedFrom m_movedTo m_pageLength m_page m_faultAt m_isWhole m_newMany m_newSigns m_newRow m_long0 m_row m_far m_ways m_queue m_queueEnd m_endMany m_endSoon m_won m_seedNow m_isKept m_keptBrook m_keptMoved m_keptRow m_keptFrog m_keptFrom m_keptTo m_h) hB (c_X8_stoneOf l E a b m_stones m_any m_backward m_ring m_two m_brooks m_readRow m_rowNow m_frogOn m_frogs m_kindOf m_moved m_movedFrom m_movedTo m_pageLength m_page m_faultAt m_isWhole m_newMany m_newSigns m_newRow m_long0 m_row m_far m_ways m_queue m_queueEnd m_endMany m_endSoon m_won m_seedNow m_isKept m_keptBrook m_keptMoved m_keptRow m_keptFrog m_keptFrom m_keptTo m_h h_6) mi_X8_stoneOf ⟨ki_X8_stoneOf, kv_X8_stoneOf⟩ km_X8_125 ⟨rfl, rfl, Nat.le_of_ble_eq_true rfl, Nat.le_of_ble_eq_true rfl⟩ Lies.same 0 rfl rfl rfl rfl (Nat.le_of_ble_eq_true rfl) dX8_frogNow_20 ?_
      show J l E rX8_frogNow Y (wM E a b m_stones m_any m_backward m_ring m_two m_brooks m_readRow m_rowNow m_frogOn m_frogs m_kindOf m_moved m_movedFrom m_movedTo m_pageLength m_page m_faultAt m_isWhole m_newMany m_newSigns m_newRow m_long0 m_row m_far m_ways m_queue m_queueEnd m_endMany m_endSoon m_won m_seedNow m_isKept m_keptBrook m_keptMoved m_keptRow m_keptFrog m_keptFrom m_keptTo m_h) 23 [(0, .ref (a b)), (1, .int p0), (2, .int p1)] [.int r_5]
      refine J_goto (tgt := 31) hB dX8_frogNow_23 rfl ?_
      obtain rfl := Option.some.inj hf
      exact J_iret hB hR dX8_frogNow_31
  · have hf := it_t c_1 hf
    refine J_aload_n hB dX8_frogNow_4 rfl 0 rfl ?_
    refine J_get (v := .ref (a (b + 4))) hB inX8 0 rfl rfl 10 (Nat.le_of_ble_eq_true rfl) kf_X8_19 rfl dX8_frogNow_5 ?_
    refine J_iload_n hB dX8_frogNow_8 rfl 1 rfl ?_
    obtain ⟨v_7, ev_7, h_8, hf⟩ := ald_e hf
    refine J_iald hB 4 rfl ev_7 h_8 dX8_frogNow_9 ?_
    refine J_goto (tgt := 31) hB dX8_frogNow_10 rfl ?_
    obtain rfl := Option.some.inj hf
    exact J_iret hB hR dX8_frogNow_31
def f_X8_about (m_frogOn : Nat → Int32) (m_frogs : Int32) (m_kindOf : Nat → Int32) (m_moved : Int32) (m_movedFrom : Nat → Int32) (m_movedTo : Nat → Int32) (p0 : Int32) (p1 : Int32) : Option (Int32) :=
cl1 (f_X8_within p0 0 (m_frogs - (1 : Int32))) fun r_1 =>
if r_1 = 0 then (
some ((-101))) else (
cl1 (f_X8_within p1 0 2) fun r_4 =>
if r_4 = 0 then (
some ((-102))) else (
cl1 (f_X8_frogNow m_frogOn m_kindOf m_moved m_movedFrom m_movedTo p0 p1) fun r_7 =>
some r_7))
abbrev rX8_about : Room := { frames := 3, cells := 0, slots := 0, locals := 68 }
set_option maxRecDepth 100000 in
set_option maxHeartbeats 4000000 in
theorem c_X8_about (l : Launch) (E : En) (a : Nat → Nat) (b : Nat) (m_stones : Int32) (m_any : Int32) (m_backward : Int32) (m_ring : Int32) (m_two : Int32) (m_brooks : Int32) (m_readRow : Nat → Int32) (m_rowNow : Nat → Int32) (m_frogOn : Nat → Int32) (m_frogs : Int32) (m_kindOf : Nat → Int32) (m_moved : Int32) (m_movedFrom : Nat → Int32) (m_movedTo : Nat → Int32) (m_pageLength : Int32) (m_page : Nat → Int32) (m_faultAt : Int32) (m_isWhole : Int32) (m_newMany : Int32) (m_newSigns : Int32) (m_newRow : Nat → Int32) (m_long0 : Int32) (m_row : Nat → Int32) (m_far : Nat → Int32) (m_ways : Nat → Int64) (m_queue : Nat → Int32) (m_queueEnd : Int32) (m_endMany : Int32) (m_endSoon : Int32) (m_won : Nat → Int32) (m_seedNow : Int64) (m_isKept : Int32) (m_keptBrook : Int32) (m_keptMoved : Int32) (m_keptRow : Nat → Int32) (m_keptFrog : Nat → Int32) (m_keptFrom : Nat → Int32) (m_keptTo : Nat → Int32) (m_h : Int64) {p0 : Int32} {p1 : Int32} {res : Int32} (hf : f_X8_about m_frogOn m_frogs m_kindOf m_moved m_movedFrom m_movedTo p0 p1 = some res) : Ct l yX8_about (.code yX8_about cX8_about 3 (some .int)) rX8_about E [.ref (a b), .int p0, .int p1] (wM E a b m_stones m_any m_backward m_ring m_two m_brooks m_readRow m_rowNow m_frogOn m_frogs m_kindOf m_moved m_movedFrom m_movedTo m_pageLength m_page m_faultAt m_isWhole m_newMany m_newSigns m_newRow m_long0 m_row m_far m_ways m_queue m_queueEnd m_endMany m_endSoon m_won m_seedNow m_isKept m_keptBrook m_keptMoved m_keptRow m_keptFrog m_keptFrom m_keptTo m_h) (some (.int res)) (wM E a b m_stones m_any m_backward m_ring m_two m_brooks m_readRow m_rowNow m_frogOn m_frogs m_kindOf m_moved m_movedFrom m_movedTo m_pageLength m_page m_faultAt m_isWhole m_newMany m_newSigns m_newRow m_long0 m_row m_far m_ways m_queue m_queueEnd m_endMany m_endSoon m_won m_seedNow m_isKept m_keptBrook m_keptMoved m_keptRow m_keptFrog m_keptFrom m_keptTo m_h) := by
  refine Ct.of (by decide) (Nat.le_of_ble_eq_true rfl) (fun Y hB hR => ?_)
  have hB : Cb E cX8_about RX8 rX8_about 3 Y := hB
  show J l E rX8_about Y (wM E a b m_stones m_any m_backward m_ring m_two m_brooks m_readRow m_rowNow m_frogOn m_frogs m_kindOf m_moved m_movedFrom m_movedTo m_pageLength m_page m_faultAt m_isWhole m_newMany m_newSigns m_newRow m_long0 m_row m_far m_ways m_queue m_queueEnd m_endMany m_endSoon m_won m_seedNow m_isKept m_keptBrook m_keptMoved m_keptRow m_keptFrog m_keptFrom m_keptTo m_h) 0 [(0, .ref (a b)), (1, .int p0), (2, .int p1)] []
  unfold f_X8_about at hf
  refine J_iload_n hB dX8_about_0 rfl 1 rfl ?_
  refine J_iconst (v := 0) hB dX8_about_1 rfl ?_
  refine J_aload_n hB dX8_about_2 rfl 0 rfl ?_
  refine J_get (v := .int m_frogs) hB inX8 0 rfl rfl 9 (Nat.le_of_ble_eq_true rfl) kf_X8_108 rfl dX8_about_3 ?_
  refine J_iconst (v := 1) hB dX8_about_6 rfl ?_
  refine J_isub hB dX8_about_7 ?_
  obtain ⟨r_1, h_2, hf⟩ := cl1_e hf
  refine J_callS (As := [.int p0, .int 0, .int (m_frogs - (1 : Int32))]) (rest := []) (n := 3) (ws' := wM E a b m_stones m_any m_backward m_ring m_two m_brooks m_readRow m_rowNow m_frogOn m_frogs m_kindOf m_moved m_movedFrom m_movedTo m_pageLength m_page m_faultAt m_isWhole m_newMany m_newSigns m_newRow m_long0 m_row m_far m_ways m_queue m_queueEnd m_endMany m_endSoon m_won m_seedNow m_isKept m_keptBrook m_keptMoved m_keptRow m_keptFrog m_keptFrom m_keptTo m_h) hB (c_X8_within l E a h_2) mi_X8_within ks_X8_within km_X8_117 ⟨rfl, rfl, Nat.le_of_ble_eq_true rfl, Nat.le_of_ble_eq_true rfl⟩ Lies.none rfl rfl (Nat.le_of_ble_eq_true rfl) dX8_about_8 ?_
  show J l E rX8_about Y (wM E a b m_stones m_any m_backward m_ring m_two m_brooks m_readRow m_rowNow m_frogOn m_frogs m_kindOf m_moved m_movedFrom m_movedTo m_pageLength m_page m_faultAt m_isWhole m_newMany m_newSigns m_newRow m_long0 m_row m_far m_ways m_queue m_queueEnd m_endMany m_endSoon m_won m_seedNow m_isKept m_keptBrook m_keptMoved m_keptRow m_keptFrog m_keptFrom m_keptTo m_h) 11 [(0, .ref (a b)), (1, .int p0), (2, .int p1)] [.int r_1]
  refine J_if_ne (tgt := 17) hB dX8_about_11 rfl (fun c_3 => ?_) (fun c_3 => ?_)
  · have hf := it_f c_3 hf
    refine J_iload_n hB dX8_about_17 rfl 2 rfl ?_
    refine J_iconst (v := 0) hB dX8_about_18 rfl ?_
    refine J_iconst (v := 2) hB dX8_about_19 rfl ?_
    obtain ⟨r_4, h_5, hf⟩ := cl1_e hf
    refine J_callS (As := [.int p1, .int 0, .int 2]) (rest := []) (n := 3) (ws' := wM E a b m_stones m_any m_backward m_ring m_two m_brooks m_readRow m_rowNow m_frogOn m_frogs m_kindOf m_moved m_movedFrom m_movedTo m_pageLength m_page m_faultAt m_isWhole m_newMany m_newSigns m_newRow m_long0 m_row m_far m_ways m_queue m_queueEnd m_endMany m_endSoon m_won m_seedNow m_isKept m_keptBrook m_keptMoved m_keptRow m_keptFrog m_keptFrom m_keptTo m_h) hB (c_X8_within l E a h_5) mi_X8_within ks_X8_within km_X8_117 ⟨rfl, rfl, Nat.le_of_ble_eq_true rfl, Nat.le_of_ble_eq_true rfl⟩ Lies.none rfl rfl (Nat.le_of_ble_eq_true rfl) dX8_about_20 ?_
    show J l E rX8_about Y (wM E a b m_stones m_any m_backward m_ring m_two m_brooks m_readRow m_rowNow m_frogOn m_frogs m_kindOf m_moved m_movedFrom m_movedTo m_pageLength m_page m_faultAt m_isWhole m_newMany m_newSigns m_newRow m_long0 m_row m_far m_ways m_queue m_queueEnd m_endMany m_endSoon m_won m_seedNow m_isKept m_keptBrook m_keptMoved m_keptRow m_keptFrog m_keptFrom m_keptTo m_h) 23 [(0, .ref (a b)), (1, .int p0), (2, .int p1)] [.int r_4]
    refine J_if_eq (tgt := 35) hB dX8_about_23 rfl (fun c_6 => ?_) (fun c_6 => ?_)
    · have hf := it_t c_6 hf
      refine J_bipush (v := (-102)) hB dX8_about_35 rfl ?_
      obtain rfl := Option.some.inj hf
      exact J_iret hB hR dX8_about_37
    · have hf := it_f c_6 hf
      refine J_aload_n hB dX8_about_26 rfl 0 rfl ?_
      refine J_iload_n hB dX8_about_27 rfl 1 rfl ?_
      refine J_iload_n hB dX8_about_28 rfl 2 rfl ?_
      obtain ⟨r_7, h_8, hf⟩ := cl1_e hf
      refine J_callV (As := [.int p0, .int p1]) (rest := []) (n := 2) (ws' := wM E a b m_stones m_any m_backward m_ring m_two m_brooks m_readRow m_rowNow m_frogOn m_frogs m_kindOf m_moved m_movedFrom m_movedTo m_pageLength m_page m_faultAt m_isWhole m_newMany m_newSigns m_newRow m_long0 m_row m_far m_ways m_queue m_queueEnd m_endMany m_endSoon m_won m_seedNow m_isKept m_keptBrook m_keptMoved m_keptRow m_keptFrog m_keptFrom m_keptTo m_h) hB (c_X8_frogNow l E a b m_stones m_any m_backward m_ring m_two m_brooks m_readRow m_rowNow m_frogOn m_frogs m_kindOf m_moved m_movedFrom m_movedTo m_pageLength m_page m_faultAt m_isWhole m_newMany m_newSigns m_newRow m_long0 m_row m_far m_ways m_queue m_queueEnd m_endMany m_endSoon m_won m_seedNow m_isKept m_keptBrook m_keptMoved m_keptRow m_keptFrog m_keptFrom m_keptTo m_h h_8) mi_X8_frogNow ⟨ki_X8_frogNow, kv_X8_frogNow⟩ km_X8_131 ⟨rfl, rfl, Nat.le_of_ble_eq_true rfl, Nat.le_of_ble_eq_true rfl⟩ Lies.same 0 rfl rfl rfl rfl (Nat.le_of_ble_eq_true rfl) dX8_about_29 ?_
      show J l E rX8_about Y (wM E a b m_stones m_any m_backward m_ring m_two m_brooks m_readRow m_rowNow m_frogOn m_frogs m_kindOf m_moved m_movedFrom m_movedTo m_pageLength m_page m_faultAt m_isWhole m_newMany m_newSigns m_newRow m_long0 m_row m_far m_ways m_queue m_queueEnd m_endMany m_endSoon m_won m_seedNow m_isKept m_keptBrook m_keptMoved m_keptRow m_keptFrog m_keptFrom m_keptTo m_h) 32 [(0, .ref (a b)), (1, .int p0), (2, .int p1)] [.int r_7]
      refine J_goto (tgt := 37) hB dX8_about_32 rfl ?_
      obtain rfl := Option.some.inj hf
      exact J_iret hB hR dX8_about_37
  · have hf := it_t c_3 hf
    refine J_bipush (v := (-101)) hB dX8_about_14 rfl ?_
    obtain rfl := Option.some.inj hf
    exact J_iret hB hR dX8_about_16
def f_X8_as (m_frogs : Int32) (m_kindOf : Nat → Int32) (p0 : Int32) (p1 : Int32) : Option (Int32) :=
cl1 (f_X8_within p0 0 (m_frogs - (1 : Int32))) fun r_1 =>
if r_1 = 0 then (
some ((-101))) else (
cl1 (f_X8_within p1 0 4) fun r_4 =>
if r_4 = 0 then (
some ((-102))) else (
ald 7 m_kindOf p0 fun v_7 =>
jn0 (
some p0) fun j55 =>
if p1 = 0 then (
j55) else (
if v_7 = p1 then (
j55) else (
if p1 = 1 then (
if v_7 = 4 then (
j55) else (
some ((-1)))) else (
some ((-1)))))))
abbrev rX8_as : Room := { frames := 1, cells := 0, slots := 0, locals := 22 }
set_option maxRecDepth 100000 in
set_option maxHeartbeats 4000000 in
theorem c_X8_as (l : Launch) (E : En) (a : Nat → Nat) (b : Nat) (m_stones : Int32) (m_any : Int32) (m_backward : Int32) (m_ring : Int32) (m_two : Int32) (m_brooks : Int32) (m_readRow : Nat → Int32) (m_rowNow : Nat → Int32) (m_frogOn : Nat → Int32) (m_frogs : Int32) (m_kindOf : Nat → Int32) (m_moved : Int32) (m_movedFrom : Nat → Int32) (m_movedTo : Nat → Int32) (m_pageLength : Int32) (m_page : Nat → Int32) (m_faultAt : Int32) (m_isWhole : Int32) (m_newMany : Int32) (m_newSigns : Int32) (m_newRow : Nat → Int32) (m_long0 : Int32) (m_row : Nat → Int32) (m_far : Nat → Int32) (m_ways : Nat → Int64) (m_queue : Nat → Int32) (m_queueEnd : Int32) (m_endMany : Int32) (m_endSoon : Int32) (m_won : Nat → Int32) (m_seedNow : Int64) (m_isKept : Int32) (m_keptBrook : Int32) (m_keptMoved : Int32) (m_keptRow : Nat → Int32) (m_keptFrog : Nat → Int32) (m_keptFrom : Nat → Int32) (m_keptTo : Nat → Int32) (m_h : Int64) {p0 : Int32} {p1 : Int32} {res : Int32} (hf : f_X8_as m_frogs m_kindOf p0 p1 = some res) : Ct l yX8_as (.code yX8_as cX8_as 4 (some .int)) rX8_as E [.ref (a b), .int p0, .int p1] (wM E a b m_stones m_any m_backward m_ring m_two m_brooks m_readRow m_rowNow m_frogOn m_frogs m_kindOf m_moved m_movedFrom m_movedTo m_pageLength m_page m_faultAt m_isWhole m_newMany m_newSigns m_newRow m_long0 m_row m_far m_ways m_queue m_queueEnd m_endMany m_endSoon m_won m_seedNow m_isKept m_keptBrook m_keptMoved m_keptRow m_keptFrog m_keptFrom m_keptTo m_h) (some (.int res)) (wM E a b m_stones m_any m_backward m_ring m_two m_brooks m_readRow m_rowNow m_frogOn m_frogs m_kindOf m_moved m_movedFrom m_movedTo m_pageLength m_page m_faultAt m_isWhole m_newMany m_newSigns m_newRow m_long0 m_row m_far m_ways m_queue m_queueEnd m_endMany m_endSoon m_won m_seedNow m_isKept m_keptBrook m_keptMoved m_keptRow m_keptFrog m_keptFrom m_keptTo m_h) := by
  refine Ct.of (by decide) (Nat.le_of_ble_eq_true rfl) (fun Y hB hR => ?_)
  have hB : Cb E cX8_as RX8 rX8_as 4 Y := hB
  show J l E rX8_as Y (wM E a b m_stones m_any m_backward m_ring m_two m_brooks m_readRow m_rowNow m_frogOn m_frogs m_kindOf m_moved m_movedFrom m_movedTo m_pageLength m_page m_faultAt m_isWhole m_newMany m_newSigns m_newRow m_long0 m_row m_far m_ways m_queue m_queueEnd m_endMany m_endSoon m_won m_seedNow m_isKept m_keptBrook m_keptMoved m_keptRow m_keptFrog m_keptFrom m_keptTo m_h) 0 [(0, .ref (a b)), (1, .int p0), (2, .int p1)] []
  unfold f_X8_as at hf
  refine J_iload_n hB dX8_as_0 rfl 1 rfl ?_
  refine J_iconst (v := 0) hB dX8_as_1 rfl ?_
  refine J_aload_n hB dX8_as_2 rfl 0 rfl ?_
  refine J_get (v := .int m_frogs) hB inX8 0 rfl rfl 9 (Nat.le_of_ble_eq_true rfl) kf_X8_108 rfl dX8_as_3 ?_
  refine J_iconst (v := 1) hB dX8_as_6 rfl ?_
  refine J_isub hB dX8_as_7 ?_
  obtain ⟨r_1, h_2, hf⟩ := cl1_e hf
  refine J_callS (As := [.int p0, .int 0, .int (m_frogs - (1 : Int32))]) (rest := []) (n := 3) (ws' := wM E a b m_stones m_any m_backward m_ring m_two m_brooks m_readRow m_rowNow m_frogOn m_frogs m_kindOf m_moved m_movedFrom m_movedTo m_pageLength m_page m_faultAt m_isWhole m_newMany m_newSigns m_newRow m_long0 m_row m_far m_ways m_queue m_queueEnd m_endMany m_endSoon m_won m_seedNow m_isKept m_keptBrook m_keptMoved m_keptRow m_keptFrog m_keptFrom m_keptTo m_h) hB (c_X8_within l E a h_2) mi_X8_within ks_X8_within km_X8_117 ⟨rfl, rfl, Nat.le_of_ble_eq_true rfl, Nat.le_of_ble_eq_true rfl⟩ Lies.none rfl rfl (Nat.le_of_ble_eq_true rfl) dX8_as_8 ?_
  show J l E rX8_as Y (wM E a b m_stones m_any m_backward m_ring m_two m_brooks m_readRow m_rowNow m_frogOn m_frogs m_kindOf m_moved m_movedFrom m_movedTo m_pageLength m_page m_faultAt m_isWhole m_newMany m_newSigns m_newRow m_long0 m_row m_far m_ways m_queue m_queueEnd m_endMany m_endSoon m_won m_seedNow m_isKept m_keptBrook m_keptMoved m_keptRow m_keptFrog m_keptFrom m_keptTo m_h) 11 [(0, .ref (a b)), (1, .int p0), (2, .int p1)] [.int r_1]
  refine J_if_ne (tgt := 17) hB dX8_as_11 rfl (fun c_3 => ?_) (fun c_3 => ?_)
  · have hf := it_f c_3 hf
    refine J_iload_n hB dX8_as_17 rfl 2 rfl ?_
    refine J_iconst (v := 0) hB dX8_as_18 rfl ?_
    refine J_iconst (v := 4) hB dX8_as_19 rfl ?_
    obtain ⟨r_4, h_5, hf⟩ := cl1_e hf
    refine J_callS (As := [.int p1, .int 0, .int 4]) (rest := []) (n := 3) (ws' := wM E a b m_stones m_any m_backward m_ring m_two m_brooks m_readRow m_rowNow m_frogOn m_frogs m_kindOf m_moved m_movedFrom m_movedTo m_pageLength m_page m_faultAt m_isWhole m_newMany m_newSigns m_newRow m_long0 m_row m_far m_ways m_queue m_queueEnd m_endMany m_endSoon m_won m_seedNow m_isKept m_keptBrook m_keptMoved m_keptRow m_keptFrog m_keptFrom m_keptTo m_h) hB (c_X8_within l E a h_5) mi_X8_within ks_X8_within km_X8_117 ⟨rfl, rfl, Nat.le_of_ble_eq_true rfl, Nat.le_of_ble_eq_true rfl⟩ Lies.none rfl rfl (Nat.le_of_ble_eq_true rfl) dX8_as_20 ?_
    show J l E rX8_as Y (wM E a b m_stones m_any m_backward m_ring m_two m_brooks m_readRow m_rowNow m_frogOn m_frogs m_kindOf m_moved m_movedFrom m_movedTo m_pageLength m_page m_faultAt m_isWhole m_newMany m_newSigns m_newRow m_long0 m_row m_far m_ways m_queue m_queueEnd m_endMany m_endSoon m_won m_seedNow m_isKept m_keptBrook m_keptMoved m_keptRow m_keptFrog m_keptFrom m_keptTo m_h) 23 [(0, .ref (a b)), (1, .int p0), (2, .int p1)] [.int r_4]
    refine J_if_ne (tgt := 29) hB dX8_as_23 rfl (fun c_6 => ?_) (fun c_6 => ?_)
    · have hf := it_f c_6 hf
      refine J_aload_n hB dX8_as_29 rfl 0 rfl ?_
      refine J_get (v := .ref (a (b + 4))) hB inX8 0 rfl rfl 10 (Nat.le_of_ble_eq_true rfl) kf_X8_19 rfl dX8_as_30 ?_
      refine J_iload_n hB dX8_as_33 rfl 1 rfl ?_
      obtain ⟨v_7, ev_7, h_8, hf⟩ := ald_e hf
      refine J_iald hB 4 rfl ev_7 h_8 dX8_as_34 ?_
      refine J_istore_n (lv' := [(3, .int v_7), (0, .ref (a b)), (1, .int p0), (2, .int p1)]) hB rfl dX8_as_35 rfl (Nat.le_of_ble_eq_true rfl) rfl ?_
      refine J_iload_n hB dX8_as_36 rfl 3 rfl ?_
      refine jn0_e (P := J l E rX8_as Y (wM E a b m_stones m_any m_backward m_ring m_two m_brooks m_readRow m_rowNow m_frogOn m_frogs m_kindOf m_moved m_movedFrom m_movedTo m_pageLength m_page m_faultAt m_isWhole m_newMany m_newSigns m_newRow m_long0 m_row m_far m_ways m_queue m_queueEnd m_endMany m_endSoon m_won m_seedNow m_isKept m_keptBrook m_keptMoved m_keptRow m_keptFrog m_keptFrom m_keptTo m_h) 55 [(1, .int p0)] []) hf (fun hf => ?_) (fun j55 hj55 hf => ?_)
      · refine J_iload_n hB dX8_as_55 rfl 0 rfl ?_
        refine J_goto (tgt := 60) hB dX8_as_56 rfl ?_
        obtain rfl := Option.some.inj hf
        exact J_iret hB hR dX8_as_60
      · refine J_if_eq (tgt := 55) hB dX8_as_37 rfl (fun c_9 => ?_) (fun c_9 => ?_)
        · have hf := it_t c_9 hf
          exact J_lv [2] rfl (hj55 hf)
        · have hf := it_f c_9 hf
          refine J_iload_n hB dX8_as_40 rfl 0 rfl ?_
          refine J_iload_n hB dX8_as_41 rfl 3 rfl ?_
          refine J_icmp_eq (tgt := 55) hB dX8_as_42 rfl (fun c_10 => ?_) (fun c_10 => ?_)
          · have hf := it_t c_10 hf
            exact J_lv [2] rfl (hj55 hf)
          · have hf := it_f c_10 hf
            refine J_iload_n hB dX8_as_45 rfl 3 rfl ?_
            refine J_iconst (v := 1) hB dX8_as_46 rfl ?_
            refine J_icmp_ne (tgt := 59) hB dX8_as_47 rfl (fun c_11 => ?_) (fun c_11 => ?_)
            · have hf := it_f c_11 hf
              refine J_iconst (v := (-1)) hB dX8_as_59 rfl ?_
              obtain rfl := Option.some.inj hf
              exact J_iret hB hR dX8_as_60
            · have hf := it_t c_11 hf
              refine J_iload_n hB dX8_as_50 rfl 0 rfl ?_
              refine J_iconst (v := 4) hB dX8_as_51 rfl ?_
              refine J_icmp_ne (tgt := 59) hB dX8_as_52 rfl (fun c_12 => ?_) (fun c_12 => ?_)
              · have hf := it_f c_12 hf
                refine J_iconst (v := (-1)) hB dX8_as_59 rfl ?_
                obtain rfl := Option.some.inj hf
                exact J_iret hB hR dX8_as_60
              · have hf := it_t c_12 hf
                exact J_lv [2] rfl (hj55 hf)
    · have hf := it_t c_6 hf
      refine J_bipush (v := (-102)) hB dX8_as_26 rfl ?_
      obtain rfl := Option.some.inj hf
      exact J_iret hB hR dX8_as_28
  · have hf := it_t c_3 hf
    refine J_bipush (v := (-101)) hB dX8_as_14 rfl ?_
    obtain rfl := Option.some.inj hf
    exact J_iret hB hR dX8_as_16
def f_X8_besides (m_ring : Int32) (m_long0 : Int32) (p0 : Int32) (p1 : Int32) : Option (Int32) :=
nmv (α := Int32) (p0 + p1) fun x3_1 =>
if m_ring = 0 then (
cl1 (f_X8_within x3_1 0 (m_long0 - (1 : Int32))) fun r_3 =>
if r_3 = 0 then (
some ((-1))) else (
some x3_1)) else (
iremK (x3_1 + m_long0) m_long0 fun v_6 =>
some v_6)
abbrev rX8_besides : Room := { frames := 1, cells := 0, slots := 0, locals := 22 }
set_option maxRecDepth 100000 in
set_option maxHeartbeats 4000000 in
theorem c_X8_besides (l : Launch) (E : En) (a : Nat → Nat) (b : Nat) (m_stones : Int32) (m_any : Int32) (m_backward : Int32) (m_ring : Int32) (m_two : Int32) (m_brooks : Int32) (m_readRow : Nat → Int32) (m_rowNow : Nat → Int32) (m_frogOn : Nat → Int32) (m_frogs : Int32) (m_kindOf : Nat → Int32) (m_moved : Int32) (m_movedFrom : Nat → Int32) (m_movedTo : Nat → Int32) (m_pageLength : Int32) (m_page : Nat → Int32) (m_faultAt : Int32) (m_isWhole : Int32) (m_newMany : Int32) (m_newSigns : Int32) (m_newRow : Nat → Int32) (m_long0 : Int32) (m_row : Nat → Int32) (m_far : Nat → Int32) (m_ways : Nat → Int64) (m_queue : Nat → Int32) (m_queueEnd : Int32) (m_endMany : Int32) (m_endSoon : Int32) (m_won : Nat → Int32) (m_seedNow : Int64) (m_isKept : Int32) (m_keptBrook : Int32) (m_keptMoved : Int32) (m_keptRow : Nat → Int32) (m_keptFrog : Nat → Int32) (m_keptFrom : Nat → Int32) (m_keptTo : Nat → Int32) (m_h : Int64) {p0 : Int32} {p1 : Int32} {res : Int32} (hf : f_X8_besides m_ring m_long0 p0 p1 = some res) : Ct l yX8_besides (.code yX8_besides cX8_besides 4 (some .int)) rX8_besides E [.ref (a b), .int p0, .int p1] (wM E a b m_stones m_any m_backward m_ring m_two m_brooks m_readRow m_rowNow m_frogOn m_frogs m_kindOf m_moved m_movedFrom m_movedTo m_pageLength m_page m_faultAt m_isWhole m_newMany m_newSigns m_newRow m_long0 m_row m_far m_ways m_queue m_queueEnd m_endMany m_endSoon m_won m_seedNow m_isKept m_keptBrook m_keptMoved m_keptRow m_keptFrog m_keptFrom m_keptTo m_h) (some (.int res)) (wM E a b m_stones m_any m_backward m_ring m_two m_brooks m_readRow m_rowNow m_frogOn m_frogs m_kindOf m_moved m_movedFrom m_movedTo m_pageLength m_page m_faultAt m_isWhole m_newMany m_newSigns m_newRow m_long0 m_row m_far m_ways m_queue m_queueEnd m_endMany m_endSoon m_won m_seedNow m_isKept m_keptBrook m_keptMoved m_keptRow m_keptFrog m_keptFrom m_keptTo m_h) := by
  refine Ct.of (by decide) (Nat.le_of_ble_eq_true rfl) (fun Y hB hR => ?_)
  have hB : Cb E cX8_besides RX8 rX8_besides 4 Y := hB
  show J l E rX8_besides Y (wM E a b m_stones m_any m_backward m_ring m_two m_brooks m_readRow m_rowNow m_frogOn m_frogs m_kindOf m_moved m_movedFrom m_movedTo m_pageLength m_page m_faultAt m_isWhole m_newMany m_newSigns m_newRow m_long0 m_row m_far m_ways m_queue m_queueEnd m_endMany m_endSoon m_won m_seedNow m_isKept m_keptBrook m_keptMoved m_keptRow m_keptFrog m_keptFrom m_keptTo m_h) 0 [(0, .ref (a b)), (1, .int p0), (2, .int p1)] []
  unfold f_X8_besides at hf
  refine J_iload_n hB dX8_besides_0 rfl 1 rfl ?_
  refine J_iload_n hB dX8_besides_1 rfl 2 rfl ?_
  refine J_iadd hB dX8_besides_2 ?_
  obtain ⟨x3_1, ex3_1, hf⟩ := nmv_e hf
  refine J_istore_n (lv' := [(3, .int x3_1), (0, .ref (a b)), (1, .int p0), (2, .int p1)]) hB ex3_1 dX8_besides_3 rfl (Nat.le_of_ble_eq_true rfl) rfl ?_
  refine J_aload_n hB dX8_besides_4 rfl 1 rfl ?_
  refine J_get (v := .int m_ring) hB inX8 0 rfl rfl 3 (Nat.le_of_ble_eq_true rfl) kf_X8_102 rfl dX8_besides_5 ?_
  refine J_if_eq (tgt := 25) hB dX8_besides_8 rfl (fun c_2 => ?_) (fun c_2 => ?_)
  · have hf := it_t c_2 hf
    refine J_iload_n hB dX8_besides_25 rfl 0 rfl ?_
    refine J_iconst (v := 0) hB dX8_besides_26 rfl ?_
    refine J_aload_n hB dX8_besides_27 rfl 1 rfl ?_
    refine J_get (v := .int m_long0) hB inX8 0 rfl rfl 21 (Nat.le_of_ble_eq_true rfl) kf_X8_135 rfl dX8_besides_28 ?_
    refine J_iconst (v := 1) hB dX8_besides_31 rfl ?_
    refine J_isub hB dX8_besides_32 ?_
    obtain ⟨r_3, h_4, hf⟩ := cl1_e hf
    refine J_callS (As := [.int x3_1, .int 0, .int (m_long0 - (1 : Int32))]) (rest := []) (n := 3) (ws' := wM E a b m_stones m_any m_backward m_ring m_two m_brooks m_readRow m_rowNow m_frogOn m_frogs m_kindOf m_moved m_movedFrom m_movedTo m_pageLength m_page m_faultAt m_isWhole m_newMany m_newSigns m_newRow m_long0 m_row m_far m_ways m_queue m_queueEnd m_endMany m_endSoon m_won m_seedNow m_isKept m_keptBrook m_keptMoved m_keptRow m_keptFrog m_keptFrom m_keptTo m_h) hB (c_X8_within l E a h_4) mi_X8_within ks_X8_within km_X8_117 ⟨rfl, rfl, Nat.le_of_ble_eq_true rfl, Nat.le_of_ble_eq_true rfl⟩ Lies.none rfl rfl (Nat.le_of_ble_eq_true rfl) dX8_besides_33 ?_
    show J l E rX8_besides Y (wM E a b m_stones m_any m_backward m_ring m_two m_brooks m_readRow m_rowNow m_frogOn m_frogs m_kindOf m_moved m_movedFrom m_movedTo m_pageLength m_page m_faultAt m_isWhole m_newMany m_newSigns m_newRow m_long0 m_row m_far m_ways m_queue m_queueEnd m_endMany m_endSoon m_won m_seedNow m_isKept m_keptBrook m_keptMoved m_keptRow m_keptFrog m_keptFrom m_keptTo m_h) 36 [(3, .int x3_1), (0, .ref (a b)), (1, .int p0), (2, .int p1)] [.int r_3]
    refine J_if_eq (tgt := 43) hB dX8_besides_36 rfl (fun c_5 => ?_) (fun c_5 => ?_)
    · have hf := it_t c_5 hf
      refine J_iconst (v := (-1)) hB dX8_besides_43 rfl ?_
      obtain rfl := Option.some.inj hf
      exact J_iret hB hR dX8_besides_44
    · have hf := it_f c_5 hf
      refine J_iload_n hB dX8_besides_39 rfl 0 rfl ?_
      refine J_goto (tgt := 44) hB dX8_besides_40 rfl ?_
      obtain rfl := Option.some.inj hf
      exact J_iret hB hR dX8_besides_44
  · have hf := it_f c_2 hf
    refine J_iload_n hB dX8_besides_11 rfl 0 rfl ?_
    refine J_aload_n hB dX8_besides_12 rfl 1 rfl ?_
    refine J_get (v := .int m_long0) hB inX8 0 rfl rfl 21 (Nat.le_of_ble_eq_true rfl) kf_X8_135 rfl dX8_besides_13 ?_
    refine J_iadd hB dX8_besides_16 ?_
    refine J_aload_n hB dX8_besides_17 rfl 1 rfl ?_
    refine J_get (v := .int m_long0) hB inX8 0 rfl rfl 21 (Nat.le_of_ble_eq_true rfl) kf_X8_135 rfl dX8_besides_18 ?_
    obtain ⟨v_6, ev_6, h_7, hf⟩ := iremK_e hf
    refine J_irem hB dX8_besides_21 h_7 ?_
    rw [← ev_6]
    refine J_goto (tgt := 44) hB dX8_besides_22 rfl ?_
    obtain rfl := Option.some.inj hf
    exact J_iret hB hR dX8_besides_44
def f_X8_colour (p0 : Int32) : Option (Int32) :=
jn0 (
some 1) fun j10 =>
if p0 = 1 then (
j10) else (
if p0 = 4 then (
j10) else (
if p0 = 2 then (
some 2) else (
some 0)))
abbrev rX8_colour : Room := { frames := 0, cells := 0, slots := 0, locals := 0 }
set_option maxRecDepth 100000 in
set_option maxHeartbeats 4000000 in
theorem c_X8_colour (l : Launch) (E : En) (a : Nat → Nat) {p0 : Int32} {res : Int32} (hf : f_X8_colour p0 = some res) : Ct l yX8_colour (.code yX8_colour cX8_colour 1 (some .int)) rX8_colour E [.int p0] ([]) (some (.int res)) ([]) := by
  refine Ct.of (by decide) (Nat.le_of_ble_eq_true rfl) (fun Y hB hR => ?_)
  have hB : Cb E cX8_colour RX8 rX8_colour 1 Y := hB
  show J l E rX8_colour Y [] 0 [(0, .int p0)] []
  unfold f_X8_colour at hf
  refine J_iload_n hB dX8_colour_0 rfl 0 rfl ?_
  refine J_iconst (v := 1) hB dX8_colour_1 rfl ?_
  refine jn0_e (P := J l E rX8_colour Y [] 10 [] []) hf (fun hf => ?_) (fun j10 hj10 hf => ?_)
  · refine J_iconst (v := 1) hB dX8_colour_10 rfl ?_
    refine J_goto (tgt := 24) hB dX8_colour_11 rfl ?_
    obtain rfl := Option.some.inj hf
    exact J_iret hB hR dX8_colour_24
  · refine J_icmp_eq (tgt := 10) hB dX8_colour_2 rfl (fun c_1 => ?_) (fun c_1 => ?_)
    · have hf := it_t c_1 hf
      exact J_lv [] rfl (hj10 hf)
    · have hf := it_f c_1 hf
      refine J_iload_n hB dX8_colour_5 rfl 0 rfl ?_
      refine J_iconst (v := 4) hB dX8_colour_6 rfl ?_
      refine J_icmp_ne (tgt := 14) hB dX8_colour_7 rfl (fun c_2 => ?_) (fun c_2 => ?_)
      · have hf := it_f c_2 hf
        refine J_iload_n hB dX8_colour_14 rfl 0 rfl ?_
        refine J_iconst (v := 2) hB dX8_colour_15 rfl ?_
        refine J_icmp_ne (tgt := 23) hB dX8_colour_16 rfl (fun c_3 => ?_) (fun c_3 => ?_)
        · have hf := it_f c_3 hf
          refine J_iconst (v := 0) hB dX8_colour_23 rfl ?_
          obtain rfl := Option.some.inj hf
          exact J_iret hB hR dX8_colour_24
        · have hf := it_t c_3 hf
          refine J_iconst (v := 2) hB dX8_colour_19 rfl ?_
          refine J_goto (tgt := 24) hB dX8_colour_20 rfl ?_
          obtain rfl := Option.some.inj hf
          exact J_iret hB hR dX8_colour_24
      · have hf := it_t c_2 hf
        exact J_lv [] rfl (hj10 hf)
def f_X8_mayOver (m_any : Int32) (p0 : Int32) (p1 : Int32) : Option (Int32) :=
if p1 ≤ 0 then (
some 0) else (
jn0 (
some 1) fun j29 =>
if m_any = 0 then (
cl1 (f_X8_colour p1) fun r_3 =>
if r_3 ≤ 0 then (
some 0) else (
cl1 (f_X8_colour p1) fun r_6 =>
cl1 (f_X8_colour p0) fun r_8 =>
if r_6 = r_8 then (
some 0) else (
j29))) else (
j29))
abbrev rX8_mayOver : Room := { frames := 1, cells := 0, slots := 0, locals := 20 }
set_option maxRecDepth 100000 in
set_option maxHeartbeats 4000000 in
theorem c_X8_mayOver (l : Launch) (E : En) (a : Nat → Nat) (b : Nat) (m_stones : Int32) (m_any : Int32) (m_backward : Int32) (m_ring : Int32) (m_two : Int32) (m_brooks : Int32) (m_readRow : Nat → Int32) (m_rowNow : Nat → Int32) (m_frogOn : Nat → Int32) (m_frogs : Int32) (m_kindOf : Nat → Int32) (m_moved : Int32) (m_movedFrom : Nat → Int32) (m_movedTo : Nat → Int32) (m_pageLength : Int32) (m_page : Nat → Int32) (m_faultAt : Int32) (m_isWhole : Int32) (m_newMany : Int32) (m_newSigns : Int32) (m_newRow : Nat → Int32) (m_long0 : Int32) (m_row : Nat → Int32) (m_far : Nat → Int32) (m_ways : Nat → Int64) (m_queue : Nat → Int32) (m_queueEnd : Int32) (m_endMany : Int32) (m_endSoon : Int32) (m_won : Nat → Int32) (m_seedNow : Int64) (m_isKept : Int32) (m_keptBrook : Int32) (m_keptMoved : Int32) (m_keptRow : Nat → Int32) (m_keptFrog : Nat → Int32) (m_keptFrom : Nat → Int32) (m_keptTo : Nat → Int32) (m_h : Int64) {p0 : Int32} {p1 : Int32} {res : Int32} (hf : f_X8_mayOver m_any p0 p1 = some res) : Ct l yX8_mayOver (.code yX8_mayOver cX8_mayOver 3 (some .boolean)) rX8_mayOver E [.ref (a b), .int p0, .int p1] (wM E a b m_stones m_any m_backward m_ring m_two m_brooks m_readRow m_rowNow m_frogOn m_frogs m_kindOf m_moved m_movedFrom m_movedTo m_pageLength m_page m_faultAt m_isWhole m_newMany m_newSigns m_newRow m_long0 m_row m_far m_ways m_queue m_queueEnd m_endMany m_endSoon m_won m_seedNow m_isKept m_keptBrook m_keptMoved m_keptRow m_keptFrog m_keptFrom m_keptTo m_h) (some (.int res)) (wM E a b m_stones m_any m_backward m_ring m_two m_brooks m_readRow m_rowNow m_frogOn m_frogs m_kindOf m_moved m_movedFrom m_movedTo m_pageLength m_page m_faultAt m_isWhole m_newMany m_newSigns m_newRow m_long0 m_row m_far m_ways m_queue m_queueEnd m_endMany m_endSoon m_won m_seedNow m_isKept m_keptBrook m_keptMoved m_keptRow m_keptFrog m_keptFrom m_keptTo m_h) := by
  refine Ct.of (by decide) (Nat.le_of_ble_eq_true rfl) (fun Y hB hR => ?_)
  have hB : Cb E cX8_mayOver RX8 rX8_mayOver 3 Y := hB
  show J l E rX8_mayOver Y (wM E a b m_stones m_any m_backward m_ring m_two m_brooks m_readRow m_rowNow m_frogOn m_frogs m_kindOf m_moved m_movedFrom m_movedTo m_pageLength m_page m_faultAt m_isWhole m_newMany m_newSigns m_newRow m_long0 m_row m_far m_ways m_queue m_queueEnd m_endMany m_endSoon m_won m_seedNow m_isKept m_keptBrook m_keptMoved m_keptRow m_keptFrog m_keptFrom m_keptTo m_h) 0 [(0, .ref (a b)), (1, .int p0), (2, .int p1)] []
  unfold f_X8_mayOver at hf
  refine J_iload_n hB dX8_mayOver_0 rfl 2 rfl ?_
  refine J_if_le (tgt := 33) hB dX8_mayOver_1 rfl (fun c_1 => ?_) (fun c_1 => ?_)
  · have hf := it_t c_1 hf
    refine J_iconst (v := 0) hB dX8_mayOver_33 rfl ?_
    obtain rfl := Option.some.inj hf
    exact J_zret hB hR (Or.inl rfl) dX8_mayOver_34
  · have hf := it_f c_1 hf
    refine J_aload_n hB dX8_mayOver_4 rfl 0 rfl ?_
    refine J_get (v := .int m_any) hB inX8 0 rfl rfl 1 (Nat.le_of_ble_eq_true rfl) kf_X8_96 rfl dX8_mayOver_5 ?_
    refine jn0_e (P := J l E rX8_mayOver Y (wM E a b m_stones m_any m_backward m_ring m_two m_brooks m_readRow m_rowNow m_frogOn m_frogs m_kindOf m_moved m_movedFrom m_movedTo m_pageLength m_page m_faultAt m_isWhole m_newMany m_newSigns m_newRow m_long0 m_row m_far m_ways m_queue m_queueEnd m_endMany m_endSoon m_won m_seedNow m_isKept m_keptBrook m_keptMoved m_keptRow m_keptFrog m_keptFrom m_keptTo m_h) 29 [] []) hf (fun hf => ?_) (fun j29 hj29 hf => ?_)
    · refine J_iconst (v := 1) hB dX8_mayOver_29 rfl ?_
      refine J_goto (tgt := 34) hB dX8_mayOver_30 rfl ?_
      obtain rfl := Option.some.inj hf
      exact J_zret hB hR (Or.inr rfl) dX8_mayOver_34
    · refine J_if_ne (tgt := 29) hB dX8_mayOver_8 rfl (fun c_2 => ?_) (fun c_2 => ?_)
      · have hf := it_f c_2 hf
        exact J_lv [] rfl (hj29 hf)
      · have hf := it_t c_2 hf
        refine J_iload_n hB dX8_mayOver_11 rfl 2 rfl ?_
        obtain ⟨r_3, h_4, hf⟩ := cl1_e hf
        refine J_callS (As := [.int p1]) (rest := []) (n := 1) (ws' := wM E a b m_stones m_any m_backward m_ring m_two m_brooks m_readRow m_rowNow m_frogOn m_frogs m_kindOf m_moved m_movedFrom m_movedTo m_pageLength m_page m_faultAt m_isWhole m_newMany m_newSigns m_newRow m_long0 m_row m_far m_ways m_queue m_queueEnd m_endMany m_endSoon m_won m_seedNow m_isKept m_keptBrook m_keptMoved m_keptRow m_keptFrog m_keptFrom m_keptTo m_h) hB (c_X8_colour l E a h_4) mi_X8_colour ks_X8_colour km_X8_138 ⟨rfl, rfl, Nat.le_of_ble_eq_true rfl, Nat.le_of_ble_eq_true rfl⟩ Lies.none rfl rfl (Nat.le_of_ble_eq_true rfl) dX8_mayOver_12 ?_
        show J l E rX8_mayOver Y (wM E a b m_stones m_any m_backward m_ring m_two m_brooks m_readRow m_rowNow m_frogOn m_frogs m_kindOf m_moved m_movedFrom m_movedTo m_pageLength m_page m_faultAt m_isWhole m_newMany m_newSigns m_newRow m_long0 m_row m_far m_ways m_queue m_queueEnd m_endMany m_endSoon m_won m_seedNow m_isKept m_keptBrook m_keptMoved m_keptRow m_keptFrog m_keptFrom m_keptTo m_h) 15 [(0, .ref (a b)), (1, .int p0), (2, .int p1)] [.int r_3]
        refine J_if_le (tgt := 33) hB dX8_mayOver_15 rfl (fun c_5 => ?_) (fun c_5 => ?_)
        · have hf := it_t c_5 hf
          refine J_iconst (v := 0) hB dX8_mayOver_33 rfl ?_
          obtain rfl := Option.some.inj hf
          exact J_zret hB hR (Or.inl rfl) dX8_mayOver_34
        · have hf := it_f c_5 hf
          refine J_iload_n hB dX8_mayOver_18 rfl 2 rfl ?_
          obtain ⟨r_6, h_7, hf⟩ := cl1_e hf
          refine J_callS (As := [.int p1]) (rest := []) (n := 1) (ws' := wM E a b m_stones m_any m_backward m_ring m_two m_brooks m_readRow m_rowNow m_frogOn m_frogs m_kindOf m_moved m_movedFrom m_movedTo m_pageLength m_page m_faultAt m_isWhole m_newMany m_newSigns m_newRow m_long0 m_row m_far m_ways m_queue m_queueEnd m_endMany m_endSoon m_won m_seedNow m_isKept m_keptBrook m_keptMoved m_keptRow m_keptFrog m_keptFrom m_keptTo m_h) hB (c_X8_colour l E a h_7) mi_X8_colour ks_X8_colour km_X8_138 ⟨rfl, rfl, Nat.le_of_ble_eq_true rfl, Nat.le_of_ble_eq_true rfl⟩ Lies.none rfl rfl (Nat.le_of_ble_eq_true rfl) dX8_mayOver_19 ?_
          show J l E rX8_mayOver Y (wM E a b m_stones m_any m_backward m_ring m_two m_brooks m_readRow m_rowNow m_frogOn m_frogs m_kindOf m_moved m_movedFrom m_movedTo m_pageLength m_page m_faultAt m_isWhole m_newMany m_newSigns m_newRow m_long0 m_row m_far m_ways m_queue m_queueEnd m_endMany m_endSoon m_won m_seedNow m_isKept m_keptBrook m_keptMoved m_keptRow m_keptFrog m_keptFrom m_keptTo m_h) 22 [(0, .ref (a b)), (1, .int p0), (2, .int p1)] [.int r_6]
          refine J_iload_n hB dX8_mayOver_22 rfl 1 rfl ?_
          obtain ⟨r_8, h_9, hf⟩ := cl1_e hf
          refine J_callS (As := [.int p0]) (rest := [.int r_6]) (n := 1) (ws' := wM E a b m_stones m_any m_backward m_ring m_two m_brooks m_readRow m_rowNow m_frogOn m_frogs m_kindOf m_moved m_movedFrom m_movedTo m_pageLength m_page m_faultAt m_isWhole m_newMany m_newSigns m_newRow m_long0 m_row m_far m_ways m_queue m_queueEnd m_endMany m_endSoon m_won m_seedNow m_isKept m_keptBrook m_keptMoved m_keptRow m_keptFrog m_keptFrom m_keptTo m_h) hB (c_X8_colour l E a h_9) mi_X8_colour ks_X8_colour km_X8_138 ⟨rfl, rfl, Nat.le_of_ble_eq_true rfl, Nat.le_of_ble_eq_true rfl⟩ Lies.none rfl rfl (Nat.le_of_ble_eq_true rfl) dX8_mayOver_23 ?_
          show J l E rX8_mayOver Y (wM E a b m_stones m_any m_backward m_ring m_two m_brooks m_readRow m_rowNow m_frogOn m_frogs m_kindOf m_moved m_movedFrom m_movedTo m_pageLength m_page m_faultAt m_isWhole m_newMany m_newSigns m_newRow m_long0 m_row m_far m_ways m_queue m_queueEnd m_endMany m_endSoon m_won m_seedNow m_isKept m_keptBrook m_keptMoved m_keptRow m_keptFrog m_keptFrom m_keptTo m_h) 26 [(0, .ref (a b)), (1, .int p0), (2, .int p1)] [.int r_8, .int r_6]
          refine J_icmp_eq (tgt := 33) hB dX8_mayOver_26 rfl (fun c_10 => ?_) (fun c_10 => ?_)
          · have hf := it_t c_10 hf
            refine J_iconst (v := 0) hB dX8_mayOver_33 rfl ?_
            obtain rfl := Option.some.inj hf
            exact J_zret hB hR (Or.inl rfl) dX8_mayOver_34
          · have hf := it_f c_10 hf
            exact J_lv [] rfl (hj29 hf)
def f_X8_mayWay (m_any : Int32) (m_ring : Int32) (m_two : Int32) (m_long0 : Int32) (m_row : Nat → Int32) (p0 : Int32) (p1 : Int32) (p2 : Int32) : Option (Int32) :=
ald 7 m_row p0 fun v_1 =>
cl1 (f_X8_besides m_ring m_long0 p0 p2) fun r_3 =>
jn0 (
if r_3 = p1 then (
ald 7 m_row p1 fun v_6 =>
if v_6 = 0 then (
some 1) else (
some 0)) else (
some 0)) fun j28 =>
if r_3 = ((-1)) then (
j28) else (
if r_3 = p1 then (
j28) else (
if v_1 = 4 then (
some 0) else (
ald 7 m_row r_3 fun v_12 =>
cl1 (f_X8_mayOver m_any v_1 v_12) fun r_14 =>
if r_14 = 0 then (
some 0) else (
cl1 (f_X8_besides m_ring m_long0 r_3 p2) fun r_17 =>
jn0 (
if r_17 = p1 then (
ald 7 m_row p1 fun v_20 =>
if v_20 = 0 then (
some 1) else (
some 0)) else (
some 0)) fun j94 =>
if r_17 = ((-1)) then (
j94) else (
if r_17 = p1 then (
j94) else (
cl1 (f_X8_besides m_ring m_long0 r_17 p2) fun r_25 =>
if m_two = 0 then (
some 0) else (
ald 7 m_row r_17 fun v_28 =>
cl1 (f_X8_mayOver m_any v_1 v_28) fun r_30 =>
if r_30 = 0 then (
some 0) else (
if r_25 = p1 then (
ald 7 m_row p1 fun v_34 =>
if v_34 = 0 then (
some 1) else (
some 0)) else (
some 0)))))))))
abbrev rX8_mayWay : Room := { frames := 2, cells := 0, slots := 0, locals := 45 }
set_option maxRecDepth 100000 in
set_option maxHeartbeats 4000000 in
theorem c_X8_mayWay (l : Launch) (E : En) (a : Nat → Nat) (b : Nat) (m_stones : Int32) (m_any : Int32) (m_backward : Int32) (m_ring : Int32) (m_two : Int32) (m_brooks : Int32) (m_readRow : Nat → Int32) (m_rowNow : Nat → Int32) (m_frogOn : Nat → Int32) (m_frogs : Int32) (m_kindOf : Nat → Int32) (m_moved : Int32) (m_movedFrom : Nat → Int32) (m_movedTo : Nat → Int32) (m_pageLength : Int32) (m_page : Nat → Int32) (m_faultAt : Int32) (m_isWhole : Int32) (m_newMany : Int32) (m_newSigns : Int32) (m_newRow : Nat → Int32) (m_long0 : Int32) (m_row : Nat → Int32) (m_far : Nat → Int32) (m_ways : Nat → Int64) (m_queue : Nat → Int32) (m_queueEnd : Int32) (m_endMany : Int32) (m_endSoon : Int32) (m_won : Nat → Int32) (m_seedNow : Int64) (m_isKept : Int32) (m_keptBrook : Int32) (m_keptMoved : Int32) (m_keptRow : Nat → Int32) (m_keptFrog : Nat → Int32) (m_keptFrom : Nat → Int32) (m_keptTo : Nat → Int32) (m_h : Int64) {p0 : Int32} {p1 : Int32} {p2 : Int32} {res : Int32} (hf : f_X8_mayWay m_any m_ring m_two m_long0 m_row p0 p1 p2 = some res) : Ct l yX8_mayWay (.code yX8_mayWay cX8_mayWay 8 (some .boolean)) rX8_mayWay E [.ref (a b), .int p0, .int p1, .int p2] (wM E a b m_stones m_any m_backward m_ring m_two m_brooks m_readRow m_rowNow m_frogOn m_frogs m_kindOf m_moved m_movedFrom m_movedTo m_pageLength m_page m_faultAt m_isWhole m_newMany m_newSigns m_newRow m_long0 m_row m_far m_ways m_queue m_queueEnd m_endMany m_endSoon m_won m_seedNow m_isKept m_keptBrook m_keptMoved m_keptRow m_keptFrog m_keptFrom m_keptTo m_h) (some (.int res)) (wM E a b m_stones m_any m_backward m_ring m_two m_brooks m_readRow m_rowNow m_frogOn m_frogs m_kindOf m_moved m_movedFrom m_movedTo m_pageLength m_page m_faultAt m_isWhole m_newMany m_newSigns m_newRow m_long0 m_row m_far m_ways m_queue m_queueEnd m_endMany m_endSoon m_won m_seedNow m_isKept m_keptBrook m_keptMoved m_keptRow m_keptFrog m_keptFrom m_keptTo m_h) := by
  refine Ct.of (by decide) (Nat.le_of_ble_eq_true rfl) (fun Y hB hR => ?_)
  have hB : Cb E cX8_mayWay RX8 rX8_mayWay 8 Y := hB
  show J l E rX8_mayWay Y (wM E a b m_stones m_any m_backward m_ring m_two m_brooks m_readRow m_rowNow m_frogOn m_frogs m_kindOf m_moved m_movedFrom m_movedTo m_pageLength m_page m_faultAt m_isWhole m_newMany m_newSigns m_newRow m_long0 m_row m_far m_ways m_queue m_queueEnd m_endMany m_endSoon m_won m_seedNow m_isKept m_keptBrook m_keptMoved m_keptRow m_keptFrog m_keptFrom m_keptTo m_h) 0 [(0, .ref (a b)), (1, .int p0), (2, .int p1), (3, .int p2)] []
  unfold f_X8_mayWay at hf
  refine J_aload_n hB dX8_mayWay_0 rfl 0 rfl ?_
  refine J_get (v := .ref (a (b + 9))) hB inX8 0 rfl rfl 22 (Nat.le_of_ble_eq_true rfl) kf_X8_35 rfl dX8_mayWay_1 ?_
  refine J_iload_n hB dX8_mayWay_4 rfl 1 rfl ?_
  obtain ⟨v_1, ev_1, h_2, hf⟩ := ald_e hf
  refine J_iald hB 9 rfl ev_1 h_2 dX8_mayWay_5 ?_
  refine J_istore (lv' := [(4, .int v_1), (0, .ref (a b)), (1, .int p0), (2, .int p1), (3, .int p2)]) hB rfl dX8_mayWay_6 (Nat.le_of_ble_eq_true rfl) rfl ?_
  refine J_aload_n hB dX8_mayWay_8 rfl 1 rfl ?_
  refine J_iload_n hB dX8_mayWay_9 rfl 2 rfl ?_
  refine J_iload_n hB dX8_mayWay_10 rfl 4 rfl ?_
  obtain ⟨r_3, h_4, hf⟩ := cl1_e hf
  refine J_callV (As := [.int p0, .int p2]) (rest := []) (n := 2) (ws' := wM E a b m_stones m_any m_backward m_ring m_two m_brooks m_readRow m_rowNow m_frogOn m_frogs m_kindOf m_moved m_movedFrom m_movedTo m_pageLength m_page m_faultAt m_isWhole m_newMany m_newSigns m_newRow m_long0 m_row m_far m_ways m_queue m_queueEnd m_endMany m_endSoon m_won m_seedNow m_isKept m_keptBrook m_keptMoved m_keptRow m_keptFrog m_keptFrom m_keptTo m_h) hB (c_X8_besides l E a b m_stones m_any m_backward m_ring m_two m_brooks m_readRow m_rowNow m_frogOn m_frogs m_kindOf m_moved m_movedFrom m_movedTo m_pageLength m_page m_faultAt m_isWhole m_newMany m_newSigns m_newRow m_long0 m_row m_far m_ways m_queue m_queueEnd m_endMany m_endSoon m_won m_seedNow m_isKept m_keptBrook m_keptMoved m_keptRow m_keptFrog m_keptFrom m_keptTo m_h h_4) mi_X8_besides ⟨ki_X8_besides, kv_X8_besides⟩ km_X8_141 ⟨rfl, rfl, Nat.le_of_ble_eq_true rfl, Nat.le_of_ble_eq_true rfl⟩ Lies.same 0 rfl rfl rfl rfl (Nat.le_of_ble_eq_true rfl) dX8_mayWay_11 ?_
  show J l E rX8_mayWay Y (wM E a b m_stones m_any m_backward m_ring m_two m_brooks m_readRow m_rowNow m_frogOn m_frogs m_kindOf m_moved m_movedFrom m_movedTo m_pageLength m_page m_faultAt m_isWhole m_newMany m_newSigns m_newRow m_long0 m_row m_far m_ways m_queue m_queueEnd m_endMany m_endSoon m_won m_seedNow m_isKept m_keptBrook m_keptMoved m_keptRow m_keptFrog m_keptFrom m_keptTo m_h) 14 [(4, .int v_1), (0, .ref (a b)), (1, .int p0), (2, .int p1), (3, .int p2)] [.int r_3]
  refine J_istore (lv' := [(5, .int r_3), (4, .int v_1), (0, .ref (a b)), (1, .int p0), (2, .int p1), (3, .int p2)]) hB rfl dX8_mayWay_14 (Nat.le_of_ble_eq_true rfl) rfl ?_
  refine J_iload hB dX8_mayWay_16 0 rfl ?_
  refine J_iconst (v := (-1)) hB dX8_mayWay_18 rfl ?_
  refine jn0_e (P := J l E rX8_mayWay Y (wM E a b m_stones m_any m_backward m_ring m_two m_brooks m_readRow m_rowNow m_frogOn m_frogs m_kindOf m_moved m_movedFrom m_movedTo m_pageLength m_page m_faultAt m_isWhole m_newMany m_newSigns m_newRow m_long0 m_row m_far m_ways m_queue m_queueEnd m_endMany m_endSoon m_won m_seedNow m_isKept m_keptBrook m_keptMoved m_keptRow m_keptFrog m_keptFrom m_keptTo m_h) 28 [(0, .ref (a b)), (2, .int p1), (5, .int r_3)] []) hf (fun hf => ?_) (fun j28 hj28 hf => ?_)
  · refine J_iload hB dX8_mayWay_28 2 rfl ?_
    refine J_iload_n hB dX8_mayWay_30 rfl 1 rfl ?_
    refine J_icmp_ne (tgt := 47) hB dX8_mayWay_31 rfl (fun c_5 => ?_) (fun c_5 => ?_)
    · have hf := it_f c_5 hf
      refine J_iconst (v := 0) hB dX8_mayWay_47 rfl ?_
      obtain rfl := Option.some.inj hf
      exact J_zret hB hR (Or.inl rfl) dX8_mayWay_48
    · have hf := it_t c_5 hf
      refine J_aload_n hB dX8_mayWay_34 rfl 0 rfl ?_
      refine J_get (v := .ref (a (b + 9))) hB inX8 0 rfl rfl 22 (Nat.le_of_ble_eq_true rfl) kf_X8_35 rfl dX8_mayWay_35 ?_
      refine J_iload_n hB dX8_mayWay_38 rfl 1 rfl ?_
      obtain ⟨v_6, ev_6, h_7, hf⟩ := ald_e hf
      refine J_iald hB 9 rfl ev_6 h_7 dX8_mayWay_39 ?_
      refine J_if_ne (tgt := 47) hB dX8_mayWay_40 rfl (fun c_8 => ?_) (fun c_8 => ?_)
      · have hf := it_f c_8 hf
        refine J_iconst (v := 0) hB dX8_mayWay_47 rfl ?_
        obtain rfl := Option.some.inj hf
        exact J_zret hB hR (Or.inl rfl) dX8_mayWay_48
      · have hf := it_t c_8 hf
        refine J_iconst (v := 1) hB dX8_mayWay_43 rfl ?_
        refine J_goto (tgt := 48) hB dX8_mayWay_44 rfl ?_
        obtain rfl := Option.some.inj hf
        exact J_zret hB hR (Or.inr rfl) dX8_mayWay_48
  · refine J_icmp_eq (tgt := 28) hB dX8_mayWay_19 rfl (fun c_9 => ?_) (fun c_9 => ?_)
    · have hf := it_t c_9 hf
      exact J_lv [2, 4, 0] rfl (hj28 hf)
    · have hf := it_f c_9 hf
      refine J_iload hB dX8_mayWay_22 0 rfl ?_
      refine J_iload_n hB dX8_mayWay_24 rfl 4 rfl ?_
      refine J_icmp_ne (tgt := 49) hB dX8_mayWay_25 rfl (fun c_10 => ?_) (fun c_10 => ?_)
      · have hf := it_f c_10 hf
        refine J_iload hB dX8_mayWay_49 1 rfl ?_
        refine J_iconst (v := 4) hB dX8_mayWay_51 rfl ?_
        refine J_icmp_eq (tgt := 71) hB dX8_mayWay_52 rfl (fun c_11 => ?_) (fun c_11 => ?_)
        · have hf := it_t c_11 hf
          refine J_iconst (v := 0) hB dX8_mayWay_71 rfl ?_
          obtain rfl := Option.some.inj hf
          exact J_zret hB hR (Or.inl rfl) dX8_mayWay_72
        · have hf := it_f c_11 hf
          refine J_aload_n hB dX8_mayWay_55 rfl 2 rfl ?_
          refine J_iload hB dX8_mayWay_56 1 rfl ?_
          refine J_aload_n hB dX8_mayWay_58 rfl 2 rfl ?_
          refine J_get (v := .ref (a (b + 9))) hB inX8 0 rfl rfl 22 (Nat.le_of_ble_eq_true rfl) kf_X8_35 rfl dX8_mayWay_59 ?_
          refine J_iload hB dX8_mayWay_62 0 rfl ?_
          obtain ⟨v_12, ev_12, h_13, hf⟩ := ald_e hf
          refine J_iald hB 9 rfl ev_12 h_13 dX8_mayWay_64 ?_
          obtain ⟨r_14, h_15, hf⟩ := cl1_e hf
          refine J_callV (As := [.int v_1, .int v_12]) (rest := []) (n := 2) (ws' := wM E a b m_stones m_any m_backward m_ring m_two m_brooks m_readRow m_rowNow m_frogOn m_frogs m_kindOf m_moved m_movedFrom m_movedTo m_pageLength m_page m_faultAt m_isWhole m_newMany m_newSigns m_newRow m_long0 m_row m_far m_ways m_queue m_queueEnd m_endMany m_endSoon m_won m_seedNow m_isKept m_keptBrook m_keptMoved m_keptRow m_keptFrog m_keptFrom m_keptTo m_h) hB (c_X8_mayOver l E a b m_stones m_any m_backward m_ring m_two m_brooks m_readRow m_rowNow m_frogOn m_frogs m_kindOf m_moved m_movedFrom m_movedTo m_pageLength m_page m_faultAt m_isWhole m_newMany m_newSigns m_newRow m_long0 m_row m_far m_ways m_queue m_queueEnd m_endMany m_endSoon m_won m_seedNow m_isKept m_keptBrook m_keptMoved m_keptRow m_keptFrog m_keptFrom m_keptTo m_h h_15) mi_X8_mayOver ⟨ki_X8_mayOver, kv_X8_mayOver⟩ km_X8_144 ⟨rfl, rfl, Nat.le_of_ble_eq_true rfl, Nat.le_of_ble_eq_true rfl⟩ Lies.same 0 rfl rfl rfl rfl (Nat.le_of_ble_eq_true rfl) dX8_mayWay_65 ?_
          show J l E rX8_mayWay Y (wM E a b m_stones m_any m_backward m_ring m_two m_brooks m_readRow m_rowNow m_frogOn m_frogs m_kindOf m_moved m_movedFrom m_movedTo m_pageLength m_page m_faultAt m_isWhole m_newMany m_newSigns m_newRow m_long0 m_row m_far m_ways m_queue m_queueEnd m_endMany m_endSoon m_won m_seedNow m_isKept m_keptBrook m_keptMoved m_keptRow m_keptFrog m_keptFrom m_keptTo m_h) 68 [(5, .int r_3), (4, .int v_1), (0, .ref (a b)), (1, .int p0), (2, .int p1), (3, .int p2)] [.int r_14]
          refine J_if_ne (tgt := 73) hB dX8_mayWay_68 rfl (fun c_16 => ?_) (fun c_16 => ?_)
          · have hf := it_f c_16 hf
            refine J_aload_n hB dX8_mayWay_73 rfl 2 rfl ?_
            refine J_iload hB dX8_mayWay_74 0 rfl ?_
            refine J_iload_n hB dX8_mayWay_76 rfl 5 rfl ?_
            obtain ⟨r_17, h_18, hf⟩ := cl1_e hf
            refine J_callV (As := [.int r_3, .int p2]) (rest := []) (n := 2) (ws' := wM E a b m_stones m_any m_backward m_ring m_two m_brooks m_readRow m_rowNow m_frogOn m_frogs m_kindOf m_moved m_movedFrom m_movedTo m_pageLength m_page m_faultAt m_isWhole m_newMany m_newSigns m_newRow m_long0 m_row m_far m_ways m_queue m_queueEnd m_endMany m_endSoon m_won m_seedNow m_isKept m_keptBrook m_keptMoved m_keptRow m_keptFrog m_keptFrom m_keptTo m_h) hB (c_X8_besides l E a b m_stones m_any m_backward m_ring m_two m_brooks m_readRow m_rowNow m_frogOn m_frogs m_kindOf m_moved m_movedFrom m_movedTo m_pageLength m_page m_faultAt m_isWhole m_newMany m_newSigns m_newRow m_long0 m_row m_far m_ways m_queue m_queueEnd m_endMany m_endSoon m_won m_seedNow m_isKept m_keptBrook m_keptMoved m_keptRow m_keptFrog m_keptFrom m_keptTo m_h h_18) mi_X8_besides ⟨ki_X8_besides, kv_X8_besides⟩ km_X8_141 ⟨rfl, rfl, Nat.le_of_ble_eq_true rfl, Nat.le_of_ble_eq_true rfl⟩ Lies.same 0 rfl rfl rfl rfl (Nat.le_of_ble_eq_true rfl) dX8_mayWay_77 ?_
            show J l E rX8_mayWay Y (wM E a b m_stones m_any m_backward m_ring m_two m_brooks m_readRow m_rowNow m_frogOn m_frogs m_kindOf m_moved m_movedFrom m_movedTo m_pageLength m_page m_faultAt m_isWhole m_newMany m_newSigns m_newRow m_long0 m_row m_far m_ways m_queue m_queueEnd m_endMany m_endSoon m_won m_seedNow m_isKept m_keptBrook m_keptMoved m_keptRow m_keptFrog m_keptFrom m_keptTo m_h) 80 [(5, .int r_3), (4, .int v_1), (0, .ref (a b)), (1, .int p0), (2, .int p1), (3, .int p2)] [.int r_17]
            refine J_istore (lv' := [(6, .int r_17), (5, .int r_3), (4, .int v_1), (0, .ref (a b)), (1, .int p0), (2, .int p1), (3, .int p2)]) hB rfl dX8_mayWay_80 (Nat.le_of_ble_eq_true rfl) rfl ?_
            refine J_iload hB dX8_mayWay_82 0 rfl ?_
            refine J_iconst (v := (-1)) hB dX8_mayWay_84 rfl ?_
            refine jn0_e (P := J l E rX8_mayWay Y (wM E a b m_stones m_any m_backward m_ring m_two m_brooks m_readRow m_rowNow m_frogOn m_frogs m_kindOf m_moved m_movedFrom m_movedTo m_pageLength m_page m_faultAt m_isWhole m_newMany m_newSigns m_newRow m_long0 m_row m_far m_ways m_queue m_queueEnd m_endMany m_endSoon m_won m_seedNow m_isKept m_keptBrook m_keptMoved m_keptRow m_keptFrog m_keptFrom m_keptTo m_h) 94 [(0, .ref (a b)), (2, .int p1), (6, .int r_17)] []) hf (fun hf => ?_) (fun j94 hj94 hf => ?_)
            · refine J_iload hB dX8_mayWay_94 2 rfl ?_
              refine J_iload_n hB dX8_mayWay_96 rfl 1 rfl ?_
              refine J_icmp_ne (tgt := 113) hB dX8_mayWay_97 rfl (fun c_19 => ?_) (fun c_19 => ?_)
              · have hf := it_f c_19 hf
                refine J_iconst (v := 0) hB dX8_mayWay_113 rfl ?_
                obtain rfl := Option.some.inj hf
                exact J_zret hB hR (Or.inl rfl) dX8_mayWay_114
              · have hf := it_t c_19 hf
                refine J_aload_n hB dX8_mayWay_100 rfl 0 rfl ?_
                refine J_get (v := .ref (a (b + 9))) hB inX8 0 rfl rfl 22 (Nat.le_of_ble_eq_true rfl) kf_X8_35 rfl dX8_mayWay_101 ?_
                refine J_iload_n hB dX8_mayWay_104 rfl 1 rfl ?_
                obtain ⟨v_20, ev_20, h_21, hf⟩ := ald_e hf
                refine J_iald hB 9 rfl ev_20 h_21 dX8_mayWay_105 ?_
                refine J_if_ne (tgt := 113) hB dX8_mayWay_106 rfl (fun c_22 => ?_) (fun c_22 => ?_)
                · have hf := it_f c_22 hf
                  refine J_iconst (v := 0) hB dX8_mayWay_113 rfl ?_
                  obtain rfl := Option.some.inj hf
                  exact J_zret hB hR (Or.inl rfl) dX8_mayWay_114
                · have hf := it_t c_22 hf
                  refine J_iconst (v := 1) hB dX8_mayWay_109 rfl ?_
                  refine J_goto (tgt := 114) hB dX8_mayWay_110 rfl ?_
                  obtain rfl := Option.some.inj hf
                  exact J_zret hB hR (Or.inr rfl) dX8_mayWay_114
            · refine J_icmp_eq (tgt := 94) hB dX8_mayWay_85 rfl (fun c_23 => ?_) (fun c_23 => ?_)
              · have hf := it_t c_23 hf
                exact J_lv [3, 5, 0] rfl (hj94 hf)
              · have hf := it_f c_23 hf
                refine J_iload hB dX8_mayWay_88 0 rfl ?_
                refine J_iload_n hB dX8_mayWay_90 rfl 5 rfl ?_
                refine J_icmp_ne (tgt := 115) hB dX8_mayWay_91 rfl (fun c_24 => ?_) (fun c_24 => ?_)
                · have hf := it_f c_24 hf
                  refine J_aload_n hB dX8_mayWay_115 rfl 3 rfl ?_
                  refine J_iload hB dX8_mayWay_116 0 rfl ?_
                  refine J_iload_n hB dX8_mayWay_118 rfl 6 rfl ?_
                  obtain ⟨r_25, h_26, hf⟩ := cl1_e hf
                  refine J_callV (As := [.int r_17, .int p2]) (rest := []) (n := 2) (ws' := wM E a b m_stones m_any m_backward m_ring m_two m_brooks m_readRow m_rowNow m_frogOn m_frogs m_kindOf m_moved m_movedFrom m_movedTo m_pageLength m_page m_faultAt m_isWhole m_newMany m_newSigns m_newRow m_long0 m_row m_far m_ways m_queue m_queueEnd m_endMany m_endSoon m_won m_seedNow m_isKept m_keptBrook m_keptMoved m_keptRow m_keptFrog m_keptFrom m_keptTo m_h) hB (c_X8_besides l E a b m_stones m_any m_backward m_ring m_two m_brooks m_readRow m_rowNow m_frogOn m_frogs m_kindOf m_moved m_movedFrom m_movedTo m_pageLength m_page m_faultAt m_isWhole m_newMany m_newSigns m_newRow m_long0 m_row m_far m_ways m_queue m_queueEnd m_endMany m_endSoon m_won m_seedNow m_isKept m_keptBrook m_keptMoved m_keptRow m_keptFrog m_keptFrom m_keptTo m_h h_26) mi_X8_besides ⟨ki_X8_besides, kv_X8_besides⟩ km_X8_141 ⟨rfl, rfl, Nat.le_of_ble_eq_true rfl, Nat.le_of_ble_eq_true rfl⟩ Lies.same 0 rfl rfl rfl rfl (Nat.le_of_ble_eq_true rfl) dX8_mayWay_119 ?_
                  show J l E rX8_mayWay Y (wM E a b m_stones m_any m_backward m_ring m_two m_brooks m_readRow m_rowNow m_frogOn m_frogs m_kindOf m_moved m_movedFrom m_movedTo m_pageLength m_page m_faultAt m_isWhole m_newMany m_newSigns m_newRow m_long0 m_row m_far m_ways m_queue m_queueEnd m_endMany m_endSoon m_won m_seedNow m_isKept m_keptBrook m_keptMoved m_keptRow m_keptFrog m_keptFrom m_keptTo m_h) 122 [(6, .int r_17), (5, .int r_3), (4, .int v_1), (0, .ref (a b)), (1, .int p0), (2, .int p1), (3, .int p2)] [.int r_25]
                  refine J_istore (lv' := [(7, .int r_25), (6, .int r_17), (5, .int r_3), (4, .int v_1), (0, .ref (a b)), (1, .int p0), (2, .int p1), (3, .int p2)]) hB rfl dX8_mayWay_122 (Nat.le_of_ble_eq_true rfl) rfl ?_
                  refine J_aload_n hB dX8_mayWay_124 rfl 4 rfl ?_
                  refine J_get (v := .int m_two) hB inX8 0 rfl rfl 4 (Nat.le_of_ble_eq_true rfl) kf_X8_105 rfl dX8_mayWay_125 ?_
                  refine J_if_eq (tgt := 166) hB dX8_mayWay_128 rfl (fun c_27 => ?_) (fun c_27 => ?_)
                  · have hf := it_t c_27 hf
                    refine J_iconst (v := 0) hB dX8_mayWay_166 rfl ?_
                    obtain rfl := Option.some.inj hf
                    exact J_zret hB hR (Or.inl rfl) dX8_mayWay_167
                  · have hf := it_f c_27 hf
                    refine J_aload_n hB dX8_mayWay_131 rfl 4 rfl ?_
                    refine J_iload hB dX8_mayWay_132 3 rfl ?_
                    refine J_aload_n hB dX8_mayWay_134 rfl 4 rfl ?_
                    refine J_get (v := .ref (a (b + 9))) hB inX8 0 rfl rfl 22 (Nat.le_of_ble_eq_true rfl) kf_X8_35 rfl dX8_mayWay_135 ?_
                    refine J_iload hB dX8_mayWay_138 1 rfl ?_
                    obtain ⟨v_28, ev_28, h_29, hf⟩ := ald_e hf
                    refine J_iald hB 9 rfl ev_28 h_29 dX8_mayWay_140 ?_
                    obtain ⟨r_30, h_31, hf⟩ := cl1_e hf
                    refine J_callV (As := [.int v_1, .int v_28]) (rest := []) (n := 2) (ws' := wM E a b m_stones m_any m_backward m_ring m_two m_brooks m_readRow m_rowNow m_frogOn m_frogs m_kindOf m_moved m_movedFrom m_movedTo m_pageLength m_page m_faultAt m_isWhole m_newMany m_newSigns m_newRow m_long0 m_row m_far m_ways m_queue m_queueEnd m_endMany m_endSoon m_won m_seedNow m_isKept m_keptBrook m_keptMoved m_keptRow m_keptFrog m_keptFrom m_keptTo m_h) hB (c_X8_mayOver l E a b m_stones m_any m_backward m_ring m_two m_brooks m_readRow m_rowNow m_frogOn m_frogs m_kindOf m_moved m_movedFrom m_movedTo m_pageLength m_page m_faultAt m_isWhole m_newMany m_newSigns m_newRow m_long0 m_row m_far m_ways m_queue m_queueEnd m_endMany m_endSoon m_won m_seedNow m_isKept m_keptBrook m_keptMoved m_keptRow m_keptFrog m_keptFrom m_keptTo m_h h_31) mi_X8_mayOver ⟨ki_X8_mayOver, kv_X8_mayOver⟩ km_X8_144 ⟨rfl, rfl, Nat.le_of_ble_eq_true rfl, Nat.le_of_ble_eq_true rfl⟩ Lies.same 0 rfl rfl rfl rfl (Nat.le_of_ble_eq_true rfl) dX8_mayWay_141 ?_
                    show J l E rX8_mayWay Y (wM E a b m_stones m_any m_backward m_ring m_two m_brooks m_readRow m_rowNow m_frogOn m_frogs m_kindOf m_moved m_movedFrom m_movedTo m_pageLength m_page m_faultAt m_isWhole m_newMany m_newSigns m_newRow m_long0 m_row m_far m_ways m_queue m_queueEnd m_endMany m_endSoon m_won m_seedNow m_isKept m_keptBrook m_keptMoved m_keptRow m_keptFrog m_keptFrom m_keptTo m_h) 144 [(7, .int r_25), (6, .int r_17), (5, .int r_3), (4, .int v_1), (0, .ref (a b)), (1, .int p0), (2, .int p1), (3, .int p2)] [.int r_30]
                    refine J_if_eq (tgt := 166) hB dX8_mayWay_144 rfl (fun c_32 => ?_) (fun c_32 => ?_)
                    · have hf := it_t c_32 hf
                      refine J_iconst (v := 0) hB dX8_mayWay_166 rfl ?_
                      obtain rfl := Option.some.inj hf
                      exact J_zret hB hR (Or.inl rfl) dX8_mayWay_167
                    · have hf := it_f c_32 hf
                      refine J_iload hB dX8_mayWay_147 0 rfl ?_
                      refine J_iload_n hB dX8_mayWay_149 rfl 6 rfl ?_
                      refine J_icmp_ne (tgt := 166) hB dX8_mayWay_150 rfl (fun c_33 => ?_) (fun c_33 => ?_)
                      · have hf := it_f c_33 hf
                        refine J_iconst (v := 0) hB dX8_mayWay_166 rfl ?_
                        obtain rfl := Option.some.inj hf
                        exact J_zret hB hR (Or.inl rfl) dX8_mayWay_167
                      · have hf := it_t c_33 hf
                        refine J_aload_n hB dX8_mayWay_153 rfl 4 rfl ?_
                        refine J_get (v := .ref (a (b + 9))) hB inX8 0 rfl rfl 22 (Nat.le_of_ble_eq_true rfl) kf_X8_35 rfl dX8_mayWay_154 ?_
                        refine J_iload_n hB dX8_mayWay_157 rfl 6 rfl ?_
                        obtain ⟨v_34, ev_34, h_35, hf⟩ := ald_e hf
                        refine J_iald hB 9 rfl ev_34 h_35 dX8_mayWay_158 ?_
                        refine J_if_ne (tgt := 166) hB dX8_mayWay_159 rfl (fun c_36 => ?_) (fun c_36 => ?_)
                        · have hf := it_f c_36 hf
                          refine J_iconst (v := 0) hB dX8_mayWay_166 rfl ?_
                          obtain rfl := Option.some.inj hf
                          exact J_zret hB hR (Or.inl rfl) dX8_mayWay_167
                        · have hf := it_t c_36 hf
                          refine J_iconst (v := 1) hB dX8_mayWay_162 rfl ?_
                          refine J_goto (tgt := 167) hB dX8_mayWay_163 rfl ?_
                          obtain rfl := Option.some.inj hf
                          exact J_zret hB hR (Or.inr rfl) dX8_mayWay_167
                · have hf := it_t c_24 hf
                  exact J_lv [3, 5, 0] rfl (hj94 hf)
          · have hf := it_t c_16 hf
            refine J_iconst (v := 0) hB dX8_mayWay_71 rfl ?_
            obtain rfl := Option.some.inj hf
            exact J_zret hB hR (Or.inl rfl) dX8_mayWay_72
      · have hf := it_t c_10 hf
        exact J_lv [2, 4, 0] rfl (hj28 hf)
def f_X8_mayMove (m_any : Int32) (m_backward : Int32) (m_ring : Int32) (m_two : Int32) (m_long0 : Int32) (m_row : Nat → Int32) (p0 : Int32) (p1 : Int32) : Option (Int32) :=
ald 7 m_row p0 fun v_1 =>
if v_1 = 0 then (
some 0) else (
if v_1 = 3 then (
some 0) else (
if p0 = p1 then (
some 0) else (
cl1 (f_X8_colour v_1) fun r_6 =>
jn1 (fun (s_8 : Int32) =>
cl1 (f_X8_mayWay m_any m_ring m_two m_long0 m_row p0 p1 s_8) fun r_9 =>
jn0 (
some 1) fun j68 =>
if r_9 = 0 then (
if m_backward = 0 then (
some 0) else (
cl1 (f_X8_mayWay m_any m_ring m_two m_long0 m_row p0 p1 (-s_8)) fun r_13 =>
if r_13 = 0 then (
some 0) else (
j68))) else (
j68)) fun j36 =>
if r_6 = 1 then (
j36 1) else (
j36 ((-1))))))
abbrev rX8_mayMove : Room := { frames := 3, cells := 0, slots := 0, locals := 72 }
set_option maxRecDepth 100000 in
set_option maxHeartbeats 4000000 in
theorem c_X8_mayMove (l : Launch) (E : En) (a : Nat → Nat) (b : Nat) (m_stones : Int32) (m_any : Int32) (m_backward : Int32) (m_ring : Int32) (m_two : Int32) (m_brooks : Int32) (m_readRow : Nat → Int32) (m_rowNow : Nat → Int32) (m_frogOn : Nat → Int32) (m_frogs : Int32) (m_kindOf : Nat → Int32) (m_moved : Int32) (m_movedFrom : Nat → Int32) (m_movedTo : Nat → Int32) (m_pageLength : Int32) (m_page : Nat → Int32) (m_faultAt : Int32) (m_isWhole : Int32) (m_newMany : Int32) (m_newSigns : Int32) (m_newRow : Nat → Int32) (m_long0 : Int32) (m_row : Nat → Int32) (m_far : Nat → Int32) (m_ways : Nat → Int64) (m_queue : Nat → Int32) (m_queueEnd : Int32) (m_endMany : Int32) (m_endSoon : Int32) (m_won : Nat → Int32) (m_seedNow : Int64) (m_isKept : Int32) (m_keptBrook : Int32) (m_keptMoved : Int32) (m_keptRow : Nat → Int32) (m_keptFrog : Nat → Int32) (m_keptFrom : Nat → Int32) (m_keptTo : Nat → Int32) (m_h : Int64) {p0 : Int32} {p1 : Int32} {res : Int32} (hf : f_X8_mayMove m_any m_backward m_ring m_two m_long0 m_row p0 p1 = some res) : Ct l yX8_mayMove (.code yX8_mayMove cX8_mayMove 5 (some .boolean)) rX8_mayMove E [.ref (a b), .int p0, .int p1] (wM E a b m_stones m_any m_backward m_ring m_two m_brooks m_readRow m_rowNow m_frogOn m_frogs m_kindOf m_moved m_movedFrom m_movedTo m_pageLength m_page m_faultAt m_isWhole m_newMany m_newSigns m_newRow m_long0 m_row m_far m_ways m_queue m_queueEnd m_endMany m_endSoon m_won m_seedNow m_isKept m_keptBrook m_keptMoved m_keptRow m_keptFrog m_keptFrom m_keptTo m_h) (some (.int res)) (wM E a b m_stones m_any m_backward m_ring m_two m_brooks m_readRow m_rowNow m_frogOn m_frogs m_kindOf m_moved m_movedFrom m_movedTo m_pageLength m_page m_faultAt m_isWhole m_newMany m_newSigns m_newRow m_long0 m_row m_far m_ways m_queue m_queueEnd m_endMany m_endSoon m_won m_seedNow m_isKept m_keptBrook m_keptMoved m_keptRow m_keptFrog m_keptFrom m_keptTo m_h) := by
  refine Ct.of (by decide) (Nat.le_of_ble_eq_true rfl) (fun Y hB hR => ?_)
  have hB : Cb E cX8_mayMove RX8 rX8_mayMove 5 Y := hB
  show J l E rX8_mayMove Y (wM E a b m_stones m_any m_backward m_ring m_two m_brooks m_readRow m_rowNow m_frogOn m_frogs m_kindOf m_moved m_movedFrom m_movedTo m_pageLength m_page m_faultAt m_isWhole m_newMany m_newSigns m_newRow m_long0 m_row m_far m_ways m_queue m_queueEnd m_endMany m_endSoon m_won m_seedNow m_isKept m_keptBrook m_keptMoved m_keptRow m_keptFrog m_keptFrom m_keptTo m_h) 0 [(0, .ref (a b)), (1, .int p0), (2, .int p1)] []
  unfold f_X8_mayMove at hf
  refine J_aload_n hB dX8_mayMove_0 rfl 0 rfl ?_
  refine J_get (v := .ref (a (b + 9))) hB inX8 0 rfl rfl 22 (Nat.le_of_ble_eq_true rfl) kf_X8_35 rfl dX8_mayMove_1 ?_
  refine J_iload_n hB dX8_mayMove_4 rfl 1 rfl ?_
  obtain ⟨v_1, ev_1, h_2, hf⟩ := ald_e hf
  refine J_iald hB 9 rfl ev_1 h_2 dX8_mayMove_5 ?_
  refine J_istore_n (lv' := [(3, .int v_1), (0, .ref (a b)), (1, .int p0), (2, .int p1)]) hB rfl dX8_mayMove_6 rfl (Nat.le_of_ble_eq_true rfl) rfl ?_
  refine J_iload_n hB dX8_mayMove_7 rfl 0 rfl ?_
  refine J_if_eq (tgt := 21) hB dX8_mayMove_8 rfl (fun c_3 => ?_) (fun c_3 => ?_)
  · have hf := it_t c_3 hf
    refine J_iconst (v := 0) hB dX8_mayMove_21 rfl ?_
    obtain rfl := Option.some.inj hf
    exact J_zret hB hR (Or.inl rfl) dX8_mayMove_22
  · have hf := it_f c_3 hf
    refine J_iload_n hB dX8_mayMove_11 rfl 0 rfl ?_
    refine J_iconst (v := 3) hB dX8_mayMove_12 rfl ?_
    refine J_icmp_eq (tgt := 21) hB dX8_mayMove_13 rfl (fun c_4 => ?_) (fun c_4 => ?_)
    · have hf := it_t c_4 hf
      refine J_iconst (v := 0) hB dX8_mayMove_21 rfl ?_
      obtain rfl := Option.some.inj hf
      exact J_zret hB hR (Or.inl rfl) dX8_mayMove_22
    · have hf := it_f c_4 hf
      refine J_iload_n hB dX8_mayMove_16 rfl 2 rfl ?_
      refine J_iload_n hB dX8_mayMove_17 rfl 3 rfl ?_
      refine J_icmp_ne (tgt := 23) hB dX8_mayMove_18 rfl (fun c_5 => ?_) (fun c_5 => ?_)
      · have hf := it_f c_5 hf
        refine J_iload_n hB dX8_mayMove_23 rfl 0 rfl ?_
        obtain ⟨r_6, h_7, hf⟩ := cl1_e hf
        refine J_callS (As := [.int v_1]) (rest := []) (n := 1) (ws' := wM E a b m_stones m_any m_backward m_ring m_two m_brooks m_readRow m_rowNow m_frogOn m_frogs m_kindOf m_moved m_movedFrom m_movedTo m_pageLength m_page m_faultAt m_isWhole m_newMany m_newSigns m_newRow m_long0 m_row m_far m_ways m_queue m_queueEnd m_endMany m_endSoon m_won m_seedNow m_isKept m_keptBrook m_keptMoved m_keptRow m_keptFrog m_keptFrom m_keptTo m_h) hB (c_X8_colour l E a h_7) mi_X8_colour ks_X8_colour km_X8_138 ⟨rfl, rfl, Nat.le_of_ble_eq_true rfl, Nat.le_of_ble_eq_true rfl⟩ Lies.none rfl rfl (Nat.le_of_ble_eq_true rfl) dX8_mayMove_24 ?_
        show J l E rX8_mayMove Y (wM E a b m_stones m_any m_backward m_ring m_two m_brooks m_readRow m_rowNow m_frogOn m_frogs m_kindOf m_moved m_movedFrom m_movedTo m_pageLength m_page m_faultAt m_isWhole m_newMany m_newSigns m_newRow m_long0 m_row m_far m_ways m_queue m_queueEnd m_endMany m_endSoon m_won m_seedNow m_isKept m_keptBrook m_keptMoved m_keptRow m_keptFrog m_keptFrom m_keptTo m_h) 27 [(3, .int v_1), (0, .ref (a b)), (1, .int p0), (2, .int p1)] [.int r_6]
        refine J_iconst (v := 1) hB dX8_mayMove_27 rfl ?_
        refine jn1_e (P := fun s_8 => J l E rX8_mayMove Y (wM E a b m_stones m_any m_backward m_ring m_two m_brooks m_readRow m_rowNow m_frogOn m_frogs m_kindOf m_moved m_movedFrom m_movedTo m_pageLength m_page m_faultAt m_isWhole m_newMany m_newSigns m_newRow m_long0 m_row m_far m_ways m_queue m_queueEnd m_endMany m_endSoon m_won m_seedNow m_isKept m_keptBrook m_keptMoved m_keptRow m_keptFrog m_keptFrom m_keptTo m_h) 36 [(0, .ref (a b)), (1, .int p0), (2, .int p1)] [.int s_8]) hf (fun s_8 hf => ?_) (fun j36 hj36 hf => ?_)
        · refine J_istore (lv' := [(4, .int s_8), (0, .ref (a b)), (1, .int p0), (2, .int p1)]) hB rfl dX8_mayMove_36 (Nat.le_of_ble_eq_true rfl) rfl ?_
          refine J_aload_n hB dX8_mayMove_38 rfl 1 rfl ?_
          refine J_iload_n hB dX8_mayMove_39 rfl 2 rfl ?_
          refine J_iload_n hB dX8_mayMove_40 rfl 3 rfl ?_
          refine J_iload hB dX8_mayMove_41 0 rfl ?_
          obtain ⟨r_9, h_10, hf⟩ := cl1_e hf
          refine J_callV (As := [.int p0, .int p1, .int s_8]) (rest := []) (n := 3) (ws' := wM E a b m_stones m_any m_backward m_ring m_two m_brooks m_readRow m_rowNow m_frogOn m_frogs m_kindOf m_moved m_movedFrom m_movedTo m_pageLength m_page m_faultAt m_isWhole m_newMany m_newSigns m_newRow m_long0 m_row m_far m_ways m_queue m_queueEnd m_endMany m_endSoon m_won m_seedNow m_isKept m_keptBrook m_keptMoved m_keptRow m_keptFrog m_keptFrom m_keptTo m_h) hB (c_X8_mayWay l E a b m_stones m_any m_backward m_ring m_two m_brooks m_readRow m_rowNow m_frogOn m_frogs m_kindOf m_moved m_movedFrom m_movedTo m_pageLength m_page m_faultAt m_isWhole m_newMany m_newSigns m_newRow m_long0 m_row m_far m_ways m_queue m_queueEnd m_endMany m_endSoon m_won m_seedNow m_isKept m_keptBrook m_keptMoved m_keptRow m_keptFrog m_keptFrom m_keptTo m_h h_10) mi_X8_mayWay ⟨ki_X8_mayWay, kv_X8_mayWay⟩ km_X8_148 ⟨rfl, rfl, Nat.le_of_ble_eq_true rfl, Nat.le_of_ble_eq_true rfl⟩ Lies.same 0 rfl rfl rfl rfl (Nat.le_of_ble_eq_true rfl) dX8_mayMove_43 ?_
          show J l E rX8_mayMove Y (wM E a b m_stones m_any m_backward m_ring m_two m_brooks m_readRow m_rowNow m_frogOn m_frogs m_kindOf m_moved m_movedFrom m_movedTo m_pageLength m_page m_faultAt m_isWhole m_newMany m_newSigns m_newRow m_long0 m_row m_far m_ways m_queue m_queueEnd m_endMany m_endSoon m_won m_seedNow m_isKept m_keptBrook m_keptMoved m_keptRow m_keptFrog m_keptFrom m_keptTo m_h) 46 [(4, .int s_8), (0, .ref (a b)), (1, .int p0), (2, .int p1)] [.int r_9]
          refine jn0_e (P := J l E rX8_mayMove Y (wM E a b m_stones m_any m_backward m_ring m_two m_brooks m_readRow m_rowNow m_frogOn m_frogs m_kindOf m_moved m_movedFrom m_movedTo m_pageLength m_page m_faultAt m_isWhole m_newMany m_newSigns m_newRow m_long0 m_row m_far m_ways m_queue m_queueEnd m_endMany m_endSoon m_won m_seedNow m_isKept m_keptBrook m_keptMoved m_keptRow m_keptFrog m_keptFrom m_keptTo m_h) 68 [] []) hf (fun hf => ?_) (fun j68 hj68 hf => ?_)
          · refine J_iconst (v := 1) hB dX8_mayMove_68 rfl ?_
            refine J_goto (tgt := 73) hB dX8_mayMove_69 rfl ?_
            obtain rfl := Option.some.inj hf
            exact J_zret hB hR (Or.inr rfl) dX8_mayMove_73
          · refine J_if_ne (tgt := 68) hB dX8_mayMove_46 rfl (fun c_11 => ?_) (fun c_11 => ?_)
            · have hf := it_f c_11 hf
              exact J_lv [] rfl (hj68 hf)
            · have hf := it_t c_11 hf
              refine J_aload_n hB dX8_mayMove_49 rfl 1 rfl ?_
              refine J_get (v := .int m_backward) hB inX8 0 rfl rfl 2 (Nat.le_of_ble_eq_true rfl) kf_X8_99 rfl dX8_mayMove_50 ?_
              refine J_if_eq (tgt := 72) hB dX8_mayMove_53 rfl (fun c_12 => ?_) (fun c_12 => ?_)
              · have hf := it_t c_12 hf
                refine J_iconst (v := 0) hB dX8_mayMove_72 rfl ?_
                obtain rfl := Option.some.inj hf
                exact J_zret hB hR (Or.inl rfl) dX8_mayMove_73
              · have hf := it_f c_12 hf
                refine J_aload_n hB dX8_mayMove_56 rfl 1 rfl ?_
                refine J_iload_n hB dX8_mayMove_57 rfl 2 rfl ?_
                refine J_iload_n hB dX8_mayMove_58 rfl 3 rfl ?_
                refine J_iload hB dX8_mayMove_59 0 rfl ?_
                refine J_ineg hB dX8_mayMove_61 ?_
                obtain ⟨r_13, h_14, hf⟩ := cl1_e hf
                refine J_callV (As := [.int p0, .int p1, .int (-s_8)]) (rest := []) (n := 3) (ws' := wM E a b m_stones m_any m_backward m_ring m_two m_brooks m_readRow m_rowNow m_frogOn m_frogs m_kindOf m_moved m_movedFrom m_movedTo m_pageLength m_page m_faultAt m_isWhole m_newMany m_newSigns m_newRow m_long0 m_row m_far m_ways m_queue m_queueEnd m_endMany m_endSoon m_won m_seedNow m_isKept m_keptBrook m_keptMoved m_keptRow m_keptFrog m_keptFrom m_keptTo m_h) hB (c_X8_mayWay l E a b m_stones m_any m_backward m_ring m_two m_brooks m_readRow m_rowNow m_frogOn m_frogs m_kindOf m_moved m_movedFrom m_movedTo m_pageLength m_page m_faultAt m_isWhole m_newMany m_newSigns m_newRow m_long0 m_row m_far m_ways m_queue m_queueEnd m_endMany m_endSoon m_won m_seedNow m_isKept m_keptBrook m_keptMoved m_keptRow m_keptFrog m_keptFrom m_keptTo m_h h_14) mi_X8_mayWay ⟨ki_X8_mayWay, kv_X8_mayWay⟩ km_X8_148 ⟨rfl, rfl, Nat.le_of_ble_eq_true rfl, Nat.le_of_ble_eq_true rfl⟩ Lies.same 0 rfl rfl rfl rfl (Nat.le_of_ble_eq_true rfl) dX8_mayMove_62 ?_
                show J l E rX8_mayMove Y (wM E a b m_stones m_any m_backward m_ring m_two m_brooks m_readRow m_rowNow m_frogOn m_frogs m_kindOf m_moved m_movedFrom m_movedTo m_pageLength m_page m_faultAt m_isWhole m_newMany m_newSigns m_newRow m_long0 m_row m_far m_ways m_queue m_queueEnd m_endMany m_endSoon m_won m_seedNow m_isKept m_keptBrook m_keptMoved m_keptRow m_keptFrog m_keptFrom m_keptTo m_h) 65 [(4, .int s_8), (0, .ref (a b)), (1, .int p0), (2, .int p1)] [.int r_13]
                refine J_if_eq (tgt := 72) hB dX8_mayMove_65 rfl (fun c_15 => ?_) (fun c_15 => ?_)
                · have hf := it_t c_15 hf
                  refine J_iconst (v := 0) hB dX8_mayMove_72 rfl ?_
                  obtain rfl := Option.some.inj hf
                  exact J_zret hB hR (Or.inl rfl) dX8_mayMove_73
                · have hf := it_f c_15 hf
                  exact J_lv [] rfl (hj68 hf)
        · refine J_icmp_ne (tgt := 35) hB dX8_mayMove_28 rfl (fun c_16 => ?_) (fun c_16 => ?_)
          · have hf := it_f c_16 hf
            refine J_iconst (v := (-1)) hB dX8_mayMove_35 rfl ?_
            exact J_lv [1, 2, 3] rfl (hj36 ((-1)) hf)
          · have hf := it_t c_16 hf
            refine J_iconst (v := 1) hB dX8_mayMove_31 rfl ?_
            refine J_goto (tgt := 36) hB dX8_mayMove_32 rfl ?_
            exact J_lv [1, 2, 3] rfl (hj36 1 hf)
      · have hf := it_t c_5 hf
        refine J_iconst (v := 0) hB dX8_mayMove_21 rfl ?_
        obtain rfl := Option.some.inj hf
        exact J_zret hB hR (Or.inl rfl) dX8_mayMove_22
