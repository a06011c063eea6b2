def f_X8_isOf (p0 : Int32) (p1 : Int32) : Option (Int32) :=
cl1 (f_X8_colour p0) fun r_1 =>
jn1 (fun (s_3 : Int32) =>
if r_1 = s_3 then (
some 1) else (
some 0)) fun j13 =>
if p1 = 0 then (
j13 1) else (
j13 2)
abbrev rX8_isOf : Room := { frames := 1, cells := 0, slots := 0, locals := 20 }
set_option maxRecDepth 100000 in
set_option maxHeartbeats 4000000 in
theorem c_X8_isOf (l : Launch) (E : En) (a : Nat → Nat) (b : Nat) (m_stones : Int32) (m_any : Int32) (m_backward : Int32) (m_ring : Int32) (m_two : Int32) (m_brooks : Int32) (m_readRow : Nat → Int32) (m_rowNow : Nat → Int32) (m_frogOn : Nat → Int32) (m_frogs : Int32) (m_kindOf : Nat → Int32) (m_moved : Int32) (m_movedFrom : Nat → Int32) (m_movedTo : Nat → Int32) (m_pageLength : Int32) (m_page : Nat → Int32) (m_faultAt : Int32) (m_isWhole : Int32) (m_newMany : Int32) (m_newSigns : Int32) (m_newRow : Nat → Int32) (m_long0 : Int32) (m_row : Nat → Int32) (m_far : Nat → Int32) (m_ways : Nat → Int64) (m_queue : Nat → Int32) (m_queueEnd : Int32) (m_endMany : Int32) (m_endSoon : Int32) (m_won : Nat → Int32) (m_seedNow : Int64) (m_isKept : Int32) (m_keptBrook : Int32) (m_keptMoved : Int32) (m_keptRow : Nat → Int32) (m_keptFrog : Nat → Int32) (m_keptFrom : Nat → Int32) (m_keptTo : Nat → Int32) (m_h : Int64) {p0 : Int32} {p1 : Int32} {res : Int32} (hf : f_X8_isOf p0 p1 = some res) : Ct l yX8_isOf (.code yX8_isOf cX8_isOf 3 (some .boolean)) rX8_isOf E [.ref (a b), .int p0, .int p1] (wM E a b m_stones m_any m_backward m_ring m_two m_brooks m_readRow m_rowNow m_frogOn m_frogs m_kindOf m_moved m_movedFrom m_movedTo m_pageLength m_page m_faultAt m_isWhole m_newMany m_newSigns m_newRow m_long0 m_row m_far m_ways m_queue m_queueEnd m_endMany m_endSoon m_won m_seedNow m_isKept m_keptBrook m_keptMoved m_keptRow m_keptFrog m_keptFrom m_keptTo m_h) (some (.int res)) (wM E a b m_stones m_any m_backward m_ring m_two m_brooks m_readRow m_rowNow m_frogOn m_frogs m_kindOf m_moved m_movedFrom m_movedTo m_pageLength m_page m_faultAt m_isWhole m_newMany m_newSigns m_newRow m_long0 m_row m_far m_ways m_queue m_queueEnd m_endMany m_endSoon m_won m_seedNow m_isKept m_keptBrook m_keptMoved m_keptRow m_keptFrog m_keptFrom m_keptTo m_h) := by
  refine Ct.of (by decide) (Nat.le_of_ble_eq_true rfl) (fun Y hB hR => ?_)
  have hB : Cb E cX8_isOf RX8 rX8_isOf 3 Y := hB
  show J l E rX8_isOf Y (wM E a b m_stones m_any m_backward m_ring m_two m_brooks m_readRow m_rowNow m_frogOn m_frogs m_kindOf m_moved m_movedFrom m_movedTo m_pageLength m_page m_faultAt m_isWhole m_newMany m_newSigns m_newRow m_long0 m_row m_far m_ways m_queue m_queueEnd m_endMany m_endSoon m_won m_seedNow m_isKept m_keptBrook m_keptMoved m_keptRow m_keptFrog m_keptFrom m_keptTo m_h) 0 [(0, .ref (a b)), (1, .int p0), (2, .int p1)] []
  unfold f_X8_isOf at hf
  refine J_iload_n hB dX8_isOf_0 rfl 1 rfl ?_
  obtain ⟨r_1, h_2, hf⟩ := cl1_e hf
  refine J_callS (As := [.int p0]) (rest := []) (n := 1) (ws' := wM E a b m_stones m_any m_backward m_ring m_two m_brooks m_readRow m_rowNow m_frogOn m_frogs m_kindOf m_moved m_movedFrom m_movedTo m_pageLength m_page m_faultAt m_isWhole m_newMany m_newSigns m_newRow m_long0 m_row m_far m_ways m_queue m_queueEnd m_endMany m_endSoon m_won m_seedNow m_isKept m_keptBrook m_keptMoved m_keptRow m_keptFrog m_keptFrom m_keptTo m_h) hB (c_X8_colour l E a h_2) mi_X8_colour ks_X8_colour km_X8_138 ⟨rfl, rfl, Nat.le_of_ble_eq_true rfl, Nat.le_of_ble_eq_true rfl⟩ Lies.none rfl rfl (Nat.le_of_ble_eq_true rfl) dX8_isOf_1 ?_
  show J l E rX8_isOf Y (wM E a b m_stones m_any m_backward m_ring m_two m_brooks m_readRow m_rowNow m_frogOn m_frogs m_kindOf m_moved m_movedFrom m_movedTo m_pageLength m_page m_faultAt m_isWhole m_newMany m_newSigns m_newRow m_long0 m_row m_far m_ways m_queue m_queueEnd m_endMany m_endSoon m_won m_seedNow m_isKept m_keptBrook m_keptMoved m_keptRow m_keptFrog m_keptFrom m_keptTo m_h) 4 [(0, .ref (a b)), (1, .int p0), (2, .int p1)] [.int r_1]
  refine J_iload_n hB dX8_isOf_4 rfl 2 rfl ?_
  refine jn1_e (P := fun s_3 => J l E rX8_isOf Y (wM E a b m_stones m_any m_backward m_ring m_two m_brooks m_readRow m_rowNow m_frogOn m_frogs m_kindOf m_moved m_movedFrom m_movedTo m_pageLength m_page m_faultAt m_isWhole m_newMany m_newSigns m_newRow m_long0 m_row m_far m_ways m_queue m_queueEnd m_endMany m_endSoon m_won m_seedNow m_isKept m_keptBrook m_keptMoved m_keptRow m_keptFrog m_keptFrom m_keptTo m_h) 13 [] [.int s_3, .int r_1]) hf (fun s_3 hf => ?_) (fun j13 hj13 hf => ?_)
  · refine J_icmp_ne (tgt := 20) hB dX8_isOf_13 rfl (fun c_4 => ?_) (fun c_4 => ?_)
    · have hf := it_f c_4 hf
      refine J_iconst (v := 0) hB dX8_isOf_20 rfl ?_
      obtain rfl := Option.some.inj hf
      exact J_zret hB hR (Or.inl rfl) dX8_isOf_21
    · have hf := it_t c_4 hf
      refine J_iconst (v := 1) hB dX8_isOf_16 rfl ?_
      refine J_goto (tgt := 21) hB dX8_isOf_17 rfl ?_
      obtain rfl := Option.some.inj hf
      exact J_zret hB hR (Or.inr rfl) dX8_isOf_21
  · refine J_if_ne (tgt := 12) hB dX8_isOf_5 rfl (fun c_5 => ?_) (fun c_5 => ?_)
    · have hf := it_f c_5 hf
      refine J_iconst (v := 2) hB dX8_isOf_12 rfl ?_
      exact J_lv [] rfl (hj13 2 hf)
    · have hf := it_t c_5 hf
      refine J_iconst (v := 1) hB dX8_isOf_8 rfl ?_
      refine J_goto (tgt := 13) hB dX8_isOf_9 rfl ?_
      exact J_lv [] rfl (hj13 1 hf)
def f_X8_progress (m_long0 : Int32) (p0 : Int32) : Option (Int32) :=
lp3_1 (fun (x2_1 : Int32) (x3_2 : Int32) (x4_3 : Int32) nx7 ex7 =>
if m_long0 ≤ x4_3 then (
ex7 x3_2) else (
iremK x2_1 5 fun v_6 =>
cl1 (f_X8_colour v_6) fun r_8 =>
jn1 (fun (s_10 : Int32) =>
nmv (α := Int32) (x3_2 + s_10) fun x3_11 =>
idivK x2_1 5 fun v_12 =>
nmv (α := Int32) (x4_3 + 1) fun x4_14 =>
nx7 v_12 x3_11 x4_14) fun j55 =>
if r_8 = 1 then (
j55 x4_3) else (
if r_8 = 2 then (
j55 ((m_long0 - (1 : Int32)) - x4_3)) else (
j55 0)))) (fun (x3_4 : Int32) =>
some x3_4) fuel p0 0 0
abbrev rX8_progress : Room := { frames := 1, cells := 0, slots := 0, locals := 20 }
set_option maxRecDepth 100000 in
set_option maxHeartbeats 4000000 in
theorem c_X8_progress (l : Launch) (E : En) (a : Nat → Nat) (b : Nat) (m_stones : Int32) (m_any : Int32) (m_backward : Int32) (m_ring : Int32) (m_two : Int32) (m_brooks : Int32) (m_readRow : Nat → Int32) (m_rowNow : Nat → Int32) (m_frogOn : Nat → Int32) (m_frogs : Int32) (m_kindOf : Nat → Int32) (m_moved : Int32) (m_movedFrom : Nat → Int32) (m_movedTo : Nat → Int32) (m_pageLength : Int32) (m_page : Nat → Int32) (m_faultAt : Int32) (m_isWhole : Int32) (m_newMany : Int32) (m_newSigns : Int32) (m_newRow : Nat → Int32) (m_long0 : Int32) (m_row : Nat → Int32) (m_far : Nat → Int32) (m_ways : Nat → Int64) (m_queue : Nat → Int32) (m_queueEnd : Int32) (m_endMany : Int32) (m_endSoon : Int32) (m_won : Nat → Int32) (m_seedNow : Int64) (m_isKept : Int32) (m_keptBrook : Int32) (m_keptMoved : Int32) (m_keptRow : Nat → Int32) (m_keptFrog : Nat → Int32) (m_keptFrom : Nat → Int32) (m_keptTo : Nat → Int32) (m_h : Int64) {p0 : Int32} {res : Int32} (hf : f_X8_progress m_long0 p0 = some res) : Ct l yX8_progress (.code yX8_progress cX8_progress 6 (some .int)) rX8_progress E [.ref (a b), .int p0] (wM E a b m_stones m_any m_backward m_ring m_two m_brooks m_readRow m_rowNow m_frogOn m_frogs m_kindOf m_moved m_movedFrom m_movedTo m_pageLength m_page m_faultAt m_isWhole m_newMany m_newSigns m_newRow m_long0 m_row m_far m_ways m_queue m_queueEnd m_endMany m_endSoon m_won m_seedNow m_isKept m_keptBrook m_keptMoved m_keptRow m_keptFrog m_keptFrom m_keptTo m_h) (some (.int res)) (wM E a b m_stones m_any m_backward m_ring m_two m_brooks m_readRow m_rowNow m_frogOn m_frogs m_kindOf m_moved m_movedFrom m_movedTo m_pageLength m_page m_faultAt m_isWhole m_newMany m_newSigns m_newRow m_long0 m_row m_far m_ways m_queue m_queueEnd m_endMany m_endSoon m_won m_seedNow m_isKept m_keptBrook m_keptMoved m_keptRow m_keptFrog m_keptFrom m_keptTo m_h) := by
  refine Ct.of (by decide) (Nat.le_of_ble_eq_true rfl) (fun Y hB hR => ?_)
  have hB : Cb E cX8_progress RX8 rX8_progress 6 Y := hB
  show J l E rX8_progress Y (wM E a b m_stones m_any m_backward m_ring m_two m_brooks m_readRow m_rowNow m_frogOn m_frogs m_kindOf m_moved m_movedFrom m_movedTo m_pageLength m_page m_faultAt m_isWhole m_newMany m_newSigns m_newRow m_long0 m_row m_far m_ways m_queue m_queueEnd m_endMany m_endSoon m_won m_seedNow m_isKept m_keptBrook m_keptMoved m_keptRow m_keptFrog m_keptFrom m_keptTo m_h) 0 [(0, .ref (a b)), (1, .int p0)] []
  unfold f_X8_progress at hf
  refine J_iload_n hB dX8_progress_0 rfl 1 rfl ?_
  refine J_istore_n (lv' := [(2, .int p0), (0, .ref (a b)), (1, .int p0)]) hB rfl dX8_progress_1 rfl (Nat.le_of_ble_eq_true rfl) rfl ?_
  refine J_iconst (v := 0) hB dX8_progress_2 rfl ?_
  refine J_istore_n (lv' := [(3, .int 0), (2, .int p0), (0, .ref (a b)), (1, .int p0)]) hB rfl dX8_progress_3 rfl (Nat.le_of_ble_eq_true rfl) rfl ?_
  refine J_iconst (v := 0) hB dX8_progress_4 rfl ?_
  refine J_istore (lv' := [(4, .int 0), (3, .int 0), (2, .int p0), (0, .ref (a b)), (1, .int p0)]) hB rfl dX8_progress_5 (Nat.le_of_ble_eq_true rfl) rfl ?_
  refine J_lv [3, 2, 1, 0] rfl ?_
  refine lp3_1_J (P := fun x2_1 x3_2 x4_3 => J l E rX8_progress Y (wM E a b m_stones m_any m_backward m_ring m_two m_brooks m_readRow m_rowNow m_frogOn m_frogs m_kindOf m_moved m_movedFrom m_movedTo m_pageLength m_page m_faultAt m_isWhole m_newMany m_newSigns m_newRow m_long0 m_row m_far m_ways m_queue m_queueEnd m_endMany m_endSoon m_won m_seedNow m_isKept m_keptBrook m_keptMoved m_keptRow m_keptFrog m_keptFrom m_keptTo m_h) 7 [(0, .ref (a b)), (2, .int x2_1), (3, .int x3_2), (4, .int x4_3)] []) (Q := fun x3_4 => J l E rX8_progress Y (wM E a b m_stones m_any m_backward m_ring m_two m_brooks m_readRow m_rowNow m_frogOn m_frogs m_kindOf m_moved m_movedFrom m_movedTo m_pageLength m_page m_faultAt m_isWhole m_newMany m_newSigns m_newRow m_long0 m_row m_far m_ways m_queue m_queueEnd m_endMany m_endSoon m_won m_seedNow m_isKept m_keptBrook m_keptMoved m_keptRow m_keptFrog m_keptFrom m_keptTo m_h) 67 [(3, .int x3_4)] []) (fun x2_1 x3_2 x4_3 nx7 ex7 hnx7 hex7 hf => ?_) (fun x3_4 hf => ?_) hf
  · refine J_iload hB dX8_progress_7 3 rfl ?_
    refine J_aload_n hB dX8_progress_9 rfl 0 rfl ?_
    refine J_get (v := .int m_long0) hB inX8 0 rfl rfl 21 (Nat.le_of_ble_eq_true rfl) kf_X8_135 rfl dX8_progress_10 ?_
    refine J_icmp_ge (tgt := 67) hB dX8_progress_13 rfl (fun c_5 => ?_) (fun c_5 => ?_)
    · have hf := it_t c_5 hf
      exact J_lv [2] rfl (hex7 x3_2 hf)
    · have hf := it_f c_5 hf
      refine J_iload_n hB dX8_progress_16 rfl 1 rfl ?_
      refine J_iconst (v := 5) hB dX8_progress_17 rfl ?_
      obtain ⟨v_6, ev_6, h_7, hf⟩ := iremK_e hf
      refine J_irem hB dX8_progress_18 h_7 ?_
      rw [← ev_6]
      obtain ⟨r_8, h_9, hf⟩ := cl1_e hf
      refine J_callS (As := [.int v_6]) (rest := []) (n := 1) (ws' := wM E a b m_stones m_any m_backward m_ring m_two m_brooks m_readRow m_rowNow m_frogOn m_frogs m_kindOf m_moved m_movedFrom m_movedTo m_pageLength m_page m_faultAt m_isWhole m_newMany m_newSigns m_newRow m_long0 m_row m_far m_ways m_queue m_queueEnd m_endMany m_endSoon m_won m_seedNow m_isKept m_keptBrook m_keptMoved m_keptRow m_keptFrog m_keptFrom m_keptTo m_h) hB (c_X8_colour l E a h_9) mi_X8_colour ks_X8_colour km_X8_138 ⟨rfl, rfl, Nat.le_of_ble_eq_true rfl, Nat.le_of_ble_eq_true rfl⟩ Lies.none rfl rfl (Nat.le_of_ble_eq_true rfl) dX8_progress_19 ?_
      show J l E rX8_progress Y (wM E a b m_stones m_any m_backward m_ring m_two m_brooks m_readRow m_rowNow m_frogOn m_frogs m_kindOf m_moved m_movedFrom m_movedTo m_pageLength m_page m_faultAt m_isWhole m_newMany m_newSigns m_newRow m_long0 m_row m_far m_ways m_queue m_queueEnd m_endMany m_endSoon m_won m_seedNow m_isKept m_keptBrook m_keptMoved m_keptRow m_keptFrog m_keptFrom m_keptTo m_h) 22 [(0, .ref (a b)), (2, .int x2_1), (3, .int x3_2), (4, .int x4_3)] [.int r_8]
      refine J_istore (lv' := [(5, .int r_8), (0, .ref (a b)), (2, .int x2_1), (3, .int x3_2), (4, .int x4_3)]) hB rfl dX8_progress_22 (Nat.le_of_ble_eq_true rfl) rfl ?_
      refine J_iload_n hB dX8_progress_24 rfl 3 rfl ?_
      refine J_iload hB dX8_progress_25 0 rfl ?_
      refine J_iconst (v := 1) hB dX8_progress_27 rfl ?_
      refine jn1_e (P := fun s_10 => J l E rX8_progress Y (wM E a b m_stones m_any m_backward m_ring m_two m_brooks m_readRow m_rowNow m_frogOn m_frogs m_kindOf m_moved m_movedFrom m_movedTo m_pageLength m_page m_faultAt m_isWhole m_newMany m_newSigns m_newRow m_long0 m_row m_far m_ways m_queue m_queueEnd m_endMany m_endSoon m_won m_seedNow m_isKept m_keptBrook m_keptMoved m_keptRow m_keptFrog m_keptFrom m_keptTo m_h) 55 [(0, .ref (a b)), (2, .int x2_1), (4, .int x4_3)] [.int s_10, .int x3_2]) hf (fun s_10 hf => ?_) (fun j55 hj55 hf => ?_)
      · refine J_iadd hB dX8_progress_55 ?_
        obtain ⟨x3_11, ex3_11, hf⟩ := nmv_e hf
        refine J_istore_n (lv' := [(3, .int x3_11), (0, .ref (a b)), (2, .int x2_1), (4, .int x4_3)]) hB ex3_11 dX8_progress_56 rfl (Nat.le_of_ble_eq_true rfl) rfl ?_
        refine J_iload_n hB dX8_progress_57 rfl 2 rfl ?_
        refine J_iconst (v := 5) hB dX8_progress_58 rfl ?_
        obtain ⟨v_12, ev_12, h_13, hf⟩ := idivK_e hf
        refine J_idiv hB dX8_progress_59 h_13 ?_
        rw [← ev_12]
        refine J_istore_n (lv' := [(2, .int v_12), (3, .int x3_11), (0, .ref (a b)), (4, .int x4_3)]) hB rfl dX8_progress_60 rfl (Nat.le_of_ble_eq_true rfl) rfl ?_
        obtain ⟨x4_14, ex4_14, hf⟩ := nmv_e hf
        refine J_iinc (lv' := [(4, .int x4_14), (2, .int v_12), (3, .int x3_11), (0, .ref (a b))]) hB ex4_14 dX8_progress_61 3 rfl (Nat.le_of_ble_eq_true rfl) rfl ?_
        refine J_goto (tgt := 7) hB dX8_progress_64 rfl ?_
        exact J_lv [3, 1, 2, 0] rfl (hnx7 v_12 x3_11 x4_14 hf)
      · refine J_icmp_ne (tgt := 36) hB dX8_progress_28 rfl (fun c_15 => ?_) (fun c_15 => ?_)
        · have hf := it_f c_15 hf
          refine J_iload hB dX8_progress_36 0 rfl ?_
          refine J_iconst (v := 2) hB dX8_progress_38 rfl ?_
          refine J_icmp_ne (tgt := 54) hB dX8_progress_39 rfl (fun c_16 => ?_) (fun c_16 => ?_)
          · have hf := it_f c_16 hf
            refine J_iconst (v := 0) hB dX8_progress_54 rfl ?_
            exact J_lv [1, 2, 4] rfl (hj55 0 hf)
          · have hf := it_t c_16 hf
            refine J_aload_n hB dX8_progress_42 rfl 1 rfl ?_
            refine J_get (v := .int m_long0) hB inX8 0 rfl rfl 21 (Nat.le_of_ble_eq_true rfl) kf_X8_135 rfl dX8_progress_43 ?_
            refine J_iconst (v := 1) hB dX8_progress_46 rfl ?_
            refine J_isub hB dX8_progress_47 ?_
            refine J_iload hB dX8_progress_48 4 rfl ?_
            refine J_isub hB dX8_progress_50 ?_
            refine J_goto (tgt := 55) hB dX8_progress_51 rfl ?_
            exact J_lv [1, 2, 4] rfl (hj55 ((m_long0 - (1 : Int32)) - x4_3) hf)
        · have hf := it_t c_15 hf
          refine J_iload hB dX8_progress_31 4 rfl ?_
          refine J_goto (tgt := 55) hB dX8_progress_33 rfl ?_
          exact J_lv [1, 2, 4] rfl (hj55 x4_3 hf)
  · refine J_iload_n hB dX8_progress_67 rfl 0 rfl ?_
    obtain rfl := Option.some.inj hf
    exact J_iret hB hR dX8_progress_68
def f_X8_winsBy (m_any : Int32) (m_backward : Int32) (m_ring : Int32) (m_two : Int32) (m_long0 : Int32) (m_row : Nat → Int32) (m_won : Nat → Int32) (p0 : Int32) (p1 : Int32) : Option (Int32 × (Nat → Int32)) :=
cl1 (f_X8_layRow m_long0 m_row p0) fun m_row_1 =>
lp1_0 (fun (x3_3 : Int32) nx7 ex7 =>
if m_long0 ≤ x3_3 then (
ex7) else (
lp1_0 (fun (x4_5 : Int32) nx18 ex18 =>
if m_long0 ≤ x4_5 then (
ex18) else (
ald 7 m_row_1 x3_3 fun v_7 =>
cl1 (f_X8_isOf v_7 p1) fun r_9 =>
jn0 (
nmv (α := Int32) (x4_5 + 1) fun x4_11 =>
nx18 x4_11) fun j80 =>
if r_9 = 0 then (
j80) else (
cl1 (f_X8_mayMove m_any m_backward m_ring m_two m_long0 m_row_1 x3_3 x4_5) fun r_13 =>
if r_13 = 0 then (
j80) else (
ald 7 m_row_1 x3_3 fun v_16 =>
cl1 (f_X8_behindMove p0 v_16 x3_3 x4_5) fun r_18 =>
ald 78125 m_won r_18 fun v_20 =>
if ((v_20 >>> (((2 : Int32) - p1) &&& 31)) &&& (1 : Int32)) = 0 then (
some (1, m_row_1)) else (
j80))))) (
nmv (α := Int32) (x3_3 + 1) fun x3_23 =>
nx7 x3_23) fuel 0)) (
some (0, m_row_1)) fuel 0
abbrev rX8_winsBy : Room := { frames := 4, cells := 0, slots := 0, locals := 96 }
set_option maxRecDepth 100000 in
set_option maxHeartbeats 4000000 in
theorem c_X8_winsBy (l : Launch) (E : En) (a : Nat → Nat) (b : Nat) (m_stones : Int32) (m_any : Int32) (m_backward : Int32) (m_ring : Int32) (m_two : Int32) (m_brooks : Int32) (m_readRow : Nat → Int32) (m_rowNow : Nat → Int32) (m_frogOn : Nat → Int32) (m_frogs : Int32) (m_kindOf : Nat → Int32) (m_moved : Int32) (m_movedFrom : Nat → Int32) (m_movedTo : Nat → Int32) (m_pageLength : Int32) (m_page : Nat → Int32) (m_faultAt : Int32) (m_isWhole : Int32) (m_newMany : Int32) (m_newSigns : Int32) (m_newRow : Nat → Int32) (m_long0 : Int32) (m_row : Nat → Int32) (m_far : Nat → Int32) (m_ways : Nat → Int64) (m_queue : Nat → Int32) (m_queueEnd : Int32) (m_endMany : Int32) (m_endSoon : Int32) (m_won : Nat → Int32) (m_seedNow : Int64) (m_isKept : Int32) (m_keptBrook : Int32) (m_keptMoved : Int32) (m_keptRow : Nat → Int32) (m_keptFrog : Nat → Int32) (m_keptFrom : Nat → Int32) (m_keptTo : Nat → Int32) (m_h : Int64) {p0 : Int32} {p1 : Int32} {res : Int32 × (Nat → Int32)} (hf : f_X8_winsBy m_any m_backward m_ring m_two m_long0 m_row m_won p0 p1 = some res) : Ct l yX8_winsBy (.code yX8_winsBy cX8_winsBy 5 (some .boolean)) rX8_winsBy E [.ref (a b), .int p0, .int p1] (wM E a b m_stones m_any m_backward m_ring m_two m_brooks m_readRow m_rowNow m_frogOn m_frogs m_kindOf m_moved m_movedFrom m_movedTo m_pageLength m_page m_faultAt m_isWhole m_newMany m_newSigns m_newRow m_long0 m_row m_far m_ways m_queue m_queueEnd m_endMany m_endSoon m_won m_seedNow m_isKept m_keptBrook m_keptMoved m_keptRow m_keptFrog m_keptFrom m_keptTo m_h) (some (.int res.1)) (wM E a b m_stones m_any m_backward m_ring m_two m_brooks m_readRow m_rowNow m_frogOn m_frogs m_kindOf m_moved m_movedFrom m_movedTo m_pageLength m_page m_faultAt m_isWhole m_newMany m_newSigns m_newRow m_long0 res.2 m_far m_ways m_queue m_queueEnd m_endMany m_endSoon m_won m_seedNow m_isKept m_keptBrook m_keptMoved m_keptRow m_keptFrog m_keptFrom m_keptTo m_h) := by
  refine Ct.of (by decide) (Nat.le_of_ble_eq_true rfl) (fun Y hB hR => ?_)
  have hB : Cb E cX8_winsBy RX8 rX8_winsBy 5 Y := hB
  show J l E rX8_winsBy Y (wM E a b m_stones m_any m_backward m_ring m_two m_brooks m_readRow m_rowNow m_frogOn m_frogs m_kindOf m_moved m_movedFrom m_movedTo m_pageLength m_page m_faultAt m_isWhole m_newMany m_newSigns m_newRow m_long0 m_row m_far m_ways m_queue m_queueEnd m_endMany m_endSoon m_won m_seedNow m_isKept m_keptBrook m_keptMoved m_keptRow m_keptFrog m_keptFrom m_keptTo m_h) 0 [(0, .ref (a b)), (1, .int p0), (2, .int p1)] []
  unfold f_X8_winsBy at hf
  refine J_aload_n hB dX8_winsBy_0 rfl 0 rfl ?_
  refine J_iload_n hB dX8_winsBy_1 rfl 1 rfl ?_
  obtain ⟨m_row_1, h_2, hf⟩ := cl1_e hf
  refine J_callV (As := [.int p0]) (rest := []) (n := 1) (ws' := wM E a b m_stones m_any m_backward m_ring m_two m_brooks m_readRow m_rowNow m_frogOn m_frogs m_kindOf m_moved m_movedFrom m_movedTo m_pageLength m_page m_faultAt m_isWhole m_newMany m_newSigns m_newRow m_long0 m_row_1 m_far m_ways m_queue m_queueEnd m_endMany m_endSoon m_won m_seedNow m_isKept m_keptBrook m_keptMoved m_keptRow m_keptFrog m_keptFrom m_keptTo m_h) hB (c_X8_layRow l E a b m_stones m_any m_backward m_ring m_two m_brooks m_readRow m_rowNow m_frogOn m_frogs m_kindOf m_moved m_movedFrom m_movedTo m_pageLength m_page m_faultAt m_isWhole m_newMany m_newSigns m_newRow m_long0 m_row m_far m_ways m_queue m_queueEnd m_endMany m_endSoon m_won m_seedNow m_isKept m_keptBrook m_keptMoved m_keptRow m_keptFrog m_keptFrom m_keptTo m_h h_2) mi_X8_layRow ⟨ki_X8_layRow, kv_X8_layRow⟩ km_X8_177 ⟨rfl, rfl, Nat.le_of_ble_eq_true rfl, Nat.le_of_ble_eq_true rfl⟩ Lies.same 0 rfl rfl rfl rfl (Nat.le_of_ble_eq_true rfl) dX8_winsBy_2 ?_
  show J l E rX8_winsBy Y (wM E a b m_stones m_any m_backward m_ring m_two m_brooks m_readRow m_rowNow m_frogOn m_frogs m_kindOf m_moved m_movedFrom m_movedTo m_pageLength m_page m_faultAt m_isWhole m_newMany m_newSigns m_newRow m_long0 m_row_1 m_far m_ways m_queue m_queueEnd m_endMany m_endSoon m_won m_seedNow m_isKept m_keptBrook m_keptMoved m_keptRow m_keptFrog m_keptFrom m_keptTo m_h) 5 [(0, .ref (a b)), (1, .int p0), (2, .int p1)] []
  refine J_iconst (v := 0) hB dX8_winsBy_5 rfl ?_
  refine J_istore_n (lv' := [(3, .int 0), (0, .ref (a b)), (1, .int p0), (2, .int p1)]) hB rfl dX8_winsBy_6 rfl (Nat.le_of_ble_eq_true rfl) rfl ?_
  refine J_lv [1, 2, 3, 0] rfl ?_
  refine lp1_0_J (P := fun x3_3 => J l E rX8_winsBy Y (wM E a b m_stones m_any m_backward m_ring m_two m_brooks m_readRow m_rowNow m_frogOn m_frogs m_kindOf m_moved m_movedFrom m_movedTo m_pageLength m_page m_faultAt m_isWhole m_newMany m_newSigns m_newRow m_long0 m_row_1 m_far m_ways m_queue m_queueEnd m_endMany m_endSoon m_won m_seedNow m_isKept m_keptBrook m_keptMoved m_keptRow m_keptFrog m_keptFrom m_keptTo m_h) 7 [(0, .ref (a b)), (1, .int p0), (2, .int p1), (3, .int x3_3)] []) (Q := J l E rX8_winsBy Y (wM E a b m_stones m_any m_backward m_ring m_two m_brooks m_readRow m_rowNow m_frogOn m_frogs m_kindOf m_moved m_movedFrom m_movedTo m_pageLength m_page m_faultAt m_isWhole m_newMany m_newSigns m_newRow m_long0 m_row_1 m_far m_ways m_queue m_queueEnd m_endMany m_endSoon m_won m_seedNow m_isKept m_keptBrook m_keptMoved m_keptRow m_keptFrog m_keptFrom m_keptTo m_h) 92 [] []) (fun x3_3 nx7 ex7 hnx7 hex7 hf => ?_) (fun hf => ?_) hf
  · refine J_iload_n hB dX8_winsBy_7 rfl 3 rfl ?_
    refine J_aload_n hB dX8_winsBy_8 rfl 0 rfl ?_
    refine J_get (v := .int m_long0) hB inX8 0 rfl rfl 21 (Nat.le_of_ble_eq_true rfl) kf_X8_135 rfl dX8_winsBy_9 ?_
    refine J_icmp_ge (tgt := 92) hB dX8_winsBy_12 rfl (fun c_4 => ?_) (fun c_4 => ?_)
    · have hf := it_t c_4 hf
      exact J_lv [] rfl (hex7 hf)
    · have hf := it_f c_4 hf
      refine J_iconst (v := 0) hB dX8_winsBy_15 rfl ?_
      refine J_istore (lv' := [(4, .int 0), (0, .ref (a b)), (1, .int p0), (2, .int p1), (3, .int x3_3)]) hB rfl dX8_winsBy_16 (Nat.le_of_ble_eq_true rfl) rfl ?_
      refine J_lv [1, 2, 3, 4, 0] rfl ?_
      refine lp1_0_J (P := fun x4_5 => J l E rX8_winsBy Y (wM E a b m_stones m_any m_backward m_ring m_two m_brooks m_readRow m_rowNow m_frogOn m_frogs m_kindOf m_moved m_movedFrom m_movedTo m_pageLength m_page m_faultAt m_isWhole m_newMany m_newSigns m_newRow m_long0 m_row_1 m_far m_ways m_queue m_queueEnd m_endMany m_endSoon m_won m_seedNow m_isKept m_keptBrook m_keptMoved m_keptRow m_keptFrog m_keptFrom m_keptTo m_h) 18 [(0, .ref (a b)), (1, .int p0), (2, .int p1), (3, .int x3_3), (4, .int x4_5)] []) (Q := J l E rX8_winsBy Y (wM E a b m_stones m_any m_backward m_ring m_two m_brooks m_readRow m_rowNow m_frogOn m_frogs m_kindOf m_moved m_movedFrom m_movedTo m_pageLength m_page m_faultAt m_isWhole m_newMany m_newSigns m_newRow m_long0 m_row_1 m_far m_ways m_queue m_queueEnd m_endMany m_endSoon m_won m_seedNow m_isKept m_keptBrook m_keptMoved m_keptRow m_keptFrog m_keptFrom m_keptTo m_h) 86 [(0, .ref (a b)), (1, .int p0), (2, .int p1), (3, .int x3_3)] []) (fun x4_5 nx18 ex18 hnx18 hex18 hf => ?_) (fun hf => ?_) hf
      · refine J_iload hB dX8_winsBy_18 4 rfl ?_
        refine J_aload_n hB dX8_winsBy_20 rfl 0 rfl ?_
        refine J_get (v := .int m_long0) hB inX8 0 rfl rfl 21 (Nat.le_of_ble_eq_true rfl) kf_X8_135 rfl dX8_winsBy_21 ?_
        refine J_icmp_ge (tgt := 86) hB dX8_winsBy_24 rfl (fun c_6 => ?_) (fun c_6 => ?_)
        · have hf := it_t c_6 hf
          exact J_lv [0, 1, 2, 3] rfl (hex18 hf)
        · have hf := it_f c_6 hf
          refine J_aload_n hB dX8_winsBy_27 rfl 0 rfl ?_
          refine J_aload_n hB dX8_winsBy_28 rfl 0 rfl ?_
          refine J_get (v := .ref (a (b + 9))) hB inX8 0 rfl rfl 22 (Nat.le_of_ble_eq_true rfl) kf_X8_35 rfl dX8_winsBy_29 ?_
          refine J_iload_n hB dX8_winsBy_32 rfl 3 rfl ?_
          obtain ⟨v_7, ev_7, h_8, hf⟩ := ald_e hf
          refine J_iald hB 9 rfl ev_7 h_8 dX8_winsBy_33 ?_
          refine J_iload_n hB dX8_winsBy_34 rfl 2 rfl ?_
          obtain ⟨r_9, h_10, hf⟩ := cl1_e hf
          refine J_callV (As := [.int v_7, .int p1]) (rest := []) (n := 2) (ws' := wM E a b m_stones m_any m_backward m_ring m_two m_brooks m_readRow m_rowNow m_frogOn m_frogs m_kindOf m_moved m_movedFrom m_movedTo m_pageLength m_page m_faultAt m_isWhole m_newMany m_newSigns m_newRow m_long0 m_row_1 m_far m_ways m_queue m_queueEnd m_endMany m_endSoon m_won m_seedNow m_isKept m_keptBrook m_keptMoved m_keptRow m_keptFrog m_keptFrom m_keptTo m_h) hB (c_X8_isOf l E a b m_stones m_any m_backward m_ring m_two m_brooks m_readRow m_rowNow m_frogOn m_frogs m_kindOf m_moved m_movedFrom m_movedTo m_pageLength m_page m_faultAt m_isWhole m_newMany m_newSigns m_newRow m_long0 m_row_1 m_far m_ways m_queue m_queueEnd m_endMany m_endSoon m_won m_seedNow m_isKept m_keptBrook m_keptMoved m_keptRow m_keptFrog m_keptFrom m_keptTo m_h h_10) mi_X8_isOf ⟨ki_X8_isOf, kv_X8_isOf⟩ km_X8_227 ⟨rfl, rfl, Nat.le_of_ble_eq_true rfl, Nat.le_of_ble_eq_true rfl⟩ Lies.same 0 rfl rfl rfl rfl (Nat.le_of_ble_eq_true rfl) dX8_winsBy_35 ?_
          show J l E rX8_winsBy Y (wM E a b m_stones m_any m_backward m_ring m_two m_brooks m_readRow m_rowNow m_frogOn m_frogs m_kindOf m_moved m_movedFrom m_movedTo m_pageLength m_page m_faultAt m_isWhole m_newMany m_newSigns m_newRow m_long0 m_row_1 m_far m_ways m_queue m_queueEnd m_endMany m_endSoon m_won m_seedNow m_isKept m_keptBrook m_keptMoved m_keptRow m_keptFrog m_keptFrom m_keptTo m_h) 38 [(0, .ref (a b)), (1, .int p0), (2, .int p1), (3, .int x3_3), (4, .int x4_5)] [.int r_9]
          refine jn0_e (P := J l E rX8_winsBy Y (wM E a b m_stones m_any m_backward m_ring m_two m_brooks m_readRow m_rowNow m_frogOn m_frogs m_kindOf m_moved m_movedFrom m_movedTo m_pageLength m_page m_faultAt m_isWhole m_newMany m_newSigns m_newRow m_long0 m_row_1 m_far m_ways m_queue m_queueEnd m_endMany m_endSoon m_won m_seedNow m_isKept m_keptBrook m_keptMoved m_keptRow m_keptFrog m_keptFrom m_keptTo m_h) 80 [(0, .ref (a b)), (1, .int p0), (2, .int p1), (3, .int x3_3), (4, .int x4_5)] []) hf (fun hf => ?_) (fun j80 hj80 hf => ?_)
          · obtain ⟨x4_11, ex4_11, hf⟩ := nmv_e hf
            refine J_iinc (lv' := [(4, .int x4_11), (0, .ref (a b)), (1, .int p0), (2, .int p1), (3, .int x3_3)]) hB ex4_11 dX8_winsBy_80 4 rfl (Nat.le_of_ble_eq_true rfl) rfl ?_
            refine J_goto (tgt := 18) hB dX8_winsBy_83 rfl ?_
            exact J_lv [1, 2, 3, 4, 0] rfl (hnx18 x4_11 hf)
          · refine J_if_eq (tgt := 80) hB dX8_winsBy_38 rfl (fun c_12 => ?_) (fun c_12 => ?_)
            · have hf := it_t c_12 hf
              exact J_lv [0, 1, 2, 3, 4] rfl (hj80 hf)
            · have hf := it_f c_12 hf
              refine J_aload_n hB dX8_winsBy_41 rfl 0 rfl ?_
              refine J_iload_n hB dX8_winsBy_42 rfl 3 rfl ?_
              refine J_iload hB dX8_winsBy_43 4 rfl ?_
              obtain ⟨r_13, h_14, hf⟩ := cl1_e hf
              refine J_callV (As := [.int x3_3, .int x4_5]) (rest := []) (n := 2) (ws' := wM E a b m_stones m_any m_backward m_ring m_two m_brooks m_readRow m_rowNow m_frogOn m_frogs m_kindOf m_moved m_movedFrom m_movedTo m_pageLength m_page m_faultAt m_isWhole m_newMany m_newSigns m_newRow m_long0 m_row_1 m_far m_ways m_queue m_queueEnd m_endMany m_endSoon m_won m_seedNow m_isKept m_keptBrook m_keptMoved m_keptRow m_keptFrog m_keptFrom m_keptTo m_h) hB (c_X8_mayMove l E a b m_stones m_any m_backward m_ring m_two m_brooks m_readRow m_rowNow m_frogOn m_frogs m_kindOf m_moved m_movedFrom m_movedTo m_pageLength m_page m_faultAt m_isWhole m_newMany m_newSigns m_newRow m_long0 m_row_1 m_far m_ways m_queue m_queueEnd m_endMany m_endSoon m_won m_seedNow m_isKept m_keptBrook m_keptMoved m_keptRow m_keptFrog m_keptFrom m_keptTo m_h h_14) mi_X8_mayMove ⟨ki_X8_mayMove, kv_X8_mayMove⟩ km_X8_154 ⟨rfl, rfl, Nat.le_of_ble_eq_true rfl, Nat.le_of_ble_eq_true rfl⟩ Lies.same 0 rfl rfl rfl rfl (Nat.le_of_ble_eq_true rfl) dX8_winsBy_45 ?_
              show J l E rX8_winsBy Y (wM E a b m_stones m_any m_backward m_ring m_two m_brooks m_readRow m_rowNow m_frogOn m_frogs m_kindOf m_moved m_movedFrom m_movedTo m_pageLength m_page m_faultAt m_isWhole m_newMany m_newSigns m_newRow m_long0 m_row_1 m_far m_ways m_queue m_queueEnd m_endMany m_endSoon m_won m_seedNow m_isKept m_keptBrook m_keptMoved m_keptRow m_keptFrog m_keptFrom m_keptTo m_h) 48 [(0, .ref (a b)), (1, .int p0), (2, .int p1), (3, .int x3_3), (4, .int x4_5)] [.int r_13]
              refine J_if_eq (tgt := 80) hB dX8_winsBy_48 rfl (fun c_15 => ?_) (fun c_15 => ?_)
              · have hf := it_t c_15 hf
                exact J_lv [0, 1, 2, 3, 4] rfl (hj80 hf)
              · have hf := it_f c_15 hf
                refine J_aload_n hB dX8_winsBy_51 rfl 0 rfl ?_
                refine J_get (v := .ref (a (b + 13))) hB inX8 0 rfl rfl 29 (Nat.le_of_ble_eq_true rfl) kf_X8_49 rfl dX8_winsBy_52 ?_
                refine J_iload_n hB dX8_winsBy_55 rfl 1 rfl ?_
                refine J_aload_n hB dX8_winsBy_56 rfl 0 rfl ?_
                refine J_get (v := .ref (a (b + 9))) hB inX8 0 rfl rfl 22 (Nat.le_of_ble_eq_true rfl) kf_X8_35 rfl dX8_winsBy_57 ?_
                refine J_iload_n hB dX8_winsBy_60 rfl 3 rfl ?_
                obtain ⟨v_16, ev_16, h_17, hf⟩ := ald_e hf
                refine J_iald hB 9 rfl ev_16 h_17 dX8_winsBy_61 ?_
                refine J_iload_n hB dX8_winsBy_62 rfl 3 rfl ?_
                refine J_iload hB dX8_winsBy_63 4 rfl ?_
                obtain ⟨r_18, h_19, hf⟩ := cl1_e hf
                refine J_callS (As := [.int p0, .int v_16, .int x3_3, .int x4_5]) (rest := [.ref (a (b + 13))]) (n := 4) (ws' := wM E a b m_stones m_any m_backward m_ring m_two m_brooks m_readRow m_rowNow m_frogOn m_frogs m_kindOf m_moved m_movedFrom m_movedTo m_pageLength m_page m_faultAt m_isWhole m_newMany m_newSigns m_newRow m_long0 m_row_1 m_far m_ways m_queue m_queueEnd m_endMany m_endSoon m_won m_seedNow m_isKept m_keptBrook m_keptMoved m_keptRow m_keptFrog m_keptFrom m_keptTo m_h) hB (c_X8_behindMove l E a h_19) mi_X8_behindMove ks_X8_behindMove km_X8_181 ⟨rfl, rfl, Nat.le_of_ble_eq_true rfl, Nat.le_of_ble_eq_true rfl⟩ Lies.none rfl rfl (Nat.le_of_ble_eq_true rfl) dX8_winsBy_65 ?_
                show J l E rX8_winsBy Y (wM E a b m_stones m_any m_backward m_ring m_two m_brooks m_readRow m_rowNow m_frogOn m_frogs m_kindOf m_moved m_movedFrom m_movedTo m_pageLength m_page m_faultAt m_isWhole m_newMany m_newSigns m_newRow m_long0 m_row_1 m_far m_ways m_queue m_queueEnd m_endMany m_endSoon m_won m_seedNow m_isKept m_keptBrook m_keptMoved m_keptRow m_keptFrog m_keptFrom m_keptTo m_h) 68 [(0, .ref (a b)), (1, .int p0), (2, .int p1), (3, .int x3_3), (4, .int x4_5)] [.int r_18, .ref (a (b + 13))]
                obtain ⟨v_20, ev_20, h_21, hf⟩ := ald_e hf
                refine J_bald hB 13 rfl ev_20 h_21 dX8_winsBy_68 ?_
                refine J_iconst (v := 2) hB dX8_winsBy_69 rfl ?_
                refine J_iload_n hB dX8_winsBy_70 rfl 2 rfl ?_
                refine J_isub hB dX8_winsBy_71 ?_
                refine J_ishr hB dX8_winsBy_72 ?_
                refine J_iconst (v := 1) hB dX8_winsBy_73 rfl ?_
                refine J_iand hB dX8_winsBy_74 ?_
                refine J_if_ne (tgt := 80) hB dX8_winsBy_75 rfl (fun c_22 => ?_) (fun c_22 => ?_)
                · have hf := it_f c_22 hf
                  exact J_lv [0, 1, 2, 3, 4] rfl (hj80 hf)
                · have hf := it_t c_22 hf
                  refine J_iconst (v := 1) hB dX8_winsBy_78 rfl ?_
                  obtain rfl := Option.some.inj hf
                  exact J_zret hB hR (Or.inr rfl) dX8_winsBy_79
      · obtain ⟨x3_23, ex3_23, hf⟩ := nmv_e hf
        refine J_iinc (lv' := [(3, .int x3_23), (0, .ref (a b)), (1, .int p0), (2, .int p1)]) hB ex3_23 dX8_winsBy_86 3 rfl (Nat.le_of_ble_eq_true rfl) rfl ?_
        refine J_goto (tgt := 7) hB dX8_winsBy_89 rfl ?_
        exact J_lv [1, 2, 3, 0] rfl (hnx7 x3_23 hf)
  · refine J_iconst (v := 0) hB dX8_winsBy_92 rfl ?_
    obtain rfl := Option.some.inj hf
    exact J_zret hB hR (Or.inl rfl) dX8_winsBy_93
def f_X8_layGame (m_stones : Int32) (m_any : Int32) (m_backward : Int32) (m_ring : Int32) (m_two : Int32) (m_rowNow : Nat → Int32) (m_long0 : Int32) (m_row : Nat → Int32) (m_far : Nat → Int32) (m_ways : Nat → Int64) (m_queue : Nat → Int32) (m_queueEnd : Int32) (m_won : Nat → Int32) : Option (Int32 × (Nat → Int32) × (Nat → Int32) × (Nat → Int64) × (Nat → Int32) × Int32 × (Nat → Int32)) :=
cl2 (f_X8_layNow m_stones m_rowNow m_long0 m_row) fun m_long0_1 m_row_2 =>
cl5 (f_X8_layFar m_any m_backward m_ring m_two m_long0_1 m_row_2 m_far m_ways m_queue m_queueEnd) fun m_row_4 m_far_5 m_ways_6 m_queue_7 m_queueEnd_8 =>
ald 78125 m_queue_7 0 fun v_10 =>
lp3_2 (fun (x2_12 : Int32) (m_row_13 : Nat → Int32) (m_won_14 : Nat → Int32) nx18 ex18 =>
if x2_12 < 0 then (
ex18 m_row_13 m_won_14) else (
lp3_2 (fun (x3_18 : Int32) (m_row_19 : Nat → Int32) (m_won_20 : Nat → Int32) nx24 ex24 =>
if m_queueEnd_8 ≤ x3_18 then (
ex24 m_row_19 m_won_20) else (
ald 78125 m_queue_7 x3_18 fun v_24 =>
cl1 (f_X8_progress m_long0_1 v_24) fun r_26 =>
jn2 (fun (m_row_28 : Nat → Int32) (m_won_29 : Nat → Int32) =>
nmv (α := Int32) (x3_18 + 1) fun x3_30 =>
nx24 x3_30 m_row_28 m_won_29) fun j97 =>
if r_26 = x2_12 then (
cl2 (f_X8_winsBy m_any m_backward m_ring m_two m_long0_1 m_row_19 m_won_20 v_24 0) fun r_32 m_row_33 =>
jn1 (fun (s_35 : Int32) =>
cl2 (f_X8_winsBy m_any m_backward m_ring m_two m_long0_1 m_row_33 m_won_20 v_24 1) fun r_36 m_row_37 =>
jn1 (fun (s_39 : Int32) =>
nmv (α := Int32) (s_35 ||| s_39) fun x5_40 =>
astB 78125 m_won_20 v_24 (Int8.toInt32 (Int32.toInt8 x5_40)) fun m_won_41 =>
j97 m_row_37 m_won_41) fun j84 =>
if r_36 = 0 then (
j84 0) else (
j84 4)) fun j65 =>
if r_32 = 0 then (
j65 0) else (
j65 2)) else (
j97 m_row_19 m_won_20))) (fun (m_row_21 : Nat → Int32) (m_won_22 : Nat → Int32) =>
nmv (α := Int32) (x2_12 + (-1)) fun x2_45 =>
nx18 x2_45 m_row_21 m_won_22) fuel 0 m_row_13 m_won_14)) (fun (m_row_15 : Nat → Int32) (m_won_16 : Nat → Int32) =>
cl1 (f_X8_layRow m_long0_1 m_row_15 v_10) fun m_row_46 =>
some (m_long0_1, m_row_46, m_far_5, m_ways_6, m_queue_7, m_queueEnd_8, m_won_16)) fuel 42 m_row_4 m_won
abbrev rX8_layGame : Room := { frames := 5, cells := 0, slots := 0, locals := 120 }
set_option maxRecDepth 100000 in
set_option maxHeartbeats 4000000 in
theorem c_X8_layGame (l : Launch) (E : En) (a : Nat → Nat) (b : Nat) (m_stones : Int32) (m_any : Int32) (m_backward : Int32) (m_ring : Int32) (m_two : Int32) (m_brooks : Int32) (m_readRow : Nat → Int32) (m_rowNow : Nat → Int32) (m_frogOn : Nat → Int32) (m_frogs : Int32) (m_kindOf : Nat → Int32) (m_moved : Int32) (m_movedFrom : Nat → Int32) (m_movedTo : Nat → Int32) (m_pageLength : Int32) (m_page : Nat → Int32) (m_faultAt : Int32) (m_isWhole : Int32) (m_newMany : Int32) (m_newSigns : Int32) (m_newRow : Nat → Int32) (m_long0 : Int32) (m_row : Nat → Int32) (m_far : Nat → Int32) (m_ways : Nat → Int64) (m_queue : Nat → Int32) (m_queueEnd : Int32) (m_endMany : Int32) (m_endSoon : Int32) (m_won : Nat → Int32) (m_seedNow : Int64) (m_isKept : Int32) (m_keptBrook : Int32) (m_keptMoved : Int32) (m_keptRow : Nat → Int32) (m_keptFrog : Nat → Int32) (m_keptFrom : Nat → Int32) (m_keptTo : Nat → Int32) (m_h : Int64) {res : Int32 × (Nat → Int32) × (Nat → Int32) × (Nat → Int64) × (Nat → Int32) × Int32 × (Nat → Int32)} (hf : f_X8_layGame m_stones m_any m_backward m_ring m_two m_rowNow m_long0 m_row m_far m_ways m_queue m_queueEnd m_won = some res) : Ct l yX8_layGame (.code yX8_layGame cX8_layGame 6 none) rX8_layGame E [.ref (a b)] (wM E a b m_stones m_any m_backward m_ring m_two m_brooks m_readRow m_rowNow m_frogOn m_frogs m_kindOf m_moved m_movedFrom m_movedTo m_pageLength m_page m_faultAt m_isWhole m_newMany m_newSigns m_newRow m_long0 m_row m_far m_ways m_queue m_queueEnd m_endMany m_endSoon m_won m_seedNow m_isKept m_keptBrook m_keptMoved m_keptRow m_keptFrog m_keptFrom m_keptTo m_h) none (wM E a b m_stones m_any m_backward m_ring m_two m_brooks m_readRow m_rowNow m_frogOn m_frogs m_kindOf m_moved m_movedFrom m_movedTo m_pageLength m_page m_faultAt m_isWhole m_newMany m_newSigns m_newRow res.1 res.2.1 res.2.2.1 res.2.2.2.1 res.2.2.2.2.1 res.2.2.2.2.2.1 m_endMany m_endSoon res.2.2.2.2.2.2 m_seedNow m_isKept m_keptBrook m_keptMoved m_keptRow m_keptFrog m_keptFrom m_keptTo m_h) := by
  refine Ct.of (by decide) (Nat.le_of_ble_eq_true rfl) (fun Y hB hR => ?_)
  have hB : Cb E cX8_layGame RX8 rX8_layGame 6 Y := hB
  show J l E rX8_layGame Y (wM E a b m_stones m_any m_backward m_ring m_two m_brooks m_readRow m_rowNow m_frogOn m_frogs m_kindOf m_moved m_movedFrom m_movedTo m_pageLength m_page m_faultAt m_isWhole m_newMany m_newSigns m_newRow m_long0 m_row m_far m_ways m_queue m_queueEnd m_endMany m_endSoon m_won m_seedNow m_isKept m_keptBrook m_keptMoved m_keptRow m_keptFrog m_keptFrom m_keptTo m_h) 0 [(0, .ref (a b))] []
  unfold f_X8_layGame at hf
  refine J_aload_n hB dX8_layGame_0 rfl 0 rfl ?_
  obtain ⟨m_long0_1, m_row_2, h_3, hf⟩ := cl2_e hf
  refine J_callV (As := []) (rest := []) (n := 0) (ws' := wM E a b m_stones m_any m_backward m_ring m_two m_brooks m_readRow m_rowNow m_frogOn m_frogs m_kindOf m_moved m_movedFrom m_movedTo m_pageLength m_page m_faultAt m_isWhole m_newMany m_newSigns m_newRow m_long0_1 m_row_2 m_far m_ways m_queue m_queueEnd m_endMany m_endSoon m_won m_seedNow m_isKept m_keptBrook m_keptMoved m_keptRow m_keptFrog m_keptFrom m_keptTo m_h) hB (c_X8_layNow l E a b m_stones m_any m_backward m_ring m_two m_brooks m_readRow m_rowNow m_frogOn m_frogs m_kindOf m_moved m_movedFrom m_movedTo m_pageLength m_page m_faultAt m_isWhole m_newMany m_newSigns m_newRow m_long0 m_row m_far m_ways m_queue m_queueEnd m_endMany m_endSoon m_won m_seedNow m_isKept m_keptBrook m_keptMoved m_keptRow m_keptFrog m_keptFrom m_keptTo m_h h_3) mi_X8_layNow ⟨ki_X8_layNow, kv_X8_layNow⟩ km_X8_151 ⟨rfl, rfl, Nat.le_of_ble_eq_true rfl, Nat.le_of_ble_eq_true rfl⟩ Lies.same 0 rfl rfl rfl rfl (Nat.le_of_ble_eq_true rfl) dX8_layGame_1 ?_
  show J l E rX8_layGame Y (wM E a b m_stones m_any m_backward m_ring m_two m_brooks m_readRow m_rowNow m_frogOn m_frogs m_kindOf m_moved m_movedFrom m_movedTo m_pageLength m_page m_faultAt m_isWhole m_newMany m_newSigns m_newRow m_long0_1 m_row_2 m_far m_ways m_queue m_queueEnd m_endMany m_endSoon m_won m_seedNow m_isKept m_keptBrook m_keptMoved m_keptRow m_keptFrog m_keptFrom m_keptTo m_h) 4 [(0, .ref (a b))] []
  refine J_aload_n hB dX8_layGame_4 rfl 0 rfl ?_
  obtain ⟨m_row_4, m_far_5, m_ways_6, m_queue_7, m_queueEnd_8, h_9, hf⟩ := cl5_e hf
  refine J_callV (As := []) (rest := []) (n := 0) (ws' := wM E a b m_stones m_any m_backward m_ring m_two m_brooks m_readRow m_rowNow m_frogOn m_frogs m_kindOf m_moved m_movedFrom m_movedTo m_pageLength m_page m_faultAt m_isWhole m_newMany m_newSigns m_newRow m_long0_1 m_row_4 m_far_5 m_ways_6 m_queue_7 m_queueEnd_8 m_endMany m_endSoon m_won m_seedNow m_isKept m_keptBrook m_keptMoved m_keptRow m_keptFrog m_keptFrom m_keptTo m_h) hB (c_X8_layFar l E a b m_stones m_any m_backward m_ring m_two m_brooks m_readRow m_rowNow m_frogOn m_frogs m_kindOf m_moved m_movedFrom m_movedTo m_pageLength m_page m_faultAt m_isWhole m_newMany m_newSigns m_newRow m_long0_1 m_row_2 m_far m_ways m_queue m_queueEnd m_endMany m_endSoon m_won m_seedNow m_isKept m_keptBrook m_keptMoved m_keptRow m_keptFrog m_keptFrom m_keptTo m_h h_9) mi_X8_layFar ⟨ki_X8_layFar, kv_X8_layFar⟩ km_X8_191 ⟨rfl, rfl, Nat.le_of_ble_eq_true rfl, Nat.le_of_ble_eq_true rfl⟩ Lies.same 0 rfl rfl rfl rfl (Nat.le_of_ble_eq_true rfl) dX8_layGame_5 ?_
  show J l E rX8_layGame Y (wM E a b m_stones m_any m_backward m_ring m_two m_brooks m_readRow m_rowNow m_frogOn m_frogs m_kindOf m_moved m_movedFrom m_movedTo m_pageLength m_page m_faultAt m_isWhole m_newMany m_newSigns m_newRow m_long0_1 m_row_4 m_far_5 m_ways_6 m_queue_7 m_queueEnd_8 m_endMany m_endSoon m_won m_seedNow m_isKept m_keptBrook m_keptMoved m_keptRow m_keptFrog m_keptFrom m_keptTo m_h) 8 [(0, .ref (a b))] []
  refine J_aload_n hB dX8_layGame_8 rfl 0 rfl ?_
  refine J_get (v := .ref (a (b + 12))) hB inX8 0 rfl rfl 25 (Nat.le_of_ble_eq_true rfl) kf_X8_46 rfl dX8_layGame_9 ?_
  refine J_iconst (v := 0) hB dX8_layGame_12 rfl ?_
  obtain ⟨v_10, ev_10, h_11, hf⟩ := ald_e hf
  refine J_iald hB 12 rfl ev_10 h_11 dX8_layGame_13 ?_
  refine J_istore_n (lv' := [(1, .int v_10), (0, .ref (a b))]) hB rfl dX8_layGame_14 rfl (Nat.le_of_ble_eq_true rfl) rfl ?_
  refine J_bipush (v := 42) hB dX8_layGame_15 rfl ?_
  refine J_istore_n (lv' := [(2, .int 42), (1, .int v_10), (0, .ref (a b))]) hB rfl dX8_layGame_17 rfl (Nat.le_of_ble_eq_true rfl) rfl ?_
  refine J_lv [2, 1, 0] rfl ?_
  refine lp3_2_J (P := fun x2_12 m_row_13 m_won_14 => J l E rX8_layGame Y (wM E a b m_stones m_any m_backward m_ring m_two m_brooks m_readRow m_rowNow m_frogOn m_frogs m_kindOf m_moved m_movedFrom m_movedTo m_pageLength m_page m_faultAt m_isWhole m_newMany m_newSigns m_newRow m_long0_1 m_row_13 m_far_5 m_ways_6 m_queue_7 m_queueEnd_8 m_endMany m_endSoon m_won_14 m_seedNow m_isKept m_keptBrook m_keptMoved m_keptRow m_keptFrog m_keptFrom m_keptTo m_h) 18 [(0, .ref (a b)), (1, .int v_10), (2, .int x2_12)] []) (Q := fun m_row_15 m_won_16 => J l E rX8_layGame Y (wM E a b m_stones m_any m_backward m_ring m_two m_brooks m_readRow m_rowNow m_frogOn m_frogs m_kindOf m_moved m_movedFrom m_movedTo m_pageLength m_page m_faultAt m_isWhole m_newMany m_newSigns m_newRow m_long0_1 m_row_15 m_far_5 m_ways_6 m_queue_7 m_queueEnd_8 m_endMany m_endSoon m_won_16 m_seedNow m_isKept m_keptBrook m_keptMoved m_keptRow m_keptFrog m_keptFrom m_keptTo m_h) 109 [(0, .ref (a b)), (1, .int v_10)] []) (fun x2_12 m_row_13 m_won_14 nx18 ex18 hnx18 hex18 hf => ?_) (fun m_row_15 m_won_16 hf => ?_) hf
  · refine J_iload_n hB dX8_layGame_18 rfl 2 rfl ?_
    refine J_if_lt (tgt := 109) hB dX8_layGame_19 rfl (fun c_17 => ?_) (fun c_17 => ?_)
    · have hf := it_t c_17 hf
      exact J_lv [0, 1] rfl (hex18 m_row_13 m_won_14 hf)
    · have hf := it_f c_17 hf
      refine J_iconst (v := 0) hB dX8_layGame_22 rfl ?_
      refine J_istore_n (lv' := [(3, .int 0), (0, .ref (a b)), (1, .int v_10), (2, .int x2_12)]) hB rfl dX8_layGame_23 rfl (Nat.le_of_ble_eq_true rfl) rfl ?_
      refine J_lv [1, 2, 3, 0] rfl ?_
      refine lp3_2_J (P := fun x3_18 m_row_19 m_won_20 => J l E rX8_layGame Y (wM E a b m_stones m_any m_backward m_ring m_two m_brooks m_readRow m_rowNow m_frogOn m_frogs m_kindOf m_moved m_movedFrom m_movedTo m_pageLength m_page m_faultAt m_isWhole m_newMany m_newSigns m_newRow m_long0_1 m_row_19 m_far_5 m_ways_6 m_queue_7 m_queueEnd_8 m_endMany m_endSoon m_won_20 m_seedNow m_isKept m_keptBrook m_keptMoved m_keptRow m_keptFrog m_keptFrom m_keptTo m_h) 24 [(0, .ref (a b)), (1, .int v_10), (2, .int x2_12), (3, .int x3_18)] []) (Q := fun m_row_21 m_won_22 => J l E rX8_layGame Y (wM E a b m_stones m_any m_backward m_ring m_two m_brooks m_readRow m_rowNow m_frogOn m_frogs m_kindOf m_moved m_movedFrom m_movedTo m_pageLength m_page m_faultAt m_isWhole m_newMany m_newSigns m_newRow m_long0_1 m_row_21 m_far_5 m_ways_6 m_queue_7 m_queueEnd_8 m_endMany m_endSoon m_won_22 m_seedNow m_isKept m_keptBrook m_keptMoved m_keptRow m_keptFrog m_keptFrom m_keptTo m_h) 103 [(0, .ref (a b)), (1, .int v_10), (2, .int x2_12)] []) (fun x3_18 m_row_19 m_won_20 nx24 ex24 hnx24 hex24 hf => ?_) (fun m_row_21 m_won_22 hf => ?_) hf
      · refine J_iload_n hB dX8_layGame_24 rfl 3 rfl ?_
        refine J_aload_n hB dX8_layGame_25 rfl 0 rfl ?_
        refine J_get (v := .int m_queueEnd_8) hB inX8 0 rfl rfl 26 (Nat.le_of_ble_eq_true rfl) kf_X8_168 rfl dX8_layGame_26 ?_
        refine J_icmp_ge (tgt := 103) hB dX8_layGame_29 rfl (fun c_23 => ?_) (fun c_23 => ?_)
        · have hf := it_t c_23 hf
          exact J_lv [0, 1, 2] rfl (hex24 m_row_19 m_won_20 hf)
        · have hf := it_f c_23 hf
          refine J_aload_n hB dX8_layGame_32 rfl 0 rfl ?_
          refine J_get (v := .ref (a (b + 12))) hB inX8 0 rfl rfl 25 (Nat.le_of_ble_eq_true rfl) kf_X8_46 rfl dX8_layGame_33 ?_
          refine J_iload_n hB dX8_layGame_36 rfl 3 rfl ?_
          obtain ⟨v_24, ev_24, h_25, hf⟩ := ald_e hf
          refine J_iald hB 12 rfl ev_24 h_25 dX8_layGame_37 ?_
          refine J_istore (lv' := [(4, .int v_24), (0, .ref (a b)), (1, .int v_10), (2, .int x2_12), (3, .int x3_18)]) hB rfl dX8_layGame_38 (Nat.le_of_ble_eq_true rfl) rfl ?_
          refine J_aload_n hB dX8_layGame_40 rfl 1 rfl ?_
          refine J_iload hB dX8_layGame_41 0 rfl ?_
          obtain ⟨r_26, h_27, hf⟩ := cl1_e hf
          refine J_callV (As := [.int v_24]) (rest := []) (n := 1) (ws' := wM E a b m_stones m_any m_backward m_ring m_two m_brooks m_readRow m_rowNow m_frogOn m_frogs m_kindOf m_moved m_movedFrom m_movedTo m_pageLength m_page m_faultAt m_isWhole m_newMany m_newSigns m_newRow m_long0_1 m_row_19 m_far_5 m_ways_6 m_queue_7 m_queueEnd_8 m_endMany m_endSoon m_won_20 m_seedNow m_isKept m_keptBrook m_keptMoved m_keptRow m_keptFrog m_keptFrom m_keptTo m_h) hB (c_X8_progress l E a b m_stones m_any m_backward m_ring m_two m_brooks m_readRow m_rowNow m_frogOn m_frogs m_kindOf m_moved m_movedFrom m_movedTo m_pageLength m_page m_faultAt m_isWhole m_newMany m_newSigns m_newRow m_long0_1 m_row_19 m_far_5 m_ways_6 m_queue_7 m_queueEnd_8 m_endMany m_endSoon m_won_20 m_seedNow m_isKept m_keptBrook m_keptMoved m_keptRow m_keptFrog m_keptFrom m_keptTo m_h h_27) mi_X8_progress ⟨ki_X8_progress, kv_X8_progress⟩ km_X8_230 ⟨rfl, rfl, Nat.le_of_ble_eq_true rfl, Nat.le_of_ble_eq_true rfl⟩ Lies.same 0 rfl rfl rfl rfl (Nat.le_of_ble_eq_true rfl) dX8_layGame_43 ?_
          show J l E rX8_layGame Y (wM E a b m_stones m_any m_backward m_ring m_two m_brooks m_readRow m_rowNow m_frogOn m_frogs m_kindOf m_moved m_movedFrom m_movedTo m_pageLength m_page m_faultAt m_isWhole m_newMany m_newSigns m_newRow m_long0_1 m_row_19 m_far_5 m_ways_6 m_queue_7 m_queueEnd_8 m_endMany m_endSoon m_won_20 m_seedNow m_isKept m_keptBrook m_keptMoved m_keptRow m_keptFrog m_keptFrom m_keptTo m_h) 46 [(4, .int v_24), (0, .ref (a b)), (1, .int v_10), (2, .int x2_12), (3, .int x3_18)] [.int r_26]
          refine J_iload_n hB dX8_layGame_46 rfl 3 rfl ?_
          refine jn2_e (P := fun m_row_28 m_won_29 => J l E rX8_layGame Y (wM E a b m_stones m_any m_backward m_ring m_two m_brooks m_readRow m_rowNow m_frogOn m_frogs m_kindOf m_moved m_movedFrom m_movedTo m_pageLength m_page m_faultAt m_isWhole m_newMany m_newSigns m_newRow m_long0_1 m_row_28 m_far_5 m_ways_6 m_queue_7 m_queueEnd_8 m_endMany m_endSoon m_won_29 m_seedNow m_isKept m_keptBrook m_keptMoved m_keptRow m_keptFrog m_keptFrom m_keptTo m_h) 97 [(0, .ref (a b)), (1, .int v_10), (2, .int x2_12), (3, .int x3_18)] []) hf (fun m_row_28 m_won_29 hf => ?_) (fun j97 hj97 hf => ?_)
          · obtain ⟨x3_30, ex3_30, hf⟩ := nmv_e hf
            refine J_iinc (lv' := [(3, .int x3_30), (0, .ref (a b)), (1, .int v_10), (2, .int x2_12)]) hB ex3_30 dX8_layGame_97 3 rfl (Nat.le_of_ble_eq_true rfl) rfl ?_
            refine J_goto (tgt := 24) hB dX8_layGame_100 rfl ?_
            exact J_lv [1, 2, 3, 0] rfl (hnx24 x3_30 m_row_28 m_won_29 hf)
          · refine J_icmp_ne (tgt := 97) hB dX8_layGame_47 rfl (fun c_31 => ?_) (fun c_31 => ?_)
            · have hf := it_f c_31 hf
              exact J_lv [1, 2, 3, 4] rfl (hj97 m_row_19 m_won_20 hf)
            · have hf := it_t c_31 hf
              refine J_aload_n hB dX8_layGame_50 rfl 1 rfl ?_
              refine J_iload hB dX8_layGame_51 0 rfl ?_
              refine J_iconst (v := 0) hB dX8_layGame_53 rfl ?_
              obtain ⟨r_32, m_row_33, h_34, hf⟩ := cl2_e hf
              refine J_callV (As := [.int v_24, .int 0]) (rest := []) (n := 2) (ws' := wM E a b m_stones m_any m_backward m_ring m_two m_brooks m_readRow m_rowNow m_frogOn m_frogs m_kindOf m_moved m_movedFrom m_movedTo m_pageLength m_page m_faultAt m_isWhole m_newMany m_newSigns m_newRow m_long0_1 m_row_33 m_far_5 m_ways_6 m_queue_7 m_queueEnd_8 m_endMany m_endSoon m_won_20 m_seedNow m_isKept m_keptBrook m_keptMoved m_keptRow m_keptFrog m_keptFrom m_keptTo m_h) hB (c_X8_winsBy l E a b m_stones m_any m_backward m_ring m_two m_brooks m_readRow m_rowNow m_frogOn m_frogs m_kindOf m_moved m_movedFrom m_movedTo m_pageLength m_page m_faultAt m_isWhole m_newMany m_newSigns m_newRow m_long0_1 m_row_19 m_far_5 m_ways_6 m_queue_7 m_queueEnd_8 m_endMany m_endSoon m_won_20 m_seedNow m_isKept m_keptBrook m_keptMoved m_keptRow m_keptFrog m_keptFrom m_keptTo m_h h_34) mi_X8_winsBy ⟨ki_X8_winsBy, kv_X8_winsBy⟩ km_X8_233 ⟨rfl, rfl, Nat.le_of_ble_eq_true rfl, Nat.le_of_ble_eq_true rfl⟩ Lies.same 0 rfl rfl rfl rfl (Nat.le_of_ble_eq_true rfl) dX8_layGame_54 ?_
              show J l E rX8_layGame Y (wM E a b m_stones m_any m_backward m_ring m_two m_brooks m_readRow m_rowNow m_frogOn m_frogs m_kindOf m_moved m_movedFrom m_movedTo m_pageLength m_page m_faultAt m_isWhole m_newMany m_newSigns m_newRow m_long0_1 m_row_33 m_far_5 m_ways_6 m_queue_7 m_queueEnd_8 m_endMany m_endSoon m_won_20 m_seedNow m_isKept m_keptBrook m_keptMoved m_keptRow m_keptFrog m_keptFrom m_keptTo m_h) 57 [(4, .int v_24), (0, .ref (a b)), (1, .int v_10), (2, .int x2_12), (3, .int x3_18)] [.int r_32]
              refine jn1_e (P := fun s_35 => J l E rX8_layGame Y (wM E a b m_stones m_any m_backward m_ring m_two m_brooks m_readRow m_rowNow m_frogOn m_frogs m_kindOf m_moved m_movedFrom m_movedTo m_pageLength m_page m_faultAt m_isWhole m_newMany m_newSigns m_newRow m_long0_1 m_row_33 m_far_5 m_ways_6 m_queue_7 m_queueEnd_8 m_endMany m_endSoon m_won_20 m_seedNow m_isKept m_keptBrook m_keptMoved m_keptRow m_keptFrog m_keptFrom m_keptTo m_h) 65 [(0, .ref (a b)), (1, .int v_10), (2, .int x2_12), (3, .int x3_18), (4, .int v_24)] [.int s_35]) hf (fun s_35 hf => ?_) (fun j65 hj65 hf => ?_)
              · refine J_istore (lv' := [(5, .int s_35), (0, .ref (a b)), (1, .int v_10), (2, .int x2_12), (3, .int x3_18), (4, .int v_24)]) hB rfl dX8_layGame_65 (Nat.le_of_ble_eq_true rfl) rfl ?_
                refine J_iload hB dX8_layGame_67 0 rfl ?_
                refine J_aload_n hB dX8_layGame_69 rfl 1 rfl ?_
                refine J_iload hB dX8_layGame_70 5 rfl ?_
                refine J_iconst (v := 1) hB dX8_layGame_72 rfl ?_
                obtain ⟨r_36, m_row_37, h_38, hf⟩ := cl2_e hf
                refine J_callV (As := [.int v_24, .int 1]) (rest := [.int s_35]) (n := 2) (ws' := wM E a b m_stones m_any m_backward m_ring m_two m_brooks m_readRow m_rowNow m_frogOn m_frogs m_kindOf m_moved m_movedFrom m_movedTo m_pageLength m_page m_faultAt m_isWhole m_newMany m_newSigns m_newRow m_long0_1 m_row_37 m_far_5 m_ways_6 m_queue_7 m_queueEnd_8 m_endMany m_endSoon m_won_20 m_seedNow m_isKept m_keptBrook m_keptMoved m_keptRow m_keptFrog m_keptFrom m_keptTo m_h) hB (c_X8_winsBy l E a b m_stones m_any m_backward m_ring m_two m_brooks m_readRow m_rowNow m_frogOn m_frogs m_kindOf m_moved m_movedFrom m_movedTo m_pageLength m_page m_faultAt m_isWhole m_newMany m_newSigns m_newRow m_long0_1 m_row_33 m_far_5 m_ways_6 m_queue_7 m_queueEnd_8 m_endMany m_endSoon m_won_20 m_seedNow m_isKept m_keptBrook m_keptMoved m_keptRow m_keptFrog m_keptFrom m_keptTo m_h h_38) mi_X8_winsBy ⟨ki_X8_winsBy, kv_X8_winsBy⟩ km_X8_233 ⟨rfl, rfl, Nat.le_of_ble_eq_true rfl, Nat.le_of_ble_eq_true rfl⟩ Lies.same 0 rfl rfl rfl rfl (Nat.le_of_ble_eq_true rfl) dX8_layGame_73 ?_
                show J l E rX8_layGame Y (wM E a b m_stones m_any m_backward m_ring m_two m_brooks m_readRow m_rowNow m_frogOn m_frogs m_kindOf m_moved m_movedFrom m_movedTo m_pageLength m_page m_faultAt m_isWhole m_newMany m_newSigns m_newRow m_long0_1 m_row_37 m_far_5 m_ways_6 m_queue_7 m_queueEnd_8 m_endMany m_endSoon m_won_20 m_seedNow m_isKept m_keptBrook m_keptMoved m_keptRow m_keptFrog m_keptFrom m_keptTo m_h) 76 [(5, .int s_35), (0, .ref (a b)), (1, .int v_10), (2, .int x2_12), (3, .int x3_18), (4, .int v_24)] [.int r_36, .int s_35]
                refine jn1_e (P := fun s_39 => J l E rX8_layGame Y (wM E a b m_stones m_any m_backward m_ring m_two m_brooks m_readRow m_rowNow m_frogOn m_frogs m_kindOf m_moved m_movedFrom m_movedTo m_pageLength m_page m_faultAt m_isWhole m_newMany m_newSigns m_newRow m_long0_1 m_row_37 m_far_5 m_ways_6 m_queue_7 m_queueEnd_8 m_endMany m_endSoon m_won_20 m_seedNow m_isKept m_keptBrook m_keptMoved m_keptRow m_keptFrog m_keptFrom m_keptTo m_h) 84 [(0, .ref (a b)), (1, .int v_10), (2, .int x2_12), (3, .int x3_18), (4, .int v_24)] [.int s_39, .int s_35]) hf (fun s_39 hf => ?_) (fun j84 hj84 hf => ?_)
                · refine J_ior hB dX8_layGame_84 ?_
                  obtain ⟨x5_40, ex5_40, hf⟩ := nmv_e hf
                  refine J_istore (lv' := [(5, .int x5_40), (0, .ref (a b)), (1, .int v_10), (2, .int x2_12), (3, .int x3_18), (4, .int v_24)]) hB ex5_40 dX8_layGame_85 (Nat.le_of_ble_eq_true rfl) rfl ?_
                  refine J_aload_n hB dX8_layGame_87 rfl 1 rfl ?_
                  refine J_get (v := .ref (a (b + 13))) hB inX8 0 rfl rfl 29 (Nat.le_of_ble_eq_true rfl) kf_X8_49 rfl dX8_layGame_88 ?_
                  refine J_iload hB dX8_layGame_91 5 rfl ?_
                  refine J_iload hB dX8_layGame_93 0 rfl ?_
                  refine J_i2b hB dX8_layGame_95 ?_
                  obtain ⟨m_won_41, em_won_41, h_42, hf⟩ := astB_e hf
                  refine J_bast (ws' := wM E a b m_stones m_any m_backward m_ring m_two m_brooks m_readRow m_rowNow m_frogOn m_frogs m_kindOf m_moved m_movedFrom m_movedTo m_pageLength m_page m_faultAt m_isWhole m_newMany m_newSigns m_newRow m_long0_1 m_row_37 m_far_5 m_ways_6 m_queue_7 m_queueEnd_8 m_endMany m_endSoon m_won_41 m_seedNow m_isKept m_keptBrook m_keptMoved m_keptRow m_keptFrog m_keptFrom m_keptTo m_h) hB 13 rfl em_won_41 h_42 dX8_layGame_96 rfl ?_
                  exact J_lv [1, 2, 3, 4] rfl (hj97 m_row_37 m_won_41 hf)
                · refine J_if_eq (tgt := 83) hB dX8_layGame_76 rfl (fun c_43 => ?_) (fun c_43 => ?_)
                  · have hf := it_t c_43 hf
                    refine J_iconst (v := 0) hB dX8_layGame_83 rfl ?_
                    exact J_lv [1, 2, 3, 4, 5] rfl (hj84 0 hf)
                  · have hf := it_f c_43 hf
                    refine J_iconst (v := 4) hB dX8_layGame_79 rfl ?_
                    refine J_goto (tgt := 84) hB dX8_layGame_80 rfl ?_
                    exact J_lv [1, 2, 3, 4, 5] rfl (hj84 4 hf)
              · refine J_if_eq (tgt := 64) hB dX8_layGame_57 rfl (fun c_44 => ?_) (fun c_44 => ?_)
                · have hf := it_t c_44 hf
                  refine J_iconst (v := 0) hB dX8_layGame_64 rfl ?_
                  exact J_lv [1, 2, 3, 4, 0] rfl (hj65 0 hf)
                · have hf := it_f c_44 hf
                  refine J_iconst (v := 2) hB dX8_layGame_60 rfl ?_
                  refine J_goto (tgt := 65) hB dX8_layGame_61 rfl ?_
                  exact J_lv [1, 2, 3, 4, 0] rfl (hj65 2 hf)
      · obtain ⟨x2_45, ex2_45, hf⟩ := nmv_e hf
        refine J_iinc (lv' := [(2, .int x2_45), (0, .ref (a b)), (1, .int v_10)]) hB (ex2_45.trans (congrArg (fun z : Int32 => x2_12 + z) (by decide +kernel))) dX8_layGame_103 2 rfl (Nat.le_of_ble_eq_true rfl) rfl ?_
        refine J_goto (tgt := 18) hB dX8_layGame_106 rfl ?_
        exact J_lv [1, 2, 0] rfl (hnx18 x2_45 m_row_21 m_won_22 hf)
  · refine J_aload_n hB dX8_layGame_109 rfl 0 rfl ?_
    refine J_iload_n hB dX8_layGame_110 rfl 1 rfl ?_
    obtain ⟨m_row_46, h_47, hf⟩ := cl1_e hf
    refine J_callV (As := [.int v_10]) (rest := []) (n := 1) (ws' := wM E a b m_stones m_any m_backward m_ring m_two m_brooks m_readRow m_rowNow m_frogOn m_frogs m_kindOf m_moved m_movedFrom m_movedTo m_pageLength m_page m_faultAt m_isWhole m_newMany m_newSigns m_newRow m_long0_1 m_row_46 m_far_5 m_ways_6 m_queue_7 m_queueEnd_8 m_endMany m_endSoon m_won_16 m_seedNow m_isKept m_keptBrook m_keptMoved m_keptRow m_keptFrog m_keptFrom m_keptTo m_h) hB (c_X8_layRow l E a b m_stones m_any m_backward m_ring m_two m_brooks m_readRow m_rowNow m_frogOn m_frogs m_kindOf m_moved m_movedFrom m_movedTo m_pageLength m_page m_faultAt m_isWhole m_newMany m_newSigns m_newRow m_long0_1 m_row_15 m_far_5 m_ways_6 m_queue_7 m_queueEnd_8 m_endMany m_endSoon m_won_16 m_seedNow m_isKept m_keptBrook m_keptMoved m_keptRow m_keptFrog m_keptFrom m_keptTo m_h h_47) mi_X8_layRow ⟨ki_X8_layRow, kv_X8_layRow⟩ km_X8_177 ⟨rfl, rfl, Nat.le_of_ble_eq_true rfl, Nat.le_of_ble_eq_true rfl⟩ Lies.same 0 rfl rfl rfl rfl (Nat.le_of_ble_eq_true rfl) dX8_layGame_111 ?_
    show J l E rX8_layGame Y (wM E a b m_stones m_any m_backward m_ring m_two m_brooks m_readRow m_rowNow m_frogOn m_frogs m_kindOf m_moved m_movedFrom m_movedTo m_pageLength m_page m_faultAt m_isWhole m_newMany m_newSigns m_newRow m_long0_1 m_row_46 m_far_5 m_ways_6 m_queue_7 m_queueEnd_8 m_endMany m_endSoon m_won_16 m_seedNow m_isKept m_keptBrook m_keptMoved m_keptRow m_keptFrog m_keptFrom m_keptTo m_h) 114 [(0, .ref (a b)), (1, .int v_10)] []
    obtain rfl := Option.some.inj hf
    exact J_vret hB hR dX8_layGame_114
def f_X8_winsNow (m_stones : Int32) (m_any : Int32) (m_backward : Int32) (m_ring : Int32) (m_two : Int32) (m_rowNow : Nat → Int32) (m_long0 : Int32) (m_row : Nat → Int32) (m_far : Nat → Int32) (m_ways : Nat → Int64) (m_queue : Nat → Int32) (m_queueEnd : Int32) (m_won : Nat → Int32) (p0 : Int32) : Option (Int32 × Int32 × (Nat → Int32) × (Nat → Int32) × (Nat → Int64) × (Nat → Int32) × Int32 × (Nat → Int32)) :=
cl7 (f_X8_layGame m_stones m_any m_backward m_ring m_two m_rowNow m_long0 m_row m_far m_ways m_queue m_queueEnd m_won) fun m_long0_1 m_row_2 m_far_3 m_ways_4 m_queue_5 m_queueEnd_6 m_won_7 =>
cl1 (f_X8_codeOf m_long0_1 m_row_2) fun r_9 =>
ald 78125 m_won_7 r_9 fun v_11 =>
some ((v_11 >>> (((1 : Int32) + p0) &&& 31)) &&& (1 : Int32), m_long0_1, m_row_2, m_far_3, m_ways_4, m_queue_5, m_queueEnd_6, m_won_7)
abbrev rX8_winsNow : Room := { frames := 6, cells := 0, slots := 0, locals := 145 }
set_option maxRecDepth 100000 in
set_option maxHeartbeats 4000000 in
theorem c_X8_winsNow (l : Launch) (E : En) (a : Nat → Nat) (b : Nat) (m_stones : Int32) (m_any : Int32) (m_backward : Int32) (m_ring : Int32) (m_two : Int32) (m_brooks : Int32) (m_readRow : Nat → Int32) (m_rowNow : Nat → Int32) (m_frogOn : Nat → Int32) (m_frogs : Int32) (m_kindOf : Nat → Int32) (m_moved : Int32) (m_movedFrom : Nat → Int32) (m_movedTo : Nat → Int32) (m_pageLength : Int32) (m_page : Nat → Int32) (m_faultAt : Int32) (m_isWhole : Int32) (m_newMany : Int32) (m_newSigns : Int32) (m_newRow : Nat → Int32) (m_long0 : Int32) (m_row : Nat → Int32) (m_far : Nat → Int32) (m_ways : Nat → Int64) (m_queue : Nat → Int32) (m_queueEnd : Int32) (m_endMany : Int32) (m_endSoon : Int32) (m_won : Nat → Int32) (m_seedNow : Int64) (m_isKept : Int32) (m_keptBrook : Int32) (m_keptMoved : Int32) (m_keptRow : Nat → Int32) (m_keptFrog : Nat → Int32) (m_keptFrom : Nat → Int32) (m_keptTo : Nat → Int32) (m_h : Int64) {p0 : Int32} {res : Int32 × Int32 × (Nat → Int32) × (Nat → Int32) × (Nat → Int64) × (Nat → Int32) × Int32 × (Nat → Int32)} (hf : f_X8_winsNow m_stones m_any m_backward m_ring m_two m_rowNow m_long0 m_row m_far m_ways m_queue m_queueEnd m_won p0 = some res) : Ct l yX8_winsNow (.code yX8_winsNow cX8_winsNow 2 (some .int)) rX8_winsNow E [.ref (a b), .int p0] (wM E a b m_stones m_any m_backward m_ring m_two m_brooks m_readRow m_rowNow m_frogOn m_frogs m_kindOf m_moved m_movedFrom m_movedTo m_pageLength m_page m_faultAt m_isWhole m_newMany m_newSigns m_newRow m_long0 m_row m_far m_ways m_queue m_queueEnd m_endMany m_endSoon m_won m_seedNow m_isKept m_keptBrook m_keptMoved m_keptRow m_keptFrog m_keptFrom m_keptTo m_h) (some (.int res.1)) (wM E a b m_stones m_any m_backward m_ring m_two m_brooks m_readRow m_rowNow m_frogOn m_frogs m_kindOf m_moved m_movedFrom m_movedTo m_pageLength m_page m_faultAt m_isWhole m_newMany m_newSigns m_newRow res.2.1 res.2.2.1 res.2.2.2.1 res.2.2.2.2.1 res.2.2.2.2.2.1 res.2.2.2.2.2.2.1 m_endMany m_endSoon res.2.2.2.2.2.2.2 m_seedNow m_isKept m_keptBrook m_keptMoved m_keptRow m_keptFrog m_keptFrom m_keptTo m_h) := by
  refine Ct.of (by decide) (Nat.le_of_ble_eq_true rfl) (fun Y hB hR => ?_)
  have hB : Cb E cX8_winsNow RX8 rX8_winsNow 2 Y := hB
  show J l E rX8_winsNow Y (wM E a b m_stones m_any m_backward m_ring m_two m_brooks m_readRow m_rowNow m_frogOn m_frogs m_kindOf m_moved m_movedFrom m_movedTo m_pageLength m_page m_faultAt m_isWhole m_newMany m_newSigns m_newRow m_long0 m_row m_far m_ways m_queue m_queueEnd m_endMany m_endSoon m_won m_seedNow m_isKept m_keptBrook m_keptMoved m_keptRow m_keptFrog m_keptFrom m_keptTo m_h) 0 [(0, .ref (a b)), (1, .int p0)] []
  unfold f_X8_winsNow at hf
  refine J_aload_n hB dX8_winsNow_0 rfl 0 rfl ?_
  obtain ⟨m_long0_1, m_row_2, m_far_3, m_ways_4, m_queue_5, m_queueEnd_6, m_won_7, h_8, hf⟩ := cl7_e hf
  refine J_callV (As := []) (rest := []) (n := 0) (ws' := wM E a b m_stones m_any m_backward m_ring m_two m_brooks m_readRow m_rowNow m_frogOn m_frogs m_kindOf m_moved m_movedFrom m_movedTo m_pageLength m_page m_faultAt m_isWhole m_newMany m_newSigns m_newRow m_long0_1 m_row_2 m_far_3 m_ways_4 m_queue_5 m_queueEnd_6 m_endMany m_endSoon m_won_7 m_seedNow m_isKept m_keptBrook m_keptMoved m_keptRow m_keptFrog m_keptFrom m_keptTo m_h) hB (c_X8_layGame l E a b m_stones m_any m_backward m_ring m_two m_brooks m_readRow m_rowNow m_frogOn m_frogs m_kindOf m_moved m_movedFrom m_movedTo m_pageLength m_page m_faultAt m_isWhole m_newMany m_newSigns m_newRow m_long0 m_row m_far m_ways m_queue m_queueEnd m_endMany m_endSoon m_won m_seedNow m_isKept m_keptBrook m_keptMoved m_keptRow m_keptFrog m_keptFrom m_keptTo m_h h_8) mi_X8_layGame ⟨ki_X8_layGame, kv_X8_layGame⟩ km_X8_236 ⟨rfl, rfl, Nat.le_of_ble_eq_true rfl, Nat.le_of_ble_eq_true rfl⟩ Lies.same 0 rfl rfl rfl rfl (Nat.le_of_ble_eq_true rfl) dX8_winsNow_1 ?_
  show J l E rX8_winsNow Y (wM E a b m_stones m_any m_backward m_ring m_two m_brooks m_readRow m_rowNow m_frogOn m_frogs m_kindOf m_moved m_movedFrom m_movedTo m_pageLength m_page m_faultAt m_isWhole m_newMany m_newSigns m_newRow m_long0_1 m_row_2 m_far_3 m_ways_4 m_queue_5 m_queueEnd_6 m_endMany m_endSoon m_won_7 m_seedNow m_isKept m_keptBrook m_keptMoved m_keptRow m_keptFrog m_keptFrom m_keptTo m_h) 4 [(0, .ref (a b)), (1, .int p0)] []
  refine J_aload_n hB dX8_winsNow_4 rfl 0 rfl ?_
  refine J_get (v := .ref (a (b + 13))) hB inX8 0 rfl rfl 29 (Nat.le_of_ble_eq_true rfl) kf_X8_49 rfl dX8_winsNow_5 ?_
  refine J_aload_n hB dX8_winsNow_8 rfl 0 rfl ?_
  obtain ⟨r_9, h_10, hf⟩ := cl1_e hf
  refine J_callV (As := []) (rest := [.ref (a (b + 13))]) (n := 0) (ws' := wM E a b m_stones m_any m_backward m_ring m_two m_brooks m_readRow m_rowNow m_frogOn m_frogs m_kindOf m_moved m_movedFrom m_movedTo m_pageLength m_page m_faultAt m_isWhole m_newMany m_newSigns m_newRow m_long0_1 m_row_2 m_far_3 m_ways_4 m_queue_5 m_queueEnd_6 m_endMany m_endSoon m_won_7 m_seedNow m_isKept m_keptBrook m_keptMoved m_keptRow m_keptFrog m_keptFrom m_keptTo m_h) hB (c_X8_codeOf l E a b m_stones m_any m_backward m_ring m_two m_brooks m_readRow m_rowNow m_frogOn m_frogs m_kindOf m_moved m_movedFrom m_movedTo m_pageLength m_page m_faultAt m_isWhole m_newMany m_newSigns m_newRow m_long0_1 m_row_2 m_far_3 m_ways_4 m_queue_5 m_queueEnd_6 m_endMany m_endSoon m_won_7 m_seedNow m_isKept m_keptBrook m_keptMoved m_keptRow m_keptFrog m_keptFrom m_keptTo m_h h_10) mi_X8_codeOf ⟨ki_X8_codeOf, kv_X8_codeOf⟩ km_X8_171 ⟨rfl, rfl, Nat.le_of_ble_eq_true rfl, Nat.le_of_ble_eq_true rfl⟩ Lies.same 0 rfl rfl rfl rfl (Nat.le_of_ble_eq_true rfl) dX8_winsNow_9 ?_
  show J l E rX8_winsNow Y (wM E a b m_stones m_any m_backward m_ring m_two m_brooks m_readRow m_rowNow m_frogOn m_frogs m_kindOf m_moved m_movedFrom m_movedTo m_pageLength m_page m_faultAt m_isWhole m_newMany m_newSigns m_newRow m_long0_1 m_row_2 m_far_3 m_ways_4 m_queue_5 m_queueEnd_6 m_endMany m_endSoon m_won_7 m_seedNow m_isKept m_keptBrook m_keptMoved m_keptRow m_keptFrog m_keptFrom m_keptTo m_h) 12 [(0, .ref (a b)), (1, .int p0)] [.int r_9, .ref (a (b + 13))]
  obtain ⟨v_11, ev_11, h_12, hf⟩ := ald_e hf
  refine J_bald hB 13 rfl ev_11 h_12 dX8_winsNow_12 ?_
  refine J_iconst (v := 1) hB dX8_winsNow_13 rfl ?_
  refine J_iload_n hB dX8_winsNow_14 rfl 1 rfl ?_
  refine J_iadd hB dX8_winsNow_15 ?_
  refine J_ishr hB dX8_winsNow_16 ?_
  refine J_iconst (v := 1) hB dX8_winsNow_17 rfl ?_
  refine J_iand hB dX8_winsNow_18 ?_
  obtain rfl := Option.some.inj hf
  exact J_iret hB hR dX8_winsNow_19
def f_X8_isGame (m_stones : Int32) (m_backward : Int32) (m_ring : Int32) : Option (Int32) :=
if m_stones ≤ 0 then (
some 0) else (
if m_backward = 0 then (
if m_ring = 0 then (
some 1) else (
some 0)) else (
some 0))
abbrev rX8_isGame : Room := { frames := 0, cells := 0, slots := 0, locals := 0 }
set_option maxRecDepth 100000 in
set_option maxHeartbeats 4000000 in
theorem c_X8_isGame (l : Launch) (E : En) (a : Nat → Nat) (b : Nat) (m_stones : Int32) (m_any : Int32) (m_backward : Int32) (m_ring : Int32) (m_two : Int32) (m_brooks : Int32) (m_readRow : Nat → Int32) (m_rowNow : Nat → Int32) (m_frogOn : Nat → Int32) (m_frogs : Int32) (m_kindOf : Nat → Int32) (m_moved : Int32) (m_movedFrom : Nat → Int32) (m_movedTo : Nat → Int32) (m_pageLength : Int32) (m_page : Nat → Int32) (m_faultAt : Int32) (m_isWhole : Int32) (m_newMany : Int32) (m_newSigns : Int32) (m_newRow : Nat → Int32) (m_long0 : Int32) (m_row : Nat → Int32) (m_far : Nat → Int32) (m_ways : Nat → Int64) (m_queue : Nat → Int32) (m_queueEnd : Int32) (m_endMany : Int32) (m_endSoon : Int32) (m_won : Nat → Int32) (m_seedNow : Int64) (m_isKept : Int32) (m_keptBrook : Int32) (m_keptMoved : Int32) (m_keptRow : Nat → Int32) (m_keptFrog : Nat → Int32) (m_keptFrom : Nat → Int32) (m_keptTo : Nat → Int32) (m_h : Int64) {res : Int32} (hf : f_X8_isGame m_stones m_backward m_ring = some res) : Ct l yX8_isGame (.code yX8_isGame cX8_isGame 1 (some .boolean)) rX8_isGame E [.ref (a b)] (wM E a b m_stones m_any m_backward m_ring m_two m_brooks m_readRow m_rowNow m_frogOn m_frogs m_kindOf m_moved m_movedFrom m_movedTo m_pageLength m_page m_faultAt m_isWhole m_newMany m_newSigns m_newRow m_long0 m_row m_far m_ways m_queue m_queueEnd m_endMany m_endSoon m_won m_seedNow m_isKept m_keptBrook m_keptMoved m_keptRow m_keptFrog m_keptFrom m_keptTo m_h) (some (.int res)) (wM E a b m_stones m_any m_backward m_ring m_two m_brooks m_readRow m_rowNow m_frogOn m_frogs m_kindOf m_moved m_movedFrom m_movedTo m_pageLength m_page m_faultAt m_isWhole m_newMany m_newSigns m_newRow m_long0 m_row m_far m_ways m_queue m_queueEnd m_endMany m_endSoon m_won m_seedNow m_isKept m_keptBrook m_keptMoved m_keptRow m_keptFrog m_keptFrom m_keptTo m_h) := by
  refine Ct.of (by decide) (Nat.le_of_ble_eq_true rfl) (fun Y hB hR => ?_)
  have hB : Cb E cX8_isGame RX8 rX8_isGame 1 Y := hB
  show J l E rX8_isGame Y (wM E a b m_stones m_any m_backward m_ring m_two m_brooks m_readRow m_rowNow m_frogOn m_frogs m_kindOf m_moved m_movedFrom m_movedTo m_pageLength m_page m_faultAt m_isWhole m_newMany m_newSigns m_newRow m_long0 m_row m_far m_ways m_queue m_queueEnd m_endMany m_endSoon m_won m_seedNow m_isKept m_keptBrook m_keptMoved m_keptRow m_keptFrog m_keptFrom m_keptTo m_h) 0 [(0, .ref (a b))] []
  unfold f_X8_isGame at hf
  refine J_aload_n hB dX8_isGame_0 rfl 0 rfl ?_
  refine J_get (v := .int m_stones) hB inX8 0 rfl rfl 0 (Nat.le_of_ble_eq_true rfl) kf_X8_93 rfl dX8_isGame_1 ?_
  refine J_if_le (tgt := 25) hB dX8_isGame_4 rfl (fun c_1 => ?_) (fun c_1 => ?_)
  · have hf := it_t c_1 hf
    refine J_iconst (v := 0) hB dX8_isGame_25 rfl ?_
    obtain rfl := Option.some.inj hf
    exact J_zret hB hR (Or.inl rfl) dX8_isGame_26
  · have hf := it_f c_1 hf
    refine J_aload_n hB dX8_isGame_7 rfl 0 rfl ?_
    refine J_get (v := .int m_backward) hB inX8 0 rfl rfl 2 (Nat.le_of_ble_eq_true rfl) kf_X8_99 rfl dX8_isGame_8 ?_
    refine J_if_ne (tgt := 25) hB dX8_isGame_11 rfl (fun c_2 => ?_) (fun c_2 => ?_)
    · have hf := it_f c_2 hf
      refine J_iconst (v := 0) hB dX8_isGame_25 rfl ?_
      obtain rfl := Option.some.inj hf
      exact J_zret hB hR (Or.inl rfl) dX8_isGame_26
    · have hf := it_t c_2 hf
      refine J_aload_n hB dX8_isGame_14 rfl 0 rfl ?_
      refine J_get (v := .int m_ring) hB inX8 0 rfl rfl 3 (Nat.le_of_ble_eq_true rfl) kf_X8_102 rfl dX8_isGame_15 ?_
      refine J_if_ne (tgt := 25) hB dX8_isGame_18 rfl (fun c_3 => ?_) (fun c_3 => ?_)
      · have hf := it_f c_3 hf
        refine J_iconst (v := 0) hB dX8_isGame_25 rfl ?_
        obtain rfl := Option.some.inj hf
        exact J_zret hB hR (Or.inl rfl) dX8_isGame_26
      · have hf := it_t c_3 hf
        refine J_iconst (v := 1) hB dX8_isGame_21 rfl ?_
        refine J_goto (tgt := 26) hB dX8_isGame_22 rfl ?_
        obtain rfl := Option.some.inj hf
        exact J_zret hB hR (Or.inr rfl) dX8_isGame_26
def f_X8_wins (m_stones : Int32) (m_any : Int32) (m_backward : Int32) (m_ring : Int32) (m_two : Int32) (m_rowNow : Nat → Int32) (m_long0 : Int32) (m_row : Nat → Int32) (m_far : Nat → Int32) (m_ways : Nat → Int64) (m_queue : Nat → Int32) (m_queueEnd : Int32) (m_won : Nat → Int32) (p0 : Int32) : Option (Int32 × Int32 × (Nat → Int32) × (Nat → Int32) × (Nat → Int64) × (Nat → Int32) × Int32 × (Nat → Int32)) :=
cl1 (f_X8_within p0 0 1) fun r_1 =>
if r_1 = 0 then (
some ((-102), m_long0, m_row, m_far, m_ways, m_queue, m_queueEnd, m_won)) else (
cl1 (f_X8_isGame m_stones m_backward m_ring) fun r_4 =>
if r_4 = 0 then (
some ((-103), m_long0, m_row, m_far, m_ways, m_queue, m_queueEnd, m_won)) else (
cl8 (f_X8_winsNow m_stones m_any m_backward m_ring m_two m_rowNow m_long0 m_row m_far m_ways m_queue m_queueEnd m_won p0) fun r_7 m_long0_8 m_row_9 m_far_10 m_ways_11 m_queue_12 m_queueEnd_13 m_won_14 =>
some (r_7, m_long0_8, m_row_9, m_far_10, m_ways_11, m_queue_12, m_queueEnd_13, m_won_14)))
abbrev rX8_wins : Room := { frames := 7, cells := 0, slots := 0, locals := 166 }
set_option maxRecDepth 100000 in
set_option maxHeartbeats 4000000 in
theorem c_X8_wins (l : Launch) (E : En) (a : Nat → Nat) (b : Nat) (m_stones : Int32) (m_any : Int32) (m_backward : Int32) (m_ring : Int32) (m_two : Int32) (m_brooks : Int32) (m_readRow : Nat → Int32) (m_rowNow : Nat → Int32) (m_frogOn : Nat → Int32) (m_frogs : Int32) (m_kindOf : Nat → Int32) (m_moved : Int32) (m_movedFrom : Nat → Int32) (m_movedTo : Nat → Int32) (m_pageLength : Int32) (m_page : Nat → Int32) (m_faultAt : Int32) (m_isWhole : Int32) (m_newMany : Int32) (m_newSigns : Int32) (m_newRow : Nat → Int32) (m_long0 : Int32) (m_row : Nat → Int32) (m_far : Nat → Int32) (m_ways : Nat → Int64) (m_queue : Nat → Int32) (m_queueEnd : Int32) (m_endMany : Int32) (m_endSoon : Int32) (m_won : Nat → Int32) (m_seedNow : Int64) (m_isKept : Int32) (m_keptBrook : Int32) (m_keptMoved : Int32) (m_keptRow : Nat → Int32) (m_keptFrog : Nat → Int32) (m_keptFrom : Nat → Int32) (m_keptTo : Nat → Int32) (m_h : Int64) {p0 : Int32} {res : Int32 × Int32 × (Nat → Int32) × (Nat → Int32) × (Nat → Int64) × (Nat → Int32) × Int32 × (Nat → Int32)} (hf : f_X8_wins m_stones m_any m_backward m_ring m_two m_rowNow m_long0 m_row m_far m_ways m_queue m_queueEnd m_won p0 = some res) : Ct l yX8_wins (.code yX8_wins cX8_wins 2 (some .int)) rX8_wins E [.ref (a b), .int p0] (wM E a b m_stones m_any m_backward m_ring m_two m_brooks m_readRow m_rowNow m_frogOn m_frogs m_kindOf m_moved m_movedFrom m_movedTo m_pageLength m_page m_faultAt m_isWhole m_newMany m_newSigns m_newRow m_long0 m_row m_far m_ways m_queue m_queueEnd m_endMany m_endSoon m_won m_seedNow m_isKept m_keptBrook m_keptMoved m_keptRow m_keptFrog m_keptFrom m_keptTo m_h) (some (.int res.1)) (wM E a b m_stones m_any m_backward m_ring m_two m_brooks m_readRow m_rowNow m_frogOn m_frogs m_kindOf m_moved m_movedFrom m_movedTo m_pageLength m_page m_faultAt m_isWhole m_newMany m_newSigns m_newRow res.2.1 res.2.2.1 res.2.2.2.1 res.2.2.2.2.1 res.2.2.2.2.2.1 res.2.2.2.2.2.2.1 m_endMany m_endSoon res.2.2.2.2.2.2.2 m_seedNow m_isKept m_keptBrook m_keptMoved m_keptRow m_keptFrog m_keptFrom m_keptTo m_h) := by
  refine Ct.of (by decide) (Nat.le_of_ble_eq_true rfl) (fun Y hB hR => ?_)
  have hB : Cb E cX8_wins RX8 rX8_wins 2 Y := hB
  show J l E rX8_wins Y (wM E a b m_stones m_any m_backward m_ring m_two m_brooks m_readRow m_rowNow m_frogOn m_frogs m_kindOf m_moved m_movedFrom m_movedTo m_pageLength m_page m_faultAt m_isWhole m_newMany m_newSigns m_newRow m_long0 m_row m_far m_ways m_queue m_queueEnd m_endMany m_endSoon m_won m_seedNow m_isKept m_keptBrook m_keptMoved m_keptRow m_keptFrog m_keptFrom m_keptTo m_h) 0 [(0, .ref (a b)), (1, .int p0)] []
  unfold f_X8_wins at hf
  refine J_iload_n hB dX8_wins_0 rfl 1 rfl ?_
  refine J_iconst (v := 0) hB dX8_wins_1 rfl ?_
  refine J_iconst (v := 1) hB dX8_wins_2 rfl ?_
  obtain ⟨r_1, h_2, hf⟩ := cl1_e hf
  refine J_callS (As := [.int p0, .int 0, .int 1]) (rest := []) (n := 3) (ws' := wM E a b m_stones m_any m_backward m_ring m_two m_brooks m_readRow m_rowNow m_frogOn m_frogs m_kindOf m_moved m_movedFrom m_movedTo m_pageLength m_page m_faultAt m_isWhole m_newMany m_newSigns m_newRow m_long0 m_row m_far m_ways m_queue m_queueEnd m_endMany m_endSoon m_won m_seedNow m_isKept m_keptBrook m_keptMoved m_keptRow m_keptFrog m_keptFrom m_keptTo m_h) hB (c_X8_within l E a h_2) mi_X8_within ks_X8_within km_X8_117 ⟨rfl, rfl, Nat.le_of_ble_eq_true rfl, Nat.le_of_ble_eq_true rfl⟩ Lies.none rfl rfl (Nat.le_of_ble_eq_true rfl) dX8_wins_3 ?_
  show J l E rX8_wins Y (wM E a b m_stones m_any m_backward m_ring m_two m_brooks m_readRow m_rowNow m_frogOn m_frogs m_kindOf m_moved m_movedFrom m_movedTo m_pageLength m_page m_faultAt m_isWhole m_newMany m_newSigns m_newRow m_long0 m_row m_far m_ways m_queue m_queueEnd m_endMany m_endSoon m_won m_seedNow m_isKept m_keptBrook m_keptMoved m_keptRow m_keptFrog m_keptFrom m_keptTo m_h) 6 [(0, .ref (a b)), (1, .int p0)] [.int r_1]
  refine J_if_ne (tgt := 12) hB dX8_wins_6 rfl (fun c_3 => ?_) (fun c_3 => ?_)
  · have hf := it_f c_3 hf
    refine J_aload_n hB dX8_wins_12 rfl 0 rfl ?_
    obtain ⟨r_4, h_5, hf⟩ := cl1_e hf
    refine J_callV (As := []) (rest := []) (n := 0) (ws' := wM E a b m_stones m_any m_backward m_ring m_two m_brooks m_readRow m_rowNow m_frogOn m_frogs m_kindOf m_moved m_movedFrom m_movedTo m_pageLength m_page m_faultAt m_isWhole m_newMany m_newSigns m_newRow m_long0 m_row m_far m_ways m_queue m_queueEnd m_endMany m_endSoon m_won m_seedNow m_isKept m_keptBrook m_keptMoved m_keptRow m_keptFrog m_keptFrom m_keptTo m_h) hB (c_X8_isGame l E a b m_stones m_any m_backward m_ring m_two m_brooks m_readRow m_rowNow m_frogOn m_frogs m_kindOf m_moved m_movedFrom m_movedTo m_pageLength m_page m_faultAt m_isWhole m_newMany m_newSigns m_newRow m_long0 m_row m_far m_ways m_queue m_queueEnd m_endMany m_endSoon m_won m_seedNow m_isKept m_keptBrook m_keptMoved m_keptRow m_keptFrog m_keptFrom m_keptTo m_h h_5) mi_X8_isGame ⟨ki_X8_isGame, kv_X8_isGame⟩ km_X8_239 ⟨rfl, rfl, Nat.le_of_ble_eq_true rfl, Nat.le_of_ble_eq_true rfl⟩ Lies.same 0 rfl rfl rfl rfl (Nat.le_of_ble_eq_true rfl) dX8_wins_13 ?_
    show J l E rX8_wins Y (wM E a b m_stones m_any m_backward m_ring m_two m_brooks m_readRow m_rowNow m_frogOn m_frogs m_kindOf m_moved m_movedFrom m_movedTo m_pageLength m_page m_faultAt m_isWhole m_newMany m_newSigns m_newRow m_long0 m_row m_far m_ways m_queue m_queueEnd m_endMany m_endSoon m_won m_seedNow m_isKept m_keptBrook m_keptMoved m_keptRow m_keptFrog m_keptFrom m_keptTo m_h) 16 [(0, .ref (a b)), (1, .int p0)] [.int r_4]
    refine J_if_eq (tgt := 27) hB dX8_wins_16 rfl (fun c_6 => ?_) (fun c_6 => ?_)
    · have hf := it_t c_6 hf
      refine J_bipush (v := (-103)) hB dX8_wins_27 rfl ?_
      obtain rfl := Option.some.inj hf
      exact J_iret hB hR dX8_wins_29
    · have hf := it_f c_6 hf
      refine J_aload_n hB dX8_wins_19 rfl 0 rfl ?_
      refine J_iload_n hB dX8_wins_20 rfl 1 rfl ?_
      obtain ⟨r_7, m_long0_8, m_row_9, m_far_10, m_ways_11, m_queue_12, m_queueEnd_13, m_won_14, h_15, hf⟩ := cl8_e hf
      refine J_callV (As := [.int p0]) (rest := []) (n := 1) (ws' := wM E a b m_stones m_any m_backward m_ring m_two m_brooks m_readRow m_rowNow m_frogOn m_frogs m_kindOf m_moved m_movedFrom m_movedTo m_pageLength m_page m_faultAt m_isWhole m_newMany m_newSigns m_newRow m_long0_8 m_row_9 m_far_10 m_ways_11 m_queue_12 m_queueEnd_13 m_endMany m_endSoon m_won_14 m_seedNow m_isKept m_keptBrook m_keptMoved m_keptRow m_keptFrog m_keptFrom m_keptTo m_h) hB (c_X8_winsNow l E a b m_stones m_any m_backward m_ring m_two m_brooks m_readRow m_rowNow m_frogOn m_frogs m_kindOf m_moved m_movedFrom m_movedTo m_pageLength m_page m_faultAt m_isWhole m_newMany m_newSigns m_newRow m_long0 m_row m_far m_ways m_queue m_queueEnd m_endMany m_endSoon m_won m_seedNow m_isKept m_keptBrook m_keptMoved m_keptRow m_keptFrog m_keptFrom m_keptTo m_h h_15) mi_X8_winsNow ⟨ki_X8_winsNow, kv_X8_winsNow⟩ km_X8_243 ⟨rfl, rfl, Nat.le_of_ble_eq_true rfl, Nat.le_of_ble_eq_true rfl⟩ Lies.same 0 rfl rfl rfl rfl (Nat.le_of_ble_eq_true rfl) dX8_wins_21 ?_
      show J l E rX8_wins Y (wM E a b m_stones m_any m_backward m_ring m_two m_brooks m_readRow m_rowNow m_frogOn m_frogs m_kindOf m_moved m_movedFrom m_movedTo m_pageLength m_page m_faultAt m_isWhole m_newMany m_newSigns m_newRow m_long0_8 m_row_9 m_far_10 m_ways_11 m_queue_12 m_queueEnd_13 m_endMany m_endSoon m_won_14 m_seedNow m_isKept m_keptBrook m_keptMoved m_keptRow m_keptFrog m_keptFrom m_keptTo m_h) 24 [(0, .ref (a b)), (1, .int p0)] [.int r_7]
      refine J_goto (tgt := 29) hB dX8_wins_24 rfl ?_
      obtain rfl := Option.some.inj hf
      exact J_iret hB hR dX8_wins_29
  · have hf := it_t c_3 hf
    refine J_bipush (v := (-102)) hB dX8_wins_9 rfl ?_
    obtain rfl := Option.some.inj hf
    exact J_iret hB hR dX8_wins_11
def f_X8_byNow (m_stones : Int32) (m_any : Int32) (m_backward : Int32) (m_ring : Int32) (m_two : Int32) (m_rowNow : Nat → Int32) (m_long0 : Int32) (m_row : Nat → Int32) (m_far : Nat → Int32) (m_ways : Nat → Int64) (m_queue : Nat → Int32) (m_queueEnd : Int32) (m_won : Nat → Int32) (p0 : Int32) (p1 : Int32) : Option (Int32 × Int32 × (Nat → Int32) × (Nat → Int32) × (Nat → Int64) × (Nat → Int32) × Int32 × (Nat → Int32)) :=
cl7 (f_X8_layGame m_stones m_any m_backward m_ring m_two m_rowNow m_long0 m_row m_far m_ways m_queue m_queueEnd m_won) fun m_long0_1 m_row_2 m_far_3 m_ways_4 m_queue_5 m_queueEnd_6 m_won_7 =>
cl1 (f_X8_codeOf m_long0_1 m_row_2) fun r_9 =>
lp1_0 (fun (x4_11 : Int32) nx12 ex12 =>
if m_long0_1 ≤ x4_11 then (
ex12) else (
lp1_0 (fun (x5_13 : Int32) nx24 ex24 =>
if m_long0_1 ≤ x5_13 then (
ex24) else (
ald 7 m_row_2 x4_11 fun v_15 =>
cl1 (f_X8_isOf v_15 p0) fun r_17 =>
jn0 (
nmv (α := Int32) (x5_13 + 1) fun x5_19 =>
nx24 x5_19) fun j100 =>
if r_17 = 0 then (
j100) else (
cl1 (f_X8_mayMove m_any m_backward m_ring m_two m_long0_1 m_row_2 x4_11 x5_13) fun r_21 =>
if r_21 = 0 then (
j100) else (
ald 7 m_row_2 x4_11 fun v_24 =>
cl1 (f_X8_behindMove r_9 v_24 x4_11 x5_13) fun r_26 =>
ald 78125 m_won_7 r_26 fun v_28 =>
if ((v_28 >>> (((2 : Int32) - p0) &&& 31)) &&& (1 : Int32)) = 0 then (
if p1 = 0 then (
some (x4_11, m_long0_1, m_row_2, m_far_3, m_ways_4, m_queue_5, m_queueEnd_6, m_won_7)) else (
some (x5_13, m_long0_1, m_row_2, m_far_3, m_ways_4, m_queue_5, m_queueEnd_6, m_won_7))) else (
j100))))) (
nmv (α := Int32) (x4_11 + 1) fun x4_32 =>
nx12 x4_32) fuel 0)) (
some ((-1), m_long0_1, m_row_2, m_far_3, m_ways_4, m_queue_5, m_queueEnd_6, m_won_7)) fuel 0
abbrev rX8_byNow : Room := { frames := 6, cells := 0, slots := 0, locals := 145 }
set_option maxRecDepth 100000 in
set_option maxHeartbeats 4000000 in
theorem c_X8_byNow (l : Launch) (E : En) (a : Nat → Nat) (b : Nat) (m_stones : Int32) (m_any : Int32) (m_backward : Int32) (m_ring : Int32) (m_two : Int32) (m_brooks : Int32) (m_readRow : Nat → Int32) (m_rowNow : Nat → Int32) (m_frogOn : Nat → Int32) (m_frogs : Int32) (m_kindOf : Nat → Int32) (m_moved : Int32) (m_movedFrom : Nat → Int32) (m_movedTo : Nat → Int32) (m_pageLength : Int32) (m_page : Nat → Int32) (m_faultAt : Int32) (m_isWhole : Int32) (m_newMany : Int32) (m_newSigns : Int32) (m_newRow : Nat → Int32) (m_long0 : Int32) (m_row : Nat → Int32) (m_far : Nat → Int32) (m_ways : Nat → Int64) (m_queue : Nat → Int32) (m_queueEnd : Int32) (m_endMany : Int32) (m_endSoon : Int32) (m_won : Nat → Int32) (m_seedNow : Int64) (m_isKept : Int32) (m_keptBrook : Int32) (m_keptMoved : Int32) (m_keptRow : Nat → Int32) (m_keptFrog : Nat → Int32) (m_keptFrom : Nat → Int32) (m_keptTo : Nat → Int32) (m_h : Int64) {p0 : Int32} {p1 : Int32} {res : Int32 × Int32 × (Nat → Int32) × (Nat → Int32) × (Nat → Int64) × (Nat → Int32) × Int32 × (Nat → Int32)} (hf : f_X8_byNow m_stones m_any m_backward m_ring m_two m_rowNow m_long0 m_row m_far m_ways m_queue m_queueEnd m_won p0 p1 = some res) : Ct l yX8_byNow (.code yX8_byNow cX8_byNow 6 (some .int)) rX8_byNow E [.ref (a b), .int p0, .int p1] (wM E a b m_stones m_any m_backward m_ring m_two m_brooks m_readRow m_rowNow m_frogOn m_frogs m_kindOf m_moved m_movedFrom m_movedTo m_pageLength m_page m_faultAt m_isWhole m_newMany m_newSigns m_newRow m_long0 m_row m_far m_ways m_queue m_queueEnd m_endMany m_endSoon m_won m_seedNow m_isKept m_keptBrook m_keptMoved m_keptRow m_keptFrog m_keptFrom m_keptTo m_h) (some (.int res.1)) (wM E a b m_stones m_any m_backward m_ring m_two m_brooks m_readRow m_rowNow m_frogOn m_frogs m_kindOf m_moved m_movedFrom m_movedTo m_pageLength m_page m_faultAt m_isWhole m_newMany m_newSigns m_newRow res.2.1 res.2.2.1 res.2.2.2.1 res.2.2.2.2.1 res.2.2.2.2.2.1 res.2.2.2.2.2.2.1 m_endMany m_endSoon res.2.2.2.2.2.2.2 m_seedNow m_isKept m_keptBrook m_keptMoved m_keptRow m_keptFrog m_keptFrom m_keptTo m_h) := by
  refine Ct.of (by decide) (Nat.le_of_ble_eq_true rfl) (fun Y hB hR => ?_)
  have hB : Cb E cX8_byNow RX8 rX8_byNow 6 Y := hB
  show J l E rX8_byNow Y (wM E a b m_stones m_any m_backward m_ring m_two m_brooks m_readRow m_rowNow m_frogOn m_frogs m_kindOf m_moved m_movedFrom m_movedTo m_pageLength m_page m_faultAt m_isWhole m_newMany m_newSigns m_newRow m_long0 m_row m_far m_ways m_queue m_queueEnd m_endMany m_endSoon m_won m_seedNow m_isKept m_keptBrook m_keptMoved m_keptRow m_keptFrog m_keptFrom m_keptTo m_h) 0 [(0, .ref (a b)), (1, .int p0), (2, .int p1)] []
  unfold f_X8_byNow at hf
  refine J_aload_n hB dX8_byNow_0 rfl 0 rfl ?_
  obtain ⟨m_long0_1, m_row_2, m_far_3, m_ways_4, m_queue_5, m_queueEnd_6, m_won_7, h_8, hf⟩ := cl7_e hf
  refine J_callV (As := []) (rest := []) (n := 0) (ws' := wM E a b m_stones m_any m_backward m_ring m_two m_brooks m_readRow m_rowNow m_frogOn m_frogs m_kindOf m_moved m_movedFrom m_movedTo m_pageLength m_page m_faultAt m_isWhole m_newMany m_newSigns m_newRow m_long0_1 m_row_2 m_far_3 m_ways_4 m_queue_5 m_queueEnd_6 m_endMany m_endSoon m_won_7 m_seedNow m_isKept m_keptBrook m_keptMoved m_keptRow m_keptFrog m_keptFrom m_keptTo m_h) hB (c_X8_layGame l E a b m_stones m_any m_backward m_ring m_two m_brooks m_readRow m_rowNow m_frogOn m_frogs m_kindOf m_moved m_movedFrom m_movedTo m_pageLength m_page m_faultAt m_isWhole m_newMany m_newSigns m_newRow m_long0 m_row m_far m_ways m_queue m_queueEnd m_endMany m_endSoon m_won m_seedNow m_isKept m_keptBrook m_keptMoved m_keptRow m_keptFrog m_keptFrom m_keptTo m_h h_8) mi_X8_layGame ⟨ki_X8_layGame, kv_X8_layGame⟩ km_X8_236 ⟨rfl, rfl, Nat.le_of_ble_eq_true rfl, Nat.le_of_ble_eq_true rfl⟩ Lies.same 0 rfl rfl rfl rfl (Nat.le_of_ble_eq_true rfl) dX8_byNow_1 ?_
  show J l E rX8_byNow Y (wM E a b m_stones m_any m_backward m_ring m_two m_brooks m_readRow m_rowNow m_frogOn m_frogs m_kindOf m_moved m_movedFrom m_movedTo m_pageLength m_page m_faultAt m_isWhole m_newMany m_newSigns m_newRow m_long0_1 m_row_2 m_far_3 m_ways_4 m_queue_5 m_queueEnd_6 m_endMany m_endSoon m_won_7 m_seedNow m_isKept m_keptBrook m_keptMoved m_keptRow m_keptFrog m_keptFrom m_keptTo m_h) 4 [(0, .ref (a b)), (1, .int p0), (2, .int p1)] []
  refine J_aload_n hB dX8_byNow_4 rfl 0 rfl ?_
  obtain ⟨r_9, h_10, hf⟩ := cl1_e hf
  refine J_callV (As := []) (rest := []) (n := 0) (ws' := wM E a b m_stones m_any m_backward m_ring m_two m_brooks m_readRow m_rowNow m_frogOn m_frogs m_kindOf m_moved m_movedFrom m_movedTo m_pageLength m_page m_faultAt m_isWhole m_newMany m_newSigns m_newRow m_long0_1 m_row_2 m_far_3 m_ways_4 m_queue_5 m_queueEnd_6 m_endMany m_endSoon m_won_7 m_seedNow m_isKept m_keptBrook m_keptMoved m_keptRow m_keptFrog m_keptFrom m_keptTo m_h) hB (c_X8_codeOf l E a b m_stones m_any m_backward m_ring m_two m_brooks m_readRow m_rowNow m_frogOn m_frogs m_kindOf m_moved m_movedFrom m_movedTo m_pageLength m_page m_faultAt m_isWhole m_newMany m_newSigns m_newRow m_long0_1 m_row_2 m_far_3 m_ways_4 m_queue_5 m_queueEnd_6 m_endMany m_endSoon m_won_7 m_seedNow m_isKept m_keptBrook m_keptMoved m_keptRow m_keptFrog m_keptFrom m_keptTo m_h h_10) mi_X8_codeOf ⟨ki_X8_codeOf, kv_X8_codeOf⟩ km_X8_171 ⟨rfl, rfl, Nat.le_of_ble_eq_true rfl, Nat.le_of_ble_eq_true rfl⟩ Lies.same 0 rfl rfl rfl rfl (Nat.le_of_ble_eq_true rfl) dX8_byNow_5 ?_
  show J l E rX8_byNow Y (wM E a b m_stones m_any m_backward m_ring m_two m_brooks m_readRow m_rowNow m_frogOn m_frogs m_kindOf m_moved m_movedFrom m_movedTo m_pageLength m_page m_faultAt m_isWhole m_newMany m_newSigns m_newRow m_long0_1 m_row_2 m_far_3 m_ways_4 m_queue_5 m_queueEnd_6 m_endMany m_endSoon m_won_7 m_seedNow m_isKept m_keptBrook m_keptMoved m_keptRow m_keptFrog m_keptFrom m_keptTo m_h) 8 [(0, .ref (a b)), (1, .int p0), (2, .int p1)] [.int r_9]
  refine J_istore_n (lv' := [(3, .int r_9), (0, .ref (a b)), (1, .int p0), (2, .int p1)]) hB rfl dX8_byNow_8 rfl (Nat.le_of_ble_eq_true rfl) rfl ?_
  refine J_iconst (v := 0) hB dX8_byNow_9 rfl ?_
  refine J_istore (lv' := [(4, .int 0), (3, .int r_9), (0, .ref (a b)), (1, .int p0), (2, .int p1)]) hB rfl dX8_byNow_10 (Nat.le_of_ble_eq_true rfl) rfl ?_
  refine J_lv [2, 3, 4, 1, 0] rfl ?_
  refine lp1_0_J (P := fun x4_11 => J l E rX8_byNow Y (wM E a b m_stones m_any m_backward m_ring m_two m_brooks m_readRow m_rowNow m_frogOn m_frogs m_kindOf m_moved m_movedFrom m_movedTo m_pageLength m_page m_faultAt m_isWhole m_newMany m_newSigns m_newRow m_long0_1 m_row_2 m_far_3 m_ways_4 m_queue_5 m_queueEnd_6 m_endMany m_endSoon m_won_7 m_seedNow m_isKept m_keptBrook m_keptMoved m_keptRow m_keptFrog m_keptFrom m_keptTo m_h) 12 [(0, .ref (a b)), (1, .int p0), (2, .int p1), (3, .int r_9), (4, .int x4_11)] []) (Q := J l E rX8_byNow Y (wM E a b m_stones m_any m_backward m_ring m_two m_brooks m_readRow m_rowNow m_frogOn m_frogs m_kindOf m_moved m_movedFrom m_movedTo m_pageLength m_page m_faultAt m_isWhole m_newMany m_newSigns m_newRow m_long0_1 m_row_2 m_far_3 m_ways_4 m_queue_5 m_queueEnd_6 m_endMany m_endSoon m_won_7 m_seedNow m_isKept m_keptBrook m_keptMoved m_keptRow m_keptFrog m_keptFrom m_keptTo m_h) 112 [] []) (fun x4_11 nx12 ex12 hnx12 hex12 hf => ?_) (fun hf => ?_) hf
  · refine J_iload hB dX8_byNow_12 4 rfl ?_
    refine J_aload_n hB dX8_byNow_14 rfl 0 rfl ?_
    refine J_get (v := .int m_long0_1) hB inX8 0 rfl rfl 21 (Nat.le_of_ble_eq_true rfl) kf_X8_135 rfl dX8_byNow_15 ?_
    refine J_icmp_ge (tgt := 112) hB dX8_byNow_18 rfl (fun c_12 => ?_) (fun c_12 => ?_)
    · have hf := it_t c_12 hf
      exact J_lv [] rfl (hex12 hf)
    · have hf := it_f c_12 hf
      refine J_iconst (v := 0) hB dX8_byNow_21 rfl ?_
      refine J_istore (lv' := [(5, .int 0), (0, .ref (a b)), (1, .int p0), (2, .int p1), (3, .int r_9), (4, .int x4_11)]) hB rfl dX8_byNow_22 (Nat.le_of_ble_eq_true rfl) rfl ?_
      refine J_lv [1, 2, 3, 4, 5, 0] rfl ?_
      refine lp1_0_J (P := fun x5_13 => J l E rX8_byNow Y (wM E a b m_stones m_any m_backward m_ring m_two m_brooks m_readRow m_rowNow m_frogOn m_frogs m_kindOf m_moved m_movedFrom m_movedTo m_pageLength m_page m_faultAt m_isWhole m_newMany m_newSigns m_newRow m_long0_1 m_row_2 m_far_3 m_ways_4 m_queue_5 m_queueEnd_6 m_endMany m_endSoon m_won_7 m_seedNow m_isKept m_keptBrook m_keptMoved m_keptRow m_keptFrog m_keptFrom m_keptTo m_h) 24 [(0, .ref (a b)), (1, .int p0), (2, .int p1), (3, .int r_9), (4, .int x4_11), (5, .int x5_13)] []) (Q := J l E rX8_byNow Y (wM E a b m_stones m_any m_backward m_ring m_two m_brooks m_readRow m_rowNow m_frogOn m_frogs m_kindOf m_moved m_movedFrom m_movedTo m_pageLength m_page m_faultAt m_isWhole m_newMany m_newSigns m_newRow m_long0_1 m_row_2 m_far_3 m_ways_4 m_queue_5 m_queueEnd_6 m_endMany m_endSoon m_won_7 m_seedNow m_isKept m_keptBrook m_keptMoved m_keptRow m_keptFrog m_keptFrom m_keptTo m_h) 106 [(0, .ref (a b)), (1, .int p0), (2, .int p1), (3, .int r_9), (4, .int x4_11)] []) (fun x5_13 nx24 ex24 hnx24 hex24 hf => ?_) (fun hf => ?_) hf
      · refine J_iload hB dX8_byNow_24 5 rfl ?_
        refine J_aload_n hB dX8_byNow_26 rfl 0 rfl ?_
        refine J_get (v := .int m_long0_1) hB inX8 0 rfl rfl 21 (Nat.le_of_ble_eq_true rfl) kf_X8_135 rfl dX8_byNow_27 ?_
        refine J_icmp_ge (tgt := 106) hB dX8_byNow_30 rfl (fun c_14 => ?_) (fun c_14 => ?_)
        · have hf := it_t c_14 hf
          exact J_lv [0, 1, 2, 3, 4] rfl (hex24 hf)
        · have hf := it_f c_14 hf
          refine J_aload_n hB dX8_byNow_33 rfl 0 rfl ?_
          refine J_aload_n hB dX8_byNow_34 rfl 0 rfl ?_
          refine J_get (v := .ref (a (b + 9))) hB inX8 0 rfl rfl 22 (Nat.le_of_ble_eq_true rfl) kf_X8_35 rfl dX8_byNow_35 ?_
          refine J_iload hB dX8_byNow_38 4 rfl ?_
          obtain ⟨v_15, ev_15, h_16, hf⟩ := ald_e hf
          refine J_iald hB 9 rfl ev_15 h_16 dX8_byNow_40 ?_
          refine J_iload_n hB dX8_byNow_41 rfl 1 rfl ?_
          obtain ⟨r_17, h_18, hf⟩ := cl1_e hf
          refine J_callV (As := [.int v_15, .int p0]) (rest := []) (n := 2) (ws' := wM E a b m_stones m_any m_backward m_ring m_two m_brooks m_readRow m_rowNow m_frogOn m_frogs m_kindOf m_moved m_movedFrom m_movedTo m_pageLength m_page m_faultAt m_isWhole m_newMany m_newSigns m_newRow m_long0_1 m_row_2 m_far_3 m_ways_4 m_queue_5 m_queueEnd_6 m_endMany m_endSoon m_won_7 m_seedNow m_isKept m_keptBrook m_keptMoved m_keptRow m_keptFrog m_keptFrom m_keptTo m_h) hB (c_X8_isOf l E a b m_stones m_any m_backward m_ring m_two m_brooks m_readRow m_rowNow m_frogOn m_frogs m_kindOf m_moved m_movedFrom m_movedTo m_pageLength m_page m_faultAt m_isWhole m_newMany m_newSigns m_newRow m_long0_1 m_row_2 m_far_3 m_ways_4 m_queue_5 m_queueEnd_6 m_endMany m_endSoon m_won_7 m_seedNow m_isKept m_keptBrook m_keptMoved m_keptRow m_keptFrog m_keptFrom m_keptTo m_h h_18) mi_X8_isOf ⟨ki_X8_isOf, kv_X8_isOf⟩ km_X8_227 ⟨rfl, rfl, Nat.le_of_ble_eq_true rfl, Nat.le_of_ble_eq_true rfl⟩ Lies.same 0 rfl rfl rfl rfl (Nat.le_of_ble_eq_true rfl) dX8_byNow_42 ?_
          show J l E rX8_byNow Y (wM E a b m_stones m_any m_backward m_ring m_two m_brooks m_readRow m_rowNow m_frogOn m_frogs m_kindOf m_moved m_movedFrom m_movedTo m_pageLength m_page m_faultAt m_isWhole m_newMany m_newSigns m_newRow m_long0_1 m_row_2 m_far_3 m_ways_4 m_queue_5 m_queueEnd_6 m_endMany m_endSoon m_won_7 m_seedNow m_isKept m_keptBrook m_keptMoved m_keptRow m_keptFrog m_keptFrom m_keptTo m_h) 45 [(0, .ref (a b)), (1, .int p0), (2, .int p1), (3, .int r_9), (4, .int x4_11), (5, .int x5_13)] [.int r_17]
          refine jn0_e (P := J l E rX8_byNow Y (wM E a b m_stones m_any m_backward m_ring m_two m_brooks m_readRow m_rowNow m_frogOn m_frogs m_kindOf m_moved m_movedFrom m_movedTo m_pageLength m_page m_faultAt m_isWhole m_newMany m_newSigns m_newRow m_long0_1 m_row_2 m_far_3 m_ways_4 m_queue_5 m_queueEnd_6 m_endMany m_endSoon m_won_7 m_seedNow m_isKept m_keptBrook m_keptMoved m_keptRow m_keptFrog m_keptFrom m_keptTo m_h) 100 [(0, .ref (a b)), (1, .int p0), (2, .int p1), (3, .int r_9), (4, .int x4_11), (5, .int x5_13)] []) hf (fun hf => ?_) (fun j100 hj100 hf => ?_)
          · obtain ⟨x5_19, ex5_19, hf⟩ := nmv_e hf
            refine J_iinc (lv' := [(5, .int x5_19), (0, .ref (a b)), (1, .int p0), (2, .int p1), (3, .int r_9), (4, .int x4_11)]) hB ex5_19 dX8_byNow_100 5 rfl (Nat.le_of_ble_eq_true rfl) rfl ?_
            refine J_goto (tgt := 24) hB dX8_byNow_103 rfl ?_
            exact J_lv [1, 2, 3, 4, 5, 0] rfl (hnx24 x5_19 hf)
          · refine J_if_eq (tgt := 100) hB dX8_byNow_45 rfl (fun c_20 => ?_) (fun c_20 => ?_)
            · have hf := it_t c_20 hf
              exact J_lv [0, 1, 2, 3, 4, 5] rfl (hj100 hf)
            · have hf := it_f c_20 hf
              refine J_aload_n hB dX8_byNow_48 rfl 0 rfl ?_
              refine J_iload hB dX8_byNow_49 4 rfl ?_
              refine J_iload hB dX8_byNow_51 5 rfl ?_
              obtain ⟨r_21, h_22, hf⟩ := cl1_e hf
              refine J_callV (As := [.int x4_11, .int x5_13]) (rest := []) (n := 2) (ws' := wM E a b m_stones m_any m_backward m_ring m_two m_brooks m_readRow m_rowNow m_frogOn m_frogs m_kindOf m_moved m_movedFrom m_movedTo m_pageLength m_page m_faultAt m_isWhole m_newMany m_newSigns m_newRow m_long0_1 m_row_2 m_far_3 m_ways_4 m_queue_5 m_queueEnd_6 m_endMany m_endSoon m_won_7 m_seedNow m_isKept m_keptBrook m_keptMoved m_keptRow m_keptFrog m_keptFrom m_keptTo m_h) hB (c_X8_mayMove l E a b m_stones m_any m_backward m_ring m_two m_brooks m_readRow m_rowNow m_frogOn m_frogs m_kindOf m_moved m_movedFrom m_movedTo m_pageLength m_page m_faultAt m_isWhole m_newMany m_newSigns m_newRow m_long0_1 m_row_2 m_far_3 m_ways_4 m_queue_5 m_queueEnd_6 m_endMany m_endSoon m_won_7 m_seedNow m_isKept m_keptBrook m_keptMoved m_keptRow m_keptFrog m_keptFrom m_keptTo m_h h_22) mi_X8_mayMove ⟨ki_X8_mayMove, kv_X8_mayMove⟩ km_X8_154 ⟨rfl, rfl, Nat.le_of_ble_eq_true rfl, Nat.le_of_ble_eq_true rfl⟩ Lies.same 0 rfl rfl rfl rfl (Nat.le_of_ble_eq_true rfl) dX8_byNow_53 ?_
              show J l E rX8_byNow Y (wM E a b m_stones m_any m_backward m_ring m_two m_brooks m_readRow m_rowNow m_frogOn m_frogs m_kindOf m_moved m_movedFrom m_movedTo m_pageLength m_page m_faultAt m_isWhole m_newMany m_newSigns m_newRow m_long0_1 m_row_2 m_far_3 m_ways_4 m_queue_5 m_queueEnd_6 m_endMany m_endSoon m_won_7 m_seedNow m_isKept m_keptBrook m_keptMoved m_keptRow m_keptFrog m_keptFrom m_keptTo m_h) 56 [(0, .ref (a b)), (1, .int p0), (2, .int p1), (3, .int r_9), (4, .int x4_11), (5, .int x5_13)] [.int r_21]
              refine J_if_eq (tgt := 100) hB dX8_byNow_56 rfl (fun c_23 => ?_) (fun c_23 => ?_)
              · have hf := it_t c_23 hf
                exact J_lv [0, 1, 2, 3, 4, 5] rfl (hj100 hf)
              · have hf := it_f c_23 hf
                refine J_aload_n hB dX8_byNow_59 rfl 0 rfl ?_
                refine J_get (v := .ref (a (b + 13))) hB inX8 0 rfl rfl 29 (Nat.le_of_ble_eq_true rfl) kf_X8_49 rfl dX8_byNow_60 ?_
                refine J_iload_n hB dX8_byNow_63 rfl 3 rfl ?_
                refine J_aload_n hB dX8_byNow_64 rfl 0 rfl ?_
                refine J_get (v := .ref (a (b + 9))) hB inX8 0 rfl rfl 22 (Nat.le_of_ble_eq_true rfl) kf_X8_35 rfl dX8_byNow_65 ?_
                refine J_iload hB dX8_byNow_68 4 rfl ?_
                obtain ⟨v_24, ev_24, h_25, hf⟩ := ald_e hf
                refine J_iald hB 9 rfl ev_24 h_25 dX8_byNow_70 ?_
                refine J_iload hB dX8_byNow_71 4 rfl ?_
                refine J_iload hB dX8_byNow_73 5 rfl ?_
                obtain ⟨r_26, h_27, hf⟩ := cl1_e hf
                refine J_callS (As := [.int r_9, .int v_24, .int x4_11, .int x5_13]) (rest := [.ref (a (b + 13))]) (n := 4) (ws' := wM E a b m_stones m_any m_backward m_ring m_two m_brooks m_readRow m_rowNow m_frogOn m_frogs m_kindOf m_moved m_movedFrom m_movedTo m_pageLength m_page m_faultAt m_isWhole m_newMany m_newSigns m_newRow m_long0_1 m_row_2 m_far_3 m_ways_4 m_queue_5 m_queueEnd_6 m_endMany m_endSoon m_won_7 m_seedNow m_isKept m_keptBrook m_keptMoved m_keptRow m_keptFrog m_keptFrom m_keptTo m_h) hB (c_X8_behindMove l E a h_27) mi_X8_behindMove ks_X8_behindMove km_X8_181 ⟨rfl, rfl, Nat.le_of_ble_eq_true rfl, Nat.le_of_ble_eq_true rfl⟩ Lies.none rfl rfl (Nat.le_of_ble_eq_true rfl) dX8_byNow_75 ?_
                show J l E rX8_byNow Y (wM E a b m_stones m_any m_backward m_ring m_two m_brooks m_readRow m_rowNow m_frogOn m_frogs m_kindOf m_moved m_movedFrom m_movedTo m_pageLength m_page m_faultAt m_isWhole m_newMany m_newSigns m_newRow m_long0_1 m_row_2 m_far_3 m_ways_4 m_queue_5 m_queueEnd_6 m_endMany m_endSoon m_won_7 m_seedNow m_isKept m_keptBrook m_keptMoved m_keptRow m_keptFrog m_keptFrom m_keptTo m_h) 78 [(0, .ref (a b)), (1, .int p0), (2, .int p1), (3, .int r_9), (4, .int x4_11), (5, .int x5_13)] [.int r_26, .ref (a (b + 13))]
                obtain ⟨v_28, ev_28, h_29, hf⟩ := ald_e hf
                refine J_bald hB 13 rfl ev_28 h_29 dX8_byNow_78 ?_
                refine J_iconst (v := 2) hB dX8_byNow_79 rfl ?_
                refine J_iload_n hB dX8_byNow_80 rfl 1 rfl ?_
                refine J_isub hB dX8_byNow_81 ?_
                refine J_ishr hB dX8_byNow_82 ?_
                refine J_iconst (v := 1) hB dX8_byNow_83 rfl ?_
                refine J_iand hB dX8_byNow_84 ?_
                refine J_if_ne (tgt := 100) hB dX8_byNow_85 rfl (fun c_30 => ?_) (fun c_30 => ?_)
                · have hf := it_f c_30 hf
                  exact J_lv [0, 1, 2, 3, 4, 5] rfl (hj100 hf)
                · have hf := it_t c_30 hf
                  refine J_iload_n hB dX8_byNow_88 rfl 2 rfl ?_
                  refine J_if_ne (tgt := 97) hB dX8_byNow_89 rfl (fun c_31 => ?_) (fun c_31 => ?_)
                  · have hf := it_f c_31 hf
                    refine J_iload hB dX8_byNow_97 5 rfl ?_
                    obtain rfl := Option.some.inj hf
                    exact J_iret hB hR dX8_byNow_99
                  · have hf := it_t c_31 hf
                    refine J_iload hB dX8_byNow_92 4 rfl ?_
                    refine J_goto (tgt := 99) hB dX8_byNow_94 rfl ?_
                    obtain rfl := Option.some.inj hf
                    exact J_iret hB hR dX8_byNow_99
      · obtain ⟨x4_32, ex4_32, hf⟩ := nmv_e hf
        refine J_iinc (lv' := [(4, .int x4_32), (0, .ref (a b)), (1, .int p0), (2, .int p1), (3, .int r_9)]) hB ex4_32 dX8_byNow_106 4 rfl (Nat.le_of_ble_eq_true rfl) rfl ?_
        refine J_goto (tgt := 12) hB dX8_byNow_109 rfl ?_
        exact J_lv [1, 2, 3, 4, 0] rfl (hnx12 x4_32 hf)
  · refine J_iconst (v := (-1)) hB dX8_byNow_112 rfl ?_
    obtain rfl := Option.some.inj hf
    exact J_iret hB hR dX8_byNow_113
def f_X8_by (m_stones : Int32) (m_any : Int32) (m_backward : Int32) (m_ring : Int32) (m_two : Int32) (m_rowNow : Nat → Int32) (m_long0 : Int32) (m_row : Nat → Int32) (m_far : Nat → Int32) (m_ways : Nat → Int64) (m_queue : Nat → Int32) (m_queueEnd : Int32) (m_won : Nat → Int32) (p0 : Int32) (p1 : Int32) : Option (Int32 × Int32 × (Nat → Int32) × (Nat → Int32) × (Nat → Int64) × (Nat → Int32) × Int32 × (Nat → Int32)) :=
cl1 (f_X8_within p0 0 1) fun r_1 =>
if r_1 = 0 then (
some ((-102), m_long0, m_row, m_far, m_ways, m_queue, m_queueEnd, m_won)) else (
cl1 (f_X8_within p1 0 1) fun r_4 =>
if r_4 = 0 then (
some ((-102), m_long0, m_row, m_far, m_ways, m_queue, m_queueEnd, m_won)) else (
cl1 (f_X8_isGame m_stones m_backward m_ring) fun r_7 =>
if r_7 = 0 then (
some ((-103), m_long0, m_row, m_far, m_ways, m_queue, m_queueEnd, m_won)) else (
cl8 (f_X8_byNow m_stones m_any m_backward m_ring m_two m_rowNow m_long0 m_row m_far m_ways m_queue m_queueEnd m_won p0 p1) fun r_10 m_long0_11 m_row_12 m_far_13 m_ways_14 m_queue_15 m_queueEnd_16 m_won_17 =>
some (r_10, m_long0_11, m_row_12, m_far_13, m_ways_14, m_queue_15, m_queueEnd_16, m_won_17))))
abbrev rX8_by : Room := { frames := 7, cells := 0, slots := 0, locals := 170 }
set_option maxRecDepth 100000 in
set_option maxHeartbeats 4000000 in
theorem c_X8_by (l : Launch) (E : En) (a : Nat → Nat) (b : Nat) (m_stones : Int32) (m_any : Int32) (m_backward : Int32) (m_ring : Int32) (m_two : Int32) (m_brooks : Int32) (m_readRow : Nat → Int32) (m_rowNow : Nat → Int32) (m_frogOn : Nat → Int32) (m_frogs : Int32) (m_kindOf : Nat → Int32) (m_moved : Int32) (m_movedFrom : Nat → Int32) (m_movedTo : Nat → Int32) (m_pageLength : Int32) (m_page : Nat → Int32) (m_faultAt : Int32) (m_isWhole : Int32) (m_newMany : Int32) (m_newSigns : Int32) (m_newRow : Nat → Int32) (m_long0 : Int32) (m_row : Nat → Int32) (m_far : Nat → Int32) (m_ways : Nat → Int64) (m_queue : Nat → Int32) (m_queueEnd : Int32) (m_endMany : Int32) (m_endSoon : Int32) (m_won : Nat → Int32) (m_seedNow : Int64) (m_isKept : Int32) (m_keptBrook : Int32) (m_keptMoved : Int32) (m_keptRow : Nat → Int32) (m_keptFrog : Nat → Int32) (m_keptFrom : Nat → Int32) (m_keptTo : Nat → Int32) (m_h : Int64) {p0 : Int32} {p1 : Int32} {res : Int32 × Int32 × (Nat → Int32) × (Nat → Int32) × (Nat → Int64) × (Nat → Int32) × Int32 × (Nat → Int32)} (hf : f_X8_by m_stones m_any m_backward m_ring m_two m_rowNow m_long0 m_row m_far m_ways m_queue m_queueEnd m_won p0 p1 = some res) : Ct l yX8_by (.code yX8_by cX8_by 3 (some .int)) rX8_by E [.ref (a b), .int p0, .int p1] (wM E a b m_stones m_any m_backward m_ring m_two m_brooks m_readRow m_rowNow m_frogOn m_frogs m_kindOf m_moved m_movedFrom m_movedTo m_pageLength m_page m_faultAt m_isWhole m_newMany m_newSigns m_newRow m_long0 m_row m_far m_ways m_queue m_queueEnd m_endMany m_endSoon m_won m_seedNow m_isKept m_keptBrook m_keptMoved m_keptRow m_keptFrog m_keptFrom m_keptTo m_h) (some (.int res.1)) (wM E a b m_stones m_any m_backward m_ring m_two m_brooks m_readRow m_rowNow m_frogOn m_frogs m_kindOf m_moved m_movedFrom m_movedTo m_pageLength m_page m_faultAt m_isWhole m_newMany m_newSigns m_newRow res.2.1 res.2.2.1 res.2.2.2.1 res.2.2.2.2.1 res.2.2.2.2.2.1 res.2.2.2.2.2.2.1 m_endMany m_endSoon res.2.2.2.2.2.2.2 m_seedNow m_isKept m_keptBrook m_keptMoved m_keptRow m_keptFrog m_keptFrom m_keptTo m_h) := by
  refine Ct.of (by decide) (Nat.le_of_ble_eq_true rfl) (fun Y hB hR => ?_)
  have hB : Cb E cX8_by RX8 rX8_by 3 Y := hB
  show J l E rX8_by Y (wM E a b m_stones m_any m_backward m_ring m_two m_brooks m_readRow m_rowNow m_frogOn m_frogs m_kindOf m_moved m_movedFrom m_movedTo m_pageLength m_page m_faultAt m_isWhole m_newMany m_newSigns m_newRow m_long0 m_row m_far m_ways m_queue m_queueEnd m_endMany m_endSoon m_won m_seedNow m_isKept m_keptBrook m_keptMoved m_keptRow m_keptFrog m_keptFrom m_keptTo m_h) 0 [(0, .ref (a b)), (1, .int p0), (2, .int p1)] []
  unfold f_X8_by at hf
  refine J_iload_n hB dX8_by_0 rfl 1 rfl ?_
  refine J_iconst (v := 0) hB dX8_by_1 rfl ?_
  refine J_iconst (v := 1) hB dX8_by_2 rfl ?_
  obtain ⟨r_1, h_2, hf⟩ := cl1_e hf
  refine J_callS (As := [.int p0, .int 0, .int 1]) (rest := []) (n := 3) (ws' := wM E a b m_stones m_any m_backward m_ring m_two m_brooks m_readRow m_rowNow m_frogOn m_frogs m_kindOf m_moved m_movedFrom m_movedTo m_pageLength m_page m_faultAt m_isWhole m_newMany m_newSigns m_newRow m_long0 m_row m_far m_ways m_queue m_queueEnd m_endMany m_endSoon m_won m_seedNow m_isKept m_keptBrook m_keptMoved m_keptRow m_keptFrog m_keptFrom m_keptTo m_h) hB (c_X8_within l E a h_2) mi_X8_within ks_X8_within km_X8_117 ⟨rfl, rfl, Nat.le_of_ble_eq_true rfl, Nat.le_of_ble_eq_true rfl⟩ Lies.none rfl rfl (Nat.le_of_ble_eq_true rfl) dX8_by_3 ?_
  show J l E rX8_by Y (wM E a b m_stones m_any m_backward m_ring m_two m_brooks m_readRow m_rowNow m_frogOn m_frogs m_kindOf m_moved m_movedFrom m_movedTo m_pageLength m_page m_faultAt m_isWhole m_newMany m_newSigns m_newRow m_long0 m_row m_far m_ways m_queue m_queueEnd m_endMany m_endSoon m_won m_seedNow m_isKept m_keptBrook m_keptMoved m_keptRow m_keptFrog m_keptFrom m_keptTo m_h) 6 [(0, .ref (a b)), (1, .int p0), (2, .int p1)] [.int r_1]
  refine J_if_eq (tgt := 18) hB dX8_by_6 rfl (fun c_3 => ?_) (fun c_3 => ?_)
  · have hf := it_t c_3 hf
    refine J_bipush (v := (-102)) hB dX8_by_18 rfl ?_
    obtain rfl := Option.some.inj hf
    exact J_iret hB hR dX8_by_20
  · have hf := it_f c_3 hf
    refine J_iload_n hB dX8_by_9 rfl 2 rfl ?_
    refine J_iconst (v := 0) hB dX8_by_10 rfl ?_
    refine J_iconst (v := 1) hB dX8_by_11 rfl ?_
    obtain ⟨r_4, h_5, hf⟩ := cl1_e hf
    refine J_callS (As := [.int p1, .int 0, .int 1]) (rest := []) (n := 3) (ws' := wM E a b m_stones m_any m_backward m_ring m_two m_brooks m_readRow m_rowNow m_frogOn m_frogs m_kindOf m_moved m_movedFrom m_movedTo m_pageLength m_page m_faultAt m_isWhole m_newMany m_newSigns m_newRow m_long0 m_row m_far m_ways m_queue m_queueEnd m_endMany m_endSoon m_won m_seedNow m_isKept m_keptBrook m_keptMoved m_keptRow m_keptFrog m_keptFrom m_keptTo m_h) hB (c_X8_within l E a h_5) mi_X8_within ks_X8_within km_X8_117 ⟨rfl, rfl, Nat.le_of_ble_eq_true rfl, Nat.le_of_ble_eq_true rfl⟩ Lies.none rfl rfl (Nat.le_of_ble_eq_true rfl) dX8_by_12 ?_
    show J l E rX8_by Y (wM E a b m_stones m_any m_backward m_ring m_two m_brooks m_readRow m_rowNow m_frogOn m_frogs m_kindOf m_moved m_movedFrom m_movedTo m_pageLength m_page m_faultAt m_isWhole m_newMany m_newSigns m_newRow m_long0 m_row m_far m_ways m_queue m_queueEnd m_endMany m_endSoon m_won m_seedNow m_isKept m_keptBrook m_keptMoved m_keptRow m_keptFrog m_keptFrom m_keptTo m_h) 15 [(0, .ref (a b)), (1, .int p0), (2, .int p1)] [.int r_4]
    refine J_if_ne (tgt := 21) hB dX8_by_15 rfl (fun c_6 => ?_) (fun c_6 => ?_)
    · have hf := it_f c_6 hf
      refine J_aload_n hB dX8_by_21 rfl 0 rfl ?_
      obtain ⟨r_7, h_8, hf⟩ := cl1_e hf
      refine J_callV (As := []) (rest := []) (n := 0) (ws' := wM E a b m_stones m_any m_backward m_ring m_two m_brooks m_readRow m_rowNow m_frogOn m_frogs m_kindOf m_moved m_movedFrom m_movedTo m_pageLength m_page m_faultAt m_isWhole m_newMany m_newSigns m_newRow m_long0 m_row m_far m_ways m_queue m_queueEnd m_endMany m_endSoon m_won m_seedNow m_isKept m_keptBrook m_keptMoved m_keptRow m_keptFrog m_keptFrom m_keptTo m_h) hB (c_X8_isGame l E a b m_stones m_any m_backward m_ring m_two m_brooks m_readRow m_rowNow m_frogOn m_frogs m_kindOf m_moved m_movedFrom m_movedTo m_pageLength m_page m_faultAt m_isWhole m_newMany m_newSigns m_newRow m_long0 m_row m_far m_ways m_queue m_queueEnd m_endMany m_endSoon m_won m_seedNow m_isKept m_keptBrook m_keptMoved m_keptRow m_keptFrog m_keptFrom m_keptTo m_h h_8) mi_X8_isGame ⟨ki_X8_isGame, kv_X8_isGame⟩ km_X8_239 ⟨rfl, rfl, Nat.le_of_ble_eq_true rfl, Nat.le_of_ble_eq_true rfl⟩ Lies.same 0 rfl rfl rfl rfl (Nat.le_of_ble_eq_true rfl) dX8_by_22 ?_
      show J l E rX8_by Y (wM E a b m_stones m_any m_backward m_ring m_two m_brooks m_readRow m_rowNow m_frogOn m_frogs m_kindOf m_moved m_movedFrom m_movedTo m_pageLength m_page m_faultAt m_isWhole m_newMany m_newSigns m_newRow m_long0 m_row m_far m_ways m_queue m_queueEnd m_endMany m_endSoon m_won m_seedNow m_isKept m_keptBrook m_keptMoved m_keptRow m_keptFrog m_keptFrom m_keptTo m_h) 25 [(0, .ref (a b)), (1, .int p0), (2, .int p1)] [.int r_7]
      refine J_if_eq (tgt := 37) hB dX8_by_25 rfl (fun c_9 => ?_) (fun c_9 => ?_)
      · have hf := it_t c_9 hf
        refine J_bipush (v := (-103)) hB dX8_by_37 rfl ?_
        obtain rfl := Option.some.inj hf
        exact J_iret hB hR dX8_by_39
      · have hf := it_f c_9 hf
        refine J_aload_n hB dX8_by_28 rfl 0 rfl ?_
        refine J_iload_n hB dX8_by_29 rfl 1 rfl ?_
        refine J_iload_n hB dX8_by_30 rfl 2 rfl ?_
        obtain ⟨r_10, m_long0_11, m_row_12, m_far_13, m_ways_14, m_queue_15, m_queueEnd_16, m_won_17, h_18, hf⟩ := cl8_e hf
        refine J_callV (As := [.int p0, .int p1]) (rest := []) (n := 2) (ws' := wM E a b m_stones m_any m_backward m_ring m_two m_brooks m_readRow m_rowNow m_frogOn m_frogs m_kindOf m_moved m_movedFrom m_movedTo m_pageLength m_page m_faultAt m_isWhole m_newMany m_newSigns m_newRow m_long0_11 m_row_12 m_far_13 m_ways_14 m_queue_15 m_queueEnd_16 m_endMany m_endSoon m_won_17 m_seedNow m_isKept m_keptBrook m_keptMoved m_keptRow m_keptFrog m_keptFrom m_keptTo m_h) hB (c_X8_byNow l E a b m_stones m_any m_backward m_ring m_two m_brooks m_readRow m_rowNow m_frogOn m_frogs m_kindOf m_moved m_movedFrom m_movedTo m_pageLength m_page m_faultAt m_isWhole m_newMany m_newSigns m_newRow m_long0 m_row m_far m_ways m_queue m_queueEnd m_endMany m_endSoon m_won m_seedNow m_isKept m_keptBrook m_keptMoved m_keptRow m_keptFrog m_keptFrom m_keptTo m_h h_18) mi_X8_byNow ⟨ki_X8_byNow, kv_X8_byNow⟩ km_X8_246 ⟨rfl, rfl, Nat.le_of_ble_eq_true rfl, Nat.le_of_ble_eq_true rfl⟩ Lies.same 0 rfl rfl rfl rfl (Nat.le_of_ble_eq_true rfl) dX8_by_31 ?_
        show J l E rX8_by Y (wM E a b m_stones m_any m_backward m_ring m_two m_brooks m_readRow m_rowNow m_frogOn m_frogs m_kindOf m_moved m_movedFrom m_movedTo m_pageLength m_page m_faultAt m_isWhole m_newMany m_newSigns m_newRow m_long0_11 m_row_12 m_far_13 m_ways_14 m_queue_15 m_queueEnd_16 m_endMany m_endSoon m_won_17 m_seedNow m_isKept m_keptBrook m_keptMoved m_keptRow m_keptFrog m_keptFrom m_keptTo m_h) 34 [(0, .ref (a b)), (1, .int p0), (2, .int p1)] [.int r_10]
        refine J_goto (tgt := 39) hB dX8_by_34 rfl ?_
        obtain rfl := Option.some.inj hf
        exact J_iret hB hR dX8_by_39
    · have hf := it_t c_6 hf
      refine J_bipush (v := (-102)) hB dX8_by_18 rfl ?_
      obtain rfl := Option.some.inj hf
      exact J_iret hB hR dX8_by_20
def f_X8_draw (m_seedNow : Int64) (p0 : Int32) : Option (Int32 × Int64) :=
nmv (α := Int64) ((((1103515245 : Int64) * m_seedNow) + (12345 : Int64)) &&& (2147483647 : Int64)) fun m_seedNow_1 =>
ldivK m_seedNow_1 65536 fun v_2 =>
lremK v_2 (Int32.toInt64 p0) fun v_4 =>
some (Int64.toInt32 v_4, m_seedNow_1)
abbrev rX8_draw : Room := { frames := 0, cells := 0, slots := 0, locals := 0 }
set_option maxRecDepth 100000 in
set_option maxHeartbeats 4000000 in
theorem c_X8_draw (l : Launch) (E : En) (a : Nat → Nat) (b : Nat) (m_stones : Int32) (m_any : Int32) (m_backward : Int32) (m_ring : Int32) (m_two : Int32) (m_brooks : Int32) (m_readRow : Nat → Int32) (m_rowNow : Nat → Int32) (m_frogOn : Nat → Int32) (m_frogs : Int32) (m_kindOf : Nat → Int32) (m_moved : Int32) (m_movedFrom : Nat → Int32) (m_movedTo : Nat → Int32) (m_pageLength : Int32) (m_page : Nat → Int32) (m_faultAt : Int32) (m_isWhole : Int32) (m_newMany : Int32) (m_newSigns : Int32) (m_newRow : Nat → Int32) (m_long0 : Int32) (m_row : Nat → Int32) (m_far : Nat → Int32) (m_ways : Nat → Int64) (m_queue : Nat → Int32) (m_queueEnd : Int32) (m_endMany : Int32) (m_endSoon : Int32) (m_won : Nat → Int32) (m_seedNow : Int64) (m_isKept : Int32) (m_keptBrook : Int32) (m_keptMoved : Int32) (m_keptRow : Nat → Int32) (m_keptFrog : Nat → Int32) (m_keptFrom : Nat → Int32) (m_keptTo : Nat → Int32) (m_h : Int64) {p0 : Int32} {res : Int32 × Int64} (hf : f_X8_draw m_seedNow p0 = some res) : Ct l yX8_draw (.code yX8_draw cX8_draw 2 (some .int)) rX8_draw E [.ref (a b), .int p0] (wM E a b m_stones m_any m_backward m_ring m_two m_brooks m_readRow m_rowNow m_frogOn m_frogs m_kindOf m_moved m_movedFrom m_movedTo m_pageLength m_page m_faultAt m_isWhole m_newMany m_newSigns m_newRow m_long0 m_row m_far m_ways m_queue m_queueEnd m_endMany m_endSoon m_won m_seedNow m_isKept m_keptBrook m_keptMoved m_keptRow m_keptFrog m_keptFrom m_keptTo m_h) (some (.int res.1)) (wM E a b m_stones m_any m_backward m_ring m_two m_brooks m_readRow m_rowNow m_frogOn m_frogs m_kindOf m_moved m_movedFrom m_movedTo m_pageLength m_page m_faultAt m_isWhole m_newMany m_newSigns m_newRow m_long0 m_row m_far m_ways m_queue m_queueEnd m_endMany m_endSoon m_won res.2 m_isKept m_keptBrook m_keptMoved m_keptRow m_keptFrog m_keptFrom m_keptTo m_h) := by
  refine Ct.of (by decide) (Nat.le_of_ble_eq_true rfl) (fun Y hB hR => ?_)
  have hB : Cb E cX8_draw RX8 rX8_draw 2 Y := hB
  show J l E rX8_draw Y (wM E a b m_stones m_any m_backward m_ring m_two m_brooks m_readRow m_rowNow m_frogOn m_frogs m_kindOf m_moved m_movedFrom m_movedTo m_pageLength m_page m_faultAt m_isWhole m_newMany m_newSigns m_newRow m_long0 m_row m_far m_ways m_queue m_queueEnd m_endMany m_endSoon m_won m_seedNow m_isKept m_keptBrook m_keptMoved m_keptRow m_keptFrog m_keptFrom m_keptTo m_h) 0 [(0, .ref (a b)), (1, .int p0)] []
  unfold f_X8_draw at hf
  refine J_aload_n hB dX8_draw_0 rfl 0 rfl ?_
  refine J_ldc2 hB dX8_draw_1 kk_X8_249 ?_
  refine J_aload_n hB dX8_draw_4 rfl 0 rfl ?_
  refine J_get (v := .long m_seedNow) hB inX8 0 rfl rfl 30 (Nat.le_of_ble_eq_true rfl) kf_X8_251 rfl dX8_draw_5 ?_
  refine J_lmul hB dX8_draw_8 ?_
  refine J_ldc2 hB dX8_draw_9 kk_X8_255 ?_
  refine J_ladd hB dX8_draw_12 ?_
  refine J_ldc2 hB dX8_draw_13 kk_X8_257 ?_
  refine J_land hB dX8_draw_16 ?_
  obtain ⟨m_seedNow_1, em_seedNow_1, hf⟩ := nmv_e hf
  rw [← em_seedNow_1]
  refine J_put (ws' := wM E a b m_stones m_any m_backward m_ring m_two m_brooks m_readRow m_rowNow m_frogOn m_frogs m_kindOf m_moved m_movedFrom m_movedTo m_pageLength m_page m_faultAt m_isWhole m_newMany m_newSigns m_newRow m_long0 m_row m_far m_ways m_queue m_queueEnd m_endMany m_endSoon m_won m_seedNow_1 m_isKept m_keptBrook m_keptMoved m_keptRow m_keptFrog m_keptFrom m_keptTo m_h) (ty := .long) (v := .long m_seedNow_1) hB inX8 tyX8 tyX8_ok nmX8 0 rfl rfl 30 (Nat.le_of_ble_eq_true rfl) kf_X8_251 rfl rfl rfl rfl (Nat.le_of_ble_eq_true rfl) dX8_draw_17 rfl ?_
  refine J_aload_n hB dX8_draw_20 rfl 0 rfl ?_
  refine J_get (v := .long m_seedNow_1) hB inX8 0 rfl rfl 30 (Nat.le_of_ble_eq_true rfl) kf_X8_251 rfl dX8_draw_21 ?_
  refine J_ldc2 hB dX8_draw_24 kk_X8_259 ?_
  obtain ⟨v_2, ev_2, h_3, hf⟩ := ldivK_e hf
  refine J_ldiv hB dX8_draw_27 h_3 ?_
  rw [← ev_2]
  refine J_iload_n hB dX8_draw_28 rfl 1 rfl ?_
  refine J_i2l hB dX8_draw_29 ?_
  obtain ⟨v_4, ev_4, h_5, hf⟩ := lremK_e hf
  refine J_lrem hB dX8_draw_30 h_5 ?_
  rw [← ev_4]
  refine J_l2i hB dX8_draw_31 ?_
  obtain rfl := Option.some.inj hf
  exact J_iret hB hR dX8_draw_32
def f_X8_goMove (m_any : Int32) (m_backward : Int32) (m_ring : Int32) (m_two : Int32) (m_long0 : Int32) (m_row : Nat → Int32) (p0 : Int32) : Option ((Nat → Int32)) :=
lp2_0 (fun (x2_1 : Int32) (x3_2 : Int32) nx4 ex4 =>
if m_long0 ≤ x3_2 then (
ex4) else (
lp2_1 (fun (x2_4 : Int32) (x4_5 : Int32) nx15 ex15 =>
if m_long0 ≤ x4_5 then (
ex15 x2_4) else (
cl1 (f_X8_mayMove m_any m_backward m_ring m_two m_long0 m_row x3_2 x4_5) fun r_8 =>
jn1 (fun (x2_10 : Int32) =>
nmv (α := Int32) (x4_5 + 1) fun x4_11 =>
nx15 x2_10 x4_11) fun j62 =>
if r_8 = 0 then (
j62 x2_4) else (
if x2_4 = 0 then (
ald 7 m_row x3_2 fun v_15 =>
astI 7 m_row x4_5 v_15 fun m_row_17 =>
astI 7 m_row_17 x3_2 0 fun m_row_19 =>
some m_row_19) else (
nmv (α := Int32) (x2_4 + (-1)) fun x2_14 =>
j62 x2_14)))) (fun (x2_6 : Int32) =>
nmv (α := Int32) (x3_2 + 1) fun x3_21 =>
nx4 x2_6 x3_21) fuel x2_1 0)) (
some m_row) fuel p0 0
abbrev rX8_goMove : Room := { frames := 4, cells := 0, slots := 0, locals := 96 }
set_option maxRecDepth 100000 in
set_option maxHeartbeats 4000000 in
theorem c_X8_goMove (l : Launch) (E : En) (a : Nat → Nat) (b : Nat) (m_stones : Int32) (m_any : Int32) (m_backward : Int32) (m_ring : Int32) (m_two : Int32) (m_brooks : Int32) (m_readRow : Nat → Int32) (m_rowNow : Nat → Int32) (m_frogOn : Nat → Int32) (m_frogs : Int32) (m_kindOf : Nat → Int32) (m_moved : Int32) (m_movedFrom : Nat → Int32) (m_movedTo : Nat → Int32) (m_pageLength : Int32) (m_page : Nat → Int32) (m_faultAt : Int32) (m_isWhole : Int32) (m_newMany : Int32) (m_newSigns : Int32) (m_newRow : Nat → Int32) (m_long0 : Int32) (m_row : Nat → Int32) (m_far : Nat → Int32) (m_ways : Nat → Int64) (m_queue : Nat → Int32) (m_queueEnd : Int32) (m_endMany : Int32) (m_endSoon : Int32) (m_won : Nat → Int32) (m_seedNow : Int64) (m_isKept : Int32) (m_keptBrook : Int32) (m_keptMoved : Int32) (m_keptRow : Nat → Int32) (m_keptFrog : Nat → Int32) (m_keptFrom : Nat → Int32) (m_keptTo : Nat → Int32) (m_h : Int64) {p0 : Int32} {res : (Nat → Int32)} (hf : f_X8_goMove m_any m_backward m_ring m_two m_long0 m_row p0 = some res) : Ct l yX8_goMove (.code yX8_goMove cX8_goMove 5 none) rX8_goMove E [.ref (a b), .int p0] (wM E a b m_stones m_any m_backward m_ring m_two m_brooks m_readRow m_rowNow m_frogOn m_frogs m_kindOf m_moved m_movedFrom m_movedTo m_pageLength m_page m_faultAt m_isWhole m_newMany m_newSigns m_newRow m_long0 m_row m_far m_ways m_queue m_queueEnd m_endMany m_endSoon m_won m_seedNow m_isKept m_keptBrook m_keptMoved m_keptRow m_keptFrog m_keptFrom m_keptTo m_h) none (wM E a b m_stones m_any m_backward m_ring m_two m_brooks m_readRow m_rowNow m_frogOn m_frogs m_kindOf m_moved m_movedFrom m_movedTo m_pageLength m_page m_faultAt m_isWhole m_newMany m_newSigns m_newRow m_long0 res m_far m_ways m_queue m_queueEnd m_endMany m_endSoon m_won m_seedNow m_isKept m_keptBrook m_keptMoved m_keptRow m_keptFrog m_keptFrom m_keptTo m_h) := by
  refine Ct.of (by decide) (Nat.le_of_ble_eq_true rfl) (fun Y hB hR => ?_)
  have hB : Cb E cX8_goMove RX8 rX8_goMove 5 Y := hB
  show J l E rX8_goMove Y (wM E a b m_stones m_any m_backward m_ring m_two m_brooks m_readRow m_rowNow m_frogOn m_frogs m_kindOf m_moved m_movedFrom m_movedTo m_pageLength m_page m_faultAt m_isWhole m_newMany m_newSigns m_newRow m_long0 m_row m_far m_ways m_queue m_queueEnd m_endMany m_endSoon m_won m_seedNow m_isKept m_keptBrook m_keptMoved m_keptRow m_keptFrog m_keptFrom m_keptTo m_h) 0 [(0, .ref (a b)), (1, .int p0)] []
  unfold f_X8_goMove at hf
  refine J_iload_n hB dX8_goMove_0 rfl 1 rfl ?_
  refine J_istore_n (lv' := [(2, .int p0), (0, .ref (a b)), (1, .int p0)]) hB rfl dX8_goMove_1 rfl (Nat.le_of_ble_eq_true rfl) rfl ?_
  refine J_iconst (v := 0) hB dX8_goMove_2 rfl ?_
  refine J_istore_n (lv' := [(3, .int 0), (2, .int p0), (0, .ref (a b)), (1, .int p0)]) hB rfl dX8_goMove_3 rfl (Nat.le_of_ble_eq_true rfl) rfl ?_
  refine J_lv [2, 1, 0] rfl ?_
  refine lp2_0_J (P := fun x2_1 x3_2 => J l E rX8_goMove Y (wM E a b m_stones m_any m_backward m_ring m_two m_brooks m_readRow m_rowNow m_frogOn m_frogs m_kindOf m_moved m_movedFrom m_movedTo m_pageLength m_page m_faultAt m_isWhole m_newMany m_newSigns m_newRow m_long0 m_row m_far m_ways m_queue m_queueEnd m_endMany m_endSoon m_won m_seedNow m_isKept m_keptBrook m_keptMoved m_keptRow m_keptFrog m_keptFrom m_keptTo m_h) 4 [(0, .ref (a b)), (2, .int x2_1), (3, .int x3_2)] []) (Q := J l E rX8_goMove Y (wM E a b m_stones m_any m_backward m_ring m_two m_brooks m_readRow m_rowNow m_frogOn m_frogs m_kindOf m_moved m_movedFrom m_movedTo m_pageLength m_page m_faultAt m_isWhole m_newMany m_newSigns m_newRow m_long0 m_row m_far m_ways m_queue m_queueEnd m_endMany m_endSoon m_won m_seedNow m_isKept m_keptBrook m_keptMoved m_keptRow m_keptFrog m_keptFrom m_keptTo m_h) 74 [] []) (fun x2_1 x3_2 nx4 ex4 hnx4 hex4 hf => ?_) (fun hf => ?_) hf
  · refine J_iload_n hB dX8_goMove_4 rfl 2 rfl ?_
    refine J_aload_n hB dX8_goMove_5 rfl 0 rfl ?_
    refine J_get (v := .int m_long0) hB inX8 0 rfl rfl 21 (Nat.le_of_ble_eq_true rfl) kf_X8_135 rfl dX8_goMove_6 ?_
    refine J_icmp_ge (tgt := 74) hB dX8_goMove_9 rfl (fun c_3 => ?_) (fun c_3 => ?_)
    · have hf := it_t c_3 hf
      exact J_lv [] rfl (hex4 hf)
    · have hf := it_f c_3 hf
      refine J_iconst (v := 0) hB dX8_goMove_12 rfl ?_
      refine J_istore (lv' := [(4, .int 0), (0, .ref (a b)), (2, .int x2_1), (3, .int x3_2)]) hB rfl dX8_goMove_13 (Nat.le_of_ble_eq_true rfl) rfl ?_
      refine J_lv [1, 2, 3, 0] rfl ?_
      refine lp2_1_J (P := fun x2_4 x4_5 => J l E rX8_goMove Y (wM E a b m_stones m_any m_backward m_ring m_two m_brooks m_readRow m_rowNow m_frogOn m_frogs m_kindOf m_moved m_movedFrom m_movedTo m_pageLength m_page m_faultAt m_isWhole m_newMany m_newSigns m_newRow m_long0 m_row m_far m_ways m_queue m_queueEnd m_endMany m_endSoon m_won m_seedNow m_isKept m_keptBrook m_keptMoved m_keptRow m_keptFrog m_keptFrom m_keptTo m_h) 15 [(0, .ref (a b)), (2, .int x2_4), (3, .int x3_2), (4, .int x4_5)] []) (Q := fun x2_6 => J l E rX8_goMove Y (wM E a b m_stones m_any m_backward m_ring m_two m_brooks m_readRow m_rowNow m_frogOn m_frogs m_kindOf m_moved m_movedFrom m_movedTo m_pageLength m_page m_faultAt m_isWhole m_newMany m_newSigns m_newRow m_long0 m_row m_far m_ways m_queue m_queueEnd m_endMany m_endSoon m_won m_seedNow m_isKept m_keptBrook m_keptMoved m_keptRow m_keptFrog m_keptFrom m_keptTo m_h) 68 [(0, .ref (a b)), (2, .int x2_6), (3, .int x3_2)] []) (fun x2_4 x4_5 nx15 ex15 hnx15 hex15 hf => ?_) (fun x2_6 hf => ?_) hf
      · refine J_iload hB dX8_goMove_15 3 rfl ?_
        refine J_aload_n hB dX8_goMove_17 rfl 0 rfl ?_
        refine J_get (v := .int m_long0) hB inX8 0 rfl rfl 21 (Nat.le_of_ble_eq_true rfl) kf_X8_135 rfl dX8_goMove_18 ?_
        refine J_icmp_ge (tgt := 68) hB dX8_goMove_21 rfl (fun c_7 => ?_) (fun c_7 => ?_)
        · have hf := it_t c_7 hf
          exact J_lv [0, 1, 2] rfl (hex15 x2_4 hf)
        · have hf := it_f c_7 hf
          refine J_aload_n hB dX8_goMove_24 rfl 0 rfl ?_
          refine J_iload_n hB dX8_goMove_25 rfl 2 rfl ?_
          refine J_iload hB dX8_goMove_26 3 rfl ?_
          obtain ⟨r_8, h_9, hf⟩ := cl1_e hf
          refine J_callV (As := [.int x3_2, .int x4_5]) (rest := []) (n := 2) (ws' := wM E a b m_stones m_any m_backward m_ring m_two m_brooks m_readRow m_rowNow m_frogOn m_frogs m_kindOf m_moved m_movedFrom m_movedTo m_pageLength m_page m_faultAt m_isWhole m_newMany m_newSigns m_newRow m_long0 m_row m_far m_ways m_queue m_queueEnd m_endMany m_endSoon m_won m_seedNow m_isKept m_keptBrook m_keptMoved m_keptRow m_keptFrog m_keptFrom m_keptTo m_h) hB (c_X8_mayMove l E a b m_stones m_any m_backward m_ring m_two m_brooks m_readRow m_rowNow m_frogOn m_frogs m_kindOf m_moved m_movedFrom m_movedTo m_pageLength m_page m_faultAt m_isWhole m_newMany m_newSigns m_newRow m_long0 m_row m_far m_ways m_queue m_queueEnd m_endMany m_endSoon m_won m_seedNow m_isKept m_keptBrook m_keptMoved m_keptRow m_keptFrog m_keptFrom m_keptTo m_h h_9) mi_X8_mayMove ⟨ki_X8_mayMove, kv_X8_mayMove⟩ km_X8_154 ⟨rfl, rfl, Nat.le_of_ble_eq_true rfl, Nat.le_of_ble_eq_true rfl⟩ Lies.same 0 rfl rfl rfl rfl (Nat.le_of_ble_eq_true rfl) dX8_goMove_28 ?_
          show J l E rX8_goMove Y (wM E a b m_stones m_any m_backward m_ring m_two m_brooks m_readRow m_rowNow m_frogOn m_frogs m_kindOf m_moved m_movedFrom m_movedTo m_pageLength m_page m_faultAt m_isWhole m_newMany m_newSigns m_newRow m_long0 m_row m_far m_ways m_queue m_queueEnd m_endMany m_endSoon m_won m_seedNow m_isKept m_keptBrook m_keptMoved m_keptRow m_keptFrog m_keptFrom m_keptTo m_h) 31 [(0, .ref (a b)), (2, .int x2_4), (3, .int x3_2), (4, .int x4_5)] [.int r_8]
          refine jn1_e (P := fun x2_10 => J l E rX8_goMove Y (wM E a b m_stones m_any m_backward m_ring m_two m_brooks m_readRow m_rowNow m_frogOn m_frogs m_kindOf m_moved m_movedFrom m_movedTo m_pageLength m_page m_faultAt m_isWhole m_newMany m_newSigns m_newRow m_long0 m_row m_far m_ways m_queue m_queueEnd m_endMany m_endSoon m_won m_seedNow m_isKept m_keptBrook m_keptMoved m_keptRow m_keptFrog m_keptFrom m_keptTo m_h) 62 [(0, .ref (a b)), (2, .int x2_10), (3, .int x3_2), (4, .int x4_5)] []) hf (fun x2_10 hf => ?_) (fun j62 hj62 hf => ?_)
          · obtain ⟨x4_11, ex4_11, hf⟩ := nmv_e hf
            refine J_iinc (lv' := [(4, .int x4_11), (0, .ref (a b)), (2, .int x2_10), (3, .int x3_2)]) hB ex4_11 dX8_goMove_62 3 rfl (Nat.le_of_ble_eq_true rfl) rfl ?_
            refine J_goto (tgt := 15) hB dX8_goMove_65 rfl ?_
            exact J_lv [1, 2, 3, 0] rfl (hnx15 x2_10 x4_11 hf)
          · refine J_if_eq (tgt := 62) hB dX8_goMove_31 rfl (fun c_12 => ?_) (fun c_12 => ?_)
            · have hf := it_t c_12 hf
              exact J_lv [0, 1, 2, 3] rfl (hj62 x2_4 hf)
            · have hf := it_f c_12 hf
              refine J_iload_n hB dX8_goMove_34 rfl 1 rfl ?_
              refine J_if_ne (tgt := 59) hB dX8_goMove_35 rfl (fun c_13 => ?_) (fun c_13 => ?_)
              · have hf := it_f c_13 hf
                obtain ⟨x2_14, ex2_14, hf⟩ := nmv_e hf
                refine J_iinc (lv' := [(2, .int x2_14), (0, .ref (a b)), (3, .int x3_2), (4, .int x4_5)]) hB (ex2_14.trans (congrArg (fun z : Int32 => x2_4 + z) (by decide +kernel))) dX8_goMove_59 1 rfl (Nat.le_of_ble_eq_true rfl) rfl ?_
                exact J_lv [1, 0, 2, 3] rfl (hj62 x2_14 hf)
              · have hf := it_t c_13 hf
                refine J_aload_n hB dX8_goMove_38 rfl 0 rfl ?_
                refine J_get (v := .ref (a (b + 9))) hB inX8 0 rfl rfl 22 (Nat.le_of_ble_eq_true rfl) kf_X8_35 rfl dX8_goMove_39 ?_
                refine J_iload hB dX8_goMove_42 3 rfl ?_
                refine J_aload_n hB dX8_goMove_44 rfl 0 rfl ?_
                refine J_get (v := .ref (a (b + 9))) hB inX8 0 rfl rfl 22 (Nat.le_of_ble_eq_true rfl) kf_X8_35 rfl dX8_goMove_45 ?_
                refine J_iload_n hB dX8_goMove_48 rfl 2 rfl ?_
                obtain ⟨v_15, ev_15, h_16, hf⟩ := ald_e hf
                refine J_iald hB 9 rfl ev_15 h_16 dX8_goMove_49 ?_
                obtain ⟨m_row_17, em_row_17, h_18, hf⟩ := astI_e hf
                refine J_iast (ws' := wM E a b m_stones m_any m_backward m_ring m_two m_brooks m_readRow m_rowNow m_frogOn m_frogs m_kindOf m_moved m_movedFrom m_movedTo m_pageLength m_page m_faultAt m_isWhole m_newMany m_newSigns m_newRow m_long0 m_row_17 m_far m_ways m_queue m_queueEnd m_endMany m_endSoon m_won m_seedNow m_isKept m_keptBrook m_keptMoved m_keptRow m_keptFrog m_keptFrom m_keptTo m_h) hB 9 rfl em_row_17 h_18 dX8_goMove_50 rfl ?_
                refine J_aload_n hB dX8_goMove_51 rfl 0 rfl ?_
                refine J_get (v := .ref (a (b + 9))) hB inX8 0 rfl rfl 22 (Nat.le_of_ble_eq_true rfl) kf_X8_35 rfl dX8_goMove_52 ?_
                refine J_iload_n hB dX8_goMove_55 rfl 2 rfl ?_
                refine J_iconst (v := 0) hB dX8_goMove_56 rfl ?_
                obtain ⟨m_row_19, em_row_19, h_20, hf⟩ := astI_e hf
                refine J_iast (ws' := wM E a b m_stones m_any m_backward m_ring m_two m_brooks m_readRow m_rowNow m_frogOn m_frogs m_kindOf m_moved m_movedFrom m_movedTo m_pageLength m_page m_faultAt m_isWhole m_newMany m_newSigns m_newRow m_long0 m_row_19 m_far m_ways m_queue m_queueEnd m_endMany m_endSoon m_won m_seedNow m_isKept m_keptBrook m_keptMoved m_keptRow m_keptFrog m_keptFrom m_keptTo m_h) hB 9 rfl em_row_19 h_20 dX8_goMove_57 rfl ?_
                obtain rfl := Option.some.inj hf
                exact J_vret hB hR dX8_goMove_58
      · obtain ⟨x3_21, ex3_21, hf⟩ := nmv_e hf
        refine J_iinc (lv' := [(3, .int x3_21), (0, .ref (a b)), (2, .int x2_6)]) hB ex3_21 dX8_goMove_68 2 rfl (Nat.le_of_ble_eq_true rfl) rfl ?_
        refine J_goto (tgt := 4) hB dX8_goMove_71 rfl ?_
        exact J_lv [1, 2, 0] rfl (hnx4 x2_6 x3_21 hf)
  · obtain rfl := Option.some.inj hf
    exact J_vret hB hR dX8_goMove_74
def f_X8_playNow (m_stones : Int32) (m_any : Int32) (m_backward : Int32) (m_ring : Int32) (m_two : Int32) (m_readRow : Nat → Int32) (m_rowNow : Nat → Int32) (m_long0 : Int32) (m_row : Nat → Int32) (m_seedNow : Int64) (p0 : Int32) (p1 : Int32) (p2 : Int32) : Option (Int32 × Int32 × (Nat → Int32) × Int64) :=
cl3 (f_X8_goal m_stones m_readRow m_long0 m_row) fun r_1 m_long0_2 m_row_3 =>
cl2 (f_X8_layNow m_stones m_rowNow m_long0_2 m_row_3) fun m_long0_5 m_row_6 =>
nmv (α := Int64) (Int32.toInt64 p1) fun m_seedNow_8 =>
lp4_3 (fun (x5_9 : Int32) (x6_10 : Int32) (m_row_11 : Nat → Int32) (m_seedNow_12 : Int64) nx22 ex22 =>
if p0 ≤ x5_9 then (
ex22 x5_9 m_row_11 m_seedNow_12) else (
if x6_10 = 0 then (
ex22 x5_9 m_row_11 m_seedNow_12) else (
cl1 (f_X8_moveMany m_any m_backward m_ring m_two m_long0_5 m_row_11) fun r_18 =>
jn1 (fun (s_20 : Int32) =>
jn3 (fun (x5_21 : Int32) (m_row_22 : Nat → Int32) (m_seedNow_23 : Int64) =>
nx22 x5_21 s_20 m_row_22 m_seedNow_23) fun j69 =>
if s_20 = 0 then (
j69 x5_9 m_row_11 m_seedNow_12) else (
cl2 (f_X8_draw m_seedNow_12 r_18) fun r_25 m_seedNow_26 =>
cl1 (f_X8_goMove m_any m_backward m_ring m_two m_long0_5 m_row_11 r_25) fun m_row_28 =>
nmv (α := Int32) (x5_9 + 1) fun x5_30 =>
j69 x5_30 m_row_28 m_seedNow_26)) fun j49 =>
if r_18 ≤ 0 then (
j49 0) else (
j49 1)))) (fun (x5_13 : Int32) (m_row_14 : Nat → Int32) (m_seedNow_15 : Int64) =>
if p2 = 0 then (
some (x5_13, m_long0_5, m_row_14, m_seedNow_15)) else (
if p2 = 2 then (
some (Int64.toInt32 m_seedNow_15, m_long0_5, m_row_14, m_seedNow_15)) else (
cl1 (f_X8_codeOf m_long0_5 m_row_14) fun r_34 =>
if r_34 = r_1 then (
some (1, m_long0_5, m_row_14, m_seedNow_15)) else (
some (0, m_long0_5, m_row_14, m_seedNow_15))))) fuel 0 1 m_row_6 m_seedNow_8
abbrev rX8_playNow : Room := { frames := 5, cells := 0, slots := 0, locals := 120 }
set_option maxRecDepth 100000 in
set_option maxHeartbeats 4000000 in
theorem c_X8_playNow (l : Launch) (E : En) (a : Nat → Nat) (b : Nat) (m_stones : Int32) (m_any : Int32) (m_backward : Int32) (m_ring : Int32) (m_two : Int32) (m_brooks : Int32) (m_readRow : Nat → Int32) (m_rowNow : Nat → Int32) (m_frogOn : Nat → Int32) (m_frogs : Int32) (m_kindOf : Nat → Int32) (m_moved : Int32) (m_movedFrom : Nat → Int32) (m_movedTo : Nat → Int32) (m_pageLength : Int32) (m_page : Nat → Int32) (m_faultAt : Int32) (m_isWhole : Int32) (m_newMany : Int32) (m_newSigns : Int32) (m_newRow : Nat → Int32) (m_long0 : Int32) (m_row : Nat → Int32) (m_far : Nat → Int32) (m_ways : Nat → Int64) (m_queue : Nat → Int32) (m_queueEnd : Int32) (m_endMany : Int32) (m_endSoon : Int32) (m_won : Nat → Int32) (m_seedNow : Int64) (m_isKept : Int32) (m_keptBrook : Int32) (m_keptMoved : Int32) (m_keptRow : Nat → Int32) (m_keptFrog : Nat → Int32) (m_keptFrom : Nat → Int32) (m_keptTo : Nat → Int32) (m_h : Int64) {p0 : Int32} {p1 : Int32} {p2 : Int32} {res : Int32 × Int32 × (Nat → Int32) × Int64} (hf : f_X8_playNow m_stones m_any m_backward m_ring m_two m_readRow m_rowNow m_long0 m_row m_seedNow p0 p1 p2 = some res) : Ct l yX8_playNow (.code yX8_playNow cX8_playNow 8 (some .int)) rX8_playNow E [.ref (a b), .int p0, .int p1, .int p2] (wM E a b m_stones m_any m_backward m_ring m_two m_brooks m_readRow m_rowNow m_frogOn m_frogs m_kindOf m_moved m_movedFrom m_movedTo m_pageLength m_page m_faultAt m_isWhole m_newMany m_newSigns m_newRow m_long0 m_row m_far m_ways m_queue m_queueEnd m_endMany m_endSoon m_won m_seedNow m_isKept m_keptBrook m_keptMoved m_keptRow m_keptFrog m_keptFrom m_keptTo m_h) (some (.int res.1)) (wM E a b m_stones m_any m_backward m_ring m_two m_brooks m_readRow m_rowNow m_frogOn m_frogs m_kindOf m_moved m_movedFrom m_movedTo m_pageLength m_page m_faultAt m_isWhole m_newMany m_newSigns m_newRow res.2.1 res.2.2.1 m_far m_ways m_queue m_queueEnd m_endMany m_endSoon m_won res.2.2.2 m_isKept m_keptBrook m_keptMoved m_keptRow m_keptFrog m_keptFrom m_keptTo m_h) := by
  refine Ct.of (by decide) (Nat.le_of_ble_eq_true rfl) (fun Y hB hR => ?_)
  have hB : Cb E cX8_playNow RX8 rX8_playNow 8 Y := hB
  show J l E rX8_playNow Y (wM E a b m_stones m_any m_backward m_ring m_two m_brooks m_readRow m_rowNow m_frogOn m_frogs m_kindOf m_moved m_movedFrom m_movedTo m_pageLength m_page m_faultAt m_isWhole m_newMany m_newSigns m_newRow m_long0 m_row m_far m_ways m_queue m_queueEnd m_endMany m_endSoon m_won m_seedNow m_isKept m_keptBrook m_keptMoved m_keptRow m_keptFrog m_keptFrom m_keptTo m_h) 0 [(0, .ref (a b)), (1, .int p0), (2, .int p1), (3, .int p2)] []
  unfold f_X8_playNow at hf
  refine J_aload_n hB dX8_playNow_0 rfl 0 rfl ?_
  obtain ⟨r_1, m_long0_2, m_row_3, h_4, hf⟩ := cl3_e hf
  refine J_callV (As := []) (rest := []) (n := 0) (ws' := wM E a b m_stones m_any m_backward m_ring m_two m_brooks m_readRow m_rowNow m_frogOn m_frogs m_kindOf m_moved m_movedFrom m_movedTo m_pageLength m_page m_faultAt m_isWhole m_newMany m_newSigns m_newRow m_long0_2 m_row_3 m_far m_ways m_queue m_queueEnd m_endMany m_endSoon m_won m_seedNow m_isKept m_keptBrook m_keptMoved m_keptRow m_keptFrog m_keptFrom m_keptTo m_h) hB (c_X8_goal l E a b m_stones m_any m_backward m_ring m_two m_brooks m_readRow m_rowNow m_frogOn m_frogs m_kindOf m_moved m_movedFrom m_movedTo m_pageLength m_page m_faultAt m_isWhole m_newMany m_newSigns m_newRow m_long0 m_row m_far m_ways m_queue m_queueEnd m_endMany m_endSoon m_won m_seedNow m_isKept m_keptBrook m_keptMoved m_keptRow m_keptFrog m_keptFrom m_keptTo m_h h_4) mi_X8_goal ⟨ki_X8_goal, kv_X8_goal⟩ km_X8_194 ⟨rfl, rfl, Nat.le_of_ble_eq_true rfl, Nat.le_of_ble_eq_true rfl⟩ Lies.same 0 rfl rfl rfl rfl (Nat.le_of_ble_eq_true rfl) dX8_playNow_1 ?_
  show J l E rX8_playNow Y (wM E a b m_stones m_any m_backward m_ring m_two m_brooks m_readRow m_rowNow m_frogOn m_frogs m_kindOf m_moved m_movedFrom m_movedTo m_pageLength m_page m_faultAt m_isWhole m_newMany m_newSigns m_newRow m_long0_2 m_row_3 m_far m_ways m_queue m_queueEnd m_endMany m_endSoon m_won m_seedNow m_isKept m_keptBrook m_keptMoved m_keptRow m_keptFrog m_keptFrom m_keptTo m_h) 4 [(0, .ref (a b)), (1, .int p0), (2, .int p1), (3, .int p2)] [.int r_1]
  refine J_istore (lv' := [(4, .int r_1), (0, .ref (a b)), (1, .int p0), (2, .int p1), (3, .int p2)]) hB rfl dX8_playNow_4 (Nat.le_of_ble_eq_true rfl) rfl ?_
  refine J_aload_n hB dX8_playNow_6 rfl 1 rfl ?_
  obtain ⟨m_long0_5, m_row_6, h_7, hf⟩ := cl2_e hf
  refine J_callV (As := []) (rest := []) (n := 0) (ws' := wM E a b m_stones m_any m_backward m_ring m_two m_brooks m_readRow m_rowNow m_frogOn m_frogs m_kindOf m_moved m_movedFrom m_movedTo m_pageLength m_page m_faultAt m_isWhole m_newMany m_newSigns m_newRow m_long0_5 m_row_6 m_far m_ways m_queue m_queueEnd m_endMany m_endSoon m_won m_seedNow m_isKept m_keptBrook m_keptMoved m_keptRow m_keptFrog m_keptFrom m_keptTo m_h) hB (c_X8_layNow l E a b m_stones m_any m_backward m_ring m_two m_brooks m_readRow m_rowNow m_frogOn m_frogs m_kindOf m_moved m_movedFrom m_movedTo m_pageLength m_page m_faultAt m_isWhole m_newMany m_newSigns m_newRow m_long0_2 m_row_3 m_far m_ways m_queue m_queueEnd m_endMany m_endSoon m_won m_seedNow m_isKept m_keptBrook m_keptMoved m_keptRow m_keptFrog m_keptFrom m_keptTo m_h h_7) mi_X8_layNow ⟨ki_X8_layNow, kv_X8_layNow⟩ km_X8_151 ⟨rfl, rfl, Nat.le_of_ble_eq_true rfl, Nat.le_of_ble_eq_true rfl⟩ Lies.same 0 rfl rfl rfl rfl (Nat.le_of_ble_eq_true rfl) dX8_playNow_7 ?_
  show J l E rX8_playNow Y (wM E a b m_stones m_any m_backward m_ring m_two m_brooks m_readRow m_rowNow m_frogOn m_frogs m_kindOf m_moved m_movedFrom m_movedTo m_pageLength m_page m_faultAt m_isWhole m_newMany m_newSigns m_newRow m_long0_5 m_row_6 m_far m_ways m_queue m_queueEnd m_endMany m_endSoon m_won m_seedNow m_isKept m_keptBrook m_keptMoved m_keptRow m_keptFrog m_keptFrom m_keptTo m_h) 10 [(4, .int r_1), (0, .ref (a b)), (1, .int p0), (2, .int p1), (3, .int p2)] []
  refine J_aload_n hB dX8_playNow_10 rfl 1 rfl ?_
  refine J_iload_n hB dX8_playNow_11 rfl 3 rfl ?_
  refine J_i2l hB dX8_playNow_12 ?_
  obtain ⟨m_seedNow_8, em_seedNow_8, hf⟩ := nmv_e hf
  rw [← em_seedNow_8]
  refine J_put (ws' := wM E a b m_stones m_any m_backward m_ring m_two m_brooks m_readRow m_rowNow m_frogOn m_frogs m_kindOf m_moved m_movedFrom m_movedTo m_pageLength m_page m_faultAt m_isWhole m_newMany m_newSigns m_newRow m_long0_5 m_row_6 m_far m_ways m_queue m_queueEnd m_endMany m_endSoon m_won m_seedNow_8 m_isKept m_keptBrook m_keptMoved m_keptRow m_keptFrog m_keptFrom m_keptTo m_h) (ty := .long) (v := .long m_seedNow_8) hB inX8 tyX8 tyX8_ok nmX8 0 rfl rfl 30 (Nat.le_of_ble_eq_true rfl) kf_X8_251 rfl rfl rfl rfl (Nat.le_of_ble_eq_true rfl) dX8_playNow_13 rfl ?_
  refine J_iconst (v := 0) hB dX8_playNow_16 rfl ?_
  refine J_istore (lv' := [(5, .int 0), (4, .int r_1), (0, .ref (a b)), (1, .int p0), (2, .int p1), (3, .int p2)]) hB rfl dX8_playNow_17 (Nat.le_of_ble_eq_true rfl) rfl ?_
  refine J_iconst (v := 1) hB dX8_playNow_19 rfl ?_
  refine J_istore (lv' := [(6, .int 1), (5, .int 0), (4, .int r_1), (0, .ref (a b)), (1, .int p0), (2, .int p1), (3, .int p2)]) hB rfl dX8_playNow_20 (Nat.le_of_ble_eq_true rfl) rfl ?_
  refine J_lv [3, 4, 6, 2, 1, 0] rfl ?_
  refine lp4_3_J (P := fun x5_9 x6_10 m_row_11 m_seedNow_12 => J l E rX8_playNow Y (wM E a b m_stones m_any m_backward m_ring m_two m_brooks m_readRow m_rowNow m_frogOn m_frogs m_kindOf m_moved m_movedFrom m_movedTo m_pageLength m_page m_faultAt m_isWhole m_newMany m_newSigns m_newRow m_long0_5 m_row_11 m_far m_ways m_queue m_queueEnd m_endMany m_endSoon m_won m_seedNow_12 m_isKept m_keptBrook m_keptMoved m_keptRow m_keptFrog m_keptFrom m_keptTo m_h) 22 [(0, .ref (a b)), (1, .int p0), (3, .int p2), (4, .int r_1), (5, .int x5_9), (6, .int x6_10)] []) (Q := fun x5_13 m_row_14 m_seedNow_15 => J l E rX8_playNow Y (wM E a b m_stones m_any m_backward m_ring m_two m_brooks m_readRow m_rowNow m_frogOn m_frogs m_kindOf m_moved m_movedFrom m_movedTo m_pageLength m_page m_faultAt m_isWhole m_newMany m_newSigns m_newRow m_long0_5 m_row_14 m_far m_ways m_queue m_queueEnd m_endMany m_endSoon m_won m_seedNow_15 m_isKept m_keptBrook m_keptMoved m_keptRow m_keptFrog m_keptFrom m_keptTo m_h) 72 [(0, .ref (a b)), (3, .int p2), (4, .int r_1), (5, .int x5_13)] []) (fun x5_9 x6_10 m_row_11 m_seedNow_12 nx22 ex22 hnx22 hex22 hf => ?_) (fun x5_13 m_row_14 m_seedNow_15 hf => ?_) hf
  · refine J_iload hB dX8_playNow_22 4 rfl ?_
    refine J_iload_n hB dX8_playNow_24 rfl 1 rfl ?_
    refine J_icmp_ge (tgt := 72) hB dX8_playNow_25 rfl (fun c_16 => ?_) (fun c_16 => ?_)
    · have hf := it_t c_16 hf
      exact J_lv [0, 2, 3, 4] rfl (hex22 x5_9 m_row_11 m_seedNow_12 hf)
    · have hf := it_f c_16 hf
      refine J_iload hB dX8_playNow_28 5 rfl ?_
      refine J_if_eq (tgt := 72) hB dX8_playNow_30 rfl (fun c_17 => ?_) (fun c_17 => ?_)
      · have hf := it_t c_17 hf
        exact J_lv [0, 2, 3, 4] rfl (hex22 x5_9 m_row_11 m_seedNow_12 hf)
      · have hf := it_f c_17 hf
        refine J_aload_n hB dX8_playNow_33 rfl 0 rfl ?_
        obtain ⟨r_18, h_19, hf⟩ := cl1_e hf
        refine J_callV (As := []) (rest := []) (n := 0) (ws' := wM E a b m_stones m_any m_backward m_ring m_two m_brooks m_readRow m_rowNow m_frogOn m_frogs m_kindOf m_moved m_movedFrom m_movedTo m_pageLength m_page m_faultAt m_isWhole m_newMany m_newSigns m_newRow m_long0_5 m_row_11 m_far m_ways m_queue m_queueEnd m_endMany m_endSoon m_won m_seedNow_12 m_isKept m_keptBrook m_keptMoved m_keptRow m_keptFrog m_keptFrom m_keptTo m_h) hB (c_X8_moveMany l E a b m_stones m_any m_backward m_ring m_two m_brooks m_readRow m_rowNow m_frogOn m_frogs m_kindOf m_moved m_movedFrom m_movedTo m_pageLength m_page m_faultAt m_isWhole m_newMany m_newSigns m_newRow m_long0_5 m_row_11 m_far m_ways m_queue m_queueEnd m_endMany m_endSoon m_won m_seedNow_12 m_isKept m_keptBrook m_keptMoved m_keptRow m_keptFrog m_keptFrom m_keptTo m_h h_19) mi_X8_moveMany ⟨ki_X8_moveMany, kv_X8_moveMany⟩ km_X8_157 ⟨rfl, rfl, Nat.le_of_ble_eq_true rfl, Nat.le_of_ble_eq_true rfl⟩ Lies.same 0 rfl rfl rfl rfl (Nat.le_of_ble_eq_true rfl) dX8_playNow_34 ?_
        show J l E rX8_playNow Y (wM E a b m_stones m_any m_backward m_ring m_two m_brooks m_readRow m_rowNow m_frogOn m_frogs m_kindOf m_moved m_movedFrom m_movedTo m_pageLength m_page m_faultAt m_isWhole m_newMany m_newSigns m_newRow m_long0_5 m_row_11 m_far m_ways m_queue m_queueEnd m_endMany m_endSoon m_won m_seedNow_12 m_isKept m_keptBrook m_keptMoved m_keptRow m_keptFrog m_keptFrom m_keptTo m_h) 37 [(0, .ref (a b)), (1, .int p0), (3, .int p2), (4, .int r_1), (5, .int x5_9), (6, .int x6_10)] [.int r_18]
        refine J_istore (lv' := [(7, .int r_18), (0, .ref (a b)), (1, .int p0), (3, .int p2), (4, .int r_1), (5, .int x5_9), (6, .int x6_10)]) hB rfl dX8_playNow_37 (Nat.le_of_ble_eq_true rfl) rfl ?_
        refine J_iload hB dX8_playNow_39 0 rfl ?_
        refine jn1_e (P := fun s_20 => J l E rX8_playNow Y (wM E a b m_stones m_any m_backward m_ring m_two m_brooks m_readRow m_rowNow m_frogOn m_frogs m_kindOf m_moved m_movedFrom m_movedTo m_pageLength m_page m_faultAt m_isWhole m_newMany m_newSigns m_newRow m_long0_5 m_row_11 m_far m_ways m_queue m_queueEnd m_endMany m_endSoon m_won m_seedNow_12 m_isKept m_keptBrook m_keptMoved m_keptRow m_keptFrog m_keptFrom m_keptTo m_h) 49 [(0, .ref (a b)), (1, .int p0), (3, .int p2), (4, .int r_1), (5, .int x5_9), (7, .int r_18)] [.int s_20]) hf (fun s_20 hf => ?_) (fun j49 hj49 hf => ?_)
        · refine J_istore (lv' := [(6, .int s_20), (0, .ref (a b)), (1, .int p0), (3, .int p2), (4, .int r_1), (5, .int x5_9), (7, .int r_18)]) hB rfl dX8_playNow_49 (Nat.le_of_ble_eq_true rfl) rfl ?_
          refine J_iload hB dX8_playNow_51 0 rfl ?_
          refine jn3_e (P := fun x5_21 m_row_22 m_seedNow_23 => J l E rX8_playNow Y (wM E a b m_stones m_any m_backward m_ring m_two m_brooks m_readRow m_rowNow m_frogOn m_frogs m_kindOf m_moved m_movedFrom m_movedTo m_pageLength m_page m_faultAt m_isWhole m_newMany m_newSigns m_newRow m_long0_5 m_row_22 m_far m_ways m_queue m_queueEnd m_endMany m_endSoon m_won m_seedNow_23 m_isKept m_keptBrook m_keptMoved m_keptRow m_keptFrog m_keptFrom m_keptTo m_h) 69 [(0, .ref (a b)), (1, .int p0), (3, .int p2), (4, .int r_1), (5, .int x5_21), (6, .int s_20)] []) hf (fun x5_21 m_row_22 m_seedNow_23 hf => ?_) (fun j69 hj69 hf => ?_)
          · refine J_goto (tgt := 22) hB dX8_playNow_69 rfl ?_
            exact J_lv [0, 1, 2, 3, 4, 5] rfl (hnx22 x5_21 s_20 m_row_22 m_seedNow_23 hf)
          · refine J_if_eq (tgt := 69) hB dX8_playNow_53 rfl (fun c_24 => ?_) (fun c_24 => ?_)
            · have hf := it_t c_24 hf
              exact J_lv [1, 2, 3, 4, 5, 0] rfl (hj69 x5_9 m_row_11 m_seedNow_12 hf)
            · have hf := it_f c_24 hf
              refine J_aload_n hB dX8_playNow_56 rfl 1 rfl ?_
              refine J_aload_n hB dX8_playNow_57 rfl 1 rfl ?_
              refine J_iload hB dX8_playNow_58 6 rfl ?_
              obtain ⟨r_25, m_seedNow_26, h_27, hf⟩ := cl2_e hf
              refine J_callV (As := [.int r_18]) (rest := [.ref (a b)]) (n := 1) (ws' := wM E a b m_stones m_any m_backward m_ring m_two m_brooks m_readRow m_rowNow m_frogOn m_frogs m_kindOf m_moved m_movedFrom m_movedTo m_pageLength m_page m_faultAt m_isWhole m_newMany m_newSigns m_newRow m_long0_5 m_row_11 m_far m_ways m_queue m_queueEnd m_endMany m_endSoon m_won m_seedNow_26 m_isKept m_keptBrook m_keptMoved m_keptRow m_keptFrog m_keptFrom m_keptTo m_h) hB (c_X8_draw l E a b m_stones m_any m_backward m_ring m_two m_brooks m_readRow m_rowNow m_frogOn m_frogs m_kindOf m_moved m_movedFrom m_movedTo m_pageLength m_page m_faultAt m_isWhole m_newMany m_newSigns m_newRow m_long0_5 m_row_11 m_far m_ways m_queue m_queueEnd m_endMany m_endSoon m_won m_seedNow_12 m_isKept m_keptBrook m_keptMoved m_keptRow m_keptFrog m_keptFrom m_keptTo m_h h_27) mi_X8_draw ⟨ki_X8_draw, kv_X8_draw⟩ km_X8_261 ⟨rfl, rfl, Nat.le_of_ble_eq_true rfl, Nat.le_of_ble_eq_true rfl⟩ Lies.same 0 rfl rfl rfl rfl (Nat.le_of_ble_eq_true rfl) dX8_playNow_60 ?_
              show J l E rX8_playNow Y (wM E a b m_stones m_any m_backward m_ring m_two m_brooks m_readRow m_rowNow m_frogOn m_frogs m_kindOf m_moved m_movedFrom m_movedTo m_pageLength m_page m_faultAt m_isWhole m_newMany m_newSigns m_newRow m_long0_5 m_row_11 m_far m_ways m_queue m_queueEnd m_endMany m_endSoon m_won m_seedNow_26 m_isKept m_keptBrook m_keptMoved m_keptRow m_keptFrog m_keptFrom m_keptTo m_h) 63 [(6, .int s_20), (0, .ref (a b)), (1, .int p0), (3, .int p2), (4, .int r_1), (5, .int x5_9), (7, .int r_18)] [.int r_25, .ref (a b)]
              obtain ⟨m_row_28, h_29, hf⟩ := cl1_e hf
              refine J_callV (As := [.int r_25]) (rest := []) (n := 1) (ws' := wM E a b m_stones m_any m_backward m_ring m_two m_brooks m_readRow m_rowNow m_frogOn m_frogs m_kindOf m_moved m_movedFrom m_movedTo m_pageLength m_page m_faultAt m_isWhole m_newMany m_newSigns m_newRow m_long0_5 m_row_28 m_far m_ways m_queue m_queueEnd m_endMany m_endSoon m_won m_seedNow_26 m_isKept m_keptBrook m_keptMoved m_keptRow m_keptFrog m_keptFrom m_keptTo m_h) hB (c_X8_goMove l E a b m_stones m_any m_backward m_ring m_two m_brooks m_readRow m_rowNow m_frogOn m_frogs m_kindOf m_moved m_movedFrom m_movedTo m_pageLength m_page m_faultAt m_isWhole m_newMany m_newSigns m_newRow m_long0_5 m_row_11 m_far m_ways m_queue m_queueEnd m_endMany m_endSoon m_won m_seedNow_26 m_isKept m_keptBrook m_keptMoved m_keptRow m_keptFrog m_keptFrom m_keptTo m_h h_29) mi_X8_goMove ⟨ki_X8_goMove, kv_X8_goMove⟩ km_X8_264 ⟨rfl, rfl, Nat.le_of_ble_eq_true rfl, Nat.le_of_ble_eq_true rfl⟩ Lies.same 0 rfl rfl rfl rfl (Nat.le_of_ble_eq_true rfl) dX8_playNow_63 ?_
              show J l E rX8_playNow Y (wM E a b m_stones m_any m_backward m_ring m_two m_brooks m_readRow m_rowNow m_frogOn m_frogs m_kindOf m_moved m_movedFrom m_movedTo m_pageLength m_page m_faultAt m_isWhole m_newMany m_newSigns m_newRow m_long0_5 m_row_28 m_far m_ways m_queue m_queueEnd m_endMany m_endSoon m_won m_seedNow_26 m_isKept m_keptBrook m_keptMoved m_keptRow m_keptFrog m_keptFrom m_keptTo m_h) 66 [(6, .int s_20), (0, .ref (a b)), (1, .int p0), (3, .int p2), (4, .int r_1), (5, .int x5_9), (7, .int r_18)] []
              obtain ⟨x5_30, ex5_30, hf⟩ := nmv_e hf
              refine J_iinc (lv' := [(5, .int x5_30), (6, .int s_20), (0, .ref (a b)), (1, .int p0), (3, .int p2), (4, .int r_1), (7, .int r_18)]) hB ex5_30 dX8_playNow_66 5 rfl (Nat.le_of_ble_eq_true rfl) rfl ?_
              exact J_lv [2, 3, 4, 5, 0, 1] rfl (hj69 x5_30 m_row_28 m_seedNow_26 hf)
        · refine J_if_le (tgt := 48) hB dX8_playNow_41 rfl (fun c_31 => ?_) (fun c_31 => ?_)
          · have hf := it_t c_31 hf
            refine J_iconst (v := 0) hB dX8_playNow_48 rfl ?_
            exact J_lv [1, 2, 3, 4, 5, 0] rfl (hj49 0 hf)
          · have hf := it_f c_31 hf
            refine J_iconst (v := 1) hB dX8_playNow_44 rfl ?_
            refine J_goto (tgt := 49) hB dX8_playNow_45 rfl ?_
            exact J_lv [1, 2, 3, 4, 5, 0] rfl (hj49 1 hf)
  · refine J_iload_n hB dX8_playNow_72 rfl 1 rfl ?_
    refine J_if_ne (tgt := 81) hB dX8_playNow_73 rfl (fun c_32 => ?_) (fun c_32 => ?_)
    · have hf := it_f c_32 hf
      refine J_iload_n hB dX8_playNow_81 rfl 1 rfl ?_
      refine J_iconst (v := 2) hB dX8_playNow_82 rfl ?_
      refine J_icmp_ne (tgt := 94) hB dX8_playNow_83 rfl (fun c_33 => ?_) (fun c_33 => ?_)
      · have hf := it_f c_33 hf
        refine J_aload_n hB dX8_playNow_94 rfl 0 rfl ?_
        obtain ⟨r_34, h_35, hf⟩ := cl1_e hf
        refine J_callV (As := []) (rest := []) (n := 0) (ws' := wM E a b m_stones m_any m_backward m_ring m_two m_brooks m_readRow m_rowNow m_frogOn m_frogs m_kindOf m_moved m_movedFrom m_movedTo m_pageLength m_page m_faultAt m_isWhole m_newMany m_newSigns m_newRow m_long0_5 m_row_14 m_far m_ways m_queue m_queueEnd m_endMany m_endSoon m_won m_seedNow_15 m_isKept m_keptBrook m_keptMoved m_keptRow m_keptFrog m_keptFrom m_keptTo m_h) hB (c_X8_codeOf l E a b m_stones m_any m_backward m_ring m_two m_brooks m_readRow m_rowNow m_frogOn m_frogs m_kindOf m_moved m_movedFrom m_movedTo m_pageLength m_page m_faultAt m_isWhole m_newMany m_newSigns m_newRow m_long0_5 m_row_14 m_far m_ways m_queue m_queueEnd m_endMany m_endSoon m_won m_seedNow_15 m_isKept m_keptBrook m_keptMoved m_keptRow m_keptFrog m_keptFrom m_keptTo m_h h_35) mi_X8_codeOf ⟨ki_X8_codeOf, kv_X8_codeOf⟩ km_X8_171 ⟨rfl, rfl, Nat.le_of_ble_eq_true rfl, Nat.le_of_ble_eq_true rfl⟩ Lies.same 0 rfl rfl rfl rfl (Nat.le_of_ble_eq_true rfl) dX8_playNow_95 ?_
        show J l E rX8_playNow Y (wM E a b m_stones m_any m_backward m_ring m_two m_brooks m_readRow m_rowNow m_frogOn m_frogs m_kindOf m_moved m_movedFrom m_movedTo m_pageLength m_page m_faultAt m_isWhole m_newMany m_newSigns m_newRow m_long0_5 m_row_14 m_far m_ways m_queue m_queueEnd m_endMany m_endSoon m_won m_seedNow_15 m_isKept m_keptBrook m_keptMoved m_keptRow m_keptFrog m_keptFrom m_keptTo m_h) 98 [(0, .ref (a b)), (3, .int p2), (4, .int r_1), (5, .int x5_13)] [.int r_34]
        refine J_iload hB dX8_playNow_98 2 rfl ?_
        refine J_icmp_ne (tgt := 107) hB dX8_playNow_100 rfl (fun c_36 => ?_) (fun c_36 => ?_)
        · have hf := it_f c_36 hf
          refine J_iconst (v := 0) hB dX8_playNow_107 rfl ?_
          obtain rfl := Option.some.inj hf
          exact J_iret hB hR dX8_playNow_108
        · have hf := it_t c_36 hf
          refine J_iconst (v := 1) hB dX8_playNow_103 rfl ?_
          refine J_goto (tgt := 108) hB dX8_playNow_104 rfl ?_
          obtain rfl := Option.some.inj hf
          exact J_iret hB hR dX8_playNow_108
      · have hf := it_t c_33 hf
        refine J_aload_n hB dX8_playNow_86 rfl 0 rfl ?_
        refine J_get (v := .long m_seedNow_15) hB inX8 0 rfl rfl 30 (Nat.le_of_ble_eq_true rfl) kf_X8_251 rfl dX8_playNow_87 ?_
        refine J_l2i hB dX8_playNow_90 ?_
        refine J_goto (tgt := 108) hB dX8_playNow_91 rfl ?_
        obtain rfl := Option.some.inj hf
        exact J_iret hB hR dX8_playNow_108
    · have hf := it_t c_32 hf
      refine J_iload hB dX8_playNow_76 3 rfl ?_
      refine J_goto (tgt := 108) hB dX8_playNow_78 rfl ?_
      obtain rfl := Option.some.inj hf
      exact J_iret hB hR dX8_playNow_108
def f_X8_play (m_stones : Int32) (m_any : Int32) (m_backward : Int32) (m_ring : Int32) (m_two : Int32) (m_readRow : Nat → Int32) (m_rowNow : Nat → Int32) (m_long0 : Int32) (m_row : Nat → Int32) (m_seedNow : Int64) (p0 : Int32) (p1 : Int32) (p2 : Int32) : Option (Int32 × Int32 × (Nat → Int32) × Int64) :=
cl1 (f_X8_within p0 1 60) fun r_1 =>
if r_1 = 0 then (
some ((-102), m_long0, m_row, m_seedNow)) else (
if p1 < 0 then (
some ((-102), m_long0, m_row, m_seedNow)) else (
cl1 (f_X8_within p2 0 2) fun r_5 =>
if r_5 = 0 then (
some ((-102), m_long0, m_row, m_seedNow)) else (
if m_stones = 0 then (
some ((-103), m_long0, m_row, m_seedNow)) else (
cl4 (f_X8_playNow m_stones m_any m_backward m_ring m_two m_readRow m_rowNow m_long0 m_row m_seedNow p0 p1 p2) fun r_9 m_long0_10 m_row_11 m_seedNow_12 =>
some (r_9, m_long0_10, m_row_11, m_seedNow_12)))))
abbrev rX8_play : Room := { frames := 6, cells := 0, slots := 0, locals := 147 }
set_option maxRecDepth 100000 in
set_option maxHeartbeats 4000000 in
theorem c_X8_play (l : Launch) (E : En) (a : Nat → Nat) (b : Nat) (m_stones : Int32) (m_any : Int32) (m_backward : Int32) (m_ring : Int32) (m_two : Int32) (m_brooks : Int32) (m_readRow : Nat → Int32) (m_rowNow : Nat → Int32) (m_frogOn : Nat → Int32) (m_frogs : Int32) (m_kindOf : Nat → Int32) (m_moved : Int32) (m_movedFrom : Nat → Int32) (m_movedTo : Nat → Int32) (m_pageLength : Int32) (m_page : Nat → Int32) (m_faultAt : Int32) (m_isWhole : Int32) (m_newMany : Int32) (m_newSigns : Int32) (m_newRow : Nat → Int32) (m_long0 : Int32) (m_row : Nat → Int32) (m_far : Nat → Int32) (m_ways : Nat → Int64) (m_queue : Nat → Int32) (m_queueEnd : Int32) (m_endMany : Int32) (m_endSoon : Int32) (m_won : Nat → Int32) (m_seedNow : Int64) (m_isKept : Int32) (m_keptBrook : Int32) (m_keptMoved : Int32) (m_keptRow : Nat → Int32) (m_keptFrog : Nat → Int32) (m_keptFrom : Nat → Int32) (m_keptTo : Nat → Int32) (m_h : Int64) {p0 : Int32} {p1 : Int32} {p2 : Int32} {res : Int32 × Int32 × (Nat → Int32) × Int64} (hf : f_X8_play m_stones m_any m_backward m_ring m_two m_readRow m_rowNow m_long0 m_row m_seedNow p0 p1 p2 = some res) : Ct l yX8_play (.code yX8_play cX8_play 4 (some .int)) rX8_play E [.ref (a b), .int p0, .int p1, .int p2] (wM E a b m_stones m_any m_backward m_ring m_two m_brooks m_readRow m_rowNow m_frogOn m_frogs m_kindOf m_moved m_movedFrom m_movedTo m_pageLength m_page m_faultAt m_isWhole m_newMany m_newSigns m_newRow m_long0 m_row m_far m_ways m_queue m_queueEnd m_endMany m_endSoon m_won m_seedNow m_isKept m_keptBrook m_keptMoved m_keptRow m_keptFrog m_keptFrom m_keptTo m_h) (some (.int res.1)) (wM E a b m_stones m_any m_backward m_ring m_two m_brooks m_readRow m_rowNow m_frogOn m_frogs m_kindOf m_moved m_movedFrom m_movedTo m_pageLength m_page m_faultAt m_isWhole m_newMany m_newSigns m_newRow res.2.1 res.2.2.1 m_far m_ways m_queue m_queueEnd m_endMany m_endSoon m_won res.2.2.2 m_isKept m_keptBrook m_keptMoved m_keptRow m_keptFrog m_keptFrom m_keptTo m_h) := by
  refine Ct.of (by decide) (Nat.le_of_ble_eq_true rfl) (fun Y hB hR => ?_)
  have hB : Cb E cX8_play RX8 rX8_play 4 Y := hB
  show J l E rX8_play Y (wM E a b m_stones m_any m_backward m_ring m_two m_brooks m_readRow m_rowNow m_frogOn m_frogs m_kindOf m_moved m_movedFrom m_movedTo m_pageLength m_page m_faultAt m_isWhole m_newMany m_newSigns m_newRow m_long0 m_row m_far m_ways m_queue m_queueEnd m_endMany m_endSoon m_won m_seedNow m_isKept m_keptBrook m_keptMoved m_keptRow m_keptFrog m_keptFrom m_keptTo m_h) 0 [(0, .ref (a b)), (1, .int p0), (2, .int p1), (3, .int p2)] []
  unfold f_X8_play at hf
  refine J_iload_n hB dX8_play_0 rfl 1 rfl ?_
  refine J_iconst (v := 1) hB dX8_play_1 rfl ?_
  refine J_bipush (v := 60) hB dX8_play_2 rfl ?_
  obtain ⟨r_1, h_2, hf⟩ := cl1_e hf
  refine J_callS (As := [.int p0, .int 1, .int 60]) (rest := []) (n := 3) (ws' := wM E a b m_stones m_any m_backward m_ring m_two m_brooks m_readRow m_rowNow m_frogOn m_frogs m_kindOf m_moved m_movedFrom m_movedTo m_pageLength m_page m_faultAt m_isWhole m_newMany m_newSigns m_newRow m_long0 m_row m_far m_ways m_queue m_queueEnd m_endMany m_endSoon m_won m_seedNow m_isKept m_keptBrook m_keptMoved m_keptRow m_keptFrog m_keptFrom m_keptTo m_h) hB (c_X8_within l E a h_2) mi_X8_within ks_X8_within km_X8_117 ⟨rfl, rfl, Nat.le_of_ble_eq_true rfl, Nat.le_of_ble_eq_true rfl⟩ Lies.none rfl rfl (Nat.le_of_ble_eq_true rfl) dX8_play_4 ?_
  show J l E rX8_play Y (wM E a b m_stones m_any m_backward m_ring m_two m_brooks m_readRow m_rowNow m_frogOn m_frogs m_kindOf m_moved m_movedFrom m_movedTo m_pageLength m_page m_faultAt m_isWhole m_newMany m_newSigns m_newRow m_long0 m_row m_far m_ways m_queue m_queueEnd m_endMany m_endSoon m_won m_seedNow m_isKept m_keptBrook m_keptMoved m_keptRow m_keptFrog m_keptFrom m_keptTo m_h) 7 [(0, .ref (a b)), (1, .int p0), (2, .int p1), (3, .int p2)] [.int r_1]
  refine J_if_eq (tgt := 23) hB dX8_play_7 rfl (fun c_3 => ?_) (fun c_3 => ?_)
  · have hf := it_t c_3 hf
    refine J_bipush (v := (-102)) hB dX8_play_23 rfl ?_
    obtain rfl := Option.some.inj hf
    exact J_iret hB hR dX8_play_25
  · have hf := it_f c_3 hf
    refine J_iload_n hB dX8_play_10 rfl 2 rfl ?_
    refine J_if_lt (tgt := 23) hB dX8_play_11 rfl (fun c_4 => ?_) (fun c_4 => ?_)
    · have hf := it_t c_4 hf
      refine J_bipush (v := (-102)) hB dX8_play_23 rfl ?_
      obtain rfl := Option.some.inj hf
      exact J_iret hB hR dX8_play_25
    · have hf := it_f c_4 hf
      refine J_iload_n hB dX8_play_14 rfl 3 rfl ?_
      refine J_iconst (v := 0) hB dX8_play_15 rfl ?_
      refine J_iconst (v := 2) hB dX8_play_16 rfl ?_
      obtain ⟨r_5, h_6, hf⟩ := cl1_e hf
      refine J_callS (As := [.int p2, .int 0, .int 2]) (rest := []) (n := 3) (ws' := wM E a b m_stones m_any m_backward m_ring m_two m_brooks m_readRow m_rowNow m_frogOn m_frogs m_kindOf m_moved m_movedFrom m_movedTo m_pageLength m_page m_faultAt m_isWhole m_newMany m_newSigns m_newRow m_long0 m_row m_far m_ways m_queue m_queueEnd m_endMany m_endSoon m_won m_seedNow m_isKept m_keptBrook m_keptMoved m_keptRow m_keptFrog m_keptFrom m_keptTo m_h) hB (c_X8_within l E a h_6) mi_X8_within ks_X8_within km_X8_117 ⟨rfl, rfl, Nat.le_of_ble_eq_true rfl, Nat.le_of_ble_eq_true rfl⟩ Lies.none rfl rfl (Nat.le_of_ble_eq_true rfl) dX8_play_17 ?_
      show J l E rX8_play Y (wM E a b m_stones m_any m_backward m_ring m_two m_brooks m_readRow m_rowNow m_frogOn m_frogs m_kindOf m_moved m_movedFrom m_movedTo m_pageLength m_page m_faultAt m_isWhole m_newMany m_newSigns m_newRow m_long0 m_row m_far m_ways m_queue m_queueEnd m_endMany m_endSoon m_won m_seedNow m_isKept m_keptBrook m_keptMoved m_keptRow m_keptFrog m_keptFrom m_keptTo m_h) 20 [(0, .ref (a b)), (1, .int p0), (2, .int p1), (3, .int p2)] [.int r_5]
      refine J_if_ne (tgt := 26) hB dX8_play_20 rfl (fun c_7 => ?_) (fun c_7 => ?_)
      · have hf := it_f c_7 hf
        refine J_aload_n hB dX8_play_26 rfl 0 rfl ?_
        refine J_get (v := .int m_stones) hB inX8 0 rfl rfl 0 (Nat.le_of_ble_eq_true rfl) kf_X8_93 rfl dX8_play_27 ?_
        refine J_if_ne (tgt := 38) hB dX8_play_30 rfl (fun c_8 => ?_) (fun c_8 => ?_)
        · have hf := it_f c_8 hf
          refine J_aload_n hB dX8_play_38 rfl 0 rfl ?_
          refine J_iload_n hB dX8_play_39 rfl 1 rfl ?_
          refine J_iload_n hB dX8_play_40 rfl 2 rfl ?_
          refine J_iload_n hB dX8_play_41 rfl 3 rfl ?_
          obtain ⟨r_9, m_long0_10, m_row_11, m_seedNow_12, h_13, hf⟩ := cl4_e hf
          refine J_callV (As := [.int p0, .int p1, .int p2]) (rest := []) (n := 3) (ws' := wM E a b m_stones m_any m_backward m_ring m_two m_brooks m_readRow m_rowNow m_frogOn m_frogs m_kindOf m_moved m_movedFrom m_movedTo m_pageLength m_page m_faultAt m_isWhole m_newMany m_newSigns m_newRow m_long0_10 m_row_11 m_far m_ways m_queue m_queueEnd m_endMany m_endSoon m_won m_seedNow_12 m_isKept m_keptBrook m_keptMoved m_keptRow m_keptFrog m_keptFrom m_keptTo m_h) hB (c_X8_playNow l E a b m_stones m_any m_backward m_ring m_two m_brooks m_readRow m_rowNow m_frogOn m_frogs m_kindOf m_moved m_movedFrom m_movedTo m_pageLength m_page m_faultAt m_isWhole m_newMany m_newSigns m_newRow m_long0 m_row m_far m_ways m_queue m_queueEnd m_endMany m_endSoon m_won m_seedNow m_isKept m_keptBrook m_keptMoved m_keptRow m_keptFrog m_keptFrom m_keptTo m_h h_13) mi_X8_playNow ⟨ki_X8_playNow, kv_X8_playNow⟩ km_X8_267 ⟨rfl, rfl, Nat.le_of_ble_eq_true rfl, Nat.le_of_ble_eq_true rfl⟩ Lies.same 0 rfl rfl rfl rfl (Nat.le_of_ble_eq_true rfl) dX8_play_42 ?_
          show J l E rX8_play Y (wM E a b m_stones m_any m_backward m_ring m_two m_brooks m_readRow m_rowNow m_frogOn m_frogs m_kindOf m_moved m_movedFrom m_movedTo m_pageLength m_page m_faultAt m_isWhole m_newMany m_newSigns m_newRow m_long0_10 m_row_11 m_far m_ways m_queue m_queueEnd m_endMany m_endSoon m_won m_seedNow_12 m_isKept m_keptBrook m_keptMoved m_keptRow m_keptFrog m_keptFrom m_keptTo m_h) 45 [(0, .ref (a b)), (1, .int p0), (2, .int p1), (3, .int p2)] [.int r_9]
          obtain rfl := Option.some.inj hf
          exact J_iret hB hR dX8_play_45
        · have hf := it_t c_8 hf
          refine J_bipush (v := (-103)) hB dX8_play_33 rfl ?_
          refine J_goto (tgt := 45) hB dX8_play_35 rfl ?_
          obtain rfl := Option.some.inj hf
          exact J_iret hB hR dX8_play_45
      · have hf := it_t c_7 hf
        refine J_bipush (v := (-102)) hB dX8_play_23 rfl ?_
        obtain rfl := Option.some.inj hf
        exact J_iret hB hR dX8_play_25
def f_X8_image (m_stones : Int32) (m_brooks : Int32) (m_rowNow : Nat → Int32) (m_frogOn : Nat → Int32) (m_moved : Int32) (m_movedFrom : Nat → Int32) (m_movedTo : Nat → Int32) (m_isKept : Int32) (m_keptBrook : Int32) (m_keptMoved : Int32) (m_keptRow : Nat → Int32) (m_keptFrog : Nat → Int32) (m_keptFrom : Nat → Int32) (m_keptTo : Nat → Int32) : Option (Int32 × Int32 × Int32 × Int32 × (Nat → Int32) × (Nat → Int32) × (Nat → Int32) × (Nat → Int32)) :=
if m_stones = 0 then (
some ((-103), m_isKept, m_keptBrook, m_keptMoved, m_keptRow, m_keptFrog, m_keptFrom, m_keptTo)) else (
lp3_2 (fun (x1_2 : Int32) (m_keptRow_3 : Nat → Int32) (m_keptFrog_4 : Nat → Int32) nx33 ex33 =>
if 7 ≤ x1_2 then (
ex33 m_keptRow_3 m_keptFrog_4) else (
ald 7 m_rowNow x1_2 fun v_8 =>
astI 7 m_keptRow_3 x1_2 v_8 fun m_keptRow_10 =>
ald 7 m_frogOn x1_2 fun v_12 =>
astI 7 m_keptFrog_4 x1_2 v_12 fun m_keptFrog_14 =>
nmv (α := Int32) (x1_2 + 1) fun x1_16 =>
nx33 x1_16 m_keptRow_10 m_keptFrog_14)) (fun (m_keptRow_5 : Nat → Int32) (m_keptFrog_6 : Nat → Int32) =>
lp3_2 (fun (x1_17 : Int32) (m_keptFrom_18 : Nat → Int32) (m_keptTo_19 : Nat → Int32) nx71 ex71 =>
if 60 ≤ x1_17 then (
ex71 m_keptFrom_18 m_keptTo_19) else (
ald 60 m_movedFrom x1_17 fun v_23 =>
astI 60 m_keptFrom_18 x1_17 v_23 fun m_keptFrom_25 =>
ald 60 m_movedTo x1_17 fun v_27 =>
astI 60 m_keptTo_19 x1_17 v_27 fun m_keptTo_29 =>
nmv (α := Int32) (x1_17 + 1) fun x1_31 =>
nx71 x1_31 m_keptFrom_25 m_keptTo_29)) (fun (m_keptFrom_20 : Nat → Int32) (m_keptTo_21 : Nat → Int32) =>
some (m_moved, 1, m_brooks, m_moved, m_keptRow_5, m_keptFrog_6, m_keptFrom_20, m_keptTo_21)) fuel 0 m_keptFrom m_keptTo) fuel 0 m_keptRow m_keptFrog)
abbrev rX8_image : Room := { frames := 0, cells := 0, slots := 0, locals := 0 }
set_option maxRecDepth 100000 in
set_option maxHeartbeats 4000000 in
theorem c_X8_image (l : Launch) (E : En) (a : Nat → Nat) (b : Nat) (m_stones : Int32) (m_any : Int32) (m_backward : Int32) (m_ring : Int32) (m_two : Int32) (m_brooks : Int32) (m_readRow : Nat → Int32) (m_rowNow : Nat → Int32) (m_frogOn : Nat → Int32) (m_frogs : Int32) (m_kindOf : Nat → Int32) (m_moved : Int32) (m_movedFrom : Nat → Int32) (m_movedTo : Nat → Int32) (m_pageLength : Int32) (m_page : Nat → Int32) (m_faultAt : Int32) (m_isWhole : Int32) (m_newMany : Int32) (m_newSigns : Int32) (m_newRow : Nat → Int32) (m_long0 : Int32) (m_row : Nat → Int32) (m_far : Nat → Int32) (m_ways : Nat → Int64) (m_queue : Nat → Int32) (m_queueEnd : Int32) (m_endMany : Int32) (m_endSoon : Int32) (m_won : Nat → Int32) (m_seedNow : Int64) (m_isKept : Int32) (m_keptBrook : Int32) (m_keptMoved : Int32) (m_keptRow : Nat → Int32) (m_keptFrog : Nat → Int32) (m_keptFrom : Nat → Int32) (m_keptTo : Nat → Int32) (m_h : Int64) {res : Int32 × Int32 × Int32 × Int32 × (Nat → Int32) × (Nat → Int32) × (Nat → Int32) × (Nat → Int32)} (hf : f_X8_image m_stones m_brooks m_rowNow m_frogOn m_moved m_movedFrom m_movedTo m_isKept m_keptBrook m_keptMoved m_keptRow m_keptFrog m_keptFrom m_keptTo = some res) : Ct l yX8_image (.code yX8_image cX8_image 2 (some .int)) rX8_image E [.ref (a b)] (wM E a b m_stones m_any m_backward m_ring m_two m_brooks m_readRow m_rowNow m_frogOn m_frogs m_kindOf m_moved m_movedFrom m_movedTo m_pageLength m_page m_faultAt m_isWhole m_newMany m_newSigns m_newRow m_long0 m_row m_far m_ways m_queue m_queueEnd m_endMany m_endSoon m_won m_seedNow m_isKept m_keptBrook m_keptMoved m_keptRow m_keptFrog m_keptFrom m_keptTo m_h) (some (.int res.1)) (wM E a b m_stones m_any m_backward m_ring m_two m_brooks m_readRow m_rowNow m_frogOn m_frogs m_kindOf m_moved m_movedFrom m_movedTo m_pageLength m_page m_faultAt m_isWhole m_newMany m_newSigns m_newRow m_long0 m_row m_far m_ways m_queue m_queueEnd m_endMany m_endSoon m_won m_seedNow res.2.1 res.2.2.1 res.2.2.2.1 res.2.2.2.2.1 res.2.2.2.2.2.1 res.2.2.2.2.2.2.1 res.2.2.2.2.2.2.2 m_h) := by
  refine Ct.of (by decide) (Nat.le_of_ble_eq_true rfl) (fun Y hB hR => ?_)
  have hB : Cb E cX8_image RX8 rX8_image 2 Y := hB
  show J l E rX8_image Y (wM E a b m_stones m_any m_backward m_ring m_two m_brooks m_readRow m_rowNow m_frogOn m_frogs m_kindOf m_moved m_movedFrom m_movedTo m_pageLength m_page m_faultAt m_isWhole m_newMany m_newSigns m_newRow m_long0 m_row m_far m_ways m_queue m_queueEnd m_endMany m_endSoon m_won m_seedNow m_isKept m_keptBrook m_keptMoved m_keptRow m_keptFrog m_keptFrom m_keptTo m_h) 0 [(0, .ref (a b))] []
  unfold f_X8_image at hf
  refine J_aload_n hB dX8_image_0 rfl 0 rfl ?_
  refine J_get (v := .int m_stones) hB inX8 0 rfl rfl 0 (Nat.le_of_ble_eq_true rfl) kf_X8_93 rfl dX8_image_1 ?_
  refine J_if_ne (tgt := 10) hB dX8_image_4 rfl (fun c_1 => ?_) (fun c_1 => ?_)
  · have hf := it_f c_1 hf
    refine J_aload_n hB dX8_image_10 rfl 0 rfl ?_
    refine J_iconst (v := 1) hB dX8_image_11 rfl ?_
    refine J_put (ws' := wM E a b m_stones m_any m_backward m_ring m_two m_brooks m_readRow m_rowNow m_frogOn m_frogs m_kindOf m_moved m_movedFrom m_movedTo m_pageLength m_page m_faultAt m_isWhole m_newMany m_newSigns m_newRow m_long0 m_row m_far m_ways m_queue m_queueEnd m_endMany m_endSoon m_won m_seedNow 1 m_keptBrook m_keptMoved m_keptRow m_keptFrog m_keptFrom m_keptTo m_h) (ty := .boolean) (v := .int 1) hB inX8 tyX8 tyX8_ok nmX8 0 rfl rfl 31 (Nat.le_of_ble_eq_true rfl) kf_X8_271 rfl rfl (by decide +kernel) (by decide +kernel) (Nat.le_of_ble_eq_true rfl) dX8_image_12 rfl ?_
    refine J_aload_n hB dX8_image_15 rfl 0 rfl ?_
    refine J_aload_n hB dX8_image_16 rfl 0 rfl ?_
    refine J_get (v := .int m_brooks) hB inX8 0 rfl rfl 5 (Nat.le_of_ble_eq_true rfl) kf_X8_114 rfl dX8_image_17 ?_
    refine J_put (ws' := wM E a b m_stones m_any m_backward m_ring m_two m_brooks m_readRow m_rowNow m_frogOn m_frogs m_kindOf m_moved m_movedFrom m_movedTo m_pageLength m_page m_faultAt m_isWhole m_newMany m_newSigns m_newRow m_long0 m_row m_far m_ways m_queue m_queueEnd m_endMany m_endSoon m_won m_seedNow 1 m_brooks m_keptMoved m_keptRow m_keptFrog m_keptFrom m_keptTo m_h) (ty := .int) (v := .int m_brooks) hB inX8 tyX8 tyX8_ok nmX8 0 rfl rfl 32 (Nat.le_of_ble_eq_true rfl) kf_X8_274 rfl rfl rfl rfl (Nat.le_of_ble_eq_true rfl) dX8_image_20 rfl ?_
    refine J_aload_n hB dX8_image_23 rfl 0 rfl ?_
    refine J_aload_n hB dX8_image_24 rfl 0 rfl ?_
    refine J_get (v := .int m_moved) hB inX8 0 rfl rfl 11 (Nat.le_of_ble_eq_true rfl) kf_X8_111 rfl dX8_image_25 ?_
    refine J_put (ws' := wM E a b m_stones m_any m_backward m_ring m_two m_brooks m_readRow m_rowNow m_frogOn m_frogs m_kindOf m_moved m_movedFrom m_movedTo m_pageLength m_page m_faultAt m_isWhole m_newMany m_newSigns m_newRow m_long0 m_row m_far m_ways m_queue m_queueEnd m_endMany m_endSoon m_won m_seedNow 1 m_brooks m_moved m_keptRow m_keptFrog m_keptFrom m_keptTo m_h) (ty := .int) (v := .int m_moved) hB inX8 tyX8 tyX8_ok nmX8 0 rfl rfl 33 (Nat.le_of_ble_eq_true rfl) kf_X8_277 rfl rfl rfl rfl (Nat.le_of_ble_eq_true rfl) dX8_image_28 rfl ?_
    refine J_iconst (v := 0) hB dX8_image_31 rfl ?_
    refine J_istore_n (lv' := [(1, .int 0), (0, .ref (a b))]) hB rfl dX8_image_32 rfl (Nat.le_of_ble_eq_true rfl) rfl ?_
    refine J_lv [1, 0] rfl ?_
    refine lp3_2_J (P := fun x1_2 m_keptRow_3 m_keptFrog_4 => J l E rX8_image Y (wM E a b m_stones m_any m_backward m_ring m_two m_brooks m_readRow m_rowNow m_frogOn m_frogs m_kindOf m_moved m_movedFrom m_movedTo m_pageLength m_page m_faultAt m_isWhole m_newMany m_newSigns m_newRow m_long0 m_row m_far m_ways m_queue m_queueEnd m_endMany m_endSoon m_won m_seedNow 1 m_brooks m_moved m_keptRow_3 m_keptFrog_4 m_keptFrom m_keptTo m_h) 33 [(0, .ref (a b)), (1, .int x1_2)] []) (Q := fun m_keptRow_5 m_keptFrog_6 => J l E rX8_image Y (wM E a b m_stones m_any m_backward m_ring m_two m_brooks m_readRow m_rowNow m_frogOn m_frogs m_kindOf m_moved m_movedFrom m_movedTo m_pageLength m_page m_faultAt m_isWhole m_newMany m_newSigns m_newRow m_long0 m_row m_far m_ways m_queue m_queueEnd m_endMany m_endSoon m_won m_seedNow 1 m_brooks m_moved m_keptRow_5 m_keptFrog_6 m_keptFrom m_keptTo m_h) 69 [(0, .ref (a b))] []) (fun x1_2 m_keptRow_3 m_keptFrog_4 nx33 ex33 hnx33 hex33 hf => ?_) (fun m_keptRow_5 m_keptFrog_6 hf => ?_) hf
    · refine J_iload_n hB dX8_image_33 rfl 1 rfl ?_
      refine J_bipush (v := 7) hB dX8_image_34 rfl ?_
      refine J_icmp_ge (tgt := 69) hB dX8_image_36 rfl (fun c_7 => ?_) (fun c_7 => ?_)
      · have hf := it_t c_7 hf
        exact J_lv [0] rfl (hex33 m_keptRow_3 m_keptFrog_4 hf)
      · have hf := it_f c_7 hf
        refine J_aload_n hB dX8_image_39 rfl 0 rfl ?_
        refine J_get (v := .ref (a (b + 14))) hB inX8 0 rfl rfl 34 (Nat.le_of_ble_eq_true rfl) kf_X8_52 rfl dX8_image_40 ?_
        refine J_iload_n hB dX8_image_43 rfl 1 rfl ?_
        refine J_aload_n hB dX8_image_44 rfl 0 rfl ?_
        refine J_get (v := .ref (a (b + 2))) hB inX8 0 rfl rfl 7 (Nat.le_of_ble_eq_true rfl) kf_X8_13 rfl dX8_image_45 ?_
        refine J_iload_n hB dX8_image_48 rfl 1 rfl ?_
        obtain ⟨v_8, ev_8, h_9, hf⟩ := ald_e hf
        refine J_iald hB 2 rfl ev_8 h_9 dX8_image_49 ?_
        obtain ⟨m_keptRow_10, em_keptRow_10, h_11, hf⟩ := astI_e hf
        refine J_iast (ws' := wM E a b m_stones m_any m_backward m_ring m_two m_brooks m_readRow m_rowNow m_frogOn m_frogs m_kindOf m_moved m_movedFrom m_movedTo m_pageLength m_page m_faultAt m_isWhole m_newMany m_newSigns m_newRow m_long0 m_row m_far m_ways m_queue m_queueEnd m_endMany m_endSoon m_won m_seedNow 1 m_brooks m_moved m_keptRow_10 m_keptFrog_4 m_keptFrom m_keptTo m_h) hB 14 rfl em_keptRow_10 h_11 dX8_image_50 rfl ?_
        refine J_aload_n hB dX8_image_51 rfl 0 rfl ?_
        refine J_get (v := .ref (a (b + 15))) hB inX8 0 rfl rfl 35 (Nat.le_of_ble_eq_true rfl) kf_X8_55 rfl dX8_image_52 ?_
        refine J_iload_n hB dX8_image_55 rfl 1 rfl ?_
        refine J_aload_n hB dX8_image_56 rfl 0 rfl ?_
        refine J_get (v := .ref (a (b + 3))) hB inX8 0 rfl rfl 8 (Nat.le_of_ble_eq_true rfl) kf_X8_16 rfl dX8_image_57 ?_
        refine J_iload_n hB dX8_image_60 rfl 1 rfl ?_
        obtain ⟨v_12, ev_12, h_13, hf⟩ := ald_e hf
        refine J_iald hB 3 rfl ev_12 h_13 dX8_image_61 ?_
        obtain ⟨m_keptFrog_14, em_keptFrog_14, h_15, hf⟩ := astI_e hf
        refine J_iast (ws' := wM E a b m_stones m_any m_backward m_ring m_two m_brooks m_readRow m_rowNow m_frogOn m_frogs m_kindOf m_moved m_movedFrom m_movedTo m_pageLength m_page m_faultAt m_isWhole m_newMany m_newSigns m_newRow m_long0 m_row m_far m_ways m_queue m_queueEnd m_endMany m_endSoon m_won m_seedNow 1 m_brooks m_moved m_keptRow_10 m_keptFrog_14 m_keptFrom m_keptTo m_h) hB 15 rfl em_keptFrog_14 h_15 dX8_image_62 rfl ?_
        obtain ⟨x1_16, ex1_16, hf⟩ := nmv_e hf
        refine J_iinc (lv' := [(1, .int x1_16), (0, .ref (a b))]) hB ex1_16 dX8_image_63 1 rfl (Nat.le_of_ble_eq_true rfl) rfl ?_
        refine J_goto (tgt := 33) hB dX8_image_66 rfl ?_
        exact J_lv [1, 0] rfl (hnx33 x1_16 m_keptRow_10 m_keptFrog_14 hf)
    · refine J_iconst (v := 0) hB dX8_image_69 rfl ?_
      refine J_istore_n (lv' := [(1, .int 0), (0, .ref (a b))]) hB rfl dX8_image_70 rfl (Nat.le_of_ble_eq_true rfl) rfl ?_
      refine J_lv [1, 0] rfl ?_
      refine lp3_2_J (P := fun x1_17 m_keptFrom_18 m_keptTo_19 => J l E rX8_image Y (wM E a b m_stones m_any m_backward m_ring m_two m_brooks m_readRow m_rowNow m_frogOn m_frogs m_kindOf m_moved m_movedFrom m_movedTo m_pageLength m_page m_faultAt m_isWhole m_newMany m_newSigns m_newRow m_long0 m_row m_far m_ways m_queue m_queueEnd m_endMany m_endSoon m_won m_seedNow 1 m_brooks m_moved m_keptRow_5 m_keptFrog_6 m_keptFrom_18 m_keptTo_19 m_h) 71 [(0, .ref (a b)), (1, .int x1_17)] []) (Q := fun m_keptFrom_20 m_keptTo_21 => J l E rX8_image Y (wM E a b m_stones m_any m_backward m_ring m_two m_brooks m_readRow m_rowNow m_frogOn m_frogs m_kindOf m_moved m_movedFrom m_movedTo m_pageLength m_page m_faultAt m_isWhole m_newMany m_newSigns m_newRow m_long0 m_row m_far m_ways m_queue m_queueEnd m_endMany m_endSoon m_won m_seedNow 1 m_brooks m_moved m_keptRow_5 m_keptFrog_6 m_keptFrom_20 m_keptTo_21 m_h) 107 [(0, .ref (a b))] []) (fun x1_17 m_keptFrom_18 m_keptTo_19 nx71 ex71 hnx71 hex71 hf => ?_) (fun m_keptFrom_20 m_keptTo_21 hf => ?_) hf
      · refine J_iload_n hB dX8_image_71 rfl 1 rfl ?_
        refine J_bipush (v := 60) hB dX8_image_72 rfl ?_
        refine J_icmp_ge (tgt := 107) hB dX8_image_74 rfl (fun c_22 => ?_) (fun c_22 => ?_)
        · have hf := it_t c_22 hf
          exact J_lv [0] rfl (hex71 m_keptFrom_18 m_keptTo_19 hf)
        · have hf := it_f c_22 hf
          refine J_aload_n hB dX8_image_77 rfl 0 rfl ?_
          refine J_get (v := .ref (a (b + 16))) hB inX8 0 rfl rfl 36 (Nat.le_of_ble_eq_true rfl) kf_X8_58 rfl dX8_image_78 ?_
          refine J_iload_n hB dX8_image_81 rfl 1 rfl ?_
          refine J_aload_n hB dX8_image_82 rfl 0 rfl ?_
          refine J_get (v := .ref (a (b + 5))) hB inX8 0 rfl rfl 12 (Nat.le_of_ble_eq_true rfl) kf_X8_22 rfl dX8_image_83 ?_
          refine J_iload_n hB dX8_image_86 rfl 1 rfl ?_
          obtain ⟨v_23, ev_23, h_24, hf⟩ := ald_e hf
          refine J_iald hB 5 rfl ev_23 h_24 dX8_image_87 ?_
          obtain ⟨m_keptFrom_25, em_keptFrom_25, h_26, hf⟩ := astI_e hf
          refine J_iast (ws' := wM E a b m_stones m_any m_backward m_ring m_two m_brooks m_readRow m_rowNow m_frogOn m_frogs m_kindOf m_moved m_movedFrom m_movedTo m_pageLength m_page m_faultAt m_isWhole m_newMany m_newSigns m_newRow m_long0 m_row m_far m_ways m_queue m_queueEnd m_endMany m_endSoon m_won m_seedNow 1 m_brooks m_moved m_keptRow_5 m_keptFrog_6 m_keptFrom_25 m_keptTo_19 m_h) hB 16 rfl em_keptFrom_25 h_26 dX8_image_88 rfl ?_
          refine J_aload_n hB dX8_image_89 rfl 0 rfl ?_
          refine J_get (v := .ref (a (b + 17))) hB inX8 0 rfl rfl 37 (Nat.le_of_ble_eq_true rfl) kf_X8_61 rfl dX8_image_90 ?_
          refine J_iload_n hB dX8_image_93 rfl 1 rfl ?_
          refine J_aload_n hB dX8_image_94 rfl 0 rfl ?_
          refine J_get (v := .ref (a (b + 6))) hB inX8 0 rfl rfl 13 (Nat.le_of_ble_eq_true rfl) kf_X8_25 rfl dX8_image_95 ?_
          refine J_iload_n hB dX8_image_98 rfl 1 rfl ?_
          obtain ⟨v_27, ev_27, h_28, hf⟩ := ald_e hf
          refine J_iald hB 6 rfl ev_27 h_28 dX8_image_99 ?_
          obtain ⟨m_keptTo_29, em_keptTo_29, h_30, hf⟩ := astI_e hf
          refine J_iast (ws' := wM E a b m_stones m_any m_backward m_ring m_two m_brooks m_readRow m_rowNow m_frogOn m_frogs m_kindOf m_moved m_movedFrom m_movedTo m_pageLength m_page m_faultAt m_isWhole m_newMany m_newSigns m_newRow m_long0 m_row m_far m_ways m_queue m_queueEnd m_endMany m_endSoon m_won m_seedNow 1 m_brooks m_moved m_keptRow_5 m_keptFrog_6 m_keptFrom_25 m_keptTo_29 m_h) hB 17 rfl em_keptTo_29 h_30 dX8_image_100 rfl ?_
          obtain ⟨x1_31, ex1_31, hf⟩ := nmv_e hf
          refine J_iinc (lv' := [(1, .int x1_31), (0, .ref (a b))]) hB ex1_31 dX8_image_101 1 rfl (Nat.le_of_ble_eq_true rfl) rfl ?_
          refine J_goto (tgt := 71) hB dX8_image_104 rfl ?_
          exact J_lv [1, 0] rfl (hnx71 x1_31 m_keptFrom_25 m_keptTo_29 hf)
      · refine J_aload_n hB dX8_image_107 rfl 0 rfl ?_
        refine J_get (v := .int m_moved) hB inX8 0 rfl rfl 11 (Nat.le_of_ble_eq_true rfl) kf_X8_111 rfl dX8_image_108 ?_
        obtain rfl := Option.some.inj hf
        exact J_iret hB hR dX8_image_111
  · have hf := it_t c_1 hf
    refine J_bipush (v := (-103)) hB dX8_image_7 rfl ?_
    obtain rfl := Option.some.inj hf
    exact J_iret hB hR dX8_image_9
def f_X8_restore (m_brooks : Int32) (m_rowNow : Nat → Int32) (m_frogOn : Nat → Int32) (m_moved : Int32) (m_movedFrom : Nat → Int32) (m_movedTo : Nat → Int32) (m_isKept : Int32) (m_keptBrook : Int32) (m_keptMoved : Int32) (m_keptRow : Nat → Int32) (m_keptFrog : Nat → Int32) (m_keptFrom : Nat → Int32) (m_keptTo : Nat → Int32) : Option (Int32 × (Nat → Int32) × (Nat → Int32) × Int32 × (Nat → Int32) × (Nat → Int32)) :=
if m_isKept = 0 then (
some ((-103), m_rowNow, m_frogOn, m_moved, m_movedFrom, m_movedTo)) else (
if m_keptBrook = m_brooks then (
lp3_2 (fun (x1_3 : Int32) (m_rowNow_4 : Nat → Int32) (m_frogOn_5 : Nat → Int32) nx31 ex31 =>
if 7 ≤ x1_3 then (
ex31 m_rowNow_4 m_frogOn_5) else (
ald 7 m_keptRow x1_3 fun v_9 =>
astI 7 m_rowNow_4 x1_3 v_9 fun m_rowNow_11 =>
ald 7 m_keptFrog x1_3 fun v_13 =>
astI 7 m_frogOn_5 x1_3 v_13 fun m_frogOn_15 =>
nmv (α := Int32) (x1_3 + 1) fun x1_17 =>
nx31 x1_17 m_rowNow_11 m_frogOn_15)) (fun (m_rowNow_6 : Nat → Int32) (m_frogOn_7 : Nat → Int32) =>
lp3_2 (fun (x1_18 : Int32) (m_movedFrom_19 : Nat → Int32) (m_movedTo_20 : Nat → Int32) nx69 ex69 =>
if 60 ≤ x1_18 then (
ex69 m_movedFrom_19 m_movedTo_20) else (
ald 60 m_keptFrom x1_18 fun v_24 =>
astI 60 m_movedFrom_19 x1_18 v_24 fun m_movedFrom_26 =>
ald 60 m_keptTo x1_18 fun v_28 =>
astI 60 m_movedTo_20 x1_18 v_28 fun m_movedTo_30 =>
nmv (α := Int32) (x1_18 + 1) fun x1_32 =>
nx69 x1_32 m_movedFrom_26 m_movedTo_30)) (fun (m_movedFrom_21 : Nat → Int32) (m_movedTo_22 : Nat → Int32) =>
some (m_keptMoved, m_rowNow_6, m_frogOn_7, m_keptMoved, m_movedFrom_21, m_movedTo_22)) fuel 0 m_movedFrom m_movedTo) fuel 0 m_rowNow m_frogOn) else (
some ((-103), m_rowNow, m_frogOn, m_moved, m_movedFrom, m_movedTo)))
abbrev rX8_restore : Room := { frames := 0, cells := 0, slots := 0, locals := 0 }
set_option maxRecDepth 100000 in
set_option maxHeartbeats 4000000 in
theorem c_X8_restore (l : Launch) (E : En) (a : Nat → Nat) (b : Nat) (m_stones : Int32) (m_any : Int32) (m_backward : Int32) (m_ring : Int32) (m_two : Int32) (m_brooks : Int32) (m_readRow : Nat → Int32) (m_rowNow : Nat → Int32) (m_frogOn : Nat → Int32) (m_frogs : Int32) (m_kindOf : Nat → Int32) (m_moved : Int32) (m_movedFrom : Nat → Int32) (m_movedTo : Nat → Int32) (m_pageLength : Int32) (m_page : Nat → Int32) (m_faultAt : Int32) (m_isWhole : Int32) (m_newMany : Int32) (m_newSigns : Int32) (m_newRow : Nat → Int32) (m_long0 : Int32) (m_row : Nat → Int32) (m_far : Nat → Int32) (m_ways : Nat → Int64) (m_queue : Nat → Int32) (m_queueEnd : Int32) (m_endMany : Int32) (m_endSoon : Int32) (m_won : Nat → Int32) (m_seedNow : Int64) (m_isKept : Int32) (m_keptBrook : Int32) (m_keptMoved : Int32) (m_keptRow : Nat → Int32) (m_keptFrog : Nat → Int32) (m_keptFrom : Nat → Int32) (m_keptTo : Nat → Int32) (m_h : Int64) {res : Int32 × (Nat → Int32) × (Nat → Int32) × Int32 × (Nat → Int32) × (Nat → Int32)} (hf : f_X8_restore m_brooks m_rowNow m_frogOn m_moved m_movedFrom m_movedTo m_isKept m_keptBrook m_keptMoved m_keptRow m_keptFrog m_keptFrom m_keptTo = some res) : Ct l yX8_restore (.code yX8_restore cX8_restore 2 (some .int)) rX8_restore E [.ref (a b)] (wM E a b m_stones m_any m_backward m_ring m_two m_brooks m_readRow m_rowNow m_frogOn m_frogs m_kindOf m_moved m_movedFrom m_movedTo m_pageLength m_page m_faultAt m_isWhole m_newMany m_newSigns m_newRow m_long0 m_row m_far m_ways m_queue m_queueEnd m_endMany m_endSoon m_won m_seedNow m_isKept m_keptBrook m_keptMoved m_keptRow m_keptFrog m_keptFrom m_keptTo m_h) (some (.int res.1)) (wM E a b m_stones m_any m_backward m_ring m_two m_brooks m_readRow res.2.1 res.2.2.1 m_frogs m_kindOf res.2.2.2.1 res.2.2.2.2.1 res.2.2.2.2.2 m_pageLength m_page m_faultAt m_isWhole m_newMany m_newSigns m_newRow m_long0 m_row m_far m_ways m_queue m_queueEnd m_endMany m_endSoon m_won m_seedNow m_isKept m_keptBrook m_keptMoved m_keptRow m_keptFrog m_keptFrom m_keptTo m_h) := by
  refine Ct.of (by decide) (Nat.le_of_ble_eq_true rfl) (fun Y hB hR => ?_)
  have hB : Cb E cX8_restore RX8 rX8_restore 2 Y := hB
  show J l E rX8_restore Y (wM E a b m_stones m_any m_backward m_ring m_two m_brooks m_readRow m_rowNow m_frogOn m_frogs m_kindOf m_moved m_movedFrom m_movedTo m_pageLength m_page m_faultAt m_isWhole m_newMany m_newSigns m_newRow m_long0 m_row m_far m_ways m_queue m_queueEnd m_endMany m_endSoon m_won m_seedNow m_isKept m_keptBrook m_keptMoved m_keptRow m_keptFrog m_keptFrom m_keptTo m_h) 0 [(0, .ref (a b))] []
  unfold f_X8_restore at hf
  refine J_aload_n hB dX8_restore_0 rfl 0 rfl ?_
  refine J_get (v := .int m_isKept) hB inX8 0 rfl rfl 31 (Nat.le_of_ble_eq_true rfl) kf_X8_271 rfl dX8_restore_1 ?_
  refine J_if_eq (tgt := 18) hB dX8_restore_4 rfl (fun c_1 => ?_) (fun c_1 => ?_)
  · have hf := it_t c_1 hf
    refine J_bipush (v := (-103)) hB dX8_restore_18 rfl ?_
    obtain rfl := Option.some.inj hf
    exact J_iret hB hR dX8_restore_20
  · have hf := it_f c_1 hf
    refine J_aload_n hB dX8_restore_7 rfl 0 rfl ?_
    refine J_get (v := .int m_keptBrook) hB inX8 0 rfl rfl 32 (Nat.le_of_ble_eq_true rfl) kf_X8_274 rfl dX8_restore_8 ?_
    refine J_aload_n hB dX8_restore_11 rfl 0 rfl ?_
    refine J_get (v := .int m_brooks) hB inX8 0 rfl rfl 5 (Nat.le_of_ble_eq_true rfl) kf_X8_114 rfl dX8_restore_12 ?_
    refine J_icmp_eq (tgt := 21) hB dX8_restore_15 rfl (fun c_2 => ?_) (fun c_2 => ?_)
    · have hf := it_t c_2 hf
      refine J_aload_n hB dX8_restore_21 rfl 0 rfl ?_
      refine J_aload_n hB dX8_restore_22 rfl 0 rfl ?_
      refine J_get (v := .int m_keptMoved) hB inX8 0 rfl rfl 33 (Nat.le_of_ble_eq_true rfl) kf_X8_277 rfl dX8_restore_23 ?_
      refine J_put (ws' := wM E a b m_stones m_any m_backward m_ring m_two m_brooks m_readRow m_rowNow m_frogOn m_frogs m_kindOf m_keptMoved m_movedFrom m_movedTo m_pageLength m_page m_faultAt m_isWhole m_newMany m_newSigns m_newRow m_long0 m_row m_far m_ways m_queue m_queueEnd m_endMany m_endSoon m_won m_seedNow m_isKept m_keptBrook m_keptMoved m_keptRow m_keptFrog m_keptFrom m_keptTo m_h) (ty := .int) (v := .int m_keptMoved) hB inX8 tyX8 tyX8_ok nmX8 0 rfl rfl 11 (Nat.le_of_ble_eq_true rfl) kf_X8_111 rfl rfl rfl rfl (Nat.le_of_ble_eq_true rfl) dX8_restore_26 rfl ?_
      refine J_iconst (v := 0) hB dX8_restore_29 rfl ?_
      refine J_istore_n (lv' := [(1, .int 0), (0, .ref (a b))]) hB rfl dX8_restore_30 rfl (Nat.le_of_ble_eq_true rfl) rfl ?_
      refine J_lv [1, 0] rfl ?_
      refine lp3_2_J (P := fun x1_3 m_rowNow_4 m_frogOn_5 => J l E rX8_restore Y (wM E a b m_stones m_any m_backward m_ring m_two m_brooks m_readRow m_rowNow_4 m_frogOn_5 m_frogs m_kindOf m_keptMoved m_movedFrom m_movedTo m_pageLength m_page m_faultAt m_isWhole m_newMany m_newSigns m_newRow m_long0 m_row m_far m_ways m_queue m_queueEnd m_endMany m_endSoon m_won m_seedNow m_isKept m_keptBrook m_keptMoved m_keptRow m_keptFrog m_keptFrom m_keptTo m_h) 31 [(0, .ref (a b)), (1, .int x1_3)] []) (Q := fun m_rowNow_6 m_frogOn_7 => J l E rX8_restore Y (wM E a b m_stones m_any m_backward m_ring m_two m_brooks m_readRow m_rowNow_6 m_frogOn_7 m_frogs m_kindOf m_keptMoved m_movedFrom m_movedTo m_pageLength m_page m_faultAt m_isWhole m_newMany m_newSigns m_newRow m_long0 m_row m_far m_ways m_queue m_queueEnd m_endMany m_endSoon m_won m_seedNow m_isKept m_keptBrook m_keptMoved m_keptRow m_keptFrog m_keptFrom m_keptTo m_h) 67 [(0, .ref (a b))] []) (fun x1_3 m_rowNow_4 m_frogOn_5 nx31 ex31 hnx31 hex31 hf => ?_) (fun m_rowNow_6 m_frogOn_7 hf => ?_) hf
      · refine J_iload_n hB dX8_restore_31 rfl 1 rfl ?_
        refine J_bipush (v := 7) hB dX8_restore_32 rfl ?_
        refine J_icmp_ge (tgt := 67) hB dX8_restore_34 rfl (fun c_8 => ?_) (fun c_8 => ?_)
        · have hf := it_t c_8 hf
          exact J_lv [0] rfl (hex31 m_rowNow_4 m_frogOn_5 hf)
        · have hf := it_f c_8 hf
          refine J_aload_n hB dX8_restore_37 rfl 0 rfl ?_
          refine J_get (v := .ref (a (b + 2))) hB inX8 0 rfl rfl 7 (Nat.le_of_ble_eq_true rfl) kf_X8_13 rfl dX8_restore_38 ?_
          refine J_iload_n hB dX8_restore_41 rfl 1 rfl ?_
          refine J_aload_n hB dX8_restore_42 rfl 0 rfl ?_
          refine J_get (v := .ref (a (b + 14))) hB inX8 0 rfl rfl 34 (Nat.le_of_ble_eq_true rfl) kf_X8_52 rfl dX8_restore_43 ?_
          refine J_iload_n hB dX8_restore_46 rfl 1 rfl ?_
          obtain ⟨v_9, ev_9, h_10, hf⟩ := ald_e hf
          refine J_iald hB 14 rfl ev_9 h_10 dX8_restore_47 ?_
          obtain ⟨m_rowNow_11, em_rowNow_11, h_12, hf⟩ := astI_e hf
          refine J_iast (ws' := wM E a b m_stones m_any m_backward m_ring m_two m_brooks m_readRow m_rowNow_11 m_frogOn_5 m_frogs m_kindOf m_keptMoved m_movedFrom m_movedTo m_pageLength m_page m_faultAt m_isWhole m_newMany m_newSigns m_newRow m_long0 m_row m_far m_ways m_queue m_queueEnd m_endMany m_endSoon m_won m_seedNow m_isKept m_keptBrook m_keptMoved m_keptRow m_keptFrog m_keptFrom m_keptTo m_h) hB 2 rfl em_rowNow_11 h_12 dX8_restore_48 rfl ?_
          refine J_aload_n hB dX8_restore_49 rfl 0 rfl ?_
          refine J_get (v := .ref (a (b + 3))) hB inX8 0 rfl rfl 8 (Nat.le_of_ble_eq_true rfl) kf_X8_16 rfl dX8_restore_50 ?_
          refine J_iload_n hB dX8_restore_53 rfl 1 rfl ?_
          refine J_aload_n hB dX8_restore_54 rfl 0 rfl ?_
          refine J_get (v := .ref (a (b + 15))) hB inX8 0 rfl rfl 35 (Nat.le_of_ble_eq_true rfl) kf_X8_55 rfl dX8_restore_55 ?_
          refine J_iload_n hB dX8_restore_58 rfl 1 rfl ?_
          obtain ⟨v_13, ev_13, h_14, hf⟩ := ald_e hf
          refine J_iald hB 15 rfl ev_13 h_14 dX8_restore_59 ?_
          obtain ⟨m_frogOn_15, em_frogOn_15, h_16, hf⟩ := astI_e hf
          refine J_iast (ws' := wM E a b m_stones m_any m_backward m_ring m_two m_brooks m_readRow m_rowNow_11 m_frogOn_15 m_frogs m_kindOf m_keptMoved m_movedFrom m_movedTo m_pageLength m_page m_faultAt m_isWhole m_newMany m_newSigns m_newRow m_long0 m_row m_far m_ways m_queue m_queueEnd m_endMany m_endSoon m_won m_seedNow m_isKept m_keptBrook m_keptMoved m_keptRow m_keptFrog m_keptFrom m_keptTo m_h) hB 3 rfl em_frogOn_15 h_16 dX8_restore_60 rfl ?_
          obtain ⟨x1_17, ex1_17, hf⟩ := nmv_e hf
          refine J_iinc (lv' := [(1, .int x1_17), (0, .ref (a b))]) hB ex1_17 dX8_restore_61 1 rfl (Nat.le_of_ble_eq_true rfl) rfl ?_
          refine J_goto (tgt := 31) hB dX8_restore_64 rfl ?_
          exact J_lv [1, 0] rfl (hnx31 x1_17 m_rowNow_11 m_frogOn_15 hf)
      · refine J_iconst (v := 0) hB dX8_restore_67 rfl ?_
        refine J_istore_n (lv' := [(1, .int 0), (0, .ref (a b))]) hB rfl dX8_restore_68 rfl (Nat.le_of_ble_eq_true rfl) rfl ?_
        refine J_lv [1, 0] rfl ?_
        refine lp3_2_J (P := fun x1_18 m_movedFrom_19 m_movedTo_20 => J l E rX8_restore Y (wM E a b m_stones m_any m_backward m_ring m_two m_brooks m_readRow m_rowNow_6 m_frogOn_7 m_frogs m_kindOf m_keptMoved m_movedFrom_19 m_movedTo_20 m_pageLength m_page m_faultAt m_isWhole m_newMany m_newSigns m_newRow m_long0 m_row m_far m_ways m_queue m_queueEnd m_endMany m_endSoon m_won m_seedNow m_isKept m_keptBrook m_keptMoved m_keptRow m_keptFrog m_keptFrom m_keptTo m_h) 69 [(0, .ref (a b)), (1, .int x1_18)] []) (Q := fun m_movedFrom_21 m_movedTo_22 => J l E rX8_restore Y (wM E a b m_stones m_any m_backward m_ring m_two m_brooks m_readRow m_rowNow_6 m_frogOn_7 m_frogs m_kindOf m_keptMoved m_movedFrom_21 m_movedTo_22 m_pageLength m_page m_faultAt m_isWhole m_newMany m_newSigns m_newRow m_long0 m_row m_far m_ways m_queue m_queueEnd m_endMany m_endSoon m_won m_seedNow m_isKept m_keptBrook m_keptMoved m_keptRow m_keptFrog m_keptFrom m_keptTo m_h) 105 [(0, .ref (a b))] []) (fun x1_18 m_movedFrom_19 m_movedTo_20 nx69 ex69 hnx69 hex69 hf => ?_) (fun m_movedFrom_21 m_movedTo_22 hf => ?_) hf
        · refine J_iload_n hB dX8_restore_69 rfl 1 rfl ?_
          refine J_bipush (v := 60) hB dX8_restore_70 rfl ?_
          refine J_icmp_ge (tgt := 105) hB dX8_restore_72 rfl (fun c_23 => ?_) (fun c_23 => ?_)
          · have hf := it_t c_23 hf
            exact J_lv [0] rfl (hex69 m_movedFrom_19 m_movedTo_20 hf)
          · have hf := it_f c_23 hf
            refine J_aload_n hB dX8_restore_75 rfl 0 rfl ?_
            refine J_get (v := .ref (a (b + 5))) hB inX8 0 rfl rfl 12 (Nat.le_of_ble_eq_true rfl) kf_X8_22 rfl dX8_restore_76 ?_
            refine J_iload_n hB dX8_restore_79 rfl 1 rfl ?_
            refine J_aload_n hB dX8_restore_80 rfl 0 rfl ?_
            refine J_get (v := .ref (a (b + 16))) hB inX8 0 rfl rfl 36 (Nat.le_of_ble_eq_true rfl) kf_X8_58 rfl dX8_restore_81 ?_
            refine J_iload_n hB dX8_restore_84 rfl 1 rfl ?_
            obtain ⟨v_24, ev_24, h_25, hf⟩ := ald_e hf
            refine J_iald hB 16 rfl ev_24 h_25 dX8_restore_85 ?_
            obtain ⟨m_movedFrom_26, em_movedFrom_26, h_27, hf⟩ := astI_e hf
            refine J_iast (ws' := wM E a b m_stones m_any m_backward m_ring m_two m_brooks m_readRow m_rowNow_6 m_frogOn_7 m_frogs m_kindOf m_keptMoved m_movedFrom_26 m_movedTo_20 m_pageLength m_page m_faultAt m_isWhole m_newMany m_newSigns m_newRow m_long0 m_row m_far m_ways m_queue m_queueEnd m_endMany m_endSoon m_won m_seedNow m_isKept m_keptBrook m_keptMoved m_keptRow m_keptFrog m_keptFrom m_keptTo m_h) hB 5 rfl em_movedFrom_26 h_27 dX8_restore_86 rfl ?_
            refine J_aload_n hB dX8_restore_87 rfl 0 rfl ?_
            refine J_get (v := .ref (a (b + 6))) hB inX8 0 rfl rfl 13 (Nat.le_of_ble_eq_true rfl) kf_X8_25 rfl dX8_restore_88 ?_
            refine J_iload_n hB dX8_restore_91 rfl 1 rfl ?_
            refine J_aload_n hB dX8_restore_92 rfl 0 rfl ?_
            refine J_get (v := .ref (a (b + 17))) hB inX8 0 rfl rfl 37 (Nat.le_of_ble_eq_true rfl) kf_X8_61 rfl dX8_restore_93 ?_
            refine J_iload_n hB dX8_restore_96 rfl 1 rfl ?_
            obtain ⟨v_28, ev_28, h_29, hf⟩ := ald_e hf
            refine J_iald hB 17 rfl ev_28 h_29 dX8_restore_97 ?_
            obtain ⟨m_movedTo_30, em_movedTo_30, h_31, hf⟩ := astI_e hf
            refine J_iast (ws' := wM E a b m_stones m_any m_backward m_ring m_two m_brooks m_readRow m_rowNow_6 m_frogOn_7 m_frogs m_kindOf m_keptMoved m_movedFrom_26 m_movedTo_30 m_pageLength m_page m_faultAt m_isWhole m_newMany m_newSigns m_newRow m_long0 m_row m_far m_ways m_queue m_queueEnd m_endMany m_endSoon m_won m_seedNow m_isKept m_keptBrook m_keptMoved m_keptRow m_keptFrog m_keptFrom m_keptTo m_h) hB 6 rfl em_movedTo_30 h_31 dX8_restore_98 rfl ?_
            obtain ⟨x1_32, ex1_32, hf⟩ := nmv_e hf
            refine J_iinc (lv' := [(1, .int x1_32), (0, .ref (a b))]) hB ex1_32 dX8_restore_99 1 rfl (Nat.le_of_ble_eq_true rfl) rfl ?_
            refine J_goto (tgt := 69) hB dX8_restore_102 rfl ?_
            exact J_lv [1, 0] rfl (hnx69 x1_32 m_movedFrom_26 m_movedTo_30 hf)
        · refine J_aload_n hB dX8_restore_105 rfl 0 rfl ?_
          refine J_get (v := .int m_keptMoved) hB inX8 0 rfl rfl 11 (Nat.le_of_ble_eq_true rfl) kf_X8_111 rfl dX8_restore_106 ?_
          obtain rfl := Option.some.inj hf
          exact J_iret hB hR dX8_restore_109
    · have hf := it_f c_2 hf
      refine J_bipush (v := (-103)) hB dX8_restore_18 rfl ?_
      obtain rfl := Option.some.inj hf
      exact J_iret hB hR dX8_restore_20
def f_X8_one (p0 : Int32) : Option (Int32) :=
if p0 = 0 then (
some 0) else (
some 1)
abbrev rX8_one : Room := { frames := 0, cells := 0, slots := 0, locals := 0 }
set_option maxRecDepth 100000 in
set_option maxHeartbeats 4000000 in
theorem c_X8_one (l : Launch) (E : En) (a : Nat → Nat) {p0 : Int32} {res : Int32} (hf : f_X8_one p0 = some res) : Ct l yX8_one (.code yX8_one cX8_one 1 (some .int)) rX8_one E [.int p0] ([]) (some (.int res)) ([]) := by
  refine Ct.of (by decide) (Nat.le_of_ble_eq_true rfl) (fun Y hB hR => ?_)
  have hB : Cb E cX8_one RX8 rX8_one 1 Y := hB
  show J l E rX8_one Y [] 0 [(0, .int p0)] []
  unfold f_X8_one at hf
  refine J_iload_n hB dX8_one_0 rfl 0 rfl ?_
  refine J_if_eq (tgt := 8) hB dX8_one_1 rfl (fun c_1 => ?_) (fun c_1 => ?_)
  · have hf := it_t c_1 hf
    refine J_iconst (v := 0) hB dX8_one_8 rfl ?_
    obtain rfl := Option.some.inj hf
    exact J_iret hB hR dX8_one_9
  · have hf := it_f c_1 hf
    refine J_iconst (v := 1) hB dX8_one_4 rfl ?_
    refine J_goto (tgt := 9) hB dX8_one_5 rfl ?_
    obtain rfl := Option.some.inj hf
    exact J_iret hB hR dX8_one_9
def f_X8_howMany (m_stones : Int32) (m_any : Int32) (m_backward : Int32) (m_ring : Int32) (m_two : Int32) (m_brooks : Int32) (m_frogs : Int32) (m_moved : Int32) (m_pageLength : Int32) (p0 : Int32) : Option (Int32) :=
if p0 = 0 then (
some m_stones) else
if p0 = 1 then (
some m_frogs) else
if p0 = 2 then (
some m_moved) else
if p0 = 3 then (
some (m_stones - m_frogs)) else
if p0 = 4 then (
cl1 (f_X8_one m_any) fun r_6 =>
some r_6) else
if p0 = 5 then (
cl1 (f_X8_one m_backward) fun r_9 =>
some r_9) else
if p0 = 6 then (
cl1 (f_X8_one m_ring) fun r_12 =>
some r_12) else
if p0 = 7 then (
cl1 (f_X8_one m_two) fun r_15 =>
some r_15) else
if p0 = 8 then (
some m_pageLength) else
if p0 = 9 then (
some m_brooks) else
some ((-102))
abbrev rX8_howMany : Room := { frames := 1, cells := 0, slots := 0, locals := 20 }
set_option maxRecDepth 100000 in
set_option maxHeartbeats 4000000 in
theorem c_X8_howMany (l : Launch) (E : En) (a : Nat → Nat) (b : Nat) (m_stones : Int32) (m_any : Int32) (m_backward : Int32) (m_ring : Int32) (m_two : Int32) (m_brooks : Int32) (m_readRow : Nat → Int32) (m_rowNow : Nat → Int32) (m_frogOn : Nat → Int32) (m_frogs : Int32) (m_kindOf : Nat → Int32) (m_moved : Int32) (m_movedFrom : Nat → Int32) (m_movedTo : Nat → Int32) (m_pageLength : Int32) (m_page : Nat → Int32) (m_faultAt : Int32) (m_isWhole : Int32) (m_newMany : Int32) (m_newSigns : Int32) (m_newRow : Nat → Int32) (m_long0 : Int32) (m_row : Nat → Int32) (m_far : Nat → Int32) (m_ways : Nat → Int64) (m_queue : Nat → Int32) (m_queueEnd : Int32) (m_endMany : Int32) (m_endSoon : Int32) (m_won : Nat → Int32) (m_seedNow : Int64) (m_isKept : Int32) (m_keptBrook : Int32) (m_keptMoved : Int32) (m_keptRow : Nat → Int32) (m_keptFrog : Nat → Int32) (m_keptFrom : Nat → Int32) (m_keptTo : Nat → Int32) (m_h : Int64) {p0 : Int32} {res : Int32} (hf : f_X8_howMany m_stones m_any m_backward m_ring m_two m_brooks m_frogs m_moved m_pageLength p0 = some res) : Ct l yX8_howMany (.code yX8_howMany cX8_howMany 2 (some .int)) rX8_howMany E [.ref (a b), .int p0] (wM E a b m_stones m_any m_backward m_ring m_two m_brooks m_readRow m_rowNow m_frogOn m_frogs m_kindOf m_moved m_movedFrom m_movedTo m_pageLength m_page m_faultAt m_isWhole m_newMany m_newSigns m_newRow m_long0 m_row m_far m_ways m_queue m_queueEnd m_endMany m_endSoon m_won m_seedNow m_isKept m_keptBrook m_keptMoved m_keptRow m_keptFrog m_keptFrom m_keptTo m_h) (some (.int res)) (wM E a b m_stones m_any m_backward m_ring m_two m_brooks m_readRow m_rowNow m_frogOn m_frogs m_kindOf m_moved m_movedFrom m_movedTo m_pageLength m_page m_faultAt m_isWhole m_newMany m_newSigns m_newRow m_long0 m_row m_far m_ways m_queue m_queueEnd m_endMany m_endSoon m_won m_seedNow m_isKept m_keptBrook m_keptMoved m_keptRow m_keptFrog m_keptFrom m_keptTo m_h) := by
  refine Ct.of (by decide) (Nat.le_of_ble_eq_true rfl) (fun Y hB hR => ?_)
  have hB : Cb E cX8_howMany RX8 rX8_howMany 2 Y := hB
  show J l E rX8_howMany Y (wM E a b m_stones m_any m_backward m_ring m_two m_brooks m_readRow m_rowNow m_frogOn m_frogs m_kindOf m_moved m_movedFrom m_movedTo m_pageLength m_page m_faultAt m_isWhole m_newMany m_newSigns m_newRow m_long0 m_row m_far m_ways m_queue m_queueEnd m_endMany m_endSoon m_won m_seedNow m_isKept m_keptBrook m_keptMoved m_keptRow m_keptFrog m_keptFrom m_keptTo m_h) 0 [(0, .ref (a b)), (1, .int p0)] []
  unfold f_X8_howMany at hf
  refine J_iload_n hB dX8_howMany_0 rfl 1 rfl ?_
  refine by_c (p0 = 0) (fun c_1 => ?_) (fun c_1 => ?_)
  · have hf := it_t c_1 hf
    refine J_tswIn (tgt := 56) hB 0 c_1 (by decide) dX8_howMany_1 (by decide) rfl rfl ?_
    refine J_aload_n hB dX8_howMany_56 rfl 0 rfl ?_
    refine J_get (v := .int m_stones) hB inX8 0 rfl rfl 0 (Nat.le_of_ble_eq_true rfl) kf_X8_93 rfl dX8_howMany_57 ?_
    obtain rfl := Option.some.inj hf
    exact J_iret hB hR dX8_howMany_60
  have hf := it_f c_1 hf
  refine by_c (p0 = 1) (fun c_2 => ?_) (fun c_2 => ?_)
  · have hf := it_t c_2 hf
    refine J_tswIn (tgt := 61) hB 1 c_2 (by decide) dX8_howMany_1 (by decide) rfl rfl ?_
    refine J_aload_n hB dX8_howMany_61 rfl 0 rfl ?_
    refine J_get (v := .int m_frogs) hB inX8 0 rfl rfl 9 (Nat.le_of_ble_eq_true rfl) kf_X8_108 rfl dX8_howMany_62 ?_
    obtain rfl := Option.some.inj hf
    exact J_iret hB hR dX8_howMany_65
  have hf := it_f c_2 hf
  refine by_c (p0 = 2) (fun c_3 => ?_) (fun c_3 => ?_)
  · have hf := it_t c_3 hf
    refine J_tswIn (tgt := 66) hB 2 c_3 (by decide) dX8_howMany_1 (by decide) rfl rfl ?_
    refine J_aload_n hB dX8_howMany_66 rfl 0 rfl ?_
    refine J_get (v := .int m_moved) hB inX8 0 rfl rfl 11 (Nat.le_of_ble_eq_true rfl) kf_X8_111 rfl dX8_howMany_67 ?_
    obtain rfl := Option.some.inj hf
    exact J_iret hB hR dX8_howMany_70
  have hf := it_f c_3 hf
  refine by_c (p0 = 3) (fun c_4 => ?_) (fun c_4 => ?_)
  · have hf := it_t c_4 hf
    refine J_tswIn (tgt := 71) hB 3 c_4 (by decide) dX8_howMany_1 (by decide) rfl rfl ?_
    refine J_aload_n hB dX8_howMany_71 rfl 0 rfl ?_
    refine J_get (v := .int m_stones) hB inX8 0 rfl rfl 0 (Nat.le_of_ble_eq_true rfl) kf_X8_93 rfl dX8_howMany_72 ?_
    refine J_aload_n hB dX8_howMany_75 rfl 0 rfl ?_
    refine J_get (v := .int m_frogs) hB inX8 0 rfl rfl 9 (Nat.le_of_ble_eq_true rfl) kf_X8_108 rfl dX8_howMany_76 ?_
    refine J_isub hB dX8_howMany_79 ?_
    obtain rfl := Option.some.inj hf
    exact J_iret hB hR dX8_howMany_80
  have hf := it_f c_4 hf
  refine by_c (p0 = 4) (fun c_5 => ?_) (fun c_5 => ?_)
  · have hf := it_t c_5 hf
    refine J_tswIn (tgt := 81) hB 4 c_5 (by decide) dX8_howMany_1 (by decide) rfl rfl ?_
    refine J_aload_n hB dX8_howMany_81 rfl 0 rfl ?_
    refine J_get (v := .int m_any) hB inX8 0 rfl rfl 1 (Nat.le_of_ble_eq_true rfl) kf_X8_96 rfl dX8_howMany_82 ?_
    obtain ⟨r_6, h_7, hf⟩ := cl1_e hf
    refine J_callS (As := [.int m_any]) (rest := []) (n := 1) (ws' := wM E a b m_stones m_any m_backward m_ring m_two m_brooks m_readRow m_rowNow m_frogOn m_frogs m_kindOf m_moved m_movedFrom m_movedTo m_pageLength m_page m_faultAt m_isWhole m_newMany m_newSigns m_newRow m_long0 m_row m_far m_ways m_queue m_queueEnd m_endMany m_endSoon m_won m_seedNow m_isKept m_keptBrook m_keptMoved m_keptRow m_keptFrog m_keptFrom m_keptTo m_h) hB (c_X8_one l E a h_7) mi_X8_one ks_X8_one km_X8_280 ⟨rfl, rfl, Nat.le_of_ble_eq_true rfl, Nat.le_of_ble_eq_true rfl⟩ Lies.none rfl rfl (Nat.le_of_ble_eq_true rfl) dX8_howMany_85 ?_
    show J l E rX8_howMany Y (wM E a b m_stones m_any m_backward m_ring m_two m_brooks m_readRow m_rowNow m_frogOn m_frogs m_kindOf m_moved m_movedFrom m_movedTo m_pageLength m_page m_faultAt m_isWhole m_newMany m_newSigns m_newRow m_long0 m_row m_far m_ways m_queue m_queueEnd m_endMany m_endSoon m_won m_seedNow m_isKept m_keptBrook m_keptMoved m_keptRow m_keptFrog m_keptFrom m_keptTo m_h) 88 [(0, .ref (a b)), (1, .int p0)] [.int r_6]
    obtain rfl := Option.some.inj hf
    exact J_iret hB hR dX8_howMany_88
  have hf := it_f c_5 hf
  refine by_c (p0 = 5) (fun c_8 => ?_) (fun c_8 => ?_)
  · have hf := it_t c_8 hf
    refine J_tswIn (tgt := 89) hB 5 c_8 (by decide) dX8_howMany_1 (by decide) rfl rfl ?_
    refine J_aload_n hB dX8_howMany_89 rfl 0 rfl ?_
    refine J_get (v := .int m_backward) hB inX8 0 rfl rfl 2 (Nat.le_of_ble_eq_true rfl) kf_X8_99 rfl dX8_howMany_90 ?_
    obtain ⟨r_9, h_10, hf⟩ := cl1_e hf
    refine J_callS (As := [.int m_backward]) (rest := []) (n := 1) (ws' := wM E a b m_stones m_any m_backward m_ring m_two m_brooks m_readRow m_rowNow m_frogOn m_frogs m_kindOf m_moved m_movedFrom m_movedTo m_pageLength m_page m_faultAt m_isWhole m_newMany m_newSigns m_newRow m_long0 m_row m_far m_ways m_queue m_queueEnd m_endMany m_endSoon m_won m_seedNow m_isKept m_keptBrook m_keptMoved m_keptRow m_keptFrog m_keptFrom m_keptTo m_h) hB (c_X8_one l E a h_10) mi_X8_one ks_X8_one km_X8_280 ⟨rfl, rfl, Nat.le_of_ble_eq_true rfl, Nat.le_of_ble_eq_true rfl⟩ Lies.none rfl rfl (Nat.le_of_ble_eq_true rfl) dX8_howMany_93 ?_
    show J l E rX8_howMany Y (wM E a b m_stones m_any m_backward m_ring m_two m_brooks m_readRow m_rowNow m_frogOn m_frogs m_kindOf m_moved m_movedFrom m_movedTo m_pageLength m_page m_faultAt m_isWhole m_newMany m_newSigns m_newRow m_long0 m_row m_far m_ways m_queue m_queueEnd m_endMany m_endSoon m_won m_seedNow m_isKept m_keptBrook m_keptMoved m_keptRow m_keptFrog m_keptFrom m_keptTo m_h) 96 [(0, .ref (a b)), (1, .int p0)] [.int r_9]
    obtain rfl := Option.some.inj hf
    exact J_iret hB hR dX8_howMany_96
  have hf := it_f c_8 hf
  refine by_c (p0 = 6) (fun c_11 => ?_) (fun c_11 => ?_)
  · have hf := it_t c_11 hf
    refine J_tswIn (tgt := 97) hB 6 c_11 (by decide) dX8_howMany_1 (by decide) rfl rfl ?_
    refine J_aload_n hB dX8_howMany_97 rfl 0 rfl ?_
    refine J_get (v := .int m_ring) hB inX8 0 rfl rfl 3 (Nat.le_of_ble_eq_true rfl) kf_X8_102 rfl dX8_howMany_98 ?_
    obtain ⟨r_12, h_13, hf⟩ := cl1_e hf
    refine J_callS (As := [.int m_ring]) (rest := []) (n := 1) (ws' := wM E a b m_stones m_any m_backward m_ring m_two m_brooks m_readRow m_rowNow m_frogOn m_frogs m_kindOf m_moved m_movedFrom m_movedTo m_pageLength m_page m_faultAt m_isWhole m_newMany m_newSigns m_newRow m_long0 m_row m_far m_ways m_queue m_queueEnd m_endMany m_endSoon m_won m_seedNow m_isKept m_keptBrook m_keptMoved m_keptRow m_keptFrog m_keptFrom m_keptTo m_h) hB (c_X8_one l E a h_13) mi_X8_one ks_X8_one km_X8_280 ⟨rfl, rfl, Nat.le_of_ble_eq_true rfl, Nat.le_of_ble_eq_true rfl⟩ Lies.none rfl rfl (Nat.le_of_ble_eq_true rfl) dX8_howMany_101 ?_
    show J l E rX8_howMany Y (wM E a b m_stones m_any m_backward m_ring m_two m_brooks m_readRow m_rowNow m_frogOn m_frogs m_kindOf m_moved m_movedFrom m_movedTo m_pageLength m_page m_faultAt m_isWhole m_newMany m_newSigns m_newRow m_long0 m_row m_far m_ways m_queue m_queueEnd m_endMany m_endSoon m_won m_seedNow m_isKept m_keptBrook m_keptMoved m_keptRow m_keptFrog m_keptFrom m_keptTo m_h) 104 [(0, .ref (a b)), (1, .int p0)] [.int r_12]
    obtain rfl := Option.some.inj hf
    exact J_iret hB hR dX8_howMany_104
  have hf := it_f c_11 hf
  refine by_c (p0 = 7) (fun c_14 => ?_) (fun c_14 => ?_)
  · have hf := it_t c_14 hf
    refine J_tswIn (tgt := 105) hB 7 c_14 (by decide) dX8_howMany_1 (by decide) rfl rfl ?_
    refine J_aload_n hB dX8_howMany_105 rfl 0 rfl ?_
    refine J_get (v := .int m_two) hB inX8 0 rfl rfl 4 (Nat.le_of_ble_eq_true rfl) kf_X8_105 rfl dX8_howMany_106 ?_
    obtain ⟨r_15, h_16, hf⟩ := cl1_e hf
    refine J_callS (As := [.int m_two]) (rest := []) (n := 1) (ws' := wM E a b m_stones m_any m_backward m_ring m_two m_brooks m_readRow m_rowNow m_frogOn m_frogs m_kindOf m_moved m_movedFrom m_movedTo m_pageLength m_page m_faultAt m_isWhole m_newMany m_newSigns m_newRow m_long0 m_row m_far m_ways m_queue m_queueEnd m_endMany m_endSoon m_won m_seedNow m_isKept m_keptBrook m_keptMoved m_keptRow m_keptFrog m_keptFrom m_keptTo m_h) hB (c_X8_one l E a h_16) mi_X8_one ks_X8_one km_X8_280 ⟨rfl, rfl, Nat.le_of_ble_eq_true rfl, Nat.le_of_ble_eq_true rfl⟩ Lies.none rfl rfl (Nat.le_of_ble_eq_true rfl) dX8_howMany_109 ?_
    show J l E rX8_howMany Y (wM E a b m_stones m_any m_backward m_ring m_two m_brooks m_readRow m_rowNow m_frogOn m_frogs m_kindOf m_moved m_movedFrom m_movedTo m_pageLength m_page m_faultAt m_isWhole m_newMany m_newSigns m_newRow m_long0 m_row m_far m_ways m_queue m_queueEnd m_endMany m_endSoon m_won m_seedNow m_isKept m_keptBrook m_keptMoved m_keptRow m_keptFrog m_keptFrom m_keptTo m_h) 112 [(0, .ref (a b)), (1, .int p0)] [.int r_15]
    obtain rfl := Option.some.inj hf
    exact J_iret hB hR dX8_howMany_112
  have hf := it_f c_14 hf
  refine by_c (p0 = 8) (fun c_17 => ?_) (fun c_17 => ?_)
  · have hf := it_t c_17 hf
    refine J_tswIn (tgt := 113) hB 8 c_17 (by decide) dX8_howMany_1 (by decide) rfl rfl ?_
    refine J_aload_n hB dX8_howMany_113 rfl 0 rfl ?_
    refine J_get (v := .int m_pageLength) hB inX8 0 rfl rfl 14 (Nat.le_of_ble_eq_true rfl) kf_X8_66 rfl dX8_howMany_114 ?_
    obtain rfl := Option.some.inj hf
    exact J_iret hB hR dX8_howMany_117
  have hf := it_f c_17 hf
  refine by_c (p0 = 9) (fun c_18 => ?_) (fun c_18 => ?_)
  · have hf := it_t c_18 hf
    refine J_tswIn (tgt := 118) hB 9 c_18 (by decide) dX8_howMany_1 (by decide) rfl rfl ?_
    refine J_aload_n hB dX8_howMany_118 rfl 0 rfl ?_
    refine J_get (v := .int m_brooks) hB inX8 0 rfl rfl 5 (Nat.le_of_ble_eq_true rfl) kf_X8_114 rfl dX8_howMany_119 ?_
    obtain rfl := Option.some.inj hf
    exact J_iret hB hR dX8_howMany_122
  have hf := it_f c_18 hf
  refine J_tswOut (tgt := 123) hB (tsw_out (n := 10) (lt_s (lt_s (lt_s (lt_s (lt_s (lt_s (lt_s (lt_s (lt_s (lt_s lt_0 c_1) c_2) c_3) c_4) c_5) c_8) c_11) c_14) c_17) c_18) (by decide)) dX8_howMany_1 rfl ?_
  refine J_bipush (v := (-102)) hB dX8_howMany_123 rfl ?_
  obtain rfl := Option.some.inj hf
  exact J_iret hB hR dX8_howMany_125
def f_X8_count (m_stones : Int32) (m_any : Int32) (m_backward : Int32) (m_ring : Int32) (m_two : Int32) (m_brooks : Int32) (m_frogs : Int32) (m_moved : Int32) (m_pageLength : Int32) (p0 : Int32) : Option (Int32) :=
cl1 (f_X8_howMany m_stones m_any m_backward m_ring m_two m_brooks m_frogs m_moved m_pageLength p0) fun r_1 =>
some r_1
abbrev rX8_count : Room := { frames := 2, cells := 0, slots := 0, locals := 41 }
set_option maxRecDepth 100000 in
set_option maxHeartbeats 4000000 in
theorem c_X8_count (l : Launch) (E : En) (a : Nat → Nat) (b : Nat) (m_stones : Int32) (m_any : Int32) (m_backward : Int32) (m_ring : Int32) (m_two : Int32) (m_brooks : Int32) (m_readRow : Nat → Int32) (m_rowNow : Nat → Int32) (m_frogOn : Nat → Int32) (m_frogs : Int32) (m_kindOf : Nat → Int32) (m_moved : Int32) (m_movedFrom : Nat → Int32) (m_movedTo : Nat → Int32) (m_pageLength : Int32) (m_page : Nat → Int32) (m_faultAt : Int32) (m_isWhole : Int32) (m_newMany : Int32) (m_newSigns : Int32) (m_newRow : Nat → Int32) (m_long0 : Int32) (m_row : Nat → Int32) (m_far : Nat → Int32) (m_ways : Nat → Int64) (m_queue : Nat → Int32) (m_queueEnd : Int32) (m_endMany : Int32) (m_endSoon : Int32) (m_won : Nat → Int32) (m_seedNow : Int64) (m_isKept : Int32) (m_keptBrook : Int32) (m_keptMoved : Int32) (m_keptRow : Nat → Int32) (m_keptFrog : Nat → Int32) (m_keptFrom : Nat → Int32) (m_keptTo : Nat → Int32) (m_h : Int64) {p0 : Int32} {res : Int32} (hf : f_X8_count m_stones m_any m_backward m_ring m_two m_brooks m_frogs m_moved m_pageLength p0 = some res) : Ct l yX8_count (.code yX8_count cX8_count 2 (some .int)) rX8_count E [.ref (a b), .int p0] (wM E a b m_stones m_any m_backward m_ring m_two m_brooks m_readRow m_rowNow m_frogOn m_frogs m_kindOf m_moved m_movedFrom m_movedTo m_pageLength m_page m_faultAt m_isWhole m_newMany m_newSigns m_newRow m_long0 m_row m_far m_ways m_queue m_queueEnd m_endMany m_endSoon m_won m_seedNow m_isKept m_keptBrook m_keptMoved m_keptRow m_keptFrog m_keptFrom m_keptTo m_h) (some (.int res)) (wM E a b m_stones m_any m_backward m_ring m_two m_brooks m_readRow m_rowNow m_frogOn m_frogs m_kindOf m_moved m_movedFrom m_movedTo m_pageLength m_page m_faultAt m_isWhole m_newMany m_newSigns m_newRow m_long0 m_row m_far m_ways m_queue m_queueEnd m_endMany m_endSoon m_won m_seedNow m_isKept m_keptBrook m_keptMoved m_keptRow m_keptFrog m_keptFrom m_keptTo m_h) := by
  refine Ct.of (by decide) (Nat.le_of_ble_eq_true rfl) (fun Y hB hR => ?_)
  have hB : Cb E cX8_count RX8 rX8_count 2 Y := hB
  show J l E rX8_count Y (wM E a b m_stones m_any m_backward m_ring m_two m_brooks m_readRow m_rowNow m_frogOn m_frogs m_kindOf m_moved m_movedFrom m_movedTo m_pageLength m_page m_faultAt m_isWhole m_newMany m_newSigns m_newRow m_long0 m_row m_far m_ways m_queue m_queueEnd m_endMany m_endSoon m_won m_seedNow m_isKept m_keptBrook m_keptMoved m_keptRow m_keptFrog m_keptFrom m_keptTo m_h) 0 [(0, .ref (a b)), (1, .int p0)] []
  unfold f_X8_count at hf
  refine J_aload_n hB dX8_count_0 rfl 0 rfl ?_
  refine J_iload_n hB dX8_count_1 rfl 1 rfl ?_
  obtain ⟨r_1, h_2, hf⟩ := cl1_e hf
  refine J_callV (As := [.int p0]) (rest := []) (n := 1) (ws' := wM E a b m_stones m_any m_backward m_ring m_two m_brooks m_readRow m_rowNow m_frogOn m_frogs m_kindOf m_moved m_movedFrom m_movedTo m_pageLength m_page m_faultAt m_isWhole m_newMany m_newSigns m_newRow m_long0 m_row m_far m_ways m_queue m_queueEnd m_endMany m_endSoon m_won m_seedNow m_isKept m_keptBrook m_keptMoved m_keptRow m_keptFrog m_keptFrom m_keptTo m_h) hB (c_X8_howMany l E a b m_stones m_any m_backward m_ring m_two m_brooks m_readRow m_rowNow m_frogOn m_frogs m_kindOf m_moved m_movedFrom m_movedTo m_pageLength m_page m_faultAt m_isWhole m_newMany m_newSigns m_newRow m_long0 m_row m_far m_ways m_queue m_queueEnd m_endMany m_endSoon m_won m_seedNow m_isKept m_keptBrook m_keptMoved m_keptRow m_keptFrog m_keptFrom m_keptTo m_h h_2) mi_X8_howMany ⟨ki_X8_howMany, kv_X8_howMany⟩ km_X8_284 ⟨rfl, rfl, Nat.le_of_ble_eq_true rfl, Nat.le_of_ble_eq_true rfl⟩ Lies.same 0 rfl rfl rfl rfl (Nat.le_of_ble_eq_true rfl) dX8_count_2 ?_
  show J l E rX8_count Y (wM E a b m_stones m_any m_backward m_ring m_two m_brooks m_readRow m_rowNow m_frogOn m_frogs m_kindOf m_moved m_movedFrom m_movedTo m_pageLength m_page m_faultAt m_isWhole m_newMany m_newSigns m_newRow m_long0 m_row m_far m_ways m_queue m_queueEnd m_endMany m_endSoon m_won m_seedNow m_isKept m_keptBrook m_keptMoved m_keptRow m_keptFrog m_keptFrom m_keptTo m_h) 5 [(0, .ref (a b)), (1, .int p0)] [.int r_1]
  obtain rfl := Option.some.inj hf
  exact J_iret hB hR dX8_count_5
def f_X8_mix (m_h : Int64) (p0 : Int64) : Option (Int64) :=
nmv (α := Int64) (((31 : Int64) * m_h) + p0) fun m_h_1 =>
some m_h_1
abbrev rX8_mix : Room := { frames := 0, cells := 0, slots := 0, locals := 0 }
set_option maxRecDepth 100000 in
set_option maxHeartbeats 4000000 in
theorem c_X8_mix (l : Launch) (E : En) (a : Nat → Nat) (b : Nat) (m_stones : Int32) (m_any : Int32) (m_backward : Int32) (m_ring : Int32) (m_two : Int32) (m_brooks : Int32) (m_readRow : Nat → Int32) (m_rowNow : Nat → Int32) (m_frogOn : Nat → Int32) (m_frogs : Int32) (m_kindOf : Nat → Int32) (m_moved : Int32) (m_movedFrom : Nat → Int32) (m_movedTo : Nat → Int32) (m_pageLength : Int32) (m_page : Nat → Int32) (m_faultAt : Int32) (m_isWhole : Int32) (m_newMany : Int32) (m_newSigns : Int32) (m_newRow : Nat → Int32) (m_long0 : Int32) (m_row : Nat → Int32) (m_far : Nat → Int32) (m_ways : Nat → Int64) (m_queue : Nat → Int32) (m_queueEnd : Int32) (m_endMany : Int32) (m_endSoon : Int32) (m_won : Nat → Int32) (m_seedNow : Int64) (m_isKept : Int32) (m_keptBrook : Int32) (m_keptMoved : Int32) (m_keptRow : Nat → Int32) (m_keptFrog : Nat → Int32) (m_keptFrom : Nat → Int32) (m_keptTo : Nat → Int32) (m_h : Int64) {p0 : Int64} {res : Int64} (hf : f_X8_mix m_h p0 = some res) : Ct l yX8_mix (.code yX8_mix cX8_mix 3 none) rX8_mix E [.ref (a b), .long p0] (wM E a b m_stones m_any m_backward m_ring m_two m_brooks m_readRow m_rowNow m_frogOn m_frogs m_kindOf m_moved m_movedFrom m_movedTo m_pageLength m_page m_faultAt m_isWhole m_newMany m_newSigns m_newRow m_long0 m_row m_far m_ways m_queue m_queueEnd m_endMany m_endSoon m_won m_seedNow m_isKept m_keptBrook m_keptMoved m_keptRow m_keptFrog m_keptFrom m_keptTo m_h) none (wM E a b m_stones m_any m_backward m_ring m_two m_brooks m_readRow m_rowNow m_frogOn m_frogs m_kindOf m_moved m_movedFrom m_movedTo m_pageLength m_page m_faultAt m_isWhole m_newMany m_newSigns m_newRow m_long0 m_row m_far m_ways m_queue m_queueEnd m_endMany m_endSoon m_won m_seedNow m_isKept m_keptBrook m_keptMoved m_keptRow m_keptFrog m_keptFrom m_keptTo res) := by
  refine Ct.of (by decide) (Nat.le_of_ble_eq_true rfl) (fun Y hB hR => ?_)
  have hB : Cb E cX8_mix RX8 rX8_mix 3 Y := hB
  show J l E rX8_mix Y (wM E a b m_stones m_any m_backward m_ring m_two m_brooks m_readRow m_rowNow m_frogOn m_frogs m_kindOf m_moved m_movedFrom m_movedTo m_pageLength m_page m_faultAt m_isWhole m_newMany m_newSigns m_newRow m_long0 m_row m_far m_ways m_queue m_queueEnd m_endMany m_endSoon m_won m_seedNow m_isKept m_keptBrook m_keptMoved m_keptRow m_keptFrog m_keptFrom m_keptTo m_h) 0 [(0, .ref (a b)), (1, .long p0)] []
  unfold f_X8_mix at hf
  refine J_aload_n hB dX8_mix_0 rfl 0 rfl ?_
  refine J_ldc2 hB dX8_mix_1 kk_X8_287 ?_
  refine J_aload_n hB dX8_mix_4 rfl 0 rfl ?_
  refine J_get (v := .long m_h) hB inX8 0 rfl rfl 38 (Nat.le_of_ble_eq_true rfl) kf_X8_289 rfl dX8_mix_5 ?_
  refine J_lmul hB dX8_mix_8 ?_
  refine J_lload_n hB dX8_mix_9 rfl 1 rfl ?_
  refine J_ladd hB dX8_mix_10 ?_
  obtain ⟨m_h_1, em_h_1, hf⟩ := nmv_e hf
  rw [← em_h_1]
  refine J_put (ws' := wM E a b m_stones m_any m_backward m_ring m_two m_brooks m_readRow m_rowNow m_frogOn m_frogs m_kindOf m_moved m_movedFrom m_movedTo m_pageLength m_page m_faultAt m_isWhole m_newMany m_newSigns m_newRow m_long0 m_row m_far m_ways m_queue m_queueEnd m_endMany m_endSoon m_won m_seedNow m_isKept m_keptBrook m_keptMoved m_keptRow m_keptFrog m_keptFrom m_keptTo m_h_1) (ty := .long) (v := .long m_h_1) hB inX8 tyX8 tyX8_ok nmX8 0 rfl rfl 38 (Nat.le_of_ble_eq_true rfl) kf_X8_289 rfl rfl rfl rfl (Nat.le_of_ble_eq_true rfl) dX8_mix_11 rfl ?_
  obtain rfl := Option.some.inj hf
  exact J_vret hB hR dX8_mix_14
def f_X8_mixBrook (m_stones : Int32) (m_any : Int32) (m_backward : Int32) (m_ring : Int32) (m_two : Int32) (m_readRow : Nat → Int32) (m_rowNow : Nat → Int32) (m_moved : Int32) (m_movedFrom : Nat → Int32) (m_movedTo : Nat → Int32) (m_long0 : Int32) (m_row : Nat → Int32) (m_far : Nat → Int32) (m_ways : Nat → Int64) (m_queue : Nat → Int32) (m_queueEnd : Int32) (m_endMany : Int32) (m_endSoon : Int32) (m_won : Nat → Int32) (m_h : Int64) : Option (Int32 × (Nat → Int32) × (Nat → Int32) × (Nat → Int64) × (Nat → Int32) × Int32 × Int32 × Int32 × (Nat → Int32) × Int64) :=
lp8_7 (fun (x1_1 : Int32) (m_long0_2 : Int32) (m_row_3 : Nat → Int32) (m_far_4 : Nat → Int32) (m_ways_5 : Nat → Int64) (m_queue_6 : Nat → Int32) (m_queueEnd_7 : Int32) (m_h_8 : Int64) nx2 ex2 =>
if 3 ≤ x1_1 then (
ex2 m_long0_2 m_row_3 m_far_4 m_ways_5 m_queue_6 m_queueEnd_7 m_h_8) else (
cl7 (f_X8_fewestNow m_stones m_any m_backward m_ring m_two m_readRow m_rowNow m_long0_2 m_row_3 m_far_4 m_ways_5 m_queue_6 m_queueEnd_7 x1_1) fun r_17 m_long0_18 m_row_19 m_far_20 m_ways_21 m_queue_22 m_queueEnd_23 =>
cl1 (f_X8_mix m_h_8 (Int32.toInt64 r_17)) fun m_h_25 =>
nmv (α := Int32) (x1_1 + 1) fun x1_27 =>
nx2 x1_27 m_long0_18 m_row_19 m_far_20 m_ways_21 m_queue_22 m_queueEnd_23 m_h_25)) (fun (m_long0_9 : Int32) (m_row_10 : Nat → Int32) (m_far_11 : Nat → Int32) (m_ways_12 : Nat → Int64) (m_queue_13 : Nat → Int32) (m_queueEnd_14 : Int32) (m_h_15 : Int64) =>
cl7 (f_X8_waysNow m_stones m_any m_backward m_ring m_two m_readRow m_rowNow m_long0_9 m_row_10 m_far_11 m_ways_12 m_queue_13 m_queueEnd_14) fun r_28 m_long0_29 m_row_30 m_far_31 m_ways_32 m_queue_33 m_queueEnd_34 =>
cl1 (f_X8_mix m_h_15 (Int32.toInt64 r_28)) fun m_h_36 =>
cl7 (f_X8_wrongNow m_stones m_any m_backward m_ring m_two m_readRow m_moved m_movedFrom m_movedTo m_long0_29 m_row_30 m_far_31 m_ways_32 m_queue_33 m_queueEnd_34) fun r_38 m_long0_39 m_row_40 m_far_41 m_ways_42 m_queue_43 m_queueEnd_44 =>
cl1 (f_X8_mix m_h_36 (Int32.toInt64 r_38)) fun m_h_46 =>
cl8 (f_X8_layEnds m_stones m_any m_backward m_ring m_two m_rowNow m_long0_39 m_row_40 m_far_41 m_ways_42 m_queue_43 m_queueEnd_44 m_endMany m_endSoon) fun m_long0_48 m_row_49 m_far_50 m_ways_51 m_queue_52 m_queueEnd_53 m_endMany_54 m_endSoon_55 =>
cl1 (f_X8_mix m_h_46 (Int32.toInt64 m_endMany_54)) fun m_h_57 =>
cl1 (f_X8_mix m_h_57 (Int32.toInt64 m_endSoon_55)) fun m_h_59 =>
cl1 (f_X8_isGame m_stones m_backward m_ring) fun r_61 =>
if r_61 = 0 then (
some (m_long0_48, m_row_49, m_far_50, m_ways_51, m_queue_52, m_queueEnd_53, m_endMany_54, m_endSoon_55, m_won, m_h_59)) else (
cl8 (f_X8_winsNow m_stones m_any m_backward m_ring m_two m_rowNow m_long0_48 m_row_49 m_far_50 m_ways_51 m_queue_52 m_queueEnd_53 m_won 0) fun r_64 m_long0_65 m_row_66 m_far_67 m_ways_68 m_queue_69 m_queueEnd_70 m_won_71 =>
cl1 (f_X8_mix m_h_59 (Int32.toInt64 r_64)) fun m_h_73 =>
cl8 (f_X8_winsNow m_stones m_any m_backward m_ring m_two m_rowNow m_long0_65 m_row_66 m_far_67 m_ways_68 m_queue_69 m_queueEnd_70 m_won_71 1) fun r_75 m_long0_76 m_row_77 m_far_78 m_ways_79 m_queue_80 m_queueEnd_81 m_won_82 =>
cl1 (f_X8_mix m_h_73 (Int32.toInt64 r_75)) fun m_h_84 =>
some (m_long0_76, m_row_77, m_far_78, m_ways_79, m_queue_80, m_queueEnd_81, m_endMany_54, m_endSoon_55, m_won_82, m_h_84))) fuel 0 m_long0 m_row m_far m_ways m_queue m_queueEnd m_h
abbrev rX8_mixBrook : Room := { frames := 7, cells := 0, slots := 0, locals := 167 }
set_option maxRecDepth 100000 in
set_option maxHeartbeats 4000000 in
theorem c_X8_mixBrook (l : Launch) (E : En) (a : Nat → Nat) (b : Nat) (m_stones : Int32) (m_any : Int32) (m_backward : Int32) (m_ring : Int32) (m_two : Int32) (m_brooks : Int32) (m_readRow : Nat → Int32) (m_rowNow : Nat → Int32) (m_frogOn : Nat → Int32) (m_frogs : Int32) (m_kindOf : Nat → Int32) (m_moved : Int32) (m_movedFrom : Nat → Int32) (m_movedTo : Nat → Int32) (m_pageLength : Int32) (m_page : Nat → Int32) (m_faultAt : Int32) (m_isWhole : Int32) (m_newMany : Int32) (m_newSigns : Int32) (m_newRow : Nat → Int32) (m_long0 : Int32) (m_row : Nat → Int32) (m_far : Nat → Int32) (m_ways : Nat → Int64) (m_queue : Nat → Int32) (m_queueEnd : Int32) (m_endMany : Int32) (m_endSoon : Int32) (m_won : Nat → Int32) (m_seedNow : Int64) (m_isKept : Int32) (m_keptBrook : Int32) (m_keptMoved : Int32) (m_keptRow : Nat → Int32) (m_keptFrog : Nat → Int32) (m_keptFrom : Nat → Int32) (m_keptTo : Nat → Int32) (m_h : Int64) {res : Int32 × (Nat → Int32) × (Nat → Int32) × (Nat → Int64) × (Nat → Int32) × Int32 × Int32 × Int32 × (Nat → Int32) × Int64} (hf : f_X8_mixBrook m_stones m_any m_backward m_ring m_two m_readRow m_rowNow m_moved m_movedFrom m_movedTo m_long0 m_row m_far m_ways m_queue m_queueEnd m_endMany m_endSoon m_won m_h = some res) : Ct l yX8_mixBrook (.code yX8_mixBrook cX8_mixBrook 2 none) rX8_mixBrook E [.ref (a b)] (wM E a b m_stones m_any m_backward m_ring m_two m_brooks m_readRow m_rowNow m_frogOn m_frogs m_kindOf m_moved m_movedFrom m_movedTo m_pageLength m_page m_faultAt m_isWhole m_newMany m_newSigns m_newRow m_long0 m_row m_far m_ways m_queue m_queueEnd m_endMany m_endSoon m_won m_seedNow m_isKept m_keptBrook m_keptMoved m_keptRow m_keptFrog m_keptFrom m_keptTo m_h) none (wM E a b m_stones m_any m_backward m_ring m_two m_brooks m_readRow m_rowNow m_frogOn m_frogs m_kindOf m_moved m_movedFrom m_movedTo m_pageLength m_page m_faultAt m_isWhole m_newMany m_newSigns m_newRow res.1 res.2.1 res.2.2.1 res.2.2.2.1 res.2.2.2.2.1 res.2.2.2.2.2.1 res.2.2.2.2.2.2.1 res.2.2.2.2.2.2.2.1 res.2.2.2.2.2.2.2.2.1 m_seedNow m_isKept m_keptBrook m_keptMoved m_keptRow m_keptFrog m_keptFrom m_keptTo res.2.2.2.2.2.2.2.2.2) := by
  refine Ct.of (by decide) (Nat.le_of_ble_eq_true rfl) (fun Y hB hR => ?_)
  have hB : Cb E cX8_mixBrook RX8 rX8_mixBrook 2 Y := hB
  show J l E rX8_mixBrook Y (wM E a b m_stones m_any m_backward m_ring m_two m_brooks m_readRow m_rowNow m_frogOn m_frogs m_kindOf m_moved m_movedFrom m_movedTo m_pageLength m_page m_faultAt m_isWhole m_newMany m_newSigns m_newRow m_long0 m_row m_far m_ways m_queue m_queueEnd m_endMany m_endSoon m_won m_seedNow m_isKept m_keptBrook m_keptMoved m_keptRow m_keptFrog m_keptFrom m_keptTo m_h) 0 [(0, .ref (a b))] []
  unfold f_X8_mixBrook at hf
  refine J_iconst (v := 0) hB dX8_mixBrook_0 rfl ?_
  refine J_istore_n (lv' := [(1, .int 0), (0, .ref (a b))]) hB rfl dX8_mixBrook_1 rfl (Nat.le_of_ble_eq_true rfl) rfl ?_
  refine J_lv [1, 0] rfl ?_
  refine lp8_7_J (P := fun x1_1 m_long0_2 m_row_3 m_far_4 m_ways_5 m_queue_6 m_queueEnd_7 m_h_8 => J l E rX8_mixBrook Y (wM E a b m_stones m_any m_backward m_ring m_two m_brooks m_readRow m_rowNow m_frogOn m_frogs m_kindOf m_moved m_movedFrom m_movedTo m_pageLength m_page m_faultAt m_isWhole m_newMany m_newSigns m_newRow m_long0_2 m_row_3 m_far_4 m_ways_5 m_queue_6 m_queueEnd_7 m_endMany m_endSoon m_won m_seedNow m_isKept m_keptBrook m_keptMoved m_keptRow m_keptFrog m_keptFrom m_keptTo m_h_8) 2 [(0, .ref (a b)), (1, .int x1_1)] []) (Q := fun m_long0_9 m_row_10 m_far_11 m_ways_12 m_queue_13 m_queueEnd_14 m_h_15 => J l E rX8_mixBrook Y (wM E a b m_stones m_any m_backward m_ring m_two m_brooks m_readRow m_rowNow m_frogOn m_frogs m_kindOf m_moved m_movedFrom m_movedTo m_pageLength m_page m_faultAt m_isWhole m_newMany m_newSigns m_newRow m_long0_9 m_row_10 m_far_11 m_ways_12 m_queue_13 m_queueEnd_14 m_endMany m_endSoon m_won m_seedNow m_isKept m_keptBrook m_keptMoved m_keptRow m_keptFrog m_keptFrom m_keptTo m_h_15) 23 [(0, .ref (a b))] []) (fun x1_1 m_long0_2 m_row_3 m_far_4 m_ways_5 m_queue_6 m_queueEnd_7 m_h_8 nx2 ex2 hnx2 hex2 hf => ?_) (fun m_long0_9 m_row_10 m_far_11 m_ways_12 m_queue_13 m_queueEnd_14 m_h_15 hf => ?_) hf
  · refine J_iload_n hB dX8_mixBrook_2 rfl 1 rfl ?_
    refine J_iconst (v := 3) hB dX8_mixBrook_3 rfl ?_
    refine J_icmp_ge (tgt := 23) hB dX8_mixBrook_4 rfl (fun c_16 => ?_) (fun c_16 => ?_)
    · have hf := it_t c_16 hf
      exact J_lv [0] rfl (hex2 m_long0_2 m_row_3 m_far_4 m_ways_5 m_queue_6 m_queueEnd_7 m_h_8 hf)
    · have hf := it_f c_16 hf
      refine J_aload_n hB dX8_mixBrook_7 rfl 0 rfl ?_
      refine J_aload_n hB dX8_mixBrook_8 rfl 0 rfl ?_
      refine J_iload_n hB dX8_mixBrook_9 rfl 1 rfl ?_
      obtain ⟨r_17, m_long0_18, m_row_19, m_far_20, m_ways_21, m_queue_22, m_queueEnd_23, h_24, hf⟩ := cl7_e hf
      refine J_callV (As := [.int x1_1]) (rest := [.ref (a b)]) (n := 1) (ws' := wM E a b m_stones m_any m_backward m_ring m_two m_brooks m_readRow m_rowNow m_frogOn m_frogs m_kindOf m_moved m_movedFrom m_movedTo m_pageLength m_page m_faultAt m_isWhole m_newMany m_newSigns m_newRow m_long0_18 m_row_19 m_far_20 m_ways_21 m_queue_22 m_queueEnd_23 m_endMany m_endSoon m_won m_seedNow m_isKept m_keptBrook m_keptMoved m_keptRow m_keptFrog m_keptFrom m_keptTo m_h_8) hB (c_X8_fewestNow l E a b m_stones m_any m_backward m_ring m_two m_brooks m_readRow m_rowNow m_frogOn m_frogs m_kindOf m_moved m_movedFrom m_movedTo m_pageLength m_page m_faultAt m_isWhole m_newMany m_newSigns m_newRow m_long0_2 m_row_3 m_far_4 m_ways_5 m_queue_6 m_queueEnd_7 m_endMany m_endSoon m_won m_seedNow m_isKept m_keptBrook m_keptMoved m_keptRow m_keptFrog m_keptFrom m_keptTo m_h_8 h_24) mi_X8_fewestNow ⟨ki_X8_fewestNow, kv_X8_fewestNow⟩ km_X8_200 ⟨rfl, rfl, Nat.le_of_ble_eq_true rfl, Nat.le_of_ble_eq_true rfl⟩ Lies.same 0 rfl rfl rfl rfl (Nat.le_of_ble_eq_true rfl) dX8_mixBrook_10 ?_
      show J l E rX8_mixBrook Y (wM E a b m_stones m_any m_backward m_ring m_two m_brooks m_readRow m_rowNow m_frogOn m_frogs m_kindOf m_moved m_movedFrom m_movedTo m_pageLength m_page m_faultAt m_isWhole m_newMany m_newSigns m_newRow m_long0_18 m_row_19 m_far_20 m_ways_21 m_queue_22 m_queueEnd_23 m_endMany m_endSoon m_won m_seedNow m_isKept m_keptBrook m_keptMoved m_keptRow m_keptFrog m_keptFrom m_keptTo m_h_8) 13 [(0, .ref (a b)), (1, .int x1_1)] [.int r_17, .ref (a b)]
      refine J_i2l hB dX8_mixBrook_13 ?_
      obtain ⟨m_h_25, h_26, hf⟩ := cl1_e hf
      refine J_callV (As := [.long (Int32.toInt64 r_17)]) (rest := []) (n := 1) (ws' := wM E a b m_stones m_any m_backward m_ring m_two m_brooks m_readRow m_rowNow m_frogOn m_frogs m_kindOf m_moved m_movedFrom m_movedTo m_pageLength m_page m_faultAt m_isWhole m_newMany m_newSigns m_newRow m_long0_18 m_row_19 m_far_20 m_ways_21 m_queue_22 m_queueEnd_23 m_endMany m_endSoon m_won m_seedNow m_isKept m_keptBrook m_keptMoved m_keptRow m_keptFrog m_keptFrom m_keptTo m_h_25) hB (c_X8_mix l E a b m_stones m_any m_backward m_ring m_two m_brooks m_readRow m_rowNow m_frogOn m_frogs m_kindOf m_moved m_movedFrom m_movedTo m_pageLength m_page m_faultAt m_isWhole m_newMany m_newSigns m_newRow m_long0_18 m_row_19 m_far_20 m_ways_21 m_queue_22 m_queueEnd_23 m_endMany m_endSoon m_won m_seedNow m_isKept m_keptBrook m_keptMoved m_keptRow m_keptFrog m_keptFrom m_keptTo m_h_8 h_26) mi_X8_mix ⟨ki_X8_mix, kv_X8_mix⟩ km_X8_292 ⟨rfl, rfl, Nat.le_of_ble_eq_true rfl, Nat.le_of_ble_eq_true rfl⟩ Lies.same 0 rfl rfl rfl rfl (Nat.le_of_ble_eq_true rfl) dX8_mixBrook_14 ?_
      show J l E rX8_mixBrook Y (wM E a b m_stones m_any m_backward m_ring m_two m_brooks m_readRow m_rowNow m_frogOn m_frogs m_kindOf m_moved m_movedFrom m_movedTo m_pageLength m_page m_faultAt m_isWhole m_newMany m_newSigns m_newRow m_long0_18 m_row_19 m_far_20 m_ways_21 m_queue_22 m_queueEnd_23 m_endMany m_endSoon m_won m_seedNow m_isKept m_keptBrook m_keptMoved m_keptRow m_keptFrog m_keptFrom m_keptTo m_h_25) 17 [(0, .ref (a b)), (1, .int x1_1)] []
      obtain ⟨x1_27, ex1_27, hf⟩ := nmv_e hf
      refine J_iinc (lv' := [(1, .int x1_27), (0, .ref (a b))]) hB ex1_27 dX8_mixBrook_17 1 rfl (Nat.le_of_ble_eq_true rfl) rfl ?_
      refine J_goto (tgt := 2) hB dX8_mixBrook_20 rfl ?_
      exact J_lv [1, 0] rfl (hnx2 x1_27 m_long0_18 m_row_19 m_far_20 m_ways_21 m_queue_22 m_queueEnd_23 m_h_25 hf)
  · refine J_aload_n hB dX8_mixBrook_23 rfl 0 rfl ?_
    refine J_aload_n hB dX8_mixBrook_24 rfl 0 rfl ?_
    obtain ⟨r_28, m_long0_29, m_row_30, m_far_31, m_ways_32, m_queue_33, m_queueEnd_34, h_35, hf⟩ := cl7_e hf
    refine J_callV (As := []) (rest := [.ref (a b)]) (n := 0) (ws' := wM E a b m_stones m_any m_backward m_ring m_two m_brooks m_readRow m_rowNow m_frogOn m_frogs m_kindOf m_moved m_movedFrom m_movedTo m_pageLength m_page m_faultAt m_isWhole m_newMany m_newSigns m_newRow m_long0_29 m_row_30 m_far_31 m_ways_32 m_queue_33 m_queueEnd_34 m_endMany m_endSoon m_won m_seedNow m_isKept m_keptBrook m_keptMoved m_keptRow m_keptFrog m_keptFrom m_keptTo m_h_15) hB (c_X8_waysNow l E a b m_stones m_any m_backward m_ring m_two m_brooks m_readRow m_rowNow m_frogOn m_frogs m_kindOf m_moved m_movedFrom m_movedTo m_pageLength m_page m_faultAt m_isWhole m_newMany m_newSigns m_newRow m_long0_9 m_row_10 m_far_11 m_ways_12 m_queue_13 m_queueEnd_14 m_endMany m_endSoon m_won m_seedNow m_isKept m_keptBrook m_keptMoved m_keptRow m_keptFrog m_keptFrom m_keptTo m_h_15 h_35) mi_X8_waysNow ⟨ki_X8_waysNow, kv_X8_waysNow⟩ km_X8_203 ⟨rfl, rfl, Nat.le_of_ble_eq_true rfl, Nat.le_of_ble_eq_true rfl⟩ Lies.same 0 rfl rfl rfl rfl (Nat.le_of_ble_eq_true rfl) dX8_mixBrook_25 ?_
    show J l E rX8_mixBrook Y (wM E a b m_stones m_any m_backward m_ring m_two m_brooks m_readRow m_rowNow m_frogOn m_frogs m_kindOf m_moved m_movedFrom m_movedTo m_pageLength m_page m_faultAt m_isWhole m_newMany m_newSigns m_newRow m_long0_29 m_row_30 m_far_31 m_ways_32 m_queue_33 m_queueEnd_34 m_endMany m_endSoon m_won m_seedNow m_isKept m_keptBrook m_keptMoved m_keptRow m_keptFrog m_keptFrom m_keptTo m_h_15) 28 [(0, .ref (a b))] [.int r_28, .ref (a b)]
    refine J_i2l hB dX8_mixBrook_28 ?_
    obtain ⟨m_h_36, h_37, hf⟩ := cl1_e hf
    refine J_callV (As := [.long (Int32.toInt64 r_28)]) (rest := []) (n := 1) (ws' := wM E a b m_stones m_any m_backward m_ring m_two m_brooks m_readRow m_rowNow m_frogOn m_frogs m_kindOf m_moved m_movedFrom m_movedTo m_pageLength m_page m_faultAt m_isWhole m_newMany m_newSigns m_newRow m_long0_29 m_row_30 m_far_31 m_ways_32 m_queue_33 m_queueEnd_34 m_endMany m_endSoon m_won m_seedNow m_isKept m_keptBrook m_keptMoved m_keptRow m_keptFrog m_keptFrom m_keptTo m_h_36) hB (c_X8_mix l E a b m_stones m_any m_backward m_ring m_two m_brooks m_readRow m_rowNow m_frogOn m_frogs m_kindOf m_moved m_movedFrom m_movedTo m_pageLength m_page m_faultAt m_isWhole m_newMany m_newSigns m_newRow m_long0_29 m_row_30 m_far_31 m_ways_32 m_queue_33 m_queueEnd_34 m_endMany m_endSoon m_won m_seedNow m_isKept m_keptBrook m_keptMoved m_keptRow m_keptFrog m_keptFrom m_keptTo m_h_15 h_37) mi_X8_mix ⟨ki_X8_mix, kv_X8_mix⟩ km_X8_292 ⟨rfl, rfl, Nat.le_of_ble_eq_true rfl, Nat.le_of_ble_eq_true rfl⟩ Lies.same 0 rfl rfl rfl rfl (Nat.le_of_ble_eq_true rfl) dX8_mixBrook_29 ?_
    show J l E rX8_mixBrook Y (wM E a b m_stones m_any m_backward m_ring m_two m_brooks m_readRow m_rowNow m_frogOn m_frogs m_kindOf m_moved m_movedFrom m_movedTo m_pageLength m_page m_faultAt m_isWhole m_newMany m_newSigns m_newRow m_long0_29 m_row_30 m_far_31 m_ways_32 m_queue_33 m_queueEnd_34 m_endMany m_endSoon m_won m_seedNow m_isKept m_keptBrook m_keptMoved m_keptRow m_keptFrog m_keptFrom m_keptTo m_h_36) 32 [(0, .ref (a b))] []
    refine J_aload_n hB dX8_mixBrook_32 rfl 0 rfl ?_
    refine J_aload_n hB dX8_mixBrook_33 rfl 0 rfl ?_
    obtain ⟨r_38, m_long0_39, m_row_40, m_far_41, m_ways_42, m_queue_43, m_queueEnd_44, h_45, hf⟩ := cl7_e hf
    refine J_callV (As := []) (rest := [.ref (a b)]) (n := 0) (ws' := wM E a b m_stones m_any m_backward m_ring m_two m_brooks m_readRow m_rowNow m_frogOn m_frogs m_kindOf m_moved m_movedFrom m_movedTo m_pageLength m_page m_faultAt m_isWhole m_newMany m_newSigns m_newRow m_long0_39 m_row_40 m_far_41 m_ways_42 m_queue_43 m_queueEnd_44 m_endMany m_endSoon m_won m_seedNow m_isKept m_keptBrook m_keptMoved m_keptRow m_keptFrog m_keptFrom m_keptTo m_h_36) hB (c_X8_wrongNow l E a b m_stones m_any m_backward m_ring m_two m_brooks m_readRow m_rowNow m_frogOn m_frogs m_kindOf m_moved m_movedFrom m_movedTo m_pageLength m_page m_faultAt m_isWhole m_newMany m_newSigns m_newRow m_long0_29 m_row_30 m_far_31 m_ways_32 m_queue_33 m_queueEnd_34 m_endMany m_endSoon m_won m_seedNow m_isKept m_keptBrook m_keptMoved m_keptRow m_keptFrog m_keptFrom m_keptTo m_h_36 h_45) mi_X8_wrongNow ⟨ki_X8_wrongNow, kv_X8_wrongNow⟩ km_X8_206 ⟨rfl, rfl, Nat.le_of_ble_eq_true rfl, Nat.le_of_ble_eq_true rfl⟩ Lies.same 0 rfl rfl rfl rfl (Nat.le_of_ble_eq_true rfl) dX8_mixBrook_34 ?_
    show J l E rX8_mixBrook Y (wM E a b m_stones m_any m_backward m_ring m_two m_brooks m_readRow m_rowNow m_frogOn m_frogs m_kindOf m_moved m_movedFrom m_movedTo m_pageLength m_page m_faultAt m_isWhole m_newMany m_newSigns m_newRow m_long0_39 m_row_40 m_far_41 m_ways_42 m_queue_43 m_queueEnd_44 m_endMany m_endSoon m_won m_seedNow m_isKept m_keptBrook m_keptMoved m_keptRow m_keptFrog m_keptFrom m_keptTo m_h_36) 37 [(0, .ref (a b))] [.int r_38, .ref (a b)]
    refine J_i2l hB dX8_mixBrook_37 ?_
    obtain ⟨m_h_46, h_47, hf⟩ := cl1_e hf
    refine J_callV (As := [.long (Int32.toInt64 r_38)]) (rest := []) (n := 1) (ws' := wM E a b m_stones m_any m_backward m_ring m_two m_brooks m_readRow m_rowNow m_frogOn m_frogs m_kindOf m_moved m_movedFrom m_movedTo m_pageLength m_page m_faultAt m_isWhole m_newMany m_newSigns m_newRow m_long0_39 m_row_40 m_far_41 m_ways_42 m_queue_43 m_queueEnd_44 m_endMany m_endSoon m_won m_seedNow m_isKept m_keptBrook m_keptMoved m_keptRow m_keptFrog m_keptFrom m_keptTo m_h_46) hB (c_X8_mix l E a b m_stones m_any m_backward m_ring m_two m_brooks m_readRow m_rowNow m_frogOn m_frogs m_kindOf m_moved m_movedFrom m_movedTo m_pageLength m_page m_faultAt m_isWhole m_newMany m_newSigns m_newRow m_long0_39 m_row_40 m_far_41 m_ways_42 m_queue_43 m_queueEnd_44 m_endMany m_endSoon m_won m_seedNow m_isKept m_keptBrook m_keptMoved m_keptRow m_keptFrog m_keptFrom m_keptTo m_h_36 h_47) mi_X8_mix ⟨ki_X8_mix, kv_X8_mix⟩ km_X8_292 ⟨rfl, rfl, Nat.le_of_ble_eq_true rfl, Nat.le_of_ble_eq_true rfl⟩ Lies.same 0 rfl rfl rfl rfl (Nat.le_of_ble_eq_true rfl) dX8_mixBrook_38 ?_
    show J l E rX8_mixBrook Y (wM E a b m_stones m_any m_backward m_ring m_two m_brooks m_readRow m_rowNow m_frogOn m_frogs m_kindOf m_moved m_movedFrom m_movedTo m_pageLength m_page m_faultAt m_isWhole m_newMany m_newSigns m_newRow m_long0_39 m_row_40 m_far_41 m_ways_42 m_queue_43 m_queueEnd_44 m_endMany m_endSoon m_won m_seedNow m_isKept m_keptBrook m_keptMoved m_keptRow m_keptFrog m_keptFrom m_keptTo m_h_46) 41 [(0, .ref (a b))] []
    refine J_aload_n hB dX8_mixBrook_41 rfl 0 rfl ?_
    obtain ⟨m_long0_48, m_row_49, m_far_50, m_ways_51, m_queue_52, m_queueEnd_53, m_endMany_54, m_endSoon_55, h_56, hf⟩ := cl8_e hf
    refine J_callV (As := []) (rest := []) (n := 0) (ws' := wM E a b m_stones m_any m_backward m_ring m_two m_brooks m_readRow m_rowNow m_frogOn m_frogs m_kindOf m_moved m_movedFrom m_movedTo m_pageLength m_page m_faultAt m_isWhole m_newMany m_newSigns m_newRow m_long0_48 m_row_49 m_far_50 m_ways_51 m_queue_52 m_queueEnd_53 m_endMany_54 m_endSoon_55 m_won m_seedNow m_isKept m_keptBrook m_keptMoved m_keptRow m_keptFrog m_keptFrom m_keptTo m_h_46) hB (c_X8_layEnds l E a b m_stones m_any m_backward m_ring m_two m_brooks m_readRow m_rowNow m_frogOn m_frogs m_kindOf m_moved m_movedFrom m_movedTo m_pageLength m_page m_faultAt m_isWhole m_newMany m_newSigns m_newRow m_long0_39 m_row_40 m_far_41 m_ways_42 m_queue_43 m_queueEnd_44 m_endMany m_endSoon m_won m_seedNow m_isKept m_keptBrook m_keptMoved m_keptRow m_keptFrog m_keptFrom m_keptTo m_h_46 h_56) mi_X8_layEnds ⟨ki_X8_layEnds, kv_X8_layEnds⟩ km_X8_215 ⟨rfl, rfl, Nat.le_of_ble_eq_true rfl, Nat.le_of_ble_eq_true rfl⟩ Lies.same 0 rfl rfl rfl rfl (Nat.le_of_ble_eq_true rfl) dX8_mixBrook_42 ?_
    show J l E rX8_mixBrook Y (wM E a b m_stones m_any m_backward m_ring m_two m_brooks m_readRow m_rowNow m_frogOn m_frogs m_kindOf m_moved m_movedFrom m_movedTo m_pageLength m_page m_faultAt m_isWhole m_newMany m_newSigns m_newRow m_long0_48 m_row_49 m_far_50 m_ways_51 m_queue_52 m_queueEnd_53 m_endMany_54 m_endSoon_55 m_won m_seedNow m_isKept m_keptBrook m_keptMoved m_keptRow m_keptFrog m_keptFrom m_keptTo m_h_46) 45 [(0, .ref (a b))] []
    refine J_aload_n hB dX8_mixBrook_45 rfl 0 rfl ?_
    refine J_aload_n hB dX8_mixBrook_46 rfl 0 rfl ?_
    refine J_get (v := .int m_endMany_54) hB inX8 0 rfl rfl 27 (Nat.le_of_ble_eq_true rfl) kf_X8_209 rfl dX8_mixBrook_47 ?_
    refine J_i2l hB dX8_mixBrook_50 ?_
    obtain ⟨m_h_57, h_58, hf⟩ := cl1_e hf
    refine J_callV (As := [.long (Int32.toInt64 m_endMany_54)]) (rest := []) (n := 1) (ws' := wM E a b m_stones m_any m_backward m_ring m_two m_brooks m_readRow m_rowNow m_frogOn m_frogs m_kindOf m_moved m_movedFrom m_movedTo m_pageLength m_page m_faultAt m_isWhole m_newMany m_newSigns m_newRow m_long0_48 m_row_49 m_far_50 m_ways_51 m_queue_52 m_queueEnd_53 m_endMany_54 m_endSoon_55 m_won m_seedNow m_isKept m_keptBrook m_keptMoved m_keptRow m_keptFrog m_keptFrom m_keptTo m_h_57) hB (c_X8_mix l E a b m_stones m_any m_backward m_ring m_two m_brooks m_readRow m_rowNow m_frogOn m_frogs m_kindOf m_moved m_movedFrom m_movedTo m_pageLength m_page m_faultAt m_isWhole m_newMany m_newSigns m_newRow m_long0_48 m_row_49 m_far_50 m_ways_51 m_queue_52 m_queueEnd_53 m_endMany_54 m_endSoon_55 m_won m_seedNow m_isKept m_keptBrook m_keptMoved m_keptRow m_keptFrog m_keptFrom m_keptTo m_h_46 h_58) mi_X8_mix ⟨ki_X8_mix, kv_X8_mix⟩ km_X8_292 ⟨rfl, rfl, Nat.le_of_ble_eq_true rfl, Nat.le_of_ble_eq_true rfl⟩ Lies.same 0 rfl rfl rfl rfl (Nat.le_of_ble_eq_true rfl) dX8_mixBrook_51 ?_
    show J l E rX8_mixBrook Y (wM E a b m_stones m_any m_backward m_ring m_two m_brooks m_readRow m_rowNow m_frogOn m_frogs m_kindOf m_moved m_movedFrom m_movedTo m_pageLength m_page m_faultAt m_isWhole m_newMany m_newSigns m_newRow m_long0_48 m_row_49 m_far_50 m_ways_51 m_queue_52 m_queueEnd_53 m_endMany_54 m_endSoon_55 m_won m_seedNow m_isKept m_keptBrook m_keptMoved m_keptRow m_keptFrog m_keptFrom m_keptTo m_h_57) 54 [(0, .ref (a b))] []
    refine J_aload_n hB dX8_mixBrook_54 rfl 0 rfl ?_
    refine J_aload_n hB dX8_mixBrook_55 rfl 0 rfl ?_
    refine J_get (v := .int m_endSoon_55) hB inX8 0 rfl rfl 28 (Nat.le_of_ble_eq_true rfl) kf_X8_212 rfl dX8_mixBrook_56 ?_
    refine J_i2l hB dX8_mixBrook_59 ?_
    obtain ⟨m_h_59, h_60, hf⟩ := cl1_e hf
    refine J_callV (As := [.long (Int32.toInt64 m_endSoon_55)]) (rest := []) (n := 1) (ws' := wM E a b m_stones m_any m_backward m_ring m_two m_brooks m_readRow m_rowNow m_frogOn m_frogs m_kindOf m_moved m_movedFrom m_movedTo m_pageLength m_page m_faultAt m_isWhole m_newMany m_newSigns m_newRow m_long0_48 m_row_49 m_far_50 m_ways_51 m_queue_52 m_queueEnd_53 m_endMany_54 m_endSoon_55 m_won m_seedNow m_isKept m_keptBrook m_keptMoved m_keptRow m_keptFrog m_keptFrom m_keptTo m_h_59) hB (c_X8_mix l E a b m_stones m_any m_backward m_ring m_two m_brooks m_readRow m_rowNow m_frogOn m_frogs m_kindOf m_moved m_movedFrom m_movedTo m_pageLength m_page m_faultAt m_isWhole m_newMany m_newSigns m_newRow m_long0_48 m_row_49 m_far_50 m_ways_51 m_queue_52 m_queueEnd_53 m_endMany_54 m_endSoon_55 m_won m_seedNow m_isKept m_keptBrook m_keptMoved m_keptRow m_keptFrog m_keptFrom m_keptTo m_h_57 h_60) mi_X8_mix ⟨ki_X8_mix, kv_X8_mix⟩ km_X8_292 ⟨rfl, rfl, Nat.le_of_ble_eq_true rfl, Nat.le_of_ble_eq_true rfl⟩ Lies.same 0 rfl rfl rfl rfl (Nat.le_of_ble_eq_true rfl) dX8_mixBrook_60 ?_
    show J l E rX8_mixBrook Y (wM E a b m_stones m_any m_backward m_ring m_two m_brooks m_readRow m_rowNow m_frogOn m_frogs m_kindOf m_moved m_movedFrom m_movedTo m_pageLength m_page m_faultAt m_isWhole m_newMany m_newSigns m_newRow m_long0_48 m_row_49 m_far_50 m_ways_51 m_queue_52 m_queueEnd_53 m_endMany_54 m_endSoon_55 m_won m_seedNow m_isKept m_keptBrook m_keptMoved m_keptRow m_keptFrog m_keptFrom m_keptTo m_h_59) 63 [(0, .ref (a b))] []
    refine J_aload_n hB dX8_mixBrook_63 rfl 0 rfl ?_
    obtain ⟨r_61, h_62, hf⟩ := cl1_e hf
    refine J_callV (As := []) (rest := []) (n := 0) (ws' := wM E a b m_stones m_any m_backward m_ring m_two m_brooks m_readRow m_rowNow m_frogOn m_frogs m_kindOf m_moved m_movedFrom m_movedTo m_pageLength m_page m_faultAt m_isWhole m_newMany m_newSigns m_newRow m_long0_48 m_row_49 m_far_50 m_ways_51 m_queue_52 m_queueEnd_53 m_endMany_54 m_endSoon_55 m_won m_seedNow m_isKept m_keptBrook m_keptMoved m_keptRow m_keptFrog m_keptFrom m_keptTo m_h_59) hB (c_X8_isGame l E a b m_stones m_any m_backward m_ring m_two m_brooks m_readRow m_rowNow m_frogOn m_frogs m_kindOf m_moved m_movedFrom m_movedTo m_pageLength m_page m_faultAt m_isWhole m_newMany m_newSigns m_newRow m_long0_48 m_row_49 m_far_50 m_ways_51 m_queue_52 m_queueEnd_53 m_endMany_54 m_endSoon_55 m_won m_seedNow m_isKept m_keptBrook m_keptMoved m_keptRow m_keptFrog m_keptFrom m_keptTo m_h_59 h_62) mi_X8_isGame ⟨ki_X8_isGame, kv_X8_isGame⟩ km_X8_239 ⟨rfl, rfl, Nat.le_of_ble_eq_true rfl, Nat.le_of_ble_eq_true rfl⟩ Lies.same 0 rfl rfl rfl rfl (Nat.le_of_ble_eq_true rfl) dX8_mixBrook_64 ?_
    show J l E rX8_mixBrook Y (wM E a b m_stones m_any m_backward m_ring m_two m_brooks m_readRow m_rowNow m_frogOn m_frogs m_kindOf m_moved m_movedFrom m_movedTo m_pageLength m_page m_faultAt m_isWhole m_newMany m_newSigns m_newRow m_long0_48 m_row_49 m_far_50 m_ways_51 m_queue_52 m_queueEnd_53 m_endMany_54 m_endSoon_55 m_won m_seedNow m_isKept m_keptBrook m_keptMoved m_keptRow m_keptFrog m_keptFrom m_keptTo m_h_59) 67 [(0, .ref (a b))] [.int r_61]
    refine J_if_eq (tgt := 90) hB dX8_mixBrook_67 rfl (fun c_63 => ?_) (fun c_63 => ?_)
    · have hf := it_t c_63 hf
      obtain rfl := Option.some.inj hf
      exact J_vret hB hR dX8_mixBrook_90
    · have hf := it_f c_63 hf
      refine J_aload_n hB dX8_mixBrook_70 rfl 0 rfl ?_
      refine J_aload_n hB dX8_mixBrook_71 rfl 0 rfl ?_
      refine J_iconst (v := 0) hB dX8_mixBrook_72 rfl ?_
      obtain ⟨r_64, m_long0_65, m_row_66, m_far_67, m_ways_68, m_queue_69, m_queueEnd_70, m_won_71, h_72, hf⟩ := cl8_e hf
      refine J_callV (As := [.int 0]) (rest := [.ref (a b)]) (n := 1) (ws' := wM E a b m_stones m_any m_backward m_ring m_two m_brooks m_readRow m_rowNow m_frogOn m_frogs m_kindOf m_moved m_movedFrom m_movedTo m_pageLength m_page m_faultAt m_isWhole m_newMany m_newSigns m_newRow m_long0_65 m_row_66 m_far_67 m_ways_68 m_queue_69 m_queueEnd_70 m_endMany_54 m_endSoon_55 m_won_71 m_seedNow m_isKept m_keptBrook m_keptMoved m_keptRow m_keptFrog m_keptFrom m_keptTo m_h_59) hB (c_X8_winsNow l E a b m_stones m_any m_backward m_ring m_two m_brooks m_readRow m_rowNow m_frogOn m_frogs m_kindOf m_moved m_movedFrom m_movedTo m_pageLength m_page m_faultAt m_isWhole m_newMany m_newSigns m_newRow m_long0_48 m_row_49 m_far_50 m_ways_51 m_queue_52 m_queueEnd_53 m_endMany_54 m_endSoon_55 m_won m_seedNow m_isKept m_keptBrook m_keptMoved m_keptRow m_keptFrog m_keptFrom m_keptTo m_h_59 h_72) mi_X8_winsNow ⟨ki_X8_winsNow, kv_X8_winsNow⟩ km_X8_243 ⟨rfl, rfl, Nat.le_of_ble_eq_true rfl, Nat.le_of_ble_eq_true rfl⟩ Lies.same 0 rfl rfl rfl rfl (Nat.le_of_ble_eq_true rfl) dX8_mixBrook_73 ?_
      show J l E rX8_mixBrook Y (wM E a b m_stones m_any m_backward m_ring m_two m_brooks m_readRow m_rowNow m_frogOn m_frogs m_kindOf m_moved m_movedFrom m_movedTo m_pageLength m_page m_faultAt m_isWhole m_newMany m_newSigns m_newRow m_long0_65 m_row_66 m_far_67 m_ways_68 m_queue_69 m_queueEnd_70 m_endMany_54 m_endSoon_55 m_won_71 m_seedNow m_isKept m_keptBrook m_keptMoved m_keptRow m_keptFrog m_keptFrom m_keptTo m_h_59) 76 [(0, .ref (a b))] [.int r_64, .ref (a b)]
      refine J_i2l hB dX8_mixBrook_76 ?_
      obtain ⟨m_h_73, h_74, hf⟩ := cl1_e hf
      refine J_callV (As := [.long (Int32.toInt64 r_64)]) (rest := []) (n := 1) (ws' := wM E a b m_stones m_any m_backward m_ring m_two m_brooks m_readRow m_rowNow m_frogOn m_frogs m_kindOf m_moved m_movedFrom m_movedTo m_pageLength m_page m_faultAt m_isWhole m_newMany m_newSigns m_newRow m_long0_65 m_row_66 m_far_67 m_ways_68 m_queue_69 m_queueEnd_70 m_endMany_54 m_endSoon_55 m_won_71 m_seedNow m_isKept m_keptBrook m_keptMoved m_keptRow m_keptFrog m_keptFrom m_keptTo m_h_73) hB (c_X8_mix l E a b m_stones m_any m_backward m_ring m_two m_brooks m_readRow m_rowNow m_frogOn m_frogs m_kindOf m_moved m_movedFrom m_movedTo m_pageLength m_page m_faultAt m_isWhole m_newMany m_newSigns m_newRow m_long0_65 m_row_66 m_far_67 m_ways_68 m_queue_69 m_queueEnd_70 m_endMany_54 m_endSoon_55 m_won_71 m_seedNow m_isKept m_keptBrook m_keptMoved m_keptRow m_keptFrog m_keptFrom m_keptTo m_h_59 h_74) mi_X8_mix ⟨ki_X8_mix, kv_X8_mix⟩ km_X8_292 ⟨rfl, rfl, Nat.le_of_ble_eq_true rfl, Nat.le_of_ble_eq_true rfl⟩ Lies.same 0 rfl rfl rfl rfl (Nat.le_of_ble_eq_true rfl) dX8_mixBrook_77 ?_
      show J l E rX8_mixBrook Y (wM E a b m_stones m_any m_backward m_ring m_two m_brooks m_readRow m_rowNow m_frogOn m_frogs m_kindOf m_moved m_movedFrom m_movedTo m_pageLength m_page m_faultAt m_isWhole m_newMany m_newSigns m_newRow m_long0_65 m_row_66 m_far_67 m_ways_68 m_queue_69 m_queueEnd_70 m_endMany_54 m_endSoon_55 m_won_71 m_seedNow m_isKept m_keptBrook m_keptMoved m_keptRow m_keptFrog m_keptFrom m_keptTo m_h_73) 80 [(0, .ref (a b))] []
      refine J_aload_n hB dX8_mixBrook_80 rfl 0 rfl ?_
      refine J_aload_n hB dX8_mixBrook_81 rfl 0 rfl ?_
      refine J_iconst (v := 1) hB dX8_mixBrook_82 rfl ?_
      obtain ⟨r_75, m_long0_76, m_row_77, m_far_78, m_ways_79, m_queue_80, m_queueEnd_81, m_won_82, h_83, hf⟩ := cl8_e hf
      refine J_callV (As := [.int 1]) (rest := [.ref (a b)]) (n := 1) (ws' := wM E a b m_stones m_any m_backward m_ring m_two m_brooks m_readRow m_rowNow m_frogOn m_frogs m_kindOf m_moved m_movedFrom m_movedTo m_pageLength m_page m_faultAt m_isWhole m_newMany m_newSigns m_newRow m_long0_76 m_row_77 m_far_78 m_ways_79 m_queue_80 m_queueEnd_81 m_endMany_54 m_endSoon_55 m_won_82 m_seedNow m_isKept m_keptBrook m_keptMoved m_keptRow m_keptFrog m_keptFrom m_keptTo m_h_73) hB (c_X8_winsNow l E a b m_stones m_any m_backward m_ring m_two m_brooks m_readRow m_rowNow m_frogOn m_frogs m_kindOf m_moved m_movedFrom m_movedTo m_pageLength m_page m_faultAt m_isWhole m_newMany m_newSigns m_newRow m_long0_65 m_row_66 m_far_67 m_ways_68 m_queue_69 m_queueEnd_70 m_endMany_54 m_endSoon_55 m_won_71 m_seedNow m_isKept m_keptBrook m_keptMoved m_keptRow m_keptFrog m_keptFrom m_keptTo m_h_73 h_83) mi_X8_winsNow ⟨ki_X8_winsNow, kv_X8_winsNow⟩ km_X8_243 ⟨rfl, rfl, Nat.le_of_ble_eq_true rfl, Nat.le_of_ble_eq_true rfl⟩ Lies.same 0 rfl rfl rfl rfl (Nat.le_of_ble_eq_true rfl) dX8_mixBrook_83 ?_
      show J l E rX8_mixBrook Y (wM E a b m_stones m_any m_backward m_ring m_two m_brooks m_readRow m_rowNow m_frogOn m_frogs m_kindOf m_moved m_movedFrom m_movedTo m_pageLength m_page m_faultAt m_isWhole m_newMany m_newSigns m_newRow m_long0_76 m_row_77 m_far_78 m_ways_79 m_queue_80 m_queueEnd_81 m_endMany_54 m_endSoon_55 m_won_82 m_seedNow m_isKept m_keptBrook m_keptMoved m_keptRow m_keptFrog m_keptFrom m_keptTo m_h_73) 86 [(0, .ref (a b))] [.int r_75, .ref (a b)]
      refine J_i2l hB dX8_mixBrook_86 ?_
      obtain ⟨m_h_84, h_85, hf⟩ := cl1_e hf
      refine J_callV (As := [.long (Int32.toInt64 r_75)]) (rest := []) (n := 1) (ws' := wM E a b m_stones m_any m_backward m_ring m_two m_brooks m_readRow m_rowNow m_frogOn m_frogs m_kindOf m_moved m_movedFrom m_movedTo m_pageLength m_page m_faultAt m_isWhole m_newMany m_newSigns m_newRow m_long0_76 m_row_77 m_far_78 m_ways_79 m_queue_80 m_queueEnd_81 m_endMany_54 m_endSoon_55 m_won_82 m_seedNow m_isKept m_keptBrook m_keptMoved m_keptRow m_keptFrog m_keptFrom m_keptTo m_h_84) hB (c_X8_mix l E a b m_stones m_any m_backward m_ring m_two m_brooks m_readRow m_rowNow m_frogOn m_frogs m_kindOf m_moved m_movedFrom m_movedTo m_pageLength m_page m_faultAt m_isWhole m_newMany m_newSigns m_newRow m_long0_76 m_row_77 m_far_78 m_ways_79 m_queue_80 m_queueEnd_81 m_endMany_54 m_endSoon_55 m_won_82 m_seedNow m_isKept m_keptBrook m_keptMoved m_keptRow m_keptFrog m_keptFrom m_keptTo m_h_73 h_85) mi_X8_mix ⟨ki_X8_mix, kv_X8_mix⟩ km_X8_292 ⟨rfl, rfl, Nat.le_of_ble_eq_true rfl, Nat.le_of_ble_eq_true rfl⟩ Lies.same 0 rfl rfl rfl rfl (Nat.le_of_ble_eq_true rfl) dX8_mixBrook_87 ?_
      show J l E rX8_mixBrook Y (wM E a b m_stones m_any m_backward m_ring m_two m_brooks m_readRow m_rowNow m_frogOn m_frogs m_kindOf m_moved m_movedFrom m_movedTo m_pageLength m_page m_faultAt m_isWhole m_newMany m_newSigns m_newRow m_long0_76 m_row_77 m_far_78 m_ways_79 m_queue_80 m_queueEnd_81 m_endMany_54 m_endSoon_55 m_won_82 m_seedNow m_isKept m_keptBrook m_keptMoved m_keptRow m_keptFrog m_keptFrom m_keptTo m_h_84) 90 [(0, .ref (a b))] []
      obtain rfl := Option.some.inj hf
      exact J_vret hB hR dX8_mixBrook_90
def f_X8_digest (m_stones : Int32) (m_any : Int32) (m_backward : Int32) (m_ring : Int32) (m_two : Int32) (m_brooks : Int32) (m_readRow : Nat → Int32) (m_rowNow : Nat → Int32) (m_frogOn : Nat → Int32) (m_frogs : Int32) (m_kindOf : Nat → Int32) (m_moved : Int32) (m_movedFrom : Nat → Int32) (m_movedTo : Nat → Int32) (m_pageLength : Int32) (m_page : Nat → Int32) (m_long0 : Int32) (m_row : Nat → Int32) (m_far : Nat → Int32) (m_ways : Nat → Int64) (m_queue : Nat → Int32) (m_queueEnd : Int32) (m_endMany : Int32) (m_endSoon : Int32) (m_won : Nat → Int32) (m_h : Int64) : Option (Int64 × Int32 × (Nat → Int32) × (Nat → Int32) × (Nat → Int64) × (Nat → Int32) × Int32 × Int32 × Int32 × (Nat → Int32) × Int64) :=
lp2_1 (fun (x1_1 : Int32) (m_h_2 : Int64) nx9 ex9 =>
if m_stones ≤ x1_1 then (
ex9 m_h_2) else (
cl1 (f_X8_on m_stones m_rowNow x1_1) fun r_5 =>
cl1 (f_X8_mix m_h_2 (Int32.toInt64 r_5)) fun m_h_7 =>
ald 7 m_frogOn x1_1 fun v_9 =>
cl1 (f_X8_mix m_h_7 (Int32.toInt64 v_9)) fun m_h_11 =>
nmv (α := Int32) (x1_1 + 1) fun x1_13 =>
nx9 x1_13 m_h_11)) (fun (m_h_3 : Int64) =>
lp2_1 (fun (x1_14 : Int32) (m_h_15 : Int64) nx46 ex46 =>
if m_frogs ≤ x1_14 then (
ex46 m_h_15) else (
lp2_1 (fun (x2_18 : Int32) (m_h_19 : Int64) nx56 ex56 =>
if 3 ≤ x2_18 then (
ex56 m_h_19) else (
cl1 (f_X8_frogNow m_frogOn m_kindOf m_moved m_movedFrom m_movedTo x1_14 x2_18) fun r_22 =>
cl1 (f_X8_mix m_h_19 (Int32.toInt64 r_22)) fun m_h_24 =>
nmv (α := Int32) (x2_18 + 1) fun x2_26 =>
nx56 x2_26 m_h_24)) (fun (m_h_20 : Int64) =>
nmv (α := Int32) (x1_14 + 1) fun x1_27 =>
nx46 x1_27 m_h_20) fuel 0 m_h_15)) (fun (m_h_16 : Int64) =>
cl2 (f_X8_layNow m_stones m_rowNow m_long0 m_row) fun m_long0_28 m_row_29 =>
cl1 (f_X8_moveMany m_any m_backward m_ring m_two m_long0_28 m_row_29) fun r_31 =>
cl1 (f_X8_mix m_h_16 (Int32.toInt64 r_31)) fun m_h_33 =>
jn10 (fun (m_long0_35 : Int32) (m_row_36 : Nat → Int32) (m_far_37 : Nat → Int32) (m_ways_38 : Nat → Int64) (m_queue_39 : Nat → Int32) (m_queueEnd_40 : Int32) (m_endMany_41 : Int32) (m_endSoon_42 : Int32) (m_won_43 : Nat → Int32) (m_h_44 : Int64) =>
lp2_1 (fun (x1_45 : Int32) (m_h_46 : Int64) nx110 ex110 =>
if m_pageLength ≤ x1_45 then (
ex110 m_h_46) else (
ald 14 m_page x1_45 fun v_49 =>
cl1 (f_X8_mix m_h_46 (Int32.toInt64 v_49)) fun m_h_51 =>
nmv (α := Int32) (x1_45 + 1) fun x1_53 =>
nx110 x1_53 m_h_51)) (fun (m_h_47 : Int64) =>
lp2_1 (fun (x1_54 : Int32) (m_h_55 : Int64) nx137 ex137 =>
if 10 ≤ x1_54 then (
ex137 m_h_55) else (
cl1 (f_X8_howMany m_stones m_any m_backward m_ring m_two m_brooks m_frogs m_moved m_pageLength x1_54) fun r_58 =>
cl1 (f_X8_mix m_h_55 (Int32.toInt64 r_58)) fun m_h_60 =>
nmv (α := Int32) (x1_54 + 1) fun x1_62 =>
nx137 x1_62 m_h_60)) (fun (m_h_56 : Int64) =>
some (m_h_56, m_long0_35, m_row_36, m_far_37, m_ways_38, m_queue_39, m_queueEnd_40, m_endMany_41, m_endSoon_42, m_won_43, m_h_56)) fuel 0 m_h_47) fuel 0 m_h_44) fun j108 =>
if m_stones ≤ 0 then (
j108 m_long0_28 m_row_29 m_far m_ways m_queue m_queueEnd m_endMany m_endSoon m_won m_h_33) else (
cl10 (f_X8_mixBrook m_stones m_any m_backward m_ring m_two m_readRow m_rowNow m_moved m_movedFrom m_movedTo m_long0_28 m_row_29 m_far m_ways m_queue m_queueEnd m_endMany m_endSoon m_won m_h_33) fun m_long0_64 m_row_65 m_far_66 m_ways_67 m_queue_68 m_queueEnd_69 m_endMany_70 m_endSoon_71 m_won_72 m_h_73 =>
j108 m_long0_64 m_row_65 m_far_66 m_ways_67 m_queue_68 m_queueEnd_69 m_endMany_70 m_endSoon_71 m_won_72 m_h_73)) fuel 0 m_h_3) fuel 0 613
abbrev rX8_digest : Room := { frames := 8, cells := 0, slots := 0, locals := 188 }
set_option maxRecDepth 100000 in
set_option maxHeartbeats 4000000 in
theorem c_X8_digest (l : Launch) (E : En) (a : Nat → Nat) (b : Nat) (m_stones : Int32) (m_any : Int32) (m_backward : Int32) (m_ring : Int32) (m_two : Int32) (m_brooks : Int32) (m_readRow : Nat → Int32) (m_rowNow : Nat → Int32) (m_frogOn : Nat → Int32) (m_frogs : Int32) (m_kindOf : Nat → Int32) (m_moved : Int32) (m_movedFrom : Nat → Int32) (m_movedTo : Nat → Int32) (m_pageLength : Int32) (m_page : Nat → Int32) (m_faultAt : Int32) (m_isWhole : Int32) (m_newMany : Int32) (m_newSigns : Int32) (m_newRow : Nat → Int32) (m_long0 : Int32) (m_row : Nat → Int32) (m_far : Nat → Int32) (m_ways : Nat → Int64) (m_queue : Nat → Int32) (m_queueEnd : Int32) (m_endMany : Int32) (m_endSoon : Int32) (m_won : Nat → Int32) (m_seedNow : Int64) (m_isKept : Int32) (m_keptBrook : Int32) (m_keptMoved : Int32) (m_keptRow : Nat → Int32) (m_keptFrog : Nat → Int32) (m_keptFrom : Nat → Int32) (m_keptTo : Nat → Int32) (m_h : Int64) {res : Int64 × Int32 × (Nat → Int32) × (Nat → Int32) × (Nat → Int64) × (Nat → Int32) × Int32 × Int32 × Int32 × (Nat → Int32) × Int64} (hf : f_X8_digest m_stones m_any m_backward m_ring m_two m_brooks m_readRow m_rowNow m_frogOn m_frogs m_kindOf m_moved m_movedFrom m_movedTo m_pageLength m_page m_long0 m_row m_far m_ways m_queue m_queueEnd m_endMany m_endSoon m_won m_h = some res) : Ct l yX8_digest (.code yX8_digest cX8_digest 3 (some .long)) rX8_digest E [.ref (a b)] (wM E a b m_stones m_any m_backward m_ring m_two m_brooks m_readRow m_rowNow m_frogOn m_frogs m_kindOf m_moved m_movedFrom m_movedTo m_pageLength m_page m_faultAt m_isWhole m_newMany m_newSigns m_newRow m_long0 m_row m_far m_ways m_queue m_queueEnd m_endMany m_endSoon m_won m_seedNow m_isKept m_keptBrook m_keptMoved m_keptRow m_keptFrog m_keptFrom m_keptTo m_h) (some (.long res.1)) (wM E a b m_stones m_any m_backward m_ring m_two m_brooks m_readRow m_rowNow m_frogOn m_frogs m_kindOf m_moved m_movedFrom m_movedTo m_pageLength m_page m_faultAt m_isWhole m_newMany m_newSigns m_newRow res.2.1 res.2.2.1 res.2.2.2.1 res.2.2.2.2.1 res.2.2.2.2.2.1 res.2.2.2.2.2.2.1 res.2.2.2.2.2.2.2.1 res.2.2.2.2.2.2.2.2.1 res.2.2.2.2.2.2.2.2.2.1 m_seedNow m_isKept m_keptBrook m_keptMoved m_keptRow m_keptFrog m_keptFrom m_keptTo res.2.2.2.2.2.2.2.2.2.2) := by
  refine Ct.of (by decide) (Nat.le_of_ble_eq_true rfl) (fun Y hB hR => ?_)
  have hB : Cb E cX8_digest RX8 rX8_digest 3 Y := hB
  show J l E rX8_digest Y (wM E a b m_stones m_any m_backward m_ring m_two m_brooks m_readRow m_rowNow m_frogOn m_frogs m_kindOf m_moved m_movedFrom m_movedTo m_pageLength m_page m_faultAt m_isWhole m_newMany m_newSigns m_newRow m_long0 m_row m_far m_ways m_queue m_queueEnd m_endMany m_endSoon m_won m_seedNow m_isKept m_keptBrook m_keptMoved m_keptRow m_keptFrog m_keptFrom m_keptTo m_h) 0 [(0, .ref (a b))] []
  unfold f_X8_digest at hf
  refine J_aload_n hB dX8_digest_0 rfl 0 rfl ?_
  refine J_ldc2 hB dX8_digest_1 kk_X8_296 ?_
  refine J_put (ws' := wM E a b m_stones m_any m_backward m_ring m_two m_brooks m_readRow m_rowNow m_frogOn m_frogs m_kindOf m_moved m_movedFrom m_movedTo m_pageLength m_page m_faultAt m_isWhole m_newMany m_newSigns m_newRow m_long0 m_row m_far m_ways m_queue m_queueEnd m_endMany m_endSoon m_won m_seedNow m_isKept m_keptBrook m_keptMoved m_keptRow m_keptFrog m_keptFrom m_keptTo 613) (ty := .long) (v := .long 613) hB inX8 tyX8 tyX8_ok nmX8 0 rfl rfl 38 (Nat.le_of_ble_eq_true rfl) kf_X8_289 rfl rfl rfl rfl (Nat.le_of_ble_eq_true rfl) dX8_digest_4 rfl ?_
  refine J_iconst (v := 0) hB dX8_digest_7 rfl ?_
  refine J_istore_n (lv' := [(1, .int 0), (0, .ref (a b))]) hB rfl dX8_digest_8 rfl (Nat.le_of_ble_eq_true rfl) rfl ?_
  refine J_lv [1, 0] rfl ?_
  refine lp2_1_J (P := fun x1_1 m_h_2 => J l E rX8_digest Y (wM E a b m_stones m_any m_backward m_ring m_two m_brooks m_readRow m_rowNow m_frogOn m_frogs m_kindOf m_moved m_movedFrom m_movedTo m_pageLength m_page m_faultAt m_isWhole m_newMany m_newSigns m_newRow m_long0 m_row m_far m_ways m_queue m_queueEnd m_endMany m_endSoon m_won m_seedNow m_isKept m_keptBrook m_keptMoved m_keptRow m_keptFrog m_keptFrom m_keptTo m_h_2) 9 [(0, .ref (a b)), (1, .int x1_1)] []) (Q := fun m_h_3 => J l E rX8_digest Y (wM E a b m_stones m_any m_backward m_ring m_two m_brooks m_readRow m_rowNow m_frogOn m_frogs m_kindOf m_moved m_movedFrom m_movedTo m_pageLength m_page m_faultAt m_isWhole m_newMany m_newSigns m_newRow m_long0 m_row m_far m_ways m_queue m_queueEnd m_endMany m_endSoon m_won m_seedNow m_isKept m_keptBrook m_keptMoved m_keptRow m_keptFrog m_keptFrom m_keptTo m_h_3) 44 [(0, .ref (a b))] []) (fun x1_1 m_h_2 nx9 ex9 hnx9 hex9 hf => ?_) (fun m_h_3 hf => ?_) hf
  · refine J_iload_n hB dX8_digest_9 rfl 1 rfl ?_
    refine J_aload_n hB dX8_digest_10 rfl 0 rfl ?_
    refine J_get (v := .int m_stones) hB inX8 0 rfl rfl 0 (Nat.le_of_ble_eq_true rfl) kf_X8_93 rfl dX8_digest_11 ?_
    refine J_icmp_ge (tgt := 44) hB dX8_digest_14 rfl (fun c_4 => ?_) (fun c_4 => ?_)
    · have hf := it_t c_4 hf
      exact J_lv [0] rfl (hex9 m_h_2 hf)
    · have hf := it_f c_4 hf
      refine J_aload_n hB dX8_digest_17 rfl 0 rfl ?_
      refine J_aload_n hB dX8_digest_18 rfl 0 rfl ?_
      refine J_iload_n hB dX8_digest_19 rfl 1 rfl ?_
      obtain ⟨r_5, h_6, hf⟩ := cl1_e hf
      refine J_callV (As := [.int x1_1]) (rest := [.ref (a b)]) (n := 1) (ws' := wM E a b m_stones m_any m_backward m_ring m_two m_brooks m_readRow m_rowNow m_frogOn m_frogs m_kindOf m_moved m_movedFrom m_movedTo m_pageLength m_page m_faultAt m_isWhole m_newMany m_newSigns m_newRow m_long0 m_row m_far m_ways m_queue m_queueEnd m_endMany m_endSoon m_won m_seedNow m_isKept m_keptBrook m_keptMoved m_keptRow m_keptFrog m_keptFrom m_keptTo m_h_2) hB (c_X8_on l E a b m_stones m_any m_backward m_ring m_two m_brooks m_readRow m_rowNow m_frogOn m_frogs m_kindOf m_moved m_movedFrom m_movedTo m_pageLength m_page m_faultAt m_isWhole m_newMany m_newSigns m_newRow m_long0 m_row m_far m_ways m_queue m_queueEnd m_endMany m_endSoon m_won m_seedNow m_isKept m_keptBrook m_keptMoved m_keptRow m_keptFrog m_keptFrom m_keptTo m_h_2 h_6) mi_X8_on ⟨ki_X8_on, kv_X8_on⟩ km_X8_298 ⟨rfl, rfl, Nat.le_of_ble_eq_true rfl, Nat.le_of_ble_eq_true rfl⟩ Lies.same 0 rfl rfl rfl rfl (Nat.le_of_ble_eq_true rfl) dX8_digest_20 ?_
      show J l E rX8_digest Y (wM E a b m_stones m_any m_backward m_ring m_two m_brooks m_readRow m_rowNow m_frogOn m_frogs m_kindOf m_moved m_movedFrom m_movedTo m_pageLength m_page m_faultAt m_isWhole m_newMany m_newSigns m_newRow m_long0 m_row m_far m_ways m_queue m_queueEnd m_endMany m_endSoon m_won m_seedNow m_isKept m_keptBrook m_keptMoved m_keptRow m_keptFrog m_keptFrom m_keptTo m_h_2) 23 [(0, .ref (a b)), (1, .int x1_1)] [.int r_5, .ref (a b)]
      refine J_i2l hB dX8_digest_23 ?_
      obtain ⟨m_h_7, h_8, hf⟩ := cl1_e hf
      refine J_callV (As := [.long (Int32.toInt64 r_5)]) (rest := []) (n := 1) (ws' := wM E a b m_stones m_any m_backward m_ring m_two m_brooks m_readRow m_rowNow m_frogOn m_frogs m_kindOf m_moved m_movedFrom m_movedTo m_pageLength m_page m_faultAt m_isWhole m_newMany m_newSigns m_newRow m_long0 m_row m_far m_ways m_queue m_queueEnd m_endMany m_endSoon m_won m_seedNow m_isKept m_keptBrook m_keptMoved m_keptRow m_keptFrog m_keptFrom m_keptTo m_h_7) hB (c_X8_mix l E a b m_stones m_any m_backward m_ring m_two m_brooks m_readRow m_rowNow m_frogOn m_frogs m_kindOf m_moved m_movedFrom m_movedTo m_pageLength m_page m_faultAt m_isWhole m_newMany m_newSigns m_newRow m_long0 m_row m_far m_ways m_queue m_queueEnd m_endMany m_endSoon m_won m_seedNow m_isKept m_keptBrook m_keptMoved m_keptRow m_keptFrog m_keptFrom m_keptTo m_h_2 h_8) mi_X8_mix ⟨ki_X8_mix, kv_X8_mix⟩ km_X8_292 ⟨rfl, rfl, Nat.le_of_ble_eq_true rfl, Nat.le_of_ble_eq_true rfl⟩ Lies.same 0 rfl rfl rfl rfl (Nat.le_of_ble_eq_true rfl) dX8_digest_24 ?_
      show J l E rX8_digest Y (wM E a b m_stones m_any m_backward m_ring m_two m_brooks m_readRow m_rowNow m_frogOn m_frogs m_kindOf m_moved m_movedFrom m_movedTo m_pageLength m_page m_faultAt m_isWhole m_newMany m_newSigns m_newRow m_long0 m_row m_far m_ways m_queue m_queueEnd m_endMany m_endSoon m_won m_seedNow m_isKept m_keptBrook m_keptMoved m_keptRow m_keptFrog m_keptFrom m_keptTo m_h_7) 27 [(0, .ref (a b)), (1, .int x1_1)] []
      refine J_aload_n hB dX8_digest_27 rfl 0 rfl ?_
      refine J_aload_n hB dX8_digest_28 rfl 0 rfl ?_
      refine J_get (v := .ref (a (b + 3))) hB inX8 0 rfl rfl 8 (Nat.le_of_ble_eq_true rfl) kf_X8_16 rfl dX8_digest_29 ?_
      refine J_iload_n hB dX8_digest_32 rfl 1 rfl ?_
      obtain ⟨v_9, ev_9, h_10, hf⟩ := ald_e hf
      refine J_iald hB 3 rfl ev_9 h_10 dX8_digest_33 ?_
      refine J_i2l hB dX8_digest_34 ?_
      obtain ⟨m_h_11, h_12, hf⟩ := cl1_e hf
      refine J_callV (As := [.long (Int32.toInt64 v_9)]) (rest := []) (n := 1) (ws' := wM E a b m_stones m_any m_backward m_ring m_two m_brooks m_readRow m_rowNow m_frogOn m_frogs m_kindOf m_moved m_movedFrom m_movedTo m_pageLength m_page m_faultAt m_isWhole m_newMany m_newSigns m_newRow m_long0 m_row m_far m_ways m_queue m_queueEnd m_endMany m_endSoon m_won m_seedNow m_isKept m_keptBrook m_keptMoved m_keptRow m_keptFrog m_keptFrom m_keptTo m_h_11) hB (c_X8_mix l E a b m_stones m_any m_backward m_ring m_two m_brooks m_readRow m_rowNow m_frogOn m_frogs m_kindOf m_moved m_movedFrom m_movedTo m_pageLength m_page m_faultAt m_isWhole m_newMany m_newSigns m_newRow m_long0 m_row m_far m_ways m_queue m_queueEnd m_endMany m_endSoon m_won m_seedNow m_isKept m_keptBrook m_keptMoved m_keptRow m_keptFrog m_keptFrom m_keptTo m_h_7 h_12) mi_X8_mix ⟨ki_X8_mix, kv_X8_mix⟩ km_X8_292 ⟨rfl, rfl, Nat.le_of_ble_eq_true rfl, Nat.le_of_ble_eq_true rfl⟩ Lies.same 0 rfl rfl rfl rfl (Nat.le_of_ble_eq_true rfl) dX8_digest_35 ?_
      show J l E rX8_digest Y (wM E a b m_stones m_any m_backward m_ring m_two m_brooks m_readRow m_rowNow m_frogOn m_frogs m_kindOf m_moved m_movedFrom m_movedTo m_pageLength m_page m_faultAt m_isWhole m_newMany m_newSigns m_newRow m_long0 m_row m_far m_ways m_queue m_queueEnd m_endMany m_endSoon m_won m_seedNow m_isKept m_keptBrook m_keptMoved m_keptRow m_keptFrog m_keptFrom m_keptTo m_h_11) 38 [(0, .ref (a b)), (1, .int x1_1)] []
      obtain ⟨x1_13, ex1_13, hf⟩ := nmv_e hf
      refine J_iinc (lv' := [(1, .int x1_13), (0, .ref (a b))]) hB ex1_13 dX8_digest_38 1 rfl (Nat.le_of_ble_eq_true rfl) rfl ?_
      refine J_goto (tgt := 9) hB dX8_digest_41 rfl ?_
      exact J_lv [1, 0] rfl (hnx9 x1_13 m_h_11 hf)
  · refine J_iconst (v := 0) hB dX8_digest_44 rfl ?_
    refine J_istore_n (lv' := [(1, .int 0), (0, .ref (a b))]) hB rfl dX8_digest_45 rfl (Nat.le_of_ble_eq_true rfl) rfl ?_
    refine J_lv [1, 0] rfl ?_
    refine lp2_1_J (P := fun x1_14 m_h_15 => J l E rX8_digest Y (wM E a b m_stones m_any m_backward m_ring m_two m_brooks m_readRow m_rowNow m_frogOn m_frogs m_kindOf m_moved m_movedFrom m_movedTo m_pageLength m_page m_faultAt m_isWhole m_newMany m_newSigns m_newRow m_long0 m_row m_far m_ways m_queue m_queueEnd m_endMany m_endSoon m_won m_seedNow m_isKept m_keptBrook m_keptMoved m_keptRow m_keptFrog m_keptFrom m_keptTo m_h_15) 46 [(0, .ref (a b)), (1, .int x1_14)] []) (Q := fun m_h_16 => J l E rX8_digest Y (wM E a b m_stones m_any m_backward m_ring m_two m_brooks m_readRow m_rowNow m_frogOn m_frogs m_kindOf m_moved m_movedFrom m_movedTo m_pageLength m_page m_faultAt m_isWhole m_newMany m_newSigns m_newRow m_long0 m_row m_far m_ways m_queue m_queueEnd m_endMany m_endSoon m_won m_seedNow m_isKept m_keptBrook m_keptMoved m_keptRow m_keptFrog m_keptFrom m_keptTo m_h_16) 84 [(0, .ref (a b))] []) (fun x1_14 m_h_15 nx46 ex46 hnx46 hex46 hf => ?_) (fun m_h_16 hf => ?_) hf
    · refine J_iload_n hB dX8_digest_46 rfl 1 rfl ?_
      refine J_aload_n hB dX8_digest_47 rfl 0 rfl ?_
      refine J_get (v := .int m_frogs) hB inX8 0 rfl rfl 9 (Nat.le_of_ble_eq_true rfl) kf_X8_108 rfl dX8_digest_48 ?_
      refine J_icmp_ge (tgt := 84) hB dX8_digest_51 rfl (fun c_17 => ?_) (fun c_17 => ?_)
      · have hf := it_t c_17 hf
        exact J_lv [0] rfl (hex46 m_h_15 hf)
      · have hf := it_f c_17 hf
        refine J_iconst (v := 0) hB dX8_digest_54 rfl ?_
        refine J_istore_n (lv' := [(2, .int 0), (0, .ref (a b)), (1, .int x1_14)]) hB rfl dX8_digest_55 rfl (Nat.le_of_ble_eq_true rfl) rfl ?_
        refine J_lv [1, 2, 0] rfl ?_
        refine lp2_1_J (P := fun x2_18 m_h_19 => J l E rX8_digest Y (wM E a b m_stones m_any m_backward m_ring m_two m_brooks m_readRow m_rowNow m_frogOn m_frogs m_kindOf m_moved m_movedFrom m_movedTo m_pageLength m_page m_faultAt m_isWhole m_newMany m_newSigns m_newRow m_long0 m_row m_far m_ways m_queue m_queueEnd m_endMany m_endSoon m_won m_seedNow m_isKept m_keptBrook m_keptMoved m_keptRow m_keptFrog m_keptFrom m_keptTo m_h_19) 56 [(0, .ref (a b)), (1, .int x1_14), (2, .int x2_18)] []) (Q := fun m_h_20 => J l E rX8_digest Y (wM E a b m_stones m_any m_backward m_ring m_two m_brooks m_readRow m_rowNow m_frogOn m_frogs m_kindOf m_moved m_movedFrom m_movedTo m_pageLength m_page m_faultAt m_isWhole m_newMany m_newSigns m_newRow m_long0 m_row m_far m_ways m_queue m_queueEnd m_endMany m_endSoon m_won m_seedNow m_isKept m_keptBrook m_keptMoved m_keptRow m_keptFrog m_keptFrom m_keptTo m_h_20) 78 [(0, .ref (a b)), (1, .int x1_14)] []) (fun x2_18 m_h_19 nx56 ex56 hnx56 hex56 hf => ?_) (fun m_h_20 hf => ?_) hf
        · refine J_iload_n hB dX8_digest_56 rfl 2 rfl ?_
          refine J_iconst (v := 3) hB dX8_digest_57 rfl ?_
          refine J_icmp_ge (tgt := 78) hB dX8_digest_58 rfl (fun c_21 => ?_) (fun c_21 => ?_)
          · have hf := it_t c_21 hf
            exact J_lv [0, 1] rfl (hex56 m_h_19 hf)
          · have hf := it_f c_21 hf
            refine J_aload_n hB dX8_digest_61 rfl 0 rfl ?_
            refine J_aload_n hB dX8_digest_62 rfl 0 rfl ?_
            refine J_iload_n hB dX8_digest_63 rfl 1 rfl ?_
            refine J_iload_n hB dX8_digest_64 rfl 2 rfl ?_
            obtain ⟨r_22, h_23, hf⟩ := cl1_e hf
            refine J_callV (As := [.int x1_14, .int x2_18]) (rest := [.ref (a b)]) (n := 2) (ws' := wM E a b m_stones m_any m_backward m_ring m_two m_brooks m_readRow m_rowNow m_frogOn m_frogs m_kindOf m_moved m_movedFrom m_movedTo m_pageLength m_page m_faultAt m_isWhole m_newMany m_newSigns m_newRow m_long0 m_row m_far m_ways m_queue m_queueEnd m_endMany m_endSoon m_won m_seedNow m_isKept m_keptBrook m_keptMoved m_keptRow m_keptFrog m_keptFrom m_keptTo m_h_19) hB (c_X8_frogNow l E a b m_stones m_any m_backward m_ring m_two m_brooks m_readRow m_rowNow m_frogOn m_frogs m_kindOf m_moved m_movedFrom m_movedTo m_pageLength m_page m_faultAt m_isWhole m_newMany m_newSigns m_newRow m_long0 m_row m_far m_ways m_queue m_queueEnd m_endMany m_endSoon m_won m_seedNow m_isKept m_keptBrook m_keptMoved m_keptRow m_keptFrog m_keptFrom m_keptTo m_h_19 h_23) mi_X8_frogNow ⟨ki_X8_frogNow, kv_X8_frogNow⟩ km_X8_131 ⟨rfl, rfl, Nat.le_of_ble_eq_true rfl, Nat.le_of_ble_eq_true rfl⟩ Lies.same 0 rfl rfl rfl rfl (Nat.le_of_ble_eq_true rfl) dX8_digest_65 ?_
            show J l E rX8_digest Y (wM E a b m_stones m_any m_backward m_ring m_two m_brooks m_readRow m_rowNow m_frogOn m_frogs m_kindOf m_moved m_movedFrom m_movedTo m_pageLength m_page m_faultAt m_isWhole m_newMany m_newSigns m_newRow m_long0 m_row m_far m_ways m_queue m_queueEnd m_endMany m_endSoon m_won m_seedNow m_isKept m_keptBrook m_keptMoved m_keptRow m_keptFrog m_keptFrom m_keptTo m_h_19) 68 [(0, .ref (a b)), (1, .int x1_14), (2, .int x2_18)] [.int r_22, .ref (a b)]
            refine J_i2l hB dX8_digest_68 ?_
            obtain ⟨m_h_24, h_25, hf⟩ := cl1_e hf
            refine J_callV (As := [.long (Int32.toInt64 r_22)]) (rest := []) (n := 1) (ws' := wM E a b m_stones m_any m_backward m_ring m_two m_brooks m_readRow m_rowNow m_frogOn m_frogs m_kindOf m_moved m_movedFrom m_movedTo m_pageLength m_page m_faultAt m_isWhole m_newMany m_newSigns m_newRow m_long0 m_row m_far m_ways m_queue m_queueEnd m_endMany m_endSoon m_won m_seedNow m_isKept m_keptBrook m_keptMoved m_keptRow m_keptFrog m_keptFrom m_keptTo m_h_24) hB (c_X8_mix l E a b m_stones m_any m_backward m_ring m_two m_brooks m_readRow m_rowNow m_frogOn m_frogs m_kindOf m_moved m_movedFrom m_movedTo m_pageLength m_page m_faultAt m_isWhole m_newMany m_newSigns m_newRow m_long0 m_row m_far m_ways m_queue m_queueEnd m_endMany m_endSoon m_won m_seedNow m_isKept m_keptBrook m_keptMoved m_keptRow m_keptFrog m_keptFrom m_keptTo m_h_19 h_25) mi_X8_mix ⟨ki_X8_mix, kv_X8_mix⟩ km_X8_292 ⟨rfl, rfl, Nat.le_of_ble_eq_true rfl, Nat.le_of_ble_eq_true rfl⟩ Lies.same 0 rfl rfl rfl rfl (Nat.le_of_ble_eq_true rfl) dX8_digest_69 ?_
            show J l E rX8_digest Y (wM E a b m_stones m_any m_backward m_ring m_two m_brooks m_readRow m_rowNow m_frogOn m_frogs m_kindOf m_moved m_movedFrom m_movedTo m_pageLength m_page m_faultAt m_isWhole m_newMany m_newSigns m_newRow m_long0 m_row m_far m_ways m_queue m_queueEnd m_endMany m_endSoon m_won m_seedNow m_isKept m_keptBrook m_keptMoved m_keptRow m_keptFrog m_keptFrom m_keptTo m_h_24) 72 [(0, .ref (a b)), (1, .int x1_14), (2, .int x2_18)] []
            obtain ⟨x2_26, ex2_26, hf⟩ := nmv_e hf
            refine J_iinc (lv' := [(2, .int x2_26), (0, .ref (a b)), (1, .int x1_14)]) hB ex2_26 dX8_digest_72 2 rfl (Nat.le_of_ble_eq_true rfl) rfl ?_
            refine J_goto (tgt := 56) hB dX8_digest_75 rfl ?_
            exact J_lv [1, 2, 0] rfl (hnx56 x2_26 m_h_24 hf)
        · obtain ⟨x1_27, ex1_27, hf⟩ := nmv_e hf
          refine J_iinc (lv' := [(1, .int x1_27), (0, .ref (a b))]) hB ex1_27 dX8_digest_78 1 rfl (Nat.le_of_ble_eq_true rfl) rfl ?_
          refine J_goto (tgt := 46) hB dX8_digest_81 rfl ?_
          exact J_lv [1, 0] rfl (hnx46 x1_27 m_h_20 hf)
    · refine J_aload_n hB dX8_digest_84 rfl 0 rfl ?_
      obtain ⟨m_long0_28, m_row_29, h_30, hf⟩ := cl2_e hf
      refine J_callV (As := []) (rest := []) (n := 0) (ws' := wM E a b m_stones m_any m_backward m_ring m_two m_brooks m_readRow m_rowNow m_frogOn m_frogs m_kindOf m_moved m_movedFrom m_movedTo m_pageLength m_page m_faultAt m_isWhole m_newMany m_newSigns m_newRow m_long0_28 m_row_29 m_far m_ways m_queue m_queueEnd m_endMany m_endSoon m_won m_seedNow m_isKept m_keptBrook m_keptMoved m_keptRow m_keptFrog m_keptFrom m_keptTo m_h_16) hB (c_X8_layNow l E a b m_stones m_any m_backward m_ring m_two m_brooks m_readRow m_rowNow m_frogOn m_frogs m_kindOf m_moved m_movedFrom m_movedTo m_pageLength m_page m_faultAt m_isWhole m_newMany m_newSigns m_newRow m_long0 m_row m_far m_ways m_queue m_queueEnd m_endMany m_endSoon m_won m_seedNow m_isKept m_keptBrook m_keptMoved m_keptRow m_keptFrog m_keptFrom m_keptTo m_h_16 h_30) mi_X8_layNow ⟨ki_X8_layNow, kv_X8_layNow⟩ km_X8_151 ⟨rfl, rfl, Nat.le_of_ble_eq_true rfl, Nat.le_of_ble_eq_true rfl⟩ Lies.same 0 rfl rfl rfl rfl (Nat.le_of_ble_eq_true rfl) dX8_digest_85 ?_
      show J l E rX8_digest Y (wM E a b m_stones m_any m_backward m_ring m_two m_brooks m_readRow m_rowNow m_frogOn m_frogs m_kindOf m_moved m_movedFrom m_movedTo m_pageLength m_page m_faultAt m_isWhole m_newMany m_newSigns m_newRow m_long0_28 m_row_29 m_far m_ways m_queue m_queueEnd m_endMany m_endSoon m_won m_seedNow m_isKept m_keptBrook m_keptMoved m_keptRow m_keptFrog m_keptFrom m_keptTo m_h_16) 88 [(0, .ref (a b))] []
      refine J_aload_n hB dX8_digest_88 rfl 0 rfl ?_
      refine J_aload_n hB dX8_digest_89 rfl 0 rfl ?_
      obtain ⟨r_31, h_32, hf⟩ := cl1_e hf
      refine J_callV (As := []) (rest := [.ref (a b)]) (n := 0) (ws' := wM E a b m_stones m_any m_backward m_ring m_two m_brooks m_readRow m_rowNow m_frogOn m_frogs m_kindOf m_moved m_movedFrom m_movedTo m_pageLength m_page m_faultAt m_isWhole m_newMany m_newSigns m_newRow m_long0_28 m_row_29 m_far m_ways m_queue m_queueEnd m_endMany m_endSoon m_won m_seedNow m_isKept m_keptBrook m_keptMoved m_keptRow m_keptFrog m_keptFrom m_keptTo m_h_16) hB (c_X8_moveMany l E a b m_stones m_any m_backward m_ring m_two m_brooks m_readRow m_rowNow m_frogOn m_frogs m_kindOf m_moved m_movedFrom m_movedTo m_pageLength m_page m_faultAt m_isWhole m_newMany m_newSigns m_newRow m_long0_28 m_row_29 m_far m_ways m_queue m_queueEnd m_endMany m_endSoon m_won m_seedNow m_isKept m_keptBrook m_keptMoved m_keptRow m_keptFrog m_keptFrom m_keptTo m_h_16 h_32) mi_X8_moveMany ⟨ki_X8_moveMany, kv_X8_moveMany⟩ km_X8_157 ⟨rfl, rfl, Nat.le_of_ble_eq_true rfl, Nat.le_of_ble_eq_true rfl⟩ Lies.same 0 rfl rfl rfl rfl (Nat.le_of_ble_eq_true rfl) dX8_digest_90 ?_
      show J l E rX8_digest Y (wM E a b m_stones m_any m_backward m_ring m_two m_brooks m_readRow m_rowNow m_frogOn m_frogs m_kindOf m_moved m_movedFrom m_movedTo m_pageLength m_page m_faultAt m_isWhole m_newMany m_newSigns m_newRow m_long0_28 m_row_29 m_far m_ways m_queue m_queueEnd m_endMany m_endSoon m_won m_seedNow m_isKept m_keptBrook m_keptMoved m_keptRow m_keptFrog m_keptFrom m_keptTo m_h_16) 93 [(0, .ref (a b))] [.int r_31, .ref (a b)]
      refine J_i2l hB dX8_digest_93 ?_
      obtain ⟨m_h_33, h_34, hf⟩ := cl1_e hf
      refine J_callV (As := [.long (Int32.toInt64 r_31)]) (rest := []) (n := 1) (ws' := wM E a b m_stones m_any m_backward m_ring m_two m_brooks m_readRow m_rowNow m_frogOn m_frogs m_kindOf m_moved m_movedFrom m_movedTo m_pageLength m_page m_faultAt m_isWhole m_newMany m_newSigns m_newRow m_long0_28 m_row_29 m_far m_ways m_queue m_queueEnd m_endMany m_endSoon m_won m_seedNow m_isKept m_keptBrook m_keptMoved m_keptRow m_keptFrog m_keptFrom m_keptTo m_h_33) hB (c_X8_mix l E a b m_stones m_any m_backward m_ring m_two m_brooks m_readRow m_rowNow m_frogOn m_frogs m_kindOf m_moved m_movedFrom m_movedTo m_pageLength m_page m_faultAt m_isWhole m_newMany m_newSigns m_newRow m_long0_28 m_row_29 m_far m_ways m_queue m_queueEnd m_endMany m_endSoon m_won m_seedNow m_isKept m_keptBrook m_keptMoved m_keptRow m_keptFrog m_keptFrom m_keptTo m_h_16 h_34) mi_X8_mix ⟨ki_X8_mix, kv_X8_mix⟩ km_X8_292 ⟨rfl, rfl, Nat.le_of_ble_eq_true rfl, Nat.le_of_ble_eq_true rfl⟩ Lies.same 0 rfl rfl rfl rfl (Nat.le_of_ble_eq_true rfl) dX8_digest_94 ?_
      show J l E rX8_digest Y (wM E a b m_stones m_any m_backward m_ring m_two m_brooks m_readRow m_rowNow m_frogOn m_frogs m_kindOf m_moved m_movedFrom m_movedTo m_pageLength m_page m_faultAt m_isWhole m_newMany m_newSigns m_newRow m_long0_28 m_row_29 m_far m_ways m_queue m_queueEnd m_endMany m_endSoon m_won m_seedNow m_isKept m_keptBrook m_keptMoved m_keptRow m_keptFrog m_keptFrom m_keptTo m_h_33) 97 [(0, .ref (a b))] []
      refine J_aload_n hB dX8_digest_97 rfl 0 rfl ?_
      refine J_get (v := .int m_stones) hB inX8 0 rfl rfl 0 (Nat.le_of_ble_eq_true rfl) kf_X8_93 rfl dX8_digest_98 ?_
      refine jn10_e (P := fun m_long0_35 m_row_36 m_far_37 m_ways_38 m_queue_39 m_queueEnd_40 m_endMany_41 m_endSoon_42 m_won_43 m_h_44 => J l E rX8_digest Y (wM E a b m_stones m_any m_backward m_ring m_two m_brooks m_readRow m_rowNow m_frogOn m_frogs m_kindOf m_moved m_movedFrom m_movedTo m_pageLength m_page m_faultAt m_isWhole m_newMany m_newSigns m_newRow m_long0_35 m_row_36 m_far_37 m_ways_38 m_queue_39 m_queueEnd_40 m_endMany_41 m_endSoon_42 m_won_43 m_seedNow m_isKept m_keptBrook m_keptMoved m_keptRow m_keptFrog m_keptFrom m_keptTo m_h_44) 108 [(0, .ref (a b))] []) hf (fun m_long0_35 m_row_36 m_far_37 m_ways_38 m_queue_39 m_queueEnd_40 m_endMany_41 m_endSoon_42 m_won_43 m_h_44 hf => ?_) (fun j108 hj108 hf => ?_)
      · refine J_iconst (v := 0) hB dX8_digest_108 rfl ?_
        refine J_istore_n (lv' := [(1, .int 0), (0, .ref (a b))]) hB rfl dX8_digest_109 rfl (Nat.le_of_ble_eq_true rfl) rfl ?_
        refine J_lv [1, 0] rfl ?_
        refine lp2_1_J (P := fun x1_45 m_h_46 => J l E rX8_digest Y (wM E a b m_stones m_any m_backward m_ring m_two m_brooks m_readRow m_rowNow m_frogOn m_frogs m_kindOf m_moved m_movedFrom m_movedTo m_pageLength m_page m_faultAt m_isWhole m_newMany m_newSigns m_newRow m_long0_35 m_row_36 m_far_37 m_ways_38 m_queue_39 m_queueEnd_40 m_endMany_41 m_endSoon_42 m_won_43 m_seedNow m_isKept m_keptBrook m_keptMoved m_keptRow m_keptFrog m_keptFrom m_keptTo m_h_46) 110 [(0, .ref (a b)), (1, .int x1_45)] []) (Q := fun m_h_47 => J l E rX8_digest Y (wM E a b m_stones m_any m_backward m_ring m_two m_brooks m_readRow m_rowNow m_frogOn m_frogs m_kindOf m_moved m_movedFrom m_movedTo m_pageLength m_page m_faultAt m_isWhole m_newMany m_newSigns m_newRow m_long0_35 m_row_36 m_far_37 m_ways_38 m_queue_39 m_queueEnd_40 m_endMany_41 m_endSoon_42 m_won_43 m_seedNow m_isKept m_keptBrook m_keptMoved m_keptRow m_keptFrog m_keptFrom m_keptTo m_h_47) 135 [(0, .ref (a b))] []) (fun x1_45 m_h_46 nx110 ex110 hnx110 hex110 hf => ?_) (fun m_h_47 hf => ?_) hf
        · refine J_iload_n hB dX8_digest_110 rfl 1 rfl ?_
          refine J_aload_n hB dX8_digest_111 rfl 0 rfl ?_
          refine J_get (v := .int m_pageLength) hB inX8 0 rfl rfl 14 (Nat.le_of_ble_eq_true rfl) kf_X8_66 rfl dX8_digest_112 ?_
          refine J_icmp_ge (tgt := 135) hB dX8_digest_115 rfl (fun c_48 => ?_) (fun c_48 => ?_)
          · have hf := it_t c_48 hf
            exact J_lv [0] rfl (hex110 m_h_46 hf)
          · have hf := it_f c_48 hf
            refine J_aload_n hB dX8_digest_118 rfl 0 rfl ?_
            refine J_aload_n hB dX8_digest_119 rfl 0 rfl ?_
            refine J_get (v := .ref (a (b + 7))) hB inX8 0 rfl rfl 15 (Nat.le_of_ble_eq_true rfl) kf_X8_28 rfl dX8_digest_120 ?_
            refine J_iload_n hB dX8_digest_123 rfl 1 rfl ?_
            obtain ⟨v_49, ev_49, h_50, hf⟩ := ald_e hf
            refine J_bald hB 7 rfl ev_49 h_50 dX8_digest_124 ?_
            refine J_i2l hB dX8_digest_125 ?_
            obtain ⟨m_h_51, h_52, hf⟩ := cl1_e hf
            refine J_callV (As := [.long (Int32.toInt64 v_49)]) (rest := []) (n := 1) (ws' := wM E a b m_stones m_any m_backward m_ring m_two m_brooks m_readRow m_rowNow m_frogOn m_frogs m_kindOf m_moved m_movedFrom m_movedTo m_pageLength m_page m_faultAt m_isWhole m_newMany m_newSigns m_newRow m_long0_35 m_row_36 m_far_37 m_ways_38 m_queue_39 m_queueEnd_40 m_endMany_41 m_endSoon_42 m_won_43 m_seedNow m_isKept m_keptBrook m_keptMoved m_keptRow m_keptFrog m_keptFrom m_keptTo m_h_51) hB (c_X8_mix l E a b m_stones m_any m_backward m_ring m_two m_brooks m_readRow m_rowNow m_frogOn m_frogs m_kindOf m_moved m_movedFrom m_movedTo m_pageLength m_page m_faultAt m_isWhole m_newMany m_newSigns m_newRow m_long0_35 m_row_36 m_far_37 m_ways_38 m_queue_39 m_queueEnd_40 m_endMany_41 m_endSoon_42 m_won_43 m_seedNow m_isKept m_keptBrook m_keptMoved m_keptRow m_keptFrog m_keptFrom m_keptTo m_h_46 h_52) mi_X8_mix ⟨ki_X8_mix, kv_X8_mix⟩ km_X8_292 ⟨rfl, rfl, Nat.le_of_ble_eq_true rfl, Nat.le_of_ble_eq_true rfl⟩ Lies.same 0 rfl rfl rfl rfl (Nat.le_of_ble_eq_true rfl) dX8_digest_126 ?_
            show J l E rX8_digest Y (wM E a b m_stones m_any m_backward m_ring m_two m_brooks m_readRow m_rowNow m_frogOn m_frogs m_kindOf m_moved m_movedFrom m_movedTo m_pageLength m_page m_faultAt m_isWhole m_newMany m_newSigns m_newRow m_long0_35 m_row_36 m_far_37 m_ways_38 m_queue_39 m_queueEnd_40 m_endMany_41 m_endSoon_42 m_won_43 m_seedNow m_isKept m_keptBrook m_keptMoved m_keptRow m_keptFrog m_keptFrom m_keptTo m_h_51) 129 [(0, .ref (a b)), (1, .int x1_45)] []
            obtain ⟨x1_53, ex1_53, hf⟩ := nmv_e hf
            refine J_iinc (lv' := [(1, .int x1_53), (0, .ref (a b))]) hB ex1_53 dX8_digest_129 1 rfl (Nat.le_of_ble_eq_true rfl) rfl ?_
            refine J_goto (tgt := 110) hB dX8_digest_132 rfl ?_
            exact J_lv [1, 0] rfl (hnx110 x1_53 m_h_51 hf)
        · refine J_iconst (v := 0) hB dX8_digest_135 rfl ?_
          refine J_istore_n (lv' := [(1, .int 0), (0, .ref (a b))]) hB rfl dX8_digest_136 rfl (Nat.le_of_ble_eq_true rfl) rfl ?_
          refine J_lv [1, 0] rfl ?_
          refine lp2_1_J (P := fun x1_54 m_h_55 => J l E rX8_digest Y (wM E a b m_stones m_any m_backward m_ring m_two m_brooks m_readRow m_rowNow m_frogOn m_frogs m_kindOf m_moved m_movedFrom m_movedTo m_pageLength m_page m_faultAt m_isWhole m_newMany m_newSigns m_newRow m_long0_35 m_row_36 m_far_37 m_ways_38 m_queue_39 m_queueEnd_40 m_endMany_41 m_endSoon_42 m_won_43 m_seedNow m_isKept m_keptBrook m_keptMoved m_keptRow m_keptFrog m_keptFrom m_keptTo m_h_55) 137 [(0, .ref (a b)), (1, .int x1_54)] []) (Q := fun m_h_56 => J l E rX8_digest Y (wM E a b m_stones m_any m_backward m_ring m_two m_brooks m_readRow m_rowNow m_frogOn m_frogs m_kindOf m_moved m_movedFrom m_movedTo m_pageLength m_page m_faultAt m_isWhole m_newMany m_newSigns m_newRow m_long0_35 m_row_36 m_far_37 m_ways_38 m_queue_39 m_queueEnd_40 m_endMany_41 m_endSoon_42 m_won_43 m_seedNow m_isKept m_keptBrook m_keptMoved m_keptRow m_keptFrog m_keptFrom m_keptTo m_h_56) 159 [(0, .ref (a b))] []) (fun x1_54 m_h_55 nx137 ex137 hnx137 hex137 hf => ?_) (fun m_h_56 hf => ?_) hf
          · refine J_iload_n hB dX8_digest_137 rfl 1 rfl ?_
            refine J_bipush (v := 10) hB dX8_digest_138 rfl ?_
            refine J_icmp_ge (tgt := 159) hB dX8_digest_140 rfl (fun c_57 => ?_) (fun c_57 => ?_)
            · have hf := it_t c_57 hf
              exact J_lv [0] rfl (hex137 m_h_55 hf)
            · have hf := it_f c_57 hf
              refine J_aload_n hB dX8_digest_143 rfl 0 rfl ?_
              refine J_aload_n hB dX8_digest_144 rfl 0 rfl ?_
              refine J_iload_n hB dX8_digest_145 rfl 1 rfl ?_
              obtain ⟨r_58, h_59, hf⟩ := cl1_e hf
              refine J_callV (As := [.int x1_54]) (rest := [.ref (a b)]) (n := 1) (ws' := wM E a b m_stones m_any m_backward m_ring m_two m_brooks m_readRow m_rowNow m_frogOn m_frogs m_kindOf m_moved m_movedFrom m_movedTo m_pageLength m_page m_faultAt m_isWhole m_newMany m_newSigns m_newRow m_long0_35 m_row_36 m_far_37 m_ways_38 m_queue_39 m_queueEnd_40 m_endMany_41 m_endSoon_42 m_won_43 m_seedNow m_isKept m_keptBrook m_keptMoved m_keptRow m_keptFrog m_keptFrom m_keptTo m_h_55) hB (c_X8_howMany l E a b m_stones m_any m_backward m_ring m_two m_brooks m_readRow m_rowNow m_frogOn m_frogs m_kindOf m_moved m_movedFrom m_movedTo m_pageLength m_page m_faultAt m_isWhole m_newMany m_newSigns m_newRow m_long0_35 m_row_36 m_far_37 m_ways_38 m_queue_39 m_queueEnd_40 m_endMany_41 m_endSoon_42 m_won_43 m_seedNow m_isKept m_keptBrook m_keptMoved m_keptRow m_keptFrog m_keptFrom m_keptTo m_h_55 h_59) mi_X8_howMany ⟨ki_X8_howMany, kv_X8_howMany⟩ km_X8_284 ⟨rfl, rfl, Nat.le_of_ble_eq_true rfl, Nat.le_of_ble_eq_true rfl⟩ Lies.same 0 rfl rfl rfl rfl (Nat.le_of_ble_eq_true rfl) dX8_digest_146 ?_
              show J l E rX8_digest Y (wM E a b m_stones m_any m_backward m_ring m_two m_brooks m_readRow m_rowNow m_frogOn m_frogs m_kindOf m_moved m_movedFrom m_movedTo m_pageLength m_page m_faultAt m_isWhole m_newMany m_newSigns m_newRow m_long0_35 m_row_36 m_far_37 m_ways_38 m_queue_39 m_queueEnd_40 m_endMany_41 m_endSoon_42 m_won_43 m_seedNow m_isKept m_keptBrook m_keptMoved m_keptRow m_keptFrog m_keptFrom m_keptTo m_h_55) 149 [(0, .ref (a b)), (1, .int x1_54)] [.int r_58, .ref (a b)]
              refine J_i2l hB dX8_digest_149 ?_
              obtain ⟨m_h_60, h_61, hf⟩ := cl1_e hf
              refine J_callV (As := [.long (Int32.toInt64 r_58)]) (rest := []) (n := 1) (ws' := wM E a b m_stones m_any m_backward m_ring m_two m_brooks m_readRow m_rowNow m_frogOn m_frogs m_kindOf m_moved m_movedFrom m_movedTo m_pageLength m_page m_faultAt m_isWhole m_newMany m_newSigns m_newRow m_long0_35 m_row_36 m_far_37 m_ways_38 m_queue_39 m_queueEnd_40 m_endMany_41 m_endSoon_42 m_won_43 m_seedNow m_isKept m_keptBrook m_keptMoved m_keptRow m_keptFrog m_keptFrom m_keptTo m_h_60) hB (c_X8_mix l E a b m_stones m_any m_backward m_ring m_two m_brooks m_readRow m_rowNow m_frogOn m_frogs m_kindOf m_moved m_movedFrom m_movedTo m_pageLength m_page m_faultAt m_isWhole m_newMany m_newSigns m_newRow m_long0_35 m_row_36 m_far_37 m_ways_38 m_queue_39 m_queueEnd_40 m_endMany_41 m_endSoon_42 m_won_43 m_seedNow m_isKept m_keptBrook m_keptMoved m_keptRow m_keptFrog m_keptFrom m_keptTo m_h_55 h_61) mi_X8_mix ⟨ki_X8_mix, kv_X8_mix⟩ km_X8_292 ⟨rfl, rfl, Nat.le_of_ble_eq_true rfl, Nat.le_of_ble_eq_true rfl⟩ Lies.same 0 rfl rfl rfl rfl (Nat.le_of_ble_eq_true rfl) dX8_digest_150 ?_
              show J l E rX8_digest Y (wM E a b m_stones m_any m_backward m_ring m_two m_brooks m_readRow m_rowNow m_frogOn m_frogs m_kindOf m_moved m_movedFrom m_movedTo m_pageLength m_page m_faultAt m_isWhole m_newMany m_newSigns m_newRow m_long0_35 m_row_36 m_far_37 m_ways_38 m_queue_39 m_queueEnd_40 m_endMany_41 m_endSoon_42 m_won_43 m_seedNow m_isKept m_keptBrook m_keptMoved m_keptRow m_keptFrog m_keptFrom m_keptTo m_h_60) 153 [(0, .ref (a b)), (1, .int x1_54)] []
              obtain ⟨x1_62, ex1_62, hf⟩ := nmv_e hf
              refine J_iinc (lv' := [(1, .int x1_62), (0, .ref (a b))]) hB ex1_62 dX8_digest_153 1 rfl (Nat.le_of_ble_eq_true rfl) rfl ?_
              refine J_goto (tgt := 137) hB dX8_digest_156 rfl ?_
              exact J_lv [1, 0] rfl (hnx137 x1_62 m_h_60 hf)
          · refine J_aload_n hB dX8_digest_159 rfl 0 rfl ?_
            refine J_get (v := .long m_h_56) hB inX8 0 rfl rfl 38 (Nat.le_of_ble_eq_true rfl) kf_X8_289 rfl dX8_digest_160 ?_
            obtain rfl := Option.some.inj hf
            exact J_lret hB hR dX8_digest_163
      · refine J_if_le (tgt := 108) hB dX8_digest_101 rfl (fun c_63 => ?_) (fun c_63 => ?_)
        · have hf := it_t c_63 hf
          exact J_lv [0] rfl (hj108 m_long0_28 m_row_29 m_far m_ways m_queue m_queueEnd m_endMany m_endSoon m_won m_h_33 hf)
        · have hf := it_f c_63 hf
          refine J_aload_n hB dX8_digest_104 rfl 0 rfl ?_
          obtain ⟨m_long0_64, m_row_65, m_far_66, m_ways_67, m_queue_68, m_queueEnd_69, m_endMany_70, m_endSoon_71, m_won_72, m_h_73, h_74, hf⟩ := cl10_e hf
          refine J_callV (As := []) (rest := []) (n := 0) (ws' := wM E a b m_stones m_any m_backward m_ring m_two m_brooks m_readRow m_rowNow m_frogOn m_frogs m_kindOf m_moved m_movedFrom m_movedTo m_pageLength m_page m_faultAt m_isWhole m_newMany m_newSigns m_newRow m_long0_64 m_row_65 m_far_66 m_ways_67 m_queue_68 m_queueEnd_69 m_endMany_70 m_endSoon_71 m_won_72 m_seedNow m_isKept m_keptBrook m_keptMoved m_keptRow m_keptFrog m_keptFrom m_keptTo m_h_73) hB (c_X8_mixBrook l E a b m_stones m_any m_backward m_ring m_two m_brooks m_readRow m_rowNow m_frogOn m_frogs m_kindOf m_moved m_movedFrom m_movedTo m_pageLength m_page m_faultAt m_isWhole m_newMany m_newSigns m_newRow m_long0_28 m_row_29 m_far m_ways m_queue m_queueEnd m_endMany m_endSoon m_won m_seedNow m_isKept m_keptBrook m_keptMoved m_keptRow m_keptFrog m_keptFrom m_keptTo m_h_33 h_74) mi_X8_mixBrook ⟨ki_X8_mixBrook, kv_X8_mixBrook⟩ km_X8_301 ⟨rfl, rfl, Nat.le_of_ble_eq_true rfl, Nat.le_of_ble_eq_true rfl⟩ Lies.same 0 rfl rfl rfl rfl (Nat.le_of_ble_eq_true rfl) dX8_digest_105 ?_
          show J l E rX8_digest Y (wM E a b m_stones m_any m_backward m_ring m_two m_brooks m_readRow m_rowNow m_frogOn m_frogs m_kindOf m_moved m_movedFrom m_movedTo m_pageLength m_page m_faultAt m_isWhole m_newMany m_newSigns m_newRow m_long0_64 m_row_65 m_far_66 m_ways_67 m_queue_68 m_queueEnd_69 m_endMany_70 m_endSoon_71 m_won_72 m_seedNow m_isKept m_keptBrook m_keptMoved m_keptRow m_keptFrog m_keptFrom m_keptTo m_h_73) 108 [(0, .ref (a b))] []
          exact J_lv [0] rfl (hj108 m_long0_64 m_row_65 m_far_66 m_ways_67 m_queue_68 m_queueEnd_69 m_endMany_70 m_endSoon_71 m_won_72 m_h_73 hf)
