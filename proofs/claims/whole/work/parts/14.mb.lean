def f_X8_layNow (m_stones : Int32) (m_rowNow : Nat → Int32) (m_long0 : Int32) (m_row : Nat → Int32) : Option (Int32 × (Nat → Int32)) :=
lp2_1 (fun (x1_1 : Int32) (m_row_2 : Nat → Int32) nx10 ex10 =>
if m_stones ≤ x1_1 then (
ex10 m_row_2) else (
ald 7 m_rowNow x1_1 fun v_5 =>
astI 7 m_row_2 x1_1 v_5 fun m_row_7 =>
nmv (α := Int32) (x1_1 + 1) fun x1_9 =>
nx10 x1_9 m_row_7)) (fun (m_row_3 : Nat → Int32) =>
some (m_stones, m_row_3)) fuel 0 m_row
abbrev rX8_layNow : Room := { frames := 0, cells := 0, slots := 0, locals := 0 }
set_option maxRecDepth 100000 in
set_option maxHeartbeats 4000000 in
theorem c_X8_layNow (l : Launch) (E : En) (a : Nat → Nat) (b : Nat) (m_stones : Int32) (m_any : Int32) (m_backward : Int32) (m_ring : Int32) (m_two : Int32) (m_brooks : Int32) (m_readRow : Nat → Int32) (m_rowNow : Nat → Int32) (m_frogOn : Nat → Int32) (m_frogs : Int32) (m_kindOf : Nat → Int32) (m_moved : Int32) (m_movedFrom : Nat → Int32) (m_movedTo : Nat → Int32) (m_pageLength : Int32) (m_page : Nat → Int32) (m_faultAt : Int32) (m_isWhole : Int32) (m_newMany : Int32) (m_newSigns : Int32) (m_newRow : Nat → Int32) (m_long0 : Int32) (m_row : Nat → Int32) (m_far : Nat → Int32) (m_ways : Nat → Int64) (m_queue : Nat → Int32) (m_queueEnd : Int32) (m_endMany : Int32) (m_endSoon : Int32) (m_won : Nat → Int32) (m_seedNow : Int64) (m_isKept : Int32) (m_keptBrook : Int32) (m_keptMoved : Int32) (m_keptRow : Nat → Int32) (m_keptFrog : Nat → Int32) (m_keptFrom : Nat → Int32) (m_keptTo : Nat → Int32) (m_h : Int64) {res : Int32 × (Nat → Int32)} (hf : f_X8_layNow m_stones m_rowNow m_long0 m_row = some res) : Ct l yX8_layNow (.code yX8_layNow cX8_layNow 2 none) rX8_layNow E [.ref (a b)] (wM E a b m_stones m_any m_backward m_ring m_two m_brooks m_readRow m_rowNow m_frogOn m_frogs m_kindOf m_moved m_movedFrom m_movedTo m_pageLength m_page m_faultAt m_isWhole m_newMany m_newSigns m_newRow m_long0 m_row m_far m_ways m_queue m_queueEnd m_endMany m_endSoon m_won m_seedNow m_isKept m_keptBrook m_keptMoved m_keptRow m_keptFrog m_keptFrom m_keptTo m_h) none (wM E a b m_stones m_any m_backward m_ring m_two m_brooks m_readRow m_rowNow m_frogOn m_frogs m_kindOf m_moved m_movedFrom m_movedTo m_pageLength m_page m_faultAt m_isWhole m_newMany m_newSigns m_newRow res.1 res.2 m_far m_ways m_queue m_queueEnd m_endMany m_endSoon m_won m_seedNow m_isKept m_keptBrook m_keptMoved m_keptRow m_keptFrog m_keptFrom m_keptTo m_h) := by
  refine Ct.of (by decide) (Nat.le_of_ble_eq_true rfl) (fun Y hB hR => ?_)
  have hB : Cb E cX8_layNow RX8 rX8_layNow 2 Y := hB
  show J l E rX8_layNow Y (wM E a b m_stones m_any m_backward m_ring m_two m_brooks m_readRow m_rowNow m_frogOn m_frogs m_kindOf m_moved m_movedFrom m_movedTo m_pageLength m_page m_faultAt m_isWhole m_newMany m_newSigns m_newRow m_long0 m_row m_far m_ways m_queue m_queueEnd m_endMany m_endSoon m_won m_seedNow m_isKept m_keptBrook m_keptMoved m_keptRow m_keptFrog m_keptFrom m_keptTo m_h) 0 [(0, .ref (a b))] []
  unfold f_X8_layNow at hf
  refine J_aload_n hB dX8_layNow_0 rfl 0 rfl ?_
  refine J_aload_n hB dX8_layNow_1 rfl 0 rfl ?_
  refine J_get (v := .int m_stones) hB inX8 0 rfl rfl 0 (Nat.le_of_ble_eq_true rfl) kf_X8_93 rfl dX8_layNow_2 ?_
  refine J_put (ws' := wM E a b m_stones m_any m_backward m_ring m_two m_brooks m_readRow m_rowNow m_frogOn m_frogs m_kindOf m_moved m_movedFrom m_movedTo m_pageLength m_page m_faultAt m_isWhole m_newMany m_newSigns m_newRow m_stones m_row m_far m_ways m_queue m_queueEnd m_endMany m_endSoon m_won m_seedNow m_isKept m_keptBrook m_keptMoved m_keptRow m_keptFrog m_keptFrom m_keptTo m_h) (ty := .int) (v := .int m_stones) hB inX8 tyX8 tyX8_ok nmX8 0 rfl rfl 21 (Nat.le_of_ble_eq_true rfl) kf_X8_135 rfl rfl rfl rfl (Nat.le_of_ble_eq_true rfl) dX8_layNow_5 rfl ?_
  refine J_iconst (v := 0) hB dX8_layNow_8 rfl ?_
  refine J_istore_n (lv' := [(1, .int 0), (0, .ref (a b))]) hB rfl dX8_layNow_9 rfl (Nat.le_of_ble_eq_true rfl) rfl ?_
  refine J_lv [1, 0] rfl ?_
  refine lp2_1_J (P := fun x1_1 m_row_2 => J l E rX8_layNow Y (wM E a b m_stones m_any m_backward m_ring m_two m_brooks m_readRow m_rowNow m_frogOn m_frogs m_kindOf m_moved m_movedFrom m_movedTo m_pageLength m_page m_faultAt m_isWhole m_newMany m_newSigns m_newRow m_stones m_row_2 m_far m_ways m_queue m_queueEnd m_endMany m_endSoon m_won m_seedNow m_isKept m_keptBrook m_keptMoved m_keptRow m_keptFrog m_keptFrom m_keptTo m_h) 10 [(0, .ref (a b)), (1, .int x1_1)] []) (Q := fun m_row_3 => J l E rX8_layNow Y (wM E a b m_stones m_any m_backward m_ring m_two m_brooks m_readRow m_rowNow m_frogOn m_frogs m_kindOf m_moved m_movedFrom m_movedTo m_pageLength m_page m_faultAt m_isWhole m_newMany m_newSigns m_newRow m_stones m_row_3 m_far m_ways m_queue m_queueEnd m_endMany m_endSoon m_won m_seedNow m_isKept m_keptBrook m_keptMoved m_keptRow m_keptFrog m_keptFrom m_keptTo m_h) 36 [] []) (fun x1_1 m_row_2 nx10 ex10 hnx10 hex10 hf => ?_) (fun m_row_3 hf => ?_) hf
  · refine J_iload_n hB dX8_layNow_10 rfl 1 rfl ?_
    refine J_aload_n hB dX8_layNow_11 rfl 0 rfl ?_
    refine J_get (v := .int m_stones) hB inX8 0 rfl rfl 0 (Nat.le_of_ble_eq_true rfl) kf_X8_93 rfl dX8_layNow_12 ?_
    refine J_icmp_ge (tgt := 36) hB dX8_layNow_15 rfl (fun c_4 => ?_) (fun c_4 => ?_)
    · have hf := it_t c_4 hf
      exact J_lv [] rfl (hex10 m_row_2 hf)
    · have hf := it_f c_4 hf
      refine J_aload_n hB dX8_layNow_18 rfl 0 rfl ?_
      refine J_get (v := .ref (a (b + 9))) hB inX8 0 rfl rfl 22 (Nat.le_of_ble_eq_true rfl) kf_X8_35 rfl dX8_layNow_19 ?_
      refine J_iload_n hB dX8_layNow_22 rfl 1 rfl ?_
      refine J_aload_n hB dX8_layNow_23 rfl 0 rfl ?_
      refine J_get (v := .ref (a (b + 2))) hB inX8 0 rfl rfl 7 (Nat.le_of_ble_eq_true rfl) kf_X8_13 rfl dX8_layNow_24 ?_
      refine J_iload_n hB dX8_layNow_27 rfl 1 rfl ?_
      obtain ⟨v_5, ev_5, h_6, hf⟩ := ald_e hf
      refine J_iald hB 2 rfl ev_5 h_6 dX8_layNow_28 ?_
      obtain ⟨m_row_7, em_row_7, h_8, hf⟩ := astI_e hf
      refine J_iast (ws' := wM E a b m_stones m_any m_backward m_ring m_two m_brooks m_readRow m_rowNow m_frogOn m_frogs m_kindOf m_moved m_movedFrom m_movedTo m_pageLength m_page m_faultAt m_isWhole m_newMany m_newSigns m_newRow m_stones m_row_7 m_far m_ways m_queue m_queueEnd m_endMany m_endSoon m_won m_seedNow m_isKept m_keptBrook m_keptMoved m_keptRow m_keptFrog m_keptFrom m_keptTo m_h) hB 9 rfl em_row_7 h_8 dX8_layNow_29 rfl ?_
      obtain ⟨x1_9, ex1_9, hf⟩ := nmv_e hf
      refine J_iinc (lv' := [(1, .int x1_9), (0, .ref (a b))]) hB ex1_9 dX8_layNow_30 1 rfl (Nat.le_of_ble_eq_true rfl) rfl ?_
      refine J_goto (tgt := 10) hB dX8_layNow_33 rfl ?_
      exact J_lv [1, 0] rfl (hnx10 x1_9 m_row_7 hf)
  · obtain rfl := Option.some.inj hf
    exact J_vret hB hR dX8_layNow_36
def f_X8_may (m_stones : Int32) (m_any : Int32) (m_backward : Int32) (m_ring : Int32) (m_two : Int32) (m_rowNow : Nat → Int32) (m_long0 : Int32) (m_row : Nat → Int32) (p0 : Int32) (p1 : Int32) : Option (Int32 × Int32 × (Nat → Int32)) :=
cl1 (f_X8_isStone m_stones p0) fun r_1 =>
if r_1 = 0 then (
some ((-101), m_long0, m_row)) else (
cl1 (f_X8_isStone m_stones p1) fun r_4 =>
if r_4 = 0 then (
some ((-101), m_long0, m_row)) else (
cl2 (f_X8_layNow m_stones m_rowNow m_long0 m_row) fun m_long0_7 m_row_8 =>
cl1 (f_X8_mayMove m_any m_backward m_ring m_two m_long0_7 m_row_8 p0 p1) fun r_10 =>
if r_10 = 0 then (
some (0, m_long0_7, m_row_8)) else (
some (1, m_long0_7, m_row_8))))
abbrev rX8_may : Room := { frames := 4, cells := 0, slots := 0, locals := 96 }
set_option maxRecDepth 100000 in
set_option maxHeartbeats 4000000 in
theorem c_X8_may (l : Launch) (E : En) (a : Nat → Nat) (b : Nat) (m_stones : Int32) (m_any : Int32) (m_backward : Int32) (m_ring : Int32) (m_two : Int32) (m_brooks : Int32) (m_readRow : Nat → Int32) (m_rowNow : Nat → Int32) (m_frogOn : Nat → Int32) (m_frogs : Int32) (m_kindOf : Nat → Int32) (m_moved : Int32) (m_movedFrom : Nat → Int32) (m_movedTo : Nat → Int32) (m_pageLength : Int32) (m_page : Nat → Int32) (m_faultAt : Int32) (m_isWhole : Int32) (m_newMany : Int32) (m_newSigns : Int32) (m_newRow : Nat → Int32) (m_long0 : Int32) (m_row : Nat → Int32) (m_far : Nat → Int32) (m_ways : Nat → Int64) (m_queue : Nat → Int32) (m_queueEnd : Int32) (m_endMany : Int32) (m_endSoon : Int32) (m_won : Nat → Int32) (m_seedNow : Int64) (m_isKept : Int32) (m_keptBrook : Int32) (m_keptMoved : Int32) (m_keptRow : Nat → Int32) (m_keptFrog : Nat → Int32) (m_keptFrom : Nat → Int32) (m_keptTo : Nat → Int32) (m_h : Int64) {p0 : Int32} {p1 : Int32} {res : Int32 × Int32 × (Nat → Int32)} (hf : f_X8_may m_stones m_any m_backward m_ring m_two m_rowNow m_long0 m_row p0 p1 = some res) : Ct l yX8_may (.code yX8_may cX8_may 3 (some .int)) rX8_may E [.ref (a b), .int p0, .int p1] (wM E a b m_stones m_any m_backward m_ring m_two m_brooks m_readRow m_rowNow m_frogOn m_frogs m_kindOf m_moved m_movedFrom m_movedTo m_pageLength m_page m_faultAt m_isWhole m_newMany m_newSigns m_newRow m_long0 m_row m_far m_ways m_queue m_queueEnd m_endMany m_endSoon m_won m_seedNow m_isKept m_keptBrook m_keptMoved m_keptRow m_keptFrog m_keptFrom m_keptTo m_h) (some (.int res.1)) (wM E a b m_stones m_any m_backward m_ring m_two m_brooks m_readRow m_rowNow m_frogOn m_frogs m_kindOf m_moved m_movedFrom m_movedTo m_pageLength m_page m_faultAt m_isWhole m_newMany m_newSigns m_newRow res.2.1 res.2.2 m_far m_ways m_queue m_queueEnd m_endMany m_endSoon m_won m_seedNow m_isKept m_keptBrook m_keptMoved m_keptRow m_keptFrog m_keptFrom m_keptTo m_h) := by
  refine Ct.of (by decide) (Nat.le_of_ble_eq_true rfl) (fun Y hB hR => ?_)
  have hB : Cb E cX8_may RX8 rX8_may 3 Y := hB
  show J l E rX8_may Y (wM E a b m_stones m_any m_backward m_ring m_two m_brooks m_readRow m_rowNow m_frogOn m_frogs m_kindOf m_moved m_movedFrom m_movedTo m_pageLength m_page m_faultAt m_isWhole m_newMany m_newSigns m_newRow m_long0 m_row m_far m_ways m_queue m_queueEnd m_endMany m_endSoon m_won m_seedNow m_isKept m_keptBrook m_keptMoved m_keptRow m_keptFrog m_keptFrom m_keptTo m_h) 0 [(0, .ref (a b)), (1, .int p0), (2, .int p1)] []
  unfold f_X8_may at hf
  refine J_aload_n hB dX8_may_0 rfl 0 rfl ?_
  refine J_iload_n hB dX8_may_1 rfl 1 rfl ?_
  obtain ⟨r_1, h_2, hf⟩ := cl1_e hf
  refine J_callV (As := [.int p0]) (rest := []) (n := 1) (ws' := wM E a b m_stones m_any m_backward m_ring m_two m_brooks m_readRow m_rowNow m_frogOn m_frogs m_kindOf m_moved m_movedFrom m_movedTo m_pageLength m_page m_faultAt m_isWhole m_newMany m_newSigns m_newRow m_long0 m_row m_far m_ways m_queue m_queueEnd m_endMany m_endSoon m_won m_seedNow m_isKept m_keptBrook m_keptMoved m_keptRow m_keptFrog m_keptFrom m_keptTo m_h) hB (c_X8_isStone l E a b m_stones m_any m_backward m_ring m_two m_brooks m_readRow m_rowNow m_frogOn m_frogs m_kindOf m_moved m_movedFrom m_movedTo m_pageLength m_page m_faultAt m_isWhole m_newMany m_newSigns m_newRow m_long0 m_row m_far m_ways m_queue m_queueEnd m_endMany m_endSoon m_won m_seedNow m_isKept m_keptBrook m_keptMoved m_keptRow m_keptFrog m_keptFrom m_keptTo m_h h_2) mi_X8_isStone ⟨ki_X8_isStone, kv_X8_isStone⟩ km_X8_121 ⟨rfl, rfl, Nat.le_of_ble_eq_true rfl, Nat.le_of_ble_eq_true rfl⟩ Lies.same 0 rfl rfl rfl rfl (Nat.le_of_ble_eq_true rfl) dX8_may_2 ?_
  show J l E rX8_may Y (wM E a b m_stones m_any m_backward m_ring m_two m_brooks m_readRow m_rowNow m_frogOn m_frogs m_kindOf m_moved m_movedFrom m_movedTo m_pageLength m_page m_faultAt m_isWhole m_newMany m_newSigns m_newRow m_long0 m_row m_far m_ways m_queue m_queueEnd m_endMany m_endSoon m_won m_seedNow m_isKept m_keptBrook m_keptMoved m_keptRow m_keptFrog m_keptFrom m_keptTo m_h) 5 [(0, .ref (a b)), (1, .int p0), (2, .int p1)] [.int r_1]
  refine J_if_eq (tgt := 16) hB dX8_may_5 rfl (fun c_3 => ?_) (fun c_3 => ?_)
  · have hf := it_t c_3 hf
    refine J_bipush (v := (-101)) hB dX8_may_16 rfl ?_
    obtain rfl := Option.some.inj hf
    exact J_iret hB hR dX8_may_18
  · have hf := it_f c_3 hf
    refine J_aload_n hB dX8_may_8 rfl 0 rfl ?_
    refine J_iload_n hB dX8_may_9 rfl 2 rfl ?_
    obtain ⟨r_4, h_5, hf⟩ := cl1_e hf
    refine J_callV (As := [.int p1]) (rest := []) (n := 1) (ws' := wM E a b m_stones m_any m_backward m_ring m_two m_brooks m_readRow m_rowNow m_frogOn m_frogs m_kindOf m_moved m_movedFrom m_movedTo m_pageLength m_page m_faultAt m_isWhole m_newMany m_newSigns m_newRow m_long0 m_row m_far m_ways m_queue m_queueEnd m_endMany m_endSoon m_won m_seedNow m_isKept m_keptBrook m_keptMoved m_keptRow m_keptFrog m_keptFrom m_keptTo m_h) hB (c_X8_isStone l E a b m_stones m_any m_backward m_ring m_two m_brooks m_readRow m_rowNow m_frogOn m_frogs m_kindOf m_moved m_movedFrom m_movedTo m_pageLength m_page m_faultAt m_isWhole m_newMany m_newSigns m_newRow m_long0 m_row m_far m_ways m_queue m_queueEnd m_endMany m_endSoon m_won m_seedNow m_isKept m_keptBrook m_keptMoved m_keptRow m_keptFrog m_keptFrom m_keptTo m_h h_5) mi_X8_isStone ⟨ki_X8_isStone, kv_X8_isStone⟩ km_X8_121 ⟨rfl, rfl, Nat.le_of_ble_eq_true rfl, Nat.le_of_ble_eq_true rfl⟩ Lies.same 0 rfl rfl rfl rfl (Nat.le_of_ble_eq_true rfl) dX8_may_10 ?_
    show J l E rX8_may Y (wM E a b m_stones m_any m_backward m_ring m_two m_brooks m_readRow m_rowNow m_frogOn m_frogs m_kindOf m_moved m_movedFrom m_movedTo m_pageLength m_page m_faultAt m_isWhole m_newMany m_newSigns m_newRow m_long0 m_row m_far m_ways m_queue m_queueEnd m_endMany m_endSoon m_won m_seedNow m_isKept m_keptBrook m_keptMoved m_keptRow m_keptFrog m_keptFrom m_keptTo m_h) 13 [(0, .ref (a b)), (1, .int p0), (2, .int p1)] [.int r_4]
    refine J_if_ne (tgt := 19) hB dX8_may_13 rfl (fun c_6 => ?_) (fun c_6 => ?_)
    · have hf := it_f c_6 hf
      refine J_aload_n hB dX8_may_19 rfl 0 rfl ?_
      obtain ⟨m_long0_7, m_row_8, h_9, hf⟩ := cl2_e hf
      refine J_callV (As := []) (rest := []) (n := 0) (ws' := wM E a b m_stones m_any m_backward m_ring m_two m_brooks m_readRow m_rowNow m_frogOn m_frogs m_kindOf m_moved m_movedFrom m_movedTo m_pageLength m_page m_faultAt m_isWhole m_newMany m_newSigns m_newRow m_long0_7 m_row_8 m_far m_ways m_queue m_queueEnd m_endMany m_endSoon m_won m_seedNow m_isKept m_keptBrook m_keptMoved m_keptRow m_keptFrog m_keptFrom m_keptTo m_h) hB (c_X8_layNow l E a b m_stones m_any m_backward m_ring m_two m_brooks m_readRow m_rowNow m_frogOn m_frogs m_kindOf m_moved m_movedFrom m_movedTo m_pageLength m_page m_faultAt m_isWhole m_newMany m_newSigns m_newRow m_long0 m_row m_far m_ways m_queue m_queueEnd m_endMany m_endSoon m_won m_seedNow m_isKept m_keptBrook m_keptMoved m_keptRow m_keptFrog m_keptFrom m_keptTo m_h h_9) mi_X8_layNow ⟨ki_X8_layNow, kv_X8_layNow⟩ km_X8_151 ⟨rfl, rfl, Nat.le_of_ble_eq_true rfl, Nat.le_of_ble_eq_true rfl⟩ Lies.same 0 rfl rfl rfl rfl (Nat.le_of_ble_eq_true rfl) dX8_may_20 ?_
      show J l E rX8_may Y (wM E a b m_stones m_any m_backward m_ring m_two m_brooks m_readRow m_rowNow m_frogOn m_frogs m_kindOf m_moved m_movedFrom m_movedTo m_pageLength m_page m_faultAt m_isWhole m_newMany m_newSigns m_newRow m_long0_7 m_row_8 m_far m_ways m_queue m_queueEnd m_endMany m_endSoon m_won m_seedNow m_isKept m_keptBrook m_keptMoved m_keptRow m_keptFrog m_keptFrom m_keptTo m_h) 23 [(0, .ref (a b)), (1, .int p0), (2, .int p1)] []
      refine J_aload_n hB dX8_may_23 rfl 0 rfl ?_
      refine J_iload_n hB dX8_may_24 rfl 1 rfl ?_
      refine J_iload_n hB dX8_may_25 rfl 2 rfl ?_
      obtain ⟨r_10, h_11, hf⟩ := cl1_e hf
      refine J_callV (As := [.int p0, .int p1]) (rest := []) (n := 2) (ws' := wM E a b m_stones m_any m_backward m_ring m_two m_brooks m_readRow m_rowNow m_frogOn m_frogs m_kindOf m_moved m_movedFrom m_movedTo m_pageLength m_page m_faultAt m_isWhole m_newMany m_newSigns m_newRow m_long0_7 m_row_8 m_far m_ways m_queue m_queueEnd m_endMany m_endSoon m_won m_seedNow m_isKept m_keptBrook m_keptMoved m_keptRow m_keptFrog m_keptFrom m_keptTo m_h) hB (c_X8_mayMove l E a b m_stones m_any m_backward m_ring m_two m_brooks m_readRow m_rowNow m_frogOn m_frogs m_kindOf m_moved m_movedFrom m_movedTo m_pageLength m_page m_faultAt m_isWhole m_newMany m_newSigns m_newRow m_long0_7 m_row_8 m_far m_ways m_queue m_queueEnd m_endMany m_endSoon m_won m_seedNow m_isKept m_keptBrook m_keptMoved m_keptRow m_keptFrog m_keptFrom m_keptTo m_h h_11) mi_X8_mayMove ⟨ki_X8_mayMove, kv_X8_mayMove⟩ km_X8_154 ⟨rfl, rfl, Nat.le_of_ble_eq_true rfl, Nat.le_of_ble_eq_true rfl⟩ Lies.same 0 rfl rfl rfl rfl (Nat.le_of_ble_eq_true rfl) dX8_may_26 ?_
      show J l E rX8_may Y (wM E a b m_stones m_any m_backward m_ring m_two m_brooks m_readRow m_rowNow m_frogOn m_frogs m_kindOf m_moved m_movedFrom m_movedTo m_pageLength m_page m_faultAt m_isWhole m_newMany m_newSigns m_newRow m_long0_7 m_row_8 m_far m_ways m_queue m_queueEnd m_endMany m_endSoon m_won m_seedNow m_isKept m_keptBrook m_keptMoved m_keptRow m_keptFrog m_keptFrom m_keptTo m_h) 29 [(0, .ref (a b)), (1, .int p0), (2, .int p1)] [.int r_10]
      refine J_if_eq (tgt := 36) hB dX8_may_29 rfl (fun c_12 => ?_) (fun c_12 => ?_)
      · have hf := it_t c_12 hf
        refine J_iconst (v := 0) hB dX8_may_36 rfl ?_
        obtain rfl := Option.some.inj hf
        exact J_iret hB hR dX8_may_37
      · have hf := it_f c_12 hf
        refine J_iconst (v := 1) hB dX8_may_32 rfl ?_
        refine J_goto (tgt := 37) hB dX8_may_33 rfl ?_
        obtain rfl := Option.some.inj hf
        exact J_iret hB hR dX8_may_37
    · have hf := it_t c_6 hf
      refine J_bipush (v := (-101)) hB dX8_may_16 rfl ?_
      obtain rfl := Option.some.inj hf
      exact J_iret hB hR dX8_may_18
def f_X8_moveMany (m_any : Int32) (m_backward : Int32) (m_ring : Int32) (m_two : Int32) (m_long0 : Int32) (m_row : Nat → Int32) : Option (Int32) :=
lp2_1 (fun (x1_1 : Int32) (x2_2 : Int32) nx4 ex4 =>
if m_long0 ≤ x2_2 then (
ex4 x1_1) else (
lp2_1 (fun (x1_5 : Int32) (x3_6 : Int32) nx14 ex14 =>
if m_long0 ≤ x3_6 then (
ex14 x1_5) else (
cl1 (f_X8_mayMove m_any m_backward m_ring m_two m_long0 m_row x2_2 x3_6) fun r_9 =>
jn1 (fun (s_11 : Int32) =>
nmv (α := Int32) (x1_5 + s_11) fun x1_12 =>
nmv (α := Int32) (x3_6 + 1) fun x3_13 =>
nx14 x1_12 x3_13) fun j37 =>
if r_9 = 0 then (
j37 0) else (
j37 1))) (fun (x1_7 : Int32) =>
nmv (α := Int32) (x2_2 + 1) fun x2_15 =>
nx4 x1_7 x2_15) fuel x1_1 0)) (fun (x1_3 : Int32) =>
some x1_3) fuel 0 0
abbrev rX8_moveMany : Room := { frames := 4, cells := 0, slots := 0, locals := 96 }
set_option maxRecDepth 100000 in
set_option maxHeartbeats 4000000 in
theorem c_X8_moveMany (l : Launch) (E : En) (a : Nat → Nat) (b : Nat) (m_stones : Int32) (m_any : Int32) (m_backward : Int32) (m_ring : Int32) (m_two : Int32) (m_brooks : Int32) (m_readRow : Nat → Int32) (m_rowNow : Nat → Int32) (m_frogOn : Nat → Int32) (m_frogs : Int32) (m_kindOf : Nat → Int32) (m_moved : Int32) (m_movedFrom : Nat → Int32) (m_movedTo : Nat → Int32) (m_pageLength : Int32) (m_page : Nat → Int32) (m_faultAt : Int32) (m_isWhole : Int32) (m_newMany : Int32) (m_newSigns : Int32) (m_newRow : Nat → Int32) (m_long0 : Int32) (m_row : Nat → Int32) (m_far : Nat → Int32) (m_ways : Nat → Int64) (m_queue : Nat → Int32) (m_queueEnd : Int32) (m_endMany : Int32) (m_endSoon : Int32) (m_won : Nat → Int32) (m_seedNow : Int64) (m_isKept : Int32) (m_keptBrook : Int32) (m_keptMoved : Int32) (m_keptRow : Nat → Int32) (m_keptFrog : Nat → Int32) (m_keptFrom : Nat → Int32) (m_keptTo : Nat → Int32) (m_h : Int64) {res : Int32} (hf : f_X8_moveMany m_any m_backward m_ring m_two m_long0 m_row = some res) : Ct l yX8_moveMany (.code yX8_moveMany cX8_moveMany 4 (some .int)) rX8_moveMany E [.ref (a b)] (wM E a b m_stones m_any m_backward m_ring m_two m_brooks m_readRow m_rowNow m_frogOn m_frogs m_kindOf m_moved m_movedFrom m_movedTo m_pageLength m_page m_faultAt m_isWhole m_newMany m_newSigns m_newRow m_long0 m_row m_far m_ways m_queue m_queueEnd m_endMany m_endSoon m_won m_seedNow m_isKept m_keptBrook m_keptMoved m_keptRow m_keptFrog m_keptFrom m_keptTo m_h) (some (.int res)) (wM E a b m_stones m_any m_backward m_ring m_two m_brooks m_readRow m_rowNow m_frogOn m_frogs m_kindOf m_moved m_movedFrom m_movedTo m_pageLength m_page m_faultAt m_isWhole m_newMany m_newSigns m_newRow m_long0 m_row m_far m_ways m_queue m_queueEnd m_endMany m_endSoon m_won m_seedNow m_isKept m_keptBrook m_keptMoved m_keptRow m_keptFrog m_keptFrom m_keptTo m_h) := by
  refine Ct.of (by decide) (Nat.le_of_ble_eq_true rfl) (fun Y hB hR => ?_)
  have hB : Cb E cX8_moveMany RX8 rX8_moveMany 4 Y := hB
  show J l E rX8_moveMany Y (wM E a b m_stones m_any m_backward m_ring m_two m_brooks m_readRow m_rowNow m_frogOn m_frogs m_kindOf m_moved m_movedFrom m_movedTo m_pageLength m_page m_faultAt m_isWhole m_newMany m_newSigns m_newRow m_long0 m_row m_far m_ways m_queue m_queueEnd m_endMany m_endSoon m_won m_seedNow m_isKept m_keptBrook m_keptMoved m_keptRow m_keptFrog m_keptFrom m_keptTo m_h) 0 [(0, .ref (a b))] []
  unfold f_X8_moveMany at hf
  refine J_iconst (v := 0) hB dX8_moveMany_0 rfl ?_
  refine J_istore_n (lv' := [(1, .int 0), (0, .ref (a b))]) hB rfl dX8_moveMany_1 rfl (Nat.le_of_ble_eq_true rfl) rfl ?_
  refine J_iconst (v := 0) hB dX8_moveMany_2 rfl ?_
  refine J_istore_n (lv' := [(2, .int 0), (1, .int 0), (0, .ref (a b))]) hB rfl dX8_moveMany_3 rfl (Nat.le_of_ble_eq_true rfl) rfl ?_
  refine J_lv [2, 1, 0] rfl ?_
  refine lp2_1_J (P := fun x1_1 x2_2 => J l E rX8_moveMany Y (wM E a b m_stones m_any m_backward m_ring m_two m_brooks m_readRow m_rowNow m_frogOn m_frogs m_kindOf m_moved m_movedFrom m_movedTo m_pageLength m_page m_faultAt m_isWhole m_newMany m_newSigns m_newRow m_long0 m_row m_far m_ways m_queue m_queueEnd m_endMany m_endSoon m_won m_seedNow m_isKept m_keptBrook m_keptMoved m_keptRow m_keptFrog m_keptFrom m_keptTo m_h) 4 [(0, .ref (a b)), (1, .int x1_1), (2, .int x2_2)] []) (Q := fun x1_3 => J l E rX8_moveMany Y (wM E a b m_stones m_any m_backward m_ring m_two m_brooks m_readRow m_rowNow m_frogOn m_frogs m_kindOf m_moved m_movedFrom m_movedTo m_pageLength m_page m_faultAt m_isWhole m_newMany m_newSigns m_newRow m_long0 m_row m_far m_ways m_queue m_queueEnd m_endMany m_endSoon m_won m_seedNow m_isKept m_keptBrook m_keptMoved m_keptRow m_keptFrog m_keptFrom m_keptTo m_h) 51 [(1, .int x1_3)] []) (fun x1_1 x2_2 nx4 ex4 hnx4 hex4 hf => ?_) (fun x1_3 hf => ?_) hf
  · refine J_iload_n hB dX8_moveMany_4 rfl 2 rfl ?_
    refine J_aload_n hB dX8_moveMany_5 rfl 0 rfl ?_
    refine J_get (v := .int m_long0) hB inX8 0 rfl rfl 21 (Nat.le_of_ble_eq_true rfl) kf_X8_135 rfl dX8_moveMany_6 ?_
    refine J_icmp_ge (tgt := 51) hB dX8_moveMany_9 rfl (fun c_4 => ?_) (fun c_4 => ?_)
    · have hf := it_t c_4 hf
      exact J_lv [1] rfl (hex4 x1_1 hf)
    · have hf := it_f c_4 hf
      refine J_iconst (v := 0) hB dX8_moveMany_12 rfl ?_
      refine J_istore_n (lv' := [(3, .int 0), (0, .ref (a b)), (1, .int x1_1), (2, .int x2_2)]) hB rfl dX8_moveMany_13 rfl (Nat.le_of_ble_eq_true rfl) rfl ?_
      refine J_lv [1, 2, 3, 0] rfl ?_
      refine lp2_1_J (P := fun x1_5 x3_6 => J l E rX8_moveMany Y (wM E a b m_stones m_any m_backward m_ring m_two m_brooks m_readRow m_rowNow m_frogOn m_frogs m_kindOf m_moved m_movedFrom m_movedTo m_pageLength m_page m_faultAt m_isWhole m_newMany m_newSigns m_newRow m_long0 m_row m_far m_ways m_queue m_queueEnd m_endMany m_endSoon m_won m_seedNow m_isKept m_keptBrook m_keptMoved m_keptRow m_keptFrog m_keptFrom m_keptTo m_h) 14 [(0, .ref (a b)), (1, .int x1_5), (2, .int x2_2), (3, .int x3_6)] []) (Q := fun x1_7 => J l E rX8_moveMany Y (wM E a b m_stones m_any m_backward m_ring m_two m_brooks m_readRow m_rowNow m_frogOn m_frogs m_kindOf m_moved m_movedFrom m_movedTo m_pageLength m_page m_faultAt m_isWhole m_newMany m_newSigns m_newRow m_long0 m_row m_far m_ways m_queue m_queueEnd m_endMany m_endSoon m_won m_seedNow m_isKept m_keptBrook m_keptMoved m_keptRow m_keptFrog m_keptFrom m_keptTo m_h) 45 [(0, .ref (a b)), (1, .int x1_7), (2, .int x2_2)] []) (fun x1_5 x3_6 nx14 ex14 hnx14 hex14 hf => ?_) (fun x1_7 hf => ?_) hf
      · refine J_iload_n hB dX8_moveMany_14 rfl 3 rfl ?_
        refine J_aload_n hB dX8_moveMany_15 rfl 0 rfl ?_
        refine J_get (v := .int m_long0) hB inX8 0 rfl rfl 21 (Nat.le_of_ble_eq_true rfl) kf_X8_135 rfl dX8_moveMany_16 ?_
        refine J_icmp_ge (tgt := 45) hB dX8_moveMany_19 rfl (fun c_8 => ?_) (fun c_8 => ?_)
        · have hf := it_t c_8 hf
          exact J_lv [0, 1, 2] rfl (hex14 x1_5 hf)
        · have hf := it_f c_8 hf
          refine J_iload_n hB dX8_moveMany_22 rfl 1 rfl ?_
          refine J_aload_n hB dX8_moveMany_23 rfl 0 rfl ?_
          refine J_iload_n hB dX8_moveMany_24 rfl 2 rfl ?_
          refine J_iload_n hB dX8_moveMany_25 rfl 3 rfl ?_
          obtain ⟨r_9, h_10, hf⟩ := cl1_e hf
          refine J_callV (As := [.int x2_2, .int x3_6]) (rest := [.int x1_5]) (n := 2) (ws' := wM E a b m_stones m_any m_backward m_ring m_two m_brooks m_readRow m_rowNow m_frogOn m_frogs m_kindOf m_moved m_movedFrom m_movedTo m_pageLength m_page m_faultAt m_isWhole m_newMany m_newSigns m_newRow m_long0 m_row m_far m_ways m_queue m_queueEnd m_endMany m_endSoon m_won m_seedNow m_isKept m_keptBrook m_keptMoved m_keptRow m_keptFrog m_keptFrom m_keptTo m_h) hB (c_X8_mayMove l E a b m_stones m_any m_backward m_ring m_two m_brooks m_readRow m_rowNow m_frogOn m_frogs m_kindOf m_moved m_movedFrom m_movedTo m_pageLength m_page m_faultAt m_isWhole m_newMany m_newSigns m_newRow m_long0 m_row m_far m_ways m_queue m_queueEnd m_endMany m_endSoon m_won m_seedNow m_isKept m_keptBrook m_keptMoved m_keptRow m_keptFrog m_keptFrom m_keptTo m_h h_10) mi_X8_mayMove ⟨ki_X8_mayMove, kv_X8_mayMove⟩ km_X8_154 ⟨rfl, rfl, Nat.le_of_ble_eq_true rfl, Nat.le_of_ble_eq_true rfl⟩ Lies.same 0 rfl rfl rfl rfl (Nat.le_of_ble_eq_true rfl) dX8_moveMany_26 ?_
          show J l E rX8_moveMany Y (wM E a b m_stones m_any m_backward m_ring m_two m_brooks m_readRow m_rowNow m_frogOn m_frogs m_kindOf m_moved m_movedFrom m_movedTo m_pageLength m_page m_faultAt m_isWhole m_newMany m_newSigns m_newRow m_long0 m_row m_far m_ways m_queue m_queueEnd m_endMany m_endSoon m_won m_seedNow m_isKept m_keptBrook m_keptMoved m_keptRow m_keptFrog m_keptFrom m_keptTo m_h) 29 [(0, .ref (a b)), (1, .int x1_5), (2, .int x2_2), (3, .int x3_6)] [.int r_9, .int x1_5]
          refine jn1_e (P := fun s_11 => J l E rX8_moveMany Y (wM E a b m_stones m_any m_backward m_ring m_two m_brooks m_readRow m_rowNow m_frogOn m_frogs m_kindOf m_moved m_movedFrom m_movedTo m_pageLength m_page m_faultAt m_isWhole m_newMany m_newSigns m_newRow m_long0 m_row m_far m_ways m_queue m_queueEnd m_endMany m_endSoon m_won m_seedNow m_isKept m_keptBrook m_keptMoved m_keptRow m_keptFrog m_keptFrom m_keptTo m_h) 37 [(0, .ref (a b)), (2, .int x2_2), (3, .int x3_6)] [.int s_11, .int x1_5]) hf (fun s_11 hf => ?_) (fun j37 hj37 hf => ?_)
          · refine J_iadd hB dX8_moveMany_37 ?_
            obtain ⟨x1_12, ex1_12, hf⟩ := nmv_e hf
            refine J_istore_n (lv' := [(1, .int x1_12), (0, .ref (a b)), (2, .int x2_2), (3, .int x3_6)]) hB ex1_12 dX8_moveMany_38 rfl (Nat.le_of_ble_eq_true rfl) rfl ?_
            obtain ⟨x3_13, ex3_13, hf⟩ := nmv_e hf
            refine J_iinc (lv' := [(3, .int x3_13), (1, .int x1_12), (0, .ref (a b)), (2, .int x2_2)]) hB ex3_13 dX8_moveMany_39 3 rfl (Nat.le_of_ble_eq_true rfl) rfl ?_
            refine J_goto (tgt := 14) hB dX8_moveMany_42 rfl ?_
            exact J_lv [2, 1, 3, 0] rfl (hnx14 x1_12 x3_13 hf)
          · refine J_if_eq (tgt := 36) hB dX8_moveMany_29 rfl (fun c_14 => ?_) (fun c_14 => ?_)
            · have hf := it_t c_14 hf
              refine J_iconst (v := 0) hB dX8_moveMany_36 rfl ?_
              exact J_lv [0, 2, 3] rfl (hj37 0 hf)
            · have hf := it_f c_14 hf
              refine J_iconst (v := 1) hB dX8_moveMany_32 rfl ?_
              refine J_goto (tgt := 37) hB dX8_moveMany_33 rfl ?_
              exact J_lv [0, 2, 3] rfl (hj37 1 hf)
      · obtain ⟨x2_15, ex2_15, hf⟩ := nmv_e hf
        refine J_iinc (lv' := [(2, .int x2_15), (0, .ref (a b)), (1, .int x1_7)]) hB ex2_15 dX8_moveMany_45 2 rfl (Nat.le_of_ble_eq_true rfl) rfl ?_
        refine J_goto (tgt := 4) hB dX8_moveMany_48 rfl ?_
        exact J_lv [1, 2, 0] rfl (hnx4 x1_7 x2_15 hf)
  · refine J_iload_n hB dX8_moveMany_51 rfl 0 rfl ?_
    obtain rfl := Option.some.inj hf
    exact J_iret hB hR dX8_moveMany_52
def f_X8_moves (m_stones : Int32) (m_any : Int32) (m_backward : Int32) (m_ring : Int32) (m_two : Int32) (m_rowNow : Nat → Int32) (m_long0 : Int32) (m_row : Nat → Int32) : Option (Int32 × Int32 × (Nat → Int32)) :=
cl2 (f_X8_layNow m_stones m_rowNow m_long0 m_row) fun m_long0_1 m_row_2 =>
cl1 (f_X8_moveMany m_any m_backward m_ring m_two m_long0_1 m_row_2) fun r_4 =>
some (r_4, m_long0_1, m_row_2)
abbrev rX8_moves : Room := { frames := 5, cells := 0, slots := 0, locals := 119 }
set_option maxRecDepth 100000 in
set_option maxHeartbeats 4000000 in
theorem c_X8_moves (l : Launch) (E : En) (a : Nat → Nat) (b : Nat) (m_stones : Int32) (m_any : Int32) (m_backward : Int32) (m_ring : Int32) (m_two : Int32) (m_brooks : Int32) (m_readRow : Nat → Int32) (m_rowNow : Nat → Int32) (m_frogOn : Nat → Int32) (m_frogs : Int32) (m_kindOf : Nat → Int32) (m_moved : Int32) (m_movedFrom : Nat → Int32) (m_movedTo : Nat → Int32) (m_pageLength : Int32) (m_page : Nat → Int32) (m_faultAt : Int32) (m_isWhole : Int32) (m_newMany : Int32) (m_newSigns : Int32) (m_newRow : Nat → Int32) (m_long0 : Int32) (m_row : Nat → Int32) (m_far : Nat → Int32) (m_ways : Nat → Int64) (m_queue : Nat → Int32) (m_queueEnd : Int32) (m_endMany : Int32) (m_endSoon : Int32) (m_won : Nat → Int32) (m_seedNow : Int64) (m_isKept : Int32) (m_keptBrook : Int32) (m_keptMoved : Int32) (m_keptRow : Nat → Int32) (m_keptFrog : Nat → Int32) (m_keptFrom : Nat → Int32) (m_keptTo : Nat → Int32) (m_h : Int64) {res : Int32 × Int32 × (Nat → Int32)} (hf : f_X8_moves m_stones m_any m_backward m_ring m_two m_rowNow m_long0 m_row = some res) : Ct l yX8_moves (.code yX8_moves cX8_moves 1 (some .int)) rX8_moves E [.ref (a b)] (wM E a b m_stones m_any m_backward m_ring m_two m_brooks m_readRow m_rowNow m_frogOn m_frogs m_kindOf m_moved m_movedFrom m_movedTo m_pageLength m_page m_faultAt m_isWhole m_newMany m_newSigns m_newRow m_long0 m_row m_far m_ways m_queue m_queueEnd m_endMany m_endSoon m_won m_seedNow m_isKept m_keptBrook m_keptMoved m_keptRow m_keptFrog m_keptFrom m_keptTo m_h) (some (.int res.1)) (wM E a b m_stones m_any m_backward m_ring m_two m_brooks m_readRow m_rowNow m_frogOn m_frogs m_kindOf m_moved m_movedFrom m_movedTo m_pageLength m_page m_faultAt m_isWhole m_newMany m_newSigns m_newRow res.2.1 res.2.2 m_far m_ways m_queue m_queueEnd m_endMany m_endSoon m_won m_seedNow m_isKept m_keptBrook m_keptMoved m_keptRow m_keptFrog m_keptFrom m_keptTo m_h) := by
  refine Ct.of (by decide) (Nat.le_of_ble_eq_true rfl) (fun Y hB hR => ?_)
  have hB : Cb E cX8_moves RX8 rX8_moves 1 Y := hB
  show J l E rX8_moves Y (wM E a b m_stones m_any m_backward m_ring m_two m_brooks m_readRow m_rowNow m_frogOn m_frogs m_kindOf m_moved m_movedFrom m_movedTo m_pageLength m_page m_faultAt m_isWhole m_newMany m_newSigns m_newRow m_long0 m_row m_far m_ways m_queue m_queueEnd m_endMany m_endSoon m_won m_seedNow m_isKept m_keptBrook m_keptMoved m_keptRow m_keptFrog m_keptFrom m_keptTo m_h) 0 [(0, .ref (a b))] []
  unfold f_X8_moves at hf
  refine J_aload_n hB dX8_moves_0 rfl 0 rfl ?_
  obtain ⟨m_long0_1, m_row_2, h_3, hf⟩ := cl2_e hf
  refine J_callV (As := []) (rest := []) (n := 0) (ws' := wM E a b m_stones m_any m_backward m_ring m_two m_brooks m_readRow m_rowNow m_frogOn m_frogs m_kindOf m_moved m_movedFrom m_movedTo m_pageLength m_page m_faultAt m_isWhole m_newMany m_newSigns m_newRow m_long0_1 m_row_2 m_far m_ways m_queue m_queueEnd m_endMany m_endSoon m_won m_seedNow m_isKept m_keptBrook m_keptMoved m_keptRow m_keptFrog m_keptFrom m_keptTo m_h) hB (c_X8_layNow l E a b m_stones m_any m_backward m_ring m_two m_brooks m_readRow m_rowNow m_frogOn m_frogs m_kindOf m_moved m_movedFrom m_movedTo m_pageLength m_page m_faultAt m_isWhole m_newMany m_newSigns m_newRow m_long0 m_row m_far m_ways m_queue m_queueEnd m_endMany m_endSoon m_won m_seedNow m_isKept m_keptBrook m_keptMoved m_keptRow m_keptFrog m_keptFrom m_keptTo m_h h_3) mi_X8_layNow ⟨ki_X8_layNow, kv_X8_layNow⟩ km_X8_151 ⟨rfl, rfl, Nat.le_of_ble_eq_true rfl, Nat.le_of_ble_eq_true rfl⟩ Lies.same 0 rfl rfl rfl rfl (Nat.le_of_ble_eq_true rfl) dX8_moves_1 ?_
  show J l E rX8_moves Y (wM E a b m_stones m_any m_backward m_ring m_two m_brooks m_readRow m_rowNow m_frogOn m_frogs m_kindOf m_moved m_movedFrom m_movedTo m_pageLength m_page m_faultAt m_isWhole m_newMany m_newSigns m_newRow m_long0_1 m_row_2 m_far m_ways m_queue m_queueEnd m_endMany m_endSoon m_won m_seedNow m_isKept m_keptBrook m_keptMoved m_keptRow m_keptFrog m_keptFrom m_keptTo m_h) 4 [(0, .ref (a b))] []
  refine J_aload_n hB dX8_moves_4 rfl 0 rfl ?_
  obtain ⟨r_4, h_5, hf⟩ := cl1_e hf
  refine J_callV (As := []) (rest := []) (n := 0) (ws' := wM E a b m_stones m_any m_backward m_ring m_two m_brooks m_readRow m_rowNow m_frogOn m_frogs m_kindOf m_moved m_movedFrom m_movedTo m_pageLength m_page m_faultAt m_isWhole m_newMany m_newSigns m_newRow m_long0_1 m_row_2 m_far m_ways m_queue m_queueEnd m_endMany m_endSoon m_won m_seedNow m_isKept m_keptBrook m_keptMoved m_keptRow m_keptFrog m_keptFrom m_keptTo m_h) hB (c_X8_moveMany l E a b m_stones m_any m_backward m_ring m_two m_brooks m_readRow m_rowNow m_frogOn m_frogs m_kindOf m_moved m_movedFrom m_movedTo m_pageLength m_page m_faultAt m_isWhole m_newMany m_newSigns m_newRow m_long0_1 m_row_2 m_far m_ways m_queue m_queueEnd m_endMany m_endSoon m_won m_seedNow m_isKept m_keptBrook m_keptMoved m_keptRow m_keptFrog m_keptFrom m_keptTo m_h h_5) mi_X8_moveMany ⟨ki_X8_moveMany, kv_X8_moveMany⟩ km_X8_157 ⟨rfl, rfl, Nat.le_of_ble_eq_true rfl, Nat.le_of_ble_eq_true rfl⟩ Lies.same 0 rfl rfl rfl rfl (Nat.le_of_ble_eq_true rfl) dX8_moves_5 ?_
  show J l E rX8_moves Y (wM E a b m_stones m_any m_backward m_ring m_two m_brooks m_readRow m_rowNow m_frogOn m_frogs m_kindOf m_moved m_movedFrom m_movedTo m_pageLength m_page m_faultAt m_isWhole m_newMany m_newSigns m_newRow m_long0_1 m_row_2 m_far m_ways m_queue m_queueEnd m_endMany m_endSoon m_won m_seedNow m_isKept m_keptBrook m_keptMoved m_keptRow m_keptFrog m_keptFrom m_keptTo m_h) 8 [(0, .ref (a b))] [.int r_4]
  obtain rfl := Option.some.inj hf
  exact J_iret hB hR dX8_moves_8
def f_X8_moveNow (m_rowNow : Nat → Int32) (m_frogOn : Nat → Int32) (p0 : Int32) (p1 : Int32) : Option ((Nat → Int32) × (Nat → Int32)) :=
ald 7 m_rowNow p0 fun v_1 =>
astI 7 m_rowNow p1 v_1 fun m_rowNow_3 =>
astI 7 m_rowNow_3 p0 0 fun m_rowNow_5 =>
ald 7 m_frogOn p0 fun v_7 =>
astI 7 m_frogOn p1 v_7 fun m_frogOn_9 =>
astI 7 m_frogOn_9 p0 ((-1)) fun m_frogOn_11 =>
some (m_rowNow_5, m_frogOn_11)
abbrev rX8_moveNow : Room := { frames := 0, cells := 0, slots := 0, locals := 0 }
set_option maxRecDepth 100000 in
set_option maxHeartbeats 4000000 in
theorem c_X8_moveNow (l : Launch) (E : En) (a : Nat → Nat) (b : Nat) (m_stones : Int32) (m_any : Int32) (m_backward : Int32) (m_ring : Int32) (m_two : Int32) (m_brooks : Int32) (m_readRow : Nat → Int32) (m_rowNow : Nat → Int32) (m_frogOn : Nat → Int32) (m_frogs : Int32) (m_kindOf : Nat → Int32) (m_moved : Int32) (m_movedFrom : Nat → Int32) (m_movedTo : Nat → Int32) (m_pageLength : Int32) (m_page : Nat → Int32) (m_faultAt : Int32) (m_isWhole : Int32) (m_newMany : Int32) (m_newSigns : Int32) (m_newRow : Nat → Int32) (m_long0 : Int32) (m_row : Nat → Int32) (m_far : Nat → Int32) (m_ways : Nat → Int64) (m_queue : Nat → Int32) (m_queueEnd : Int32) (m_endMany : Int32) (m_endSoon : Int32) (m_won : Nat → Int32) (m_seedNow : Int64) (m_isKept : Int32) (m_keptBrook : Int32) (m_keptMoved : Int32) (m_keptRow : Nat → Int32) (m_keptFrog : Nat → Int32) (m_keptFrom : Nat → Int32) (m_keptTo : Nat → Int32) (m_h : Int64) {p0 : Int32} {p1 : Int32} {res : (Nat → Int32) × (Nat → Int32)} (hf : f_X8_moveNow m_rowNow m_frogOn p0 p1 = some res) : Ct l yX8_moveNow (.code yX8_moveNow cX8_moveNow 3 none) rX8_moveNow E [.ref (a b), .int p0, .int p1] (wM E a b m_stones m_any m_backward m_ring m_two m_brooks m_readRow m_rowNow m_frogOn m_frogs m_kindOf m_moved m_movedFrom m_movedTo m_pageLength m_page m_faultAt m_isWhole m_newMany m_newSigns m_newRow m_long0 m_row m_far m_ways m_queue m_queueEnd m_endMany m_endSoon m_won m_seedNow m_isKept m_keptBrook m_keptMoved m_keptRow m_keptFrog m_keptFrom m_keptTo m_h) none (wM E a b m_stones m_any m_backward m_ring m_two m_brooks m_readRow res.1 res.2 m_frogs m_kindOf m_moved m_movedFrom m_movedTo m_pageLength m_page m_faultAt m_isWhole m_newMany m_newSigns m_newRow m_long0 m_row m_far m_ways m_queue m_queueEnd m_endMany m_endSoon m_won m_seedNow m_isKept m_keptBrook m_keptMoved m_keptRow m_keptFrog m_keptFrom m_keptTo m_h) := by
  refine Ct.of (by decide) (Nat.le_of_ble_eq_true rfl) (fun Y hB hR => ?_)
  have hB : Cb E cX8_moveNow RX8 rX8_moveNow 3 Y := hB
  show J l E rX8_moveNow Y (wM E a b m_stones m_any m_backward m_ring m_two m_brooks m_readRow m_rowNow m_frogOn m_frogs m_kindOf m_moved m_movedFrom m_movedTo m_pageLength m_page m_faultAt m_isWhole m_newMany m_newSigns m_newRow m_long0 m_row m_far m_ways m_queue m_queueEnd m_endMany m_endSoon m_won m_seedNow m_isKept m_keptBrook m_keptMoved m_keptRow m_keptFrog m_keptFrom m_keptTo m_h) 0 [(0, .ref (a b)), (1, .int p0), (2, .int p1)] []
  unfold f_X8_moveNow at hf
  refine J_aload_n hB dX8_moveNow_0 rfl 0 rfl ?_
  refine J_get (v := .ref (a (b + 2))) hB inX8 0 rfl rfl 7 (Nat.le_of_ble_eq_true rfl) kf_X8_13 rfl dX8_moveNow_1 ?_
  refine J_iload_n hB dX8_moveNow_4 rfl 2 rfl ?_
  refine J_aload_n hB dX8_moveNow_5 rfl 0 rfl ?_
  refine J_get (v := .ref (a (b + 2))) hB inX8 0 rfl rfl 7 (Nat.le_of_ble_eq_true rfl) kf_X8_13 rfl dX8_moveNow_6 ?_
  refine J_iload_n hB dX8_moveNow_9 rfl 1 rfl ?_
  obtain ⟨v_1, ev_1, h_2, hf⟩ := ald_e hf
  refine J_iald hB 2 rfl ev_1 h_2 dX8_moveNow_10 ?_
  obtain ⟨m_rowNow_3, em_rowNow_3, h_4, hf⟩ := astI_e hf
  refine J_iast (ws' := wM E a b m_stones m_any m_backward m_ring m_two m_brooks m_readRow m_rowNow_3 m_frogOn m_frogs m_kindOf m_moved m_movedFrom m_movedTo m_pageLength m_page m_faultAt m_isWhole m_newMany m_newSigns m_newRow m_long0 m_row m_far m_ways m_queue m_queueEnd m_endMany m_endSoon m_won m_seedNow m_isKept m_keptBrook m_keptMoved m_keptRow m_keptFrog m_keptFrom m_keptTo m_h) hB 2 rfl em_rowNow_3 h_4 dX8_moveNow_11 rfl ?_
  refine J_aload_n hB dX8_moveNow_12 rfl 0 rfl ?_
  refine J_get (v := .ref (a (b + 2))) hB inX8 0 rfl rfl 7 (Nat.le_of_ble_eq_true rfl) kf_X8_13 rfl dX8_moveNow_13 ?_
  refine J_iload_n hB dX8_moveNow_16 rfl 1 rfl ?_
  refine J_iconst (v := 0) hB dX8_moveNow_17 rfl ?_
  obtain ⟨m_rowNow_5, em_rowNow_5, h_6, hf⟩ := astI_e hf
  refine J_iast (ws' := wM E a b m_stones m_any m_backward m_ring m_two m_brooks m_readRow m_rowNow_5 m_frogOn m_frogs m_kindOf m_moved m_movedFrom m_movedTo m_pageLength m_page m_faultAt m_isWhole m_newMany m_newSigns m_newRow m_long0 m_row m_far m_ways m_queue m_queueEnd m_endMany m_endSoon m_won m_seedNow m_isKept m_keptBrook m_keptMoved m_keptRow m_keptFrog m_keptFrom m_keptTo m_h) hB 2 rfl em_rowNow_5 h_6 dX8_moveNow_18 rfl ?_
  refine J_aload_n hB dX8_moveNow_19 rfl 0 rfl ?_
  refine J_get (v := .ref (a (b + 3))) hB inX8 0 rfl rfl 8 (Nat.le_of_ble_eq_true rfl) kf_X8_16 rfl dX8_moveNow_20 ?_
  refine J_iload_n hB dX8_moveNow_23 rfl 2 rfl ?_
  refine J_aload_n hB dX8_moveNow_24 rfl 0 rfl ?_
  refine J_get (v := .ref (a (b + 3))) hB inX8 0 rfl rfl 8 (Nat.le_of_ble_eq_true rfl) kf_X8_16 rfl dX8_moveNow_25 ?_
  refine J_iload_n hB dX8_moveNow_28 rfl 1 rfl ?_
  obtain ⟨v_7, ev_7, h_8, hf⟩ := ald_e hf
  refine J_iald hB 3 rfl ev_7 h_8 dX8_moveNow_29 ?_
  obtain ⟨m_frogOn_9, em_frogOn_9, h_10, hf⟩ := astI_e hf
  refine J_iast (ws' := wM E a b m_stones m_any m_backward m_ring m_two m_brooks m_readRow m_rowNow_5 m_frogOn_9 m_frogs m_kindOf m_moved m_movedFrom m_movedTo m_pageLength m_page m_faultAt m_isWhole m_newMany m_newSigns m_newRow m_long0 m_row m_far m_ways m_queue m_queueEnd m_endMany m_endSoon m_won m_seedNow m_isKept m_keptBrook m_keptMoved m_keptRow m_keptFrog m_keptFrom m_keptTo m_h) hB 3 rfl em_frogOn_9 h_10 dX8_moveNow_30 rfl ?_
  refine J_aload_n hB dX8_moveNow_31 rfl 0 rfl ?_
  refine J_get (v := .ref (a (b + 3))) hB inX8 0 rfl rfl 8 (Nat.le_of_ble_eq_true rfl) kf_X8_16 rfl dX8_moveNow_32 ?_
  refine J_iload_n hB dX8_moveNow_35 rfl 1 rfl ?_
  refine J_iconst (v := (-1)) hB dX8_moveNow_36 rfl ?_
  obtain ⟨m_frogOn_11, em_frogOn_11, h_12, hf⟩ := astI_e hf
  refine J_iast (ws' := wM E a b m_stones m_any m_backward m_ring m_two m_brooks m_readRow m_rowNow_5 m_frogOn_11 m_frogs m_kindOf m_moved m_movedFrom m_movedTo m_pageLength m_page m_faultAt m_isWhole m_newMany m_newSigns m_newRow m_long0 m_row m_far m_ways m_queue m_queueEnd m_endMany m_endSoon m_won m_seedNow m_isKept m_keptBrook m_keptMoved m_keptRow m_keptFrog m_keptFrom m_keptTo m_h) hB 3 rfl em_frogOn_11 h_12 dX8_moveNow_37 rfl ?_
  obtain rfl := Option.some.inj hf
  exact J_vret hB hR dX8_moveNow_38
def f_X8_move (m_stones : Int32) (m_any : Int32) (m_backward : Int32) (m_ring : Int32) (m_two : Int32) (m_rowNow : Nat → Int32) (m_frogOn : Nat → Int32) (m_moved : Int32) (m_movedFrom : Nat → Int32) (m_movedTo : Nat → Int32) (m_long0 : Int32) (m_row : Nat → Int32) (p0 : Int32) (p1 : Int32) : Option (Int32 × (Nat → Int32) × (Nat → Int32) × Int32 × (Nat → Int32) × (Nat → Int32) × Int32 × (Nat → Int32)) :=
cl1 (f_X8_isStone m_stones p0) fun r_1 =>
if r_1 = 0 then (
some ((-101), m_rowNow, m_frogOn, m_moved, m_movedFrom, m_movedTo, m_long0, m_row)) else (
cl1 (f_X8_isStone m_stones p1) fun r_4 =>
if r_4 = 0 then (
some ((-101), m_rowNow, m_frogOn, m_moved, m_movedFrom, m_movedTo, m_long0, m_row)) else (
cl2 (f_X8_layNow m_stones m_rowNow m_long0 m_row) fun m_long0_7 m_row_8 =>
cl1 (f_X8_mayMove m_any m_backward m_ring m_two m_long0_7 m_row_8 p0 p1) fun r_10 =>
if r_10 = 0 then (
some ((-103), m_rowNow, m_frogOn, m_moved, m_movedFrom, m_movedTo, m_long0_7, m_row_8)) else (
if m_moved = 60 then (
some ((-104), m_rowNow, m_frogOn, m_moved, m_movedFrom, m_movedTo, m_long0_7, m_row_8)) else (
cl2 (f_X8_moveNow m_rowNow m_frogOn p0 p1) fun m_rowNow_14 m_frogOn_15 =>
astI 60 m_movedFrom m_moved p0 fun m_movedFrom_17 =>
astI 60 m_movedTo m_moved p1 fun m_movedTo_19 =>
nmv (α := Int32) (m_moved + (1 : Int32)) fun m_moved_21 =>
some (m_moved_21, m_rowNow_14, m_frogOn_15, m_moved_21, m_movedFrom_17, m_movedTo_19, m_long0_7, m_row_8)))))
abbrev rX8_move : Room := { frames := 4, cells := 0, slots := 0, locals := 96 }
set_option maxRecDepth 100000 in
set_option maxHeartbeats 4000000 in
theorem c_X8_move (l : Launch) (E : En) (a : Nat → Nat) (b : Nat) (m_stones : Int32) (m_any : Int32) (m_backward : Int32) (m_ring : Int32) (m_two : Int32) (m_brooks : Int32) (m_readRow : Nat → Int32) (m_rowNow : Nat → Int32) (m_frogOn : Nat → Int32) (m_frogs : Int32) (m_kindOf : Nat → Int32) (m_moved : Int32) (m_movedFrom : Nat → Int32) (m_movedTo : Nat → Int32) (m_pageLength : Int32) (m_page : Nat → Int32) (m_faultAt : Int32) (m_isWhole : Int32) (m_newMany : Int32) (m_newSigns : Int32) (m_newRow : Nat → Int32) (m_long0 : Int32) (m_row : Nat → Int32) (m_far : Nat → Int32) (m_ways : Nat → Int64) (m_queue : Nat → Int32) (m_queueEnd : Int32) (m_endMany : Int32) (m_endSoon : Int32) (m_won : Nat → Int32) (m_seedNow : Int64) (m_isKept : Int32) (m_keptBrook : Int32) (m_keptMoved : Int32) (m_keptRow : Nat → Int32) (m_keptFrog : Nat → Int32) (m_keptFrom : Nat → Int32) (m_keptTo : Nat → Int32) (m_h : Int64) {p0 : Int32} {p1 : Int32} {res : Int32 × (Nat → Int32) × (Nat → Int32) × Int32 × (Nat → Int32) × (Nat → Int32) × Int32 × (Nat → Int32)} (hf : f_X8_move m_stones m_any m_backward m_ring m_two m_rowNow m_frogOn m_moved m_movedFrom m_movedTo m_long0 m_row p0 p1 = some res) : Ct l yX8_move (.code yX8_move cX8_move 3 (some .int)) rX8_move E [.ref (a b), .int p0, .int p1] (wM E a b m_stones m_any m_backward m_ring m_two m_brooks m_readRow m_rowNow m_frogOn m_frogs m_kindOf m_moved m_movedFrom m_movedTo m_pageLength m_page m_faultAt m_isWhole m_newMany m_newSigns m_newRow m_long0 m_row m_far m_ways m_queue m_queueEnd m_endMany m_endSoon m_won m_seedNow m_isKept m_keptBrook m_keptMoved m_keptRow m_keptFrog m_keptFrom m_keptTo m_h) (some (.int res.1)) (wM E a b m_stones m_any m_backward m_ring m_two m_brooks m_readRow res.2.1 res.2.2.1 m_frogs m_kindOf res.2.2.2.1 res.2.2.2.2.1 res.2.2.2.2.2.1 m_pageLength m_page m_faultAt m_isWhole m_newMany m_newSigns m_newRow res.2.2.2.2.2.2.1 res.2.2.2.2.2.2.2 m_far m_ways m_queue m_queueEnd m_endMany m_endSoon m_won m_seedNow m_isKept m_keptBrook m_keptMoved m_keptRow m_keptFrog m_keptFrom m_keptTo m_h) := by
  refine Ct.of (by decide) (Nat.le_of_ble_eq_true rfl) (fun Y hB hR => ?_)
  have hB : Cb E cX8_move RX8 rX8_move 3 Y := hB
  show J l E rX8_move Y (wM E a b m_stones m_any m_backward m_ring m_two m_brooks m_readRow m_rowNow m_frogOn m_frogs m_kindOf m_moved m_movedFrom m_movedTo m_pageLength m_page m_faultAt m_isWhole m_newMany m_newSigns m_newRow m_long0 m_row m_far m_ways m_queue m_queueEnd m_endMany m_endSoon m_won m_seedNow m_isKept m_keptBrook m_keptMoved m_keptRow m_keptFrog m_keptFrom m_keptTo m_h) 0 [(0, .ref (a b)), (1, .int p0), (2, .int p1)] []
  unfold f_X8_move at hf
  refine J_aload_n hB dX8_move_0 rfl 0 rfl ?_
  refine J_iload_n hB dX8_move_1 rfl 1 rfl ?_
  obtain ⟨r_1, h_2, hf⟩ := cl1_e hf
  refine J_callV (As := [.int p0]) (rest := []) (n := 1) (ws' := wM E a b m_stones m_any m_backward m_ring m_two m_brooks m_readRow m_rowNow m_frogOn m_frogs m_kindOf m_moved m_movedFrom m_movedTo m_pageLength m_page m_faultAt m_isWhole m_newMany m_newSigns m_newRow m_long0 m_row m_far m_ways m_queue m_queueEnd m_endMany m_endSoon m_won m_seedNow m_isKept m_keptBrook m_keptMoved m_keptRow m_keptFrog m_keptFrom m_keptTo m_h) hB (c_X8_isStone l E a b m_stones m_any m_backward m_ring m_two m_brooks m_readRow m_rowNow m_frogOn m_frogs m_kindOf m_moved m_movedFrom m_movedTo m_pageLength m_page m_faultAt m_isWhole m_newMany m_newSigns m_newRow m_long0 m_row m_far m_ways m_queue m_queueEnd m_endMany m_endSoon m_won m_seedNow m_isKept m_keptBrook m_keptMoved m_keptRow m_keptFrog m_keptFrom m_keptTo m_h h_2) mi_X8_isStone ⟨ki_X8_isStone, kv_X8_isStone⟩ km_X8_121 ⟨rfl, rfl, Nat.le_of_ble_eq_true rfl, Nat.le_of_ble_eq_true rfl⟩ Lies.same 0 rfl rfl rfl rfl (Nat.le_of_ble_eq_true rfl) dX8_move_2 ?_
  show J l E rX8_move Y (wM E a b m_stones m_any m_backward m_ring m_two m_brooks m_readRow m_rowNow m_frogOn m_frogs m_kindOf m_moved m_movedFrom m_movedTo m_pageLength m_page m_faultAt m_isWhole m_newMany m_newSigns m_newRow m_long0 m_row m_far m_ways m_queue m_queueEnd m_endMany m_endSoon m_won m_seedNow m_isKept m_keptBrook m_keptMoved m_keptRow m_keptFrog m_keptFrom m_keptTo m_h) 5 [(0, .ref (a b)), (1, .int p0), (2, .int p1)] [.int r_1]
  refine J_if_eq (tgt := 16) hB dX8_move_5 rfl (fun c_3 => ?_) (fun c_3 => ?_)
  · have hf := it_t c_3 hf
    refine J_bipush (v := (-101)) hB dX8_move_16 rfl ?_
    obtain rfl := Option.some.inj hf
    exact J_iret hB hR dX8_move_18
  · have hf := it_f c_3 hf
    refine J_aload_n hB dX8_move_8 rfl 0 rfl ?_
    refine J_iload_n hB dX8_move_9 rfl 2 rfl ?_
    obtain ⟨r_4, h_5, hf⟩ := cl1_e hf
    refine J_callV (As := [.int p1]) (rest := []) (n := 1) (ws' := wM E a b m_stones m_any m_backward m_ring m_two m_brooks m_readRow m_rowNow m_frogOn m_frogs m_kindOf m_moved m_movedFrom m_movedTo m_pageLength m_page m_faultAt m_isWhole m_newMany m_newSigns m_newRow m_long0 m_row m_far m_ways m_queue m_queueEnd m_endMany m_endSoon m_won m_seedNow m_isKept m_keptBrook m_keptMoved m_keptRow m_keptFrog m_keptFrom m_keptTo m_h) hB (c_X8_isStone l E a b m_stones m_any m_backward m_ring m_two m_brooks m_readRow m_rowNow m_frogOn m_frogs m_kindOf m_moved m_movedFrom m_movedTo m_pageLength m_page m_faultAt m_isWhole m_newMany m_newSigns m_newRow m_long0 m_row m_far m_ways m_queue m_queueEnd m_endMany m_endSoon m_won m_seedNow m_isKept m_keptBrook m_keptMoved m_keptRow m_keptFrog m_keptFrom m_keptTo m_h h_5) mi_X8_isStone ⟨ki_X8_isStone, kv_X8_isStone⟩ km_X8_121 ⟨rfl, rfl, Nat.le_of_ble_eq_true rfl, Nat.le_of_ble_eq_true rfl⟩ Lies.same 0 rfl rfl rfl rfl (Nat.le_of_ble_eq_true rfl) dX8_move_10 ?_
    show J l E rX8_move Y (wM E a b m_stones m_any m_backward m_ring m_two m_brooks m_readRow m_rowNow m_frogOn m_frogs m_kindOf m_moved m_movedFrom m_movedTo m_pageLength m_page m_faultAt m_isWhole m_newMany m_newSigns m_newRow m_long0 m_row m_far m_ways m_queue m_queueEnd m_endMany m_endSoon m_won m_seedNow m_isKept m_keptBrook m_keptMoved m_keptRow m_keptFrog m_keptFrom m_keptTo m_h) 13 [(0, .ref (a b)), (1, .int p0), (2, .int p1)] [.int r_4]
    refine J_if_ne (tgt := 19) hB dX8_move_13 rfl (fun c_6 => ?_) (fun c_6 => ?_)
    · have hf := it_f c_6 hf
      refine J_aload_n hB dX8_move_19 rfl 0 rfl ?_
      obtain ⟨m_long0_7, m_row_8, h_9, hf⟩ := cl2_e hf
      refine J_callV (As := []) (rest := []) (n := 0) (ws' := wM E a b m_stones m_any m_backward m_ring m_two m_brooks m_readRow m_rowNow m_frogOn m_frogs m_kindOf m_moved m_movedFrom m_movedTo m_pageLength m_page m_faultAt m_isWhole m_newMany m_newSigns m_newRow m_long0_7 m_row_8 m_far m_ways m_queue m_queueEnd m_endMany m_endSoon m_won m_seedNow m_isKept m_keptBrook m_keptMoved m_keptRow m_keptFrog m_keptFrom m_keptTo m_h) hB (c_X8_layNow l E a b m_stones m_any m_backward m_ring m_two m_brooks m_readRow m_rowNow m_frogOn m_frogs m_kindOf m_moved m_movedFrom m_movedTo m_pageLength m_page m_faultAt m_isWhole m_newMany m_newSigns m_newRow m_long0 m_row m_far m_ways m_queue m_queueEnd m_endMany m_endSoon m_won m_seedNow m_isKept m_keptBrook m_keptMoved m_keptRow m_keptFrog m_keptFrom m_keptTo m_h h_9) mi_X8_layNow ⟨ki_X8_layNow, kv_X8_layNow⟩ km_X8_151 ⟨rfl, rfl, Nat.le_of_ble_eq_true rfl, Nat.le_of_ble_eq_true rfl⟩ Lies.same 0 rfl rfl rfl rfl (Nat.le_of_ble_eq_true rfl) dX8_move_20 ?_
      show J l E rX8_move Y (wM E a b m_stones m_any m_backward m_ring m_two m_brooks m_readRow m_rowNow m_frogOn m_frogs m_kindOf m_moved m_movedFrom m_movedTo m_pageLength m_page m_faultAt m_isWhole m_newMany m_newSigns m_newRow m_long0_7 m_row_8 m_far m_ways m_queue m_queueEnd m_endMany m_endSoon m_won m_seedNow m_isKept m_keptBrook m_keptMoved m_keptRow m_keptFrog m_keptFrom m_keptTo m_h) 23 [(0, .ref (a b)), (1, .int p0), (2, .int p1)] []
      refine J_aload_n hB dX8_move_23 rfl 0 rfl ?_
      refine J_iload_n hB dX8_move_24 rfl 1 rfl ?_
      refine J_iload_n hB dX8_move_25 rfl 2 rfl ?_
      obtain ⟨r_10, h_11, hf⟩ := cl1_e hf
      refine J_callV (As := [.int p0, .int p1]) (rest := []) (n := 2) (ws' := wM E a b m_stones m_any m_backward m_ring m_two m_brooks m_readRow m_rowNow m_frogOn m_frogs m_kindOf m_moved m_movedFrom m_movedTo m_pageLength m_page m_faultAt m_isWhole m_newMany m_newSigns m_newRow m_long0_7 m_row_8 m_far m_ways m_queue m_queueEnd m_endMany m_endSoon m_won m_seedNow m_isKept m_keptBrook m_keptMoved m_keptRow m_keptFrog m_keptFrom m_keptTo m_h) hB (c_X8_mayMove l E a b m_stones m_any m_backward m_ring m_two m_brooks m_readRow m_rowNow m_frogOn m_frogs m_kindOf m_moved m_movedFrom m_movedTo m_pageLength m_page m_faultAt m_isWhole m_newMany m_newSigns m_newRow m_long0_7 m_row_8 m_far m_ways m_queue m_queueEnd m_endMany m_endSoon m_won m_seedNow m_isKept m_keptBrook m_keptMoved m_keptRow m_keptFrog m_keptFrom m_keptTo m_h h_11) mi_X8_mayMove ⟨ki_X8_mayMove, kv_X8_mayMove⟩ km_X8_154 ⟨rfl, rfl, Nat.le_of_ble_eq_true rfl, Nat.le_of_ble_eq_true rfl⟩ Lies.same 0 rfl rfl rfl rfl (Nat.le_of_ble_eq_true rfl) dX8_move_26 ?_
      show J l E rX8_move Y (wM E a b m_stones m_any m_backward m_ring m_two m_brooks m_readRow m_rowNow m_frogOn m_frogs m_kindOf m_moved m_movedFrom m_movedTo m_pageLength m_page m_faultAt m_isWhole m_newMany m_newSigns m_newRow m_long0_7 m_row_8 m_far m_ways m_queue m_queueEnd m_endMany m_endSoon m_won m_seedNow m_isKept m_keptBrook m_keptMoved m_keptRow m_keptFrog m_keptFrom m_keptTo m_h) 29 [(0, .ref (a b)), (1, .int p0), (2, .int p1)] [.int r_10]
      refine J_if_ne (tgt := 35) hB dX8_move_29 rfl (fun c_12 => ?_) (fun c_12 => ?_)
      · have hf := it_f c_12 hf
        refine J_aload_n hB dX8_move_35 rfl 0 rfl ?_
        refine J_get (v := .int m_moved) hB inX8 0 rfl rfl 11 (Nat.le_of_ble_eq_true rfl) kf_X8_111 rfl dX8_move_36 ?_
        refine J_bipush (v := 60) hB dX8_move_39 rfl ?_
        refine J_icmp_ne (tgt := 47) hB dX8_move_41 rfl (fun c_13 => ?_) (fun c_13 => ?_)
        · have hf := it_f c_13 hf
          refine J_aload_n hB dX8_move_47 rfl 0 rfl ?_
          refine J_iload_n hB dX8_move_48 rfl 1 rfl ?_
          refine J_iload_n hB dX8_move_49 rfl 2 rfl ?_
          obtain ⟨m_rowNow_14, m_frogOn_15, h_16, hf⟩ := cl2_e hf
          refine J_callV (As := [.int p0, .int p1]) (rest := []) (n := 2) (ws' := wM E a b m_stones m_any m_backward m_ring m_two m_brooks m_readRow m_rowNow_14 m_frogOn_15 m_frogs m_kindOf m_moved m_movedFrom m_movedTo m_pageLength m_page m_faultAt m_isWhole m_newMany m_newSigns m_newRow m_long0_7 m_row_8 m_far m_ways m_queue m_queueEnd m_endMany m_endSoon m_won m_seedNow m_isKept m_keptBrook m_keptMoved m_keptRow m_keptFrog m_keptFrom m_keptTo m_h) hB (c_X8_moveNow l E a b m_stones m_any m_backward m_ring m_two m_brooks m_readRow m_rowNow m_frogOn m_frogs m_kindOf m_moved m_movedFrom m_movedTo m_pageLength m_page m_faultAt m_isWhole m_newMany m_newSigns m_newRow m_long0_7 m_row_8 m_far m_ways m_queue m_queueEnd m_endMany m_endSoon m_won m_seedNow m_isKept m_keptBrook m_keptMoved m_keptRow m_keptFrog m_keptFrom m_keptTo m_h h_16) mi_X8_moveNow ⟨ki_X8_moveNow, kv_X8_moveNow⟩ km_X8_161 ⟨rfl, rfl, Nat.le_of_ble_eq_true rfl, Nat.le_of_ble_eq_true rfl⟩ Lies.same 0 rfl rfl rfl rfl (Nat.le_of_ble_eq_true rfl) dX8_move_50 ?_
          show J l E rX8_move Y (wM E a b m_stones m_any m_backward m_ring m_two m_brooks m_readRow m_rowNow_14 m_frogOn_15 m_frogs m_kindOf m_moved m_movedFrom m_movedTo m_pageLength m_page m_faultAt m_isWhole m_newMany m_newSigns m_newRow m_long0_7 m_row_8 m_far m_ways m_queue m_queueEnd m_endMany m_endSoon m_won m_seedNow m_isKept m_keptBrook m_keptMoved m_keptRow m_keptFrog m_keptFrom m_keptTo m_h) 53 [(0, .ref (a b)), (1, .int p0), (2, .int p1)] []
          refine J_aload_n hB dX8_move_53 rfl 0 rfl ?_
          refine J_get (v := .ref (a (b + 5))) hB inX8 0 rfl rfl 12 (Nat.le_of_ble_eq_true rfl) kf_X8_22 rfl dX8_move_54 ?_
          refine J_aload_n hB dX8_move_57 rfl 0 rfl ?_
          refine J_get (v := .int m_moved) hB inX8 0 rfl rfl 11 (Nat.le_of_ble_eq_true rfl) kf_X8_111 rfl dX8_move_58 ?_
          refine J_iload_n hB dX8_move_61 rfl 1 rfl ?_
          obtain ⟨m_movedFrom_17, em_movedFrom_17, h_18, hf⟩ := astI_e hf
          refine J_iast (ws' := wM E a b m_stones m_any m_backward m_ring m_two m_brooks m_readRow m_rowNow_14 m_frogOn_15 m_frogs m_kindOf m_moved m_movedFrom_17 m_movedTo m_pageLength m_page m_faultAt m_isWhole m_newMany m_newSigns m_newRow m_long0_7 m_row_8 m_far m_ways m_queue m_queueEnd m_endMany m_endSoon m_won m_seedNow m_isKept m_keptBrook m_keptMoved m_keptRow m_keptFrog m_keptFrom m_keptTo m_h) hB 5 rfl em_movedFrom_17 h_18 dX8_move_62 rfl ?_
          refine J_aload_n hB dX8_move_63 rfl 0 rfl ?_
          refine J_get (v := .ref (a (b + 6))) hB inX8 0 rfl rfl 13 (Nat.le_of_ble_eq_true rfl) kf_X8_25 rfl dX8_move_64 ?_
          refine J_aload_n hB dX8_move_67 rfl 0 rfl ?_
          refine J_get (v := .int m_moved) hB inX8 0 rfl rfl 11 (Nat.le_of_ble_eq_true rfl) kf_X8_111 rfl dX8_move_68 ?_
          refine J_iload_n hB dX8_move_71 rfl 2 rfl ?_
          obtain ⟨m_movedTo_19, em_movedTo_19, h_20, hf⟩ := astI_e hf
          refine J_iast (ws' := wM E a b m_stones m_any m_backward m_ring m_two m_brooks m_readRow m_rowNow_14 m_frogOn_15 m_frogs m_kindOf m_moved m_movedFrom_17 m_movedTo_19 m_pageLength m_page m_faultAt m_isWhole m_newMany m_newSigns m_newRow m_long0_7 m_row_8 m_far m_ways m_queue m_queueEnd m_endMany m_endSoon m_won m_seedNow m_isKept m_keptBrook m_keptMoved m_keptRow m_keptFrog m_keptFrom m_keptTo m_h) hB 6 rfl em_movedTo_19 h_20 dX8_move_72 rfl ?_
          refine J_aload_n hB dX8_move_73 rfl 0 rfl ?_
          refine J_dup hB dX8_move_74 rfl ?_
          refine J_get (v := .int m_moved) hB inX8 0 rfl rfl 11 (Nat.le_of_ble_eq_true rfl) kf_X8_111 rfl dX8_move_75 ?_
          refine J_iconst (v := 1) hB dX8_move_78 rfl ?_
          refine J_iadd hB dX8_move_79 ?_
          obtain ⟨m_moved_21, em_moved_21, hf⟩ := nmv_e hf
          rw [← em_moved_21]
          refine J_put (ws' := wM E a b m_stones m_any m_backward m_ring m_two m_brooks m_readRow m_rowNow_14 m_frogOn_15 m_frogs m_kindOf m_moved_21 m_movedFrom_17 m_movedTo_19 m_pageLength m_page m_faultAt m_isWhole m_newMany m_newSigns m_newRow m_long0_7 m_row_8 m_far m_ways m_queue m_queueEnd m_endMany m_endSoon m_won m_seedNow m_isKept m_keptBrook m_keptMoved m_keptRow m_keptFrog m_keptFrom m_keptTo m_h) (ty := .int) (v := .int m_moved_21) hB inX8 tyX8 tyX8_ok nmX8 0 rfl rfl 11 (Nat.le_of_ble_eq_true rfl) kf_X8_111 rfl rfl rfl rfl (Nat.le_of_ble_eq_true rfl) dX8_move_80 rfl ?_
          refine J_aload_n hB dX8_move_83 rfl 0 rfl ?_
          refine J_get (v := .int m_moved_21) hB inX8 0 rfl rfl 11 (Nat.le_of_ble_eq_true rfl) kf_X8_111 rfl dX8_move_84 ?_
          obtain rfl := Option.some.inj hf
          exact J_iret hB hR dX8_move_87
        · have hf := it_t c_13 hf
          refine J_bipush (v := (-104)) hB dX8_move_44 rfl ?_
          obtain rfl := Option.some.inj hf
          exact J_iret hB hR dX8_move_46
      · have hf := it_t c_12 hf
        refine J_bipush (v := (-103)) hB dX8_move_32 rfl ?_
        obtain rfl := Option.some.inj hf
        exact J_iret hB hR dX8_move_34
    · have hf := it_t c_6 hf
      refine J_bipush (v := (-101)) hB dX8_move_16 rfl ?_
      obtain rfl := Option.some.inj hf
      exact J_iret hB hR dX8_move_18
def f_X8_back (m_rowNow : Nat → Int32) (m_frogOn : Nat → Int32) (m_moved : Int32) (m_movedFrom : Nat → Int32) (m_movedTo : Nat → Int32) : Option (Int32 × (Nat → Int32) × (Nat → Int32) × Int32) :=
if m_moved = 0 then (
some ((-103), m_rowNow, m_frogOn, m_moved)) else (
nmv (α := Int32) (m_moved - (1 : Int32)) fun m_moved_2 =>
ald 60 m_movedTo m_moved_2 fun v_3 =>
ald 60 m_movedFrom m_moved_2 fun v_5 =>
cl2 (f_X8_moveNow m_rowNow m_frogOn v_3 v_5) fun m_rowNow_7 m_frogOn_8 =>
ald 60 m_movedFrom m_moved_2 fun v_10 =>
some (v_10, m_rowNow_7, m_frogOn_8, m_moved_2))
abbrev rX8_back : Room := { frames := 1, cells := 0, slots := 0, locals := 22 }
set_option maxRecDepth 100000 in
set_option maxHeartbeats 4000000 in
theorem c_X8_back (l : Launch) (E : En) (a : Nat → Nat) (b : Nat) (m_stones : Int32) (m_any : Int32) (m_backward : Int32) (m_ring : Int32) (m_two : Int32) (m_brooks : Int32) (m_readRow : Nat → Int32) (m_rowNow : Nat → Int32) (m_frogOn : Nat → Int32) (m_frogs : Int32) (m_kindOf : Nat → Int32) (m_moved : Int32) (m_movedFrom : Nat → Int32) (m_movedTo : Nat → Int32) (m_pageLength : Int32) (m_page : Nat → Int32) (m_faultAt : Int32) (m_isWhole : Int32) (m_newMany : Int32) (m_newSigns : Int32) (m_newRow : Nat → Int32) (m_long0 : Int32) (m_row : Nat → Int32) (m_far : Nat → Int32) (m_ways : Nat → Int64) (m_queue : Nat → Int32) (m_queueEnd : Int32) (m_endMany : Int32) (m_endSoon : Int32) (m_won : Nat → Int32) (m_seedNow : Int64) (m_isKept : Int32) (m_keptBrook : Int32) (m_keptMoved : Int32) (m_keptRow : Nat → Int32) (m_keptFrog : Nat → Int32) (m_keptFrom : Nat → Int32) (m_keptTo : Nat → Int32) (m_h : Int64) {res : Int32 × (Nat → Int32) × (Nat → Int32) × Int32} (hf : f_X8_back m_rowNow m_frogOn m_moved m_movedFrom m_movedTo = some res) : Ct l yX8_back (.code yX8_back cX8_back 1 (some .int)) rX8_back E [.ref (a b)] (wM E a b m_stones m_any m_backward m_ring m_two m_brooks m_readRow m_rowNow m_frogOn m_frogs m_kindOf m_moved m_movedFrom m_movedTo m_pageLength m_page m_faultAt m_isWhole m_newMany m_newSigns m_newRow m_long0 m_row m_far m_ways m_queue m_queueEnd m_endMany m_endSoon m_won m_seedNow m_isKept m_keptBrook m_keptMoved m_keptRow m_keptFrog m_keptFrom m_keptTo m_h) (some (.int res.1)) (wM E a b m_stones m_any m_backward m_ring m_two m_brooks m_readRow res.2.1 res.2.2.1 m_frogs m_kindOf res.2.2.2 m_movedFrom m_movedTo m_pageLength m_page m_faultAt m_isWhole m_newMany m_newSigns m_newRow m_long0 m_row m_far m_ways m_queue m_queueEnd m_endMany m_endSoon m_won m_seedNow m_isKept m_keptBrook m_keptMoved m_keptRow m_keptFrog m_keptFrom m_keptTo m_h) := by
  refine Ct.of (by decide) (Nat.le_of_ble_eq_true rfl) (fun Y hB hR => ?_)
  have hB : Cb E cX8_back RX8 rX8_back 1 Y := hB
  show J l E rX8_back Y (wM E a b m_stones m_any m_backward m_ring m_two m_brooks m_readRow m_rowNow m_frogOn m_frogs m_kindOf m_moved m_movedFrom m_movedTo m_pageLength m_page m_faultAt m_isWhole m_newMany m_newSigns m_newRow m_long0 m_row m_far m_ways m_queue m_queueEnd m_endMany m_endSoon m_won m_seedNow m_isKept m_keptBrook m_keptMoved m_keptRow m_keptFrog m_keptFrom m_keptTo m_h) 0 [(0, .ref (a b))] []
  unfold f_X8_back at hf
  refine J_aload_n hB dX8_back_0 rfl 0 rfl ?_
  refine J_get (v := .int m_moved) hB inX8 0 rfl rfl 11 (Nat.le_of_ble_eq_true rfl) kf_X8_111 rfl dX8_back_1 ?_
  refine J_if_ne (tgt := 10) hB dX8_back_4 rfl (fun c_1 => ?_) (fun c_1 => ?_)
  · have hf := it_f c_1 hf
    refine J_aload_n hB dX8_back_10 rfl 0 rfl ?_
    refine J_dup hB dX8_back_11 rfl ?_
    refine J_get (v := .int m_moved) hB inX8 0 rfl rfl 11 (Nat.le_of_ble_eq_true rfl) kf_X8_111 rfl dX8_back_12 ?_
    refine J_iconst (v := 1) hB dX8_back_15 rfl ?_
    refine J_isub hB dX8_back_16 ?_
    obtain ⟨m_moved_2, em_moved_2, hf⟩ := nmv_e hf
    rw [← em_moved_2]
    refine J_put (ws' := wM E a b m_stones m_any m_backward m_ring m_two m_brooks m_readRow m_rowNow m_frogOn m_frogs m_kindOf m_moved_2 m_movedFrom m_movedTo m_pageLength m_page m_faultAt m_isWhole m_newMany m_newSigns m_newRow m_long0 m_row m_far m_ways m_queue m_queueEnd m_endMany m_endSoon m_won m_seedNow m_isKept m_keptBrook m_keptMoved m_keptRow m_keptFrog m_keptFrom m_keptTo m_h) (ty := .int) (v := .int m_moved_2) hB inX8 tyX8 tyX8_ok nmX8 0 rfl rfl 11 (Nat.le_of_ble_eq_true rfl) kf_X8_111 rfl rfl rfl rfl (Nat.le_of_ble_eq_true rfl) dX8_back_17 rfl ?_
    refine J_aload_n hB dX8_back_20 rfl 0 rfl ?_
    refine J_aload_n hB dX8_back_21 rfl 0 rfl ?_
    refine J_get (v := .ref (a (b + 6))) hB inX8 0 rfl rfl 13 (Nat.le_of_ble_eq_true rfl) kf_X8_25 rfl dX8_back_22 ?_
    refine J_aload_n hB dX8_back_25 rfl 0 rfl ?_
    refine J_get (v := .int m_moved_2) hB inX8 0 rfl rfl 11 (Nat.le_of_ble_eq_true rfl) kf_X8_111 rfl dX8_back_26 ?_
    obtain ⟨v_3, ev_3, h_4, hf⟩ := ald_e hf
    refine J_iald hB 6 rfl ev_3 h_4 dX8_back_29 ?_
    refine J_aload_n hB dX8_back_30 rfl 0 rfl ?_
    refine J_get (v := .ref (a (b + 5))) hB inX8 0 rfl rfl 12 (Nat.le_of_ble_eq_true rfl) kf_X8_22 rfl dX8_back_31 ?_
    refine J_aload_n hB dX8_back_34 rfl 0 rfl ?_
    refine J_get (v := .int m_moved_2) hB inX8 0 rfl rfl 11 (Nat.le_of_ble_eq_true rfl) kf_X8_111 rfl dX8_back_35 ?_
    obtain ⟨v_5, ev_5, h_6, hf⟩ := ald_e hf
    refine J_iald hB 5 rfl ev_5 h_6 dX8_back_38 ?_
    obtain ⟨m_rowNow_7, m_frogOn_8, h_9, hf⟩ := cl2_e hf
    refine J_callV (As := [.int v_3, .int v_5]) (rest := []) (n := 2) (ws' := wM E a b m_stones m_any m_backward m_ring m_two m_brooks m_readRow m_rowNow_7 m_frogOn_8 m_frogs m_kindOf m_moved_2 m_movedFrom m_movedTo m_pageLength m_page m_faultAt m_isWhole m_newMany m_newSigns m_newRow m_long0 m_row m_far m_ways m_queue m_queueEnd m_endMany m_endSoon m_won m_seedNow m_isKept m_keptBrook m_keptMoved m_keptRow m_keptFrog m_keptFrom m_keptTo m_h) hB (c_X8_moveNow l E a b m_stones m_any m_backward m_ring m_two m_brooks m_readRow m_rowNow m_frogOn m_frogs m_kindOf m_moved_2 m_movedFrom m_movedTo m_pageLength m_page m_faultAt m_isWhole m_newMany m_newSigns m_newRow m_long0 m_row m_far m_ways m_queue m_queueEnd m_endMany m_endSoon m_won m_seedNow m_isKept m_keptBrook m_keptMoved m_keptRow m_keptFrog m_keptFrom m_keptTo m_h h_9) mi_X8_moveNow ⟨ki_X8_moveNow, kv_X8_moveNow⟩ km_X8_161 ⟨rfl, rfl, Nat.le_of_ble_eq_true rfl, Nat.le_of_ble_eq_true rfl⟩ Lies.same 0 rfl rfl rfl rfl (Nat.le_of_ble_eq_true rfl) dX8_back_39 ?_
    show J l E rX8_back Y (wM E a b m_stones m_any m_backward m_ring m_two m_brooks m_readRow m_rowNow_7 m_frogOn_8 m_frogs m_kindOf m_moved_2 m_movedFrom m_movedTo m_pageLength m_page m_faultAt m_isWhole m_newMany m_newSigns m_newRow m_long0 m_row m_far m_ways m_queue m_queueEnd m_endMany m_endSoon m_won m_seedNow m_isKept m_keptBrook m_keptMoved m_keptRow m_keptFrog m_keptFrom m_keptTo m_h) 42 [(0, .ref (a b))] []
    refine J_aload_n hB dX8_back_42 rfl 0 rfl ?_
    refine J_get (v := .ref (a (b + 5))) hB inX8 0 rfl rfl 12 (Nat.le_of_ble_eq_true rfl) kf_X8_22 rfl dX8_back_43 ?_
    refine J_aload_n hB dX8_back_46 rfl 0 rfl ?_
    refine J_get (v := .int m_moved_2) hB inX8 0 rfl rfl 11 (Nat.le_of_ble_eq_true rfl) kf_X8_111 rfl dX8_back_47 ?_
    obtain ⟨v_10, ev_10, h_11, hf⟩ := ald_e hf
    refine J_iald hB 5 rfl ev_10 h_11 dX8_back_50 ?_
    obtain rfl := Option.some.inj hf
    exact J_iret hB hR dX8_back_51
  · have hf := it_t c_1 hf
    refine J_bipush (v := (-103)) hB dX8_back_7 rfl ?_
    obtain rfl := Option.some.inj hf
    exact J_iret hB hR dX8_back_9
def f_X8_power (p0 : Int32) : Option (Int32) :=
lp2_1 (fun (x1_1 : Int32) (x2_2 : Int32) nx4 ex4 =>
if p0 ≤ x2_2 then (
ex4 x1_1) else (
nmv (α := Int32) (x1_1 * (5 : Int32)) fun x1_5 =>
nmv (α := Int32) (x2_2 + 1) fun x2_6 =>
nx4 x1_5 x2_6)) (fun (x1_3 : Int32) =>
some x1_3) fuel 1 0
abbrev rX8_power : Room := { frames := 0, cells := 0, slots := 0, locals := 0 }
set_option maxRecDepth 100000 in
set_option maxHeartbeats 4000000 in
theorem c_X8_power (l : Launch) (E : En) (a : Nat → Nat) {p0 : Int32} {res : Int32} (hf : f_X8_power p0 = some res) : Ct l yX8_power (.code yX8_power cX8_power 3 (some .int)) rX8_power E [.int p0] ([]) (some (.int res)) ([]) := by
  refine Ct.of (by decide) (Nat.le_of_ble_eq_true rfl) (fun Y hB hR => ?_)
  have hB : Cb E cX8_power RX8 rX8_power 3 Y := hB
  show J l E rX8_power Y [] 0 [(0, .int p0)] []
  unfold f_X8_power at hf
  refine J_iconst (v := 1) hB dX8_power_0 rfl ?_
  refine J_istore_n (lv' := [(1, .int 1), (0, .int p0)]) hB rfl dX8_power_1 rfl (Nat.le_of_ble_eq_true rfl) rfl ?_
  refine J_iconst (v := 0) hB dX8_power_2 rfl ?_
  refine J_istore_n (lv' := [(2, .int 0), (1, .int 1), (0, .int p0)]) hB rfl dX8_power_3 rfl (Nat.le_of_ble_eq_true rfl) rfl ?_
  refine J_lv [2, 1, 0] rfl ?_
  refine lp2_1_J (P := fun x1_1 x2_2 => J l E rX8_power Y [] 4 [(0, .int p0), (1, .int x1_1), (2, .int x2_2)] []) (Q := fun x1_3 => J l E rX8_power Y [] 19 [(1, .int x1_3)] []) (fun x1_1 x2_2 nx4 ex4 hnx4 hex4 hf => ?_) (fun x1_3 hf => ?_) hf
  · refine J_iload_n hB dX8_power_4 rfl 2 rfl ?_
    refine J_iload_n hB dX8_power_5 rfl 0 rfl ?_
    refine J_icmp_ge (tgt := 19) hB dX8_power_6 rfl (fun c_4 => ?_) (fun c_4 => ?_)
    · have hf := it_t c_4 hf
      exact J_lv [1] rfl (hex4 x1_1 hf)
    · have hf := it_f c_4 hf
      refine J_iload_n hB dX8_power_9 rfl 1 rfl ?_
      refine J_iconst (v := 5) hB dX8_power_10 rfl ?_
      refine J_imul hB dX8_power_11 ?_
      obtain ⟨x1_5, ex1_5, hf⟩ := nmv_e hf
      refine J_istore_n (lv' := [(1, .int x1_5), (0, .int p0), (2, .int x2_2)]) hB ex1_5 dX8_power_12 rfl (Nat.le_of_ble_eq_true rfl) rfl ?_
      obtain ⟨x2_6, ex2_6, hf⟩ := nmv_e hf
      refine J_iinc (lv' := [(2, .int x2_6), (1, .int x1_5), (0, .int p0)]) hB ex2_6 dX8_power_13 2 rfl (Nat.le_of_ble_eq_true rfl) rfl ?_
      refine J_goto (tgt := 4) hB dX8_power_16 rfl ?_
      exact J_lv [2, 1, 0] rfl (hnx4 x1_5 x2_6 hf)
  · refine J_iload_n hB dX8_power_19 rfl 0 rfl ?_
    obtain rfl := Option.some.inj hf
    exact J_iret hB hR dX8_power_20
def f_X8_codeOf (m_long0 : Int32) (m_row : Nat → Int32) : Option (Int32) :=
nmv (α := Int32) (m_long0 - (1 : Int32)) fun x2_1 =>
lp2_1 (fun (x1_2 : Int32) (x2_3 : Int32) nx9 ex9 =>
if x2_3 < 0 then (
ex9 x1_2) else (
ald 7 m_row x2_3 fun v_6 =>
nmv (α := Int32) (((5 : Int32) * x1_2) + v_6) fun x1_8 =>
nmv (α := Int32) (x2_3 + (-1)) fun x2_9 =>
nx9 x1_8 x2_9)) (fun (x1_4 : Int32) =>
some x1_4) fuel 0 x2_1
abbrev rX8_codeOf : Room := { frames := 0, cells := 0, slots := 0, locals := 0 }
set_option maxRecDepth 100000 in
set_option maxHeartbeats 4000000 in
theorem c_X8_codeOf (l : Launch) (E : En) (a : Nat → Nat) (b : Nat) (m_stones : Int32) (m_any : Int32) (m_backward : Int32) (m_ring : Int32) (m_two : Int32) (m_brooks : Int32) (m_readRow : Nat → Int32) (m_rowNow : Nat → Int32) (m_frogOn : Nat → Int32) (m_frogs : Int32) (m_kindOf : Nat → Int32) (m_moved : Int32) (m_movedFrom : Nat → Int32) (m_movedTo : Nat → Int32) (m_pageLength : Int32) (m_page : Nat → Int32) (m_faultAt : Int32) (m_isWhole : Int32) (m_newMany : Int32) (m_newSigns : Int32) (m_newRow : Nat → Int32) (m_long0 : Int32) (m_row : Nat → Int32) (m_far : Nat → Int32) (m_ways : Nat → Int64) (m_queue : Nat → Int32) (m_queueEnd : Int32) (m_endMany : Int32) (m_endSoon : Int32) (m_won : Nat → Int32) (m_seedNow : Int64) (m_isKept : Int32) (m_keptBrook : Int32) (m_keptMoved : Int32) (m_keptRow : Nat → Int32) (m_keptFrog : Nat → Int32) (m_keptFrom : Nat → Int32) (m_keptTo : Nat → Int32) (m_h : Int64) {res : Int32} (hf : f_X8_codeOf m_long0 m_row = some res) : Ct l yX8_codeOf (.code yX8_codeOf cX8_codeOf 3 (some .int)) rX8_codeOf E [.ref (a b)] (wM E a b m_stones m_any m_backward m_ring m_two m_brooks m_readRow m_rowNow m_frogOn m_frogs m_kindOf m_moved m_movedFrom m_movedTo m_pageLength m_page m_faultAt m_isWhole m_newMany m_newSigns m_newRow m_long0 m_row m_far m_ways m_queue m_queueEnd m_endMany m_endSoon m_won m_seedNow m_isKept m_keptBrook m_keptMoved m_keptRow m_keptFrog m_keptFrom m_keptTo m_h) (some (.int res)) (wM E a b m_stones m_any m_backward m_ring m_two m_brooks m_readRow m_rowNow m_frogOn m_frogs m_kindOf m_moved m_movedFrom m_movedTo m_pageLength m_page m_faultAt m_isWhole m_newMany m_newSigns m_newRow m_long0 m_row m_far m_ways m_queue m_queueEnd m_endMany m_endSoon m_won m_seedNow m_isKept m_keptBrook m_keptMoved m_keptRow m_keptFrog m_keptFrom m_keptTo m_h) := by
  refine Ct.of (by decide) (Nat.le_of_ble_eq_true rfl) (fun Y hB hR => ?_)
  have hB : Cb E cX8_codeOf RX8 rX8_codeOf 3 Y := hB
  show J l E rX8_codeOf Y (wM E a b m_stones m_any m_backward m_ring m_two m_brooks m_readRow m_rowNow m_frogOn m_frogs m_kindOf m_moved m_movedFrom m_movedTo m_pageLength m_page m_faultAt m_isWhole m_newMany m_newSigns m_newRow m_long0 m_row m_far m_ways m_queue m_queueEnd m_endMany m_endSoon m_won m_seedNow m_isKept m_keptBrook m_keptMoved m_keptRow m_keptFrog m_keptFrom m_keptTo m_h) 0 [(0, .ref (a b))] []
  unfold f_X8_codeOf at hf
  refine J_iconst (v := 0) hB dX8_codeOf_0 rfl ?_
  refine J_istore_n (lv' := [(1, .int 0), (0, .ref (a b))]) hB rfl dX8_codeOf_1 rfl (Nat.le_of_ble_eq_true rfl) rfl ?_
  refine J_aload_n hB dX8_codeOf_2 rfl 1 rfl ?_
  refine J_get (v := .int m_long0) hB inX8 0 rfl rfl 21 (Nat.le_of_ble_eq_true rfl) kf_X8_135 rfl dX8_codeOf_3 ?_
  refine J_iconst (v := 1) hB dX8_codeOf_6 rfl ?_
  refine J_isub hB dX8_codeOf_7 ?_
  obtain ⟨x2_1, ex2_1, hf⟩ := nmv_e hf
  refine J_istore_n (lv' := [(2, .int x2_1), (1, .int 0), (0, .ref (a b))]) hB ex2_1 dX8_codeOf_8 rfl (Nat.le_of_ble_eq_true rfl) rfl ?_
  refine J_lv [2, 1, 0] rfl ?_
  refine lp2_1_J (P := fun x1_2 x2_3 => J l E rX8_codeOf Y (wM E a b m_stones m_any m_backward m_ring m_two m_brooks m_readRow m_rowNow m_frogOn m_frogs m_kindOf m_moved m_movedFrom m_movedTo m_pageLength m_page m_faultAt m_isWhole m_newMany m_newSigns m_newRow m_long0 m_row m_far m_ways m_queue m_queueEnd m_endMany m_endSoon m_won m_seedNow m_isKept m_keptBrook m_keptMoved m_keptRow m_keptFrog m_keptFrom m_keptTo m_h) 9 [(0, .ref (a b)), (1, .int x1_2), (2, .int x2_3)] []) (Q := fun x1_4 => J l E rX8_codeOf Y (wM E a b m_stones m_any m_backward m_ring m_two m_brooks m_readRow m_rowNow m_frogOn m_frogs m_kindOf m_moved m_movedFrom m_movedTo m_pageLength m_page m_faultAt m_isWhole m_newMany m_newSigns m_newRow m_long0 m_row m_far m_ways m_queue m_queueEnd m_endMany m_endSoon m_won m_seedNow m_isKept m_keptBrook m_keptMoved m_keptRow m_keptFrog m_keptFrom m_keptTo m_h) 30 [(1, .int x1_4)] []) (fun x1_2 x2_3 nx9 ex9 hnx9 hex9 hf => ?_) (fun x1_4 hf => ?_) hf
  · refine J_iload_n hB dX8_codeOf_9 rfl 2 rfl ?_
    refine J_if_lt (tgt := 30) hB dX8_codeOf_10 rfl (fun c_5 => ?_) (fun c_5 => ?_)
    · have hf := it_t c_5 hf
      exact J_lv [1] rfl (hex9 x1_2 hf)
    · have hf := it_f c_5 hf
      refine J_iconst (v := 5) hB dX8_codeOf_13 rfl ?_
      refine J_iload_n hB dX8_codeOf_14 rfl 1 rfl ?_
      refine J_imul hB dX8_codeOf_15 ?_
      refine J_aload_n hB dX8_codeOf_16 rfl 0 rfl ?_
      refine J_get (v := .ref (a (b + 9))) hB inX8 0 rfl rfl 22 (Nat.le_of_ble_eq_true rfl) kf_X8_35 rfl dX8_codeOf_17 ?_
      refine J_iload_n hB dX8_codeOf_20 rfl 2 rfl ?_
      obtain ⟨v_6, ev_6, h_7, hf⟩ := ald_e hf
      refine J_iald hB 9 rfl ev_6 h_7 dX8_codeOf_21 ?_
      refine J_iadd hB dX8_codeOf_22 ?_
      obtain ⟨x1_8, ex1_8, hf⟩ := nmv_e hf
      refine J_istore_n (lv' := [(1, .int x1_8), (0, .ref (a b)), (2, .int x2_3)]) hB ex1_8 dX8_codeOf_23 rfl (Nat.le_of_ble_eq_true rfl) rfl ?_
      obtain ⟨x2_9, ex2_9, hf⟩ := nmv_e hf
      refine J_iinc (lv' := [(2, .int x2_9), (1, .int x1_8), (0, .ref (a b))]) hB (ex2_9.trans (congrArg (fun z : Int32 => x2_3 + z) (by decide +kernel))) dX8_codeOf_24 2 rfl (Nat.le_of_ble_eq_true rfl) rfl ?_
      refine J_goto (tgt := 9) hB dX8_codeOf_27 rfl ?_
      exact J_lv [2, 1, 0] rfl (hnx9 x1_8 x2_9 hf)
  · refine J_iload_n hB dX8_codeOf_30 rfl 0 rfl ?_
    obtain rfl := Option.some.inj hf
    exact J_iret hB hR dX8_codeOf_31
def f_X8_turnedCode (m_long0 : Int32) (m_row : Nat → Int32) : Option (Int32) :=
lp2_1 (fun (x1_1 : Int32) (x2_2 : Int32) nx4 ex4 =>
if m_long0 ≤ x2_2 then (
ex4 x1_1) else (
ald 7 m_row x2_2 fun v_5 =>
nmv (α := Int32) (((5 : Int32) * x1_1) + v_5) fun x1_7 =>
nmv (α := Int32) (x2_2 + 1) fun x2_8 =>
nx4 x1_7 x2_8)) (fun (x1_3 : Int32) =>
some x1_3) fuel 0 0
abbrev rX8_turnedCode : Room := { frames := 0, cells := 0, slots := 0, locals := 0 }
set_option maxRecDepth 100000 in
set_option maxHeartbeats 4000000 in
theorem c_X8_turnedCode (l : Launch) (E : En) (a : Nat → Nat) (b : Nat) (m_stones : Int32) (m_any : Int32) (m_backward : Int32) (m_ring : Int32) (m_two : Int32) (m_brooks : Int32) (m_readRow : Nat → Int32) (m_rowNow : Nat → Int32) (m_frogOn : Nat → Int32) (m_frogs : Int32) (m_kindOf : Nat → Int32) (m_moved : Int32) (m_movedFrom : Nat → Int32) (m_movedTo : Nat → Int32) (m_pageLength : Int32) (m_page : Nat → Int32) (m_faultAt : Int32) (m_isWhole : Int32) (m_newMany : Int32) (m_newSigns : Int32) (m_newRow : Nat → Int32) (m_long0 : Int32) (m_row : Nat → Int32) (m_far : Nat → Int32) (m_ways : Nat → Int64) (m_queue : Nat → Int32) (m_queueEnd : Int32) (m_endMany : Int32) (m_endSoon : Int32) (m_won : Nat → Int32) (m_seedNow : Int64) (m_isKept : Int32) (m_keptBrook : Int32) (m_keptMoved : Int32) (m_keptRow : Nat → Int32) (m_keptFrog : Nat → Int32) (m_keptFrom : Nat → Int32) (m_keptTo : Nat → Int32) (m_h : Int64) {res : Int32} (hf : f_X8_turnedCode m_long0 m_row = some res) : Ct l yX8_turnedCode (.code yX8_turnedCode cX8_turnedCode 3 (some .int)) rX8_turnedCode E [.ref (a b)] (wM E a b m_stones m_any m_backward m_ring m_two m_brooks m_readRow m_rowNow m_frogOn m_frogs m_kindOf m_moved m_movedFrom m_movedTo m_pageLength m_page m_faultAt m_isWhole m_newMany m_newSigns m_newRow m_long0 m_row m_far m_ways m_queue m_queueEnd m_endMany m_endSoon m_won m_seedNow m_isKept m_keptBrook m_keptMoved m_keptRow m_keptFrog m_keptFrom m_keptTo m_h) (some (.int res)) (wM E a b m_stones m_any m_backward m_ring m_two m_brooks m_readRow m_rowNow m_frogOn m_frogs m_kindOf m_moved m_movedFrom m_movedTo m_pageLength m_page m_faultAt m_isWhole m_newMany m_newSigns m_newRow m_long0 m_row m_far m_ways m_queue m_queueEnd m_endMany m_endSoon m_won m_seedNow m_isKept m_keptBrook m_keptMoved m_keptRow m_keptFrog m_keptFrom m_keptTo m_h) := by
  refine Ct.of (by decide) (Nat.le_of_ble_eq_true rfl) (fun Y hB hR => ?_)
  have hB : Cb E cX8_turnedCode RX8 rX8_turnedCode 3 Y := hB
  show J l E rX8_turnedCode Y (wM E a b m_stones m_any m_backward m_ring m_two m_brooks m_readRow m_rowNow m_frogOn m_frogs m_kindOf m_moved m_movedFrom m_movedTo m_pageLength m_page m_faultAt m_isWhole m_newMany m_newSigns m_newRow m_long0 m_row m_far m_ways m_queue m_queueEnd m_endMany m_endSoon m_won m_seedNow m_isKept m_keptBrook m_keptMoved m_keptRow m_keptFrog m_keptFrom m_keptTo m_h) 0 [(0, .ref (a b))] []
  unfold f_X8_turnedCode at hf
  refine J_iconst (v := 0) hB dX8_turnedCode_0 rfl ?_
  refine J_istore_n (lv' := [(1, .int 0), (0, .ref (a b))]) hB rfl dX8_turnedCode_1 rfl (Nat.le_of_ble_eq_true rfl) rfl ?_
  refine J_iconst (v := 0) hB dX8_turnedCode_2 rfl ?_
  refine J_istore_n (lv' := [(2, .int 0), (1, .int 0), (0, .ref (a b))]) hB rfl dX8_turnedCode_3 rfl (Nat.le_of_ble_eq_true rfl) rfl ?_
  refine J_lv [2, 1, 0] rfl ?_
  refine lp2_1_J (P := fun x1_1 x2_2 => J l E rX8_turnedCode Y (wM E a b m_stones m_any m_backward m_ring m_two m_brooks m_readRow m_rowNow m_frogOn m_frogs m_kindOf m_moved m_movedFrom m_movedTo m_pageLength m_page m_faultAt m_isWhole m_newMany m_newSigns m_newRow m_long0 m_row m_far m_ways m_queue m_queueEnd m_endMany m_endSoon m_won m_seedNow m_isKept m_keptBrook m_keptMoved m_keptRow m_keptFrog m_keptFrom m_keptTo m_h) 4 [(0, .ref (a b)), (1, .int x1_1), (2, .int x2_2)] []) (Q := fun x1_3 => J l E rX8_turnedCode Y (wM E a b m_stones m_any m_backward m_ring m_two m_brooks m_readRow m_rowNow m_frogOn m_frogs m_kindOf m_moved m_movedFrom m_movedTo m_pageLength m_page m_faultAt m_isWhole m_newMany m_newSigns m_newRow m_long0 m_row m_far m_ways m_queue m_queueEnd m_endMany m_endSoon m_won m_seedNow m_isKept m_keptBrook m_keptMoved m_keptRow m_keptFrog m_keptFrom m_keptTo m_h) 29 [(1, .int x1_3)] []) (fun x1_1 x2_2 nx4 ex4 hnx4 hex4 hf => ?_) (fun x1_3 hf => ?_) hf
  · refine J_iload_n hB dX8_turnedCode_4 rfl 2 rfl ?_
    refine J_aload_n hB dX8_turnedCode_5 rfl 0 rfl ?_
    refine J_get (v := .int m_long0) hB inX8 0 rfl rfl 21 (Nat.le_of_ble_eq_true rfl) kf_X8_135 rfl dX8_turnedCode_6 ?_
    refine J_icmp_ge (tgt := 29) hB dX8_turnedCode_9 rfl (fun c_4 => ?_) (fun c_4 => ?_)
    · have hf := it_t c_4 hf
      exact J_lv [1] rfl (hex4 x1_1 hf)
    · have hf := it_f c_4 hf
      refine J_iconst (v := 5) hB dX8_turnedCode_12 rfl ?_
      refine J_iload_n hB dX8_turnedCode_13 rfl 1 rfl ?_
      refine J_imul hB dX8_turnedCode_14 ?_
      refine J_aload_n hB dX8_turnedCode_15 rfl 0 rfl ?_
      refine J_get (v := .ref (a (b + 9))) hB inX8 0 rfl rfl 22 (Nat.le_of_ble_eq_true rfl) kf_X8_35 rfl dX8_turnedCode_16 ?_
      refine J_iload_n hB dX8_turnedCode_19 rfl 2 rfl ?_
      obtain ⟨v_5, ev_5, h_6, hf⟩ := ald_e hf
      refine J_iald hB 9 rfl ev_5 h_6 dX8_turnedCode_20 ?_
      refine J_iadd hB dX8_turnedCode_21 ?_
      obtain ⟨x1_7, ex1_7, hf⟩ := nmv_e hf
      refine J_istore_n (lv' := [(1, .int x1_7), (0, .ref (a b)), (2, .int x2_2)]) hB ex1_7 dX8_turnedCode_22 rfl (Nat.le_of_ble_eq_true rfl) rfl ?_
      obtain ⟨x2_8, ex2_8, hf⟩ := nmv_e hf
      refine J_iinc (lv' := [(2, .int x2_8), (1, .int x1_7), (0, .ref (a b))]) hB ex2_8 dX8_turnedCode_23 2 rfl (Nat.le_of_ble_eq_true rfl) rfl ?_
      refine J_goto (tgt := 4) hB dX8_turnedCode_26 rfl ?_
      exact J_lv [2, 1, 0] rfl (hnx4 x1_7 x2_8 hf)
  · refine J_iload_n hB dX8_turnedCode_29 rfl 0 rfl ?_
    obtain rfl := Option.some.inj hf
    exact J_iret hB hR dX8_turnedCode_30
def f_X8_layRow (m_long0 : Int32) (m_row : Nat → Int32) (p0 : Int32) : Option ((Nat → Int32)) :=
lp3_1 (fun (x2_1 : Int32) (x3_2 : Int32) (m_row_3 : Nat → Int32) nx4 ex4 =>
if m_long0 ≤ x3_2 then (
ex4 m_row_3) else (
iremK x2_1 5 fun v_6 =>
astI 7 m_row_3 x3_2 v_6 fun m_row_8 =>
idivK x2_1 5 fun v_10 =>
nmv (α := Int32) (x3_2 + 1) fun x3_12 =>
nx4 v_10 x3_12 m_row_8)) (fun (m_row_4 : Nat → Int32) =>
some m_row_4) fuel p0 0 m_row
abbrev rX8_layRow : Room := { frames := 0, cells := 0, slots := 0, locals := 0 }
set_option maxRecDepth 100000 in
set_option maxHeartbeats 4000000 in
theorem c_X8_layRow (l : Launch) (E : En) (a : Nat → Nat) (b : Nat) (m_stones : Int32) (m_any : Int32) (m_backward : Int32) (m_ring : Int32) (m_two : Int32) (m_brooks : Int32) (m_readRow : Nat → Int32) (m_rowNow : Nat → Int32) (m_frogOn : Nat → Int32) (m_frogs : Int32) (m_kindOf : Nat → Int32) (m_moved : Int32) (m_movedFrom : Nat → Int32) (m_movedTo : Nat → Int32) (m_pageLength : Int32) (m_page : Nat → Int32) (m_faultAt : Int32) (m_isWhole : Int32) (m_newMany : Int32) (m_newSigns : Int32) (m_newRow : Nat → Int32) (m_long0 : Int32) (m_row : Nat → Int32) (m_far : Nat → Int32) (m_ways : Nat → Int64) (m_queue : Nat → Int32) (m_queueEnd : Int32) (m_endMany : Int32) (m_endSoon : Int32) (m_won : Nat → Int32) (m_seedNow : Int64) (m_isKept : Int32) (m_keptBrook : Int32) (m_keptMoved : Int32) (m_keptRow : Nat → Int32) (m_keptFrog : Nat → Int32) (m_keptFrom : Nat → Int32) (m_keptTo : Nat → Int32) (m_h : Int64) {p0 : Int32} {res : (Nat → Int32)} (hf : f_X8_layRow m_long0 m_row p0 = some res) : Ct l yX8_layRow (.code yX8_layRow cX8_layRow 4 none) rX8_layRow E [.ref (a b), .int p0] (wM E a b m_stones m_any m_backward m_ring m_two m_brooks m_readRow m_rowNow m_frogOn m_frogs m_kindOf m_moved m_movedFrom m_movedTo m_pageLength m_page m_faultAt m_isWhole m_newMany m_newSigns m_newRow m_long0 m_row m_far m_ways m_queue m_queueEnd m_endMany m_endSoon m_won m_seedNow m_isKept m_keptBrook m_keptMoved m_keptRow m_keptFrog m_keptFrom m_keptTo m_h) none (wM E a b m_stones m_any m_backward m_ring m_two m_brooks m_readRow m_rowNow m_frogOn m_frogs m_kindOf m_moved m_movedFrom m_movedTo m_pageLength m_page m_faultAt m_isWhole m_newMany m_newSigns m_newRow m_long0 res m_far m_ways m_queue m_queueEnd m_endMany m_endSoon m_won m_seedNow m_isKept m_keptBrook m_keptMoved m_keptRow m_keptFrog m_keptFrom m_keptTo m_h) := by
  refine Ct.of (by decide) (Nat.le_of_ble_eq_true rfl) (fun Y hB hR => ?_)
  have hB : Cb E cX8_layRow RX8 rX8_layRow 4 Y := hB
  show J l E rX8_layRow Y (wM E a b m_stones m_any m_backward m_ring m_two m_brooks m_readRow m_rowNow m_frogOn m_frogs m_kindOf m_moved m_movedFrom m_movedTo m_pageLength m_page m_faultAt m_isWhole m_newMany m_newSigns m_newRow m_long0 m_row m_far m_ways m_queue m_queueEnd m_endMany m_endSoon m_won m_seedNow m_isKept m_keptBrook m_keptMoved m_keptRow m_keptFrog m_keptFrom m_keptTo m_h) 0 [(0, .ref (a b)), (1, .int p0)] []
  unfold f_X8_layRow at hf
  refine J_iload_n hB dX8_layRow_0 rfl 1 rfl ?_
  refine J_istore_n (lv' := [(2, .int p0), (0, .ref (a b)), (1, .int p0)]) hB rfl dX8_layRow_1 rfl (Nat.le_of_ble_eq_true rfl) rfl ?_
  refine J_iconst (v := 0) hB dX8_layRow_2 rfl ?_
  refine J_istore_n (lv' := [(3, .int 0), (2, .int p0), (0, .ref (a b)), (1, .int p0)]) hB rfl dX8_layRow_3 rfl (Nat.le_of_ble_eq_true rfl) rfl ?_
  refine J_lv [2, 1, 0] rfl ?_
  refine lp3_1_J (P := fun x2_1 x3_2 m_row_3 => J l E rX8_layRow Y (wM E a b m_stones m_any m_backward m_ring m_two m_brooks m_readRow m_rowNow m_frogOn m_frogs m_kindOf m_moved m_movedFrom m_movedTo m_pageLength m_page m_faultAt m_isWhole m_newMany m_newSigns m_newRow m_long0 m_row_3 m_far m_ways m_queue m_queueEnd m_endMany m_endSoon m_won m_seedNow m_isKept m_keptBrook m_keptMoved m_keptRow m_keptFrog m_keptFrom m_keptTo m_h) 4 [(0, .ref (a b)), (2, .int x2_1), (3, .int x3_2)] []) (Q := fun m_row_4 => J l E rX8_layRow Y (wM E a b m_stones m_any m_backward m_ring m_two m_brooks m_readRow m_rowNow m_frogOn m_frogs m_kindOf m_moved m_movedFrom m_movedTo m_pageLength m_page m_faultAt m_isWhole m_newMany m_newSigns m_newRow m_long0 m_row_4 m_far m_ways m_queue m_queueEnd m_endMany m_endSoon m_won m_seedNow m_isKept m_keptBrook m_keptMoved m_keptRow m_keptFrog m_keptFrom m_keptTo m_h) 31 [] []) (fun x2_1 x3_2 m_row_3 nx4 ex4 hnx4 hex4 hf => ?_) (fun m_row_4 hf => ?_) hf
  · refine J_iload_n hB dX8_layRow_4 rfl 2 rfl ?_
    refine J_aload_n hB dX8_layRow_5 rfl 0 rfl ?_
    refine J_get (v := .int m_long0) hB inX8 0 rfl rfl 21 (Nat.le_of_ble_eq_true rfl) kf_X8_135 rfl dX8_layRow_6 ?_
    refine J_icmp_ge (tgt := 31) hB dX8_layRow_9 rfl (fun c_5 => ?_) (fun c_5 => ?_)
    · have hf := it_t c_5 hf
      exact J_lv [] rfl (hex4 m_row_3 hf)
    · have hf := it_f c_5 hf
      refine J_aload_n hB dX8_layRow_12 rfl 0 rfl ?_
      refine J_get (v := .ref (a (b + 9))) hB inX8 0 rfl rfl 22 (Nat.le_of_ble_eq_true rfl) kf_X8_35 rfl dX8_layRow_13 ?_
      refine J_iload_n hB dX8_layRow_16 rfl 2 rfl ?_
      refine J_iload_n hB dX8_layRow_17 rfl 1 rfl ?_
      refine J_iconst (v := 5) hB dX8_layRow_18 rfl ?_
      obtain ⟨v_6, ev_6, h_7, hf⟩ := iremK_e hf
      refine J_irem hB dX8_layRow_19 h_7 ?_
      rw [← ev_6]
      obtain ⟨m_row_8, em_row_8, h_9, hf⟩ := astI_e hf
      refine J_iast (ws' := wM E a b m_stones m_any m_backward m_ring m_two m_brooks m_readRow m_rowNow m_frogOn m_frogs m_kindOf m_moved m_movedFrom m_movedTo m_pageLength m_page m_faultAt m_isWhole m_newMany m_newSigns m_newRow m_long0 m_row_8 m_far m_ways m_queue m_queueEnd m_endMany m_endSoon m_won m_seedNow m_isKept m_keptBrook m_keptMoved m_keptRow m_keptFrog m_keptFrom m_keptTo m_h) hB 9 rfl em_row_8 h_9 dX8_layRow_20 rfl ?_
      refine J_iload_n hB dX8_layRow_21 rfl 1 rfl ?_
      refine J_iconst (v := 5) hB dX8_layRow_22 rfl ?_
      obtain ⟨v_10, ev_10, h_11, hf⟩ := idivK_e hf
      refine J_idiv hB dX8_layRow_23 h_11 ?_
      rw [← ev_10]
      refine J_istore_n (lv' := [(2, .int v_10), (0, .ref (a b)), (3, .int x3_2)]) hB rfl dX8_layRow_24 rfl (Nat.le_of_ble_eq_true rfl) rfl ?_
      obtain ⟨x3_12, ex3_12, hf⟩ := nmv_e hf
      refine J_iinc (lv' := [(3, .int x3_12), (2, .int v_10), (0, .ref (a b))]) hB ex3_12 dX8_layRow_25 2 rfl (Nat.le_of_ble_eq_true rfl) rfl ?_
      refine J_goto (tgt := 4) hB dX8_layRow_28 rfl ?_
      exact J_lv [2, 1, 0] rfl (hnx4 v_10 x3_12 m_row_8 hf)
  · obtain rfl := Option.some.inj hf
    exact J_vret hB hR dX8_layRow_31
def f_X8_behindMove (p0 : Int32) (p1 : Int32) (p2 : Int32) (p3 : Int32) : Option (Int32) :=
cl1 (f_X8_power p2) fun r_1 =>
cl1 (f_X8_power p3) fun r_3 =>
some ((p0 - (p1 * r_1)) + (p1 * r_3))
abbrev rX8_behindMove : Room := { frames := 1, cells := 0, slots := 0, locals := 22 }
set_option maxRecDepth 100000 in
set_option maxHeartbeats 4000000 in
theorem c_X8_behindMove (l : Launch) (E : En) (a : Nat → Nat) {p0 : Int32} {p1 : Int32} {p2 : Int32} {p3 : Int32} {res : Int32} (hf : f_X8_behindMove p0 p1 p2 p3 = some res) : Ct l yX8_behindMove (.code yX8_behindMove cX8_behindMove 4 (some .int)) rX8_behindMove E [.int p0, .int p1, .int p2, .int p3] ([]) (some (.int res)) ([]) := by
  refine Ct.of (by decide) (Nat.le_of_ble_eq_true rfl) (fun Y hB hR => ?_)
  have hB : Cb E cX8_behindMove RX8 rX8_behindMove 4 Y := hB
  show J l E rX8_behindMove Y [] 0 [(0, .int p0), (1, .int p1), (2, .int p2), (3, .int p3)] []
  unfold f_X8_behindMove at hf
  refine J_iload_n hB dX8_behindMove_0 rfl 0 rfl ?_
  refine J_iload_n hB dX8_behindMove_1 rfl 1 rfl ?_
  refine J_iload_n hB dX8_behindMove_2 rfl 2 rfl ?_
  obtain ⟨r_1, h_2, hf⟩ := cl1_e hf
  refine J_callS (As := [.int p2]) (rest := [.int p1, .int p0]) (n := 1) (ws' := []) hB (c_X8_power l E a h_2) mi_X8_power ks_X8_power km_X8_165 ⟨rfl, rfl, Nat.le_of_ble_eq_true rfl, Nat.le_of_ble_eq_true rfl⟩ Lies.none rfl rfl (Nat.le_of_ble_eq_true rfl) dX8_behindMove_3 ?_
  show J l E rX8_behindMove Y [] 6 [(0, .int p0), (1, .int p1), (2, .int p2), (3, .int p3)] [.int r_1, .int p1, .int p0]
  refine J_imul hB dX8_behindMove_6 ?_
  refine J_isub hB dX8_behindMove_7 ?_
  refine J_iload_n hB dX8_behindMove_8 rfl 1 rfl ?_
  refine J_iload_n hB dX8_behindMove_9 rfl 3 rfl ?_
  obtain ⟨r_3, h_4, hf⟩ := cl1_e hf
  refine J_callS (As := [.int p3]) (rest := [.int p1, .int (p0 - (p1 * r_1))]) (n := 1) (ws' := []) hB (c_X8_power l E a h_4) mi_X8_power ks_X8_power km_X8_165 ⟨rfl, rfl, Nat.le_of_ble_eq_true rfl, Nat.le_of_ble_eq_true rfl⟩ Lies.none rfl rfl (Nat.le_of_ble_eq_true rfl) dX8_behindMove_10 ?_
  show J l E rX8_behindMove Y [] 13 [(0, .int p0), (1, .int p1), (2, .int p2), (3, .int p3)] [.int r_3, .int p1, .int (p0 - (p1 * r_1))]
  refine J_imul hB dX8_behindMove_13 ?_
  refine J_iadd hB dX8_behindMove_14 ?_
  obtain rfl := Option.some.inj hf
  exact J_iret hB hR dX8_behindMove_15
def f_X8_come (m_far : Nat → Int32) (m_ways : Nat → Int64) (m_queue : Nat → Int32) (m_queueEnd : Int32) (p0 : Int32) (p1 : Int32) : Option ((Nat → Int32) × (Nat → Int64) × (Nat → Int32) × Int32) :=
ald 78125 m_far p0 fun v_1 =>
jn3 (fun (m_far_3 : Nat → Int32) (m_queue_4 : Nat → Int32) (m_queueEnd_5 : Int32) =>
ald 78125 m_ways p0 fun v_6 =>
jn1 (fun (s_8 : Int64) =>
astL 78125 m_ways p0 (v_6 + s_8) fun m_ways_9 =>
some (m_far_3, m_ways_9, m_queue_4, m_queueEnd_5)) fun j95 =>
if p1 = ((-1)) then (
j95 1) else (
ald 78125 m_far_3 p0 fun v_12 =>
ald 78125 m_far_3 p1 fun v_14 =>
if v_12 = (v_14 + (1 : Int32)) then (
ald 78125 m_ways p1 fun v_17 =>
j95 v_17) else (
j95 0))) fun j52 =>
if v_1 = 0 then (
jn1 (fun (s_20 : Int32) =>
astI 78125 m_far p0 s_20 fun m_far_21 =>
astI 78125 m_queue m_queueEnd p0 fun m_queue_23 =>
nmv (α := Int32) (m_queueEnd + (1 : Int32)) fun m_queueEnd_25 =>
j52 m_far_21 m_queue_23 m_queueEnd_25) fun j31 =>
if p1 = ((-1)) then (
j31 1) else (
ald 78125 m_far p1 fun v_27 =>
j31 (v_27 + (1 : Int32)))) else (
j52 m_far m_queue m_queueEnd)
abbrev rX8_come : Room := { frames := 0, cells := 0, slots := 0, locals := 0 }
set_option maxRecDepth 100000 in
set_option maxHeartbeats 4000000 in
theorem c_X8_come (l : Launch) (E : En) (a : Nat → Nat) (b : Nat) (m_stones : Int32) (m_any : Int32) (m_backward : Int32) (m_ring : Int32) (m_two : Int32) (m_brooks : Int32) (m_readRow : Nat → Int32) (m_rowNow : Nat → Int32) (m_frogOn : Nat → Int32) (m_frogs : Int32) (m_kindOf : Nat → Int32) (m_moved : Int32) (m_movedFrom : Nat → Int32) (m_movedTo : Nat → Int32) (m_pageLength : Int32) (m_page : Nat → Int32) (m_faultAt : Int32) (m_isWhole : Int32) (m_newMany : Int32) (m_newSigns : Int32) (m_newRow : Nat → Int32) (m_long0 : Int32) (m_row : Nat → Int32) (m_far : Nat → Int32) (m_ways : Nat → Int64) (m_queue : Nat → Int32) (m_queueEnd : Int32) (m_endMany : Int32) (m_endSoon : Int32) (m_won : Nat → Int32) (m_seedNow : Int64) (m_isKept : Int32) (m_keptBrook : Int32) (m_keptMoved : Int32) (m_keptRow : Nat → Int32) (m_keptFrog : Nat → Int32) (m_keptFrom : Nat → Int32) (m_keptTo : Nat → Int32) (m_h : Int64) {p0 : Int32} {p1 : Int32} {res : (Nat → Int32) × (Nat → Int64) × (Nat → Int32) × Int32} (hf : f_X8_come m_far m_ways m_queue m_queueEnd p0 p1 = some res) : Ct l yX8_come (.code yX8_come cX8_come 3 none) rX8_come E [.ref (a b), .int p0, .int p1] (wM E a b m_stones m_any m_backward m_ring m_two m_brooks m_readRow m_rowNow m_frogOn m_frogs m_kindOf m_moved m_movedFrom m_movedTo m_pageLength m_page m_faultAt m_isWhole m_newMany m_newSigns m_newRow m_long0 m_row m_far m_ways m_queue m_queueEnd m_endMany m_endSoon m_won m_seedNow m_isKept m_keptBrook m_keptMoved m_keptRow m_keptFrog m_keptFrom m_keptTo m_h) none (wM E a b m_stones m_any m_backward m_ring m_two m_brooks m_readRow m_rowNow m_frogOn m_frogs m_kindOf m_moved m_movedFrom m_movedTo m_pageLength m_page m_faultAt m_isWhole m_newMany m_newSigns m_newRow m_long0 m_row res.1 res.2.1 res.2.2.1 res.2.2.2 m_endMany m_endSoon m_won m_seedNow m_isKept m_keptBrook m_keptMoved m_keptRow m_keptFrog m_keptFrom m_keptTo m_h) := by
  refine Ct.of (by decide) (Nat.le_of_ble_eq_true rfl) (fun Y hB hR => ?_)
  have hB : Cb E cX8_come RX8 rX8_come 3 Y := hB
  show J l E rX8_come Y (wM E a b m_stones m_any m_backward m_ring m_two m_brooks m_readRow m_rowNow m_frogOn m_frogs m_kindOf m_moved m_movedFrom m_movedTo m_pageLength m_page m_faultAt m_isWhole m_newMany m_newSigns m_newRow m_long0 m_row m_far m_ways m_queue m_queueEnd m_endMany m_endSoon m_won m_seedNow m_isKept m_keptBrook m_keptMoved m_keptRow m_keptFrog m_keptFrom m_keptTo m_h) 0 [(0, .ref (a b)), (1, .int p0), (2, .int p1)] []
  unfold f_X8_come at hf
  refine J_aload_n hB dX8_come_0 rfl 0 rfl ?_
  refine J_get (v := .ref (a (b + 10))) hB inX8 0 rfl rfl 23 (Nat.le_of_ble_eq_true rfl) kf_X8_39 rfl dX8_come_1 ?_
  refine J_iload_n hB dX8_come_4 rfl 1 rfl ?_
  obtain ⟨v_1, ev_1, h_2, hf⟩ := ald_e hf
  refine J_iald hB 10 rfl ev_1 h_2 dX8_come_5 ?_
  refine jn3_e (P := fun m_far_3 m_queue_4 m_queueEnd_5 => J l E rX8_come Y (wM E a b m_stones m_any m_backward m_ring m_two m_brooks m_readRow m_rowNow m_frogOn m_frogs m_kindOf m_moved m_movedFrom m_movedTo m_pageLength m_page m_faultAt m_isWhole m_newMany m_newSigns m_newRow m_long0 m_row m_far_3 m_ways m_queue_4 m_queueEnd_5 m_endMany m_endSoon m_won m_seedNow m_isKept m_keptBrook m_keptMoved m_keptRow m_keptFrog m_keptFrom m_keptTo m_h) 52 [(0, .ref (a b)), (1, .int p0), (2, .int p1)] []) hf (fun m_far_3 m_queue_4 m_queueEnd_5 hf => ?_) (fun j52 hj52 hf => ?_)
  · refine J_aload_n hB dX8_come_52 rfl 0 rfl ?_
    refine J_get (v := .ref (a (b + 11))) hB inX8 0 rfl rfl 24 (Nat.le_of_ble_eq_true rfl) kf_X8_42 rfl dX8_come_53 ?_
    refine J_iload_n hB dX8_come_56 rfl 1 rfl ?_
    refine J_dup2 hB dX8_come_57 rfl rfl ?_
    obtain ⟨v_6, ev_6, h_7, hf⟩ := ald_e hf
    refine J_lald hB 11 rfl ev_6 h_7 dX8_come_58 ?_
    refine J_iload_n hB dX8_come_59 rfl 2 rfl ?_
    refine J_iconst (v := (-1)) hB dX8_come_60 rfl ?_
    refine jn1_e (P := fun s_8 => J l E rX8_come Y (wM E a b m_stones m_any m_backward m_ring m_two m_brooks m_readRow m_rowNow m_frogOn m_frogs m_kindOf m_moved m_movedFrom m_movedTo m_pageLength m_page m_faultAt m_isWhole m_newMany m_newSigns m_newRow m_long0 m_row m_far_3 m_ways m_queue_4 m_queueEnd_5 m_endMany m_endSoon m_won m_seedNow m_isKept m_keptBrook m_keptMoved m_keptRow m_keptFrog m_keptFrom m_keptTo m_h) 95 [] [.long s_8, .long v_6, .int p0, .ref (a (b + 11))]) hf (fun s_8 hf => ?_) (fun j95 hj95 hf => ?_)
    · refine J_ladd hB dX8_come_95 ?_
      obtain ⟨m_ways_9, em_ways_9, h_10, hf⟩ := astL_e hf
      refine J_last (ws' := wM E a b m_stones m_any m_backward m_ring m_two m_brooks m_readRow m_rowNow m_frogOn m_frogs m_kindOf m_moved m_movedFrom m_movedTo m_pageLength m_page m_faultAt m_isWhole m_newMany m_newSigns m_newRow m_long0 m_row m_far_3 m_ways_9 m_queue_4 m_queueEnd_5 m_endMany m_endSoon m_won m_seedNow m_isKept m_keptBrook m_keptMoved m_keptRow m_keptFrog m_keptFrom m_keptTo m_h) hB 11 rfl em_ways_9 h_10 dX8_come_96 rfl ?_
      obtain rfl := Option.some.inj hf
      exact J_vret hB hR dX8_come_97
    · refine J_icmp_ne (tgt := 68) hB dX8_come_61 rfl (fun c_11 => ?_) (fun c_11 => ?_)
      · have hf := it_f c_11 hf
        refine J_aload_n hB dX8_come_68 rfl 0 rfl ?_
        refine J_get (v := .ref (a (b + 10))) hB inX8 0 rfl rfl 23 (Nat.le_of_ble_eq_true rfl) kf_X8_39 rfl dX8_come_69 ?_
        refine J_iload_n hB dX8_come_72 rfl 1 rfl ?_
        obtain ⟨v_12, ev_12, h_13, hf⟩ := ald_e hf
        refine J_iald hB 10 rfl ev_12 h_13 dX8_come_73 ?_
        refine J_aload_n hB dX8_come_74 rfl 0 rfl ?_
        refine J_get (v := .ref (a (b + 10))) hB inX8 0 rfl rfl 23 (Nat.le_of_ble_eq_true rfl) kf_X8_39 rfl dX8_come_75 ?_
        refine J_iload_n hB dX8_come_78 rfl 2 rfl ?_
        obtain ⟨v_14, ev_14, h_15, hf⟩ := ald_e hf
        refine J_iald hB 10 rfl ev_14 h_15 dX8_come_79 ?_
        refine J_iconst (v := 1) hB dX8_come_80 rfl ?_
        refine J_iadd hB dX8_come_81 ?_
        refine J_icmp_ne (tgt := 94) hB dX8_come_82 rfl (fun c_16 => ?_) (fun c_16 => ?_)
        · have hf := it_f c_16 hf
          refine J_lconst (v := 0) hB dX8_come_94 rfl ?_
          exact J_lv [] rfl (hj95 0 hf)
        · have hf := it_t c_16 hf
          refine J_aload_n hB dX8_come_85 rfl 0 rfl ?_
          refine J_get (v := .ref (a (b + 11))) hB inX8 0 rfl rfl 24 (Nat.le_of_ble_eq_true rfl) kf_X8_42 rfl dX8_come_86 ?_
          refine J_iload_n hB dX8_come_89 rfl 2 rfl ?_
          obtain ⟨v_17, ev_17, h_18, hf⟩ := ald_e hf
          refine J_lald hB 11 rfl ev_17 h_18 dX8_come_90 ?_
          refine J_goto (tgt := 95) hB dX8_come_91 rfl ?_
          exact J_lv [] rfl (hj95 v_17 hf)
      · have hf := it_t c_11 hf
        refine J_lconst (v := 1) hB dX8_come_64 rfl ?_
        refine J_goto (tgt := 95) hB dX8_come_65 rfl ?_
        exact J_lv [] rfl (hj95 1 hf)
  · refine J_if_ne (tgt := 52) hB dX8_come_6 rfl (fun c_19 => ?_) (fun c_19 => ?_)
    · have hf := it_f c_19 hf
      exact J_lv [0, 1, 2] rfl (hj52 m_far m_queue m_queueEnd hf)
    · have hf := it_t c_19 hf
      refine J_aload_n hB dX8_come_9 rfl 0 rfl ?_
      refine J_get (v := .ref (a (b + 10))) hB inX8 0 rfl rfl 23 (Nat.le_of_ble_eq_true rfl) kf_X8_39 rfl dX8_come_10 ?_
      refine J_iload_n hB dX8_come_13 rfl 1 rfl ?_
      refine J_iload_n hB dX8_come_14 rfl 2 rfl ?_
      refine J_iconst (v := (-1)) hB dX8_come_15 rfl ?_
      refine jn1_e (P := fun s_20 => J l E rX8_come Y (wM E a b m_stones m_any m_backward m_ring m_two m_brooks m_readRow m_rowNow m_frogOn m_frogs m_kindOf m_moved m_movedFrom m_movedTo m_pageLength m_page m_faultAt m_isWhole m_newMany m_newSigns m_newRow m_long0 m_row m_far m_ways m_queue m_queueEnd m_endMany m_endSoon m_won m_seedNow m_isKept m_keptBrook m_keptMoved m_keptRow m_keptFrog m_keptFrom m_keptTo m_h) 31 [(0, .ref (a b)), (1, .int p0), (2, .int p1)] [.int s_20, .int p0, .ref (a (b + 10))]) hf (fun s_20 hf => ?_) (fun j31 hj31 hf => ?_)
      · obtain ⟨m_far_21, em_far_21, h_22, hf⟩ := astI_e hf
        refine J_iast (ws' := wM E a b m_stones m_any m_backward m_ring m_two m_brooks m_readRow m_rowNow m_frogOn m_frogs m_kindOf m_moved m_movedFrom m_movedTo m_pageLength m_page m_faultAt m_isWhole m_newMany m_newSigns m_newRow m_long0 m_row m_far_21 m_ways m_queue m_queueEnd m_endMany m_endSoon m_won m_seedNow m_isKept m_keptBrook m_keptMoved m_keptRow m_keptFrog m_keptFrom m_keptTo m_h) hB 10 rfl em_far_21 h_22 dX8_come_31 rfl ?_
        refine J_aload_n hB dX8_come_32 rfl 0 rfl ?_
        refine J_get (v := .ref (a (b + 12))) hB inX8 0 rfl rfl 25 (Nat.le_of_ble_eq_true rfl) kf_X8_46 rfl dX8_come_33 ?_
        refine J_aload_n hB dX8_come_36 rfl 0 rfl ?_
        refine J_get (v := .int m_queueEnd) hB inX8 0 rfl rfl 26 (Nat.le_of_ble_eq_true rfl) kf_X8_168 rfl dX8_come_37 ?_
        refine J_iload_n hB dX8_come_40 rfl 1 rfl ?_
        obtain ⟨m_queue_23, em_queue_23, h_24, hf⟩ := astI_e hf
        refine J_iast (ws' := wM E a b m_stones m_any m_backward m_ring m_two m_brooks m_readRow m_rowNow m_frogOn m_frogs m_kindOf m_moved m_movedFrom m_movedTo m_pageLength m_page m_faultAt m_isWhole m_newMany m_newSigns m_newRow m_long0 m_row m_far_21 m_ways m_queue_23 m_queueEnd m_endMany m_endSoon m_won m_seedNow m_isKept m_keptBrook m_keptMoved m_keptRow m_keptFrog m_keptFrom m_keptTo m_h) hB 12 rfl em_queue_23 h_24 dX8_come_41 rfl ?_
        refine J_aload_n hB dX8_come_42 rfl 0 rfl ?_
        refine J_dup hB dX8_come_43 rfl ?_
        refine J_get (v := .int m_queueEnd) hB inX8 0 rfl rfl 26 (Nat.le_of_ble_eq_true rfl) kf_X8_168 rfl dX8_come_44 ?_
        refine J_iconst (v := 1) hB dX8_come_47 rfl ?_
        refine J_iadd hB dX8_come_48 ?_
        obtain ⟨m_queueEnd_25, em_queueEnd_25, hf⟩ := nmv_e hf
        rw [← em_queueEnd_25]
        refine J_put (ws' := wM E a b m_stones m_any m_backward m_ring m_two m_brooks m_readRow m_rowNow m_frogOn m_frogs m_kindOf m_moved m_movedFrom m_movedTo m_pageLength m_page m_faultAt m_isWhole m_newMany m_newSigns m_newRow m_long0 m_row m_far_21 m_ways m_queue_23 m_queueEnd_25 m_endMany m_endSoon m_won m_seedNow m_isKept m_keptBrook m_keptMoved m_keptRow m_keptFrog m_keptFrom m_keptTo m_h) (ty := .int) (v := .int m_queueEnd_25) hB inX8 tyX8 tyX8_ok nmX8 0 rfl rfl 26 (Nat.le_of_ble_eq_true rfl) kf_X8_168 rfl rfl rfl rfl (Nat.le_of_ble_eq_true rfl) dX8_come_49 rfl ?_
        exact J_lv [0, 1, 2] rfl (hj52 m_far_21 m_queue_23 m_queueEnd_25 hf)
      · refine J_icmp_ne (tgt := 23) hB dX8_come_16 rfl (fun c_26 => ?_) (fun c_26 => ?_)
        · have hf := it_f c_26 hf
          refine J_aload_n hB dX8_come_23 rfl 0 rfl ?_
          refine J_get (v := .ref (a (b + 10))) hB inX8 0 rfl rfl 23 (Nat.le_of_ble_eq_true rfl) kf_X8_39 rfl dX8_come_24 ?_
          refine J_iload_n hB dX8_come_27 rfl 2 rfl ?_
          obtain ⟨v_27, ev_27, h_28, hf⟩ := ald_e hf
          refine J_iald hB 10 rfl ev_27 h_28 dX8_come_28 ?_
          refine J_iconst (v := 1) hB dX8_come_29 rfl ?_
          refine J_iadd hB dX8_come_30 ?_
          exact J_lv [0, 1, 2] rfl (hj31 (v_27 + (1 : Int32)) hf)
        · have hf := it_t c_26 hf
          refine J_iconst (v := 1) hB dX8_come_19 rfl ?_
          refine J_goto (tgt := 31) hB dX8_come_20 rfl ?_
          exact J_lv [0, 1, 2] rfl (hj31 1 hf)
def f_X8_layFar (m_any : Int32) (m_backward : Int32) (m_ring : Int32) (m_two : Int32) (m_long0 : Int32) (m_row : Nat → Int32) (m_far : Nat → Int32) (m_ways : Nat → Int64) (m_queue : Nat → Int32) (m_queueEnd : Int32) : Option ((Nat → Int32) × (Nat → Int32) × (Nat → Int64) × (Nat → Int32) × Int32) :=
lp3_2 (fun (x1_1 : Int32) (m_far_2 : Nat → Int32) (m_ways_3 : Nat → Int64) nx2 ex2 =>
if m_queueEnd ≤ x1_1 then (
ex2 m_far_2 m_ways_3) else (
ald 78125 m_queue x1_1 fun v_7 =>
astI 78125 m_far_2 v_7 0 fun m_far_9 =>
ald 78125 m_queue x1_1 fun v_11 =>
astL 78125 m_ways_3 v_11 0 fun m_ways_13 =>
nmv (α := Int32) (x1_1 + 1) fun x1_15 =>
nx2 x1_15 m_far_9 m_ways_13)) (fun (m_far_4 : Nat → Int32) (m_ways_5 : Nat → Int64) =>
cl1 (f_X8_codeOf m_long0 m_row) fun r_16 =>
cl4 (f_X8_come m_far_4 m_ways_5 m_queue 0 r_16 ((-1))) fun m_far_18 m_ways_19 m_queue_20 m_queueEnd_21 =>
lp6_5 (fun (x1_23 : Int32) (m_row_24 : Nat → Int32) (m_far_25 : Nat → Int32) (m_ways_26 : Nat → Int64) (m_queue_27 : Nat → Int32) (m_queueEnd_28 : Int32) nx56 ex56 =>
if m_queueEnd_28 ≤ x1_23 then (
ex56 m_row_24 m_far_25 m_ways_26 m_queue_27 m_queueEnd_28) else (
ald 78125 m_queue_27 x1_23 fun v_35 =>
cl1 (f_X8_layRow m_long0 m_row_24 v_35) fun m_row_37 =>
lp5_4 (fun (x3_39 : Int32) (m_far_40 : Nat → Int32) (m_ways_41 : Nat → Int64) (m_queue_42 : Nat → Int32) (m_queueEnd_43 : Int32) nx78 ex78 =>
if m_long0 ≤ x3_39 then (
ex78 m_far_40 m_ways_41 m_queue_42 m_queueEnd_43) else (
lp5_4 (fun (x4_49 : Int32) (m_far_50 : Nat → Int32) (m_ways_51 : Nat → Int64) (m_queue_52 : Nat → Int32) (m_queueEnd_53 : Int32) nx89 ex89 =>
if m_long0 ≤ x4_49 then (
ex89 m_far_50 m_ways_51 m_queue_52 m_queueEnd_53) else (
cl1 (f_X8_mayMove m_any m_backward m_ring m_two m_long0 m_row_37 x3_39 x4_49) fun r_59 =>
jn4 (fun (m_far_61 : Nat → Int32) (m_ways_62 : Nat → Int64) (m_queue_63 : Nat → Int32) (m_queueEnd_64 : Int32) =>
nmv (α := Int32) (x4_49 + 1) fun x4_65 =>
nx89 x4_65 m_far_61 m_ways_62 m_queue_63 m_queueEnd_64) fun j126 =>
if r_59 = 0 then (
j126 m_far_50 m_ways_51 m_queue_52 m_queueEnd_53) else (
ald 7 m_row_37 x3_39 fun v_67 =>
cl1 (f_X8_behindMove v_35 v_67 x3_39 x4_49) fun r_69 =>
cl4 (f_X8_come m_far_50 m_ways_51 m_queue_52 m_queueEnd_53 r_69 v_35) fun m_far_71 m_ways_72 m_queue_73 m_queueEnd_74 =>
j126 m_far_71 m_ways_72 m_queue_73 m_queueEnd_74))) (fun (m_far_54 : Nat → Int32) (m_ways_55 : Nat → Int64) (m_queue_56 : Nat → Int32) (m_queueEnd_57 : Int32) =>
nmv (α := Int32) (x3_39 + 1) fun x3_76 =>
nx78 x3_76 m_far_54 m_ways_55 m_queue_56 m_queueEnd_57) fuel 0 m_far_40 m_ways_41 m_queue_42 m_queueEnd_43)) (fun (m_far_44 : Nat → Int32) (m_ways_45 : Nat → Int64) (m_queue_46 : Nat → Int32) (m_queueEnd_47 : Int32) =>
nmv (α := Int32) (x1_23 + 1) fun x1_77 =>
nx56 x1_77 m_row_37 m_far_44 m_ways_45 m_queue_46 m_queueEnd_47) fuel 0 m_far_25 m_ways_26 m_queue_27 m_queueEnd_28)) (fun (m_row_29 : Nat → Int32) (m_far_30 : Nat → Int32) (m_ways_31 : Nat → Int64) (m_queue_32 : Nat → Int32) (m_queueEnd_33 : Int32) =>
ald 78125 m_queue_32 0 fun v_78 =>
cl1 (f_X8_layRow m_long0 m_row_29 v_78) fun m_row_80 =>
some (m_row_80, m_far_30, m_ways_31, m_queue_32, m_queueEnd_33)) fuel 0 m_row m_far_18 m_ways_19 m_queue_20 m_queueEnd_21) fuel 0 m_far m_ways
abbrev rX8_layFar : Room := { frames := 4, cells := 0, slots := 0, locals := 96 }
set_option maxRecDepth 100000 in
set_option maxHeartbeats 4000000 in
theorem c_X8_layFar (l : Launch) (E : En) (a : Nat → Nat) (b : Nat) (m_stones : Int32) (m_any : Int32) (m_backward : Int32) (m_ring : Int32) (m_two : Int32) (m_brooks : Int32) (m_readRow : Nat → Int32) (m_rowNow : Nat → Int32) (m_frogOn : Nat → Int32) (m_frogs : Int32) (m_kindOf : Nat → Int32) (m_moved : Int32) (m_movedFrom : Nat → Int32) (m_movedTo : Nat → Int32) (m_pageLength : Int32) (m_page : Nat → Int32) (m_faultAt : Int32) (m_isWhole : Int32) (m_newMany : Int32) (m_newSigns : Int32) (m_newRow : Nat → Int32) (m_long0 : Int32) (m_row : Nat → Int32) (m_far : Nat → Int32) (m_ways : Nat → Int64) (m_queue : Nat → Int32) (m_queueEnd : Int32) (m_endMany : Int32) (m_endSoon : Int32) (m_won : Nat → Int32) (m_seedNow : Int64) (m_isKept : Int32) (m_keptBrook : Int32) (m_keptMoved : Int32) (m_keptRow : Nat → Int32) (m_keptFrog : Nat → Int32) (m_keptFrom : Nat → Int32) (m_keptTo : Nat → Int32) (m_h : Int64) {res : (Nat → Int32) × (Nat → Int32) × (Nat → Int64) × (Nat → Int32) × Int32} (hf : f_X8_layFar m_any m_backward m_ring m_two m_long0 m_row m_far m_ways m_queue m_queueEnd = some res) : Ct l yX8_layFar (.code yX8_layFar cX8_layFar 5 none) rX8_layFar E [.ref (a b)] (wM E a b m_stones m_any m_backward m_ring m_two m_brooks m_readRow m_rowNow m_frogOn m_frogs m_kindOf m_moved m_movedFrom m_movedTo m_pageLength m_page m_faultAt m_isWhole m_newMany m_newSigns m_newRow m_long0 m_row m_far m_ways m_queue m_queueEnd m_endMany m_endSoon m_won m_seedNow m_isKept m_keptBrook m_keptMoved m_keptRow m_keptFrog m_keptFrom m_keptTo m_h) none (wM E a b m_stones m_any m_backward m_ring m_two m_brooks m_readRow m_rowNow m_frogOn m_frogs m_kindOf m_moved m_movedFrom m_movedTo m_pageLength m_page m_faultAt m_isWhole m_newMany m_newSigns m_newRow m_long0 res.1 res.2.1 res.2.2.1 res.2.2.2.1 res.2.2.2.2 m_endMany m_endSoon m_won m_seedNow m_isKept m_keptBrook m_keptMoved m_keptRow m_keptFrog m_keptFrom m_keptTo m_h) := by
  refine Ct.of (by decide) (Nat.le_of_ble_eq_true rfl) (fun Y hB hR => ?_)
  have hB : Cb E cX8_layFar RX8 rX8_layFar 5 Y := hB
  show J l E rX8_layFar Y (wM E a b m_stones m_any m_backward m_ring m_two m_brooks m_readRow m_rowNow m_frogOn m_frogs m_kindOf m_moved m_movedFrom m_movedTo m_pageLength m_page m_faultAt m_isWhole m_newMany m_newSigns m_newRow m_long0 m_row m_far m_ways m_queue m_queueEnd m_endMany m_endSoon m_won m_seedNow m_isKept m_keptBrook m_keptMoved m_keptRow m_keptFrog m_keptFrom m_keptTo m_h) 0 [(0, .ref (a b))] []
  unfold f_X8_layFar at hf
  refine J_iconst (v := 0) hB dX8_layFar_0 rfl ?_
  refine J_istore_n (lv' := [(1, .int 0), (0, .ref (a b))]) hB rfl dX8_layFar_1 rfl (Nat.le_of_ble_eq_true rfl) rfl ?_
  refine J_lv [1, 0] rfl ?_
  refine lp3_2_J (P := fun x1_1 m_far_2 m_ways_3 => J l E rX8_layFar Y (wM E a b m_stones m_any m_backward m_ring m_two m_brooks m_readRow m_rowNow m_frogOn m_frogs m_kindOf m_moved m_movedFrom m_movedTo m_pageLength m_page m_faultAt m_isWhole m_newMany m_newSigns m_newRow m_long0 m_row m_far_2 m_ways_3 m_queue m_queueEnd m_endMany m_endSoon m_won m_seedNow m_isKept m_keptBrook m_keptMoved m_keptRow m_keptFrog m_keptFrom m_keptTo m_h) 2 [(0, .ref (a b)), (1, .int x1_1)] []) (Q := fun m_far_4 m_ways_5 => J l E rX8_layFar Y (wM E a b m_stones m_any m_backward m_ring m_two m_brooks m_readRow m_rowNow m_frogOn m_frogs m_kindOf m_moved m_movedFrom m_movedTo m_pageLength m_page m_faultAt m_isWhole m_newMany m_newSigns m_newRow m_long0 m_row m_far_4 m_ways_5 m_queue m_queueEnd m_endMany m_endSoon m_won m_seedNow m_isKept m_keptBrook m_keptMoved m_keptRow m_keptFrog m_keptFrom m_keptTo m_h) 40 [(0, .ref (a b))] []) (fun x1_1 m_far_2 m_ways_3 nx2 ex2 hnx2 hex2 hf => ?_) (fun m_far_4 m_ways_5 hf => ?_) hf
  · refine J_iload_n hB dX8_layFar_2 rfl 1 rfl ?_
    refine J_aload_n hB dX8_layFar_3 rfl 0 rfl ?_
    refine J_get (v := .int m_queueEnd) hB inX8 0 rfl rfl 26 (Nat.le_of_ble_eq_true rfl) kf_X8_168 rfl dX8_layFar_4 ?_
    refine J_icmp_ge (tgt := 40) hB dX8_layFar_7 rfl (fun c_6 => ?_) (fun c_6 => ?_)
    · have hf := it_t c_6 hf
      exact J_lv [0] rfl (hex2 m_far_2 m_ways_3 hf)
    · have hf := it_f c_6 hf
      refine J_aload_n hB dX8_layFar_10 rfl 0 rfl ?_
      refine J_get (v := .ref (a (b + 10))) hB inX8 0 rfl rfl 23 (Nat.le_of_ble_eq_true rfl) kf_X8_39 rfl dX8_layFar_11 ?_
      refine J_aload_n hB dX8_layFar_14 rfl 0 rfl ?_
      refine J_get (v := .ref (a (b + 12))) hB inX8 0 rfl rfl 25 (Nat.le_of_ble_eq_true rfl) kf_X8_46 rfl dX8_layFar_15 ?_
      refine J_iload_n hB dX8_layFar_18 rfl 1 rfl ?_
      obtain ⟨v_7, ev_7, h_8, hf⟩ := ald_e hf
      refine J_iald hB 12 rfl ev_7 h_8 dX8_layFar_19 ?_
      refine J_iconst (v := 0) hB dX8_layFar_20 rfl ?_
      obtain ⟨m_far_9, em_far_9, h_10, hf⟩ := astI_e hf
      refine J_iast (ws' := wM E a b m_stones m_any m_backward m_ring m_two m_brooks m_readRow m_rowNow m_frogOn m_frogs m_kindOf m_moved m_movedFrom m_movedTo m_pageLength m_page m_faultAt m_isWhole m_newMany m_newSigns m_newRow m_long0 m_row m_far_9 m_ways_3 m_queue m_queueEnd m_endMany m_endSoon m_won m_seedNow m_isKept m_keptBrook m_keptMoved m_keptRow m_keptFrog m_keptFrom m_keptTo m_h) hB 10 rfl em_far_9 h_10 dX8_layFar_21 rfl ?_
      refine J_aload_n hB dX8_layFar_22 rfl 0 rfl ?_
      refine J_get (v := .ref (a (b + 11))) hB inX8 0 rfl rfl 24 (Nat.le_of_ble_eq_true rfl) kf_X8_42 rfl dX8_layFar_23 ?_
      refine J_aload_n hB dX8_layFar_26 rfl 0 rfl ?_
      refine J_get (v := .ref (a (b + 12))) hB inX8 0 rfl rfl 25 (Nat.le_of_ble_eq_true rfl) kf_X8_46 rfl dX8_layFar_27 ?_
      refine J_iload_n hB dX8_layFar_30 rfl 1 rfl ?_
      obtain ⟨v_11, ev_11, h_12, hf⟩ := ald_e hf
      refine J_iald hB 12 rfl ev_11 h_12 dX8_layFar_31 ?_
      refine J_lconst (v := 0) hB dX8_layFar_32 rfl ?_
      obtain ⟨m_ways_13, em_ways_13, h_14, hf⟩ := astL_e hf
      refine J_last (ws' := wM E a b m_stones m_any m_backward m_ring m_two m_brooks m_readRow m_rowNow m_frogOn m_frogs m_kindOf m_moved m_movedFrom m_movedTo m_pageLength m_page m_faultAt m_isWhole m_newMany m_newSigns m_newRow m_long0 m_row m_far_9 m_ways_13 m_queue m_queueEnd m_endMany m_endSoon m_won m_seedNow m_isKept m_keptBrook m_keptMoved m_keptRow m_keptFrog m_keptFrom m_keptTo m_h) hB 11 rfl em_ways_13 h_14 dX8_layFar_33 rfl ?_
      obtain ⟨x1_15, ex1_15, hf⟩ := nmv_e hf
      refine J_iinc (lv' := [(1, .int x1_15), (0, .ref (a b))]) hB ex1_15 dX8_layFar_34 1 rfl (Nat.le_of_ble_eq_true rfl) rfl ?_
      refine J_goto (tgt := 2) hB dX8_layFar_37 rfl ?_
      exact J_lv [1, 0] rfl (hnx2 x1_15 m_far_9 m_ways_13 hf)
  · refine J_aload_n hB dX8_layFar_40 rfl 0 rfl ?_
    refine J_iconst (v := 0) hB dX8_layFar_41 rfl ?_
    refine J_put (ws' := wM E a b m_stones m_any m_backward m_ring m_two m_brooks m_readRow m_rowNow m_frogOn m_frogs m_kindOf m_moved m_movedFrom m_movedTo m_pageLength m_page m_faultAt m_isWhole m_newMany m_newSigns m_newRow m_long0 m_row m_far_4 m_ways_5 m_queue 0 m_endMany m_endSoon m_won m_seedNow m_isKept m_keptBrook m_keptMoved m_keptRow m_keptFrog m_keptFrom m_keptTo m_h) (ty := .int) (v := .int 0) hB inX8 tyX8 tyX8_ok nmX8 0 rfl rfl 26 (Nat.le_of_ble_eq_true rfl) kf_X8_168 rfl rfl rfl rfl (Nat.le_of_ble_eq_true rfl) dX8_layFar_42 rfl ?_
    refine J_aload_n hB dX8_layFar_45 rfl 0 rfl ?_
    refine J_aload_n hB dX8_layFar_46 rfl 0 rfl ?_
    obtain ⟨r_16, h_17, hf⟩ := cl1_e hf
    refine J_callV (As := []) (rest := [.ref (a b)]) (n := 0) (ws' := wM E a b m_stones m_any m_backward m_ring m_two m_brooks m_readRow m_rowNow m_frogOn m_frogs m_kindOf m_moved m_movedFrom m_movedTo m_pageLength m_page m_faultAt m_isWhole m_newMany m_newSigns m_newRow m_long0 m_row m_far_4 m_ways_5 m_queue 0 m_endMany m_endSoon m_won m_seedNow m_isKept m_keptBrook m_keptMoved m_keptRow m_keptFrog m_keptFrom m_keptTo m_h) hB (c_X8_codeOf l E a b m_stones m_any m_backward m_ring m_two m_brooks m_readRow m_rowNow m_frogOn m_frogs m_kindOf m_moved m_movedFrom m_movedTo m_pageLength m_page m_faultAt m_isWhole m_newMany m_newSigns m_newRow m_long0 m_row m_far_4 m_ways_5 m_queue 0 m_endMany m_endSoon m_won m_seedNow m_isKept m_keptBrook m_keptMoved m_keptRow m_keptFrog m_keptFrom m_keptTo m_h h_17) mi_X8_codeOf ⟨ki_X8_codeOf, kv_X8_codeOf⟩ km_X8_171 ⟨rfl, rfl, Nat.le_of_ble_eq_true rfl, Nat.le_of_ble_eq_true rfl⟩ Lies.same 0 rfl rfl rfl rfl (Nat.le_of_ble_eq_true rfl) dX8_layFar_47 ?_
    show J l E rX8_layFar Y (wM E a b m_stones m_any m_backward m_ring m_two m_brooks m_readRow m_rowNow m_frogOn m_frogs m_kindOf m_moved m_movedFrom m_movedTo m_pageLength m_page m_faultAt m_isWhole m_newMany m_newSigns m_newRow m_long0 m_row m_far_4 m_ways_5 m_queue 0 m_endMany m_endSoon m_won m_seedNow m_isKept m_keptBrook m_keptMoved m_keptRow m_keptFrog m_keptFrom m_keptTo m_h) 50 [(0, .ref (a b))] [.int r_16, .ref (a b)]
    refine J_iconst (v := (-1)) hB dX8_layFar_50 rfl ?_
    obtain ⟨m_far_18, m_ways_19, m_queue_20, m_queueEnd_21, h_22, hf⟩ := cl4_e hf
    refine J_callV (As := [.int r_16, .int ((-1))]) (rest := []) (n := 2) (ws' := wM E a b m_stones m_any m_backward m_ring m_two m_brooks m_readRow m_rowNow m_frogOn m_frogs m_kindOf m_moved m_movedFrom m_movedTo m_pageLength m_page m_faultAt m_isWhole m_newMany m_newSigns m_newRow m_long0 m_row m_far_18 m_ways_19 m_queue_20 m_queueEnd_21 m_endMany m_endSoon m_won m_seedNow m_isKept m_keptBrook m_keptMoved m_keptRow m_keptFrog m_keptFrom m_keptTo m_h) hB (c_X8_come l E a b m_stones m_any m_backward m_ring m_two m_brooks m_readRow m_rowNow m_frogOn m_frogs m_kindOf m_moved m_movedFrom m_movedTo m_pageLength m_page m_faultAt m_isWhole m_newMany m_newSigns m_newRow m_long0 m_row m_far_4 m_ways_5 m_queue 0 m_endMany m_endSoon m_won m_seedNow m_isKept m_keptBrook m_keptMoved m_keptRow m_keptFrog m_keptFrom m_keptTo m_h h_22) mi_X8_come ⟨ki_X8_come, kv_X8_come⟩ km_X8_174 ⟨rfl, rfl, Nat.le_of_ble_eq_true rfl, Nat.le_of_ble_eq_true rfl⟩ Lies.same 0 rfl rfl rfl rfl (Nat.le_of_ble_eq_true rfl) dX8_layFar_51 ?_
    show J l E rX8_layFar Y (wM E a b m_stones m_any m_backward m_ring m_two m_brooks m_readRow m_rowNow m_frogOn m_frogs m_kindOf m_moved m_movedFrom m_movedTo m_pageLength m_page m_faultAt m_isWhole m_newMany m_newSigns m_newRow m_long0 m_row m_far_18 m_ways_19 m_queue_20 m_queueEnd_21 m_endMany m_endSoon m_won m_seedNow m_isKept m_keptBrook m_keptMoved m_keptRow m_keptFrog m_keptFrom m_keptTo m_h) 54 [(0, .ref (a b))] []
    refine J_iconst (v := 0) hB dX8_layFar_54 rfl ?_
    refine J_istore_n (lv' := [(1, .int 0), (0, .ref (a b))]) hB rfl dX8_layFar_55 rfl (Nat.le_of_ble_eq_true rfl) rfl ?_
    refine J_lv [1, 0] rfl ?_
    refine lp6_5_J (P := fun x1_23 m_row_24 m_far_25 m_ways_26 m_queue_27 m_queueEnd_28 => J l E rX8_layFar Y (wM E a b m_stones m_any m_backward m_ring m_two m_brooks m_readRow m_rowNow m_frogOn m_frogs m_kindOf m_moved m_movedFrom m_movedTo m_pageLength m_page m_faultAt m_isWhole m_newMany m_newSigns m_newRow m_long0 m_row_24 m_far_25 m_ways_26 m_queue_27 m_queueEnd_28 m_endMany m_endSoon m_won m_seedNow m_isKept m_keptBrook m_keptMoved m_keptRow m_keptFrog m_keptFrom m_keptTo m_h) 56 [(0, .ref (a b)), (1, .int x1_23)] []) (Q := fun m_row_29 m_far_30 m_ways_31 m_queue_32 m_queueEnd_33 => J l E rX8_layFar Y (wM E a b m_stones m_any m_backward m_ring m_two m_brooks m_readRow m_rowNow m_frogOn m_frogs m_kindOf m_moved m_movedFrom m_movedTo m_pageLength m_page m_faultAt m_isWhole m_newMany m_newSigns m_newRow m_long0 m_row_29 m_far_30 m_ways_31 m_queue_32 m_queueEnd_33 m_endMany m_endSoon m_won m_seedNow m_isKept m_keptBrook m_keptMoved m_keptRow m_keptFrog m_keptFrom m_keptTo m_h) 144 [(0, .ref (a b))] []) (fun x1_23 m_row_24 m_far_25 m_ways_26 m_queue_27 m_queueEnd_28 nx56 ex56 hnx56 hex56 hf => ?_) (fun m_row_29 m_far_30 m_ways_31 m_queue_32 m_queueEnd_33 hf => ?_) hf
    · refine J_iload_n hB dX8_layFar_56 rfl 1 rfl ?_
      refine J_aload_n hB dX8_layFar_57 rfl 0 rfl ?_
      refine J_get (v := .int m_queueEnd_28) hB inX8 0 rfl rfl 26 (Nat.le_of_ble_eq_true rfl) kf_X8_168 rfl dX8_layFar_58 ?_
      refine J_icmp_ge (tgt := 144) hB dX8_layFar_61 rfl (fun c_34 => ?_) (fun c_34 => ?_)
      · have hf := it_t c_34 hf
        exact J_lv [0] rfl (hex56 m_row_24 m_far_25 m_ways_26 m_queue_27 m_queueEnd_28 hf)
      · have hf := it_f c_34 hf
        refine J_aload_n hB dX8_layFar_64 rfl 0 rfl ?_
        refine J_get (v := .ref (a (b + 12))) hB inX8 0 rfl rfl 25 (Nat.le_of_ble_eq_true rfl) kf_X8_46 rfl dX8_layFar_65 ?_
        refine J_iload_n hB dX8_layFar_68 rfl 1 rfl ?_
        obtain ⟨v_35, ev_35, h_36, hf⟩ := ald_e hf
        refine J_iald hB 12 rfl ev_35 h_36 dX8_layFar_69 ?_
        refine J_istore_n (lv' := [(2, .int v_35), (0, .ref (a b)), (1, .int x1_23)]) hB rfl dX8_layFar_70 rfl (Nat.le_of_ble_eq_true rfl) rfl ?_
        refine J_aload_n hB dX8_layFar_71 rfl 1 rfl ?_
        refine J_iload_n hB dX8_layFar_72 rfl 0 rfl ?_
        obtain ⟨m_row_37, h_38, hf⟩ := cl1_e hf
        refine J_callV (As := [.int v_35]) (rest := []) (n := 1) (ws' := wM E a b m_stones m_any m_backward m_ring m_two m_brooks m_readRow m_rowNow m_frogOn m_frogs m_kindOf m_moved m_movedFrom m_movedTo m_pageLength m_page m_faultAt m_isWhole m_newMany m_newSigns m_newRow m_long0 m_row_37 m_far_25 m_ways_26 m_queue_27 m_queueEnd_28 m_endMany m_endSoon m_won m_seedNow m_isKept m_keptBrook m_keptMoved m_keptRow m_keptFrog m_keptFrom m_keptTo m_h) hB (c_X8_layRow l E a b m_stones m_any m_backward m_ring m_two m_brooks m_readRow m_rowNow m_frogOn m_frogs m_kindOf m_moved m_movedFrom m_movedTo m_pageLength m_page m_faultAt m_isWhole m_newMany m_newSigns m_newRow m_long0 m_row_24 m_far_25 m_ways_26 m_queue_27 m_queueEnd_28 m_endMany m_endSoon m_won m_seedNow m_isKept m_keptBrook m_keptMoved m_keptRow m_keptFrog m_keptFrom m_keptTo m_h h_38) mi_X8_layRow ⟨ki_X8_layRow, kv_X8_layRow⟩ km_X8_177 ⟨rfl, rfl, Nat.le_of_ble_eq_true rfl, Nat.le_of_ble_eq_true rfl⟩ Lies.same 0 rfl rfl rfl rfl (Nat.le_of_ble_eq_true rfl) dX8_layFar_73 ?_
        show J l E rX8_layFar Y (wM E a b m_stones m_any m_backward m_ring m_two m_brooks m_readRow m_rowNow m_frogOn m_frogs m_kindOf m_moved m_movedFrom m_movedTo m_pageLength m_page m_faultAt m_isWhole m_newMany m_newSigns m_newRow m_long0 m_row_37 m_far_25 m_ways_26 m_queue_27 m_queueEnd_28 m_endMany m_endSoon m_won m_seedNow m_isKept m_keptBrook m_keptMoved m_keptRow m_keptFrog m_keptFrom m_keptTo m_h) 76 [(2, .int v_35), (0, .ref (a b)), (1, .int x1_23)] []
        refine J_iconst (v := 0) hB dX8_layFar_76 rfl ?_
        refine J_istore_n (lv' := [(3, .int 0), (2, .int v_35), (0, .ref (a b)), (1, .int x1_23)]) hB rfl dX8_layFar_77 rfl (Nat.le_of_ble_eq_true rfl) rfl ?_
        refine J_lv [2, 3, 1, 0] rfl ?_
        refine lp5_4_J (P := fun x3_39 m_far_40 m_ways_41 m_queue_42 m_queueEnd_43 => J l E rX8_layFar Y (wM E a b m_stones m_any m_backward m_ring m_two m_brooks m_readRow m_rowNow m_frogOn m_frogs m_kindOf m_moved m_movedFrom m_movedTo m_pageLength m_page m_faultAt m_isWhole m_newMany m_newSigns m_newRow m_long0 m_row_37 m_far_40 m_ways_41 m_queue_42 m_queueEnd_43 m_endMany m_endSoon m_won m_seedNow m_isKept m_keptBrook m_keptMoved m_keptRow m_keptFrog m_keptFrom m_keptTo m_h) 78 [(0, .ref (a b)), (1, .int x1_23), (2, .int v_35), (3, .int x3_39)] []) (Q := fun m_far_44 m_ways_45 m_queue_46 m_queueEnd_47 => J l E rX8_layFar Y (wM E a b m_stones m_any m_backward m_ring m_two m_brooks m_readRow m_rowNow m_frogOn m_frogs m_kindOf m_moved m_movedFrom m_movedTo m_pageLength m_page m_faultAt m_isWhole m_newMany m_newSigns m_newRow m_long0 m_row_37 m_far_44 m_ways_45 m_queue_46 m_queueEnd_47 m_endMany m_endSoon m_won m_seedNow m_isKept m_keptBrook m_keptMoved m_keptRow m_keptFrog m_keptFrom m_keptTo m_h) 138 [(0, .ref (a b)), (1, .int x1_23)] []) (fun x3_39 m_far_40 m_ways_41 m_queue_42 m_queueEnd_43 nx78 ex78 hnx78 hex78 hf => ?_) (fun m_far_44 m_ways_45 m_queue_46 m_queueEnd_47 hf => ?_) hf
        · refine J_iload_n hB dX8_layFar_78 rfl 3 rfl ?_
          refine J_aload_n hB dX8_layFar_79 rfl 0 rfl ?_
          refine J_get (v := .int m_long0) hB inX8 0 rfl rfl 21 (Nat.le_of_ble_eq_true rfl) kf_X8_135 rfl dX8_layFar_80 ?_
          refine J_icmp_ge (tgt := 138) hB dX8_layFar_83 rfl (fun c_48 => ?_) (fun c_48 => ?_)
          · have hf := it_t c_48 hf
            exact J_lv [0, 1] rfl (hex78 m_far_40 m_ways_41 m_queue_42 m_queueEnd_43 hf)
          · have hf := it_f c_48 hf
            refine J_iconst (v := 0) hB dX8_layFar_86 rfl ?_
            refine J_istore (lv' := [(4, .int 0), (0, .ref (a b)), (1, .int x1_23), (2, .int v_35), (3, .int x3_39)]) hB rfl dX8_layFar_87 (Nat.le_of_ble_eq_true rfl) rfl ?_
            refine J_lv [1, 2, 3, 4, 0] rfl ?_
            refine lp5_4_J (P := fun x4_49 m_far_50 m_ways_51 m_queue_52 m_queueEnd_53 => J l E rX8_layFar Y (wM E a b m_stones m_any m_backward m_ring m_two m_brooks m_readRow m_rowNow m_frogOn m_frogs m_kindOf m_moved m_movedFrom m_movedTo m_pageLength m_page m_faultAt m_isWhole m_newMany m_newSigns m_newRow m_long0 m_row_37 m_far_50 m_ways_51 m_queue_52 m_queueEnd_53 m_endMany m_endSoon m_won m_seedNow m_isKept m_keptBrook m_keptMoved m_keptRow m_keptFrog m_keptFrom m_keptTo m_h) 89 [(0, .ref (a b)), (1, .int x1_23), (2, .int v_35), (3, .int x3_39), (4, .int x4_49)] []) (Q := fun m_far_54 m_ways_55 m_queue_56 m_queueEnd_57 => J l E rX8_layFar Y (wM E a b m_stones m_any m_backward m_ring m_two m_brooks m_readRow m_rowNow m_frogOn m_frogs m_kindOf m_moved m_movedFrom m_movedTo m_pageLength m_page m_faultAt m_isWhole m_newMany m_newSigns m_newRow m_long0 m_row_37 m_far_54 m_ways_55 m_queue_56 m_queueEnd_57 m_endMany m_endSoon m_won m_seedNow m_isKept m_keptBrook m_keptMoved m_keptRow m_keptFrog m_keptFrom m_keptTo m_h) 132 [(0, .ref (a b)), (1, .int x1_23), (2, .int v_35), (3, .int x3_39)] []) (fun x4_49 m_far_50 m_ways_51 m_queue_52 m_queueEnd_53 nx89 ex89 hnx89 hex89 hf => ?_) (fun m_far_54 m_ways_55 m_queue_56 m_queueEnd_57 hf => ?_) hf
            · refine J_iload hB dX8_layFar_89 4 rfl ?_
              refine J_aload_n hB dX8_layFar_91 rfl 0 rfl ?_
              refine J_get (v := .int m_long0) hB inX8 0 rfl rfl 21 (Nat.le_of_ble_eq_true rfl) kf_X8_135 rfl dX8_layFar_92 ?_
              refine J_icmp_ge (tgt := 132) hB dX8_layFar_95 rfl (fun c_58 => ?_) (fun c_58 => ?_)
              · have hf := it_t c_58 hf
                exact J_lv [0, 1, 2, 3] rfl (hex89 m_far_50 m_ways_51 m_queue_52 m_queueEnd_53 hf)
              · have hf := it_f c_58 hf
                refine J_aload_n hB dX8_layFar_98 rfl 0 rfl ?_
                refine J_iload_n hB dX8_layFar_99 rfl 3 rfl ?_
                refine J_iload hB dX8_layFar_100 4 rfl ?_
                obtain ⟨r_59, h_60, hf⟩ := cl1_e hf
                refine J_callV (As := [.int x3_39, .int x4_49]) (rest := []) (n := 2) (ws' := wM E a b m_stones m_any m_backward m_ring m_two m_brooks m_readRow m_rowNow m_frogOn m_frogs m_kindOf m_moved m_movedFrom m_movedTo m_pageLength m_page m_faultAt m_isWhole m_newMany m_newSigns m_newRow m_long0 m_row_37 m_far_50 m_ways_51 m_queue_52 m_queueEnd_53 m_endMany m_endSoon m_won m_seedNow m_isKept m_keptBrook m_keptMoved m_keptRow m_keptFrog m_keptFrom m_keptTo m_h) hB (c_X8_mayMove l E a b m_stones m_any m_backward m_ring m_two m_brooks m_readRow m_rowNow m_frogOn m_frogs m_kindOf m_moved m_movedFrom m_movedTo m_pageLength m_page m_faultAt m_isWhole m_newMany m_newSigns m_newRow m_long0 m_row_37 m_far_50 m_ways_51 m_queue_52 m_queueEnd_53 m_endMany m_endSoon m_won m_seedNow m_isKept m_keptBrook m_keptMoved m_keptRow m_keptFrog m_keptFrom m_keptTo m_h h_60) mi_X8_mayMove ⟨ki_X8_mayMove, kv_X8_mayMove⟩ km_X8_154 ⟨rfl, rfl, Nat.le_of_ble_eq_true rfl, Nat.le_of_ble_eq_true rfl⟩ Lies.same 0 rfl rfl rfl rfl (Nat.le_of_ble_eq_true rfl) dX8_layFar_102 ?_
                show J l E rX8_layFar Y (wM E a b m_stones m_any m_backward m_ring m_two m_brooks m_readRow m_rowNow m_frogOn m_frogs m_kindOf m_moved m_movedFrom m_movedTo m_pageLength m_page m_faultAt m_isWhole m_newMany m_newSigns m_newRow m_long0 m_row_37 m_far_50 m_ways_51 m_queue_52 m_queueEnd_53 m_endMany m_endSoon m_won m_seedNow m_isKept m_keptBrook m_keptMoved m_keptRow m_keptFrog m_keptFrom m_keptTo m_h) 105 [(0, .ref (a b)), (1, .int x1_23), (2, .int v_35), (3, .int x3_39), (4, .int x4_49)] [.int r_59]
                refine jn4_e (P := fun m_far_61 m_ways_62 m_queue_63 m_queueEnd_64 => J l E rX8_layFar Y (wM E a b m_stones m_any m_backward m_ring m_two m_brooks m_readRow m_rowNow m_frogOn m_frogs m_kindOf m_moved m_movedFrom m_movedTo m_pageLength m_page m_faultAt m_isWhole m_newMany m_newSigns m_newRow m_long0 m_row_37 m_far_61 m_ways_62 m_queue_63 m_queueEnd_64 m_endMany m_endSoon m_won m_seedNow m_isKept m_keptBrook m_keptMoved m_keptRow m_keptFrog m_keptFrom m_keptTo m_h) 126 [(0, .ref (a b)), (1, .int x1_23), (2, .int v_35), (3, .int x3_39), (4, .int x4_49)] []) hf (fun m_far_61 m_ways_62 m_queue_63 m_queueEnd_64 hf => ?_) (fun j126 hj126 hf => ?_)
                · obtain ⟨x4_65, ex4_65, hf⟩ := nmv_e hf
                  refine J_iinc (lv' := [(4, .int x4_65), (0, .ref (a b)), (1, .int x1_23), (2, .int v_35), (3, .int x3_39)]) hB ex4_65 dX8_layFar_126 4 rfl (Nat.le_of_ble_eq_true rfl) rfl ?_
                  refine J_goto (tgt := 89) hB dX8_layFar_129 rfl ?_
                  exact J_lv [1, 2, 3, 4, 0] rfl (hnx89 x4_65 m_far_61 m_ways_62 m_queue_63 m_queueEnd_64 hf)
                · refine J_if_eq (tgt := 126) hB dX8_layFar_105 rfl (fun c_66 => ?_) (fun c_66 => ?_)
                  · have hf := it_t c_66 hf
                    exact J_lv [0, 1, 2, 3, 4] rfl (hj126 m_far_50 m_ways_51 m_queue_52 m_queueEnd_53 hf)
                  · have hf := it_f c_66 hf
                    refine J_aload_n hB dX8_layFar_108 rfl 0 rfl ?_
                    refine J_iload_n hB dX8_layFar_109 rfl 2 rfl ?_
                    refine J_aload_n hB dX8_layFar_110 rfl 0 rfl ?_
                    refine J_get (v := .ref (a (b + 9))) hB inX8 0 rfl rfl 22 (Nat.le_of_ble_eq_true rfl) kf_X8_35 rfl dX8_layFar_111 ?_
                    refine J_iload_n hB dX8_layFar_114 rfl 3 rfl ?_
                    obtain ⟨v_67, ev_67, h_68, hf⟩ := ald_e hf
                    refine J_iald hB 9 rfl ev_67 h_68 dX8_layFar_115 ?_
                    refine J_iload_n hB dX8_layFar_116 rfl 3 rfl ?_
                    refine J_iload hB dX8_layFar_117 4 rfl ?_
                    obtain ⟨r_69, h_70, hf⟩ := cl1_e hf
                    refine J_callS (As := [.int v_35, .int v_67, .int x3_39, .int x4_49]) (rest := [.ref (a b)]) (n := 4) (ws' := wM E a b m_stones m_any m_backward m_ring m_two m_brooks m_readRow m_rowNow m_frogOn m_frogs m_kindOf m_moved m_movedFrom m_movedTo m_pageLength m_page m_faultAt m_isWhole m_newMany m_newSigns m_newRow m_long0 m_row_37 m_far_50 m_ways_51 m_queue_52 m_queueEnd_53 m_endMany m_endSoon m_won m_seedNow m_isKept m_keptBrook m_keptMoved m_keptRow m_keptFrog m_keptFrom m_keptTo m_h) hB (c_X8_behindMove l E a h_70) mi_X8_behindMove ks_X8_behindMove km_X8_181 ⟨rfl, rfl, Nat.le_of_ble_eq_true rfl, Nat.le_of_ble_eq_true rfl⟩ Lies.none rfl rfl (Nat.le_of_ble_eq_true rfl) dX8_layFar_119 ?_
                    show J l E rX8_layFar Y (wM E a b m_stones m_any m_backward m_ring m_two m_brooks m_readRow m_rowNow m_frogOn m_frogs m_kindOf m_moved m_movedFrom m_movedTo m_pageLength m_page m_faultAt m_isWhole m_newMany m_newSigns m_newRow m_long0 m_row_37 m_far_50 m_ways_51 m_queue_52 m_queueEnd_53 m_endMany m_endSoon m_won m_seedNow m_isKept m_keptBrook m_keptMoved m_keptRow m_keptFrog m_keptFrom m_keptTo m_h) 122 [(0, .ref (a b)), (1, .int x1_23), (2, .int v_35), (3, .int x3_39), (4, .int x4_49)] [.int r_69, .ref (a b)]
                    refine J_iload_n hB dX8_layFar_122 rfl 2 rfl ?_
                    obtain ⟨m_far_71, m_ways_72, m_queue_73, m_queueEnd_74, h_75, hf⟩ := cl4_e hf
                    refine J_callV (As := [.int r_69, .int v_35]) (rest := []) (n := 2) (ws' := wM E a b m_stones m_any m_backward m_ring m_two m_brooks m_readRow m_rowNow m_frogOn m_frogs m_kindOf m_moved m_movedFrom m_movedTo m_pageLength m_page m_faultAt m_isWhole m_newMany m_newSigns m_newRow m_long0 m_row_37 m_far_71 m_ways_72 m_queue_73 m_queueEnd_74 m_endMany m_endSoon m_won m_seedNow m_isKept m_keptBrook m_keptMoved m_keptRow m_keptFrog m_keptFrom m_keptTo m_h) hB (c_X8_come l E a b m_stones m_any m_backward m_ring m_two m_brooks m_readRow m_rowNow m_frogOn m_frogs m_kindOf m_moved m_movedFrom m_movedTo m_pageLength m_page m_faultAt m_isWhole m_newMany m_newSigns m_newRow m_long0 m_row_37 m_far_50 m_ways_51 m_queue_52 m_queueEnd_53 m_endMany m_endSoon m_won m_seedNow m_isKept m_keptBrook m_keptMoved m_keptRow m_keptFrog m_keptFrom m_keptTo m_h h_75) mi_X8_come ⟨ki_X8_come, kv_X8_come⟩ km_X8_174 ⟨rfl, rfl, Nat.le_of_ble_eq_true rfl, Nat.le_of_ble_eq_true rfl⟩ Lies.same 0 rfl rfl rfl rfl (Nat.le_of_ble_eq_true rfl) dX8_layFar_123 ?_
                    show J l E rX8_layFar Y (wM E a b m_stones m_any m_backward m_ring m_two m_brooks m_readRow m_rowNow m_frogOn m_frogs m_kindOf m_moved m_movedFrom m_movedTo m_pageLength m_page m_faultAt m_isWhole m_newMany m_newSigns m_newRow m_long0 m_row_37 m_far_71 m_ways_72 m_queue_73 m_queueEnd_74 m_endMany m_endSoon m_won m_seedNow m_isKept m_keptBrook m_keptMoved m_keptRow m_keptFrog m_keptFrom m_keptTo m_h) 126 [(0, .ref (a b)), (1, .int x1_23), (2, .int v_35), (3, .int x3_39), (4, .int x4_49)] []
                    exact J_lv [0, 1, 2, 3, 4] rfl (hj126 m_far_71 m_ways_72 m_queue_73 m_queueEnd_74 hf)
            · obtain ⟨x3_76, ex3_76, hf⟩ := nmv_e hf
              refine J_iinc (lv' := [(3, .int x3_76), (0, .ref (a b)), (1, .int x1_23), (2, .int v_35)]) hB ex3_76 dX8_layFar_132 3 rfl (Nat.le_of_ble_eq_true rfl) rfl ?_
              refine J_goto (tgt := 78) hB dX8_layFar_135 rfl ?_
              exact J_lv [1, 2, 3, 0] rfl (hnx78 x3_76 m_far_54 m_ways_55 m_queue_56 m_queueEnd_57 hf)
        · obtain ⟨x1_77, ex1_77, hf⟩ := nmv_e hf
          refine J_iinc (lv' := [(1, .int x1_77), (0, .ref (a b))]) hB ex1_77 dX8_layFar_138 1 rfl (Nat.le_of_ble_eq_true rfl) rfl ?_
          refine J_goto (tgt := 56) hB dX8_layFar_141 rfl ?_
          exact J_lv [1, 0] rfl (hnx56 x1_77 m_row_37 m_far_44 m_ways_45 m_queue_46 m_queueEnd_47 hf)
    · refine J_aload_n hB dX8_layFar_144 rfl 0 rfl ?_
      refine J_aload_n hB dX8_layFar_145 rfl 0 rfl ?_
      refine J_get (v := .ref (a (b + 12))) hB inX8 0 rfl rfl 25 (Nat.le_of_ble_eq_true rfl) kf_X8_46 rfl dX8_layFar_146 ?_
      refine J_iconst (v := 0) hB dX8_layFar_149 rfl ?_
      obtain ⟨v_78, ev_78, h_79, hf⟩ := ald_e hf
      refine J_iald hB 12 rfl ev_78 h_79 dX8_layFar_150 ?_
      obtain ⟨m_row_80, h_81, hf⟩ := cl1_e hf
      refine J_callV (As := [.int v_78]) (rest := []) (n := 1) (ws' := wM E a b m_stones m_any m_backward m_ring m_two m_brooks m_readRow m_rowNow m_frogOn m_frogs m_kindOf m_moved m_movedFrom m_movedTo m_pageLength m_page m_faultAt m_isWhole m_newMany m_newSigns m_newRow m_long0 m_row_80 m_far_30 m_ways_31 m_queue_32 m_queueEnd_33 m_endMany m_endSoon m_won m_seedNow m_isKept m_keptBrook m_keptMoved m_keptRow m_keptFrog m_keptFrom m_keptTo m_h) hB (c_X8_layRow l E a b m_stones m_any m_backward m_ring m_two m_brooks m_readRow m_rowNow m_frogOn m_frogs m_kindOf m_moved m_movedFrom m_movedTo m_pageLength m_page m_faultAt m_isWhole m_newMany m_newSigns m_newRow m_long0 m_row_29 m_far_30 m_ways_31 m_queue_32 m_queueEnd_33 m_endMany m_endSoon m_won m_seedNow m_isKept m_keptBrook m_keptMoved m_keptRow m_keptFrog m_keptFrom m_keptTo m_h h_81) mi_X8_layRow ⟨ki_X8_layRow, kv_X8_layRow⟩ km_X8_177 ⟨rfl, rfl, Nat.le_of_ble_eq_true rfl, Nat.le_of_ble_eq_true rfl⟩ Lies.same 0 rfl rfl rfl rfl (Nat.le_of_ble_eq_true rfl) dX8_layFar_151 ?_
      show J l E rX8_layFar Y (wM E a b m_stones m_any m_backward m_ring m_two m_brooks m_readRow m_rowNow m_frogOn m_frogs m_kindOf m_moved m_movedFrom m_movedTo m_pageLength m_page m_faultAt m_isWhole m_newMany m_newSigns m_newRow m_long0 m_row_80 m_far_30 m_ways_31 m_queue_32 m_queueEnd_33 m_endMany m_endSoon m_won m_seedNow m_isKept m_keptBrook m_keptMoved m_keptRow m_keptFrog m_keptFrom m_keptTo m_h) 154 [(0, .ref (a b))] []
      obtain rfl := Option.some.inj hf
      exact J_vret hB hR dX8_layFar_154
def f_X8_layRead (m_stones : Int32) (m_readRow : Nat → Int32) (m_long0 : Int32) (m_row : Nat → Int32) : Option (Int32 × (Nat → Int32)) :=
lp2_1 (fun (x1_1 : Int32) (m_row_2 : Nat → Int32) nx10 ex10 =>
if m_stones ≤ x1_1 then (
ex10 m_row_2) else (
ald 7 m_readRow x1_1 fun v_5 =>
astI 7 m_row_2 x1_1 v_5 fun m_row_7 =>
nmv (α := Int32) (x1_1 + 1) fun x1_9 =>
nx10 x1_9 m_row_7)) (fun (m_row_3 : Nat → Int32) =>
some (m_stones, m_row_3)) fuel 0 m_row
abbrev rX8_layRead : Room := { frames := 0, cells := 0, slots := 0, locals := 0 }
set_option maxRecDepth 100000 in
set_option maxHeartbeats 4000000 in
theorem c_X8_layRead (l : Launch) (E : En) (a : Nat → Nat) (b : Nat) (m_stones : Int32) (m_any : Int32) (m_backward : Int32) (m_ring : Int32) (m_two : Int32) (m_brooks : Int32) (m_readRow : Nat → Int32) (m_rowNow : Nat → Int32) (m_frogOn : Nat → Int32) (m_frogs : Int32) (m_kindOf : Nat → Int32) (m_moved : Int32) (m_movedFrom : Nat → Int32) (m_movedTo : Nat → Int32) (m_pageLength : Int32) (m_page : Nat → Int32) (m_faultAt : Int32) (m_isWhole : Int32) (m_newMany : Int32) (m_newSigns : Int32) (m_newRow : Nat → Int32) (m_long0 : Int32) (m_row : Nat → Int32) (m_far : Nat → Int32) (m_ways : Nat → Int64) (m_queue : Nat → Int32) (m_queueEnd : Int32) (m_endMany : Int32) (m_endSoon : Int32) (m_won : Nat → Int32) (m_seedNow : Int64) (m_isKept : Int32) (m_keptBrook : Int32) (m_keptMoved : Int32) (m_keptRow : Nat → Int32) (m_keptFrog : Nat → Int32) (m_keptFrom : Nat → Int32) (m_keptTo : Nat → Int32) (m_h : Int64) {res : Int32 × (Nat → Int32)} (hf : f_X8_layRead m_stones m_readRow m_long0 m_row = some res) : Ct l yX8_layRead (.code yX8_layRead cX8_layRead 2 none) rX8_layRead E [.ref (a b)] (wM E a b m_stones m_any m_backward m_ring m_two m_brooks m_readRow m_rowNow m_frogOn m_frogs m_kindOf m_moved m_movedFrom m_movedTo m_pageLength m_page m_faultAt m_isWhole m_newMany m_newSigns m_newRow m_long0 m_row m_far m_ways m_queue m_queueEnd m_endMany m_endSoon m_won m_seedNow m_isKept m_keptBrook m_keptMoved m_keptRow m_keptFrog m_keptFrom m_keptTo m_h) none (wM E a b m_stones m_any m_backward m_ring m_two m_brooks m_readRow m_rowNow m_frogOn m_frogs m_kindOf m_moved m_movedFrom m_movedTo m_pageLength m_page m_faultAt m_isWhole m_newMany m_newSigns m_newRow res.1 res.2 m_far m_ways m_queue m_queueEnd m_endMany m_endSoon m_won m_seedNow m_isKept m_keptBrook m_keptMoved m_keptRow m_keptFrog m_keptFrom m_keptTo m_h) := by
  refine Ct.of (by decide) (Nat.le_of_ble_eq_true rfl) (fun Y hB hR => ?_)
  have hB : Cb E cX8_layRead RX8 rX8_layRead 2 Y := hB
  show J l E rX8_layRead Y (wM E a b m_stones m_any m_backward m_ring m_two m_brooks m_readRow m_rowNow m_frogOn m_frogs m_kindOf m_moved m_movedFrom m_movedTo m_pageLength m_page m_faultAt m_isWhole m_newMany m_newSigns m_newRow m_long0 m_row m_far m_ways m_queue m_queueEnd m_endMany m_endSoon m_won m_seedNow m_isKept m_keptBrook m_keptMoved m_keptRow m_keptFrog m_keptFrom m_keptTo m_h) 0 [(0, .ref (a b))] []
  unfold f_X8_layRead at hf
  refine J_aload_n hB dX8_layRead_0 rfl 0 rfl ?_
  refine J_aload_n hB dX8_layRead_1 rfl 0 rfl ?_
  refine J_get (v := .int m_stones) hB inX8 0 rfl rfl 0 (Nat.le_of_ble_eq_true rfl) kf_X8_93 rfl dX8_layRead_2 ?_
  refine J_put (ws' := wM E a b m_stones m_any m_backward m_ring m_two m_brooks m_readRow m_rowNow m_frogOn m_frogs m_kindOf m_moved m_movedFrom m_movedTo m_pageLength m_page m_faultAt m_isWhole m_newMany m_newSigns m_newRow m_stones m_row m_far m_ways m_queue m_queueEnd m_endMany m_endSoon m_won m_seedNow m_isKept m_keptBrook m_keptMoved m_keptRow m_keptFrog m_keptFrom m_keptTo m_h) (ty := .int) (v := .int m_stones) hB inX8 tyX8 tyX8_ok nmX8 0 rfl rfl 21 (Nat.le_of_ble_eq_true rfl) kf_X8_135 rfl rfl rfl rfl (Nat.le_of_ble_eq_true rfl) dX8_layRead_5 rfl ?_
  refine J_iconst (v := 0) hB dX8_layRead_8 rfl ?_
  refine J_istore_n (lv' := [(1, .int 0), (0, .ref (a b))]) hB rfl dX8_layRead_9 rfl (Nat.le_of_ble_eq_true rfl) rfl ?_
  refine J_lv [1, 0] rfl ?_
  refine lp2_1_J (P := fun x1_1 m_row_2 => J l E rX8_layRead Y (wM E a b m_stones m_any m_backward m_ring m_two m_brooks m_readRow m_rowNow m_frogOn m_frogs m_kindOf m_moved m_movedFrom m_movedTo m_pageLength m_page m_faultAt m_isWhole m_newMany m_newSigns m_newRow m_stones m_row_2 m_far m_ways m_queue m_queueEnd m_endMany m_endSoon m_won m_seedNow m_isKept m_keptBrook m_keptMoved m_keptRow m_keptFrog m_keptFrom m_keptTo m_h) 10 [(0, .ref (a b)), (1, .int x1_1)] []) (Q := fun m_row_3 => J l E rX8_layRead Y (wM E a b m_stones m_any m_backward m_ring m_two m_brooks m_readRow m_rowNow m_frogOn m_frogs m_kindOf m_moved m_movedFrom m_movedTo m_pageLength m_page m_faultAt m_isWhole m_newMany m_newSigns m_newRow m_stones m_row_3 m_far m_ways m_queue m_queueEnd m_endMany m_endSoon m_won m_seedNow m_isKept m_keptBrook m_keptMoved m_keptRow m_keptFrog m_keptFrom m_keptTo m_h) 36 [] []) (fun x1_1 m_row_2 nx10 ex10 hnx10 hex10 hf => ?_) (fun m_row_3 hf => ?_) hf
  · refine J_iload_n hB dX8_layRead_10 rfl 1 rfl ?_
    refine J_aload_n hB dX8_layRead_11 rfl 0 rfl ?_
    refine J_get (v := .int m_stones) hB inX8 0 rfl rfl 0 (Nat.le_of_ble_eq_true rfl) kf_X8_93 rfl dX8_layRead_12 ?_
    refine J_icmp_ge (tgt := 36) hB dX8_layRead_15 rfl (fun c_4 => ?_) (fun c_4 => ?_)
    · have hf := it_t c_4 hf
      exact J_lv [] rfl (hex10 m_row_2 hf)
    · have hf := it_f c_4 hf
      refine J_aload_n hB dX8_layRead_18 rfl 0 rfl ?_
      refine J_get (v := .ref (a (b + 9))) hB inX8 0 rfl rfl 22 (Nat.le_of_ble_eq_true rfl) kf_X8_35 rfl dX8_layRead_19 ?_
      refine J_iload_n hB dX8_layRead_22 rfl 1 rfl ?_
      refine J_aload_n hB dX8_layRead_23 rfl 0 rfl ?_
      refine J_get (v := .ref (a (b + 1))) hB inX8 0 rfl rfl 6 (Nat.le_of_ble_eq_true rfl) kf_X8_7 rfl dX8_layRead_24 ?_
      refine J_iload_n hB dX8_layRead_27 rfl 1 rfl ?_
      obtain ⟨v_5, ev_5, h_6, hf⟩ := ald_e hf
      refine J_iald hB 1 rfl ev_5 h_6 dX8_layRead_28 ?_
      obtain ⟨m_row_7, em_row_7, h_8, hf⟩ := astI_e hf
      refine J_iast (ws' := wM E a b m_stones m_any m_backward m_ring m_two m_brooks m_readRow m_rowNow m_frogOn m_frogs m_kindOf m_moved m_movedFrom m_movedTo m_pageLength m_page m_faultAt m_isWhole m_newMany m_newSigns m_newRow m_stones m_row_7 m_far m_ways m_queue m_queueEnd m_endMany m_endSoon m_won m_seedNow m_isKept m_keptBrook m_keptMoved m_keptRow m_keptFrog m_keptFrom m_keptTo m_h) hB 9 rfl em_row_7 h_8 dX8_layRead_29 rfl ?_
      obtain ⟨x1_9, ex1_9, hf⟩ := nmv_e hf
      refine J_iinc (lv' := [(1, .int x1_9), (0, .ref (a b))]) hB ex1_9 dX8_layRead_30 1 rfl (Nat.le_of_ble_eq_true rfl) rfl ?_
      refine J_goto (tgt := 10) hB dX8_layRead_33 rfl ?_
      exact J_lv [1, 0] rfl (hnx10 x1_9 m_row_7 hf)
  · obtain rfl := Option.some.inj hf
    exact J_vret hB hR dX8_layRead_36
def f_X8_goal (m_stones : Int32) (m_readRow : Nat → Int32) (m_long0 : Int32) (m_row : Nat → Int32) : Option (Int32 × Int32 × (Nat → Int32)) :=
cl2 (f_X8_layRead m_stones m_readRow m_long0 m_row) fun m_long0_1 m_row_2 =>
cl1 (f_X8_turnedCode m_long0_1 m_row_2) fun r_4 =>
some (r_4, m_long0_1, m_row_2)
abbrev rX8_goal : Room := { frames := 1, cells := 0, slots := 0, locals := 22 }
set_option maxRecDepth 100000 in
set_option maxHeartbeats 4000000 in
theorem c_X8_goal (l : Launch) (E : En) (a : Nat → Nat) (b : Nat) (m_stones : Int32) (m_any : Int32) (m_backward : Int32) (m_ring : Int32) (m_two : Int32) (m_brooks : Int32) (m_readRow : Nat → Int32) (m_rowNow : Nat → Int32) (m_frogOn : Nat → Int32) (m_frogs : Int32) (m_kindOf : Nat → Int32) (m_moved : Int32) (m_movedFrom : Nat → Int32) (m_movedTo : Nat → Int32) (m_pageLength : Int32) (m_page : Nat → Int32) (m_faultAt : Int32) (m_isWhole : Int32) (m_newMany : Int32) (m_newSigns : Int32) (m_newRow : Nat → Int32) (m_long0 : Int32) (m_row : Nat → Int32) (m_far : Nat → Int32) (m_ways : Nat → Int64) (m_queue : Nat → Int32) (m_queueEnd : Int32) (m_endMany : Int32) (m_endSoon : Int32) (m_won : Nat → Int32) (m_seedNow : Int64) (m_isKept : Int32) (m_keptBrook : Int32) (m_keptMoved : Int32) (m_keptRow : Nat → Int32) (m_keptFrog : Nat → Int32) (m_keptFrom : Nat → Int32) (m_keptTo : Nat → Int32) (m_h : Int64) {res : Int32 × Int32 × (Nat → Int32)} (hf : f_X8_goal m_stones m_readRow m_long0 m_row = some res) : Ct l yX8_goal (.code yX8_goal cX8_goal 1 (some .int)) rX8_goal E [.ref (a b)] (wM E a b m_stones m_any m_backward m_ring m_two m_brooks m_readRow m_rowNow m_frogOn m_frogs m_kindOf m_moved m_movedFrom m_movedTo m_pageLength m_page m_faultAt m_isWhole m_newMany m_newSigns m_newRow m_long0 m_row m_far m_ways m_queue m_queueEnd m_endMany m_endSoon m_won m_seedNow m_isKept m_keptBrook m_keptMoved m_keptRow m_keptFrog m_keptFrom m_keptTo m_h) (some (.int res.1)) (wM E a b m_stones m_any m_backward m_ring m_two m_brooks m_readRow m_rowNow m_frogOn m_frogs m_kindOf m_moved m_movedFrom m_movedTo m_pageLength m_page m_faultAt m_isWhole m_newMany m_newSigns m_newRow res.2.1 res.2.2 m_far m_ways m_queue m_queueEnd m_endMany m_endSoon m_won m_seedNow m_isKept m_keptBrook m_keptMoved m_keptRow m_keptFrog m_keptFrom m_keptTo m_h) := by
  refine Ct.of (by decide) (Nat.le_of_ble_eq_true rfl) (fun Y hB hR => ?_)
  have hB : Cb E cX8_goal RX8 rX8_goal 1 Y := hB
  show J l E rX8_goal Y (wM E a b m_stones m_any m_backward m_ring m_two m_brooks m_readRow m_rowNow m_frogOn m_frogs m_kindOf m_moved m_movedFrom m_movedTo m_pageLength m_page m_faultAt m_isWhole m_newMany m_newSigns m_newRow m_long0 m_row m_far m_ways m_queue m_queueEnd m_endMany m_endSoon m_won m_seedNow m_isKept m_keptBrook m_keptMoved m_keptRow m_keptFrog m_keptFrom m_keptTo m_h) 0 [(0, .ref (a b))] []
  unfold f_X8_goal at hf
  refine J_aload_n hB dX8_goal_0 rfl 0 rfl ?_
  obtain ⟨m_long0_1, m_row_2, h_3, hf⟩ := cl2_e hf
  refine J_callV (As := []) (rest := []) (n := 0) (ws' := wM E a b m_stones m_any m_backward m_ring m_two m_brooks m_readRow m_rowNow m_frogOn m_frogs m_kindOf m_moved m_movedFrom m_movedTo m_pageLength m_page m_faultAt m_isWhole m_newMany m_newSigns m_newRow m_long0_1 m_row_2 m_far m_ways m_queue m_queueEnd m_endMany m_endSoon m_won m_seedNow m_isKept m_keptBrook m_keptMoved m_keptRow m_keptFrog m_keptFrom m_keptTo m_h) hB (c_X8_layRead l E a b m_stones m_any m_backward m_ring m_two m_brooks m_readRow m_rowNow m_frogOn m_frogs m_kindOf m_moved m_movedFrom m_movedTo m_pageLength m_page m_faultAt m_isWhole m_newMany m_newSigns m_newRow m_long0 m_row m_far m_ways m_queue m_queueEnd m_endMany m_endSoon m_won m_seedNow m_isKept m_keptBrook m_keptMoved m_keptRow m_keptFrog m_keptFrom m_keptTo m_h h_3) mi_X8_layRead ⟨ki_X8_layRead, kv_X8_layRead⟩ km_X8_185 ⟨rfl, rfl, Nat.le_of_ble_eq_true rfl, Nat.le_of_ble_eq_true rfl⟩ Lies.same 0 rfl rfl rfl rfl (Nat.le_of_ble_eq_true rfl) dX8_goal_1 ?_
  show J l E rX8_goal Y (wM E a b m_stones m_any m_backward m_ring m_two m_brooks m_readRow m_rowNow m_frogOn m_frogs m_kindOf m_moved m_movedFrom m_movedTo m_pageLength m_page m_faultAt m_isWhole m_newMany m_newSigns m_newRow m_long0_1 m_row_2 m_far m_ways m_queue m_queueEnd m_endMany m_endSoon m_won m_seedNow m_isKept m_keptBrook m_keptMoved m_keptRow m_keptFrog m_keptFrom m_keptTo m_h) 4 [(0, .ref (a b))] []
  refine J_aload_n hB dX8_goal_4 rfl 0 rfl ?_
  obtain ⟨r_4, h_5, hf⟩ := cl1_e hf
  refine J_callV (As := []) (rest := []) (n := 0) (ws' := wM E a b m_stones m_any m_backward m_ring m_two m_brooks m_readRow m_rowNow m_frogOn m_frogs m_kindOf m_moved m_movedFrom m_movedTo m_pageLength m_page m_faultAt m_isWhole m_newMany m_newSigns m_newRow m_long0_1 m_row_2 m_far m_ways m_queue m_queueEnd m_endMany m_endSoon m_won m_seedNow m_isKept m_keptBrook m_keptMoved m_keptRow m_keptFrog m_keptFrom m_keptTo m_h) hB (c_X8_turnedCode l E a b m_stones m_any m_backward m_ring m_two m_brooks m_readRow m_rowNow m_frogOn m_frogs m_kindOf m_moved m_movedFrom m_movedTo m_pageLength m_page m_faultAt m_isWhole m_newMany m_newSigns m_newRow m_long0_1 m_row_2 m_far m_ways m_queue m_queueEnd m_endMany m_endSoon m_won m_seedNow m_isKept m_keptBrook m_keptMoved m_keptRow m_keptFrog m_keptFrom m_keptTo m_h h_5) mi_X8_turnedCode ⟨ki_X8_turnedCode, kv_X8_turnedCode⟩ km_X8_188 ⟨rfl, rfl, Nat.le_of_ble_eq_true rfl, Nat.le_of_ble_eq_true rfl⟩ Lies.same 0 rfl rfl rfl rfl (Nat.le_of_ble_eq_true rfl) dX8_goal_5 ?_
  show J l E rX8_goal Y (wM E a b m_stones m_any m_backward m_ring m_two m_brooks m_readRow m_rowNow m_frogOn m_frogs m_kindOf m_moved m_movedFrom m_movedTo m_pageLength m_page m_faultAt m_isWhole m_newMany m_newSigns m_newRow m_long0_1 m_row_2 m_far m_ways m_queue m_queueEnd m_endMany m_endSoon m_won m_seedNow m_isKept m_keptBrook m_keptMoved m_keptRow m_keptFrog m_keptFrom m_keptTo m_h) 8 [(0, .ref (a b))] [.int r_4]
  obtain rfl := Option.some.inj hf
  exact J_iret hB hR dX8_goal_8
def f_X8_farTo (m_any : Int32) (m_backward : Int32) (m_ring : Int32) (m_two : Int32) (m_long0 : Int32) (m_row : Nat → Int32) (m_far : Nat → Int32) (m_ways : Nat → Int64) (m_queue : Nat → Int32) (m_queueEnd : Int32) (p0 : Int32) : Option (Int32 × (Nat → Int32) × (Nat → Int32) × (Nat → Int64) × (Nat → Int32) × Int32) :=
cl5 (f_X8_layFar m_any m_backward m_ring m_two m_long0 m_row m_far m_ways m_queue m_queueEnd) fun m_row_1 m_far_2 m_ways_3 m_queue_4 m_queueEnd_5 =>
ald 78125 m_far_2 p0 fun v_7 =>
some (v_7 - (1 : Int32), m_row_1, m_far_2, m_ways_3, m_queue_4, m_queueEnd_5)
abbrev rX8_farTo : Room := { frames := 5, cells := 0, slots := 0, locals := 120 }
set_option maxRecDepth 100000 in
set_option maxHeartbeats 4000000 in
theorem c_X8_farTo (l : Launch) (E : En) (a : Nat → Nat) (b : Nat) (m_stones : Int32) (m_any : Int32) (m_backward : Int32) (m_ring : Int32) (m_two : Int32) (m_brooks : Int32) (m_readRow : Nat → Int32) (m_rowNow : Nat → Int32) (m_frogOn : Nat → Int32) (m_frogs : Int32) (m_kindOf : Nat → Int32) (m_moved : Int32) (m_movedFrom : Nat → Int32) (m_movedTo : Nat → Int32) (m_pageLength : Int32) (m_page : Nat → Int32) (m_faultAt : Int32) (m_isWhole : Int32) (m_newMany : Int32) (m_newSigns : Int32) (m_newRow : Nat → Int32) (m_long0 : Int32) (m_row : Nat → Int32) (m_far : Nat → Int32) (m_ways : Nat → Int64) (m_queue : Nat → Int32) (m_queueEnd : Int32) (m_endMany : Int32) (m_endSoon : Int32) (m_won : Nat → Int32) (m_seedNow : Int64) (m_isKept : Int32) (m_keptBrook : Int32) (m_keptMoved : Int32) (m_keptRow : Nat → Int32) (m_keptFrog : Nat → Int32) (m_keptFrom : Nat → Int32) (m_keptTo : Nat → Int32) (m_h : Int64) {p0 : Int32} {res : Int32 × (Nat → Int32) × (Nat → Int32) × (Nat → Int64) × (Nat → Int32) × Int32} (hf : f_X8_farTo m_any m_backward m_ring m_two m_long0 m_row m_far m_ways m_queue m_queueEnd p0 = some res) : Ct l yX8_farTo (.code yX8_farTo cX8_farTo 2 (some .int)) rX8_farTo E [.ref (a b), .int p0] (wM E a b m_stones m_any m_backward m_ring m_two m_brooks m_readRow m_rowNow m_frogOn m_frogs m_kindOf m_moved m_movedFrom m_movedTo m_pageLength m_page m_faultAt m_isWhole m_newMany m_newSigns m_newRow m_long0 m_row m_far m_ways m_queue m_queueEnd m_endMany m_endSoon m_won m_seedNow m_isKept m_keptBrook m_keptMoved m_keptRow m_keptFrog m_keptFrom m_keptTo m_h) (some (.int res.1)) (wM E a b m_stones m_any m_backward m_ring m_two m_brooks m_readRow m_rowNow m_frogOn m_frogs m_kindOf m_moved m_movedFrom m_movedTo m_pageLength m_page m_faultAt m_isWhole m_newMany m_newSigns m_newRow m_long0 res.2.1 res.2.2.1 res.2.2.2.1 res.2.2.2.2.1 res.2.2.2.2.2 m_endMany m_endSoon m_won m_seedNow m_isKept m_keptBrook m_keptMoved m_keptRow m_keptFrog m_keptFrom m_keptTo m_h) := by
  refine Ct.of (by decide) (Nat.le_of_ble_eq_true rfl) (fun Y hB hR => ?_)
  have hB : Cb E cX8_farTo RX8 rX8_farTo 2 Y := hB
  show J l E rX8_farTo Y (wM E a b m_stones m_any m_backward m_ring m_two m_brooks m_readRow m_rowNow m_frogOn m_frogs m_kindOf m_moved m_movedFrom m_movedTo m_pageLength m_page m_faultAt m_isWhole m_newMany m_newSigns m_newRow m_long0 m_row m_far m_ways m_queue m_queueEnd m_endMany m_endSoon m_won m_seedNow m_isKept m_keptBrook m_keptMoved m_keptRow m_keptFrog m_keptFrom m_keptTo m_h) 0 [(0, .ref (a b)), (1, .int p0)] []
  unfold f_X8_farTo at hf
  refine J_aload_n hB dX8_farTo_0 rfl 0 rfl ?_
  obtain ⟨m_row_1, m_far_2, m_ways_3, m_queue_4, m_queueEnd_5, h_6, hf⟩ := cl5_e hf
  refine J_callV (As := []) (rest := []) (n := 0) (ws' := wM E a b m_stones m_any m_backward m_ring m_two m_brooks m_readRow m_rowNow m_frogOn m_frogs m_kindOf m_moved m_movedFrom m_movedTo m_pageLength m_page m_faultAt m_isWhole m_newMany m_newSigns m_newRow m_long0 m_row_1 m_far_2 m_ways_3 m_queue_4 m_queueEnd_5 m_endMany m_endSoon m_won m_seedNow m_isKept m_keptBrook m_keptMoved m_keptRow m_keptFrog m_keptFrom m_keptTo m_h) hB (c_X8_layFar l E a b m_stones m_any m_backward m_ring m_two m_brooks m_readRow m_rowNow m_frogOn m_frogs m_kindOf m_moved m_movedFrom m_movedTo m_pageLength m_page m_faultAt m_isWhole m_newMany m_newSigns m_newRow m_long0 m_row m_far m_ways m_queue m_queueEnd m_endMany m_endSoon m_won m_seedNow m_isKept m_keptBrook m_keptMoved m_keptRow m_keptFrog m_keptFrom m_keptTo m_h h_6) mi_X8_layFar ⟨ki_X8_layFar, kv_X8_layFar⟩ km_X8_191 ⟨rfl, rfl, Nat.le_of_ble_eq_true rfl, Nat.le_of_ble_eq_true rfl⟩ Lies.same 0 rfl rfl rfl rfl (Nat.le_of_ble_eq_true rfl) dX8_farTo_1 ?_
  show J l E rX8_farTo Y (wM E a b m_stones m_any m_backward m_ring m_two m_brooks m_readRow m_rowNow m_frogOn m_frogs m_kindOf m_moved m_movedFrom m_movedTo m_pageLength m_page m_faultAt m_isWhole m_newMany m_newSigns m_newRow m_long0 m_row_1 m_far_2 m_ways_3 m_queue_4 m_queueEnd_5 m_endMany m_endSoon m_won m_seedNow m_isKept m_keptBrook m_keptMoved m_keptRow m_keptFrog m_keptFrom m_keptTo m_h) 4 [(0, .ref (a b)), (1, .int p0)] []
  refine J_aload_n hB dX8_farTo_4 rfl 0 rfl ?_
  refine J_get (v := .ref (a (b + 10))) hB inX8 0 rfl rfl 23 (Nat.le_of_ble_eq_true rfl) kf_X8_39 rfl dX8_farTo_5 ?_
  refine J_iload_n hB dX8_farTo_8 rfl 1 rfl ?_
  obtain ⟨v_7, ev_7, h_8, hf⟩ := ald_e hf
  refine J_iald hB 10 rfl ev_7 h_8 dX8_farTo_9 ?_
  refine J_iconst (v := 1) hB dX8_farTo_10 rfl ?_
  refine J_isub hB dX8_farTo_11 ?_
  obtain rfl := Option.some.inj hf
  exact J_iret hB hR dX8_farTo_12
def f_X8_fewestNow (m_stones : Int32) (m_any : Int32) (m_backward : Int32) (m_ring : Int32) (m_two : Int32) (m_readRow : Nat → Int32) (m_rowNow : Nat → Int32) (m_long0 : Int32) (m_row : Nat → Int32) (m_far : Nat → Int32) (m_ways : Nat → Int64) (m_queue : Nat → Int32) (m_queueEnd : Int32) (p0 : Int32) : Option (Int32 × Int32 × (Nat → Int32) × (Nat → Int32) × (Nat → Int64) × (Nat → Int32) × Int32) :=
cl3 (f_X8_goal m_stones m_readRow m_long0 m_row) fun r_1 m_long0_2 m_row_3 =>
cl2 (f_X8_layNow m_stones m_rowNow m_long0_2 m_row_3) fun m_long0_5 m_row_6 =>
cl6 (f_X8_farTo m_any m_backward m_ring m_two m_long0_5 m_row_6 m_far m_ways m_queue m_queueEnd r_1) fun r_8 m_row_9 m_far_10 m_ways_11 m_queue_12 m_queueEnd_13 =>
jn0 (
if p0 = 0 then (
some (r_8, m_long0_5, m_row_9, m_far_10, m_ways_11, m_queue_12, m_queueEnd_13)) else (
some ((-1), m_long0_5, m_row_9, m_far_10, m_ways_11, m_queue_12, m_queueEnd_13))) fun j24 =>
if r_8 < 1 then (
j24) else (
if p0 = 0 then (
j24) else (
ald 78125 m_queue_12 0 fun v_18 =>
lp6_5 (fun (x5_20 : Int32) (m_row_21 : Nat → Int32) (m_far_22 : Nat → Int32) (m_ways_23 : Nat → Int64) (m_queue_24 : Nat → Int32) (m_queueEnd_25 : Int32) nx45 ex45 =>
if m_long0_5 ≤ x5_20 then (
ex45 m_row_21 m_far_22 m_ways_23 m_queue_24 m_queueEnd_25) else (
lp6_5 (fun (x6_32 : Int32) (m_row_33 : Nat → Int32) (m_far_34 : Nat → Int32) (m_ways_35 : Nat → Int64) (m_queue_36 : Nat → Int32) (m_queueEnd_37 : Int32) nx57 ex57 =>
if m_long0_5 ≤ x6_32 then (
ex57 m_row_33 m_far_34 m_ways_35 m_queue_36 m_queueEnd_37) else (
cl1 (f_X8_mayMove m_any m_backward m_ring m_two m_long0_5 m_row_33 x5_20 x6_32) fun r_44 =>
jn5 (fun (m_row_46 : Nat → Int32) (m_far_47 : Nat → Int32) (m_ways_48 : Nat → Int64) (m_queue_49 : Nat → Int32) (m_queueEnd_50 : Int32) =>
nmv (α := Int32) (x6_32 + 1) fun x6_51 =>
nx57 x6_51 m_row_46 m_far_47 m_ways_48 m_queue_49 m_queueEnd_50) fun j127 =>
if r_44 = 0 then (
j127 m_row_33 m_far_34 m_ways_35 m_queue_36 m_queueEnd_37) else (
ald 7 m_row_33 x5_20 fun v_53 =>
cl1 (f_X8_behindMove v_18 v_53 x5_20 x6_32) fun r_55 =>
cl1 (f_X8_layRow m_long0_5 m_row_33 r_55) fun m_row_57 =>
cl6 (f_X8_farTo m_any m_backward m_ring m_two m_long0_5 m_row_57 m_far_34 m_ways_35 m_queue_36 m_queueEnd_37 r_1) fun r_59 m_row_60 m_far_61 m_ways_62 m_queue_63 m_queueEnd_64 =>
if r_59 = (r_8 - (1 : Int32)) then (
if p0 = 1 then (
some (x5_20, m_long0_5, m_row_60, m_far_61, m_ways_62, m_queue_63, m_queueEnd_64)) else (
some (x6_32, m_long0_5, m_row_60, m_far_61, m_ways_62, m_queue_63, m_queueEnd_64))) else (
cl1 (f_X8_layRow m_long0_5 m_row_60 v_18) fun m_row_67 =>
j127 m_row_67 m_far_61 m_ways_62 m_queue_63 m_queueEnd_64)))) (fun (m_row_38 : Nat → Int32) (m_far_39 : Nat → Int32) (m_ways_40 : Nat → Int64) (m_queue_41 : Nat → Int32) (m_queueEnd_42 : Int32) =>
nmv (α := Int32) (x5_20 + 1) fun x5_70 =>
nx45 x5_70 m_row_38 m_far_39 m_ways_40 m_queue_41 m_queueEnd_42) fuel 0 m_row_21 m_far_22 m_ways_23 m_queue_24 m_queueEnd_25)) (fun (m_row_26 : Nat → Int32) (m_far_27 : Nat → Int32) (m_ways_28 : Nat → Int64) (m_queue_29 : Nat → Int32) (m_queueEnd_30 : Int32) =>
some ((-1), m_long0_5, m_row_26, m_far_27, m_ways_28, m_queue_29, m_queueEnd_30)) fuel 0 m_row_9 m_far_10 m_ways_11 m_queue_12 m_queueEnd_13))
abbrev rX8_fewestNow : Room := { frames := 6, cells := 0, slots := 0, locals := 141 }
set_option maxRecDepth 100000 in
set_option maxHeartbeats 4000000 in
theorem c_X8_fewestNow (l : Launch) (E : En) (a : Nat → Nat) (b : Nat) (m_stones : Int32) (m_any : Int32) (m_backward : Int32) (m_ring : Int32) (m_two : Int32) (m_brooks : Int32) (m_readRow : Nat → Int32) (m_rowNow : Nat → Int32) (m_frogOn : Nat → Int32) (m_frogs : Int32) (m_kindOf : Nat → Int32) (m_moved : Int32) (m_movedFrom : Nat → Int32) (m_movedTo : Nat → Int32) (m_pageLength : Int32) (m_page : Nat → Int32) (m_faultAt : Int32) (m_isWhole : Int32) (m_newMany : Int32) (m_newSigns : Int32) (m_newRow : Nat → Int32) (m_long0 : Int32) (m_row : Nat → Int32) (m_far : Nat → Int32) (m_ways : Nat → Int64) (m_queue : Nat → Int32) (m_queueEnd : Int32) (m_endMany : Int32) (m_endSoon : Int32) (m_won : Nat → Int32) (m_seedNow : Int64) (m_isKept : Int32) (m_keptBrook : Int32) (m_keptMoved : Int32) (m_keptRow : Nat → Int32) (m_keptFrog : Nat → Int32) (m_keptFrom : Nat → Int32) (m_keptTo : Nat → Int32) (m_h : Int64) {p0 : Int32} {res : Int32 × Int32 × (Nat → Int32) × (Nat → Int32) × (Nat → Int64) × (Nat → Int32) × Int32} (hf : f_X8_fewestNow m_stones m_any m_backward m_ring m_two m_readRow m_rowNow m_long0 m_row m_far m_ways m_queue m_queueEnd p0 = some res) : Ct l yX8_fewestNow (.code yX8_fewestNow cX8_fewestNow 7 (some .int)) rX8_fewestNow E [.ref (a b), .int p0] (wM E a b m_stones m_any m_backward m_ring m_two m_brooks m_readRow m_rowNow m_frogOn m_frogs m_kindOf m_moved m_movedFrom m_movedTo m_pageLength m_page m_faultAt m_isWhole m_newMany m_newSigns m_newRow m_long0 m_row m_far m_ways m_queue m_queueEnd m_endMany m_endSoon m_won m_seedNow m_isKept m_keptBrook m_keptMoved m_keptRow m_keptFrog m_keptFrom m_keptTo m_h) (some (.int res.1)) (wM E a b m_stones m_any m_backward m_ring m_two m_brooks m_readRow m_rowNow m_frogOn m_frogs m_kindOf m_moved m_movedFrom m_movedTo m_pageLength m_page m_faultAt m_isWhole m_newMany m_newSigns m_newRow res.2.1 res.2.2.1 res.2.2.2.1 res.2.2.2.2.1 res.2.2.2.2.2.1 res.2.2.2.2.2.2 m_endMany m_endSoon m_won m_seedNow m_isKept m_keptBrook m_keptMoved m_keptRow m_keptFrog m_keptFrom m_keptTo m_h) := by
  refine Ct.of (by decide) (Nat.le_of_ble_eq_true rfl) (fun Y hB hR => ?_)
  have hB : Cb E cX8_fewestNow RX8 rX8_fewestNow 7 Y := hB
  show J l E rX8_fewestNow Y (wM E a b m_stones m_any m_backward m_ring m_two m_brooks m_readRow m_rowNow m_frogOn m_frogs m_kindOf m_moved m_movedFrom m_movedTo m_pageLength m_page m_faultAt m_isWhole m_newMany m_newSigns m_newRow m_long0 m_row m_far m_ways m_queue m_queueEnd m_endMany m_endSoon m_won m_seedNow m_isKept m_keptBrook m_keptMoved m_keptRow m_keptFrog m_keptFrom m_keptTo m_h) 0 [(0, .ref (a b)), (1, .int p0)] []
  unfold f_X8_fewestNow at hf
  refine J_aload_n hB dX8_fewestNow_0 rfl 0 rfl ?_
  obtain ⟨r_1, m_long0_2, m_row_3, h_4, hf⟩ := cl3_e hf
  refine J_callV (As := []) (rest := []) (n := 0) (ws' := wM E a b m_stones m_any m_backward m_ring m_two m_brooks m_readRow m_rowNow m_frogOn m_frogs m_kindOf m_moved m_movedFrom m_movedTo m_pageLength m_page m_faultAt m_isWhole m_newMany m_newSigns m_newRow m_long0_2 m_row_3 m_far m_ways m_queue m_queueEnd m_endMany m_endSoon m_won m_seedNow m_isKept m_keptBrook m_keptMoved m_keptRow m_keptFrog m_keptFrom m_keptTo m_h) hB (c_X8_goal l E a b m_stones m_any m_backward m_ring m_two m_brooks m_readRow m_rowNow m_frogOn m_frogs m_kindOf m_moved m_movedFrom m_movedTo m_pageLength m_page m_faultAt m_isWhole m_newMany m_newSigns m_newRow m_long0 m_row m_far m_ways m_queue m_queueEnd m_endMany m_endSoon m_won m_seedNow m_isKept m_keptBrook m_keptMoved m_keptRow m_keptFrog m_keptFrom m_keptTo m_h h_4) mi_X8_goal ⟨ki_X8_goal, kv_X8_goal⟩ km_X8_194 ⟨rfl, rfl, Nat.le_of_ble_eq_true rfl, Nat.le_of_ble_eq_true rfl⟩ Lies.same 0 rfl rfl rfl rfl (Nat.le_of_ble_eq_true rfl) dX8_fewestNow_1 ?_
  show J l E rX8_fewestNow Y (wM E a b m_stones m_any m_backward m_ring m_two m_brooks m_readRow m_rowNow m_frogOn m_frogs m_kindOf m_moved m_movedFrom m_movedTo m_pageLength m_page m_faultAt m_isWhole m_newMany m_newSigns m_newRow m_long0_2 m_row_3 m_far m_ways m_queue m_queueEnd m_endMany m_endSoon m_won m_seedNow m_isKept m_keptBrook m_keptMoved m_keptRow m_keptFrog m_keptFrom m_keptTo m_h) 4 [(0, .ref (a b)), (1, .int p0)] [.int r_1]
  refine J_istore_n (lv' := [(2, .int r_1), (0, .ref (a b)), (1, .int p0)]) hB rfl dX8_fewestNow_4 rfl (Nat.le_of_ble_eq_true rfl) rfl ?_
  refine J_aload_n hB dX8_fewestNow_5 rfl 1 rfl ?_
  obtain ⟨m_long0_5, m_row_6, h_7, hf⟩ := cl2_e hf
  refine J_callV (As := []) (rest := []) (n := 0) (ws' := wM E a b m_stones m_any m_backward m_ring m_two m_brooks m_readRow m_rowNow m_frogOn m_frogs m_kindOf m_moved m_movedFrom m_movedTo m_pageLength m_page m_faultAt m_isWhole m_newMany m_newSigns m_newRow m_long0_5 m_row_6 m_far m_ways m_queue m_queueEnd m_endMany m_endSoon m_won m_seedNow m_isKept m_keptBrook m_keptMoved m_keptRow m_keptFrog m_keptFrom m_keptTo m_h) hB (c_X8_layNow l E a b m_stones m_any m_backward m_ring m_two m_brooks m_readRow m_rowNow m_frogOn m_frogs m_kindOf m_moved m_movedFrom m_movedTo m_pageLength m_page m_faultAt m_isWhole m_newMany m_newSigns m_newRow m_long0_2 m_row_3 m_far m_ways m_queue m_queueEnd m_endMany m_endSoon m_won m_seedNow m_isKept m_keptBrook m_keptMoved m_keptRow m_keptFrog m_keptFrom m_keptTo m_h h_7) mi_X8_layNow ⟨ki_X8_layNow, kv_X8_layNow⟩ km_X8_151 ⟨rfl, rfl, Nat.le_of_ble_eq_true rfl, Nat.le_of_ble_eq_true rfl⟩ Lies.same 0 rfl rfl rfl rfl (Nat.le_of_ble_eq_true rfl) dX8_fewestNow_6 ?_
  show J l E rX8_fewestNow Y (wM E a b m_stones m_any m_backward m_ring m_two m_brooks m_readRow m_rowNow m_frogOn m_frogs m_kindOf m_moved m_movedFrom m_movedTo m_pageLength m_page m_faultAt m_isWhole m_newMany m_newSigns m_newRow m_long0_5 m_row_6 m_far m_ways m_queue m_queueEnd m_endMany m_endSoon m_won m_seedNow m_isKept m_keptBrook m_keptMoved m_keptRow m_keptFrog m_keptFrom m_keptTo m_h) 9 [(2, .int r_1), (0, .ref (a b)), (1, .int p0)] []
  refine J_aload_n hB dX8_fewestNow_9 rfl 1 rfl ?_
  refine J_iload_n hB dX8_fewestNow_10 rfl 0 rfl ?_
  obtain ⟨r_8, m_row_9, m_far_10, m_ways_11, m_queue_12, m_queueEnd_13, h_14, hf⟩ := cl6_e hf
  refine J_callV (As := [.int r_1]) (rest := []) (n := 1) (ws' := wM E a b m_stones m_any m_backward m_ring m_two m_brooks m_readRow m_rowNow m_frogOn m_frogs m_kindOf m_moved m_movedFrom m_movedTo m_pageLength m_page m_faultAt m_isWhole m_newMany m_newSigns m_newRow m_long0_5 m_row_9 m_far_10 m_ways_11 m_queue_12 m_queueEnd_13 m_endMany m_endSoon m_won m_seedNow m_isKept m_keptBrook m_keptMoved m_keptRow m_keptFrog m_keptFrom m_keptTo m_h) hB (c_X8_farTo l E a b m_stones m_any m_backward m_ring m_two m_brooks m_readRow m_rowNow m_frogOn m_frogs m_kindOf m_moved m_movedFrom m_movedTo m_pageLength m_page m_faultAt m_isWhole m_newMany m_newSigns m_newRow m_long0_5 m_row_6 m_far m_ways m_queue m_queueEnd m_endMany m_endSoon m_won m_seedNow m_isKept m_keptBrook m_keptMoved m_keptRow m_keptFrog m_keptFrom m_keptTo m_h h_14) mi_X8_farTo ⟨ki_X8_farTo, kv_X8_farTo⟩ km_X8_197 ⟨rfl, rfl, Nat.le_of_ble_eq_true rfl, Nat.le_of_ble_eq_true rfl⟩ Lies.same 0 rfl rfl rfl rfl (Nat.le_of_ble_eq_true rfl) dX8_fewestNow_11 ?_
  show J l E rX8_fewestNow Y (wM E a b m_stones m_any m_backward m_ring m_two m_brooks m_readRow m_rowNow m_frogOn m_frogs m_kindOf m_moved m_movedFrom m_movedTo m_pageLength m_page m_faultAt m_isWhole m_newMany m_newSigns m_newRow m_long0_5 m_row_9 m_far_10 m_ways_11 m_queue_12 m_queueEnd_13 m_endMany m_endSoon m_won m_seedNow m_isKept m_keptBrook m_keptMoved m_keptRow m_keptFrog m_keptFrom m_keptTo m_h) 14 [(2, .int r_1), (0, .ref (a b)), (1, .int p0)] [.int r_8]
  refine J_istore_n (lv' := [(3, .int r_8), (2, .int r_1), (0, .ref (a b)), (1, .int p0)]) hB rfl dX8_fewestNow_14 rfl (Nat.le_of_ble_eq_true rfl) rfl ?_
  refine J_iload_n hB dX8_fewestNow_15 rfl 0 rfl ?_
  refine J_iconst (v := 1) hB dX8_fewestNow_16 rfl ?_
  refine jn0_e (P := J l E rX8_fewestNow Y (wM E a b m_stones m_any m_backward m_ring m_two m_brooks m_readRow m_rowNow m_frogOn m_frogs m_kindOf m_moved m_movedFrom m_movedTo m_pageLength m_page m_faultAt m_isWhole m_newMany m_newSigns m_newRow m_long0_5 m_row_9 m_far_10 m_ways_11 m_queue_12 m_queueEnd_13 m_endMany m_endSoon m_won m_seedNow m_isKept m_keptBrook m_keptMoved m_keptRow m_keptFrog m_keptFrom m_keptTo m_h) 24 [(1, .int p0), (3, .int r_8)] []) hf (fun hf => ?_) (fun j24 hj24 hf => ?_)
  · refine J_iload_n hB dX8_fewestNow_24 rfl 0 rfl ?_
    refine J_if_ne (tgt := 32) hB dX8_fewestNow_25 rfl (fun c_15 => ?_) (fun c_15 => ?_)
    · have hf := it_f c_15 hf
      refine J_iconst (v := (-1)) hB dX8_fewestNow_32 rfl ?_
      obtain rfl := Option.some.inj hf
      exact J_iret hB hR dX8_fewestNow_33
    · have hf := it_t c_15 hf
      refine J_iload_n hB dX8_fewestNow_28 rfl 1 rfl ?_
      refine J_goto (tgt := 33) hB dX8_fewestNow_29 rfl ?_
      obtain rfl := Option.some.inj hf
      exact J_iret hB hR dX8_fewestNow_33
  · refine J_icmp_lt (tgt := 24) hB dX8_fewestNow_17 rfl (fun c_16 => ?_) (fun c_16 => ?_)
    · have hf := it_t c_16 hf
      exact J_lv [3, 0] rfl (hj24 hf)
    · have hf := it_f c_16 hf
      refine J_iload_n hB dX8_fewestNow_20 rfl 3 rfl ?_
      refine J_if_ne (tgt := 34) hB dX8_fewestNow_21 rfl (fun c_17 => ?_) (fun c_17 => ?_)
      · have hf := it_f c_17 hf
        refine J_aload_n hB dX8_fewestNow_34 rfl 2 rfl ?_
        refine J_get (v := .ref (a (b + 12))) hB inX8 0 rfl rfl 25 (Nat.le_of_ble_eq_true rfl) kf_X8_46 rfl dX8_fewestNow_35 ?_
        refine J_iconst (v := 0) hB dX8_fewestNow_38 rfl ?_
        obtain ⟨v_18, ev_18, h_19, hf⟩ := ald_e hf
        refine J_iald hB 12 rfl ev_18 h_19 dX8_fewestNow_39 ?_
        refine J_istore (lv' := [(4, .int v_18), (3, .int r_8), (2, .int r_1), (0, .ref (a b)), (1, .int p0)]) hB rfl dX8_fewestNow_40 (Nat.le_of_ble_eq_true rfl) rfl ?_
        refine J_iconst (v := 0) hB dX8_fewestNow_42 rfl ?_
        refine J_istore (lv' := [(5, .int 0), (4, .int v_18), (3, .int r_8), (2, .int r_1), (0, .ref (a b)), (1, .int p0)]) hB rfl dX8_fewestNow_43 (Nat.le_of_ble_eq_true rfl) rfl ?_
        refine J_lv [4, 5, 3, 2, 1, 0] rfl ?_
        refine lp6_5_J (P := fun x5_20 m_row_21 m_far_22 m_ways_23 m_queue_24 m_queueEnd_25 => J l E rX8_fewestNow Y (wM E a b m_stones m_any m_backward m_ring m_two m_brooks m_readRow m_rowNow m_frogOn m_frogs m_kindOf m_moved m_movedFrom m_movedTo m_pageLength m_page m_faultAt m_isWhole m_newMany m_newSigns m_newRow m_long0_5 m_row_21 m_far_22 m_ways_23 m_queue_24 m_queueEnd_25 m_endMany m_endSoon m_won m_seedNow m_isKept m_keptBrook m_keptMoved m_keptRow m_keptFrog m_keptFrom m_keptTo m_h) 45 [(0, .ref (a b)), (1, .int p0), (2, .int r_1), (3, .int r_8), (4, .int v_18), (5, .int x5_20)] []) (Q := fun m_row_26 m_far_27 m_ways_28 m_queue_29 m_queueEnd_30 => J l E rX8_fewestNow Y (wM E a b m_stones m_any m_backward m_ring m_two m_brooks m_readRow m_rowNow m_frogOn m_frogs m_kindOf m_moved m_movedFrom m_movedTo m_pageLength m_page m_faultAt m_isWhole m_newMany m_newSigns m_newRow m_long0_5 m_row_26 m_far_27 m_ways_28 m_queue_29 m_queueEnd_30 m_endMany m_endSoon m_won m_seedNow m_isKept m_keptBrook m_keptMoved m_keptRow m_keptFrog m_keptFrom m_keptTo m_h) 139 [] []) (fun x5_20 m_row_21 m_far_22 m_ways_23 m_queue_24 m_queueEnd_25 nx45 ex45 hnx45 hex45 hf => ?_) (fun m_row_26 m_far_27 m_ways_28 m_queue_29 m_queueEnd_30 hf => ?_) hf
        · refine J_iload hB dX8_fewestNow_45 5 rfl ?_
          refine J_aload_n hB dX8_fewestNow_47 rfl 0 rfl ?_
          refine J_get (v := .int m_long0_5) hB inX8 0 rfl rfl 21 (Nat.le_of_ble_eq_true rfl) kf_X8_135 rfl dX8_fewestNow_48 ?_
          refine J_icmp_ge (tgt := 139) hB dX8_fewestNow_51 rfl (fun c_31 => ?_) (fun c_31 => ?_)
          · have hf := it_t c_31 hf
            exact J_lv [] rfl (hex45 m_row_21 m_far_22 m_ways_23 m_queue_24 m_queueEnd_25 hf)
          · have hf := it_f c_31 hf
            refine J_iconst (v := 0) hB dX8_fewestNow_54 rfl ?_
            refine J_istore (lv' := [(6, .int 0), (0, .ref (a b)), (1, .int p0), (2, .int r_1), (3, .int r_8), (4, .int v_18), (5, .int x5_20)]) hB rfl dX8_fewestNow_55 (Nat.le_of_ble_eq_true rfl) rfl ?_
            refine J_lv [1, 2, 3, 4, 5, 6, 0] rfl ?_
            refine lp6_5_J (P := fun x6_32 m_row_33 m_far_34 m_ways_35 m_queue_36 m_queueEnd_37 => J l E rX8_fewestNow Y (wM E a b m_stones m_any m_backward m_ring m_two m_brooks m_readRow m_rowNow m_frogOn m_frogs m_kindOf m_moved m_movedFrom m_movedTo m_pageLength m_page m_faultAt m_isWhole m_newMany m_newSigns m_newRow m_long0_5 m_row_33 m_far_34 m_ways_35 m_queue_36 m_queueEnd_37 m_endMany m_endSoon m_won m_seedNow m_isKept m_keptBrook m_keptMoved m_keptRow m_keptFrog m_keptFrom m_keptTo m_h) 57 [(0, .ref (a b)), (1, .int p0), (2, .int r_1), (3, .int r_8), (4, .int v_18), (5, .int x5_20), (6, .int x6_32)] []) (Q := fun m_row_38 m_far_39 m_ways_40 m_queue_41 m_queueEnd_42 => J l E rX8_fewestNow Y (wM E a b m_stones m_any m_backward m_ring m_two m_brooks m_readRow m_rowNow m_frogOn m_frogs m_kindOf m_moved m_movedFrom m_movedTo m_pageLength m_page m_faultAt m_isWhole m_newMany m_newSigns m_newRow m_long0_5 m_row_38 m_far_39 m_ways_40 m_queue_41 m_queueEnd_42 m_endMany m_endSoon m_won m_seedNow m_isKept m_keptBrook m_keptMoved m_keptRow m_keptFrog m_keptFrom m_keptTo m_h) 133 [(0, .ref (a b)), (1, .int p0), (2, .int r_1), (3, .int r_8), (4, .int v_18), (5, .int x5_20)] []) (fun x6_32 m_row_33 m_far_34 m_ways_35 m_queue_36 m_queueEnd_37 nx57 ex57 hnx57 hex57 hf => ?_) (fun m_row_38 m_far_39 m_ways_40 m_queue_41 m_queueEnd_42 hf => ?_) hf
            · refine J_iload hB dX8_fewestNow_57 6 rfl ?_
              refine J_aload_n hB dX8_fewestNow_59 rfl 0 rfl ?_
              refine J_get (v := .int m_long0_5) hB inX8 0 rfl rfl 21 (Nat.le_of_ble_eq_true rfl) kf_X8_135 rfl dX8_fewestNow_60 ?_
              refine J_icmp_ge (tgt := 133) hB dX8_fewestNow_63 rfl (fun c_43 => ?_) (fun c_43 => ?_)
              · have hf := it_t c_43 hf
                exact J_lv [0, 1, 2, 3, 4, 5] rfl (hex57 m_row_33 m_far_34 m_ways_35 m_queue_36 m_queueEnd_37 hf)
              · have hf := it_f c_43 hf
                refine J_aload_n hB dX8_fewestNow_66 rfl 0 rfl ?_
                refine J_iload hB dX8_fewestNow_67 5 rfl ?_
                refine J_iload hB dX8_fewestNow_69 6 rfl ?_
                obtain ⟨r_44, h_45, hf⟩ := cl1_e hf
                refine J_callV (As := [.int x5_20, .int x6_32]) (rest := []) (n := 2) (ws' := wM E a b m_stones m_any m_backward m_ring m_two m_brooks m_readRow m_rowNow m_frogOn m_frogs m_kindOf m_moved m_movedFrom m_movedTo m_pageLength m_page m_faultAt m_isWhole m_newMany m_newSigns m_newRow m_long0_5 m_row_33 m_far_34 m_ways_35 m_queue_36 m_queueEnd_37 m_endMany m_endSoon m_won m_seedNow m_isKept m_keptBrook m_keptMoved m_keptRow m_keptFrog m_keptFrom m_keptTo m_h) hB (c_X8_mayMove l E a b m_stones m_any m_backward m_ring m_two m_brooks m_readRow m_rowNow m_frogOn m_frogs m_kindOf m_moved m_movedFrom m_movedTo m_pageLength m_page m_faultAt m_isWhole m_newMany m_newSigns m_newRow m_long0_5 m_row_33 m_far_34 m_ways_35 m_queue_36 m_queueEnd_37 m_endMany m_endSoon m_won m_seedNow m_isKept m_keptBrook m_keptMoved m_keptRow m_keptFrog m_keptFrom m_keptTo m_h h_45) mi_X8_mayMove ⟨ki_X8_mayMove, kv_X8_mayMove⟩ km_X8_154 ⟨rfl, rfl, Nat.le_of_ble_eq_true rfl, Nat.le_of_ble_eq_true rfl⟩ Lies.same 0 rfl rfl rfl rfl (Nat.le_of_ble_eq_true rfl) dX8_fewestNow_71 ?_
                show J l E rX8_fewestNow Y (wM E a b m_stones m_any m_backward m_ring m_two m_brooks m_readRow m_rowNow m_frogOn m_frogs m_kindOf m_moved m_movedFrom m_movedTo m_pageLength m_page m_faultAt m_isWhole m_newMany m_newSigns m_newRow m_long0_5 m_row_33 m_far_34 m_ways_35 m_queue_36 m_queueEnd_37 m_endMany m_endSoon m_won m_seedNow m_isKept m_keptBrook m_keptMoved m_keptRow m_keptFrog m_keptFrom m_keptTo m_h) 74 [(0, .ref (a b)), (1, .int p0), (2, .int r_1), (3, .int r_8), (4, .int v_18), (5, .int x5_20), (6, .int x6_32)] [.int r_44]
                refine jn5_e (P := fun m_row_46 m_far_47 m_ways_48 m_queue_49 m_queueEnd_50 => J l E rX8_fewestNow Y (wM E a b m_stones m_any m_backward m_ring m_two m_brooks m_readRow m_rowNow m_frogOn m_frogs m_kindOf m_moved m_movedFrom m_movedTo m_pageLength m_page m_faultAt m_isWhole m_newMany m_newSigns m_newRow m_long0_5 m_row_46 m_far_47 m_ways_48 m_queue_49 m_queueEnd_50 m_endMany m_endSoon m_won m_seedNow m_isKept m_keptBrook m_keptMoved m_keptRow m_keptFrog m_keptFrom m_keptTo m_h) 127 [(0, .ref (a b)), (1, .int p0), (2, .int r_1), (3, .int r_8), (4, .int v_18), (5, .int x5_20), (6, .int x6_32)] []) hf (fun m_row_46 m_far_47 m_ways_48 m_queue_49 m_queueEnd_50 hf => ?_) (fun j127 hj127 hf => ?_)
                · obtain ⟨x6_51, ex6_51, hf⟩ := nmv_e hf
                  refine J_iinc (lv' := [(6, .int x6_51), (0, .ref (a b)), (1, .int p0), (2, .int r_1), (3, .int r_8), (4, .int v_18), (5, .int x5_20)]) hB ex6_51 dX8_fewestNow_127 6 rfl (Nat.le_of_ble_eq_true rfl) rfl ?_
                  refine J_goto (tgt := 57) hB dX8_fewestNow_130 rfl ?_
                  exact J_lv [1, 2, 3, 4, 5, 6, 0] rfl (hnx57 x6_51 m_row_46 m_far_47 m_ways_48 m_queue_49 m_queueEnd_50 hf)
                · refine J_if_eq (tgt := 127) hB dX8_fewestNow_74 rfl (fun c_52 => ?_) (fun c_52 => ?_)
                  · have hf := it_t c_52 hf
                    exact J_lv [0, 1, 2, 3, 4, 5, 6] rfl (hj127 m_row_33 m_far_34 m_ways_35 m_queue_36 m_queueEnd_37 hf)
                  · have hf := it_f c_52 hf
                    refine J_aload_n hB dX8_fewestNow_77 rfl 0 rfl ?_
                    refine J_iload hB dX8_fewestNow_78 4 rfl ?_
                    refine J_aload_n hB dX8_fewestNow_80 rfl 0 rfl ?_
                    refine J_get (v := .ref (a (b + 9))) hB inX8 0 rfl rfl 22 (Nat.le_of_ble_eq_true rfl) kf_X8_35 rfl dX8_fewestNow_81 ?_
                    refine J_iload hB dX8_fewestNow_84 5 rfl ?_
                    obtain ⟨v_53, ev_53, h_54, hf⟩ := ald_e hf
                    refine J_iald hB 9 rfl ev_53 h_54 dX8_fewestNow_86 ?_
                    refine J_iload hB dX8_fewestNow_87 5 rfl ?_
                    refine J_iload hB dX8_fewestNow_89 6 rfl ?_
                    obtain ⟨r_55, h_56, hf⟩ := cl1_e hf
                    refine J_callS (As := [.int v_18, .int v_53, .int x5_20, .int x6_32]) (rest := [.ref (a b)]) (n := 4) (ws' := wM E a b m_stones m_any m_backward m_ring m_two m_brooks m_readRow m_rowNow m_frogOn m_frogs m_kindOf m_moved m_movedFrom m_movedTo m_pageLength m_page m_faultAt m_isWhole m_newMany m_newSigns m_newRow m_long0_5 m_row_33 m_far_34 m_ways_35 m_queue_36 m_queueEnd_37 m_endMany m_endSoon m_won m_seedNow m_isKept m_keptBrook m_keptMoved m_keptRow m_keptFrog m_keptFrom m_keptTo m_h) hB (c_X8_behindMove l E a h_56) mi_X8_behindMove ks_X8_behindMove km_X8_181 ⟨rfl, rfl, Nat.le_of_ble_eq_true rfl, Nat.le_of_ble_eq_true rfl⟩ Lies.none rfl rfl (Nat.le_of_ble_eq_true rfl) dX8_fewestNow_91 ?_
                    show J l E rX8_fewestNow Y (wM E a b m_stones m_any m_backward m_ring m_two m_brooks m_readRow m_rowNow m_frogOn m_frogs m_kindOf m_moved m_movedFrom m_movedTo m_pageLength m_page m_faultAt m_isWhole m_newMany m_newSigns m_newRow m_long0_5 m_row_33 m_far_34 m_ways_35 m_queue_36 m_queueEnd_37 m_endMany m_endSoon m_won m_seedNow m_isKept m_keptBrook m_keptMoved m_keptRow m_keptFrog m_keptFrom m_keptTo m_h) 94 [(0, .ref (a b)), (1, .int p0), (2, .int r_1), (3, .int r_8), (4, .int v_18), (5, .int x5_20), (6, .int x6_32)] [.int r_55, .ref (a b)]
                    obtain ⟨m_row_57, h_58, hf⟩ := cl1_e hf
                    refine J_callV (As := [.int r_55]) (rest := []) (n := 1) (ws' := wM E a b m_stones m_any m_backward m_ring m_two m_brooks m_readRow m_rowNow m_frogOn m_frogs m_kindOf m_moved m_movedFrom m_movedTo m_pageLength m_page m_faultAt m_isWhole m_newMany m_newSigns m_newRow m_long0_5 m_row_57 m_far_34 m_ways_35 m_queue_36 m_queueEnd_37 m_endMany m_endSoon m_won m_seedNow m_isKept m_keptBrook m_keptMoved m_keptRow m_keptFrog m_keptFrom m_keptTo m_h) hB (c_X8_layRow l E a b m_stones m_any m_backward m_ring m_two m_brooks m_readRow m_rowNow m_frogOn m_frogs m_kindOf m_moved m_movedFrom m_movedTo m_pageLength m_page m_faultAt m_isWhole m_newMany m_newSigns m_newRow m_long0_5 m_row_33 m_far_34 m_ways_35 m_queue_36 m_queueEnd_37 m_endMany m_endSoon m_won m_seedNow m_isKept m_keptBrook m_keptMoved m_keptRow m_keptFrog m_keptFrom m_keptTo m_h h_58) mi_X8_layRow ⟨ki_X8_layRow, kv_X8_layRow⟩ km_X8_177 ⟨rfl, rfl, Nat.le_of_ble_eq_true rfl, Nat.le_of_ble_eq_true rfl⟩ Lies.same 0 rfl rfl rfl rfl (Nat.le_of_ble_eq_true rfl) dX8_fewestNow_94 ?_
                    show J l E rX8_fewestNow Y (wM E a b m_stones m_any m_backward m_ring m_two m_brooks m_readRow m_rowNow m_frogOn m_frogs m_kindOf m_moved m_movedFrom m_movedTo m_pageLength m_page m_faultAt m_isWhole m_newMany m_newSigns m_newRow m_long0_5 m_row_57 m_far_34 m_ways_35 m_queue_36 m_queueEnd_37 m_endMany m_endSoon m_won m_seedNow m_isKept m_keptBrook m_keptMoved m_keptRow m_keptFrog m_keptFrom m_keptTo m_h) 97 [(0, .ref (a b)), (1, .int p0), (2, .int r_1), (3, .int r_8), (4, .int v_18), (5, .int x5_20), (6, .int x6_32)] []
                    refine J_aload_n hB dX8_fewestNow_97 rfl 0 rfl ?_
                    refine J_iload_n hB dX8_fewestNow_98 rfl 2 rfl ?_
                    obtain ⟨r_59, m_row_60, m_far_61, m_ways_62, m_queue_63, m_queueEnd_64, h_65, hf⟩ := cl6_e hf
                    refine J_callV (As := [.int r_1]) (rest := []) (n := 1) (ws' := wM E a b m_stones m_any m_backward m_ring m_two m_brooks m_readRow m_rowNow m_frogOn m_frogs m_kindOf m_moved m_movedFrom m_movedTo m_pageLength m_page m_faultAt m_isWhole m_newMany m_newSigns m_newRow m_long0_5 m_row_60 m_far_61 m_ways_62 m_queue_63 m_queueEnd_64 m_endMany m_endSoon m_won m_seedNow m_isKept m_keptBrook m_keptMoved m_keptRow m_keptFrog m_keptFrom m_keptTo m_h) hB (c_X8_farTo l E a b m_stones m_any m_backward m_ring m_two m_brooks m_readRow m_rowNow m_frogOn m_frogs m_kindOf m_moved m_movedFrom m_movedTo m_pageLength m_page m_faultAt m_isWhole m_newMany m_newSigns m_newRow m_long0_5 m_row_57 m_far_34 m_ways_35 m_queue_36 m_queueEnd_37 m_endMany m_endSoon m_won m_seedNow m_isKept m_keptBrook m_keptMoved m_keptRow m_keptFrog m_keptFrom m_keptTo m_h h_65) mi_X8_farTo ⟨ki_X8_farTo, kv_X8_farTo⟩ km_X8_197 ⟨rfl, rfl, Nat.le_of_ble_eq_true rfl, Nat.le_of_ble_eq_true rfl⟩ Lies.same 0 rfl rfl rfl rfl (Nat.le_of_ble_eq_true rfl) dX8_fewestNow_99 ?_
                    show J l E rX8_fewestNow Y (wM E a b m_stones m_any m_backward m_ring m_two m_brooks m_readRow m_rowNow m_frogOn m_frogs m_kindOf m_moved m_movedFrom m_movedTo m_pageLength m_page m_faultAt m_isWhole m_newMany m_newSigns m_newRow m_long0_5 m_row_60 m_far_61 m_ways_62 m_queue_63 m_queueEnd_64 m_endMany m_endSoon m_won m_seedNow m_isKept m_keptBrook m_keptMoved m_keptRow m_keptFrog m_keptFrom m_keptTo m_h) 102 [(0, .ref (a b)), (1, .int p0), (2, .int r_1), (3, .int r_8), (4, .int v_18), (5, .int x5_20), (6, .int x6_32)] [.int r_59]
                    refine J_iload_n hB dX8_fewestNow_102 rfl 3 rfl ?_
                    refine J_iconst (v := 1) hB dX8_fewestNow_103 rfl ?_
                    refine J_isub hB dX8_fewestNow_104 ?_
                    refine J_icmp_ne (tgt := 121) hB dX8_fewestNow_105 rfl (fun c_66 => ?_) (fun c_66 => ?_)
                    · have hf := it_f c_66 hf
                      refine J_aload_n hB dX8_fewestNow_121 rfl 0 rfl ?_
                      refine J_iload hB dX8_fewestNow_122 4 rfl ?_
                      obtain ⟨m_row_67, h_68, hf⟩ := cl1_e hf
                      refine J_callV (As := [.int v_18]) (rest := []) (n := 1) (ws' := wM E a b m_stones m_any m_backward m_ring m_two m_brooks m_readRow m_rowNow m_frogOn m_frogs m_kindOf m_moved m_movedFrom m_movedTo m_pageLength m_page m_faultAt m_isWhole m_newMany m_newSigns m_newRow m_long0_5 m_row_67 m_far_61 m_ways_62 m_queue_63 m_queueEnd_64 m_endMany m_endSoon m_won m_seedNow m_isKept m_keptBrook m_keptMoved m_keptRow m_keptFrog m_keptFrom m_keptTo m_h) hB (c_X8_layRow l E a b m_stones m_any m_backward m_ring m_two m_brooks m_readRow m_rowNow m_frogOn m_frogs m_kindOf m_moved m_movedFrom m_movedTo m_pageLength m_page m_faultAt m_isWhole m_newMany m_newSigns m_newRow m_long0_5 m_row_60 m_far_61 m_ways_62 m_queue_63 m_queueEnd_64 m_endMany m_endSoon m_won m_seedNow m_isKept m_keptBrook m_keptMoved m_keptRow m_keptFrog m_keptFrom m_keptTo m_h h_68) mi_X8_layRow ⟨ki_X8_layRow, kv_X8_layRow⟩ km_X8_177 ⟨rfl, rfl, Nat.le_of_ble_eq_true rfl, Nat.le_of_ble_eq_true rfl⟩ Lies.same 0 rfl rfl rfl rfl (Nat.le_of_ble_eq_true rfl) dX8_fewestNow_124 ?_
                      show J l E rX8_fewestNow Y (wM E a b m_stones m_any m_backward m_ring m_two m_brooks m_readRow m_rowNow m_frogOn m_frogs m_kindOf m_moved m_movedFrom m_movedTo m_pageLength m_page m_faultAt m_isWhole m_newMany m_newSigns m_newRow m_long0_5 m_row_67 m_far_61 m_ways_62 m_queue_63 m_queueEnd_64 m_endMany m_endSoon m_won m_seedNow m_isKept m_keptBrook m_keptMoved m_keptRow m_keptFrog m_keptFrom m_keptTo m_h) 127 [(0, .ref (a b)), (1, .int p0), (2, .int r_1), (3, .int r_8), (4, .int v_18), (5, .int x5_20), (6, .int x6_32)] []
                      exact J_lv [0, 1, 2, 3, 4, 5, 6] rfl (hj127 m_row_67 m_far_61 m_ways_62 m_queue_63 m_queueEnd_64 hf)
                    · have hf := it_t c_66 hf
                      refine J_iload_n hB dX8_fewestNow_108 rfl 1 rfl ?_
                      refine J_iconst (v := 1) hB dX8_fewestNow_109 rfl ?_
                      refine J_icmp_ne (tgt := 118) hB dX8_fewestNow_110 rfl (fun c_69 => ?_) (fun c_69 => ?_)
                      · have hf := it_f c_69 hf
                        refine J_iload hB dX8_fewestNow_118 6 rfl ?_
                        obtain rfl := Option.some.inj hf
                        exact J_iret hB hR dX8_fewestNow_120
                      · have hf := it_t c_69 hf
                        refine J_iload hB dX8_fewestNow_113 5 rfl ?_
                        refine J_goto (tgt := 120) hB dX8_fewestNow_115 rfl ?_
                        obtain rfl := Option.some.inj hf
                        exact J_iret hB hR dX8_fewestNow_120
            · obtain ⟨x5_70, ex5_70, hf⟩ := nmv_e hf
              refine J_iinc (lv' := [(5, .int x5_70), (0, .ref (a b)), (1, .int p0), (2, .int r_1), (3, .int r_8), (4, .int v_18)]) hB ex5_70 dX8_fewestNow_133 5 rfl (Nat.le_of_ble_eq_true rfl) rfl ?_
              refine J_goto (tgt := 45) hB dX8_fewestNow_136 rfl ?_
              exact J_lv [1, 2, 3, 4, 5, 0] rfl (hnx45 x5_70 m_row_38 m_far_39 m_ways_40 m_queue_41 m_queueEnd_42 hf)
        · refine J_iconst (v := (-1)) hB dX8_fewestNow_139 rfl ?_
          obtain rfl := Option.some.inj hf
          exact J_iret hB hR dX8_fewestNow_140
      · have hf := it_t c_17 hf
        exact J_lv [3, 0] rfl (hj24 hf)
def f_X8_fewest (m_stones : Int32) (m_any : Int32) (m_backward : Int32) (m_ring : Int32) (m_two : Int32) (m_readRow : Nat → Int32) (m_rowNow : Nat → Int32) (m_long0 : Int32) (m_row : Nat → Int32) (m_far : Nat → Int32) (m_ways : Nat → Int64) (m_queue : Nat → Int32) (m_queueEnd : Int32) (p0 : Int32) : Option (Int32 × Int32 × (Nat → Int32) × (Nat → Int32) × (Nat → Int64) × (Nat → Int32) × Int32) :=
cl1 (f_X8_within p0 0 2) fun r_1 =>
if r_1 = 0 then (
some ((-102), m_long0, m_row, m_far, m_ways, m_queue, m_queueEnd)) else (
if m_stones = 0 then (
some ((-103), m_long0, m_row, m_far, m_ways, m_queue, m_queueEnd)) else (
cl7 (f_X8_fewestNow m_stones m_any m_backward m_ring m_two m_readRow m_rowNow m_long0 m_row m_far m_ways m_queue m_queueEnd p0) fun r_5 m_long0_6 m_row_7 m_far_8 m_ways_9 m_queue_10 m_queueEnd_11 =>
some (r_5, m_long0_6, m_row_7, m_far_8, m_ways_9, m_queue_10, m_queueEnd_11)))
abbrev rX8_fewest : Room := { frames := 7, cells := 0, slots := 0, locals := 167 }
set_option maxRecDepth 100000 in
set_option maxHeartbeats 4000000 in
theorem c_X8_fewest (l : Launch) (E : En) (a : Nat → Nat) (b : Nat) (m_stones : Int32) (m_any : Int32) (m_backward : Int32) (m_ring : Int32) (m_two : Int32) (m_brooks : Int32) (m_readRow : Nat → Int32) (m_rowNow : Nat → Int32) (m_frogOn : Nat → Int32) (m_frogs : Int32) (m_kindOf : Nat → Int32) (m_moved : Int32) (m_movedFrom : Nat → Int32) (m_movedTo : Nat → Int32) (m_pageLength : Int32) (m_page : Nat → Int32) (m_faultAt : Int32) (m_isWhole : Int32) (m_newMany : Int32) (m_newSigns : Int32) (m_newRow : Nat → Int32) (m_long0 : Int32) (m_row : Nat → Int32) (m_far : Nat → Int32) (m_ways : Nat → Int64) (m_queue : Nat → Int32) (m_queueEnd : Int32) (m_endMany : Int32) (m_endSoon : Int32) (m_won : Nat → Int32) (m_seedNow : Int64) (m_isKept : Int32) (m_keptBrook : Int32) (m_keptMoved : Int32) (m_keptRow : Nat → Int32) (m_keptFrog : Nat → Int32) (m_keptFrom : Nat → Int32) (m_keptTo : Nat → Int32) (m_h : Int64) {p0 : Int32} {res : Int32 × Int32 × (Nat → Int32) × (Nat → Int32) × (Nat → Int64) × (Nat → Int32) × Int32} (hf : f_X8_fewest m_stones m_any m_backward m_ring m_two m_readRow m_rowNow m_long0 m_row m_far m_ways m_queue m_queueEnd p0 = some res) : Ct l yX8_fewest (.code yX8_fewest cX8_fewest 2 (some .int)) rX8_fewest E [.ref (a b), .int p0] (wM E a b m_stones m_any m_backward m_ring m_two m_brooks m_readRow m_rowNow m_frogOn m_frogs m_kindOf m_moved m_movedFrom m_movedTo m_pageLength m_page m_faultAt m_isWhole m_newMany m_newSigns m_newRow m_long0 m_row m_far m_ways m_queue m_queueEnd m_endMany m_endSoon m_won m_seedNow m_isKept m_keptBrook m_keptMoved m_keptRow m_keptFrog m_keptFrom m_keptTo m_h) (some (.int res.1)) (wM E a b m_stones m_any m_backward m_ring m_two m_brooks m_readRow m_rowNow m_frogOn m_frogs m_kindOf m_moved m_movedFrom m_movedTo m_pageLength m_page m_faultAt m_isWhole m_newMany m_newSigns m_newRow res.2.1 res.2.2.1 res.2.2.2.1 res.2.2.2.2.1 res.2.2.2.2.2.1 res.2.2.2.2.2.2 m_endMany m_endSoon m_won m_seedNow m_isKept m_keptBrook m_keptMoved m_keptRow m_keptFrog m_keptFrom m_keptTo m_h) := by
  refine Ct.of (by decide) (Nat.le_of_ble_eq_true rfl) (fun Y hB hR => ?_)
  have hB : Cb E cX8_fewest RX8 rX8_fewest 2 Y := hB
  show J l E rX8_fewest Y (wM E a b m_stones m_any m_backward m_ring m_two m_brooks m_readRow m_rowNow m_frogOn m_frogs m_kindOf m_moved m_movedFrom m_movedTo m_pageLength m_page m_faultAt m_isWhole m_newMany m_newSigns m_newRow m_long0 m_row m_far m_ways m_queue m_queueEnd m_endMany m_endSoon m_won m_seedNow m_isKept m_keptBrook m_keptMoved m_keptRow m_keptFrog m_keptFrom m_keptTo m_h) 0 [(0, .ref (a b)), (1, .int p0)] []
  unfold f_X8_fewest at hf
  refine J_iload_n hB dX8_fewest_0 rfl 1 rfl ?_
  refine J_iconst (v := 0) hB dX8_fewest_1 rfl ?_
  refine J_iconst (v := 2) hB dX8_fewest_2 rfl ?_
  obtain ⟨r_1, h_2, hf⟩ := cl1_e hf
  refine J_callS (As := [.int p0, .int 0, .int 2]) (rest := []) (n := 3) (ws' := wM E a b m_stones m_any m_backward m_ring m_two m_brooks m_readRow m_rowNow m_frogOn m_frogs m_kindOf m_moved m_movedFrom m_movedTo m_pageLength m_page m_faultAt m_isWhole m_newMany m_newSigns m_newRow m_long0 m_row m_far m_ways m_queue m_queueEnd m_endMany m_endSoon m_won m_seedNow m_isKept m_keptBrook m_keptMoved m_keptRow m_keptFrog m_keptFrom m_keptTo m_h) hB (c_X8_within l E a h_2) mi_X8_within ks_X8_within km_X8_117 ⟨rfl, rfl, Nat.le_of_ble_eq_true rfl, Nat.le_of_ble_eq_true rfl⟩ Lies.none rfl rfl (Nat.le_of_ble_eq_true rfl) dX8_fewest_3 ?_
  show J l E rX8_fewest Y (wM E a b m_stones m_any m_backward m_ring m_two m_brooks m_readRow m_rowNow m_frogOn m_frogs m_kindOf m_moved m_movedFrom m_movedTo m_pageLength m_page m_faultAt m_isWhole m_newMany m_newSigns m_newRow m_long0 m_row m_far m_ways m_queue m_queueEnd m_endMany m_endSoon m_won m_seedNow m_isKept m_keptBrook m_keptMoved m_keptRow m_keptFrog m_keptFrom m_keptTo m_h) 6 [(0, .ref (a b)), (1, .int p0)] [.int r_1]
  refine J_if_ne (tgt := 12) hB dX8_fewest_6 rfl (fun c_3 => ?_) (fun c_3 => ?_)
  · have hf := it_f c_3 hf
    refine J_aload_n hB dX8_fewest_12 rfl 0 rfl ?_
    refine J_get (v := .int m_stones) hB inX8 0 rfl rfl 0 (Nat.le_of_ble_eq_true rfl) kf_X8_93 rfl dX8_fewest_13 ?_
    refine J_if_ne (tgt := 24) hB dX8_fewest_16 rfl (fun c_4 => ?_) (fun c_4 => ?_)
    · have hf := it_f c_4 hf
      refine J_aload_n hB dX8_fewest_24 rfl 0 rfl ?_
      refine J_iload_n hB dX8_fewest_25 rfl 1 rfl ?_
      obtain ⟨r_5, m_long0_6, m_row_7, m_far_8, m_ways_9, m_queue_10, m_queueEnd_11, h_12, hf⟩ := cl7_e hf
      refine J_callV (As := [.int p0]) (rest := []) (n := 1) (ws' := wM E a b m_stones m_any m_backward m_ring m_two m_brooks m_readRow m_rowNow m_frogOn m_frogs m_kindOf m_moved m_movedFrom m_movedTo m_pageLength m_page m_faultAt m_isWhole m_newMany m_newSigns m_newRow m_long0_6 m_row_7 m_far_8 m_ways_9 m_queue_10 m_queueEnd_11 m_endMany m_endSoon m_won m_seedNow m_isKept m_keptBrook m_keptMoved m_keptRow m_keptFrog m_keptFrom m_keptTo m_h) hB (c_X8_fewestNow l E a b m_stones m_any m_backward m_ring m_two m_brooks m_readRow m_rowNow m_frogOn m_frogs m_kindOf m_moved m_movedFrom m_movedTo m_pageLength m_page m_faultAt m_isWhole m_newMany m_newSigns m_newRow m_long0 m_row m_far m_ways m_queue m_queueEnd m_endMany m_endSoon m_won m_seedNow m_isKept m_keptBrook m_keptMoved m_keptRow m_keptFrog m_keptFrom m_keptTo m_h h_12) mi_X8_fewestNow ⟨ki_X8_fewestNow, kv_X8_fewestNow⟩ km_X8_200 ⟨rfl, rfl, Nat.le_of_ble_eq_true rfl, Nat.le_of_ble_eq_true rfl⟩ Lies.same 0 rfl rfl rfl rfl (Nat.le_of_ble_eq_true rfl) dX8_fewest_26 ?_
      show J l E rX8_fewest Y (wM E a b m_stones m_any m_backward m_ring m_two m_brooks m_readRow m_rowNow m_frogOn m_frogs m_kindOf m_moved m_movedFrom m_movedTo m_pageLength m_page m_faultAt m_isWhole m_newMany m_newSigns m_newRow m_long0_6 m_row_7 m_far_8 m_ways_9 m_queue_10 m_queueEnd_11 m_endMany m_endSoon m_won m_seedNow m_isKept m_keptBrook m_keptMoved m_keptRow m_keptFrog m_keptFrom m_keptTo m_h) 29 [(0, .ref (a b)), (1, .int p0)] [.int r_5]
      obtain rfl := Option.some.inj hf
      exact J_iret hB hR dX8_fewest_29
    · have hf := it_t c_4 hf
      refine J_bipush (v := (-103)) hB dX8_fewest_19 rfl ?_
      refine J_goto (tgt := 29) hB dX8_fewest_21 rfl ?_
      obtain rfl := Option.some.inj hf
      exact J_iret hB hR dX8_fewest_29
  · have hf := it_t c_3 hf
    refine J_bipush (v := (-102)) hB dX8_fewest_9 rfl ?_
    obtain rfl := Option.some.inj hf
    exact J_iret hB hR dX8_fewest_11
def f_X8_waysNow (m_stones : Int32) (m_any : Int32) (m_backward : Int32) (m_ring : Int32) (m_two : Int32) (m_readRow : Nat → Int32) (m_rowNow : Nat → Int32) (m_long0 : Int32) (m_row : Nat → Int32) (m_far : Nat → Int32) (m_ways : Nat → Int64) (m_queue : Nat → Int32) (m_queueEnd : Int32) : Option (Int32 × Int32 × (Nat → Int32) × (Nat → Int32) × (Nat → Int64) × (Nat → Int32) × Int32) :=
cl3 (f_X8_goal m_stones m_readRow m_long0 m_row) fun r_1 m_long0_2 m_row_3 =>
cl2 (f_X8_layNow m_stones m_rowNow m_long0_2 m_row_3) fun m_long0_5 m_row_6 =>
cl5 (f_X8_layFar m_any m_backward m_ring m_two m_long0_5 m_row_6 m_far m_ways m_queue m_queueEnd) fun m_row_8 m_far_9 m_ways_10 m_queue_11 m_queueEnd_12 =>
ald 78125 m_ways_10 r_1 fun v_14 =>
some (Int64.toInt32 v_14, m_long0_5, m_row_8, m_far_9, m_ways_10, m_queue_11, m_queueEnd_12)
abbrev rX8_waysNow : Room := { frames := 5, cells := 0, slots := 0, locals := 120 }
set_option maxRecDepth 100000 in
set_option maxHeartbeats 4000000 in
theorem c_X8_waysNow (l : Launch) (E : En) (a : Nat → Nat) (b : Nat) (m_stones : Int32) (m_any : Int32) (m_backward : Int32) (m_ring : Int32) (m_two : Int32) (m_brooks : Int32) (m_readRow : Nat → Int32) (m_rowNow : Nat → Int32) (m_frogOn : Nat → Int32) (m_frogs : Int32) (m_kindOf : Nat → Int32) (m_moved : Int32) (m_movedFrom : Nat → Int32) (m_movedTo : Nat → Int32) (m_pageLength : Int32) (m_page : Nat → Int32) (m_faultAt : Int32) (m_isWhole : Int32) (m_newMany : Int32) (m_newSigns : Int32) (m_newRow : Nat → Int32) (m_long0 : Int32) (m_row : Nat → Int32) (m_far : Nat → Int32) (m_ways : Nat → Int64) (m_queue : Nat → Int32) (m_queueEnd : Int32) (m_endMany : Int32) (m_endSoon : Int32) (m_won : Nat → Int32) (m_seedNow : Int64) (m_isKept : Int32) (m_keptBrook : Int32) (m_keptMoved : Int32) (m_keptRow : Nat → Int32) (m_keptFrog : Nat → Int32) (m_keptFrom : Nat → Int32) (m_keptTo : Nat → Int32) (m_h : Int64) {res : Int32 × Int32 × (Nat → Int32) × (Nat → Int32) × (Nat → Int64) × (Nat → Int32) × Int32} (hf : f_X8_waysNow m_stones m_any m_backward m_ring m_two m_readRow m_rowNow m_long0 m_row m_far m_ways m_queue m_queueEnd = some res) : Ct l yX8_waysNow (.code yX8_waysNow cX8_waysNow 2 (some .int)) rX8_waysNow E [.ref (a b)] (wM E a b m_stones m_any m_backward m_ring m_two m_brooks m_readRow m_rowNow m_frogOn m_frogs m_kindOf m_moved m_movedFrom m_movedTo m_pageLength m_page m_faultAt m_isWhole m_newMany m_newSigns m_newRow m_long0 m_row m_far m_ways m_queue m_queueEnd m_endMany m_endSoon m_won m_seedNow m_isKept m_keptBrook m_keptMoved m_keptRow m_keptFrog m_keptFrom m_keptTo m_h) (some (.int res.1)) (wM E a b m_stones m_any m_backward m_ring m_two m_brooks m_readRow m_rowNow m_frogOn m_frogs m_kindOf m_moved m_movedFrom m_movedTo m_pageLength m_page m_faultAt m_isWhole m_newMany m_newSigns m_newRow res.2.1 res.2.2.1 res.2.2.2.1 res.2.2.2.2.1 res.2.2.2.2.2.1 res.2.2.2.2.2.2 m_endMany m_endSoon m_won m_seedNow m_isKept m_keptBrook m_keptMoved m_keptRow m_keptFrog m_keptFrom m_keptTo m_h) := by
  refine Ct.of (by decide) (Nat.le_of_ble_eq_true rfl) (fun Y hB hR => ?_)
  have hB : Cb E cX8_waysNow RX8 rX8_waysNow 2 Y := hB
  show J l E rX8_waysNow Y (wM E a b m_stones m_any m_backward m_ring m_two m_brooks m_readRow m_rowNow m_frogOn m_frogs m_kindOf m_moved m_movedFrom m_movedTo m_pageLength m_page m_faultAt m_isWhole m_newMany m_newSigns m_newRow m_long0 m_row m_far m_ways m_queue m_queueEnd m_endMany m_endSoon m_won m_seedNow m_isKept m_keptBrook m_keptMoved m_keptRow m_keptFrog m_keptFrom m_keptTo m_h) 0 [(0, .ref (a b))] []
  unfold f_X8_waysNow at hf
  refine J_aload_n hB dX8_waysNow_0 rfl 0 rfl ?_
  obtain ⟨r_1, m_long0_2, m_row_3, h_4, hf⟩ := cl3_e hf
  refine J_callV (As := []) (rest := []) (n := 0) (ws' := wM E a b m_stones m_any m_backward m_ring m_two m_brooks m_readRow m_rowNow m_frogOn m_frogs m_kindOf m_moved m_movedFrom m_movedTo m_pageLength m_page m_faultAt m_isWhole m_newMany m_newSigns m_newRow m_long0_2 m_row_3 m_far m_ways m_queue m_queueEnd m_endMany m_endSoon m_won m_seedNow m_isKept m_keptBrook m_keptMoved m_keptRow m_keptFrog m_keptFrom m_keptTo m_h) hB (c_X8_goal l E a b m_stones m_any m_backward m_ring m_two m_brooks m_readRow m_rowNow m_frogOn m_frogs m_kindOf m_moved m_movedFrom m_movedTo m_pageLength m_page m_faultAt m_isWhole m_newMany m_newSigns m_newRow m_long0 m_row m_far m_ways m_queue m_queueEnd m_endMany m_endSoon m_won m_seedNow m_isKept m_keptBrook m_keptMoved m_keptRow m_keptFrog m_keptFrom m_keptTo m_h h_4) mi_X8_goal ⟨ki_X8_goal, kv_X8_goal⟩ km_X8_194 ⟨rfl, rfl, Nat.le_of_ble_eq_true rfl, Nat.le_of_ble_eq_true rfl⟩ Lies.same 0 rfl rfl rfl rfl (Nat.le_of_ble_eq_true rfl) dX8_waysNow_1 ?_
  show J l E rX8_waysNow Y (wM E a b m_stones m_any m_backward m_ring m_two m_brooks m_readRow m_rowNow m_frogOn m_frogs m_kindOf m_moved m_movedFrom m_movedTo m_pageLength m_page m_faultAt m_isWhole m_newMany m_newSigns m_newRow m_long0_2 m_row_3 m_far m_ways m_queue m_queueEnd m_endMany m_endSoon m_won m_seedNow m_isKept m_keptBrook m_keptMoved m_keptRow m_keptFrog m_keptFrom m_keptTo m_h) 4 [(0, .ref (a b))] [.int r_1]
  refine J_istore_n (lv' := [(1, .int r_1), (0, .ref (a b))]) hB rfl dX8_waysNow_4 rfl (Nat.le_of_ble_eq_true rfl) rfl ?_
  refine J_aload_n hB dX8_waysNow_5 rfl 1 rfl ?_
  obtain ⟨m_long0_5, m_row_6, h_7, hf⟩ := cl2_e hf
  refine J_callV (As := []) (rest := []) (n := 0) (ws' := wM E a b m_stones m_any m_backward m_ring m_two m_brooks m_readRow m_rowNow m_frogOn m_frogs m_kindOf m_moved m_movedFrom m_movedTo m_pageLength m_page m_faultAt m_isWhole m_newMany m_newSigns m_newRow m_long0_5 m_row_6 m_far m_ways m_queue m_queueEnd m_endMany m_endSoon m_won m_seedNow m_isKept m_keptBrook m_keptMoved m_keptRow m_keptFrog m_keptFrom m_keptTo m_h) hB (c_X8_layNow l E a b m_stones m_any m_backward m_ring m_two m_brooks m_readRow m_rowNow m_frogOn m_frogs m_kindOf m_moved m_movedFrom m_movedTo m_pageLength m_page m_faultAt m_isWhole m_newMany m_newSigns m_newRow m_long0_2 m_row_3 m_far m_ways m_queue m_queueEnd m_endMany m_endSoon m_won m_seedNow m_isKept m_keptBrook m_keptMoved m_keptRow m_keptFrog m_keptFrom m_keptTo m_h h_7) mi_X8_layNow ⟨ki_X8_layNow, kv_X8_layNow⟩ km_X8_151 ⟨rfl, rfl, Nat.le_of_ble_eq_true rfl, Nat.le_of_ble_eq_true rfl⟩ Lies.same 0 rfl rfl rfl rfl (Nat.le_of_ble_eq_true rfl) dX8_waysNow_6 ?_
  show J l E rX8_waysNow Y (wM E a b m_stones m_any m_backward m_ring m_two m_brooks m_readRow m_rowNow m_frogOn m_frogs m_kindOf m_moved m_movedFrom m_movedTo m_pageLength m_page m_faultAt m_isWhole m_newMany m_newSigns m_newRow m_long0_5 m_row_6 m_far m_ways m_queue m_queueEnd m_endMany m_endSoon m_won m_seedNow m_isKept m_keptBrook m_keptMoved m_keptRow m_keptFrog m_keptFrom m_keptTo m_h) 9 [(1, .int r_1), (0, .ref (a b))] []
  refine J_aload_n hB dX8_waysNow_9 rfl 1 rfl ?_
  obtain ⟨m_row_8, m_far_9, m_ways_10, m_queue_11, m_queueEnd_12, h_13, hf⟩ := cl5_e hf
  refine J_callV (As := []) (rest := []) (n := 0) (ws' := wM E a b m_stones m_any m_backward m_ring m_two m_brooks m_readRow m_rowNow m_frogOn m_frogs m_kindOf m_moved m_movedFrom m_movedTo m_pageLength m_page m_faultAt m_isWhole m_newMany m_newSigns m_newRow m_long0_5 m_row_8 m_far_9 m_ways_10 m_queue_11 m_queueEnd_12 m_endMany m_endSoon m_won m_seedNow m_isKept m_keptBrook m_keptMoved m_keptRow m_keptFrog m_keptFrom m_keptTo m_h) hB (c_X8_layFar l E a b m_stones m_any m_backward m_ring m_two m_brooks m_readRow m_rowNow m_frogOn m_frogs m_kindOf m_moved m_movedFrom m_movedTo m_pageLength m_page m_faultAt m_isWhole m_newMany m_newSigns m_newRow m_long0_5 m_row_6 m_far m_ways m_queue m_queueEnd m_endMany m_endSoon m_won m_seedNow m_isKept m_keptBrook m_keptMoved m_keptRow m_keptFrog m_keptFrom m_keptTo m_h h_13) mi_X8_layFar ⟨ki_X8_layFar, kv_X8_layFar⟩ km_X8_191 ⟨rfl, rfl, Nat.le_of_ble_eq_true rfl, Nat.le_of_ble_eq_true rfl⟩ Lies.same 0 rfl rfl rfl rfl (Nat.le_of_ble_eq_true rfl) dX8_waysNow_10 ?_
  show J l E rX8_waysNow Y (wM E a b m_stones m_any m_backward m_ring m_two m_brooks m_readRow m_rowNow m_frogOn m_frogs m_kindOf m_moved m_movedFrom m_movedTo m_pageLength m_page m_faultAt m_isWhole m_newMany m_newSigns m_newRow m_long0_5 m_row_8 m_far_9 m_ways_10 m_queue_11 m_queueEnd_12 m_endMany m_endSoon m_won m_seedNow m_isKept m_keptBrook m_keptMoved m_keptRow m_keptFrog m_keptFrom m_keptTo m_h) 13 [(1, .int r_1), (0, .ref (a b))] []
  refine J_aload_n hB dX8_waysNow_13 rfl 1 rfl ?_
  refine J_get (v := .ref (a (b + 11))) hB inX8 0 rfl rfl 24 (Nat.le_of_ble_eq_true rfl) kf_X8_42 rfl dX8_waysNow_14 ?_
  refine J_iload_n hB dX8_waysNow_17 rfl 0 rfl ?_
  obtain ⟨v_14, ev_14, h_15, hf⟩ := ald_e hf
  refine J_lald hB 11 rfl ev_14 h_15 dX8_waysNow_18 ?_
  refine J_l2i hB dX8_waysNow_19 ?_
  obtain rfl := Option.some.inj hf
  exact J_iret hB hR dX8_waysNow_20
def f_X8_ways (m_stones : Int32) (m_any : Int32) (m_backward : Int32) (m_ring : Int32) (m_two : Int32) (m_readRow : Nat → Int32) (m_rowNow : Nat → Int32) (m_long0 : Int32) (m_row : Nat → Int32) (m_far : Nat → Int32) (m_ways : Nat → Int64) (m_queue : Nat → Int32) (m_queueEnd : Int32) : Option (Int32 × Int32 × (Nat → Int32) × (Nat → Int32) × (Nat → Int64) × (Nat → Int32) × Int32) :=
if m_stones = 0 then (
some ((-103), m_long0, m_row, m_far, m_ways, m_queue, m_queueEnd)) else (
cl7 (f_X8_waysNow m_stones m_any m_backward m_ring m_two m_readRow m_rowNow m_long0 m_row m_far m_ways m_queue m_queueEnd) fun r_2 m_long0_3 m_row_4 m_far_5 m_ways_6 m_queue_7 m_queueEnd_8 =>
some (r_2, m_long0_3, m_row_4, m_far_5, m_ways_6, m_queue_7, m_queueEnd_8))
abbrev rX8_ways : Room := { frames := 6, cells := 0, slots := 0, locals := 141 }
set_option maxRecDepth 100000 in
set_option maxHeartbeats 4000000 in
theorem c_X8_ways (l : Launch) (E : En) (a : Nat → Nat) (b : Nat) (m_stones : Int32) (m_any : Int32) (m_backward : Int32) (m_ring : Int32) (m_two : Int32) (m_brooks : Int32) (m_readRow : Nat → Int32) (m_rowNow : Nat → Int32) (m_frogOn : Nat → Int32) (m_frogs : Int32) (m_kindOf : Nat → Int32) (m_moved : Int32) (m_movedFrom : Nat → Int32) (m_movedTo : Nat → Int32) (m_pageLength : Int32) (m_page : Nat → Int32) (m_faultAt : Int32) (m_isWhole : Int32) (m_newMany : Int32) (m_newSigns : Int32) (m_newRow : Nat → Int32) (m_long0 : Int32) (m_row : Nat → Int32) (m_far : Nat → Int32) (m_ways : Nat → Int64) (m_queue : Nat → Int32) (m_queueEnd : Int32) (m_endMany : Int32) (m_endSoon : Int32) (m_won : Nat → Int32) (m_seedNow : Int64) (m_isKept : Int32) (m_keptBrook : Int32) (m_keptMoved : Int32) (m_keptRow : Nat → Int32) (m_keptFrog : Nat → Int32) (m_keptFrom : Nat → Int32) (m_keptTo : Nat → Int32) (m_h : Int64) {res : Int32 × Int32 × (Nat → Int32) × (Nat → Int32) × (Nat → Int64) × (Nat → Int32) × Int32} (hf : f_X8_ways m_stones m_any m_backward m_ring m_two m_readRow m_rowNow m_long0 m_row m_far m_ways m_queue m_queueEnd = some res) : Ct l yX8_ways (.code yX8_ways cX8_ways 1 (some .int)) rX8_ways E [.ref (a b)] (wM E a b m_stones m_any m_backward m_ring m_two m_brooks m_readRow m_rowNow m_frogOn m_frogs m_kindOf m_moved m_movedFrom m_movedTo m_pageLength m_page m_faultAt m_isWhole m_newMany m_newSigns m_newRow m_long0 m_row m_far m_ways m_queue m_queueEnd m_endMany m_endSoon m_won m_seedNow m_isKept m_keptBrook m_keptMoved m_keptRow m_keptFrog m_keptFrom m_keptTo m_h) (some (.int res.1)) (wM E a b m_stones m_any m_backward m_ring m_two m_brooks m_readRow m_rowNow m_frogOn m_frogs m_kindOf m_moved m_movedFrom m_movedTo m_pageLength m_page m_faultAt m_isWhole m_newMany m_newSigns m_newRow res.2.1 res.2.2.1 res.2.2.2.1 res.2.2.2.2.1 res.2.2.2.2.2.1 res.2.2.2.2.2.2 m_endMany m_endSoon m_won m_seedNow m_isKept m_keptBrook m_keptMoved m_keptRow m_keptFrog m_keptFrom m_keptTo m_h) := by
  refine Ct.of (by decide) (Nat.le_of_ble_eq_true rfl) (fun Y hB hR => ?_)
  have hB : Cb E cX8_ways RX8 rX8_ways 1 Y := hB
  show J l E rX8_ways Y (wM E a b m_stones m_any m_backward m_ring m_two m_brooks m_readRow m_rowNow m_frogOn m_frogs m_kindOf m_moved m_movedFrom m_movedTo m_pageLength m_page m_faultAt m_isWhole m_newMany m_newSigns m_newRow m_long0 m_row m_far m_ways m_queue m_queueEnd m_endMany m_endSoon m_won m_seedNow m_isKept m_keptBrook m_keptMoved m_keptRow m_keptFrog m_keptFrom m_keptTo m_h) 0 [(0, .ref (a b))] []
  unfold f_X8_ways at hf
  refine J_aload_n hB dX8_ways_0 rfl 0 rfl ?_
  refine J_get (v := .int m_stones) hB inX8 0 rfl rfl 0 (Nat.le_of_ble_eq_true rfl) kf_X8_93 rfl dX8_ways_1 ?_
  refine J_if_ne (tgt := 12) hB dX8_ways_4 rfl (fun c_1 => ?_) (fun c_1 => ?_)
  · have hf := it_f c_1 hf
    refine J_aload_n hB dX8_ways_12 rfl 0 rfl ?_
    obtain ⟨r_2, m_long0_3, m_row_4, m_far_5, m_ways_6, m_queue_7, m_queueEnd_8, h_9, hf⟩ := cl7_e hf
    refine J_callV (As := []) (rest := []) (n := 0) (ws' := wM E a b m_stones m_any m_backward m_ring m_two m_brooks m_readRow m_rowNow m_frogOn m_frogs m_kindOf m_moved m_movedFrom m_movedTo m_pageLength m_page m_faultAt m_isWhole m_newMany m_newSigns m_newRow m_long0_3 m_row_4 m_far_5 m_ways_6 m_queue_7 m_queueEnd_8 m_endMany m_endSoon m_won m_seedNow m_isKept m_keptBrook m_keptMoved m_keptRow m_keptFrog m_keptFrom m_keptTo m_h) hB (c_X8_waysNow l E a b m_stones m_any m_backward m_ring m_two m_brooks m_readRow m_rowNow m_frogOn m_frogs m_kindOf m_moved m_movedFrom m_movedTo m_pageLength m_page m_faultAt m_isWhole m_newMany m_newSigns m_newRow m_long0 m_row m_far m_ways m_queue m_queueEnd m_endMany m_endSoon m_won m_seedNow m_isKept m_keptBrook m_keptMoved m_keptRow m_keptFrog m_keptFrom m_keptTo m_h h_9) mi_X8_waysNow ⟨ki_X8_waysNow, kv_X8_waysNow⟩ km_X8_203 ⟨rfl, rfl, Nat.le_of_ble_eq_true rfl, Nat.le_of_ble_eq_true rfl⟩ Lies.same 0 rfl rfl rfl rfl (Nat.le_of_ble_eq_true rfl) dX8_ways_13 ?_
    show J l E rX8_ways Y (wM E a b m_stones m_any m_backward m_ring m_two m_brooks m_readRow m_rowNow m_frogOn m_frogs m_kindOf m_moved m_movedFrom m_movedTo m_pageLength m_page m_faultAt m_isWhole m_newMany m_newSigns m_newRow m_long0_3 m_row_4 m_far_5 m_ways_6 m_queue_7 m_queueEnd_8 m_endMany m_endSoon m_won m_seedNow m_isKept m_keptBrook m_keptMoved m_keptRow m_keptFrog m_keptFrom m_keptTo m_h) 16 [(0, .ref (a b))] [.int r_2]
    obtain rfl := Option.some.inj hf
    exact J_iret hB hR dX8_ways_16
  · have hf := it_t c_1 hf
    refine J_bipush (v := (-103)) hB dX8_ways_7 rfl ?_
    refine J_goto (tgt := 16) hB dX8_ways_9 rfl ?_
    obtain rfl := Option.some.inj hf
    exact J_iret hB hR dX8_ways_16
def f_X8_wrongNow (m_stones : Int32) (m_any : Int32) (m_backward : Int32) (m_ring : Int32) (m_two : Int32) (m_readRow : Nat → Int32) (m_moved : Int32) (m_movedFrom : Nat → Int32) (m_movedTo : Nat → Int32) (m_long0 : Int32) (m_row : Nat → Int32) (m_far : Nat → Int32) (m_ways : Nat → Int64) (m_queue : Nat → Int32) (m_queueEnd : Int32) : Option (Int32 × Int32 × (Nat → Int32) × (Nat → Int32) × (Nat → Int64) × (Nat → Int32) × Int32) :=
cl3 (f_X8_goal m_stones m_readRow m_long0 m_row) fun r_1 m_long0_2 m_row_3 =>
cl2 (f_X8_layRead m_stones m_readRow m_long0_2 m_row_3) fun m_long0_5 m_row_6 =>
cl6 (f_X8_farTo m_any m_backward m_ring m_two m_long0_5 m_row_6 m_far m_ways m_queue m_queueEnd r_1) fun r_8 m_row_9 m_far_10 m_ways_11 m_queue_12 m_queueEnd_13 =>
jn1 (fun (s_15 : Int32) =>
lp7_5 (fun (x2_16 : Int32) (x3_17 : Int32) (m_row_18 : Nat → Int32) (m_far_19 : Nat → Int32) (m_ways_20 : Nat → Int64) (m_queue_21 : Nat → Int32) (m_queueEnd_22 : Int32) nx25 ex25 =>
if m_moved ≤ x3_17 then (
ex25 m_row_18 m_far_19 m_ways_20 m_queue_21 m_queueEnd_22) else (
if x2_16 = 0 then (
ex25 m_row_18 m_far_19 m_ways_20 m_queue_21 m_queueEnd_22) else (
ald 60 m_movedTo x3_17 fun v_30 =>
ald 60 m_movedFrom x3_17 fun v_32 =>
ald 7 m_row_18 v_32 fun v_34 =>
astI 7 m_row_18 v_30 v_34 fun m_row_36 =>
ald 60 m_movedFrom x3_17 fun v_38 =>
astI 7 m_row_36 v_38 0 fun m_row_40 =>
cl6 (f_X8_farTo m_any m_backward m_ring m_two m_long0_5 m_row_40 m_far_19 m_ways_20 m_queue_21 m_queueEnd_22 r_1) fun r_42 m_row_43 m_far_44 m_ways_45 m_queue_46 m_queueEnd_47 =>
jn1 (fun (s_49 : Int32) =>
if s_49 = 0 then (
some (x3_17 + (1 : Int32), m_long0_5, m_row_43, m_far_44, m_ways_45, m_queue_46, m_queueEnd_47)) else (
nmv (α := Int32) (x3_17 + 1) fun x3_51 =>
nx25 s_49 x3_51 m_row_43 m_far_44 m_ways_45 m_queue_46 m_queueEnd_47)) fun j84 =>
if r_42 < 0 then (
j84 0) else (
j84 1)))) (fun (m_row_23 : Nat → Int32) (m_far_24 : Nat → Int32) (m_ways_25 : Nat → Int64) (m_queue_26 : Nat → Int32) (m_queueEnd_27 : Int32) =>
some ((-1), m_long0_5, m_row_23, m_far_24, m_ways_25, m_queue_26, m_queueEnd_27)) fuel s_15 0 m_row_9 m_far_10 m_ways_11 m_queue_12 m_queueEnd_13) fun j22 =>
if r_8 < 0 then (
j22 0) else (
j22 1)
abbrev rX8_wrongNow : Room := { frames := 6, cells := 0, slots := 0, locals := 141 }
set_option maxRecDepth 100000 in
set_option maxHeartbeats 4000000 in
theorem c_X8_wrongNow (l : Launch) (E : En) (a : Nat → Nat) (b : Nat) (m_stones : Int32) (m_any : Int32) (m_backward : Int32) (m_ring : Int32) (m_two : Int32) (m_brooks : Int32) (m_readRow : Nat → Int32) (m_rowNow : Nat → Int32) (m_frogOn : Nat → Int32) (m_frogs : Int32) (m_kindOf : Nat → Int32) (m_moved : Int32) (m_movedFrom : Nat → Int32) (m_movedTo : Nat → Int32) (m_pageLength : Int32) (m_page : Nat → Int32) (m_faultAt : Int32) (m_isWhole : Int32) (m_newMany : Int32) (m_newSigns : Int32) (m_newRow : Nat → Int32) (m_long0 : Int32) (m_row : Nat → Int32) (m_far : Nat → Int32) (m_ways : Nat → Int64) (m_queue : Nat → Int32) (m_queueEnd : Int32) (m_endMany : Int32) (m_endSoon : Int32) (m_won : Nat → Int32) (m_seedNow : Int64) (m_isKept : Int32) (m_keptBrook : Int32) (m_keptMoved : Int32) (m_keptRow : Nat → Int32) (m_keptFrog : Nat → Int32) (m_keptFrom : Nat → Int32) (m_keptTo : Nat → Int32) (m_h : Int64) {res : Int32 × Int32 × (Nat → Int32) × (Nat → Int32) × (Nat → Int64) × (Nat → Int32) × Int32} (hf : f_X8_wrongNow m_stones m_any m_backward m_ring m_two m_readRow m_moved m_movedFrom m_movedTo m_long0 m_row m_far m_ways m_queue m_queueEnd = some res) : Ct l yX8_wrongNow (.code yX8_wrongNow cX8_wrongNow 4 (some .int)) rX8_wrongNow E [.ref (a b)] (wM E a b m_stones m_any m_backward m_ring m_two m_brooks m_readRow m_rowNow m_frogOn m_frogs m_kindOf m_moved m_movedFrom m_movedTo m_pageLength m_page m_faultAt m_isWhole m_newMany m_newSigns m_newRow m_long0 m_row m_far m_ways m_queue m_queueEnd m_endMany m_endSoon m_won m_seedNow m_isKept m_keptBrook m_keptMoved m_keptRow m_keptFrog m_keptFrom m_keptTo m_h) (some (.int res.1)) (wM E a b m_stones m_any m_backward m_ring m_two m_brooks m_readRow m_rowNow m_frogOn m_frogs m_kindOf m_moved m_movedFrom m_movedTo m_pageLength m_page m_faultAt m_isWhole m_newMany m_newSigns m_newRow res.2.1 res.2.2.1 res.2.2.2.1 res.2.2.2.2.1 res.2.2.2.2.2.1 res.2.2.2.2.2.2 m_endMany m_endSoon m_won m_seedNow m_isKept m_keptBrook m_keptMoved m_keptRow m_keptFrog m_keptFrom m_keptTo m_h) := by
  refine Ct.of (by decide) (Nat.le_of_ble_eq_true rfl) (fun Y hB hR => ?_)
  have hB : Cb E cX8_wrongNow RX8 rX8_wrongNow 4 Y := hB
  show J l E rX8_wrongNow Y (wM E a b m_stones m_any m_backward m_ring m_two m_brooks m_readRow m_rowNow m_frogOn m_frogs m_kindOf m_moved m_movedFrom m_movedTo m_pageLength m_page m_faultAt m_isWhole m_newMany m_newSigns m_newRow m_long0 m_row m_far m_ways m_queue m_queueEnd m_endMany m_endSoon m_won m_seedNow m_isKept m_keptBrook m_keptMoved m_keptRow m_keptFrog m_keptFrom m_keptTo m_h) 0 [(0, .ref (a b))] []
  unfold f_X8_wrongNow at hf
  refine J_aload_n hB dX8_wrongNow_0 rfl 0 rfl ?_
  obtain ⟨r_1, m_long0_2, m_row_3, h_4, hf⟩ := cl3_e hf
  refine J_callV (As := []) (rest := []) (n := 0) (ws' := wM E a b m_stones m_any m_backward m_ring m_two m_brooks m_readRow m_rowNow m_frogOn m_frogs m_kindOf m_moved m_movedFrom m_movedTo m_pageLength m_page m_faultAt m_isWhole m_newMany m_newSigns m_newRow m_long0_2 m_row_3 m_far m_ways m_queue m_queueEnd m_endMany m_endSoon m_won m_seedNow m_isKept m_keptBrook m_keptMoved m_keptRow m_keptFrog m_keptFrom m_keptTo m_h) hB (c_X8_goal l E a b m_stones m_any m_backward m_ring m_two m_brooks m_readRow m_rowNow m_frogOn m_frogs m_kindOf m_moved m_movedFrom m_movedTo m_pageLength m_page m_faultAt m_isWhole m_newMany m_newSigns m_newRow m_long0 m_row m_far m_ways m_queue m_queueEnd m_endMany m_endSoon m_won m_seedNow m_isKept m_keptBrook m_keptMoved m_keptRow m_keptFrog m_keptFrom m_keptTo m_h h_4) mi_X8_goal ⟨ki_X8_goal, kv_X8_goal⟩ km_X8_194 ⟨rfl, rfl, Nat.le_of_ble_eq_true rfl, Nat.le_of_ble_eq_true rfl⟩ Lies.same 0 rfl rfl rfl rfl (Nat.le_of_ble_eq_true rfl) dX8_wrongNow_1 ?_
  show J l E rX8_wrongNow Y (wM E a b m_stones m_any m_backward m_ring m_two m_brooks m_readRow m_rowNow m_frogOn m_frogs m_kindOf m_moved m_movedFrom m_movedTo m_pageLength m_page m_faultAt m_isWhole m_newMany m_newSigns m_newRow m_long0_2 m_row_3 m_far m_ways m_queue m_queueEnd m_endMany m_endSoon m_won m_seedNow m_isKept m_keptBrook m_keptMoved m_keptRow m_keptFrog m_keptFrom m_keptTo m_h) 4 [(0, .ref (a b))] [.int r_1]
  refine J_istore_n (lv' := [(1, .int r_1), (0, .ref (a b))]) hB rfl dX8_wrongNow_4 rfl (Nat.le_of_ble_eq_true rfl) rfl ?_
  refine J_aload_n hB dX8_wrongNow_5 rfl 1 rfl ?_
  obtain ⟨m_long0_5, m_row_6, h_7, hf⟩ := cl2_e hf
  refine J_callV (As := []) (rest := []) (n := 0) (ws' := wM E a b m_stones m_any m_backward m_ring m_two m_brooks m_readRow m_rowNow m_frogOn m_frogs m_kindOf m_moved m_movedFrom m_movedTo m_pageLength m_page m_faultAt m_isWhole m_newMany m_newSigns m_newRow m_long0_5 m_row_6 m_far m_ways m_queue m_queueEnd m_endMany m_endSoon m_won m_seedNow m_isKept m_keptBrook m_keptMoved m_keptRow m_keptFrog m_keptFrom m_keptTo m_h) hB (c_X8_layRead l E a b m_stones m_any m_backward m_ring m_two m_brooks m_readRow m_rowNow m_frogOn m_frogs m_kindOf m_moved m_movedFrom m_movedTo m_pageLength m_page m_faultAt m_isWhole m_newMany m_newSigns m_newRow m_long0_2 m_row_3 m_far m_ways m_queue m_queueEnd m_endMany m_endSoon m_won m_seedNow m_isKept m_keptBrook m_keptMoved m_keptRow m_keptFrog m_keptFrom m_keptTo m_h h_7) mi_X8_layRead ⟨ki_X8_layRead, kv_X8_layRead⟩ km_X8_185 ⟨rfl, rfl, Nat.le_of_ble_eq_true rfl, Nat.le_of_ble_eq_true rfl⟩ Lies.same 0 rfl rfl rfl rfl (Nat.le_of_ble_eq_true rfl) dX8_wrongNow_6 ?_
  show J l E rX8_wrongNow Y (wM E a b m_stones m_any m_backward m_ring m_two m_brooks m_readRow m_rowNow m_frogOn m_frogs m_kindOf m_moved m_movedFrom m_movedTo m_pageLength m_page m_faultAt m_isWhole m_newMany m_newSigns m_newRow m_long0_5 m_row_6 m_far m_ways m_queue m_queueEnd m_endMany m_endSoon m_won m_seedNow m_isKept m_keptBrook m_keptMoved m_keptRow m_keptFrog m_keptFrom m_keptTo m_h) 9 [(1, .int r_1), (0, .ref (a b))] []
  refine J_aload_n hB dX8_wrongNow_9 rfl 1 rfl ?_
  refine J_iload_n hB dX8_wrongNow_10 rfl 0 rfl ?_
  obtain ⟨r_8, m_row_9, m_far_10, m_ways_11, m_queue_12, m_queueEnd_13, h_14, hf⟩ := cl6_e hf
  refine J_callV (As := [.int r_1]) (rest := []) (n := 1) (ws' := wM E a b m_stones m_any m_backward m_ring m_two m_brooks m_readRow m_rowNow m_frogOn m_frogs m_kindOf m_moved m_movedFrom m_movedTo m_pageLength m_page m_faultAt m_isWhole m_newMany m_newSigns m_newRow m_long0_5 m_row_9 m_far_10 m_ways_11 m_queue_12 m_queueEnd_13 m_endMany m_endSoon m_won m_seedNow m_isKept m_keptBrook m_keptMoved m_keptRow m_keptFrog m_keptFrom m_keptTo m_h) hB (c_X8_farTo l E a b m_stones m_any m_backward m_ring m_two m_brooks m_readRow m_rowNow m_frogOn m_frogs m_kindOf m_moved m_movedFrom m_movedTo m_pageLength m_page m_faultAt m_isWhole m_newMany m_newSigns m_newRow m_long0_5 m_row_6 m_far m_ways m_queue m_queueEnd m_endMany m_endSoon m_won m_seedNow m_isKept m_keptBrook m_keptMoved m_keptRow m_keptFrog m_keptFrom m_keptTo m_h h_14) mi_X8_farTo ⟨ki_X8_farTo, kv_X8_farTo⟩ km_X8_197 ⟨rfl, rfl, Nat.le_of_ble_eq_true rfl, Nat.le_of_ble_eq_true rfl⟩ Lies.same 0 rfl rfl rfl rfl (Nat.le_of_ble_eq_true rfl) dX8_wrongNow_11 ?_
  show J l E rX8_wrongNow Y (wM E a b m_stones m_any m_backward m_ring m_two m_brooks m_readRow m_rowNow m_frogOn m_frogs m_kindOf m_moved m_movedFrom m_movedTo m_pageLength m_page m_faultAt m_isWhole m_newMany m_newSigns m_newRow m_long0_5 m_row_9 m_far_10 m_ways_11 m_queue_12 m_queueEnd_13 m_endMany m_endSoon m_won m_seedNow m_isKept m_keptBrook m_keptMoved m_keptRow m_keptFrog m_keptFrom m_keptTo m_h) 14 [(1, .int r_1), (0, .ref (a b))] [.int r_8]
  refine jn1_e (P := fun s_15 => J l E rX8_wrongNow Y (wM E a b m_stones m_any m_backward m_ring m_two m_brooks m_readRow m_rowNow m_frogOn m_frogs m_kindOf m_moved m_movedFrom m_movedTo m_pageLength m_page m_faultAt m_isWhole m_newMany m_newSigns m_newRow m_long0_5 m_row_9 m_far_10 m_ways_11 m_queue_12 m_queueEnd_13 m_endMany m_endSoon m_won m_seedNow m_isKept m_keptBrook m_keptMoved m_keptRow m_keptFrog m_keptFrom m_keptTo m_h) 22 [(0, .ref (a b)), (1, .int r_1)] [.int s_15]) hf (fun s_15 hf => ?_) (fun j22 hj22 hf => ?_)
  · refine J_istore_n (lv' := [(2, .int s_15), (0, .ref (a b)), (1, .int r_1)]) hB rfl dX8_wrongNow_22 rfl (Nat.le_of_ble_eq_true rfl) rfl ?_
    refine J_iconst (v := 0) hB dX8_wrongNow_23 rfl ?_
    refine J_istore_n (lv' := [(3, .int 0), (2, .int s_15), (0, .ref (a b)), (1, .int r_1)]) hB rfl dX8_wrongNow_24 rfl (Nat.le_of_ble_eq_true rfl) rfl ?_
    refine J_lv [2, 3, 1, 0] rfl ?_
    refine lp7_5_J (P := fun x2_16 x3_17 m_row_18 m_far_19 m_ways_20 m_queue_21 m_queueEnd_22 => J l E rX8_wrongNow Y (wM E a b m_stones m_any m_backward m_ring m_two m_brooks m_readRow m_rowNow m_frogOn m_frogs m_kindOf m_moved m_movedFrom m_movedTo m_pageLength m_page m_faultAt m_isWhole m_newMany m_newSigns m_newRow m_long0_5 m_row_18 m_far_19 m_ways_20 m_queue_21 m_queueEnd_22 m_endMany m_endSoon m_won m_seedNow m_isKept m_keptBrook m_keptMoved m_keptRow m_keptFrog m_keptFrom m_keptTo m_h) 25 [(0, .ref (a b)), (1, .int r_1), (2, .int x2_16), (3, .int x3_17)] []) (Q := fun m_row_23 m_far_24 m_ways_25 m_queue_26 m_queueEnd_27 => J l E rX8_wrongNow Y (wM E a b m_stones m_any m_backward m_ring m_two m_brooks m_readRow m_rowNow m_frogOn m_frogs m_kindOf m_moved m_movedFrom m_movedTo m_pageLength m_page m_faultAt m_isWhole m_newMany m_newSigns m_newRow m_long0_5 m_row_23 m_far_24 m_ways_25 m_queue_26 m_queueEnd_27 m_endMany m_endSoon m_won m_seedNow m_isKept m_keptBrook m_keptMoved m_keptRow m_keptFrog m_keptFrom m_keptTo m_h) 99 [] []) (fun x2_16 x3_17 m_row_18 m_far_19 m_ways_20 m_queue_21 m_queueEnd_22 nx25 ex25 hnx25 hex25 hf => ?_) (fun m_row_23 m_far_24 m_ways_25 m_queue_26 m_queueEnd_27 hf => ?_) hf
    · refine J_iload_n hB dX8_wrongNow_25 rfl 3 rfl ?_
      refine J_aload_n hB dX8_wrongNow_26 rfl 0 rfl ?_
      refine J_get (v := .int m_moved) hB inX8 0 rfl rfl 11 (Nat.le_of_ble_eq_true rfl) kf_X8_111 rfl dX8_wrongNow_27 ?_
      refine J_icmp_ge (tgt := 99) hB dX8_wrongNow_30 rfl (fun c_28 => ?_) (fun c_28 => ?_)
      · have hf := it_t c_28 hf
        exact J_lv [] rfl (hex25 m_row_18 m_far_19 m_ways_20 m_queue_21 m_queueEnd_22 hf)
      · have hf := it_f c_28 hf
        refine J_iload_n hB dX8_wrongNow_33 rfl 2 rfl ?_
        refine J_if_eq (tgt := 99) hB dX8_wrongNow_34 rfl (fun c_29 => ?_) (fun c_29 => ?_)
        · have hf := it_t c_29 hf
          exact J_lv [] rfl (hex25 m_row_18 m_far_19 m_ways_20 m_queue_21 m_queueEnd_22 hf)
        · have hf := it_f c_29 hf
          refine J_aload_n hB dX8_wrongNow_37 rfl 0 rfl ?_
          refine J_get (v := .ref (a (b + 9))) hB inX8 0 rfl rfl 22 (Nat.le_of_ble_eq_true rfl) kf_X8_35 rfl dX8_wrongNow_38 ?_
          refine J_aload_n hB dX8_wrongNow_41 rfl 0 rfl ?_
          refine J_get (v := .ref (a (b + 6))) hB inX8 0 rfl rfl 13 (Nat.le_of_ble_eq_true rfl) kf_X8_25 rfl dX8_wrongNow_42 ?_
          refine J_iload_n hB dX8_wrongNow_45 rfl 3 rfl ?_
          obtain ⟨v_30, ev_30, h_31, hf⟩ := ald_e hf
          refine J_iald hB 6 rfl ev_30 h_31 dX8_wrongNow_46 ?_
          refine J_aload_n hB dX8_wrongNow_47 rfl 0 rfl ?_
          refine J_get (v := .ref (a (b + 9))) hB inX8 0 rfl rfl 22 (Nat.le_of_ble_eq_true rfl) kf_X8_35 rfl dX8_wrongNow_48 ?_
          refine J_aload_n hB dX8_wrongNow_51 rfl 0 rfl ?_
          refine J_get (v := .ref (a (b + 5))) hB inX8 0 rfl rfl 12 (Nat.le_of_ble_eq_true rfl) kf_X8_22 rfl dX8_wrongNow_52 ?_
          refine J_iload_n hB dX8_wrongNow_55 rfl 3 rfl ?_
          obtain ⟨v_32, ev_32, h_33, hf⟩ := ald_e hf
          refine J_iald hB 5 rfl ev_32 h_33 dX8_wrongNow_56 ?_
          obtain ⟨v_34, ev_34, h_35, hf⟩ := ald_e hf
          refine J_iald hB 9 rfl ev_34 h_35 dX8_wrongNow_57 ?_
          obtain ⟨m_row_36, em_row_36, h_37, hf⟩ := astI_e hf
          refine J_iast (ws' := wM E a b m_stones m_any m_backward m_ring m_two m_brooks m_readRow m_rowNow m_frogOn m_frogs m_kindOf m_moved m_movedFrom m_movedTo m_pageLength m_page m_faultAt m_isWhole m_newMany m_newSigns m_newRow m_long0_5 m_row_36 m_far_19 m_ways_20 m_queue_21 m_queueEnd_22 m_endMany m_endSoon m_won m_seedNow m_isKept m_keptBrook m_keptMoved m_keptRow m_keptFrog m_keptFrom m_keptTo m_h) hB 9 rfl em_row_36 h_37 dX8_wrongNow_58 rfl ?_
          refine J_aload_n hB dX8_wrongNow_59 rfl 0 rfl ?_
          refine J_get (v := .ref (a (b + 9))) hB inX8 0 rfl rfl 22 (Nat.le_of_ble_eq_true rfl) kf_X8_35 rfl dX8_wrongNow_60 ?_
          refine J_aload_n hB dX8_wrongNow_63 rfl 0 rfl ?_
          refine J_get (v := .ref (a (b + 5))) hB inX8 0 rfl rfl 12 (Nat.le_of_ble_eq_true rfl) kf_X8_22 rfl dX8_wrongNow_64 ?_
          refine J_iload_n hB dX8_wrongNow_67 rfl 3 rfl ?_
          obtain ⟨v_38, ev_38, h_39, hf⟩ := ald_e hf
          refine J_iald hB 5 rfl ev_38 h_39 dX8_wrongNow_68 ?_
          refine J_iconst (v := 0) hB dX8_wrongNow_69 rfl ?_
          obtain ⟨m_row_40, em_row_40, h_41, hf⟩ := astI_e hf
          refine J_iast (ws' := wM E a b m_stones m_any m_backward m_ring m_two m_brooks m_readRow m_rowNow m_frogOn m_frogs m_kindOf m_moved m_movedFrom m_movedTo m_pageLength m_page m_faultAt m_isWhole m_newMany m_newSigns m_newRow m_long0_5 m_row_40 m_far_19 m_ways_20 m_queue_21 m_queueEnd_22 m_endMany m_endSoon m_won m_seedNow m_isKept m_keptBrook m_keptMoved m_keptRow m_keptFrog m_keptFrom m_keptTo m_h) hB 9 rfl em_row_40 h_41 dX8_wrongNow_70 rfl ?_
          refine J_aload_n hB dX8_wrongNow_71 rfl 0 rfl ?_
          refine J_iload_n hB dX8_wrongNow_72 rfl 1 rfl ?_
          obtain ⟨r_42, m_row_43, m_far_44, m_ways_45, m_queue_46, m_queueEnd_47, h_48, hf⟩ := cl6_e hf
          refine J_callV (As := [.int r_1]) (rest := []) (n := 1) (ws' := wM E a b m_stones m_any m_backward m_ring m_two m_brooks m_readRow m_rowNow m_frogOn m_frogs m_kindOf m_moved m_movedFrom m_movedTo m_pageLength m_page m_faultAt m_isWhole m_newMany m_newSigns m_newRow m_long0_5 m_row_43 m_far_44 m_ways_45 m_queue_46 m_queueEnd_47 m_endMany m_endSoon m_won m_seedNow m_isKept m_keptBrook m_keptMoved m_keptRow m_keptFrog m_keptFrom m_keptTo m_h) hB (c_X8_farTo l E a b m_stones m_any m_backward m_ring m_two m_brooks m_readRow m_rowNow m_frogOn m_frogs m_kindOf m_moved m_movedFrom m_movedTo m_pageLength m_page m_faultAt m_isWhole m_newMany m_newSigns m_newRow m_long0_5 m_row_40 m_far_19 m_ways_20 m_queue_21 m_queueEnd_22 m_endMany m_endSoon m_won m_seedNow m_isKept m_keptBrook m_keptMoved m_keptRow m_keptFrog m_keptFrom m_keptTo m_h h_48) mi_X8_farTo ⟨ki_X8_farTo, kv_X8_farTo⟩ km_X8_197 ⟨rfl, rfl, Nat.le_of_ble_eq_true rfl, Nat.le_of_ble_eq_true rfl⟩ Lies.same 0 rfl rfl rfl rfl (Nat.le_of_ble_eq_true rfl) dX8_wrongNow_73 ?_
          show J l E rX8_wrongNow Y (wM E a b m_stones m_any m_backward m_ring m_two m_brooks m_readRow m_rowNow m_frogOn m_frogs m_kindOf m_moved m_movedFrom m_movedTo m_pageLength m_page m_faultAt m_isWhole m_newMany m_newSigns m_newRow m_long0_5 m_row_43 m_far_44 m_ways_45 m_queue_46 m_queueEnd_47 m_endMany m_endSoon m_won m_seedNow m_isKept m_keptBrook m_keptMoved m_keptRow m_keptFrog m_keptFrom m_keptTo m_h) 76 [(0, .ref (a b)), (1, .int r_1), (2, .int x2_16), (3, .int x3_17)] [.int r_42]
          refine jn1_e (P := fun s_49 => J l E rX8_wrongNow Y (wM E a b m_stones m_any m_backward m_ring m_two m_brooks m_readRow m_rowNow m_frogOn m_frogs m_kindOf m_moved m_movedFrom m_movedTo m_pageLength m_page m_faultAt m_isWhole m_newMany m_newSigns m_newRow m_long0_5 m_row_43 m_far_44 m_ways_45 m_queue_46 m_queueEnd_47 m_endMany m_endSoon m_won m_seedNow m_isKept m_keptBrook m_keptMoved m_keptRow m_keptFrog m_keptFrom m_keptTo m_h) 84 [(0, .ref (a b)), (1, .int r_1), (3, .int x3_17)] [.int s_49]) hf (fun s_49 hf => ?_) (fun j84 hj84 hf => ?_)
          · refine J_istore_n (lv' := [(2, .int s_49), (0, .ref (a b)), (1, .int r_1), (3, .int x3_17)]) hB rfl dX8_wrongNow_84 rfl (Nat.le_of_ble_eq_true rfl) rfl ?_
            refine J_iload_n hB dX8_wrongNow_85 rfl 0 rfl ?_
            refine J_if_ne (tgt := 93) hB dX8_wrongNow_86 rfl (fun c_50 => ?_) (fun c_50 => ?_)
            · have hf := it_f c_50 hf
              obtain ⟨x3_51, ex3_51, hf⟩ := nmv_e hf
              refine J_iinc (lv' := [(3, .int x3_51), (2, .int s_49), (0, .ref (a b)), (1, .int r_1)]) hB ex3_51 dX8_wrongNow_93 3 rfl (Nat.le_of_ble_eq_true rfl) rfl ?_
              refine J_goto (tgt := 25) hB dX8_wrongNow_96 rfl ?_
              exact J_lv [2, 3, 1, 0] rfl (hnx25 s_49 x3_51 m_row_43 m_far_44 m_ways_45 m_queue_46 m_queueEnd_47 hf)
            · have hf := it_t c_50 hf
              refine J_iload_n hB dX8_wrongNow_89 rfl 3 rfl ?_
              refine J_iconst (v := 1) hB dX8_wrongNow_90 rfl ?_
              refine J_iadd hB dX8_wrongNow_91 ?_
              obtain rfl := Option.some.inj hf
              exact J_iret hB hR dX8_wrongNow_92
          · refine J_if_lt (tgt := 83) hB dX8_wrongNow_76 rfl (fun c_52 => ?_) (fun c_52 => ?_)
            · have hf := it_t c_52 hf
              refine J_iconst (v := 0) hB dX8_wrongNow_83 rfl ?_
              exact J_lv [0, 1, 3] rfl (hj84 0 hf)
            · have hf := it_f c_52 hf
              refine J_iconst (v := 1) hB dX8_wrongNow_79 rfl ?_
              refine J_goto (tgt := 84) hB dX8_wrongNow_80 rfl ?_
              exact J_lv [0, 1, 3] rfl (hj84 1 hf)
    · refine J_iconst (v := (-1)) hB dX8_wrongNow_99 rfl ?_
      obtain rfl := Option.some.inj hf
      exact J_iret hB hR dX8_wrongNow_100
  · refine J_if_lt (tgt := 21) hB dX8_wrongNow_14 rfl (fun c_53 => ?_) (fun c_53 => ?_)
    · have hf := it_t c_53 hf
      refine J_iconst (v := 0) hB dX8_wrongNow_21 rfl ?_
      exact J_lv [1, 0] rfl (hj22 0 hf)
    · have hf := it_f c_53 hf
      refine J_iconst (v := 1) hB dX8_wrongNow_17 rfl ?_
      refine J_goto (tgt := 22) hB dX8_wrongNow_18 rfl ?_
      exact J_lv [1, 0] rfl (hj22 1 hf)
def f_X8_wrong (m_stones : Int32) (m_any : Int32) (m_backward : Int32) (m_ring : Int32) (m_two : Int32) (m_readRow : Nat → Int32) (m_moved : Int32) (m_movedFrom : Nat → Int32) (m_movedTo : Nat → Int32) (m_long0 : Int32) (m_row : Nat → Int32) (m_far : Nat → Int32) (m_ways : Nat → Int64) (m_queue : Nat → Int32) (m_queueEnd : Int32) : Option (Int32 × Int32 × (Nat → Int32) × (Nat → Int32) × (Nat → Int64) × (Nat → Int32) × Int32) :=
if m_stones = 0 then (
some ((-103), m_long0, m_row, m_far, m_ways, m_queue, m_queueEnd)) else (
cl7 (f_X8_wrongNow m_stones m_any m_backward m_ring m_two m_readRow m_moved m_movedFrom m_movedTo m_long0 m_row m_far m_ways m_queue m_queueEnd) fun r_2 m_long0_3 m_row_4 m_far_5 m_ways_6 m_queue_7 m_queueEnd_8 =>
some (r_2, m_long0_3, m_row_4, m_far_5, m_ways_6, m_queue_7, m_queueEnd_8))
abbrev rX8_wrong : Room := { frames := 7, cells := 0, slots := 0, locals := 164 }
set_option maxRecDepth 100000 in
set_option maxHeartbeats 4000000 in
theorem c_X8_wrong (l : Launch) (E : En) (a : Nat → Nat) (b : Nat) (m_stones : Int32) (m_any : Int32) (m_backward : Int32) (m_ring : Int32) (m_two : Int32) (m_brooks : Int32) (m_readRow : Nat → Int32) (m_rowNow : Nat → Int32) (m_frogOn : Nat → Int32) (m_frogs : Int32) (m_kindOf : Nat → Int32) (m_moved : Int32) (m_movedFrom : Nat → Int32) (m_movedTo : Nat → Int32) (m_pageLength : Int32) (m_page : Nat → Int32) (m_faultAt : Int32) (m_isWhole : Int32) (m_newMany : Int32) (m_newSigns : Int32) (m_newRow : Nat → Int32) (m_long0 : Int32) (m_row : Nat → Int32) (m_far : Nat → Int32) (m_ways : Nat → Int64) (m_queue : Nat → Int32) (m_queueEnd : Int32) (m_endMany : Int32) (m_endSoon : Int32) (m_won : Nat → Int32) (m_seedNow : Int64) (m_isKept : Int32) (m_keptBrook : Int32) (m_keptMoved : Int32) (m_keptRow : Nat → Int32) (m_keptFrog : Nat → Int32) (m_keptFrom : Nat → Int32) (m_keptTo : Nat → Int32) (m_h : Int64) {res : Int32 × Int32 × (Nat → Int32) × (Nat → Int32) × (Nat → Int64) × (Nat → Int32) × Int32} (hf : f_X8_wrong m_stones m_any m_backward m_ring m_two m_readRow m_moved m_movedFrom m_movedTo m_long0 m_row m_far m_ways m_queue m_queueEnd = some res) : Ct l yX8_wrong (.code yX8_wrong cX8_wrong 1 (some .int)) rX8_wrong E [.ref (a b)] (wM E a b m_stones m_any m_backward m_ring m_two m_brooks m_readRow m_rowNow m_frogOn m_frogs m_kindOf m_moved m_movedFrom m_movedTo m_pageLength m_page m_faultAt m_isWhole m_newMany m_newSigns m_newRow m_long0 m_row m_far m_ways m_queue m_queueEnd m_endMany m_endSoon m_won m_seedNow m_isKept m_keptBrook m_keptMoved m_keptRow m_keptFrog m_keptFrom m_keptTo m_h) (some (.int res.1)) (wM E a b m_stones m_any m_backward m_ring m_two m_brooks m_readRow m_rowNow m_frogOn m_frogs m_kindOf m_moved m_movedFrom m_movedTo m_pageLength m_page m_faultAt m_isWhole m_newMany m_newSigns m_newRow res.2.1 res.2.2.1 res.2.2.2.1 res.2.2.2.2.1 res.2.2.2.2.2.1 res.2.2.2.2.2.2 m_endMany m_endSoon m_won m_seedNow m_isKept m_keptBrook m_keptMoved m_keptRow m_keptFrog m_keptFrom m_keptTo m_h) := by
  refine Ct.of (by decide) (Nat.le_of_ble_eq_true rfl) (fun Y hB hR => ?_)
  have hB : Cb E cX8_wrong RX8 rX8_wrong 1 Y := hB
  show J l E rX8_wrong Y (wM E a b m_stones m_any m_backward m_ring m_two m_brooks m_readRow m_rowNow m_frogOn m_frogs m_kindOf m_moved m_movedFrom m_movedTo m_pageLength m_page m_faultAt m_isWhole m_newMany m_newSigns m_newRow m_long0 m_row m_far m_ways m_queue m_queueEnd m_endMany m_endSoon m_won m_seedNow m_isKept m_keptBrook m_keptMoved m_keptRow m_keptFrog m_keptFrom m_keptTo m_h) 0 [(0, .ref (a b))] []
  unfold f_X8_wrong at hf
  refine J_aload_n hB dX8_wrong_0 rfl 0 rfl ?_
  refine J_get (v := .int m_stones) hB inX8 0 rfl rfl 0 (Nat.le_of_ble_eq_true rfl) kf_X8_93 rfl dX8_wrong_1 ?_
  refine J_if_ne (tgt := 12) hB dX8_wrong_4 rfl (fun c_1 => ?_) (fun c_1 => ?_)
  · have hf := it_f c_1 hf
    refine J_aload_n hB dX8_wrong_12 rfl 0 rfl ?_
    obtain ⟨r_2, m_long0_3, m_row_4, m_far_5, m_ways_6, m_queue_7, m_queueEnd_8, h_9, hf⟩ := cl7_e hf
    refine J_callV (As := []) (rest := []) (n := 0) (ws' := wM E a b m_stones m_any m_backward m_ring m_two m_brooks m_readRow m_rowNow m_frogOn m_frogs m_kindOf m_moved m_movedFrom m_movedTo m_pageLength m_page m_faultAt m_isWhole m_newMany m_newSigns m_newRow m_long0_3 m_row_4 m_far_5 m_ways_6 m_queue_7 m_queueEnd_8 m_endMany m_endSoon m_won m_seedNow m_isKept m_keptBrook m_keptMoved m_keptRow m_keptFrog m_keptFrom m_keptTo m_h) hB (c_X8_wrongNow l E a b m_stones m_any m_backward m_ring m_two m_brooks m_readRow m_rowNow m_frogOn m_frogs m_kindOf m_moved m_movedFrom m_movedTo m_pageLength m_page m_faultAt m_isWhole m_newMany m_newSigns m_newRow m_long0 m_row m_far m_ways m_queue m_queueEnd m_endMany m_endSoon m_won m_seedNow m_isKept m_keptBrook m_keptMoved m_keptRow m_keptFrog m_keptFrom m_keptTo m_h h_9) mi_X8_wrongNow ⟨ki_X8_wrongNow, kv_X8_wrongNow⟩ km_X8_206 ⟨rfl, rfl, Nat.le_of_ble_eq_true rfl, Nat.le_of_ble_eq_true rfl⟩ Lies.same 0 rfl rfl rfl rfl (Nat.le_of_ble_eq_true rfl) dX8_wrong_13 ?_
    show J l E rX8_wrong Y (wM E a b m_stones m_any m_backward m_ring m_two m_brooks m_readRow m_rowNow m_frogOn m_frogs m_kindOf m_moved m_movedFrom m_movedTo m_pageLength m_page m_faultAt m_isWhole m_newMany m_newSigns m_newRow m_long0_3 m_row_4 m_far_5 m_ways_6 m_queue_7 m_queueEnd_8 m_endMany m_endSoon m_won m_seedNow m_isKept m_keptBrook m_keptMoved m_keptRow m_keptFrog m_keptFrom m_keptTo m_h) 16 [(0, .ref (a b))] [.int r_2]
    obtain rfl := Option.some.inj hf
    exact J_iret hB hR dX8_wrong_16
  · have hf := it_t c_1 hf
    refine J_bipush (v := (-103)) hB dX8_wrong_7 rfl ?_
    refine J_goto (tgt := 16) hB dX8_wrong_9 rfl ?_
    obtain rfl := Option.some.inj hf
    exact J_iret hB hR dX8_wrong_16
def f_X8_layEnds (m_stones : Int32) (m_any : Int32) (m_backward : Int32) (m_ring : Int32) (m_two : Int32) (m_rowNow : Nat → Int32) (m_long0 : Int32) (m_row : Nat → Int32) (m_far : Nat → Int32) (m_ways : Nat → Int64) (m_queue : Nat → Int32) (m_queueEnd : Int32) (m_endMany : Int32) (m_endSoon : Int32) : Option (Int32 × (Nat → Int32) × (Nat → Int32) × (Nat → Int64) × (Nat → Int32) × Int32 × Int32 × Int32) :=
cl2 (f_X8_layNow m_stones m_rowNow m_long0 m_row) fun m_long0_1 m_row_2 =>
cl5 (f_X8_layFar m_any m_backward m_ring m_two m_long0_1 m_row_2 m_far m_ways m_queue m_queueEnd) fun m_row_4 m_far_5 m_ways_6 m_queue_7 m_queueEnd_8 =>
lp4_3 (fun (x1_10 : Int32) (m_row_11 : Nat → Int32) (m_endMany_12 : Int32) (m_endSoon_13 : Int32) nx20 ex20 =>
if m_queueEnd_8 ≤ x1_10 then (
ex20 m_row_11 m_endMany_12 m_endSoon_13) else (
ald 78125 m_queue_7 x1_10 fun v_18 =>
cl1 (f_X8_layRow m_long0_1 m_row_11 v_18) fun m_row_20 =>
cl1 (f_X8_moveMany m_any m_backward m_ring m_two m_long0_1 m_row_20) fun r_22 =>
jn2 (fun (m_endMany_24 : Int32) (m_endSoon_25 : Int32) =>
nmv (α := Int32) (x1_10 + 1) fun x1_26 =>
nx20 x1_26 m_row_20 m_endMany_24 m_endSoon_25) fun j86 =>
if r_22 = 0 then (
jn1 (fun (s_28 : Int32) =>
nmv (α := Int32) (m_endMany_12 + (1 : Int32)) fun m_endMany_29 =>
j86 m_endMany_29 s_28) fun j73 =>
if m_endMany_12 = 0 then (
ald 78125 m_queue_7 x1_10 fun v_31 =>
ald 78125 m_far_5 v_31 fun v_33 =>
j73 (v_33 - (1 : Int32))) else (
j73 m_endSoon_13)) else (
j86 m_endMany_12 m_endSoon_13))) (fun (m_row_14 : Nat → Int32) (m_endMany_15 : Int32) (m_endSoon_16 : Int32) =>
some (m_long0_1, m_row_14, m_far_5, m_ways_6, m_queue_7, m_queueEnd_8, m_endMany_15, m_endSoon_16)) fuel 0 m_row_4 0 ((-1))
abbrev rX8_layEnds : Room := { frames := 5, cells := 0, slots := 0, locals := 120 }
set_option maxRecDepth 100000 in
set_option maxHeartbeats 4000000 in
theorem c_X8_layEnds (l : Launch) (E : En) (a : Nat → Nat) (b : Nat) (m_stones : Int32) (m_any : Int32) (m_backward : Int32) (m_ring : Int32) (m_two : Int32) (m_brooks : Int32) (m_readRow : Nat → Int32) (m_rowNow : Nat → Int32) (m_frogOn : Nat → Int32) (m_frogs : Int32) (m_kindOf : Nat → Int32) (m_moved : Int32) (m_movedFrom : Nat → Int32) (m_movedTo : Nat → Int32) (m_pageLength : Int32) (m_page : Nat → Int32) (m_faultAt : Int32) (m_isWhole : Int32) (m_newMany : Int32) (m_newSigns : Int32) (m_newRow : Nat → Int32) (m_long0 : Int32) (m_row : Nat → Int32) (m_far : Nat → Int32) (m_ways : Nat → Int64) (m_queue : Nat → Int32) (m_queueEnd : Int32) (m_endMany : Int32) (m_endSoon : Int32) (m_won : Nat → Int32) (m_seedNow : Int64) (m_isKept : Int32) (m_keptBrook : Int32) (m_keptMoved : Int32) (m_keptRow : Nat → Int32) (m_keptFrog : Nat → Int32) (m_keptFrom : Nat → Int32) (m_keptTo : Nat → Int32) (m_h : Int64) {res : Int32 × (Nat → Int32) × (Nat → Int32) × (Nat → Int64) × (Nat → Int32) × Int32 × Int32 × Int32} (hf : f_X8_layEnds m_stones m_any m_backward m_ring m_two m_rowNow m_long0 m_row m_far m_ways m_queue m_queueEnd m_endMany m_endSoon = some res) : Ct l yX8_layEnds (.code yX8_layEnds cX8_layEnds 2 none) rX8_layEnds E [.ref (a b)] (wM E a b m_stones m_any m_backward m_ring m_two m_brooks m_readRow m_rowNow m_frogOn m_frogs m_kindOf m_moved m_movedFrom m_movedTo m_pageLength m_page m_faultAt m_isWhole m_newMany m_newSigns m_newRow m_long0 m_row m_far m_ways m_queue m_queueEnd m_endMany m_endSoon m_won m_seedNow m_isKept m_keptBrook m_keptMoved m_keptRow m_keptFrog m_keptFrom m_keptTo m_h) none (wM E a b m_stones m_any m_backward m_ring m_two m_brooks m_readRow m_rowNow m_frogOn m_frogs m_kindOf m_moved m_movedFrom m_movedTo m_pageLength m_page m_faultAt m_isWhole m_newMany m_newSigns m_newRow res.1 res.2.1 res.2.2.1 res.2.2.2.1 res.2.2.2.2.1 res.2.2.2.2.2.1 res.2.2.2.2.2.2.1 res.2.2.2.2.2.2.2 m_won m_seedNow m_isKept m_keptBrook m_keptMoved m_keptRow m_keptFrog m_keptFrom m_keptTo m_h) := by
  refine Ct.of (by decide) (Nat.le_of_ble_eq_true rfl) (fun Y hB hR => ?_)
  have hB : Cb E cX8_layEnds RX8 rX8_layEnds 2 Y := hB
  show J l E rX8_layEnds Y (wM E a b m_stones m_any m_backward m_ring m_two m_brooks m_readRow m_rowNow m_frogOn m_frogs m_kindOf m_moved m_movedFrom m_movedTo m_pageLength m_page m_faultAt m_isWhole m_newMany m_newSigns m_newRow m_long0 m_row m_far m_ways m_queue m_queueEnd m_endMany m_endSoon m_won m_seedNow m_isKept m_keptBrook m_keptMoved m_keptRow m_keptFrog m_keptFrom m_keptTo m_h) 0 [(0, .ref (a b))] []
  unfold f_X8_layEnds at hf
  refine J_aload_n hB dX8_layEnds_0 rfl 0 rfl ?_
  obtain ⟨m_long0_1, m_row_2, h_3, hf⟩ := cl2_e hf
  refine J_callV (As := []) (rest := []) (n := 0) (ws' := wM E a b m_stones m_any m_backward m_ring m_two m_brooks m_readRow m_rowNow m_frogOn m_frogs m_kindOf m_moved m_movedFrom m_movedTo m_pageLength m_page m_faultAt m_isWhole m_newMany m_newSigns m_newRow m_long0_1 m_row_2 m_far m_ways m_queue m_queueEnd m_endMany m_endSoon m_won m_seedNow m_isKept m_keptBrook m_keptMoved m_keptRow m_keptFrog m_keptFrom m_keptTo m_h) hB (c_X8_layNow l E a b m_stones m_any m_backward m_ring m_two m_brooks m_readRow m_rowNow m_frogOn m_frogs m_kindOf m_moved m_movedFrom m_movedTo m_pageLength m_page m_faultAt m_isWhole m_newMany m_newSigns m_newRow m_long0 m_row m_far m_ways m_queue m_queueEnd m_endMany m_endSoon m_won m_seedNow m_isKept m_keptBrook m_keptMoved m_keptRow m_keptFrog m_keptFrom m_keptTo m_h h_3) mi_X8_layNow ⟨ki_X8_layNow, kv_X8_layNow⟩ km_X8_151 ⟨rfl, rfl, Nat.le_of_ble_eq_true rfl, Nat.le_of_ble_eq_true rfl⟩ Lies.same 0 rfl rfl rfl rfl (Nat.le_of_ble_eq_true rfl) dX8_layEnds_1 ?_
  show J l E rX8_layEnds Y (wM E a b m_stones m_any m_backward m_ring m_two m_brooks m_readRow m_rowNow m_frogOn m_frogs m_kindOf m_moved m_movedFrom m_movedTo m_pageLength m_page m_faultAt m_isWhole m_newMany m_newSigns m_newRow m_long0_1 m_row_2 m_far m_ways m_queue m_queueEnd m_endMany m_endSoon m_won m_seedNow m_isKept m_keptBrook m_keptMoved m_keptRow m_keptFrog m_keptFrom m_keptTo m_h) 4 [(0, .ref (a b))] []
  refine J_aload_n hB dX8_layEnds_4 rfl 0 rfl ?_
  obtain ⟨m_row_4, m_far_5, m_ways_6, m_queue_7, m_queueEnd_8, h_9, hf⟩ := cl5_e hf
  refine J_callV (As := []) (rest := []) (n := 0) (ws' := wM E a b m_stones m_any m_backward m_ring m_two m_brooks m_readRow m_rowNow m_frogOn m_frogs m_kindOf m_moved m_movedFrom m_movedTo m_pageLength m_page m_faultAt m_isWhole m_newMany m_newSigns m_newRow m_long0_1 m_row_4 m_far_5 m_ways_6 m_queue_7 m_queueEnd_8 m_endMany m_endSoon m_won m_seedNow m_isKept m_keptBrook m_keptMoved m_keptRow m_keptFrog m_keptFrom m_keptTo m_h) hB (c_X8_layFar l E a b m_stones m_any m_backward m_ring m_two m_brooks m_readRow m_rowNow m_frogOn m_frogs m_kindOf m_moved m_movedFrom m_movedTo m_pageLength m_page m_faultAt m_isWhole m_newMany m_newSigns m_newRow m_long0_1 m_row_2 m_far m_ways m_queue m_queueEnd m_endMany m_endSoon m_won m_seedNow m_isKept m_keptBrook m_keptMoved m_keptRow m_keptFrog m_keptFrom m_keptTo m_h h_9) mi_X8_layFar ⟨ki_X8_layFar, kv_X8_layFar⟩ km_X8_191 ⟨rfl, rfl, Nat.le_of_ble_eq_true rfl, Nat.le_of_ble_eq_true rfl⟩ Lies.same 0 rfl rfl rfl rfl (Nat.le_of_ble_eq_true rfl) dX8_layEnds_5 ?_
  show J l E rX8_layEnds Y (wM E a b m_stones m_any m_backward m_ring m_two m_brooks m_readRow m_rowNow m_frogOn m_frogs m_kindOf m_moved m_movedFrom m_movedTo m_pageLength m_page m_faultAt m_isWhole m_newMany m_newSigns m_newRow m_long0_1 m_row_4 m_far_5 m_ways_6 m_queue_7 m_queueEnd_8 m_endMany m_endSoon m_won m_seedNow m_isKept m_keptBrook m_keptMoved m_keptRow m_keptFrog m_keptFrom m_keptTo m_h) 8 [(0, .ref (a b))] []
  refine J_aload_n hB dX8_layEnds_8 rfl 0 rfl ?_
  refine J_iconst (v := 0) hB dX8_layEnds_9 rfl ?_
  refine J_put (ws' := wM E a b m_stones m_any m_backward m_ring m_two m_brooks m_readRow m_rowNow m_frogOn m_frogs m_kindOf m_moved m_movedFrom m_movedTo m_pageLength m_page m_faultAt m_isWhole m_newMany m_newSigns m_newRow m_long0_1 m_row_4 m_far_5 m_ways_6 m_queue_7 m_queueEnd_8 0 m_endSoon m_won m_seedNow m_isKept m_keptBrook m_keptMoved m_keptRow m_keptFrog m_keptFrom m_keptTo m_h) (ty := .int) (v := .int 0) hB inX8 tyX8 tyX8_ok nmX8 0 rfl rfl 27 (Nat.le_of_ble_eq_true rfl) kf_X8_209 rfl rfl rfl rfl (Nat.le_of_ble_eq_true rfl) dX8_layEnds_10 rfl ?_
  refine J_aload_n hB dX8_layEnds_13 rfl 0 rfl ?_
  refine J_iconst (v := (-1)) hB dX8_layEnds_14 rfl ?_
  refine J_put (ws' := wM E a b m_stones m_any m_backward m_ring m_two m_brooks m_readRow m_rowNow m_frogOn m_frogs m_kindOf m_moved m_movedFrom m_movedTo m_pageLength m_page m_faultAt m_isWhole m_newMany m_newSigns m_newRow m_long0_1 m_row_4 m_far_5 m_ways_6 m_queue_7 m_queueEnd_8 0 ((-1)) m_won m_seedNow m_isKept m_keptBrook m_keptMoved m_keptRow m_keptFrog m_keptFrom m_keptTo m_h) (ty := .int) (v := .int ((-1))) hB inX8 tyX8 tyX8_ok nmX8 0 rfl rfl 28 (Nat.le_of_ble_eq_true rfl) kf_X8_212 rfl rfl rfl rfl (Nat.le_of_ble_eq_true rfl) dX8_layEnds_15 rfl ?_
  refine J_iconst (v := 0) hB dX8_layEnds_18 rfl ?_
  refine J_istore_n (lv' := [(1, .int 0), (0, .ref (a b))]) hB rfl dX8_layEnds_19 rfl (Nat.le_of_ble_eq_true rfl) rfl ?_
  refine J_lv [1, 0] rfl ?_
  refine lp4_3_J (P := fun x1_10 m_row_11 m_endMany_12 m_endSoon_13 => J l E rX8_layEnds Y (wM E a b m_stones m_any m_backward m_ring m_two m_brooks m_readRow m_rowNow m_frogOn m_frogs m_kindOf m_moved m_movedFrom m_movedTo m_pageLength m_page m_faultAt m_isWhole m_newMany m_newSigns m_newRow m_long0_1 m_row_11 m_far_5 m_ways_6 m_queue_7 m_queueEnd_8 m_endMany_12 m_endSoon_13 m_won m_seedNow m_isKept m_keptBrook m_keptMoved m_keptRow m_keptFrog m_keptFrom m_keptTo m_h) 20 [(0, .ref (a b)), (1, .int x1_10)] []) (Q := fun m_row_14 m_endMany_15 m_endSoon_16 => J l E rX8_layEnds Y (wM E a b m_stones m_any m_backward m_ring m_two m_brooks m_readRow m_rowNow m_frogOn m_frogs m_kindOf m_moved m_movedFrom m_movedTo m_pageLength m_page m_faultAt m_isWhole m_newMany m_newSigns m_newRow m_long0_1 m_row_14 m_far_5 m_ways_6 m_queue_7 m_queueEnd_8 m_endMany_15 m_endSoon_16 m_won m_seedNow m_isKept m_keptBrook m_keptMoved m_keptRow m_keptFrog m_keptFrom m_keptTo m_h) 92 [] []) (fun x1_10 m_row_11 m_endMany_12 m_endSoon_13 nx20 ex20 hnx20 hex20 hf => ?_) (fun m_row_14 m_endMany_15 m_endSoon_16 hf => ?_) hf
  · refine J_iload_n hB dX8_layEnds_20 rfl 1 rfl ?_
    refine J_aload_n hB dX8_layEnds_21 rfl 0 rfl ?_
    refine J_get (v := .int m_queueEnd_8) hB inX8 0 rfl rfl 26 (Nat.le_of_ble_eq_true rfl) kf_X8_168 rfl dX8_layEnds_22 ?_
    refine J_icmp_ge (tgt := 92) hB dX8_layEnds_25 rfl (fun c_17 => ?_) (fun c_17 => ?_)
    · have hf := it_t c_17 hf
      exact J_lv [] rfl (hex20 m_row_11 m_endMany_12 m_endSoon_13 hf)
    · have hf := it_f c_17 hf
      refine J_aload_n hB dX8_layEnds_28 rfl 0 rfl ?_
      refine J_aload_n hB dX8_layEnds_29 rfl 0 rfl ?_
      refine J_get (v := .ref (a (b + 12))) hB inX8 0 rfl rfl 25 (Nat.le_of_ble_eq_true rfl) kf_X8_46 rfl dX8_layEnds_30 ?_
      refine J_iload_n hB dX8_layEnds_33 rfl 1 rfl ?_
      obtain ⟨v_18, ev_18, h_19, hf⟩ := ald_e hf
      refine J_iald hB 12 rfl ev_18 h_19 dX8_layEnds_34 ?_
      obtain ⟨m_row_20, h_21, hf⟩ := cl1_e hf
      refine J_callV (As := [.int v_18]) (rest := []) (n := 1) (ws' := wM E a b m_stones m_any m_backward m_ring m_two m_brooks m_readRow m_rowNow m_frogOn m_frogs m_kindOf m_moved m_movedFrom m_movedTo m_pageLength m_page m_faultAt m_isWhole m_newMany m_newSigns m_newRow m_long0_1 m_row_20 m_far_5 m_ways_6 m_queue_7 m_queueEnd_8 m_endMany_12 m_endSoon_13 m_won m_seedNow m_isKept m_keptBrook m_keptMoved m_keptRow m_keptFrog m_keptFrom m_keptTo m_h) hB (c_X8_layRow l E a b m_stones m_any m_backward m_ring m_two m_brooks m_readRow m_rowNow m_frogOn m_frogs m_kindOf m_moved m_movedFrom m_movedTo m_pageLength m_page m_faultAt m_isWhole m_newMany m_newSigns m_newRow m_long0_1 m_row_11 m_far_5 m_ways_6 m_queue_7 m_queueEnd_8 m_endMany_12 m_endSoon_13 m_won m_seedNow m_isKept m_keptBrook m_keptMoved m_keptRow m_keptFrog m_keptFrom m_keptTo m_h h_21) mi_X8_layRow ⟨ki_X8_layRow, kv_X8_layRow⟩ km_X8_177 ⟨rfl, rfl, Nat.le_of_ble_eq_true rfl, Nat.le_of_ble_eq_true rfl⟩ Lies.same 0 rfl rfl rfl rfl (Nat.le_of_ble_eq_true rfl) dX8_layEnds_35 ?_
      show J l E rX8_layEnds Y (wM E a b m_stones m_any m_backward m_ring m_two m_brooks m_readRow m_rowNow m_frogOn m_frogs m_kindOf m_moved m_movedFrom m_movedTo m_pageLength m_page m_faultAt m_isWhole m_newMany m_newSigns m_newRow m_long0_1 m_row_20 m_far_5 m_ways_6 m_queue_7 m_queueEnd_8 m_endMany_12 m_endSoon_13 m_won m_seedNow m_isKept m_keptBrook m_keptMoved m_keptRow m_keptFrog m_keptFrom m_keptTo m_h) 38 [(0, .ref (a b)), (1, .int x1_10)] []
      refine J_aload_n hB dX8_layEnds_38 rfl 0 rfl ?_
      obtain ⟨r_22, h_23, hf⟩ := cl1_e hf
      refine J_callV (As := []) (rest := []) (n := 0) (ws' := wM E a b m_stones m_any m_backward m_ring m_two m_brooks m_readRow m_rowNow m_frogOn m_frogs m_kindOf m_moved m_movedFrom m_movedTo m_pageLength m_page m_faultAt m_isWhole m_newMany m_newSigns m_newRow m_long0_1 m_row_20 m_far_5 m_ways_6 m_queue_7 m_queueEnd_8 m_endMany_12 m_endSoon_13 m_won m_seedNow m_isKept m_keptBrook m_keptMoved m_keptRow m_keptFrog m_keptFrom m_keptTo m_h) hB (c_X8_moveMany l E a b m_stones m_any m_backward m_ring m_two m_brooks m_readRow m_rowNow m_frogOn m_frogs m_kindOf m_moved m_movedFrom m_movedTo m_pageLength m_page m_faultAt m_isWhole m_newMany m_newSigns m_newRow m_long0_1 m_row_20 m_far_5 m_ways_6 m_queue_7 m_queueEnd_8 m_endMany_12 m_endSoon_13 m_won m_seedNow m_isKept m_keptBrook m_keptMoved m_keptRow m_keptFrog m_keptFrom m_keptTo m_h h_23) mi_X8_moveMany ⟨ki_X8_moveMany, kv_X8_moveMany⟩ km_X8_157 ⟨rfl, rfl, Nat.le_of_ble_eq_true rfl, Nat.le_of_ble_eq_true rfl⟩ Lies.same 0 rfl rfl rfl rfl (Nat.le_of_ble_eq_true rfl) dX8_layEnds_39 ?_
      show J l E rX8_layEnds Y (wM E a b m_stones m_any m_backward m_ring m_two m_brooks m_readRow m_rowNow m_frogOn m_frogs m_kindOf m_moved m_movedFrom m_movedTo m_pageLength m_page m_faultAt m_isWhole m_newMany m_newSigns m_newRow m_long0_1 m_row_20 m_far_5 m_ways_6 m_queue_7 m_queueEnd_8 m_endMany_12 m_endSoon_13 m_won m_seedNow m_isKept m_keptBrook m_keptMoved m_keptRow m_keptFrog m_keptFrom m_keptTo m_h) 42 [(0, .ref (a b)), (1, .int x1_10)] [.int r_22]
      refine jn2_e (P := fun m_endMany_24 m_endSoon_25 => J l E rX8_layEnds Y (wM E a b m_stones m_any m_backward m_ring m_two m_brooks m_readRow m_rowNow m_frogOn m_frogs m_kindOf m_moved m_movedFrom m_movedTo m_pageLength m_page m_faultAt m_isWhole m_newMany m_newSigns m_newRow m_long0_1 m_row_20 m_far_5 m_ways_6 m_queue_7 m_queueEnd_8 m_endMany_24 m_endSoon_25 m_won m_seedNow m_isKept m_keptBrook m_keptMoved m_keptRow m_keptFrog m_keptFrom m_keptTo m_h) 86 [(0, .ref (a b)), (1, .int x1_10)] []) hf (fun m_endMany_24 m_endSoon_25 hf => ?_) (fun j86 hj86 hf => ?_)
      · obtain ⟨x1_26, ex1_26, hf⟩ := nmv_e hf
        refine J_iinc (lv' := [(1, .int x1_26), (0, .ref (a b))]) hB ex1_26 dX8_layEnds_86 1 rfl (Nat.le_of_ble_eq_true rfl) rfl ?_
        refine J_goto (tgt := 20) hB dX8_layEnds_89 rfl ?_
        exact J_lv [1, 0] rfl (hnx20 x1_26 m_row_20 m_endMany_24 m_endSoon_25 hf)
      · refine J_if_ne (tgt := 86) hB dX8_layEnds_42 rfl (fun c_27 => ?_) (fun c_27 => ?_)
        · have hf := it_f c_27 hf
          exact J_lv [0, 1] rfl (hj86 m_endMany_12 m_endSoon_13 hf)
        · have hf := it_t c_27 hf
          refine J_aload_n hB dX8_layEnds_45 rfl 0 rfl ?_
          refine J_aload_n hB dX8_layEnds_46 rfl 0 rfl ?_
          refine J_get (v := .int m_endMany_12) hB inX8 0 rfl rfl 27 (Nat.le_of_ble_eq_true rfl) kf_X8_209 rfl dX8_layEnds_47 ?_
          refine jn1_e (P := fun s_28 => J l E rX8_layEnds Y (wM E a b m_stones m_any m_backward m_ring m_two m_brooks m_readRow m_rowNow m_frogOn m_frogs m_kindOf m_moved m_movedFrom m_movedTo m_pageLength m_page m_faultAt m_isWhole m_newMany m_newSigns m_newRow m_long0_1 m_row_20 m_far_5 m_ways_6 m_queue_7 m_queueEnd_8 m_endMany_12 m_endSoon_13 m_won m_seedNow m_isKept m_keptBrook m_keptMoved m_keptRow m_keptFrog m_keptFrom m_keptTo m_h) 73 [(0, .ref (a b)), (1, .int x1_10)] [.int s_28, .ref (a b)]) hf (fun s_28 hf => ?_) (fun j73 hj73 hf => ?_)
          · refine J_put (ws' := wM E a b m_stones m_any m_backward m_ring m_two m_brooks m_readRow m_rowNow m_frogOn m_frogs m_kindOf m_moved m_movedFrom m_movedTo m_pageLength m_page m_faultAt m_isWhole m_newMany m_newSigns m_newRow m_long0_1 m_row_20 m_far_5 m_ways_6 m_queue_7 m_queueEnd_8 m_endMany_12 s_28 m_won m_seedNow m_isKept m_keptBrook m_keptMoved m_keptRow m_keptFrog m_keptFrom m_keptTo m_h) (ty := .int) (v := .int s_28) hB inX8 tyX8 tyX8_ok nmX8 0 rfl rfl 28 (Nat.le_of_ble_eq_true rfl) kf_X8_212 rfl rfl rfl rfl (Nat.le_of_ble_eq_true rfl) dX8_layEnds_73 rfl ?_
            refine J_aload_n hB dX8_layEnds_76 rfl 0 rfl ?_
            refine J_dup hB dX8_layEnds_77 rfl ?_
            refine J_get (v := .int m_endMany_12) hB inX8 0 rfl rfl 27 (Nat.le_of_ble_eq_true rfl) kf_X8_209 rfl dX8_layEnds_78 ?_
            refine J_iconst (v := 1) hB dX8_layEnds_81 rfl ?_
            refine J_iadd hB dX8_layEnds_82 ?_
            obtain ⟨m_endMany_29, em_endMany_29, hf⟩ := nmv_e hf
            rw [← em_endMany_29]
            refine J_put (ws' := wM E a b m_stones m_any m_backward m_ring m_two m_brooks m_readRow m_rowNow m_frogOn m_frogs m_kindOf m_moved m_movedFrom m_movedTo m_pageLength m_page m_faultAt m_isWhole m_newMany m_newSigns m_newRow m_long0_1 m_row_20 m_far_5 m_ways_6 m_queue_7 m_queueEnd_8 m_endMany_29 s_28 m_won m_seedNow m_isKept m_keptBrook m_keptMoved m_keptRow m_keptFrog m_keptFrom m_keptTo m_h) (ty := .int) (v := .int m_endMany_29) hB inX8 tyX8 tyX8_ok nmX8 0 rfl rfl 27 (Nat.le_of_ble_eq_true rfl) kf_X8_209 rfl rfl rfl rfl (Nat.le_of_ble_eq_true rfl) dX8_layEnds_83 rfl ?_
            exact J_lv [0, 1] rfl (hj86 m_endMany_29 s_28 hf)
          · refine J_if_ne (tgt := 69) hB dX8_layEnds_50 rfl (fun c_30 => ?_) (fun c_30 => ?_)
            · have hf := it_f c_30 hf
              refine J_aload_n hB dX8_layEnds_69 rfl 0 rfl ?_
              refine J_get (v := .int m_endSoon_13) hB inX8 0 rfl rfl 28 (Nat.le_of_ble_eq_true rfl) kf_X8_212 rfl dX8_layEnds_70 ?_
              exact J_lv [0, 1] rfl (hj73 m_endSoon_13 hf)
            · have hf := it_t c_30 hf
              refine J_aload_n hB dX8_layEnds_53 rfl 0 rfl ?_
              refine J_get (v := .ref (a (b + 10))) hB inX8 0 rfl rfl 23 (Nat.le_of_ble_eq_true rfl) kf_X8_39 rfl dX8_layEnds_54 ?_
              refine J_aload_n hB dX8_layEnds_57 rfl 0 rfl ?_
              refine J_get (v := .ref (a (b + 12))) hB inX8 0 rfl rfl 25 (Nat.le_of_ble_eq_true rfl) kf_X8_46 rfl dX8_layEnds_58 ?_
              refine J_iload_n hB dX8_layEnds_61 rfl 1 rfl ?_
              obtain ⟨v_31, ev_31, h_32, hf⟩ := ald_e hf
              refine J_iald hB 12 rfl ev_31 h_32 dX8_layEnds_62 ?_
              obtain ⟨v_33, ev_33, h_34, hf⟩ := ald_e hf
              refine J_iald hB 10 rfl ev_33 h_34 dX8_layEnds_63 ?_
              refine J_iconst (v := 1) hB dX8_layEnds_64 rfl ?_
              refine J_isub hB dX8_layEnds_65 ?_
              refine J_goto (tgt := 73) hB dX8_layEnds_66 rfl ?_
              exact J_lv [0, 1] rfl (hj73 (v_33 - (1 : Int32)) hf)
  · obtain rfl := Option.some.inj hf
    exact J_vret hB hR dX8_layEnds_92
def f_X8_ends (m_stones : Int32) (m_any : Int32) (m_backward : Int32) (m_ring : Int32) (m_two : Int32) (m_rowNow : Nat → Int32) (m_long0 : Int32) (m_row : Nat → Int32) (m_far : Nat → Int32) (m_ways : Nat → Int64) (m_queue : Nat → Int32) (m_queueEnd : Int32) (m_endMany : Int32) (m_endSoon : Int32) : Option (Int32 × Int32 × (Nat → Int32) × (Nat → Int32) × (Nat → Int64) × (Nat → Int32) × Int32 × Int32 × Int32) :=
if m_stones = 0 then (
some ((-103), m_long0, m_row, m_far, m_ways, m_queue, m_queueEnd, m_endMany, m_endSoon)) else (
cl8 (f_X8_layEnds m_stones m_any m_backward m_ring m_two m_rowNow m_long0 m_row m_far m_ways m_queue m_queueEnd m_endMany m_endSoon) fun m_long0_2 m_row_3 m_far_4 m_ways_5 m_queue_6 m_queueEnd_7 m_endMany_8 m_endSoon_9 =>
some (m_endMany_8, m_long0_2, m_row_3, m_far_4, m_ways_5, m_queue_6, m_queueEnd_7, m_endMany_8, m_endSoon_9))
abbrev rX8_ends : Room := { frames := 6, cells := 0, slots := 0, locals := 141 }
set_option maxRecDepth 100000 in
set_option maxHeartbeats 4000000 in
theorem c_X8_ends (l : Launch) (E : En) (a : Nat → Nat) (b : Nat) (m_stones : Int32) (m_any : Int32) (m_backward : Int32) (m_ring : Int32) (m_two : Int32) (m_brooks : Int32) (m_readRow : Nat → Int32) (m_rowNow : Nat → Int32) (m_frogOn : Nat → Int32) (m_frogs : Int32) (m_kindOf : Nat → Int32) (m_moved : Int32) (m_movedFrom : Nat → Int32) (m_movedTo : Nat → Int32) (m_pageLength : Int32) (m_page : Nat → Int32) (m_faultAt : Int32) (m_isWhole : Int32) (m_newMany : Int32) (m_newSigns : Int32) (m_newRow : Nat → Int32) (m_long0 : Int32) (m_row : Nat → Int32) (m_far : Nat → Int32) (m_ways : Nat → Int64) (m_queue : Nat → Int32) (m_queueEnd : Int32) (m_endMany : Int32) (m_endSoon : Int32) (m_won : Nat → Int32) (m_seedNow : Int64) (m_isKept : Int32) (m_keptBrook : Int32) (m_keptMoved : Int32) (m_keptRow : Nat → Int32) (m_keptFrog : Nat → Int32) (m_keptFrom : Nat → Int32) (m_keptTo : Nat → Int32) (m_h : Int64) {res : Int32 × Int32 × (Nat → Int32) × (Nat → Int32) × (Nat → Int64) × (Nat → Int32) × Int32 × Int32 × Int32} (hf : f_X8_ends m_stones m_any m_backward m_ring m_two m_rowNow m_long0 m_row m_far m_ways m_queue m_queueEnd m_endMany m_endSoon = some res) : Ct l yX8_ends (.code yX8_ends cX8_ends 1 (some .int)) rX8_ends E [.ref (a b)] (wM E a b m_stones m_any m_backward m_ring m_two m_brooks m_readRow m_rowNow m_frogOn m_frogs m_kindOf m_moved m_movedFrom m_movedTo m_pageLength m_page m_faultAt m_isWhole m_newMany m_newSigns m_newRow m_long0 m_row m_far m_ways m_queue m_queueEnd m_endMany m_endSoon m_won m_seedNow m_isKept m_keptBrook m_keptMoved m_keptRow m_keptFrog m_keptFrom m_keptTo m_h) (some (.int res.1)) (wM E a b m_stones m_any m_backward m_ring m_two m_brooks m_readRow m_rowNow m_frogOn m_frogs m_kindOf m_moved m_movedFrom m_movedTo m_pageLength m_page m_faultAt m_isWhole m_newMany m_newSigns m_newRow res.2.1 res.2.2.1 res.2.2.2.1 res.2.2.2.2.1 res.2.2.2.2.2.1 res.2.2.2.2.2.2.1 res.2.2.2.2.2.2.2.1 res.2.2.2.2.2.2.2.2 m_won m_seedNow m_isKept m_keptBrook m_keptMoved m_keptRow m_keptFrog m_keptFrom m_keptTo m_h) := by
  refine Ct.of (by decide) (Nat.le_of_ble_eq_true rfl) (fun Y hB hR => ?_)
  have hB : Cb E cX8_ends RX8 rX8_ends 1 Y := hB
  show J l E rX8_ends Y (wM E a b m_stones m_any m_backward m_ring m_two m_brooks m_readRow m_rowNow m_frogOn m_frogs m_kindOf m_moved m_movedFrom m_movedTo m_pageLength m_page m_faultAt m_isWhole m_newMany m_newSigns m_newRow m_long0 m_row m_far m_ways m_queue m_queueEnd m_endMany m_endSoon m_won m_seedNow m_isKept m_keptBrook m_keptMoved m_keptRow m_keptFrog m_keptFrom m_keptTo m_h) 0 [(0, .ref (a b))] []
  unfold f_X8_ends at hf
  refine J_aload_n hB dX8_ends_0 rfl 0 rfl ?_
  refine J_get (v := .int m_stones) hB inX8 0 rfl rfl 0 (Nat.le_of_ble_eq_true rfl) kf_X8_93 rfl dX8_ends_1 ?_
  refine J_if_ne (tgt := 10) hB dX8_ends_4 rfl (fun c_1 => ?_) (fun c_1 => ?_)
  · have hf := it_f c_1 hf
    refine J_aload_n hB dX8_ends_10 rfl 0 rfl ?_
    obtain ⟨m_long0_2, m_row_3, m_far_4, m_ways_5, m_queue_6, m_queueEnd_7, m_endMany_8, m_endSoon_9, h_10, hf⟩ := cl8_e hf
    refine J_callV (As := []) (rest := []) (n := 0) (ws' := wM E a b m_stones m_any m_backward m_ring m_two m_brooks m_readRow m_rowNow m_frogOn m_frogs m_kindOf m_moved m_movedFrom m_movedTo m_pageLength m_page m_faultAt m_isWhole m_newMany m_newSigns m_newRow m_long0_2 m_row_3 m_far_4 m_ways_5 m_queue_6 m_queueEnd_7 m_endMany_8 m_endSoon_9 m_won m_seedNow m_isKept m_keptBrook m_keptMoved m_keptRow m_keptFrog m_keptFrom m_keptTo m_h) hB (c_X8_layEnds l E a b m_stones m_any m_backward m_ring m_two m_brooks m_readRow m_rowNow m_frogOn m_frogs m_kindOf m_moved m_movedFrom m_movedTo m_pageLength m_page m_faultAt m_isWhole m_newMany m_newSigns m_newRow m_long0 m_row m_far m_ways m_queue m_queueEnd m_endMany m_endSoon m_won m_seedNow m_isKept m_keptBrook m_keptMoved m_keptRow m_keptFrog m_keptFrom m_keptTo m_h h_10) mi_X8_layEnds ⟨ki_X8_layEnds, kv_X8_layEnds⟩ km_X8_215 ⟨rfl, rfl, Nat.le_of_ble_eq_true rfl, Nat.le_of_ble_eq_true rfl⟩ Lies.same 0 rfl rfl rfl rfl (Nat.le_of_ble_eq_true rfl) dX8_ends_11 ?_
    show J l E rX8_ends Y (wM E a b m_stones m_any m_backward m_ring m_two m_brooks m_readRow m_rowNow m_frogOn m_frogs m_kindOf m_moved m_movedFrom m_movedTo m_pageLength m_page m_faultAt m_isWhole m_newMany m_newSigns m_newRow m_long0_2 m_row_3 m_far_4 m_ways_5 m_queue_6 m_queueEnd_7 m_endMany_8 m_endSoon_9 m_won m_seedNow m_isKept m_keptBrook m_keptMoved m_keptRow m_keptFrog m_keptFrom m_keptTo m_h) 14 [(0, .ref (a b))] []
    refine J_aload_n hB dX8_ends_14 rfl 0 rfl ?_
    refine J_get (v := .int m_endMany_8) hB inX8 0 rfl rfl 27 (Nat.le_of_ble_eq_true rfl) kf_X8_209 rfl dX8_ends_15 ?_
    obtain rfl := Option.some.inj hf
    exact J_iret hB hR dX8_ends_18
  · have hf := it_t c_1 hf
    refine J_bipush (v := (-103)) hB dX8_ends_7 rfl ?_
    obtain rfl := Option.some.inj hf
    exact J_iret hB hR dX8_ends_9
def f_X8_soon (m_stones : Int32) (m_any : Int32) (m_backward : Int32) (m_ring : Int32) (m_two : Int32) (m_rowNow : Nat → Int32) (m_long0 : Int32) (m_row : Nat → Int32) (m_far : Nat → Int32) (m_ways : Nat → Int64) (m_queue : Nat → Int32) (m_queueEnd : Int32) (m_endMany : Int32) (m_endSoon : Int32) : Option (Int32 × Int32 × (Nat → Int32) × (Nat → Int32) × (Nat → Int64) × (Nat → Int32) × Int32 × Int32 × Int32) :=
if m_stones = 0 then (
some ((-103), m_long0, m_row, m_far, m_ways, m_queue, m_queueEnd, m_endMany, m_endSoon)) else (
cl8 (f_X8_layEnds m_stones m_any m_backward m_ring m_two m_rowNow m_long0 m_row m_far m_ways m_queue m_queueEnd m_endMany m_endSoon) fun m_long0_2 m_row_3 m_far_4 m_ways_5 m_queue_6 m_queueEnd_7 m_endMany_8 m_endSoon_9 =>
some (m_endSoon_9, m_long0_2, m_row_3, m_far_4, m_ways_5, m_queue_6, m_queueEnd_7, m_endMany_8, m_endSoon_9))
abbrev rX8_soon : Room := { frames := 6, cells := 0, slots := 0, locals := 141 }
set_option maxRecDepth 100000 in
set_option maxHeartbeats 4000000 in
theorem c_X8_soon (l : Launch) (E : En) (a : Nat → Nat) (b : Nat) (m_stones : Int32) (m_any : Int32) (m_backward : Int32) (m_ring : Int32) (m_two : Int32) (m_brooks : Int32) (m_readRow : Nat → Int32) (m_rowNow : Nat → Int32) (m_frogOn : Nat → Int32) (m_frogs : Int32) (m_kindOf : Nat → Int32) (m_moved : Int32) (m_movedFrom : Nat → Int32) (m_movedTo : Nat → Int32) (m_pageLength : Int32) (m_page : Nat → Int32) (m_faultAt : Int32) (m_isWhole : Int32) (m_newMany : Int32) (m_newSigns : Int32) (m_newRow : Nat → Int32) (m_long0 : Int32) (m_row : Nat → Int32) (m_far : Nat → Int32) (m_ways : Nat → Int64) (m_queue : Nat → Int32) (m_queueEnd : Int32) (m_endMany : Int32) (m_endSoon : Int32) (m_won : Nat → Int32) (m_seedNow : Int64) (m_isKept : Int32) (m_keptBrook : Int32) (m_keptMoved : Int32) (m_keptRow : Nat → Int32) (m_keptFrog : Nat → Int32) (m_keptFrom : Nat → Int32) (m_keptTo : Nat → Int32) (m_h : Int64) {res : Int32 × Int32 × (Nat → Int32) × (Nat → Int32) × (Nat → Int64) × (Nat → Int32) × Int32 × Int32 × Int32} (hf : f_X8_soon m_stones m_any m_backward m_ring m_two m_rowNow m_long0 m_row m_far m_ways m_queue m_queueEnd m_endMany m_endSoon = some res) : Ct l yX8_soon (.code yX8_soon cX8_soon 1 (some .int)) rX8_soon E [.ref (a b)] (wM E a b m_stones m_any m_backward m_ring m_two m_brooks m_readRow m_rowNow m_frogOn m_frogs m_kindOf m_moved m_movedFrom m_movedTo m_pageLength m_page m_faultAt m_isWhole m_newMany m_newSigns m_newRow m_long0 m_row m_far m_ways m_queue m_queueEnd m_endMany m_endSoon m_won m_seedNow m_isKept m_keptBrook m_keptMoved m_keptRow m_keptFrog m_keptFrom m_keptTo m_h) (some (.int res.1)) (wM E a b m_stones m_any m_backward m_ring m_two m_brooks m_readRow m_rowNow m_frogOn m_frogs m_kindOf m_moved m_movedFrom m_movedTo m_pageLength m_page m_faultAt m_isWhole m_newMany m_newSigns m_newRow res.2.1 res.2.2.1 res.2.2.2.1 res.2.2.2.2.1 res.2.2.2.2.2.1 res.2.2.2.2.2.2.1 res.2.2.2.2.2.2.2.1 res.2.2.2.2.2.2.2.2 m_won m_seedNow m_isKept m_keptBrook m_keptMoved m_keptRow m_keptFrog m_keptFrom m_keptTo m_h) := by
  refine Ct.of (by decide) (Nat.le_of_ble_eq_true rfl) (fun Y hB hR => ?_)
  have hB : Cb E cX8_soon RX8 rX8_soon 1 Y := hB
  show J l E rX8_soon Y (wM E a b m_stones m_any m_backward m_ring m_two m_brooks m_readRow m_rowNow m_frogOn m_frogs m_kindOf m_moved m_movedFrom m_movedTo m_pageLength m_page m_faultAt m_isWhole m_newMany m_newSigns m_newRow m_long0 m_row m_far m_ways m_queue m_queueEnd m_endMany m_endSoon m_won m_seedNow m_isKept m_keptBrook m_keptMoved m_keptRow m_keptFrog m_keptFrom m_keptTo m_h) 0 [(0, .ref (a b))] []
  unfold f_X8_soon at hf
  refine J_aload_n hB dX8_soon_0 rfl 0 rfl ?_
  refine J_get (v := .int m_stones) hB inX8 0 rfl rfl 0 (Nat.le_of_ble_eq_true rfl) kf_X8_93 rfl dX8_soon_1 ?_
  refine J_if_ne (tgt := 10) hB dX8_soon_4 rfl (fun c_1 => ?_) (fun c_1 => ?_)
  · have hf := it_f c_1 hf
    refine J_aload_n hB dX8_soon_10 rfl 0 rfl ?_
    obtain ⟨m_long0_2, m_row_3, m_far_4, m_ways_5, m_queue_6, m_queueEnd_7, m_endMany_8, m_endSoon_9, h_10, hf⟩ := cl8_e hf
    refine J_callV (As := []) (rest := []) (n := 0) (ws' := wM E a b m_stones m_any m_backward m_ring m_two m_brooks m_readRow m_rowNow m_frogOn m_frogs m_kindOf m_moved m_movedFrom m_movedTo m_pageLength m_page m_faultAt m_isWhole m_newMany m_newSigns m_newRow m_long0_2 m_row_3 m_far_4 m_ways_5 m_queue_6 m_queueEnd_7 m_endMany_8 m_endSoon_9 m_won m_seedNow m_isKept m_keptBrook m_keptMoved m_keptRow m_keptFrog m_keptFrom m_keptTo m_h) hB (c_X8_layEnds l E a b m_stones m_any m_backward m_ring m_two m_brooks m_readRow m_rowNow m_frogOn m_frogs m_kindOf m_moved m_movedFrom m_movedTo m_pageLength m_page m_faultAt m_isWhole m_newMany m_newSigns m_newRow m_long0 m_row m_far m_ways m_queue m_queueEnd m_endMany m_endSoon m_won m_seedNow m_isKept m_keptBrook m_keptMoved m_keptRow m_keptFrog m_keptFrom m_keptTo m_h h_10) mi_X8_layEnds ⟨ki_X8_layEnds, kv_X8_layEnds⟩ km_X8_215 ⟨rfl, rfl, Nat.le_of_ble_eq_true rfl, Nat.le_of_ble_eq_true rfl⟩ Lies.same 0 rfl rfl rfl rfl (Nat.le_of_ble_eq_true rfl) dX8_soon_11 ?_
    show J l E rX8_soon Y (wM E a b m_stones m_any m_backward m_ring m_two m_brooks m_readRow m_rowNow m_frogOn m_frogs m_kindOf m_moved m_movedFrom m_movedTo m_pageLength m_page m_faultAt m_isWhole m_newMany m_newSigns m_newRow m_long0_2 m_row_3 m_far_4 m_ways_5 m_queue_6 m_queueEnd_7 m_endMany_8 m_endSoon_9 m_won m_seedNow m_isKept m_keptBrook m_keptMoved m_keptRow m_keptFrog m_keptFrom m_keptTo m_h) 14 [(0, .ref (a b))] []
    refine J_aload_n hB dX8_soon_14 rfl 0 rfl ?_
    refine J_get (v := .int m_endSoon_9) hB inX8 0 rfl rfl 28 (Nat.le_of_ble_eq_true rfl) kf_X8_212 rfl dX8_soon_15 ?_
    obtain rfl := Option.some.inj hf
    exact J_iret hB hR dX8_soon_18
  · have hf := it_t c_1 hf
    refine J_bipush (v := (-103)) hB dX8_soon_7 rfl ?_
    obtain rfl := Option.some.inj hf
    exact J_iret hB hR dX8_soon_9
def f_X8_comes (m_stones : Int32) (m_any : Int32) (m_backward : Int32) (m_ring : Int32) (m_two : Int32) (m_rowNow : Nat → Int32) (m_pageLength : Int32) (m_page : Nat → Int32) (m_faultAt : Int32) (m_isWhole : Int32) (m_newMany : Int32) (m_newSigns : Int32) (m_newRow : Nat → Int32) (m_long0 : Int32) (m_row : Nat → Int32) (m_far : Nat → Int32) (m_ways : Nat → Int64) (m_queue : Nat → Int32) (m_queueEnd : Int32) : Option (Int32 × Int32 × Int32 × Int32 × Int32 × (Nat → Int32) × Int32 × (Nat → Int32) × (Nat → Int32) × (Nat → Int64) × (Nat → Int32) × Int32) :=
cl5 (f_X8_readBrook m_pageLength m_page m_faultAt m_isWhole m_newMany m_newSigns m_newRow) fun m_faultAt_1 m_isWhole_2 m_newMany_3 m_newSigns_4 m_newRow_5 =>
if m_stones = 0 then (
some ((-103), m_faultAt_1, m_isWhole_2, m_newMany_3, m_newSigns_4, m_newRow_5, m_long0, m_row, m_far, m_ways, m_queue, m_queueEnd)) else (
if m_faultAt_1 = m_pageLength then (
if m_newMany_3 = m_stones then (
if m_pageLength = m_stones then (
nmv (α := Int32) (m_stones - (1 : Int32)) fun x2_11 =>
lp2_1 (fun (x1_12 : Int32) (x2_13 : Int32) nx56 ex56 =>
if x2_13 < 0 then (
ex56 x1_12) else (
ald 7 m_newRow_5 x2_13 fun v_16 =>
nmv (α := Int32) (((5 : Int32) * x1_12) + v_16) fun x1_18 =>
nmv (α := Int32) (x2_13 + (-1)) fun x2_19 =>
nx56 x1_18 x2_19)) (fun (x1_14 : Int32) =>
cl2 (f_X8_layNow m_stones m_rowNow m_long0 m_row) fun m_long0_20 m_row_21 =>
cl6 (f_X8_farTo m_any m_backward m_ring m_two m_long0_20 m_row_21 m_far m_ways m_queue m_queueEnd x1_14) fun r_23 m_row_24 m_far_25 m_ways_26 m_queue_27 m_queueEnd_28 =>
some (r_23, m_faultAt_1, m_isWhole_2, m_newMany_3, m_newSigns_4, m_newRow_5, m_long0_20, m_row_24, m_far_25, m_ways_26, m_queue_27, m_queueEnd_28)) fuel 0 x2_11) else (
some ((-103), m_faultAt_1, m_isWhole_2, m_newMany_3, m_newSigns_4, m_newRow_5, m_long0, m_row, m_far, m_ways, m_queue, m_queueEnd))) else (
some ((-103), m_faultAt_1, m_isWhole_2, m_newMany_3, m_newSigns_4, m_newRow_5, m_long0, m_row, m_far, m_ways, m_queue, m_queueEnd))) else (
some ((-103), m_faultAt_1, m_isWhole_2, m_newMany_3, m_newSigns_4, m_newRow_5, m_long0, m_row, m_far, m_ways, m_queue, m_queueEnd)))
abbrev rX8_comes : Room := { frames := 6, cells := 0, slots := 0, locals := 141 }
set_option maxRecDepth 100000 in
set_option maxHeartbeats 4000000 in
theorem c_X8_comes (l : Launch) (E : En) (a : Nat → Nat) (b : Nat) (m_stones : Int32) (m_any : Int32) (m_backward : Int32) (m_ring : Int32) (m_two : Int32) (m_brooks : Int32) (m_readRow : Nat → Int32) (m_rowNow : Nat → Int32) (m_frogOn : Nat → Int32) (m_frogs : Int32) (m_kindOf : Nat → Int32) (m_moved : Int32) (m_movedFrom : Nat → Int32) (m_movedTo : Nat → Int32) (m_pageLength : Int32) (m_page : Nat → Int32) (m_faultAt : Int32) (m_isWhole : Int32) (m_newMany : Int32) (m_newSigns : Int32) (m_newRow : Nat → Int32) (m_long0 : Int32) (m_row : Nat → Int32) (m_far : Nat → Int32) (m_ways : Nat → Int64) (m_queue : Nat → Int32) (m_queueEnd : Int32) (m_endMany : Int32) (m_endSoon : Int32) (m_won : Nat → Int32) (m_seedNow : Int64) (m_isKept : Int32) (m_keptBrook : Int32) (m_keptMoved : Int32) (m_keptRow : Nat → Int32) (m_keptFrog : Nat → Int32) (m_keptFrom : Nat → Int32) (m_keptTo : Nat → Int32) (m_h : Int64) {res : Int32 × Int32 × Int32 × Int32 × Int32 × (Nat → Int32) × Int32 × (Nat → Int32) × (Nat → Int32) × (Nat → Int64) × (Nat → Int32) × Int32} (hf : f_X8_comes m_stones m_any m_backward m_ring m_two m_rowNow m_pageLength m_page m_faultAt m_isWhole m_newMany m_newSigns m_newRow m_long0 m_row m_far m_ways m_queue m_queueEnd = some res) : Ct l yX8_comes (.code yX8_comes cX8_comes 3 (some .int)) rX8_comes E [.ref (a b)] (wM E a b m_stones m_any m_backward m_ring m_two m_brooks m_readRow m_rowNow m_frogOn m_frogs m_kindOf m_moved m_movedFrom m_movedTo m_pageLength m_page m_faultAt m_isWhole m_newMany m_newSigns m_newRow m_long0 m_row m_far m_ways m_queue m_queueEnd m_endMany m_endSoon m_won m_seedNow m_isKept m_keptBrook m_keptMoved m_keptRow m_keptFrog m_keptFrom m_keptTo m_h) (some (.int res.1)) (wM E a b m_stones m_any m_backward m_ring m_two m_brooks m_readRow m_rowNow m_frogOn m_frogs m_kindOf m_moved m_movedFrom m_movedTo m_pageLength m_page res.2.1 res.2.2.1 res.2.2.2.1 res.2.2.2.2.1 res.2.2.2.2.2.1 res.2.2.2.2.2.2.1 res.2.2.2.2.2.2.2.1 res.2.2.2.2.2.2.2.2.1 res.2.2.2.2.2.2.2.2.2.1 res.2.2.2.2.2.2.2.2.2.2.1 res.2.2.2.2.2.2.2.2.2.2.2 m_endMany m_endSoon m_won m_seedNow m_isKept m_keptBrook m_keptMoved m_keptRow m_keptFrog m_keptFrom m_keptTo m_h) := by
  refine Ct.of (by decide) (Nat.le_of_ble_eq_true rfl) (fun Y hB hR => ?_)
  have hB : Cb E cX8_comes RX8 rX8_comes 3 Y := hB
  show J l E rX8_comes Y (wM E a b m_stones m_any m_backward m_ring m_two m_brooks m_readRow m_rowNow m_frogOn m_frogs m_kindOf m_moved m_movedFrom m_movedTo m_pageLength m_page m_faultAt m_isWhole m_newMany m_newSigns m_newRow m_long0 m_row m_far m_ways m_queue m_queueEnd m_endMany m_endSoon m_won m_seedNow m_isKept m_keptBrook m_keptMoved m_keptRow m_keptFrog m_keptFrom m_keptTo m_h) 0 [(0, .ref (a b))] []
  unfold f_X8_comes at hf
  refine J_aload_n hB dX8_comes_0 rfl 0 rfl ?_
  obtain ⟨m_faultAt_1, m_isWhole_2, m_newMany_3, m_newSigns_4, m_newRow_5, h_6, hf⟩ := cl5_e hf
  refine J_callV (As := []) (rest := []) (n := 0) (ws' := wM E a b m_stones m_any m_backward m_ring m_two m_brooks m_readRow m_rowNow m_frogOn m_frogs m_kindOf m_moved m_movedFrom m_movedTo m_pageLength m_page m_faultAt_1 m_isWhole_2 m_newMany_3 m_newSigns_4 m_newRow_5 m_long0 m_row m_far m_ways m_queue m_queueEnd m_endMany m_endSoon m_won m_seedNow m_isKept m_keptBrook m_keptMoved m_keptRow m_keptFrog m_keptFrom m_keptTo m_h) hB (c_X8_readBrook l E a b m_stones m_any m_backward m_ring m_two m_brooks m_readRow m_rowNow m_frogOn m_frogs m_kindOf m_moved m_movedFrom m_movedTo m_pageLength m_page m_faultAt m_isWhole m_newMany m_newSigns m_newRow m_long0 m_row m_far m_ways m_queue m_queueEnd m_endMany m_endSoon m_won m_seedNow m_isKept m_keptBrook m_keptMoved m_keptRow m_keptFrog m_keptFrom m_keptTo m_h h_6) mi_X8_readBrook ⟨ki_X8_readBrook, kv_X8_readBrook⟩ km_X8_90 ⟨rfl, rfl, Nat.le_of_ble_eq_true rfl, Nat.le_of_ble_eq_true rfl⟩ Lies.same 0 rfl rfl rfl rfl (Nat.le_of_ble_eq_true rfl) dX8_comes_1 ?_
  show J l E rX8_comes Y (wM E a b m_stones m_any m_backward m_ring m_two m_brooks m_readRow m_rowNow m_frogOn m_frogs m_kindOf m_moved m_movedFrom m_movedTo m_pageLength m_page m_faultAt_1 m_isWhole_2 m_newMany_3 m_newSigns_4 m_newRow_5 m_long0 m_row m_far m_ways m_queue m_queueEnd m_endMany m_endSoon m_won m_seedNow m_isKept m_keptBrook m_keptMoved m_keptRow m_keptFrog m_keptFrom m_keptTo m_h) 4 [(0, .ref (a b))] []
  refine J_aload_n hB dX8_comes_4 rfl 0 rfl ?_
  refine J_get (v := .int m_stones) hB inX8 0 rfl rfl 0 (Nat.le_of_ble_eq_true rfl) kf_X8_93 rfl dX8_comes_5 ?_
  refine J_if_eq (tgt := 44) hB dX8_comes_8 rfl (fun c_7 => ?_) (fun c_7 => ?_)
  · have hf := it_t c_7 hf
    refine J_bipush (v := (-103)) hB dX8_comes_44 rfl ?_
    obtain rfl := Option.some.inj hf
    exact J_iret hB hR dX8_comes_46
  · have hf := it_f c_7 hf
    refine J_aload_n hB dX8_comes_11 rfl 0 rfl ?_
    refine J_get (v := .int m_faultAt_1) hB inX8 0 rfl rfl 16 (Nat.le_of_ble_eq_true rfl) kf_X8_83 rfl dX8_comes_12 ?_
    refine J_aload_n hB dX8_comes_15 rfl 0 rfl ?_
    refine J_get (v := .int m_pageLength) hB inX8 0 rfl rfl 14 (Nat.le_of_ble_eq_true rfl) kf_X8_66 rfl dX8_comes_16 ?_
    refine J_icmp_ne (tgt := 44) hB dX8_comes_19 rfl (fun c_8 => ?_) (fun c_8 => ?_)
    · have hf := it_f c_8 hf
      refine J_bipush (v := (-103)) hB dX8_comes_44 rfl ?_
      obtain rfl := Option.some.inj hf
      exact J_iret hB hR dX8_comes_46
    · have hf := it_t c_8 hf
      refine J_aload_n hB dX8_comes_22 rfl 0 rfl ?_
      refine J_get (v := .int m_newMany_3) hB inX8 0 rfl rfl 18 (Nat.le_of_ble_eq_true rfl) kf_X8_70 rfl dX8_comes_23 ?_
      refine J_aload_n hB dX8_comes_26 rfl 0 rfl ?_
      refine J_get (v := .int m_stones) hB inX8 0 rfl rfl 0 (Nat.le_of_ble_eq_true rfl) kf_X8_93 rfl dX8_comes_27 ?_
      refine J_icmp_ne (tgt := 44) hB dX8_comes_30 rfl (fun c_9 => ?_) (fun c_9 => ?_)
      · have hf := it_f c_9 hf
        refine J_bipush (v := (-103)) hB dX8_comes_44 rfl ?_
        obtain rfl := Option.some.inj hf
        exact J_iret hB hR dX8_comes_46
      · have hf := it_t c_9 hf
        refine J_aload_n hB dX8_comes_33 rfl 0 rfl ?_
        refine J_get (v := .int m_pageLength) hB inX8 0 rfl rfl 14 (Nat.le_of_ble_eq_true rfl) kf_X8_66 rfl dX8_comes_34 ?_
        refine J_aload_n hB dX8_comes_37 rfl 0 rfl ?_
        refine J_get (v := .int m_stones) hB inX8 0 rfl rfl 0 (Nat.le_of_ble_eq_true rfl) kf_X8_93 rfl dX8_comes_38 ?_
        refine J_icmp_eq (tgt := 47) hB dX8_comes_41 rfl (fun c_10 => ?_) (fun c_10 => ?_)
        · have hf := it_t c_10 hf
          refine J_iconst (v := 0) hB dX8_comes_47 rfl ?_
          refine J_istore_n (lv' := [(1, .int 0), (0, .ref (a b))]) hB rfl dX8_comes_48 rfl (Nat.le_of_ble_eq_true rfl) rfl ?_
          refine J_aload_n hB dX8_comes_49 rfl 1 rfl ?_
          refine J_get (v := .int m_stones) hB inX8 0 rfl rfl 0 (Nat.le_of_ble_eq_true rfl) kf_X8_93 rfl dX8_comes_50 ?_
          refine J_iconst (v := 1) hB dX8_comes_53 rfl ?_
          refine J_isub hB dX8_comes_54 ?_
          obtain ⟨x2_11, ex2_11, hf⟩ := nmv_e hf
          refine J_istore_n (lv' := [(2, .int x2_11), (1, .int 0), (0, .ref (a b))]) hB ex2_11 dX8_comes_55 rfl (Nat.le_of_ble_eq_true rfl) rfl ?_
          refine J_lv [2, 1, 0] rfl ?_
          refine lp2_1_J (P := fun x1_12 x2_13 => J l E rX8_comes Y (wM E a b m_stones m_any m_backward m_ring m_two m_brooks m_readRow m_rowNow m_frogOn m_frogs m_kindOf m_moved m_movedFrom m_movedTo m_pageLength m_page m_faultAt_1 m_isWhole_2 m_newMany_3 m_newSigns_4 m_newRow_5 m_long0 m_row m_far m_ways m_queue m_queueEnd m_endMany m_endSoon m_won m_seedNow m_isKept m_keptBrook m_keptMoved m_keptRow m_keptFrog m_keptFrom m_keptTo m_h) 56 [(0, .ref (a b)), (1, .int x1_12), (2, .int x2_13)] []) (Q := fun x1_14 => J l E rX8_comes Y (wM E a b m_stones m_any m_backward m_ring m_two m_brooks m_readRow m_rowNow m_frogOn m_frogs m_kindOf m_moved m_movedFrom m_movedTo m_pageLength m_page m_faultAt_1 m_isWhole_2 m_newMany_3 m_newSigns_4 m_newRow_5 m_long0 m_row m_far m_ways m_queue m_queueEnd m_endMany m_endSoon m_won m_seedNow m_isKept m_keptBrook m_keptMoved m_keptRow m_keptFrog m_keptFrom m_keptTo m_h) 77 [(0, .ref (a b)), (1, .int x1_14)] []) (fun x1_12 x2_13 nx56 ex56 hnx56 hex56 hf => ?_) (fun x1_14 hf => ?_) hf
          · refine J_iload_n hB dX8_comes_56 rfl 2 rfl ?_
            refine J_if_lt (tgt := 77) hB dX8_comes_57 rfl (fun c_15 => ?_) (fun c_15 => ?_)
            · have hf := it_t c_15 hf
              exact J_lv [0, 1] rfl (hex56 x1_12 hf)
            · have hf := it_f c_15 hf
              refine J_iconst (v := 5) hB dX8_comes_60 rfl ?_
              refine J_iload_n hB dX8_comes_61 rfl 1 rfl ?_
              refine J_imul hB dX8_comes_62 ?_
              refine J_aload_n hB dX8_comes_63 rfl 0 rfl ?_
              refine J_get (v := .ref (a (b + 8))) hB inX8 0 rfl rfl 20 (Nat.le_of_ble_eq_true rfl) kf_X8_32 rfl dX8_comes_64 ?_
              refine J_iload_n hB dX8_comes_67 rfl 2 rfl ?_
              obtain ⟨v_16, ev_16, h_17, hf⟩ := ald_e hf
              refine J_iald hB 8 rfl ev_16 h_17 dX8_comes_68 ?_
              refine J_iadd hB dX8_comes_69 ?_
              obtain ⟨x1_18, ex1_18, hf⟩ := nmv_e hf
              refine J_istore_n (lv' := [(1, .int x1_18), (0, .ref (a b)), (2, .int x2_13)]) hB ex1_18 dX8_comes_70 rfl (Nat.le_of_ble_eq_true rfl) rfl ?_
              obtain ⟨x2_19, ex2_19, hf⟩ := nmv_e hf
              refine J_iinc (lv' := [(2, .int x2_19), (1, .int x1_18), (0, .ref (a b))]) hB (ex2_19.trans (congrArg (fun z : Int32 => x2_13 + z) (by decide +kernel))) dX8_comes_71 2 rfl (Nat.le_of_ble_eq_true rfl) rfl ?_
              refine J_goto (tgt := 56) hB dX8_comes_74 rfl ?_
              exact J_lv [2, 1, 0] rfl (hnx56 x1_18 x2_19 hf)
          · refine J_aload_n hB dX8_comes_77 rfl 0 rfl ?_
            obtain ⟨m_long0_20, m_row_21, h_22, hf⟩ := cl2_e hf
            refine J_callV (As := []) (rest := []) (n := 0) (ws' := wM E a b m_stones m_any m_backward m_ring m_two m_brooks m_readRow m_rowNow m_frogOn m_frogs m_kindOf m_moved m_movedFrom m_movedTo m_pageLength m_page m_faultAt_1 m_isWhole_2 m_newMany_3 m_newSigns_4 m_newRow_5 m_long0_20 m_row_21 m_far m_ways m_queue m_queueEnd m_endMany m_endSoon m_won m_seedNow m_isKept m_keptBrook m_keptMoved m_keptRow m_keptFrog m_keptFrom m_keptTo m_h) hB (c_X8_layNow l E a b m_stones m_any m_backward m_ring m_two m_brooks m_readRow m_rowNow m_frogOn m_frogs m_kindOf m_moved m_movedFrom m_movedTo m_pageLength m_page m_faultAt_1 m_isWhole_2 m_newMany_3 m_newSigns_4 m_newRow_5 m_long0 m_row m_far m_ways m_queue m_queueEnd m_endMany m_endSoon m_won m_seedNow m_isKept m_keptBrook m_keptMoved m_keptRow m_keptFrog m_keptFrom m_keptTo m_h h_22) mi_X8_layNow ⟨ki_X8_layNow, kv_X8_layNow⟩ km_X8_151 ⟨rfl, rfl, Nat.le_of_ble_eq_true rfl, Nat.le_of_ble_eq_true rfl⟩ Lies.same 0 rfl rfl rfl rfl (Nat.le_of_ble_eq_true rfl) dX8_comes_78 ?_
            show J l E rX8_comes Y (wM E a b m_stones m_any m_backward m_ring m_two m_brooks m_readRow m_rowNow m_frogOn m_frogs m_kindOf m_moved m_movedFrom m_movedTo m_pageLength m_page m_faultAt_1 m_isWhole_2 m_newMany_3 m_newSigns_4 m_newRow_5 m_long0_20 m_row_21 m_far m_ways m_queue m_queueEnd m_endMany m_endSoon m_won m_seedNow m_isKept m_keptBrook m_keptMoved m_keptRow m_keptFrog m_keptFrom m_keptTo m_h) 81 [(0, .ref (a b)), (1, .int x1_14)] []
            refine J_aload_n hB dX8_comes_81 rfl 0 rfl ?_
            refine J_iload_n hB dX8_comes_82 rfl 1 rfl ?_
            obtain ⟨r_23, m_row_24, m_far_25, m_ways_26, m_queue_27, m_queueEnd_28, h_29, hf⟩ := cl6_e hf
            refine J_callV (As := [.int x1_14]) (rest := []) (n := 1) (ws' := wM E a b m_stones m_any m_backward m_ring m_two m_brooks m_readRow m_rowNow m_frogOn m_frogs m_kindOf m_moved m_movedFrom m_movedTo m_pageLength m_page m_faultAt_1 m_isWhole_2 m_newMany_3 m_newSigns_4 m_newRow_5 m_long0_20 m_row_24 m_far_25 m_ways_26 m_queue_27 m_queueEnd_28 m_endMany m_endSoon m_won m_seedNow m_isKept m_keptBrook m_keptMoved m_keptRow m_keptFrog m_keptFrom m_keptTo m_h) hB (c_X8_farTo l E a b m_stones m_any m_backward m_ring m_two m_brooks m_readRow m_rowNow m_frogOn m_frogs m_kindOf m_moved m_movedFrom m_movedTo m_pageLength m_page m_faultAt_1 m_isWhole_2 m_newMany_3 m_newSigns_4 m_newRow_5 m_long0_20 m_row_21 m_far m_ways m_queue m_queueEnd m_endMany m_endSoon m_won m_seedNow m_isKept m_keptBrook m_keptMoved m_keptRow m_keptFrog m_keptFrom m_keptTo m_h h_29) mi_X8_farTo ⟨ki_X8_farTo, kv_X8_farTo⟩ km_X8_197 ⟨rfl, rfl, Nat.le_of_ble_eq_true rfl, Nat.le_of_ble_eq_true rfl⟩ Lies.same 0 rfl rfl rfl rfl (Nat.le_of_ble_eq_true rfl) dX8_comes_83 ?_
            show J l E rX8_comes Y (wM E a b m_stones m_any m_backward m_ring m_two m_brooks m_readRow m_rowNow m_frogOn m_frogs m_kindOf m_moved m_movedFrom m_movedTo m_pageLength m_page m_faultAt_1 m_isWhole_2 m_newMany_3 m_newSigns_4 m_newRow_5 m_long0_20 m_row_24 m_far_25 m_ways_26 m_queue_27 m_queueEnd_28 m_endMany m_endSoon m_won m_seedNow m_isKept m_keptBrook m_keptMoved m_keptRow m_keptFrog m_keptFrom m_keptTo m_h) 86 [(0, .ref (a b)), (1, .int x1_14)] [.int r_23]
            obtain rfl := Option.some.inj hf
            exact J_iret hB hR dX8_comes_86
        · have hf := it_f c_10 hf
          refine J_bipush (v := (-103)) hB dX8_comes_44 rfl ?_
          obtain rfl := Option.some.inj hf
          exact J_iret hB hR dX8_comes_46
def f_X8_turns (m_any : Int32) (m_backward : Int32) (m_ring : Int32) (m_two : Int32) (m_long0 : Int32) (m_row : Nat → Int32) (m_far : Nat → Int32) (m_ways : Nat → Int64) (m_queue : Nat → Int32) (m_queueEnd : Int32) : Option (Int32 × (Nat → Int32) × (Nat → Int32) × (Nat → Int64) × (Nat → Int32) × Int32) :=
cl1 (f_X8_turnedCode m_long0 m_row) fun r_1 =>
cl6 (f_X8_farTo m_any m_backward m_ring m_two m_long0 m_row m_far m_ways m_queue m_queueEnd r_1) fun r_3 m_row_4 m_far_5 m_ways_6 m_queue_7 m_queueEnd_8 =>
some (r_3, m_row_4, m_far_5, m_ways_6, m_queue_7, m_queueEnd_8)
abbrev rX8_turns : Room := { frames := 6, cells := 0, slots := 0, locals := 141 }
set_option maxRecDepth 100000 in
set_option maxHeartbeats 4000000 in
theorem c_X8_turns (l : Launch) (E : En) (a : Nat → Nat) (b : Nat) (m_stones : Int32) (m_any : Int32) (m_backward : Int32) (m_ring : Int32) (m_two : Int32) (m_brooks : Int32) (m_readRow : Nat → Int32) (m_rowNow : Nat → Int32) (m_frogOn : Nat → Int32) (m_frogs : Int32) (m_kindOf : Nat → Int32) (m_moved : Int32) (m_movedFrom : Nat → Int32) (m_movedTo : Nat → Int32) (m_pageLength : Int32) (m_page : Nat → Int32) (m_faultAt : Int32) (m_isWhole : Int32) (m_newMany : Int32) (m_newSigns : Int32) (m_newRow : Nat → Int32) (m_long0 : Int32) (m_row : Nat → Int32) (m_far : Nat → Int32) (m_ways : Nat → Int64) (m_queue : Nat → Int32) (m_queueEnd : Int32) (m_endMany : Int32) (m_endSoon : Int32) (m_won : Nat → Int32) (m_seedNow : Int64) (m_isKept : Int32) (m_keptBrook : Int32) (m_keptMoved : Int32) (m_keptRow : Nat → Int32) (m_keptFrog : Nat → Int32) (m_keptFrom : Nat → Int32) (m_keptTo : Nat → Int32) (m_h : Int64) {res : Int32 × (Nat → Int32) × (Nat → Int32) × (Nat → Int64) × (Nat → Int32) × Int32} (hf : f_X8_turns m_any m_backward m_ring m_two m_long0 m_row m_far m_ways m_queue m_queueEnd = some res) : Ct l yX8_turns (.code yX8_turns cX8_turns 1 (some .int)) rX8_turns E [.ref (a b)] (wM E a b m_stones m_any m_backward m_ring m_two m_brooks m_readRow m_rowNow m_frogOn m_frogs m_kindOf m_moved m_movedFrom m_movedTo m_pageLength m_page m_faultAt m_isWhole m_newMany m_newSigns m_newRow m_long0 m_row m_far m_ways m_queue m_queueEnd m_endMany m_endSoon m_won m_seedNow m_isKept m_keptBrook m_keptMoved m_keptRow m_keptFrog m_keptFrom m_keptTo m_h) (some (.int res.1)) (wM E a b m_stones m_any m_backward m_ring m_two m_brooks m_readRow m_rowNow m_frogOn m_frogs m_kindOf m_moved m_movedFrom m_movedTo m_pageLength m_page m_faultAt m_isWhole m_newMany m_newSigns m_newRow m_long0 res.2.1 res.2.2.1 res.2.2.2.1 res.2.2.2.2.1 res.2.2.2.2.2 m_endMany m_endSoon m_won m_seedNow m_isKept m_keptBrook m_keptMoved m_keptRow m_keptFrog m_keptFrom m_keptTo m_h) := by
  refine Ct.of (by decide) (Nat.le_of_ble_eq_true rfl) (fun Y hB hR => ?_)
  have hB : Cb E cX8_turns RX8 rX8_turns 1 Y := hB
  show J l E rX8_turns Y (wM E a b m_stones m_any m_backward m_ring m_two m_brooks m_readRow m_rowNow m_frogOn m_frogs m_kindOf m_moved m_movedFrom m_movedTo m_pageLength m_page m_faultAt m_isWhole m_newMany m_newSigns m_newRow m_long0 m_row m_far m_ways m_queue m_queueEnd m_endMany m_endSoon m_won m_seedNow m_isKept m_keptBrook m_keptMoved m_keptRow m_keptFrog m_keptFrom m_keptTo m_h) 0 [(0, .ref (a b))] []
  unfold f_X8_turns at hf
  refine J_aload_n hB dX8_turns_0 rfl 0 rfl ?_
  refine J_aload_n hB dX8_turns_1 rfl 0 rfl ?_
  obtain ⟨r_1, h_2, hf⟩ := cl1_e hf
  refine J_callV (As := []) (rest := [.ref (a b)]) (n := 0) (ws' := wM E a b m_stones m_any m_backward m_ring m_two m_brooks m_readRow m_rowNow m_frogOn m_frogs m_kindOf m_moved m_movedFrom m_movedTo m_pageLength m_page m_faultAt m_isWhole m_newMany m_newSigns m_newRow m_long0 m_row m_far m_ways m_queue m_queueEnd m_endMany m_endSoon m_won m_seedNow m_isKept m_keptBrook m_keptMoved m_keptRow m_keptFrog m_keptFrom m_keptTo m_h) hB (c_X8_turnedCode l E a b m_stones m_any m_backward m_ring m_two m_brooks m_readRow m_rowNow m_frogOn m_frogs m_kindOf m_moved m_movedFrom m_movedTo m_pageLength m_page m_faultAt m_isWhole m_newMany m_newSigns m_newRow m_long0 m_row m_far m_ways m_queue m_queueEnd m_endMany m_endSoon m_won m_seedNow m_isKept m_keptBrook m_keptMoved m_keptRow m_keptFrog m_keptFrom m_keptTo m_h h_2) mi_X8_turnedCode ⟨ki_X8_turnedCode, kv_X8_turnedCode⟩ km_X8_188 ⟨rfl, rfl, Nat.le_of_ble_eq_true rfl, Nat.le_of_ble_eq_true rfl⟩ Lies.same 0 rfl rfl rfl rfl (Nat.le_of_ble_eq_true rfl) dX8_turns_2 ?_
  show J l E rX8_turns Y (wM E a b m_stones m_any m_backward m_ring m_two m_brooks m_readRow m_rowNow m_frogOn m_frogs m_kindOf m_moved m_movedFrom m_movedTo m_pageLength m_page m_faultAt m_isWhole m_newMany m_newSigns m_newRow m_long0 m_row m_far m_ways m_queue m_queueEnd m_endMany m_endSoon m_won m_seedNow m_isKept m_keptBrook m_keptMoved m_keptRow m_keptFrog m_keptFrom m_keptTo m_h) 5 [(0, .ref (a b))] [.int r_1, .ref (a b)]
  obtain ⟨r_3, m_row_4, m_far_5, m_ways_6, m_queue_7, m_queueEnd_8, h_9, hf⟩ := cl6_e hf
  refine J_callV (As := [.int r_1]) (rest := []) (n := 1) (ws' := wM E a b m_stones m_any m_backward m_ring m_two m_brooks m_readRow m_rowNow m_frogOn m_frogs m_kindOf m_moved m_movedFrom m_movedTo m_pageLength m_page m_faultAt m_isWhole m_newMany m_newSigns m_newRow m_long0 m_row_4 m_far_5 m_ways_6 m_queue_7 m_queueEnd_8 m_endMany m_endSoon m_won m_seedNow m_isKept m_keptBrook m_keptMoved m_keptRow m_keptFrog m_keptFrom m_keptTo m_h) hB (c_X8_farTo l E a b m_stones m_any m_backward m_ring m_two m_brooks m_readRow m_rowNow m_frogOn m_frogs m_kindOf m_moved m_movedFrom m_movedTo m_pageLength m_page m_faultAt m_isWhole m_newMany m_newSigns m_newRow m_long0 m_row m_far m_ways m_queue m_queueEnd m_endMany m_endSoon m_won m_seedNow m_isKept m_keptBrook m_keptMoved m_keptRow m_keptFrog m_keptFrom m_keptTo m_h h_9) mi_X8_farTo ⟨ki_X8_farTo, kv_X8_farTo⟩ km_X8_197 ⟨rfl, rfl, Nat.le_of_ble_eq_true rfl, Nat.le_of_ble_eq_true rfl⟩ Lies.same 0 rfl rfl rfl rfl (Nat.le_of_ble_eq_true rfl) dX8_turns_5 ?_
  show J l E rX8_turns Y (wM E a b m_stones m_any m_backward m_ring m_two m_brooks m_readRow m_rowNow m_frogOn m_frogs m_kindOf m_moved m_movedFrom m_movedTo m_pageLength m_page m_faultAt m_isWhole m_newMany m_newSigns m_newRow m_long0 m_row_4 m_far_5 m_ways_6 m_queue_7 m_queueEnd_8 m_endMany m_endSoon m_won m_seedNow m_isKept m_keptBrook m_keptMoved m_keptRow m_keptFrog m_keptFrom m_keptTo m_h) 8 [(0, .ref (a b))] [.int r_3]
  obtain rfl := Option.some.inj hf
  exact J_iret hB hR dX8_turns_8
def f_X8_moreNow (m_stones : Int32) (m_any : Int32) (m_backward : Int32) (m_ring : Int32) (m_two : Int32) (m_readRow : Nat → Int32) (m_long0 : Int32) (m_row : Nat → Int32) (m_far : Nat → Int32) (m_ways : Nat → Int64) (m_queue : Nat → Int32) (m_queueEnd : Int32) (p0 : Int32) : Option (Int32 × Int32 × (Nat → Int32) × (Nat → Int32) × (Nat → Int64) × (Nat → Int32) × Int32) :=
lp9_8 (fun (x2_1 : Int32) (x3_2 : Int32) (x4_3 : Int32) (m_long0_4 : Int32) (m_row_5 : Nat → Int32) (m_far_6 : Nat → Int32) (m_ways_7 : Nat → Int64) (m_queue_8 : Nat → Int32) (m_queueEnd_9 : Int32) nx8 ex8 =>
if m_stones < x4_3 then (
ex8 x2_1 x3_2 m_long0_4 m_row_5 m_far_6 m_ways_7 m_queue_8 m_queueEnd_9) else (
nmv (α := Int32) (m_stones + (1 : Int32)) fun m_long0_19 =>
lp2_1 (fun (x5_20 : Int32) (m_row_21 : Nat → Int32) nx30 ex30 =>
if m_long0_19 ≤ x5_20 then (
ex30 m_row_21) else (
jn1 (fun (s_24 : Int32) =>
astI 7 m_row_21 x5_20 s_24 fun m_row_25 =>
nmv (α := Int32) (x5_20 + 1) fun x5_27 =>
nx30 x5_27 m_row_25) fun j77 =>
if x5_20 = x4_3 then (
j77 0) else (
jn1 (fun (s_29 : Int32) =>
ald 7 m_readRow s_29 fun v_30 =>
j77 v_30) fun j76 =>
if x4_3 ≤ x5_20 then (
j76 (x5_20 - (1 : Int32))) else (
j76 x5_20)))) (fun (m_row_22 : Nat → Int32) =>
cl6 (f_X8_turns m_any m_backward m_ring m_two m_long0_19 m_row_22 m_far_6 m_ways_7 m_queue_8 m_queueEnd_9) fun r_33 m_row_34 m_far_35 m_ways_36 m_queue_37 m_queueEnd_38 =>
jn1 (fun (s_40 : Int32) =>
jn1 (fun (s_41 : Int32) =>
nmv (α := Int32) (x4_3 + 1) fun x4_42 =>
nx8 s_40 s_41 x4_42 m_long0_19 m_row_34 m_far_35 m_ways_36 m_queue_37 m_queueEnd_38) fun j125 =>
jn0 (
j125 x3_2) fun j124 =>
if r_33 < 0 then (
j124) else (
if x3_2 ≤ r_33 then (
j124) else (
j125 r_33))) fun j107 =>
jn0 (
j107 x2_1) fun j106 =>
if r_33 < 0 then (
j106) else (
if x3_2 ≤ r_33 then (
j106) else (
j107 x4_3))) fuel 0 m_row_5)) (fun (x2_10 : Int32) (x3_11 : Int32) (m_long0_12 : Int32) (m_row_13 : Nat → Int32) (m_far_14 : Nat → Int32) (m_ways_15 : Nat → Int64) (m_queue_16 : Nat → Int32) (m_queueEnd_17 : Int32) =>
jn0 (
some (x2_10, m_long0_12, m_row_13, m_far_14, m_ways_15, m_queue_16, m_queueEnd_17)) fun j141 =>
if x2_10 = ((-1)) then (
j141) else (
if p0 = 0 then (
j141) else (
some (x3_11, m_long0_12, m_row_13, m_far_14, m_ways_15, m_queue_16, m_queueEnd_17)))) fuel ((-1)) 78125 0 m_long0 m_row m_far m_ways m_queue m_queueEnd
abbrev rX8_moreNow : Room := { frames := 7, cells := 0, slots := 0, locals := 161 }
set_option maxRecDepth 100000 in
set_option maxHeartbeats 4000000 in
theorem c_X8_moreNow (l : Launch) (E : En) (a : Nat → Nat) (b : Nat) (m_stones : Int32) (m_any : Int32) (m_backward : Int32) (m_ring : Int32) (m_two : Int32) (m_brooks : Int32) (m_readRow : Nat → Int32) (m_rowNow : Nat → Int32) (m_frogOn : Nat → Int32) (m_frogs : Int32) (m_kindOf : Nat → Int32) (m_moved : Int32) (m_movedFrom : Nat → Int32) (m_movedTo : Nat → Int32) (m_pageLength : Int32) (m_page : Nat → Int32) (m_faultAt : Int32) (m_isWhole : Int32) (m_newMany : Int32) (m_newSigns : Int32) (m_newRow : Nat → Int32) (m_long0 : Int32) (m_row : Nat → Int32) (m_far : Nat → Int32) (m_ways : Nat → Int64) (m_queue : Nat → Int32) (m_queueEnd : Int32) (m_endMany : Int32) (m_endSoon : Int32) (m_won : Nat → Int32) (m_seedNow : Int64) (m_isKept : Int32) (m_keptBrook : Int32) (m_keptMoved : Int32) (m_keptRow : Nat → Int32) (m_keptFrog : Nat → Int32) (m_keptFrom : Nat → Int32) (m_keptTo : Nat → Int32) (m_h : Int64) {p0 : Int32} {res : Int32 × Int32 × (Nat → Int32) × (Nat → Int32) × (Nat → Int64) × (Nat → Int32) × Int32} (hf : f_X8_moreNow m_stones m_any m_backward m_ring m_two m_readRow m_long0 m_row m_far m_ways m_queue m_queueEnd p0 = some res) : Ct l yX8_moreNow (.code yX8_moreNow cX8_moreNow 6 (some .int)) rX8_moreNow E [.ref (a b), .int p0] (wM E a b m_stones m_any m_backward m_ring m_two m_brooks m_readRow m_rowNow m_frogOn m_frogs m_kindOf m_moved m_movedFrom m_movedTo m_pageLength m_page m_faultAt m_isWhole m_newMany m_newSigns m_newRow m_long0 m_row m_far m_ways m_queue m_queueEnd m_endMany m_endSoon m_won m_seedNow m_isKept m_keptBrook m_keptMoved m_keptRow m_keptFrog m_keptFrom m_keptTo m_h) (some (.int res.1)) (wM E a b m_stones m_any m_backward m_ring m_two m_brooks m_readRow m_rowNow m_frogOn m_frogs m_kindOf m_moved m_movedFrom m_movedTo m_pageLength m_page m_faultAt m_isWhole m_newMany m_newSigns m_newRow res.2.1 res.2.2.1 res.2.2.2.1 res.2.2.2.2.1 res.2.2.2.2.2.1 res.2.2.2.2.2.2 m_endMany m_endSoon m_won m_seedNow m_isKept m_keptBrook m_keptMoved m_keptRow m_keptFrog m_keptFrom m_keptTo m_h) := by
  refine Ct.of (by decide) (Nat.le_of_ble_eq_true rfl) (fun Y hB hR => ?_)
  have hB : Cb E cX8_moreNow RX8 rX8_moreNow 6 Y := hB
  show J l E rX8_moreNow Y (wM E a b m_stones m_any m_backward m_ring m_two m_brooks m_readRow m_rowNow m_frogOn m_frogs m_kindOf m_moved m_movedFrom m_movedTo m_pageLength m_page m_faultAt m_isWhole m_newMany m_newSigns m_newRow m_long0 m_row m_far m_ways m_queue m_queueEnd m_endMany m_endSoon m_won m_seedNow m_isKept m_keptBrook m_keptMoved m_keptRow m_keptFrog m_keptFrom m_keptTo m_h) 0 [(0, .ref (a b)), (1, .int p0)] []
  unfold f_X8_moreNow at hf
  refine J_iconst (v := (-1)) hB dX8_moreNow_0 rfl ?_
  refine J_istore_n (lv' := [(2, .int ((-1))), (0, .ref (a b)), (1, .int p0)]) hB rfl dX8_moreNow_1 rfl (Nat.le_of_ble_eq_true rfl) rfl ?_
  refine J_ldc hB dX8_moreNow_2 kk_X8_38 ?_
  refine J_istore_n (lv' := [(3, .int 78125), (2, .int ((-1))), (0, .ref (a b)), (1, .int p0)]) hB rfl dX8_moreNow_4 rfl (Nat.le_of_ble_eq_true rfl) rfl ?_
  refine J_iconst (v := 0) hB dX8_moreNow_5 rfl ?_
  refine J_istore (lv' := [(4, .int 0), (3, .int 78125), (2, .int ((-1))), (0, .ref (a b)), (1, .int p0)]) hB rfl dX8_moreNow_6 (Nat.le_of_ble_eq_true rfl) rfl ?_
  refine J_lv [3, 4, 2, 1, 0] rfl ?_
  refine lp9_8_J (P := fun x2_1 x3_2 x4_3 m_long0_4 m_row_5 m_far_6 m_ways_7 m_queue_8 m_queueEnd_9 => J l E rX8_moreNow Y (wM E a b m_stones m_any m_backward m_ring m_two m_brooks m_readRow m_rowNow m_frogOn m_frogs m_kindOf m_moved m_movedFrom m_movedTo m_pageLength m_page m_faultAt m_isWhole m_newMany m_newSigns m_newRow m_long0_4 m_row_5 m_far_6 m_ways_7 m_queue_8 m_queueEnd_9 m_endMany m_endSoon m_won m_seedNow m_isKept m_keptBrook m_keptMoved m_keptRow m_keptFrog m_keptFrom m_keptTo m_h) 8 [(0, .ref (a b)), (1, .int p0), (2, .int x2_1), (3, .int x3_2), (4, .int x4_3)] []) (Q := fun x2_10 x3_11 m_long0_12 m_row_13 m_far_14 m_ways_15 m_queue_16 m_queueEnd_17 => J l E rX8_moreNow Y (wM E a b m_stones m_any m_backward m_ring m_two m_brooks m_readRow m_rowNow m_frogOn m_frogs m_kindOf m_moved m_movedFrom m_movedTo m_pageLength m_page m_faultAt m_isWhole m_newMany m_newSigns m_newRow m_long0_12 m_row_13 m_far_14 m_ways_15 m_queue_16 m_queueEnd_17 m_endMany m_endSoon m_won m_seedNow m_isKept m_keptBrook m_keptMoved m_keptRow m_keptFrog m_keptFrom m_keptTo m_h) 132 [(1, .int p0), (2, .int x2_10), (3, .int x3_11)] []) (fun x2_1 x3_2 x4_3 m_long0_4 m_row_5 m_far_6 m_ways_7 m_queue_8 m_queueEnd_9 nx8 ex8 hnx8 hex8 hf => ?_) (fun x2_10 x3_11 m_long0_12 m_row_13 m_far_14 m_ways_15 m_queue_16 m_queueEnd_17 hf => ?_) hf
  · refine J_iload hB dX8_moreNow_8 4 rfl ?_
    refine J_aload_n hB dX8_moreNow_10 rfl 0 rfl ?_
    refine J_get (v := .int m_stones) hB inX8 0 rfl rfl 0 (Nat.le_of_ble_eq_true rfl) kf_X8_93 rfl dX8_moreNow_11 ?_
    refine J_icmp_gt (tgt := 132) hB dX8_moreNow_14 rfl (fun c_18 => ?_) (fun c_18 => ?_)
    · have hf := it_t c_18 hf
      exact J_lv [1, 2, 3] rfl (hex8 x2_1 x3_2 m_long0_4 m_row_5 m_far_6 m_ways_7 m_queue_8 m_queueEnd_9 hf)
    · have hf := it_f c_18 hf
      refine J_aload_n hB dX8_moreNow_17 rfl 0 rfl ?_
      refine J_aload_n hB dX8_moreNow_18 rfl 0 rfl ?_
      refine J_get (v := .int m_stones) hB inX8 0 rfl rfl 0 (Nat.le_of_ble_eq_true rfl) kf_X8_93 rfl dX8_moreNow_19 ?_
      refine J_iconst (v := 1) hB dX8_moreNow_22 rfl ?_
      refine J_iadd hB dX8_moreNow_23 ?_
      obtain ⟨m_long0_19, em_long0_19, hf⟩ := nmv_e hf
      rw [← em_long0_19]
      refine J_put (ws' := wM E a b m_stones m_any m_backward m_ring m_two m_brooks m_readRow m_rowNow m_frogOn m_frogs m_kindOf m_moved m_movedFrom m_movedTo m_pageLength m_page m_faultAt m_isWhole m_newMany m_newSigns m_newRow m_long0_19 m_row_5 m_far_6 m_ways_7 m_queue_8 m_queueEnd_9 m_endMany m_endSoon m_won m_seedNow m_isKept m_keptBrook m_keptMoved m_keptRow m_keptFrog m_keptFrom m_keptTo m_h) (ty := .int) (v := .int m_long0_19) hB inX8 tyX8 tyX8_ok nmX8 0 rfl rfl 21 (Nat.le_of_ble_eq_true rfl) kf_X8_135 rfl rfl rfl rfl (Nat.le_of_ble_eq_true rfl) dX8_moreNow_24 rfl ?_
      refine J_iconst (v := 0) hB dX8_moreNow_27 rfl ?_
      refine J_istore (lv' := [(5, .int 0), (0, .ref (a b)), (1, .int p0), (2, .int x2_1), (3, .int x3_2), (4, .int x4_3)]) hB rfl dX8_moreNow_28 (Nat.le_of_ble_eq_true rfl) rfl ?_
      refine J_lv [1, 2, 3, 4, 5, 0] rfl ?_
      refine lp2_1_J (P := fun x5_20 m_row_21 => J l E rX8_moreNow Y (wM E a b m_stones m_any m_backward m_ring m_two m_brooks m_readRow m_rowNow m_frogOn m_frogs m_kindOf m_moved m_movedFrom m_movedTo m_pageLength m_page m_faultAt m_isWhole m_newMany m_newSigns m_newRow m_long0_19 m_row_21 m_far_6 m_ways_7 m_queue_8 m_queueEnd_9 m_endMany m_endSoon m_won m_seedNow m_isKept m_keptBrook m_keptMoved m_keptRow m_keptFrog m_keptFrom m_keptTo m_h) 30 [(0, .ref (a b)), (1, .int p0), (2, .int x2_1), (3, .int x3_2), (4, .int x4_3), (5, .int x5_20)] []) (Q := fun m_row_22 => J l E rX8_moreNow Y (wM E a b m_stones m_any m_backward m_ring m_two m_brooks m_readRow m_rowNow m_frogOn m_frogs m_kindOf m_moved m_movedFrom m_movedTo m_pageLength m_page m_faultAt m_isWhole m_newMany m_newSigns m_newRow m_long0_19 m_row_22 m_far_6 m_ways_7 m_queue_8 m_queueEnd_9 m_endMany m_endSoon m_won m_seedNow m_isKept m_keptBrook m_keptMoved m_keptRow m_keptFrog m_keptFrom m_keptTo m_h) 84 [(0, .ref (a b)), (1, .int p0), (2, .int x2_1), (3, .int x3_2), (4, .int x4_3)] []) (fun x5_20 m_row_21 nx30 ex30 hnx30 hex30 hf => ?_) (fun m_row_22 hf => ?_) hf
      · refine J_iload hB dX8_moreNow_30 5 rfl ?_
        refine J_aload_n hB dX8_moreNow_32 rfl 0 rfl ?_
        refine J_get (v := .int m_long0_19) hB inX8 0 rfl rfl 21 (Nat.le_of_ble_eq_true rfl) kf_X8_135 rfl dX8_moreNow_33 ?_
        refine J_icmp_ge (tgt := 84) hB dX8_moreNow_36 rfl (fun c_23 => ?_) (fun c_23 => ?_)
        · have hf := it_t c_23 hf
          exact J_lv [0, 1, 2, 3, 4] rfl (hex30 m_row_21 hf)
        · have hf := it_f c_23 hf
          refine J_aload_n hB dX8_moreNow_39 rfl 0 rfl ?_
          refine J_get (v := .ref (a (b + 9))) hB inX8 0 rfl rfl 22 (Nat.le_of_ble_eq_true rfl) kf_X8_35 rfl dX8_moreNow_40 ?_
          refine J_iload hB dX8_moreNow_43 5 rfl ?_
          refine J_iload hB dX8_moreNow_45 5 rfl ?_
          refine J_iload hB dX8_moreNow_47 4 rfl ?_
          refine jn1_e (P := fun s_24 => J l E rX8_moreNow Y (wM E a b m_stones m_any m_backward m_ring m_two m_brooks m_readRow m_rowNow m_frogOn m_frogs m_kindOf m_moved m_movedFrom m_movedTo m_pageLength m_page m_faultAt m_isWhole m_newMany m_newSigns m_newRow m_long0_19 m_row_21 m_far_6 m_ways_7 m_queue_8 m_queueEnd_9 m_endMany m_endSoon m_won m_seedNow m_isKept m_keptBrook m_keptMoved m_keptRow m_keptFrog m_keptFrom m_keptTo m_h) 77 [(0, .ref (a b)), (1, .int p0), (2, .int x2_1), (3, .int x3_2), (4, .int x4_3), (5, .int x5_20)] [.int s_24, .int x5_20, .ref (a (b + 9))]) hf (fun s_24 hf => ?_) (fun j77 hj77 hf => ?_)
          · obtain ⟨m_row_25, em_row_25, h_26, hf⟩ := astI_e hf
            refine J_iast (ws' := wM E a b m_stones m_any m_backward m_ring m_two m_brooks m_readRow m_rowNow m_frogOn m_frogs m_kindOf m_moved m_movedFrom m_movedTo m_pageLength m_page m_faultAt m_isWhole m_newMany m_newSigns m_newRow m_long0_19 m_row_25 m_far_6 m_ways_7 m_queue_8 m_queueEnd_9 m_endMany m_endSoon m_won m_seedNow m_isKept m_keptBrook m_keptMoved m_keptRow m_keptFrog m_keptFrom m_keptTo m_h) hB 9 rfl em_row_25 h_26 dX8_moreNow_77 rfl ?_
            obtain ⟨x5_27, ex5_27, hf⟩ := nmv_e hf
            refine J_iinc (lv' := [(5, .int x5_27), (0, .ref (a b)), (1, .int p0), (2, .int x2_1), (3, .int x3_2), (4, .int x4_3)]) hB ex5_27 dX8_moreNow_78 5 rfl (Nat.le_of_ble_eq_true rfl) rfl ?_
            refine J_goto (tgt := 30) hB dX8_moreNow_81 rfl ?_
            exact J_lv [1, 2, 3, 4, 5, 0] rfl (hnx30 x5_27 m_row_25 hf)
          · refine J_icmp_ne (tgt := 56) hB dX8_moreNow_49 rfl (fun c_28 => ?_) (fun c_28 => ?_)
            · have hf := it_f c_28 hf
              refine J_aload_n hB dX8_moreNow_56 rfl 0 rfl ?_
              refine J_get (v := .ref (a (b + 1))) hB inX8 0 rfl rfl 6 (Nat.le_of_ble_eq_true rfl) kf_X8_7 rfl dX8_moreNow_57 ?_
              refine J_iload hB dX8_moreNow_60 5 rfl ?_
              refine J_iload hB dX8_moreNow_62 4 rfl ?_
              refine jn1_e (P := fun s_29 => J l E rX8_moreNow Y (wM E a b m_stones m_any m_backward m_ring m_two m_brooks m_readRow m_rowNow m_frogOn m_frogs m_kindOf m_moved m_movedFrom m_movedTo m_pageLength m_page m_faultAt m_isWhole m_newMany m_newSigns m_newRow m_long0_19 m_row_21 m_far_6 m_ways_7 m_queue_8 m_queueEnd_9 m_endMany m_endSoon m_won m_seedNow m_isKept m_keptBrook m_keptMoved m_keptRow m_keptFrog m_keptFrom m_keptTo m_h) 76 [(0, .ref (a b)), (1, .int p0), (2, .int x2_1), (3, .int x3_2), (4, .int x4_3), (5, .int x5_20)] [.int s_29, .ref (a (b + 1)), .int x5_20, .ref (a (b + 9))]) hf (fun s_29 hf => ?_) (fun j76 hj76 hf => ?_)
              · obtain ⟨v_30, ev_30, h_31, hf⟩ := ald_e hf
                refine J_iald hB 1 rfl ev_30 h_31 dX8_moreNow_76 ?_
                exact J_lv [0, 1, 2, 3, 4, 5] rfl (hj77 v_30 hf)
              · refine J_icmp_ge (tgt := 72) hB dX8_moreNow_64 rfl (fun c_32 => ?_) (fun c_32 => ?_)
                · have hf := it_t c_32 hf
                  refine J_iload hB dX8_moreNow_72 5 rfl ?_
                  refine J_iconst (v := 1) hB dX8_moreNow_74 rfl ?_
                  refine J_isub hB dX8_moreNow_75 ?_
                  exact J_lv [0, 1, 2, 3, 4, 5] rfl (hj76 (x5_20 - (1 : Int32)) hf)
                · have hf := it_f c_32 hf
                  refine J_iload hB dX8_moreNow_67 5 rfl ?_
                  refine J_goto (tgt := 76) hB dX8_moreNow_69 rfl ?_
                  exact J_lv [0, 1, 2, 3, 4, 5] rfl (hj76 x5_20 hf)
            · have hf := it_t c_28 hf
              refine J_iconst (v := 0) hB dX8_moreNow_52 rfl ?_
              refine J_goto (tgt := 77) hB dX8_moreNow_53 rfl ?_
              exact J_lv [0, 1, 2, 3, 4, 5] rfl (hj77 0 hf)
      · refine J_aload_n hB dX8_moreNow_84 rfl 0 rfl ?_
        obtain ⟨r_33, m_row_34, m_far_35, m_ways_36, m_queue_37, m_queueEnd_38, h_39, hf⟩ := cl6_e hf
        refine J_callV (As := []) (rest := []) (n := 0) (ws' := wM E a b m_stones m_any m_backward m_ring m_two m_brooks m_readRow m_rowNow m_frogOn m_frogs m_kindOf m_moved m_movedFrom m_movedTo m_pageLength m_page m_faultAt m_isWhole m_newMany m_newSigns m_newRow m_long0_19 m_row_34 m_far_35 m_ways_36 m_queue_37 m_queueEnd_38 m_endMany m_endSoon m_won m_seedNow m_isKept m_keptBrook m_keptMoved m_keptRow m_keptFrog m_keptFrom m_keptTo m_h) hB (c_X8_turns l E a b m_stones m_any m_backward m_ring m_two m_brooks m_readRow m_rowNow m_frogOn m_frogs m_kindOf m_moved m_movedFrom m_movedTo m_pageLength m_page m_faultAt m_isWhole m_newMany m_newSigns m_newRow m_long0_19 m_row_22 m_far_6 m_ways_7 m_queue_8 m_queueEnd_9 m_endMany m_endSoon m_won m_seedNow m_isKept m_keptBrook m_keptMoved m_keptRow m_keptFrog m_keptFrom m_keptTo m_h h_39) mi_X8_turns ⟨ki_X8_turns, kv_X8_turns⟩ km_X8_218 ⟨rfl, rfl, Nat.le_of_ble_eq_true rfl, Nat.le_of_ble_eq_true rfl⟩ Lies.same 0 rfl rfl rfl rfl (Nat.le_of_ble_eq_true rfl) dX8_moreNow_85 ?_
        show J l E rX8_moreNow Y (wM E a b m_stones m_any m_backward m_ring m_two m_brooks m_readRow m_rowNow m_frogOn m_frogs m_kindOf m_moved m_movedFrom m_movedTo m_pageLength m_page m_faultAt m_isWhole m_newMany m_newSigns m_newRow m_long0_19 m_row_34 m_far_35 m_ways_36 m_queue_37 m_queueEnd_38 m_endMany m_endSoon m_won m_seedNow m_isKept m_keptBrook m_keptMoved m_keptRow m_keptFrog m_keptFrom m_keptTo m_h) 88 [(0, .ref (a b)), (1, .int p0), (2, .int x2_1), (3, .int x3_2), (4, .int x4_3)] [.int r_33]
        refine J_istore (lv' := [(5, .int r_33), (0, .ref (a b)), (1, .int p0), (2, .int x2_1), (3, .int x3_2), (4, .int x4_3)]) hB rfl dX8_moreNow_88 (Nat.le_of_ble_eq_true rfl) rfl ?_
        refine J_iload hB dX8_moreNow_90 0 rfl ?_
        refine jn1_e (P := fun s_40 => J l E rX8_moreNow Y (wM E a b m_stones m_any m_backward m_ring m_two m_brooks m_readRow m_rowNow m_frogOn m_frogs m_kindOf m_moved m_movedFrom m_movedTo m_pageLength m_page m_faultAt m_isWhole m_newMany m_newSigns m_newRow m_long0_19 m_row_34 m_far_35 m_ways_36 m_queue_37 m_queueEnd_38 m_endMany m_endSoon m_won m_seedNow m_isKept m_keptBrook m_keptMoved m_keptRow m_keptFrog m_keptFrom m_keptTo m_h) 107 [(0, .ref (a b)), (1, .int p0), (3, .int x3_2), (4, .int x4_3), (5, .int r_33)] [.int s_40]) hf (fun s_40 hf => ?_) (fun j107 hj107 hf => ?_)
        · refine J_istore_n (lv' := [(2, .int s_40), (0, .ref (a b)), (1, .int p0), (3, .int x3_2), (4, .int x4_3), (5, .int r_33)]) hB rfl dX8_moreNow_107 rfl (Nat.le_of_ble_eq_true rfl) rfl ?_
          refine J_iload hB dX8_moreNow_108 5 rfl ?_
          refine jn1_e (P := fun s_41 => J l E rX8_moreNow Y (wM E a b m_stones m_any m_backward m_ring m_two m_brooks m_readRow m_rowNow m_frogOn m_frogs m_kindOf m_moved m_movedFrom m_movedTo m_pageLength m_page m_faultAt m_isWhole m_newMany m_newSigns m_newRow m_long0_19 m_row_34 m_far_35 m_ways_36 m_queue_37 m_queueEnd_38 m_endMany m_endSoon m_won m_seedNow m_isKept m_keptBrook m_keptMoved m_keptRow m_keptFrog m_keptFrom m_keptTo m_h) 125 [(0, .ref (a b)), (1, .int p0), (2, .int s_40), (4, .int x4_3)] [.int s_41]) hf (fun s_41 hf => ?_) (fun j125 hj125 hf => ?_)
          · refine J_istore_n (lv' := [(3, .int s_41), (0, .ref (a b)), (1, .int p0), (2, .int s_40), (4, .int x4_3)]) hB rfl dX8_moreNow_125 rfl (Nat.le_of_ble_eq_true rfl) rfl ?_
            obtain ⟨x4_42, ex4_42, hf⟩ := nmv_e hf
            refine J_iinc (lv' := [(4, .int x4_42), (3, .int s_41), (0, .ref (a b)), (1, .int p0), (2, .int s_40)]) hB ex4_42 dX8_moreNow_126 4 rfl (Nat.le_of_ble_eq_true rfl) rfl ?_
            refine J_goto (tgt := 8) hB dX8_moreNow_129 rfl ?_
            exact J_lv [2, 3, 4, 1, 0] rfl (hnx8 s_40 s_41 x4_42 m_long0_19 m_row_34 m_far_35 m_ways_36 m_queue_37 m_queueEnd_38 hf)
          · refine jn0_e (P := J l E rX8_moreNow Y (wM E a b m_stones m_any m_backward m_ring m_two m_brooks m_readRow m_rowNow m_frogOn m_frogs m_kindOf m_moved m_movedFrom m_movedTo m_pageLength m_page m_faultAt m_isWhole m_newMany m_newSigns m_newRow m_long0_19 m_row_34 m_far_35 m_ways_36 m_queue_37 m_queueEnd_38 m_endMany m_endSoon m_won m_seedNow m_isKept m_keptBrook m_keptMoved m_keptRow m_keptFrog m_keptFrom m_keptTo m_h) 124 [(0, .ref (a b)), (1, .int p0), (2, .int s_40), (3, .int x3_2), (4, .int x4_3)] []) hf (fun hf => ?_) (fun j124 hj124 hf => ?_)
            · refine J_iload_n hB dX8_moreNow_124 rfl 3 rfl ?_
              exact J_lv [0, 1, 2, 4] rfl (hj125 x3_2 hf)
            · refine J_if_lt (tgt := 124) hB dX8_moreNow_110 rfl (fun c_43 => ?_) (fun c_43 => ?_)
              · have hf := it_t c_43 hf
                exact J_lv [1, 2, 0, 3, 4] rfl (hj124 hf)
              · have hf := it_f c_43 hf
                refine J_iload hB dX8_moreNow_113 5 rfl ?_
                refine J_iload_n hB dX8_moreNow_115 rfl 3 rfl ?_
                refine J_icmp_ge (tgt := 124) hB dX8_moreNow_116 rfl (fun c_44 => ?_) (fun c_44 => ?_)
                · have hf := it_t c_44 hf
                  exact J_lv [1, 2, 0, 3, 4] rfl (hj124 hf)
                · have hf := it_f c_44 hf
                  refine J_iload hB dX8_moreNow_119 5 rfl ?_
                  refine J_goto (tgt := 125) hB dX8_moreNow_121 rfl ?_
                  exact J_lv [1, 2, 0, 4] rfl (hj125 r_33 hf)
        · refine jn0_e (P := J l E rX8_moreNow Y (wM E a b m_stones m_any m_backward m_ring m_two m_brooks m_readRow m_rowNow m_frogOn m_frogs m_kindOf m_moved m_movedFrom m_movedTo m_pageLength m_page m_faultAt m_isWhole m_newMany m_newSigns m_newRow m_long0_19 m_row_34 m_far_35 m_ways_36 m_queue_37 m_queueEnd_38 m_endMany m_endSoon m_won m_seedNow m_isKept m_keptBrook m_keptMoved m_keptRow m_keptFrog m_keptFrom m_keptTo m_h) 106 [(0, .ref (a b)), (1, .int p0), (2, .int x2_1), (3, .int x3_2), (4, .int x4_3), (5, .int r_33)] []) hf (fun hf => ?_) (fun j106 hj106 hf => ?_)
          · refine J_iload_n hB dX8_moreNow_106 rfl 2 rfl ?_
            exact J_lv [0, 1, 3, 4, 5] rfl (hj107 x2_1 hf)
          · refine J_if_lt (tgt := 106) hB dX8_moreNow_92 rfl (fun c_45 => ?_) (fun c_45 => ?_)
            · have hf := it_t c_45 hf
              exact J_lv [1, 2, 3, 4, 5, 0] rfl (hj106 hf)
            · have hf := it_f c_45 hf
              refine J_iload hB dX8_moreNow_95 0 rfl ?_
              refine J_iload_n hB dX8_moreNow_97 rfl 4 rfl ?_
              refine J_icmp_ge (tgt := 106) hB dX8_moreNow_98 rfl (fun c_46 => ?_) (fun c_46 => ?_)
              · have hf := it_t c_46 hf
                exact J_lv [1, 2, 3, 4, 5, 0] rfl (hj106 hf)
              · have hf := it_f c_46 hf
                refine J_iload hB dX8_moreNow_101 5 rfl ?_
                refine J_goto (tgt := 107) hB dX8_moreNow_103 rfl ?_
                exact J_lv [1, 2, 4, 5, 0] rfl (hj107 x4_3 hf)
  · refine J_iload_n hB dX8_moreNow_132 rfl 1 rfl ?_
    refine J_iconst (v := (-1)) hB dX8_moreNow_133 rfl ?_
    refine jn0_e (P := J l E rX8_moreNow Y (wM E a b m_stones m_any m_backward m_ring m_two m_brooks m_readRow m_rowNow m_frogOn m_frogs m_kindOf m_moved m_movedFrom m_movedTo m_pageLength m_page m_faultAt m_isWhole m_newMany m_newSigns m_newRow m_long0_12 m_row_13 m_far_14 m_ways_15 m_queue_16 m_queueEnd_17 m_endMany m_endSoon m_won m_seedNow m_isKept m_keptBrook m_keptMoved m_keptRow m_keptFrog m_keptFrom m_keptTo m_h) 141 [(2, .int x2_10)] []) hf (fun hf => ?_) (fun j141 hj141 hf => ?_)
    · refine J_iload_n hB dX8_moreNow_141 rfl 0 rfl ?_
      refine J_goto (tgt := 146) hB dX8_moreNow_142 rfl ?_
      obtain rfl := Option.some.inj hf
      exact J_iret hB hR dX8_moreNow_146
    · refine J_icmp_eq (tgt := 141) hB dX8_moreNow_134 rfl (fun c_47 => ?_) (fun c_47 => ?_)
      · have hf := it_t c_47 hf
        exact J_lv [1] rfl (hj141 hf)
      · have hf := it_f c_47 hf
        refine J_iload_n hB dX8_moreNow_137 rfl 0 rfl ?_
        refine J_if_ne (tgt := 145) hB dX8_moreNow_138 rfl (fun c_48 => ?_) (fun c_48 => ?_)
        · have hf := it_f c_48 hf
          refine J_iload_n hB dX8_moreNow_145 rfl 2 rfl ?_
          obtain rfl := Option.some.inj hf
          exact J_iret hB hR dX8_moreNow_146
        · have hf := it_t c_48 hf
          exact J_lv [1] rfl (hj141 hf)
def f_X8_more (m_stones : Int32) (m_any : Int32) (m_backward : Int32) (m_ring : Int32) (m_two : Int32) (m_readRow : Nat → Int32) (m_long0 : Int32) (m_row : Nat → Int32) (m_far : Nat → Int32) (m_ways : Nat → Int64) (m_queue : Nat → Int32) (m_queueEnd : Int32) (p0 : Int32) : Option (Int32 × Int32 × (Nat → Int32) × (Nat → Int32) × (Nat → Int64) × (Nat → Int32) × Int32) :=
cl1 (f_X8_within p0 0 1) fun r_1 =>
if r_1 = 0 then (
some ((-102), m_long0, m_row, m_far, m_ways, m_queue, m_queueEnd)) else (
jn0 (
some ((-103), m_long0, m_row, m_far, m_ways, m_queue, m_queueEnd)) fun j28 =>
if m_stones = 0 then (
j28) else (
if m_stones = 7 then (
j28) else (
cl7 (f_X8_moreNow m_stones m_any m_backward m_ring m_two m_readRow m_long0 m_row m_far m_ways m_queue m_queueEnd p0) fun r_6 m_long0_7 m_row_8 m_far_9 m_ways_10 m_queue_11 m_queueEnd_12 =>
some (r_6, m_long0_7, m_row_8, m_far_9, m_ways_10, m_queue_11, m_queueEnd_12))))
abbrev rX8_more : Room := { frames := 8, cells := 0, slots := 0, locals := 186 }
set_option maxRecDepth 100000 in
set_option maxHeartbeats 4000000 in
theorem c_X8_more (l : Launch) (E : En) (a : Nat → Nat) (b : Nat) (m_stones : Int32) (m_any : Int32) (m_backward : Int32) (m_ring : Int32) (m_two : Int32) (m_brooks : Int32) (m_readRow : Nat → Int32) (m_rowNow : Nat → Int32) (m_frogOn : Nat → Int32) (m_frogs : Int32) (m_kindOf : Nat → Int32) (m_moved : Int32) (m_movedFrom : Nat → Int32) (m_movedTo : Nat → Int32) (m_pageLength : Int32) (m_page : Nat → Int32) (m_faultAt : Int32) (m_isWhole : Int32) (m_newMany : Int32) (m_newSigns : Int32) (m_newRow : Nat → Int32) (m_long0 : Int32) (m_row : Nat → Int32) (m_far : Nat → Int32) (m_ways : Nat → Int64) (m_queue : Nat → Int32) (m_queueEnd : Int32) (m_endMany : Int32) (m_endSoon : Int32) (m_won : Nat → Int32) (m_seedNow : Int64) (m_isKept : Int32) (m_keptBrook : Int32) (m_keptMoved : Int32) (m_keptRow : Nat → Int32) (m_keptFrog : Nat → Int32) (m_keptFrom : Nat → Int32) (m_keptTo : Nat → Int32) (m_h : Int64) {p0 : Int32} {res : Int32 × Int32 × (Nat → Int32) × (Nat → Int32) × (Nat → Int64) × (Nat → Int32) × Int32} (hf : f_X8_more m_stones m_any m_backward m_ring m_two m_readRow m_long0 m_row m_far m_ways m_queue m_queueEnd p0 = some res) : Ct l yX8_more (.code yX8_more cX8_more 2 (some .int)) rX8_more E [.ref (a b), .int p0] (wM E a b m_stones m_any m_backward m_ring m_two m_brooks m_readRow m_rowNow m_frogOn m_frogs m_kindOf m_moved m_movedFrom m_movedTo m_pageLength m_page m_faultAt m_isWhole m_newMany m_newSigns m_newRow m_long0 m_row m_far m_ways m_queue m_queueEnd m_endMany m_endSoon m_won m_seedNow m_isKept m_keptBrook m_keptMoved m_keptRow m_keptFrog m_keptFrom m_keptTo m_h) (some (.int res.1)) (wM E a b m_stones m_any m_backward m_ring m_two m_brooks m_readRow m_rowNow m_frogOn m_frogs m_kindOf m_moved m_movedFrom m_movedTo m_pageLength m_page m_faultAt m_isWhole m_newMany m_newSigns m_newRow res.2.1 res.2.2.1 res.2.2.2.1 res.2.2.2.2.1 res.2.2.2.2.2.1 res.2.2.2.2.2.2 m_endMany m_endSoon m_won m_seedNow m_isKept m_keptBrook m_keptMoved m_keptRow m_keptFrog m_keptFrom m_keptTo m_h) := by
  refine Ct.of (by decide) (Nat.le_of_ble_eq_true rfl) (fun Y hB hR => ?_)
  have hB : Cb E cX8_more RX8 rX8_more 2 Y := hB
  show J l E rX8_more Y (wM E a b m_stones m_any m_backward m_ring m_two m_brooks m_readRow m_rowNow m_frogOn m_frogs m_kindOf m_moved m_movedFrom m_movedTo m_pageLength m_page m_faultAt m_isWhole m_newMany m_newSigns m_newRow m_long0 m_row m_far m_ways m_queue m_queueEnd m_endMany m_endSoon m_won m_seedNow m_isKept m_keptBrook m_keptMoved m_keptRow m_keptFrog m_keptFrom m_keptTo m_h) 0 [(0, .ref (a b)), (1, .int p0)] []
  unfold f_X8_more at hf
  refine J_iload_n hB dX8_more_0 rfl 1 rfl ?_
  refine J_iconst (v := 0) hB dX8_more_1 rfl ?_
  refine J_iconst (v := 1) hB dX8_more_2 rfl ?_
  obtain ⟨r_1, h_2, hf⟩ := cl1_e hf
  refine J_callS (As := [.int p0, .int 0, .int 1]) (rest := []) (n := 3) (ws' := wM E a b m_stones m_any m_backward m_ring m_two m_brooks m_readRow m_rowNow m_frogOn m_frogs m_kindOf m_moved m_movedFrom m_movedTo m_pageLength m_page m_faultAt m_isWhole m_newMany m_newSigns m_newRow m_long0 m_row m_far m_ways m_queue m_queueEnd m_endMany m_endSoon m_won m_seedNow m_isKept m_keptBrook m_keptMoved m_keptRow m_keptFrog m_keptFrom m_keptTo m_h) hB (c_X8_within l E a h_2) mi_X8_within ks_X8_within km_X8_117 ⟨rfl, rfl, Nat.le_of_ble_eq_true rfl, Nat.le_of_ble_eq_true rfl⟩ Lies.none rfl rfl (Nat.le_of_ble_eq_true rfl) dX8_more_3 ?_
  show J l E rX8_more Y (wM E a b m_stones m_any m_backward m_ring m_two m_brooks m_readRow m_rowNow m_frogOn m_frogs m_kindOf m_moved m_movedFrom m_movedTo m_pageLength m_page m_faultAt m_isWhole m_newMany m_newSigns m_newRow m_long0 m_row m_far m_ways m_queue m_queueEnd m_endMany m_endSoon m_won m_seedNow m_isKept m_keptBrook m_keptMoved m_keptRow m_keptFrog m_keptFrom m_keptTo m_h) 6 [(0, .ref (a b)), (1, .int p0)] [.int r_1]
  refine J_if_ne (tgt := 12) hB dX8_more_6 rfl (fun c_3 => ?_) (fun c_3 => ?_)
  · have hf := it_f c_3 hf
    refine J_aload_n hB dX8_more_12 rfl 0 rfl ?_
    refine J_get (v := .int m_stones) hB inX8 0 rfl rfl 0 (Nat.le_of_ble_eq_true rfl) kf_X8_93 rfl dX8_more_13 ?_
    refine jn0_e (P := J l E rX8_more Y (wM E a b m_stones m_any m_backward m_ring m_two m_brooks m_readRow m_rowNow m_frogOn m_frogs m_kindOf m_moved m_movedFrom m_movedTo m_pageLength m_page m_faultAt m_isWhole m_newMany m_newSigns m_newRow m_long0 m_row m_far m_ways m_queue m_queueEnd m_endMany m_endSoon m_won m_seedNow m_isKept m_keptBrook m_keptMoved m_keptRow m_keptFrog m_keptFrom m_keptTo m_h) 28 [] []) hf (fun hf => ?_) (fun j28 hj28 hf => ?_)
    · refine J_bipush (v := (-103)) hB dX8_more_28 rfl ?_
      refine J_goto (tgt := 38) hB dX8_more_30 rfl ?_
      obtain rfl := Option.some.inj hf
      exact J_iret hB hR dX8_more_38
    · refine J_if_eq (tgt := 28) hB dX8_more_16 rfl (fun c_4 => ?_) (fun c_4 => ?_)
      · have hf := it_t c_4 hf
        exact J_lv [] rfl (hj28 hf)
      · have hf := it_f c_4 hf
        refine J_aload_n hB dX8_more_19 rfl 0 rfl ?_
        refine J_get (v := .int m_stones) hB inX8 0 rfl rfl 0 (Nat.le_of_ble_eq_true rfl) kf_X8_93 rfl dX8_more_20 ?_
        refine J_bipush (v := 7) hB dX8_more_23 rfl ?_
        refine J_icmp_ne (tgt := 33) hB dX8_more_25 rfl (fun c_5 => ?_) (fun c_5 => ?_)
        · have hf := it_f c_5 hf
          refine J_aload_n hB dX8_more_33 rfl 0 rfl ?_
          refine J_iload_n hB dX8_more_34 rfl 1 rfl ?_
          obtain ⟨r_6, m_long0_7, m_row_8, m_far_9, m_ways_10, m_queue_11, m_queueEnd_12, h_13, hf⟩ := cl7_e hf
          refine J_callV (As := [.int p0]) (rest := []) (n := 1) (ws' := wM E a b m_stones m_any m_backward m_ring m_two m_brooks m_readRow m_rowNow m_frogOn m_frogs m_kindOf m_moved m_movedFrom m_movedTo m_pageLength m_page m_faultAt m_isWhole m_newMany m_newSigns m_newRow m_long0_7 m_row_8 m_far_9 m_ways_10 m_queue_11 m_queueEnd_12 m_endMany m_endSoon m_won m_seedNow m_isKept m_keptBrook m_keptMoved m_keptRow m_keptFrog m_keptFrom m_keptTo m_h) hB (c_X8_moreNow l E a b m_stones m_any m_backward m_ring m_two m_brooks m_readRow m_rowNow m_frogOn m_frogs m_kindOf m_moved m_movedFrom m_movedTo m_pageLength m_page m_faultAt m_isWhole m_newMany m_newSigns m_newRow m_long0 m_row m_far m_ways m_queue m_queueEnd m_endMany m_endSoon m_won m_seedNow m_isKept m_keptBrook m_keptMoved m_keptRow m_keptFrog m_keptFrom m_keptTo m_h h_13) mi_X8_moreNow ⟨ki_X8_moreNow, kv_X8_moreNow⟩ km_X8_221 ⟨rfl, rfl, Nat.le_of_ble_eq_true rfl, Nat.le_of_ble_eq_true rfl⟩ Lies.same 0 rfl rfl rfl rfl (Nat.le_of_ble_eq_true rfl) dX8_more_35 ?_
          show J l E rX8_more Y (wM E a b m_stones m_any m_backward m_ring m_two m_brooks m_readRow m_rowNow m_frogOn m_frogs m_kindOf m_moved m_movedFrom m_movedTo m_pageLength m_page m_faultAt m_isWhole m_newMany m_newSigns m_newRow m_long0_7 m_row_8 m_far_9 m_ways_10 m_queue_11 m_queueEnd_12 m_endMany m_endSoon m_won m_seedNow m_isKept m_keptBrook m_keptMoved m_keptRow m_keptFrog m_keptFrom m_keptTo m_h) 38 [(0, .ref (a b)), (1, .int p0)] [.int r_6]
          obtain rfl := Option.some.inj hf
          exact J_iret hB hR dX8_more_38
        · have hf := it_t c_5 hf
          exact J_lv [] rfl (hj28 hf)
  · have hf := it_t c_3 hf
    refine J_bipush (v := (-102)) hB dX8_more_9 rfl ?_
    obtain rfl := Option.some.inj hf
    exact J_iret hB hR dX8_more_11
def f_X8_offNow (m_stones : Int32) (m_any : Int32) (m_backward : Int32) (m_ring : Int32) (m_two : Int32) (m_readRow : Nat → Int32) (m_long0 : Int32) (m_row : Nat → Int32) (m_far : Nat → Int32) (m_ways : Nat → Int64) (m_queue : Nat → Int32) (m_queueEnd : Int32) (p0 : Int32) : Option (Int32 × Int32 × (Nat → Int32) × (Nat → Int32) × (Nat → Int64) × (Nat → Int32) × Int32) :=
lp10_8 (fun (x2_1 : Int32) (x3_2 : Int32) (x4_3 : Int32) (x5_4 : Int32) (m_long0_5 : Int32) (m_row_6 : Nat → Int32) (m_far_7 : Nat → Int32) (m_ways_8 : Nat → Int64) (m_queue_9 : Nat → Int32) (m_queueEnd_10 : Int32) nx11 ex11 =>
if m_stones ≤ x5_4 then (
ex11 x2_1 x3_2 m_long0_5 m_row_6 m_far_7 m_ways_8 m_queue_9 m_queueEnd_10) else (
ald 7 m_readRow x5_4 fun v_20 =>
jn9 (fun (x2_22 : Int32) (x3_23 : Int32) (x4_24 : Int32) (m_long0_25 : Int32) (m_row_26 : Nat → Int32) (m_far_27 : Nat → Int32) (m_ways_28 : Nat → Int64) (m_queue_29 : Nat → Int32) (m_queueEnd_30 : Int32) =>
nmv (α := Int32) (x5_4 + 1) fun x5_31 =>
nx11 x2_22 x3_23 x4_24 x5_31 m_long0_25 m_row_26 m_far_27 m_ways_28 m_queue_29 m_queueEnd_30) fun j87 =>
if v_20 ≤ 0 then (
j87 x2_1 x3_2 x4_3 m_long0_5 m_row_6 m_far_7 m_ways_8 m_queue_9 m_queueEnd_10) else (
cl2 (f_X8_layRead m_stones m_readRow m_long0_5 m_row_6) fun m_long0_33 m_row_34 =>
astI 7 m_row_34 x5_4 0 fun m_row_36 =>
cl6 (f_X8_turns m_any m_backward m_ring m_two m_long0_33 m_row_36 m_far_7 m_ways_8 m_queue_9 m_queueEnd_10) fun r_38 m_row_39 m_far_40 m_ways_41 m_queue_42 m_queueEnd_43 =>
jn1 (fun (s_45 : Int32) =>
jn1 (fun (s_46 : Int32) =>
nmv (α := Int32) (x4_3 + 1) fun x4_47 =>
j87 s_45 s_46 x4_47 m_long0_33 m_row_39 m_far_40 m_ways_41 m_queue_42 m_queueEnd_43) fun j83 =>
jn0 (
j83 x3_2) fun j82 =>
if r_38 < 0 then (
j82) else (
if x3_2 ≤ r_38 then (
j82) else (
j83 r_38))) fun j65 =>
jn0 (
j65 x2_1) fun j64 =>
if r_38 < 0 then (
j64) else (
if x3_2 ≤ r_38 then (
j64) else (
j65 x4_3))))) (fun (x2_11 : Int32) (x3_12 : Int32) (m_long0_13 : Int32) (m_row_14 : Nat → Int32) (m_far_15 : Nat → Int32) (m_ways_16 : Nat → Int64) (m_queue_17 : Nat → Int32) (m_queueEnd_18 : Int32) =>
jn0 (
some (x2_11, m_long0_13, m_row_14, m_far_15, m_ways_16, m_queue_17, m_queueEnd_18)) fun j102 =>
if x2_11 = ((-1)) then (
j102) else (
if p0 = 0 then (
j102) else (
some (x3_12, m_long0_13, m_row_14, m_far_15, m_ways_16, m_queue_17, m_queueEnd_18)))) fuel ((-1)) 78125 0 0 m_long0 m_row m_far m_ways m_queue m_queueEnd
abbrev rX8_offNow : Room := { frames := 7, cells := 0, slots := 0, locals := 161 }
set_option maxRecDepth 100000 in
set_option maxHeartbeats 4000000 in
theorem c_X8_offNow (l : Launch) (E : En) (a : Nat → Nat) (b : Nat) (m_stones : Int32) (m_any : Int32) (m_backward : Int32) (m_ring : Int32) (m_two : Int32) (m_brooks : Int32) (m_readRow : Nat → Int32) (m_rowNow : Nat → Int32) (m_frogOn : Nat → Int32) (m_frogs : Int32) (m_kindOf : Nat → Int32) (m_moved : Int32) (m_movedFrom : Nat → Int32) (m_movedTo : Nat → Int32) (m_pageLength : Int32) (m_page : Nat → Int32) (m_faultAt : Int32) (m_isWhole : Int32) (m_newMany : Int32) (m_newSigns : Int32) (m_newRow : Nat → Int32) (m_long0 : Int32) (m_row : Nat → Int32) (m_far : Nat → Int32) (m_ways : Nat → Int64) (m_queue : Nat → Int32) (m_queueEnd : Int32) (m_endMany : Int32) (m_endSoon : Int32) (m_won : Nat → Int32) (m_seedNow : Int64) (m_isKept : Int32) (m_keptBrook : Int32) (m_keptMoved : Int32) (m_keptRow : Nat → Int32) (m_keptFrog : Nat → Int32) (m_keptFrom : Nat → Int32) (m_keptTo : Nat → Int32) (m_h : Int64) {p0 : Int32} {res : Int32 × Int32 × (Nat → Int32) × (Nat → Int32) × (Nat → Int64) × (Nat → Int32) × Int32} (hf : f_X8_offNow m_stones m_any m_backward m_ring m_two m_readRow m_long0 m_row m_far m_ways m_queue m_queueEnd p0 = some res) : Ct l yX8_offNow (.code yX8_offNow cX8_offNow 7 (some .int)) rX8_offNow E [.ref (a b), .int p0] (wM E a b m_stones m_any m_backward m_ring m_two m_brooks m_readRow m_rowNow m_frogOn m_frogs m_kindOf m_moved m_movedFrom m_movedTo m_pageLength m_page m_faultAt m_isWhole m_newMany m_newSigns m_newRow m_long0 m_row m_far m_ways m_queue m_queueEnd m_endMany m_endSoon m_won m_seedNow m_isKept m_keptBrook m_keptMoved m_keptRow m_keptFrog m_keptFrom m_keptTo m_h) (some (.int res.1)) (wM E a b m_stones m_any m_backward m_ring m_two m_brooks m_readRow m_rowNow m_frogOn m_frogs m_kindOf m_moved m_movedFrom m_movedTo m_pageLength m_page m_faultAt m_isWhole m_newMany m_newSigns m_newRow res.2.1 res.2.2.1 res.2.2.2.1 res.2.2.2.2.1 res.2.2.2.2.2.1 res.2.2.2.2.2.2 m_endMany m_endSoon m_won m_seedNow m_isKept m_keptBrook m_keptMoved m_keptRow m_keptFrog m_keptFrom m_keptTo m_h) := by
  refine Ct.of (by decide) (Nat.le_of_ble_eq_true rfl) (fun Y hB hR => ?_)
  have hB : Cb E cX8_offNow RX8 rX8_offNow 7 Y := hB
  show J l E rX8_offNow Y (wM E a b m_stones m_any m_backward m_ring m_two m_brooks m_readRow m_rowNow m_frogOn m_frogs m_kindOf m_moved m_movedFrom m_movedTo m_pageLength m_page m_faultAt m_isWhole m_newMany m_newSigns m_newRow m_long0 m_row m_far m_ways m_queue m_queueEnd m_endMany m_endSoon m_won m_seedNow m_isKept m_keptBrook m_keptMoved m_keptRow m_keptFrog m_keptFrom m_keptTo m_h) 0 [(0, .ref (a b)), (1, .int p0)] []
  unfold f_X8_offNow at hf
  refine J_iconst (v := (-1)) hB dX8_offNow_0 rfl ?_
  refine J_istore_n (lv' := [(2, .int ((-1))), (0, .ref (a b)), (1, .int p0)]) hB rfl dX8_offNow_1 rfl (Nat.le_of_ble_eq_true rfl) rfl ?_
  refine J_ldc hB dX8_offNow_2 kk_X8_38 ?_
  refine J_istore_n (lv' := [(3, .int 78125), (2, .int ((-1))), (0, .ref (a b)), (1, .int p0)]) hB rfl dX8_offNow_4 rfl (Nat.le_of_ble_eq_true rfl) rfl ?_
  refine J_iconst (v := 0) hB dX8_offNow_5 rfl ?_
  refine J_istore (lv' := [(4, .int 0), (3, .int 78125), (2, .int ((-1))), (0, .ref (a b)), (1, .int p0)]) hB rfl dX8_offNow_6 (Nat.le_of_ble_eq_true rfl) rfl ?_
  refine J_iconst (v := 0) hB dX8_offNow_8 rfl ?_
  refine J_istore (lv' := [(5, .int 0), (4, .int 0), (3, .int 78125), (2, .int ((-1))), (0, .ref (a b)), (1, .int p0)]) hB rfl dX8_offNow_9 (Nat.le_of_ble_eq_true rfl) rfl ?_
  refine J_lv [4, 5, 3, 2, 1, 0] rfl ?_
  refine lp10_8_J (P := fun x2_1 x3_2 x4_3 x5_4 m_long0_5 m_row_6 m_far_7 m_ways_8 m_queue_9 m_queueEnd_10 => J l E rX8_offNow Y (wM E a b m_stones m_any m_backward m_ring m_two m_brooks m_readRow m_rowNow m_frogOn m_frogs m_kindOf m_moved m_movedFrom m_movedTo m_pageLength m_page m_faultAt m_isWhole m_newMany m_newSigns m_newRow m_long0_5 m_row_6 m_far_7 m_ways_8 m_queue_9 m_queueEnd_10 m_endMany m_endSoon m_won m_seedNow m_isKept m_keptBrook m_keptMoved m_keptRow m_keptFrog m_keptFrom m_keptTo m_h) 11 [(0, .ref (a b)), (1, .int p0), (2, .int x2_1), (3, .int x3_2), (4, .int x4_3), (5, .int x5_4)] []) (Q := fun x2_11 x3_12 m_long0_13 m_row_14 m_far_15 m_ways_16 m_queue_17 m_queueEnd_18 => J l E rX8_offNow Y (wM E a b m_stones m_any m_backward m_ring m_two m_brooks m_readRow m_rowNow m_frogOn m_frogs m_kindOf m_moved m_movedFrom m_movedTo m_pageLength m_page m_faultAt m_isWhole m_newMany m_newSigns m_newRow m_long0_13 m_row_14 m_far_15 m_ways_16 m_queue_17 m_queueEnd_18 m_endMany m_endSoon m_won m_seedNow m_isKept m_keptBrook m_keptMoved m_keptRow m_keptFrog m_keptFrom m_keptTo m_h) 93 [(1, .int p0), (2, .int x2_11), (3, .int x3_12)] []) (fun x2_1 x3_2 x4_3 x5_4 m_long0_5 m_row_6 m_far_7 m_ways_8 m_queue_9 m_queueEnd_10 nx11 ex11 hnx11 hex11 hf => ?_) (fun x2_11 x3_12 m_long0_13 m_row_14 m_far_15 m_ways_16 m_queue_17 m_queueEnd_18 hf => ?_) hf
  · refine J_iload hB dX8_offNow_11 5 rfl ?_
    refine J_aload_n hB dX8_offNow_13 rfl 0 rfl ?_
    refine J_get (v := .int m_stones) hB inX8 0 rfl rfl 0 (Nat.le_of_ble_eq_true rfl) kf_X8_93 rfl dX8_offNow_14 ?_
    refine J_icmp_ge (tgt := 93) hB dX8_offNow_17 rfl (fun c_19 => ?_) (fun c_19 => ?_)
    · have hf := it_t c_19 hf
      exact J_lv [1, 2, 3] rfl (hex11 x2_1 x3_2 m_long0_5 m_row_6 m_far_7 m_ways_8 m_queue_9 m_queueEnd_10 hf)
    · have hf := it_f c_19 hf
      refine J_aload_n hB dX8_offNow_20 rfl 0 rfl ?_
      refine J_get (v := .ref (a (b + 1))) hB inX8 0 rfl rfl 6 (Nat.le_of_ble_eq_true rfl) kf_X8_7 rfl dX8_offNow_21 ?_
      refine J_iload hB dX8_offNow_24 5 rfl ?_
      obtain ⟨v_20, ev_20, h_21, hf⟩ := ald_e hf
      refine J_iald hB 1 rfl ev_20 h_21 dX8_offNow_26 ?_
      refine jn9_e (P := fun x2_22 x3_23 x4_24 m_long0_25 m_row_26 m_far_27 m_ways_28 m_queue_29 m_queueEnd_30 => J l E rX8_offNow Y (wM E a b m_stones m_any m_backward m_ring m_two m_brooks m_readRow m_rowNow m_frogOn m_frogs m_kindOf m_moved m_movedFrom m_movedTo m_pageLength m_page m_faultAt m_isWhole m_newMany m_newSigns m_newRow m_long0_25 m_row_26 m_far_27 m_ways_28 m_queue_29 m_queueEnd_30 m_endMany m_endSoon m_won m_seedNow m_isKept m_keptBrook m_keptMoved m_keptRow m_keptFrog m_keptFrom m_keptTo m_h) 87 [(0, .ref (a b)), (1, .int p0), (2, .int x2_22), (3, .int x3_23), (4, .int x4_24), (5, .int x5_4)] []) hf (fun x2_22 x3_23 x4_24 m_long0_25 m_row_26 m_far_27 m_ways_28 m_queue_29 m_queueEnd_30 hf => ?_) (fun j87 hj87 hf => ?_)
      · obtain ⟨x5_31, ex5_31, hf⟩ := nmv_e hf
        refine J_iinc (lv' := [(5, .int x5_31), (0, .ref (a b)), (1, .int p0), (2, .int x2_22), (3, .int x3_23), (4, .int x4_24)]) hB ex5_31 dX8_offNow_87 5 rfl (Nat.le_of_ble_eq_true rfl) rfl ?_
        refine J_goto (tgt := 11) hB dX8_offNow_90 rfl ?_
        exact J_lv [1, 2, 3, 4, 5, 0] rfl (hnx11 x2_22 x3_23 x4_24 x5_31 m_long0_25 m_row_26 m_far_27 m_ways_28 m_queue_29 m_queueEnd_30 hf)
      · refine J_if_le (tgt := 87) hB dX8_offNow_27 rfl (fun c_32 => ?_) (fun c_32 => ?_)
        · have hf := it_t c_32 hf
          exact J_lv [0, 1, 2, 3, 4, 5] rfl (hj87 x2_1 x3_2 x4_3 m_long0_5 m_row_6 m_far_7 m_ways_8 m_queue_9 m_queueEnd_10 hf)
        · have hf := it_f c_32 hf
          refine J_aload_n hB dX8_offNow_30 rfl 0 rfl ?_
          obtain ⟨m_long0_33, m_row_34, h_35, hf⟩ := cl2_e hf
          refine J_callV (As := []) (rest := []) (n := 0) (ws' := wM E a b m_stones m_any m_backward m_ring m_two m_brooks m_readRow m_rowNow m_frogOn m_frogs m_kindOf m_moved m_movedFrom m_movedTo m_pageLength m_page m_faultAt m_isWhole m_newMany m_newSigns m_newRow m_long0_33 m_row_34 m_far_7 m_ways_8 m_queue_9 m_queueEnd_10 m_endMany m_endSoon m_won m_seedNow m_isKept m_keptBrook m_keptMoved m_keptRow m_keptFrog m_keptFrom m_keptTo m_h) hB (c_X8_layRead l E a b m_stones m_any m_backward m_ring m_two m_brooks m_readRow m_rowNow m_frogOn m_frogs m_kindOf m_moved m_movedFrom m_movedTo m_pageLength m_page m_faultAt m_isWhole m_newMany m_newSigns m_newRow m_long0_5 m_row_6 m_far_7 m_ways_8 m_queue_9 m_queueEnd_10 m_endMany m_endSoon m_won m_seedNow m_isKept m_keptBrook m_keptMoved m_keptRow m_keptFrog m_keptFrom m_keptTo m_h h_35) mi_X8_layRead ⟨ki_X8_layRead, kv_X8_layRead⟩ km_X8_185 ⟨rfl, rfl, Nat.le_of_ble_eq_true rfl, Nat.le_of_ble_eq_true rfl⟩ Lies.same 0 rfl rfl rfl rfl (Nat.le_of_ble_eq_true rfl) dX8_offNow_31 ?_
          show J l E rX8_offNow Y (wM E a b m_stones m_any m_backward m_ring m_two m_brooks m_readRow m_rowNow m_frogOn m_frogs m_kindOf m_moved m_movedFrom m_movedTo m_pageLength m_page m_faultAt m_isWhole m_newMany m_newSigns m_newRow m_long0_33 m_row_34 m_far_7 m_ways_8 m_queue_9 m_queueEnd_10 m_endMany m_endSoon m_won m_seedNow m_isKept m_keptBrook m_keptMoved m_keptRow m_keptFrog m_keptFrom m_keptTo m_h) 34 [(0, .ref (a b)), (1, .int p0), (2, .int x2_1), (3, .int x3_2), (4, .int x4_3), (5, .int x5_4)] []
          refine J_aload_n hB dX8_offNow_34 rfl 0 rfl ?_
          refine J_get (v := .ref (a (b + 9))) hB inX8 0 rfl rfl 22 (Nat.le_of_ble_eq_true rfl) kf_X8_35 rfl dX8_offNow_35 ?_
          refine J_iload hB dX8_offNow_38 5 rfl ?_
          refine J_iconst (v := 0) hB dX8_offNow_40 rfl ?_
          obtain ⟨m_row_36, em_row_36, h_37, hf⟩ := astI_e hf
          refine J_iast (ws' := wM E a b m_stones m_any m_backward m_ring m_two m_brooks m_readRow m_rowNow m_frogOn m_frogs m_kindOf m_moved m_movedFrom m_movedTo m_pageLength m_page m_faultAt m_isWhole m_newMany m_newSigns m_newRow m_long0_33 m_row_36 m_far_7 m_ways_8 m_queue_9 m_queueEnd_10 m_endMany m_endSoon m_won m_seedNow m_isKept m_keptBrook m_keptMoved m_keptRow m_keptFrog m_keptFrom m_keptTo m_h) hB 9 rfl em_row_36 h_37 dX8_offNow_41 rfl ?_
          refine J_aload_n hB dX8_offNow_42 rfl 0 rfl ?_
          obtain ⟨r_38, m_row_39, m_far_40, m_ways_41, m_queue_42, m_queueEnd_43, h_44, hf⟩ := cl6_e hf
          refine J_callV (As := []) (rest := []) (n := 0) (ws' := wM E a b m_stones m_any m_backward m_ring m_two m_brooks m_readRow m_rowNow m_frogOn m_frogs m_kindOf m_moved m_movedFrom m_movedTo m_pageLength m_page m_faultAt m_isWhole m_newMany m_newSigns m_newRow m_long0_33 m_row_39 m_far_40 m_ways_41 m_queue_42 m_queueEnd_43 m_endMany m_endSoon m_won m_seedNow m_isKept m_keptBrook m_keptMoved m_keptRow m_keptFrog m_keptFrom m_keptTo m_h) hB (c_X8_turns l E a b m_stones m_any m_backward m_ring m_two m_brooks m_readRow m_rowNow m_frogOn m_frogs m_kindOf m_moved m_movedFrom m_movedTo m_pageLength m_page m_faultAt m_isWhole m_newMany m_newSigns m_newRow m_long0_33 m_row_36 m_far_7 m_ways_8 m_queue_9 m_queueEnd_10 m_endMany m_endSoon m_won m_seedNow m_isKept m_keptBrook m_keptMoved m_keptRow m_keptFrog m_keptFrom m_keptTo m_h h_44) mi_X8_turns ⟨ki_X8_turns, kv_X8_turns⟩ km_X8_218 ⟨rfl, rfl, Nat.le_of_ble_eq_true rfl, Nat.le_of_ble_eq_true rfl⟩ Lies.same 0 rfl rfl rfl rfl (Nat.le_of_ble_eq_true rfl) dX8_offNow_43 ?_
          show J l E rX8_offNow Y (wM E a b m_stones m_any m_backward m_ring m_two m_brooks m_readRow m_rowNow m_frogOn m_frogs m_kindOf m_moved m_movedFrom m_movedTo m_pageLength m_page m_faultAt m_isWhole m_newMany m_newSigns m_newRow m_long0_33 m_row_39 m_far_40 m_ways_41 m_queue_42 m_queueEnd_43 m_endMany m_endSoon m_won m_seedNow m_isKept m_keptBrook m_keptMoved m_keptRow m_keptFrog m_keptFrom m_keptTo m_h) 46 [(0, .ref (a b)), (1, .int p0), (2, .int x2_1), (3, .int x3_2), (4, .int x4_3), (5, .int x5_4)] [.int r_38]
          refine J_istore (lv' := [(6, .int r_38), (0, .ref (a b)), (1, .int p0), (2, .int x2_1), (3, .int x3_2), (4, .int x4_3), (5, .int x5_4)]) hB rfl dX8_offNow_46 (Nat.le_of_ble_eq_true rfl) rfl ?_
          refine J_iload hB dX8_offNow_48 0 rfl ?_
          refine jn1_e (P := fun s_45 => J l E rX8_offNow Y (wM E a b m_stones m_any m_backward m_ring m_two m_brooks m_readRow m_rowNow m_frogOn m_frogs m_kindOf m_moved m_movedFrom m_movedTo m_pageLength m_page m_faultAt m_isWhole m_newMany m_newSigns m_newRow m_long0_33 m_row_39 m_far_40 m_ways_41 m_queue_42 m_queueEnd_43 m_endMany m_endSoon m_won m_seedNow m_isKept m_keptBrook m_keptMoved m_keptRow m_keptFrog m_keptFrom m_keptTo m_h) 65 [(0, .ref (a b)), (1, .int p0), (3, .int x3_2), (4, .int x4_3), (5, .int x5_4), (6, .int r_38)] [.int s_45]) hf (fun s_45 hf => ?_) (fun j65 hj65 hf => ?_)
          · refine J_istore_n (lv' := [(2, .int s_45), (0, .ref (a b)), (1, .int p0), (3, .int x3_2), (4, .int x4_3), (5, .int x5_4), (6, .int r_38)]) hB rfl dX8_offNow_65 rfl (Nat.le_of_ble_eq_true rfl) rfl ?_
            refine J_iload hB dX8_offNow_66 6 rfl ?_
            refine jn1_e (P := fun s_46 => J l E rX8_offNow Y (wM E a b m_stones m_any m_backward m_ring m_two m_brooks m_readRow m_rowNow m_frogOn m_frogs m_kindOf m_moved m_movedFrom m_movedTo m_pageLength m_page m_faultAt m_isWhole m_newMany m_newSigns m_newRow m_long0_33 m_row_39 m_far_40 m_ways_41 m_queue_42 m_queueEnd_43 m_endMany m_endSoon m_won m_seedNow m_isKept m_keptBrook m_keptMoved m_keptRow m_keptFrog m_keptFrom m_keptTo m_h) 83 [(0, .ref (a b)), (1, .int p0), (2, .int s_45), (4, .int x4_3), (5, .int x5_4)] [.int s_46]) hf (fun s_46 hf => ?_) (fun j83 hj83 hf => ?_)
            · refine J_istore_n (lv' := [(3, .int s_46), (0, .ref (a b)), (1, .int p0), (2, .int s_45), (4, .int x4_3), (5, .int x5_4)]) hB rfl dX8_offNow_83 rfl (Nat.le_of_ble_eq_true rfl) rfl ?_
              obtain ⟨x4_47, ex4_47, hf⟩ := nmv_e hf
              refine J_iinc (lv' := [(4, .int x4_47), (3, .int s_46), (0, .ref (a b)), (1, .int p0), (2, .int s_45), (5, .int x5_4)]) hB ex4_47 dX8_offNow_84 4 rfl (Nat.le_of_ble_eq_true rfl) rfl ?_
              exact J_lv [2, 3, 4, 1, 0, 5] rfl (hj87 s_45 s_46 x4_47 m_long0_33 m_row_39 m_far_40 m_ways_41 m_queue_42 m_queueEnd_43 hf)
            · refine jn0_e (P := J l E rX8_offNow Y (wM E a b m_stones m_any m_backward m_ring m_two m_brooks m_readRow m_rowNow m_frogOn m_frogs m_kindOf m_moved m_movedFrom m_movedTo m_pageLength m_page m_faultAt m_isWhole m_newMany m_newSigns m_newRow m_long0_33 m_row_39 m_far_40 m_ways_41 m_queue_42 m_queueEnd_43 m_endMany m_endSoon m_won m_seedNow m_isKept m_keptBrook m_keptMoved m_keptRow m_keptFrog m_keptFrom m_keptTo m_h) 82 [(0, .ref (a b)), (1, .int p0), (2, .int s_45), (3, .int x3_2), (4, .int x4_3), (5, .int x5_4)] []) hf (fun hf => ?_) (fun j82 hj82 hf => ?_)
              · refine J_iload_n hB dX8_offNow_82 rfl 3 rfl ?_
                exact J_lv [0, 1, 2, 4, 5] rfl (hj83 x3_2 hf)
              · refine J_if_lt (tgt := 82) hB dX8_offNow_68 rfl (fun c_48 => ?_) (fun c_48 => ?_)
                · have hf := it_t c_48 hf
                  exact J_lv [1, 2, 0, 3, 4, 5] rfl (hj82 hf)
                · have hf := it_f c_48 hf
                  refine J_iload hB dX8_offNow_71 6 rfl ?_
                  refine J_iload_n hB dX8_offNow_73 rfl 3 rfl ?_
                  refine J_icmp_ge (tgt := 82) hB dX8_offNow_74 rfl (fun c_49 => ?_) (fun c_49 => ?_)
                  · have hf := it_t c_49 hf
                    exact J_lv [1, 2, 0, 3, 4, 5] rfl (hj82 hf)
                  · have hf := it_f c_49 hf
                    refine J_iload hB dX8_offNow_77 6 rfl ?_
                    refine J_goto (tgt := 83) hB dX8_offNow_79 rfl ?_
                    exact J_lv [1, 2, 0, 4, 5] rfl (hj83 r_38 hf)
          · refine jn0_e (P := J l E rX8_offNow Y (wM E a b m_stones m_any m_backward m_ring m_two m_brooks m_readRow m_rowNow m_frogOn m_frogs m_kindOf m_moved m_movedFrom m_movedTo m_pageLength m_page m_faultAt m_isWhole m_newMany m_newSigns m_newRow m_long0_33 m_row_39 m_far_40 m_ways_41 m_queue_42 m_queueEnd_43 m_endMany m_endSoon m_won m_seedNow m_isKept m_keptBrook m_keptMoved m_keptRow m_keptFrog m_keptFrom m_keptTo m_h) 64 [(0, .ref (a b)), (1, .int p0), (2, .int x2_1), (3, .int x3_2), (4, .int x4_3), (5, .int x5_4), (6, .int r_38)] []) hf (fun hf => ?_) (fun j64 hj64 hf => ?_)
            · refine J_iload_n hB dX8_offNow_64 rfl 2 rfl ?_
              exact J_lv [0, 1, 3, 4, 5, 6] rfl (hj65 x2_1 hf)
            · refine J_if_lt (tgt := 64) hB dX8_offNow_50 rfl (fun c_50 => ?_) (fun c_50 => ?_)
              · have hf := it_t c_50 hf
                exact J_lv [1, 2, 3, 4, 5, 6, 0] rfl (hj64 hf)
              · have hf := it_f c_50 hf
                refine J_iload hB dX8_offNow_53 0 rfl ?_
                refine J_iload_n hB dX8_offNow_55 rfl 4 rfl ?_
                refine J_icmp_ge (tgt := 64) hB dX8_offNow_56 rfl (fun c_51 => ?_) (fun c_51 => ?_)
                · have hf := it_t c_51 hf
                  exact J_lv [1, 2, 3, 4, 5, 6, 0] rfl (hj64 hf)
                · have hf := it_f c_51 hf
                  refine J_iload hB dX8_offNow_59 5 rfl ?_
                  refine J_goto (tgt := 65) hB dX8_offNow_61 rfl ?_
                  exact J_lv [1, 2, 4, 5, 6, 0] rfl (hj65 x4_3 hf)
  · refine J_iload_n hB dX8_offNow_93 rfl 1 rfl ?_
    refine J_iconst (v := (-1)) hB dX8_offNow_94 rfl ?_
    refine jn0_e (P := J l E rX8_offNow Y (wM E a b m_stones m_any m_backward m_ring m_two m_brooks m_readRow m_rowNow m_frogOn m_frogs m_kindOf m_moved m_movedFrom m_movedTo m_pageLength m_page m_faultAt m_isWhole m_newMany m_newSigns m_newRow m_long0_13 m_row_14 m_far_15 m_ways_16 m_queue_17 m_queueEnd_18 m_endMany m_endSoon m_won m_seedNow m_isKept m_keptBrook m_keptMoved m_keptRow m_keptFrog m_keptFrom m_keptTo m_h) 102 [(2, .int x2_11)] []) hf (fun hf => ?_) (fun j102 hj102 hf => ?_)
    · refine J_iload_n hB dX8_offNow_102 rfl 0 rfl ?_
      refine J_goto (tgt := 107) hB dX8_offNow_103 rfl ?_
      obtain rfl := Option.some.inj hf
      exact J_iret hB hR dX8_offNow_107
    · refine J_icmp_eq (tgt := 102) hB dX8_offNow_95 rfl (fun c_52 => ?_) (fun c_52 => ?_)
      · have hf := it_t c_52 hf
        exact J_lv [1] rfl (hj102 hf)
      · have hf := it_f c_52 hf
        refine J_iload_n hB dX8_offNow_98 rfl 0 rfl ?_
        refine J_if_ne (tgt := 106) hB dX8_offNow_99 rfl (fun c_53 => ?_) (fun c_53 => ?_)
        · have hf := it_f c_53 hf
          refine J_iload_n hB dX8_offNow_106 rfl 2 rfl ?_
          obtain rfl := Option.some.inj hf
          exact J_iret hB hR dX8_offNow_107
        · have hf := it_t c_53 hf
          exact J_lv [1] rfl (hj102 hf)
def f_X8_off (m_stones : Int32) (m_any : Int32) (m_backward : Int32) (m_ring : Int32) (m_two : Int32) (m_readRow : Nat → Int32) (m_long0 : Int32) (m_row : Nat → Int32) (m_far : Nat → Int32) (m_ways : Nat → Int64) (m_queue : Nat → Int32) (m_queueEnd : Int32) (p0 : Int32) : Option (Int32 × Int32 × (Nat → Int32) × (Nat → Int32) × (Nat → Int64) × (Nat → Int32) × Int32) :=
cl1 (f_X8_within p0 0 1) fun r_1 =>
if r_1 = 0 then (
some ((-102), m_long0, m_row, m_far, m_ways, m_queue, m_queueEnd)) else (
if m_stones = 0 then (
some ((-103), m_long0, m_row, m_far, m_ways, m_queue, m_queueEnd)) else (
cl7 (f_X8_offNow m_stones m_any m_backward m_ring m_two m_readRow m_long0 m_row m_far m_ways m_queue m_queueEnd p0) fun r_5 m_long0_6 m_row_7 m_far_8 m_ways_9 m_queue_10 m_queueEnd_11 =>
some (r_5, m_long0_6, m_row_7, m_far_8, m_ways_9, m_queue_10, m_queueEnd_11)))
abbrev rX8_off : Room := { frames := 8, cells := 0, slots := 0, locals := 187 }
set_option maxRecDepth 100000 in
set_option maxHeartbeats 4000000 in
theorem c_X8_off (l : Launch) (E : En) (a : Nat → Nat) (b : Nat) (m_stones : Int32) (m_any : Int32) (m_backward : Int32) (m_ring : Int32) (m_two : Int32) (m_brooks : Int32) (m_readRow : Nat → Int32) (m_rowNow : Nat → Int32) (m_frogOn : Nat → Int32) (m_frogs : Int32) (m_kindOf : Nat → Int32) (m_moved : Int32) (m_movedFrom : Nat → Int32) (m_movedTo : Nat → Int32) (m_pageLength : Int32) (m_page : Nat → Int32) (m_faultAt : Int32) (m_isWhole : Int32) (m_newMany : Int32) (m_newSigns : Int32) (m_newRow : Nat → Int32) (m_long0 : Int32) (m_row : Nat → Int32) (m_far : Nat → Int32) (m_ways : Nat → Int64) (m_queue : Nat → Int32) (m_queueEnd : Int32) (m_endMany : Int32) (m_endSoon : Int32) (m_won : Nat → Int32) (m_seedNow : Int64) (m_isKept : Int32) (m_keptBrook : Int32) (m_keptMoved : Int32) (m_keptRow : Nat → Int32) (m_keptFrog : Nat → Int32) (m_keptFrom : Nat → Int32) (m_keptTo : Nat → Int32) (m_h : Int64) {p0 : Int32} {res : Int32 × Int32 × (Nat → Int32) × (Nat → Int32) × (Nat → Int64) × (Nat → Int32) × Int32} (hf : f_X8_off m_stones m_any m_backward m_ring m_two m_readRow m_long0 m_row m_far m_ways m_queue m_queueEnd p0 = some res) : Ct l yX8_off (.code yX8_off cX8_off 2 (some .int)) rX8_off E [.ref (a b), .int p0] (wM E a b m_stones m_any m_backward m_ring m_two m_brooks m_readRow m_rowNow m_frogOn m_frogs m_kindOf m_moved m_movedFrom m_movedTo m_pageLength m_page m_faultAt m_isWhole m_newMany m_newSigns m_newRow m_long0 m_row m_far m_ways m_queue m_queueEnd m_endMany m_endSoon m_won m_seedNow m_isKept m_keptBrook m_keptMoved m_keptRow m_keptFrog m_keptFrom m_keptTo m_h) (some (.int res.1)) (wM E a b m_stones m_any m_backward m_ring m_two m_brooks m_readRow m_rowNow m_frogOn m_frogs m_kindOf m_moved m_movedFrom m_movedTo m_pageLength m_page m_faultAt m_isWhole m_newMany m_newSigns m_newRow res.2.1 res.2.2.1 res.2.2.2.1 res.2.2.2.2.1 res.2.2.2.2.2.1 res.2.2.2.2.2.2 m_endMany m_endSoon m_won m_seedNow m_isKept m_keptBrook m_keptMoved m_keptRow m_keptFrog m_keptFrom m_keptTo m_h) := by
  refine Ct.of (by decide) (Nat.le_of_ble_eq_true rfl) (fun Y hB hR => ?_)
  have hB : Cb E cX8_off RX8 rX8_off 2 Y := hB
  show J l E rX8_off Y (wM E a b m_stones m_any m_backward m_ring m_two m_brooks m_readRow m_rowNow m_frogOn m_frogs m_kindOf m_moved m_movedFrom m_movedTo m_pageLength m_page m_faultAt m_isWhole m_newMany m_newSigns m_newRow m_long0 m_row m_far m_ways m_queue m_queueEnd m_endMany m_endSoon m_won m_seedNow m_isKept m_keptBrook m_keptMoved m_keptRow m_keptFrog m_keptFrom m_keptTo m_h) 0 [(0, .ref (a b)), (1, .int p0)] []
  unfold f_X8_off at hf
  refine J_iload_n hB dX8_off_0 rfl 1 rfl ?_
  refine J_iconst (v := 0) hB dX8_off_1 rfl ?_
  refine J_iconst (v := 1) hB dX8_off_2 rfl ?_
  obtain ⟨r_1, h_2, hf⟩ := cl1_e hf
  refine J_callS (As := [.int p0, .int 0, .int 1]) (rest := []) (n := 3) (ws' := wM E a b m_stones m_any m_backward m_ring m_two m_brooks m_readRow m_rowNow m_frogOn m_frogs m_kindOf m_moved m_movedFrom m_movedTo m_pageLength m_page m_faultAt m_isWhole m_newMany m_newSigns m_newRow m_long0 m_row m_far m_ways m_queue m_queueEnd m_endMany m_endSoon m_won m_seedNow m_isKept m_keptBrook m_keptMoved m_keptRow m_keptFrog m_keptFrom m_keptTo m_h) hB (c_X8_within l E a h_2) mi_X8_within ks_X8_within km_X8_117 ⟨rfl, rfl, Nat.le_of_ble_eq_true rfl, Nat.le_of_ble_eq_true rfl⟩ Lies.none rfl rfl (Nat.le_of_ble_eq_true rfl) dX8_off_3 ?_
  show J l E rX8_off Y (wM E a b m_stones m_any m_backward m_ring m_two m_brooks m_readRow m_rowNow m_frogOn m_frogs m_kindOf m_moved m_movedFrom m_movedTo m_pageLength m_page m_faultAt m_isWhole m_newMany m_newSigns m_newRow m_long0 m_row m_far m_ways m_queue m_queueEnd m_endMany m_endSoon m_won m_seedNow m_isKept m_keptBrook m_keptMoved m_keptRow m_keptFrog m_keptFrom m_keptTo m_h) 6 [(0, .ref (a b)), (1, .int p0)] [.int r_1]
  refine J_if_ne (tgt := 12) hB dX8_off_6 rfl (fun c_3 => ?_) (fun c_3 => ?_)
  · have hf := it_f c_3 hf
    refine J_aload_n hB dX8_off_12 rfl 0 rfl ?_
    refine J_get (v := .int m_stones) hB inX8 0 rfl rfl 0 (Nat.le_of_ble_eq_true rfl) kf_X8_93 rfl dX8_off_13 ?_
    refine J_if_ne (tgt := 24) hB dX8_off_16 rfl (fun c_4 => ?_) (fun c_4 => ?_)
    · have hf := it_f c_4 hf
      refine J_aload_n hB dX8_off_24 rfl 0 rfl ?_
      refine J_iload_n hB dX8_off_25 rfl 1 rfl ?_
      obtain ⟨r_5, m_long0_6, m_row_7, m_far_8, m_ways_9, m_queue_10, m_queueEnd_11, h_12, hf⟩ := cl7_e hf
      refine J_callV (As := [.int p0]) (rest := []) (n := 1) (ws' := wM E a b m_stones m_any m_backward m_ring m_two m_brooks m_readRow m_rowNow m_frogOn m_frogs m_kindOf m_moved m_movedFrom m_movedTo m_pageLength m_page m_faultAt m_isWhole m_newMany m_newSigns m_newRow m_long0_6 m_row_7 m_far_8 m_ways_9 m_queue_10 m_queueEnd_11 m_endMany m_endSoon m_won m_seedNow m_isKept m_keptBrook m_keptMoved m_keptRow m_keptFrog m_keptFrom m_keptTo m_h) hB (c_X8_offNow l E a b m_stones m_any m_backward m_ring m_two m_brooks m_readRow m_rowNow m_frogOn m_frogs m_kindOf m_moved m_movedFrom m_movedTo m_pageLength m_page m_faultAt m_isWhole m_newMany m_newSigns m_newRow m_long0 m_row m_far m_ways m_queue m_queueEnd m_endMany m_endSoon m_won m_seedNow m_isKept m_keptBrook m_keptMoved m_keptRow m_keptFrog m_keptFrom m_keptTo m_h h_12) mi_X8_offNow ⟨ki_X8_offNow, kv_X8_offNow⟩ km_X8_224 ⟨rfl, rfl, Nat.le_of_ble_eq_true rfl, Nat.le_of_ble_eq_true rfl⟩ Lies.same 0 rfl rfl rfl rfl (Nat.le_of_ble_eq_true rfl) dX8_off_26 ?_
      show J l E rX8_off Y (wM E a b m_stones m_any m_backward m_ring m_two m_brooks m_readRow m_rowNow m_frogOn m_frogs m_kindOf m_moved m_movedFrom m_movedTo m_pageLength m_page m_faultAt m_isWhole m_newMany m_newSigns m_newRow m_long0_6 m_row_7 m_far_8 m_ways_9 m_queue_10 m_queueEnd_11 m_endMany m_endSoon m_won m_seedNow m_isKept m_keptBrook m_keptMoved m_keptRow m_keptFrog m_keptFrom m_keptTo m_h) 29 [(0, .ref (a b)), (1, .int p0)] [.int r_5]
      obtain rfl := Option.some.inj hf
      exact J_iret hB hR dX8_off_29
    · have hf := it_t c_4 hf
      refine J_bipush (v := (-103)) hB dX8_off_19 rfl ?_
      refine J_goto (tgt := 29) hB dX8_off_21 rfl ?_
      obtain rfl := Option.some.inj hf
      exact J_iret hB hR dX8_off_29
  · have hf := it_t c_3 hf
    refine J_bipush (v := (-102)) hB dX8_off_9 rfl ?_
    obtain rfl := Option.some.inj hf
    exact J_iret hB hR dX8_off_11
