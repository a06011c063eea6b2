def f_X7_wins (rules_stones : Int32) (rules_any : Int32) (rules_back : Int32) (rules_ring : Int32) (rules_two : Int32) (now_row : Int32) (game_table_slots : Nat → Int32) (game_table_rows : Nat → Int32) (game_table_size : Int32) (game_known : Nat → Int32) (p0 : Int32) : Option (Int32 × (Nat → Int32) × (Nat → Int32) × Int32 × (Nat → Int32)) :=
if p0 < 0 then (
some ((-102), game_table_slots, game_table_rows, game_table_size, game_known)) else (
if p0 ≤ 1 then (
cl1 (f_X7_hasGame rules_stones rules_back rules_ring) fun r_3 =>
if r_3 = 0 then (
some ((-103), game_table_slots, game_table_rows, game_table_size, game_known)) else (
cl5 (f_X0_hasIt gfuel rules_stones rules_any rules_back rules_ring rules_two game_table_slots game_table_rows game_table_size game_known now_row p0 0) fun r_6 game_table_slots_7 game_table_rows_8 game_table_size_9 game_known_10 =>
if r_6 = 0 then (
some (0, game_table_slots_7, game_table_rows_8, game_table_size_9, game_known_10)) else (
some (1, game_table_slots_7, game_table_rows_8, game_table_size_9, game_known_10)))) else (
some ((-102), game_table_slots, game_table_rows, game_table_size, game_known)))
abbrev rX7_wins : Room := { frames := 205, cells := 0, slots := 0, locals := 5829 }
set_option maxRecDepth 100000 in
set_option maxHeartbeats 4000000 in
theorem c_X7_wins (l : Launch) (E : En) (a : Nat → Nat) (b : Nat) (page_codes : Nat → Int32) (page_size : Int32) (rules_stones : Int32) (rules_signs : Int32) (rules_any : Int32) (rules_back : Int32) (rules_ring : Int32) (rules_two : Int32) (otherRules_stones : Int32) (otherRules_signs : Int32) (otherRules_any : Int32) (otherRules_back : Int32) (otherRules_ring : Int32) (otherRules_two : Int32) (now_made : Nat → Int32) (now_movers : Nat → Int32) (now_row : Int32) (now_numbers : Int32) (now_size : Int32) (kept_made : Nat → Int32) (kept_movers : Nat → Int32) (kept_row : Int32) (kept_numbers : Int32) (kept_size : Int32) (toGoal_table_slots : Nat → Int32) (toGoal_table_rows : Nat → Int32) (toGoal_table_size : Int32) (toGoal_depths : Nat → Int32) (toGoal_ways : Nat → Int32) (toGoal_stuckRows : Int32) (toGoal_soonestStuck : Int32) (afresh_table_slots : Nat → Int32) (afresh_table_rows : Nat → Int32) (afresh_table_size : Int32) (afresh_depths : Nat → Int32) (afresh_ways : Nat → Int32) (afresh_stuckRows : Int32) (afresh_soonestStuck : Int32) (game_table_slots : Nat → Int32) (game_table_rows : Nat → Int32) (game_table_size : Int32) (game_known : Nat → Int32) (readRow : Int32) (goalRow : Int32) (frogs : Int32) (timesRead : Int32) (hasImage : Int32) {p0 : Int32} {res : Int32 × (Nat → Int32) × (Nat → Int32) × Int32 × (Nat → Int32)} (hf : f_X7_wins rules_stones rules_any rules_back rules_ring rules_two now_row game_table_slots game_table_rows game_table_size game_known p0 = some res) : Ct l yX7_wins (.code yX7_wins cX7_wins 2 (some .int)) rX7_wins E [.ref (a b), .int p0] (wX E a b page_codes page_size rules_stones rules_signs rules_any rules_back rules_ring rules_two otherRules_stones otherRules_signs otherRules_any otherRules_back otherRules_ring otherRules_two now_made now_movers now_row now_numbers now_size kept_made kept_movers kept_row kept_numbers kept_size toGoal_table_slots toGoal_table_rows toGoal_table_size toGoal_depths toGoal_ways toGoal_stuckRows toGoal_soonestStuck afresh_table_slots afresh_table_rows afresh_table_size afresh_depths afresh_ways afresh_stuckRows afresh_soonestStuck game_table_slots game_table_rows game_table_size game_known readRow goalRow frogs timesRead hasImage) (some (.int res.1)) (wX E a b page_codes page_size rules_stones rules_signs rules_any rules_back rules_ring rules_two otherRules_stones otherRules_signs otherRules_any otherRules_back otherRules_ring otherRules_two now_made now_movers now_row now_numbers now_size kept_made kept_movers kept_row kept_numbers kept_size toGoal_table_slots toGoal_table_rows toGoal_table_size toGoal_depths toGoal_ways toGoal_stuckRows toGoal_soonestStuck afresh_table_slots afresh_table_rows afresh_table_size afresh_depths afresh_ways afresh_stuckRows afresh_soonestStuck res.2.1 res.2.2.1 res.2.2.2.1 res.2.2.2.2 readRow goalRow frogs timesRead hasImage) := by
  refine Ct.of (by decide) (Nat.le_of_ble_eq_true rfl) (fun Y hB hR => ?_)
  have hB : Cb E cX7_wins RX7 rX7_wins 2 Y := hB
  show J l E rX7_wins Y (wX E a b page_codes page_size rules_stones rules_signs rules_any rules_back rules_ring rules_two otherRules_stones otherRules_signs otherRules_any otherRules_back otherRules_ring otherRules_two now_made now_movers now_row now_numbers now_size kept_made kept_movers kept_row kept_numbers kept_size toGoal_table_slots toGoal_table_rows toGoal_table_size toGoal_depths toGoal_ways toGoal_stuckRows toGoal_soonestStuck afresh_table_slots afresh_table_rows afresh_table_size afresh_depths afresh_ways afresh_stuckRows afresh_soonestStuck game_table_slots game_table_rows game_table_size game_known readRow goalRow frogs timesRead hasImage) 0 [(0, .ref (a b)), (1, .int p0)] []
  unfold f_X7_wins at hf
  refine J_iload_n hB dX7_wins_0 rfl 1 rfl ?_
  refine J_if_lt (tgt := 9) hB dX7_wins_1 rfl (fun c_1 => ?_) (fun c_1 => ?_)
  · have hf := it_t c_1 hf
    refine J_bipush (v := (-102)) hB dX7_wins_9 rfl ?_
    obtain rfl := Option.some.inj hf
    exact J_iret hB hR dX7_wins_11
  · have hf := it_f c_1 hf
    refine J_iload_n hB dX7_wins_4 rfl 1 rfl ?_
    refine J_iconst (v := 1) hB dX7_wins_5 rfl ?_
    refine J_icmp_le (tgt := 12) hB dX7_wins_6 rfl (fun c_2 => ?_) (fun c_2 => ?_)
    · have hf := it_t c_2 hf
      refine J_aload_n hB dX7_wins_12 rfl 0 rfl ?_
      obtain ⟨r_3, h_4, hf⟩ := cl1_e hf
      refine J_callV (As := []) (rest := []) (n := 0) (ws' := wX E a b page_codes page_size rules_stones rules_signs rules_any rules_back rules_ring rules_two otherRules_stones otherRules_signs otherRules_any otherRules_back otherRules_ring otherRules_two now_made now_movers now_row now_numbers now_size kept_made kept_movers kept_row kept_numbers kept_size toGoal_table_slots toGoal_table_rows toGoal_table_size toGoal_depths toGoal_ways toGoal_stuckRows toGoal_soonestStuck afresh_table_slots afresh_table_rows afresh_table_size afresh_depths afresh_ways afresh_stuckRows afresh_soonestStuck game_table_slots game_table_rows game_table_size game_known readRow goalRow frogs timesRead hasImage) hB (c_X7_hasGame l E a b page_codes page_size rules_stones rules_signs rules_any rules_back rules_ring rules_two otherRules_stones otherRules_signs otherRules_any otherRules_back otherRules_ring otherRules_two now_made now_movers now_row now_numbers now_size kept_made kept_movers kept_row kept_numbers kept_size toGoal_table_slots toGoal_table_rows toGoal_table_size toGoal_depths toGoal_ways toGoal_stuckRows toGoal_soonestStuck afresh_table_slots afresh_table_rows afresh_table_size afresh_depths afresh_ways afresh_stuckRows afresh_soonestStuck game_table_slots game_table_rows game_table_size game_known readRow goalRow frogs timesRead hasImage h_4) mi_X7_hasGame ⟨ki_X7_hasGame, kv_X7_hasGame⟩ km_X7_215 ⟨rfl, rfl, Nat.le_of_ble_eq_true rfl, Nat.le_of_ble_eq_true rfl⟩ Lies.same 0 rfl rfl rfl rfl (Nat.le_of_ble_eq_true rfl) dX7_wins_13 ?_
      show J l E rX7_wins Y (wX E a b page_codes page_size rules_stones rules_signs rules_any rules_back rules_ring rules_two otherRules_stones otherRules_signs otherRules_any otherRules_back otherRules_ring otherRules_two now_made now_movers now_row now_numbers now_size kept_made kept_movers kept_row kept_numbers kept_size toGoal_table_slots toGoal_table_rows toGoal_table_size toGoal_depths toGoal_ways toGoal_stuckRows toGoal_soonestStuck afresh_table_slots afresh_table_rows afresh_table_size afresh_depths afresh_ways afresh_stuckRows afresh_soonestStuck game_table_slots game_table_rows game_table_size game_known readRow goalRow frogs timesRead hasImage) 16 [(0, .ref (a b)), (1, .int p0)] [.int r_3]
      refine J_if_ne (tgt := 22) hB dX7_wins_16 rfl (fun c_5 => ?_) (fun c_5 => ?_)
      · have hf := it_f c_5 hf
        refine J_aload_n hB dX7_wins_22 rfl 0 rfl ?_
        refine J_get (v := .ref (a (b + 23))) hB inX7 0 rfl rfl 7 (Nat.le_of_ble_eq_true rfl) kf_X7_49 rfl dX7_wins_23 ?_
        refine J_aload_n hB dX7_wins_26 rfl 0 rfl ?_
        refine J_get (v := .ref (a (b + 3))) hB inX7 0 rfl rfl 1 (Nat.le_of_ble_eq_true rfl) kf_X7_19 rfl dX7_wins_27 ?_
        refine J_aload_n hB dX7_wins_30 rfl 0 rfl ?_
        refine J_get (v := .ref (a (b + 5))) hB inX7 0 rfl rfl 3 (Nat.le_of_ble_eq_true rfl) kf_X7_29 rfl dX7_wins_31 ?_
        refine J_getN (v := .int now_row) hB inX2 5 rfl rfl 2 (Nat.le_of_ble_eq_true rfl) kfN_X7_132 rfl dX7_wins_34 ?_
        refine J_iload_n hB dX7_wins_37 rfl 1 rfl ?_
        refine J_iconst (v := 0) hB dX7_wins_38 rfl ?_
        obtain ⟨r_6, game_table_slots_7, game_table_rows_8, game_table_size_9, game_known_10, h_11, hf⟩ := cl5_e hf
        refine J_callVN (As := [.ref (a (b + 3)), .int now_row, .int p0, .int 0]) (rest := []) (n := 4) (ws' := wX E a b page_codes page_size rules_stones rules_signs rules_any rules_back rules_ring rules_two otherRules_stones otherRules_signs otherRules_any otherRules_back otherRules_ring otherRules_two now_made now_movers now_row now_numbers now_size kept_made kept_movers kept_row kept_numbers kept_size toGoal_table_slots toGoal_table_rows toGoal_table_size toGoal_depths toGoal_ways toGoal_stuckRows toGoal_soonestStuck afresh_table_slots afresh_table_rows afresh_table_size afresh_depths afresh_ways afresh_stuckRows afresh_soonestStuck game_table_slots_7 game_table_rows_8 game_table_size_9 game_known_10 readRow goalRow frogs timesRead hasImage) hB (c_X0_hasIt l E a gfuel (b + 3) (b + 23) rules_stones rules_signs rules_any rules_back rules_ring rules_two game_table_slots game_table_rows game_table_size game_known h_11) mi_X0_hasIt ⟨ki_X0_hasIt, kv_X0_hasIt⟩ kmN_X7_218 ⟨rfl, rfl, Nat.le_of_ble_eq_true rfl, Nat.le_of_ble_eq_true rfl⟩ (Lz.lies (Lz.skip (Lz.skip (Lz.pair (len_wRules.trans len_wRules.symm) (fst_wRules.trans fst_wRules.symm) (Lz.skip (Lz.skip (Lz.skip (Lz.skip (Lz.skip (Lz.here (len_wGame.trans len_wGame.symm) (fst_wGame.trans fst_wGame.symm))))))))))) 23 rfl rfl rfl rfl (Nat.le_of_ble_eq_true rfl) dX7_wins_39 ?_
        show J l E rX7_wins Y (wX E a b page_codes page_size rules_stones rules_signs rules_any rules_back rules_ring rules_two otherRules_stones otherRules_signs otherRules_any otherRules_back otherRules_ring otherRules_two now_made now_movers now_row now_numbers now_size kept_made kept_movers kept_row kept_numbers kept_size toGoal_table_slots toGoal_table_rows toGoal_table_size toGoal_depths toGoal_ways toGoal_stuckRows toGoal_soonestStuck afresh_table_slots afresh_table_rows afresh_table_size afresh_depths afresh_ways afresh_stuckRows afresh_soonestStuck game_table_slots_7 game_table_rows_8 game_table_size_9 game_known_10 readRow goalRow frogs timesRead hasImage) 42 [(0, .ref (a b)), (1, .int p0)] [.int r_6]
        refine J_if_eq (tgt := 49) hB dX7_wins_42 rfl (fun c_12 => ?_) (fun c_12 => ?_)
        · have hf := it_t c_12 hf
          refine J_iconst (v := 0) hB dX7_wins_49 rfl ?_
          obtain rfl := Option.some.inj hf
          exact J_iret hB hR dX7_wins_50
        · have hf := it_f c_12 hf
          refine J_iconst (v := 1) hB dX7_wins_45 rfl ?_
          refine J_goto (tgt := 50) hB dX7_wins_46 rfl ?_
          obtain rfl := Option.some.inj hf
          exact J_iret hB hR dX7_wins_50
      · have hf := it_t c_5 hf
        refine J_bipush (v := (-103)) hB dX7_wins_19 rfl ?_
        obtain rfl := Option.some.inj hf
        exact J_iret hB hR dX7_wins_21
    · have hf := it_f c_2 hf
      refine J_bipush (v := (-102)) hB dX7_wins_9 rfl ?_
      obtain rfl := Option.some.inj hf
      exact J_iret hB hR dX7_wins_11
def f_X7_by (rules_stones : Int32) (rules_any : Int32) (rules_back : Int32) (rules_ring : Int32) (rules_two : Int32) (now_row : Int32) (game_table_slots : Nat → Int32) (game_table_rows : Nat → Int32) (game_table_size : Int32) (game_known : Nat → Int32) (p0 : Int32) (p1 : Int32) : Option (Int32 × (Nat → Int32) × (Nat → Int32) × Int32 × (Nat → Int32)) :=
if p0 < 0 then (
some ((-102), game_table_slots, game_table_rows, game_table_size, game_known)) else (
if 1 < p0 then (
some ((-102), game_table_slots, game_table_rows, game_table_size, game_known)) else (
if p1 < 0 then (
some ((-102), game_table_slots, game_table_rows, game_table_size, game_known)) else (
if p1 ≤ 1 then (
cl1 (f_X7_hasGame rules_stones rules_back rules_ring) fun r_5 =>
if r_5 = 0 then (
some ((-103), game_table_slots, game_table_rows, game_table_size, game_known)) else (
cl5 (f_X0_winningMove (f_X0_hasIt gfuel) rules_stones rules_any rules_back rules_ring rules_two game_table_slots game_table_rows game_table_size game_known now_row p0 0) fun r_8 game_table_slots_9 game_table_rows_10 game_table_size_11 game_known_12 =>
cl1 (f_X7_partOfMove r_8 p1) fun r_14 =>
some (r_14, game_table_slots_9, game_table_rows_10, game_table_size_11, game_known_12))) else (
some ((-102), game_table_slots, game_table_rows, game_table_size, game_known)))))
abbrev rX7_by : Room := { frames := 206, cells := 0, slots := 0, locals := 5859 }
set_option maxRecDepth 100000 in
set_option maxHeartbeats 4000000 in
theorem c_X7_by (l : Launch) (E : En) (a : Nat → Nat) (b : Nat) (page_codes : Nat → Int32) (page_size : Int32) (rules_stones : Int32) (rules_signs : Int32) (rules_any : Int32) (rules_back : Int32) (rules_ring : Int32) (rules_two : Int32) (otherRules_stones : Int32) (otherRules_signs : Int32) (otherRules_any : Int32) (otherRules_back : Int32) (otherRules_ring : Int32) (otherRules_two : Int32) (now_made : Nat → Int32) (now_movers : Nat → Int32) (now_row : Int32) (now_numbers : Int32) (now_size : Int32) (kept_made : Nat → Int32) (kept_movers : Nat → Int32) (kept_row : Int32) (kept_numbers : Int32) (kept_size : Int32) (toGoal_table_slots : Nat → Int32) (toGoal_table_rows : Nat → Int32) (toGoal_table_size : Int32) (toGoal_depths : Nat → Int32) (toGoal_ways : Nat → Int32) (toGoal_stuckRows : Int32) (toGoal_soonestStuck : Int32) (afresh_table_slots : Nat → Int32) (afresh_table_rows : Nat → Int32) (afresh_table_size : Int32) (afresh_depths : Nat → Int32) (afresh_ways : Nat → Int32) (afresh_stuckRows : Int32) (afresh_soonestStuck : Int32) (game_table_slots : Nat → Int32) (game_table_rows : Nat → Int32) (game_table_size : Int32) (game_known : Nat → Int32) (readRow : Int32) (goalRow : Int32) (frogs : Int32) (timesRead : Int32) (hasImage : Int32) {p0 : Int32} {p1 : Int32} {res : Int32 × (Nat → Int32) × (Nat → Int32) × Int32 × (Nat → Int32)} (hf : f_X7_by rules_stones rules_any rules_back rules_ring rules_two now_row game_table_slots game_table_rows game_table_size game_known p0 p1 = some res) : Ct l yX7_by (.code yX7_by cX7_by 3 (some .int)) rX7_by E [.ref (a b), .int p0, .int p1] (wX E a b page_codes page_size rules_stones rules_signs rules_any rules_back rules_ring rules_two otherRules_stones otherRules_signs otherRules_any otherRules_back otherRules_ring otherRules_two now_made now_movers now_row now_numbers now_size kept_made kept_movers kept_row kept_numbers kept_size toGoal_table_slots toGoal_table_rows toGoal_table_size toGoal_depths toGoal_ways toGoal_stuckRows toGoal_soonestStuck afresh_table_slots afresh_table_rows afresh_table_size afresh_depths afresh_ways afresh_stuckRows afresh_soonestStuck game_table_slots game_table_rows game_table_size game_known readRow goalRow frogs timesRead hasImage) (some (.int res.1)) (wX E a b page_codes page_size rules_stones rules_signs rules_any rules_back rules_ring rules_two otherRules_stones otherRules_signs otherRules_any otherRules_back otherRules_ring otherRules_two now_made now_movers now_row now_numbers now_size kept_made kept_movers kept_row kept_numbers kept_size toGoal_table_slots toGoal_table_rows toGoal_table_size toGoal_depths toGoal_ways toGoal_stuckRows toGoal_soonestStuck afresh_table_slots afresh_table_rows afresh_table_size afresh_depths afresh_ways afresh_stuckRows afresh_soonestStuck res.2.1 res.2.2.1 res.2.2.2.1 res.2.2.2.2 readRow goalRow frogs timesRead hasImage) := by
  refine Ct.of (by decide) (Nat.le_of_ble_eq_true rfl) (fun Y hB hR => ?_)
  have hB : Cb E cX7_by RX7 rX7_by 3 Y := hB
  show J l E rX7_by Y (wX E a b page_codes page_size rules_stones rules_signs rules_any rules_back rules_ring rules_two otherRules_stones otherRules_signs otherRules_any otherRules_back otherRules_ring otherRules_two now_made now_movers now_row now_numbers now_size kept_made kept_movers kept_row kept_numbers kept_size toGoal_table_slots toGoal_table_rows toGoal_table_size toGoal_depths toGoal_ways toGoal_stuckRows toGoal_soonestStuck afresh_table_slots afresh_table_rows afresh_table_size afresh_depths afresh_ways afresh_stuckRows afresh_soonestStuck game_table_slots game_table_rows game_table_size game_known readRow goalRow frogs timesRead hasImage) 0 [(0, .ref (a b)), (1, .int p0), (2, .int p1)] []
  unfold f_X7_by at hf
  refine J_iload_n hB dX7_by_0 rfl 1 rfl ?_
  refine J_if_lt (tgt := 18) hB dX7_by_1 rfl (fun c_1 => ?_) (fun c_1 => ?_)
  · have hf := it_t c_1 hf
    refine J_bipush (v := (-102)) hB dX7_by_18 rfl ?_
    obtain rfl := Option.some.inj hf
    exact J_iret hB hR dX7_by_20
  · have hf := it_f c_1 hf
    refine J_iload_n hB dX7_by_4 rfl 1 rfl ?_
    refine J_iconst (v := 1) hB dX7_by_5 rfl ?_
    refine J_icmp_gt (tgt := 18) hB dX7_by_6 rfl (fun c_2 => ?_) (fun c_2 => ?_)
    · have hf := it_t c_2 hf
      refine J_bipush (v := (-102)) hB dX7_by_18 rfl ?_
      obtain rfl := Option.some.inj hf
      exact J_iret hB hR dX7_by_20
    · have hf := it_f c_2 hf
      refine J_iload_n hB dX7_by_9 rfl 2 rfl ?_
      refine J_if_lt (tgt := 18) hB dX7_by_10 rfl (fun c_3 => ?_) (fun c_3 => ?_)
      · have hf := it_t c_3 hf
        refine J_bipush (v := (-102)) hB dX7_by_18 rfl ?_
        obtain rfl := Option.some.inj hf
        exact J_iret hB hR dX7_by_20
      · have hf := it_f c_3 hf
        refine J_iload_n hB dX7_by_13 rfl 2 rfl ?_
        refine J_iconst (v := 1) hB dX7_by_14 rfl ?_
        refine J_icmp_le (tgt := 21) hB dX7_by_15 rfl (fun c_4 => ?_) (fun c_4 => ?_)
        · have hf := it_t c_4 hf
          refine J_aload_n hB dX7_by_21 rfl 0 rfl ?_
          obtain ⟨r_5, h_6, hf⟩ := cl1_e hf
          refine J_callV (As := []) (rest := []) (n := 0) (ws' := wX E a b page_codes page_size rules_stones rules_signs rules_any rules_back rules_ring rules_two otherRules_stones otherRules_signs otherRules_any otherRules_back otherRules_ring otherRules_two now_made now_movers now_row now_numbers now_size kept_made kept_movers kept_row kept_numbers kept_size toGoal_table_slots toGoal_table_rows toGoal_table_size toGoal_depths toGoal_ways toGoal_stuckRows toGoal_soonestStuck afresh_table_slots afresh_table_rows afresh_table_size afresh_depths afresh_ways afresh_stuckRows afresh_soonestStuck game_table_slots game_table_rows game_table_size game_known readRow goalRow frogs timesRead hasImage) hB (c_X7_hasGame l E a b page_codes page_size rules_stones rules_signs rules_any rules_back rules_ring rules_two otherRules_stones otherRules_signs otherRules_any otherRules_back otherRules_ring otherRules_two now_made now_movers now_row now_numbers now_size kept_made kept_movers kept_row kept_numbers kept_size toGoal_table_slots toGoal_table_rows toGoal_table_size toGoal_depths toGoal_ways toGoal_stuckRows toGoal_soonestStuck afresh_table_slots afresh_table_rows afresh_table_size afresh_depths afresh_ways afresh_stuckRows afresh_soonestStuck game_table_slots game_table_rows game_table_size game_known readRow goalRow frogs timesRead hasImage h_6) mi_X7_hasGame ⟨ki_X7_hasGame, kv_X7_hasGame⟩ km_X7_215 ⟨rfl, rfl, Nat.le_of_ble_eq_true rfl, Nat.le_of_ble_eq_true rfl⟩ Lies.same 0 rfl rfl rfl rfl (Nat.le_of_ble_eq_true rfl) dX7_by_22 ?_
          show J l E rX7_by Y (wX E a b page_codes page_size rules_stones rules_signs rules_any rules_back rules_ring rules_two otherRules_stones otherRules_signs otherRules_any otherRules_back otherRules_ring otherRules_two now_made now_movers now_row now_numbers now_size kept_made kept_movers kept_row kept_numbers kept_size toGoal_table_slots toGoal_table_rows toGoal_table_size toGoal_depths toGoal_ways toGoal_stuckRows toGoal_soonestStuck afresh_table_slots afresh_table_rows afresh_table_size afresh_depths afresh_ways afresh_stuckRows afresh_soonestStuck game_table_slots game_table_rows game_table_size game_known readRow goalRow frogs timesRead hasImage) 25 [(0, .ref (a b)), (1, .int p0), (2, .int p1)] [.int r_5]
          refine J_if_ne (tgt := 31) hB dX7_by_25 rfl (fun c_7 => ?_) (fun c_7 => ?_)
          · have hf := it_f c_7 hf
            refine J_aload_n hB dX7_by_31 rfl 0 rfl ?_
            refine J_get (v := .ref (a (b + 23))) hB inX7 0 rfl rfl 7 (Nat.le_of_ble_eq_true rfl) kf_X7_49 rfl dX7_by_32 ?_
            refine J_aload_n hB dX7_by_35 rfl 0 rfl ?_
            refine J_get (v := .ref (a (b + 3))) hB inX7 0 rfl rfl 1 (Nat.le_of_ble_eq_true rfl) kf_X7_19 rfl dX7_by_36 ?_
            refine J_aload_n hB dX7_by_39 rfl 0 rfl ?_
            refine J_get (v := .ref (a (b + 5))) hB inX7 0 rfl rfl 3 (Nat.le_of_ble_eq_true rfl) kf_X7_29 rfl dX7_by_40 ?_
            refine J_getN (v := .int now_row) hB inX2 5 rfl rfl 2 (Nat.le_of_ble_eq_true rfl) kfN_X7_132 rfl dX7_by_43 ?_
            refine J_iload_n hB dX7_by_46 rfl 1 rfl ?_
            refine J_iconst (v := 0) hB dX7_by_47 rfl ?_
            obtain ⟨r_8, game_table_slots_9, game_table_rows_10, game_table_size_11, game_known_12, h_13, hf⟩ := cl5_e hf
            refine J_callVN (As := [.ref (a (b + 3)), .int now_row, .int p0, .int 0]) (rest := []) (n := 4) (ws' := wX E a b page_codes page_size rules_stones rules_signs rules_any rules_back rules_ring rules_two otherRules_stones otherRules_signs otherRules_any otherRules_back otherRules_ring otherRules_two now_made now_movers now_row now_numbers now_size kept_made kept_movers kept_row kept_numbers kept_size toGoal_table_slots toGoal_table_rows toGoal_table_size toGoal_depths toGoal_ways toGoal_stuckRows toGoal_soonestStuck afresh_table_slots afresh_table_rows afresh_table_size afresh_depths afresh_ways afresh_stuckRows afresh_soonestStuck game_table_slots_9 game_table_rows_10 game_table_size_11 game_known_12 readRow goalRow frogs timesRead hasImage) hB (c_X0_winningMove l E a (f_X0_hasIt gfuel) gfuel (c_X0_hasIt l E a gfuel) (b + 3) (b + 23) rules_stones rules_signs rules_any rules_back rules_ring rules_two game_table_slots game_table_rows game_table_size game_known h_13) mi_X0_winningMove ⟨ki_X0_winningMove, kv_X0_winningMove⟩ kmN_X7_222 ⟨rfl, rfl, Nat.le_of_ble_eq_true rfl, Nat.le_of_ble_eq_true rfl⟩ (Lz.lies (Lz.skip (Lz.skip (Lz.pair (len_wRules.trans len_wRules.symm) (fst_wRules.trans fst_wRules.symm) (Lz.skip (Lz.skip (Lz.skip (Lz.skip (Lz.skip (Lz.here (len_wGame.trans len_wGame.symm) (fst_wGame.trans fst_wGame.symm))))))))))) 23 rfl rfl rfl rfl (Nat.le_of_ble_eq_true rfl) dX7_by_48 ?_
            show J l E rX7_by Y (wX E a b page_codes page_size rules_stones rules_signs rules_any rules_back rules_ring rules_two otherRules_stones otherRules_signs otherRules_any otherRules_back otherRules_ring otherRules_two now_made now_movers now_row now_numbers now_size kept_made kept_movers kept_row kept_numbers kept_size toGoal_table_slots toGoal_table_rows toGoal_table_size toGoal_depths toGoal_ways toGoal_stuckRows toGoal_soonestStuck afresh_table_slots afresh_table_rows afresh_table_size afresh_depths afresh_ways afresh_stuckRows afresh_soonestStuck game_table_slots_9 game_table_rows_10 game_table_size_11 game_known_12 readRow goalRow frogs timesRead hasImage) 51 [(0, .ref (a b)), (1, .int p0), (2, .int p1)] [.int r_8]
            refine J_iload_n hB dX7_by_51 rfl 2 rfl ?_
            obtain ⟨r_14, h_15, hf⟩ := cl1_e hf
            refine J_callS (As := [.int r_8, .int p1]) (rest := []) (n := 2) (ws' := wX E a b page_codes page_size rules_stones rules_signs rules_any rules_back rules_ring rules_two otherRules_stones otherRules_signs otherRules_any otherRules_back otherRules_ring otherRules_two now_made now_movers now_row now_numbers now_size kept_made kept_movers kept_row kept_numbers kept_size toGoal_table_slots toGoal_table_rows toGoal_table_size toGoal_depths toGoal_ways toGoal_stuckRows toGoal_soonestStuck afresh_table_slots afresh_table_rows afresh_table_size afresh_depths afresh_ways afresh_stuckRows afresh_soonestStuck game_table_slots_9 game_table_rows_10 game_table_size_11 game_known_12 readRow goalRow frogs timesRead hasImage) hB (c_X7_partOfMove l E a h_15) mi_X7_partOfMove ks_X7_partOfMove km_X7_181 ⟨rfl, rfl, Nat.le_of_ble_eq_true rfl, Nat.le_of_ble_eq_true rfl⟩ Lies.none rfl rfl (Nat.le_of_ble_eq_true rfl) dX7_by_52 ?_
            show J l E rX7_by Y (wX E a b page_codes page_size rules_stones rules_signs rules_any rules_back rules_ring rules_two otherRules_stones otherRules_signs otherRules_any otherRules_back otherRules_ring otherRules_two now_made now_movers now_row now_numbers now_size kept_made kept_movers kept_row kept_numbers kept_size toGoal_table_slots toGoal_table_rows toGoal_table_size toGoal_depths toGoal_ways toGoal_stuckRows toGoal_soonestStuck afresh_table_slots afresh_table_rows afresh_table_size afresh_depths afresh_ways afresh_stuckRows afresh_soonestStuck game_table_slots_9 game_table_rows_10 game_table_size_11 game_known_12 readRow goalRow frogs timesRead hasImage) 55 [(0, .ref (a b)), (1, .int p0), (2, .int p1)] [.int r_14]
            obtain rfl := Option.some.inj hf
            exact J_iret hB hR dX7_by_55
          · have hf := it_t c_7 hf
            refine J_bipush (v := (-103)) hB dX7_by_28 rfl ?_
            obtain rfl := Option.some.inj hf
            exact J_iret hB hR dX7_by_30
        · have hf := it_f c_4 hf
          refine J_bipush (v := (-102)) hB dX7_by_18 rfl ?_
          obtain rfl := Option.some.inj hf
          exact J_iret hB hR dX7_by_20
def f_X7_digest (page_codes : Nat → Int32) (page_size : Int32) (rules_stones : Int32) (rules_signs : Int32) (rules_any : Int32) (rules_back : Int32) (rules_ring : Int32) (rules_two : Int32) (now_made : Nat → Int32) (now_movers : Nat → Int32) (now_row : Int32) (now_numbers : Int32) (now_size : Int32) (toGoal_table_slots : Nat → Int32) (toGoal_table_rows : Nat → Int32) (toGoal_depths : Nat → Int32) (toGoal_ways : Nat → Int32) (afresh_table_slots : Nat → Int32) (afresh_table_rows : Nat → Int32) (afresh_table_size : Int32) (afresh_depths : Nat → Int32) (afresh_ways : Nat → Int32) (afresh_stuckRows : Int32) (afresh_soonestStuck : Int32) (game_table_slots : Nat → Int32) (game_table_rows : Nat → Int32) (game_table_size : Int32) (game_known : Nat → Int32) (readRow : Int32) (frogs : Int32) (timesRead : Int32) : Option (Int64 × (Nat → Int32) × (Nat → Int32) × Int32 × (Nat → Int32) × (Nat → Int32) × Int32 × Int32 × (Nat → Int32) × (Nat → Int32) × Int32 × (Nat → Int32)) :=
lp2_1 (fun (x1_1 : Int64) (x3_2 : Int32) nx6 ex6 =>
if rules_stones ≤ x3_2 then (
ex6 x1_1) else (
cl1 (f_X7_on rules_stones now_row x3_2) fun r_5 =>
nmv (α := Int64) (((31 : Int64) * x1_1) + (Int32.toInt64 r_5)) fun x1_7 =>
cl1 (f_X7_frog rules_stones now_numbers x3_2) fun r_8 =>
nmv (α := Int64) (((31 : Int64) * x1_7) + (Int32.toInt64 r_8)) fun x1_10 =>
nmv (α := Int32) (x3_2 + 1) fun x3_11 =>
nx6 x1_10 x3_11)) (fun (x1_3 : Int64) =>
lp2_1 (fun (x1_12 : Int64) (x3_13 : Int32) nx51 ex51 =>
if frogs ≤ x3_13 then (
ex51 x1_12) else (
lp2_1 (fun (x1_16 : Int64) (x4_17 : Int32) nx62 ex62 =>
if 2 < x4_17 then (
ex62 x1_16) else (
cl1 (f_X7_about now_movers now_row now_numbers now_size frogs x3_13 x4_17) fun r_20 =>
nmv (α := Int64) (((31 : Int64) * x1_16) + (Int32.toInt64 r_20)) fun x1_22 =>
nmv (α := Int32) (x4_17 + 1) fun x4_23 =>
nx62 x1_22 x4_23)) (fun (x1_18 : Int64) =>
nmv (α := Int32) (x3_13 + 1) fun x3_24 =>
nx51 x1_18 x3_24) fuel x1_12 0)) (fun (x1_14 : Int64) =>
cl1 (f_X7_moves rules_stones rules_any rules_back rules_ring rules_two now_row) fun r_25 =>
nmv (α := Int64) (((31 : Int64) * x1_14) + (Int32.toInt64 r_25)) fun x1_27 =>
cl1 (f_X7_hasBrook rules_stones) fun r_28 =>
jn8 (fun (x1_30 : Int64) (afresh_table_slots_31 : Nat → Int32) (afresh_table_rows_32 : Nat → Int32) (afresh_table_size_33 : Int32) (afresh_depths_34 : Nat → Int32) (afresh_ways_35 : Nat → Int32) (afresh_stuckRows_36 : Int32) (afresh_soonestStuck_37 : Int32) =>
cl1 (f_X7_hasGame rules_stones rules_back rules_ring) fun r_38 =>
jn5 (fun (x1_40 : Int64) (game_table_slots_41 : Nat → Int32) (game_table_rows_42 : Nat → Int32) (game_table_size_43 : Int32) (game_known_44 : Nat → Int32) =>
lp2_1 (fun (x1_45 : Int64) (x3_46 : Int32) nx223 ex223 =>
if page_size ≤ x3_46 then (
ex223 x1_45) else (
if 14 ≤ x3_46 then (
ex223 x1_45) else (
ald 14 page_codes x3_46 fun v_50 =>
nmv (α := Int64) (((31 : Int64) * x1_45) + (Int32.toInt64 v_50)) fun x1_52 =>
nmv (α := Int32) (x3_46 + 1) fun x3_53 =>
nx223 x1_52 x3_53))) (fun (x1_47 : Int64) =>
lp2_1 (fun (x1_54 : Int64) (x3_55 : Int32) nx265 ex265 =>
if 9 < x3_55 then (
ex265 x1_54) else (
cl1 (f_X7_count page_size rules_stones rules_signs now_size frogs timesRead x3_55) fun r_58 =>
nmv (α := Int64) (((31 : Int64) * x1_54) + (Int32.toInt64 r_58)) fun x1_60 =>
nmv (α := Int32) (x3_55 + 1) fun x3_61 =>
nx265 x1_60 x3_61)) (fun (x1_56 : Int64) =>
some (x1_56, afresh_table_slots_31, afresh_table_rows_32, afresh_table_size_33, afresh_depths_34, afresh_ways_35, afresh_stuckRows_36, afresh_soonestStuck_37, game_table_slots_41, game_table_rows_42, game_table_size_43, game_known_44)) fuel x1_47 0) fuel x1_40 0) fun j221 =>
if r_38 = 0 then (
j221 x1_30 game_table_slots game_table_rows game_table_size game_known) else (
cl5 (f_X7_wins rules_stones rules_any rules_back rules_ring rules_two now_row game_table_slots game_table_rows game_table_size game_known 0) fun r_63 game_table_slots_64 game_table_rows_65 game_table_size_66 game_known_67 =>
nmv (α := Int64) (((31 : Int64) * x1_30) + (Int32.toInt64 r_63)) fun x1_69 =>
cl5 (f_X7_wins rules_stones rules_any rules_back rules_ring rules_two now_row game_table_slots_64 game_table_rows_65 game_table_size_66 game_known_67 1) fun r_70 game_table_slots_71 game_table_rows_72 game_table_size_73 game_known_74 =>
nmv (α := Int64) (((31 : Int64) * x1_69) + (Int32.toInt64 r_70)) fun x1_76 =>
j221 x1_76 game_table_slots_71 game_table_rows_72 game_table_size_73 game_known_74)) fun j188 =>
if r_28 = 0 then (
j188 x1_27 afresh_table_slots afresh_table_rows afresh_table_size afresh_depths afresh_ways afresh_stuckRows afresh_soonestStuck) else (
lp2_1 (fun (x1_78 : Int64) (x3_79 : Int32) nx116 ex116 =>
if 2 < x3_79 then (
ex116 x1_78) else (
cl1 (f_X7_fewest rules_stones rules_any rules_back rules_ring rules_two now_row toGoal_table_slots toGoal_table_rows toGoal_depths x3_79) fun r_82 =>
nmv (α := Int64) (((31 : Int64) * x1_78) + (Int32.toInt64 r_82)) fun x1_84 =>
nmv (α := Int32) (x3_79 + 1) fun x3_85 =>
nx116 x1_84 x3_85)) (fun (x1_80 : Int64) =>
cl1 (f_X7_ways rules_stones now_row toGoal_table_slots toGoal_table_rows toGoal_ways) fun r_86 =>
nmv (α := Int64) (((31 : Int64) * x1_80) + (Int32.toInt64 r_86)) fun x1_88 =>
cl1 (f_X7_wrong rules_stones now_made now_size toGoal_table_slots toGoal_table_rows toGoal_depths readRow) fun r_89 =>
nmv (α := Int64) (((31 : Int64) * x1_88) + (Int32.toInt64 r_89)) fun x1_91 =>
cl8 (f_X7_ends rules_stones rules_any rules_back rules_ring rules_two now_row afresh_table_slots afresh_table_rows afresh_table_size afresh_depths afresh_ways afresh_stuckRows afresh_soonestStuck) fun r_92 afresh_table_slots_93 afresh_table_rows_94 afresh_table_size_95 afresh_depths_96 afresh_ways_97 afresh_stuckRows_98 afresh_soonestStuck_99 =>
nmv (α := Int64) (((31 : Int64) * x1_91) + (Int32.toInt64 r_92)) fun x1_101 =>
cl8 (f_X7_soon rules_stones rules_any rules_back rules_ring rules_two now_row afresh_table_slots_93 afresh_table_rows_94 afresh_table_size_95 afresh_depths_96 afresh_ways_97 afresh_stuckRows_98 afresh_soonestStuck_99) fun r_102 afresh_table_slots_103 afresh_table_rows_104 afresh_table_size_105 afresh_depths_106 afresh_ways_107 afresh_stuckRows_108 afresh_soonestStuck_109 =>
nmv (α := Int64) (((31 : Int64) * x1_101) + (Int32.toInt64 r_102)) fun x1_111 =>
j188 x1_111 afresh_table_slots_103 afresh_table_rows_104 afresh_table_size_105 afresh_depths_106 afresh_ways_107 afresh_stuckRows_108 afresh_soonestStuck_109) fuel x1_27 0)) fuel x1_3 0) fuel 613 0
abbrev rX7_digest : Room := { frames := 206, cells := 0, slots := 0, locals := 5850 }
set_option maxRecDepth 100000 in
set_option maxHeartbeats 4000000 in
theorem c_X7_digest (l : Launch) (E : En) (a : Nat → Nat) (b : Nat) (page_codes : Nat → Int32) (page_size : Int32) (rules_stones : Int32) (rules_signs : Int32) (rules_any : Int32) (rules_back : Int32) (rules_ring : Int32) (rules_two : Int32) (otherRules_stones : Int32) (otherRules_signs : Int32) (otherRules_any : Int32) (otherRules_back : Int32) (otherRules_ring : Int32) (otherRules_two : Int32) (now_made : Nat → Int32) (now_movers : Nat → Int32) (now_row : Int32) (now_numbers : Int32) (now_size : Int32) (kept_made : Nat → Int32) (kept_movers : Nat → Int32) (kept_row : Int32) (kept_numbers : Int32) (kept_size : Int32) (toGoal_table_slots : Nat → Int32) (toGoal_table_rows : Nat → Int32) (toGoal_table_size : Int32) (toGoal_depths : Nat → Int32) (toGoal_ways : Nat → Int32) (toGoal_stuckRows : Int32) (toGoal_soonestStuck : Int32) (afresh_table_slots : Nat → Int32) (afresh_table_rows : Nat → Int32) (afresh_table_size : Int32) (afresh_depths : Nat → Int32) (afresh_ways : Nat → Int32) (afresh_stuckRows : Int32) (afresh_soonestStuck : Int32) (game_table_slots : Nat → Int32) (game_table_rows : Nat → Int32) (game_table_size : Int32) (game_known : Nat → Int32) (readRow : Int32) (goalRow : Int32) (frogs : Int32) (timesRead : Int32) (hasImage : Int32) {res : Int64 × (Nat → Int32) × (Nat → Int32) × Int32 × (Nat → Int32) × (Nat → Int32) × Int32 × Int32 × (Nat → Int32) × (Nat → Int32) × Int32 × (Nat → Int32)} (hf : f_X7_digest page_codes page_size rules_stones rules_signs rules_any rules_back rules_ring rules_two now_made now_movers now_row now_numbers now_size toGoal_table_slots toGoal_table_rows toGoal_depths toGoal_ways afresh_table_slots afresh_table_rows afresh_table_size afresh_depths afresh_ways afresh_stuckRows afresh_soonestStuck game_table_slots game_table_rows game_table_size game_known readRow frogs timesRead = some res) : Ct l yX7_digest (.code yX7_digest cX7_digest 5 (some .long)) rX7_digest E [.ref (a b)] (wX E a b page_codes page_size rules_stones rules_signs rules_any rules_back rules_ring rules_two otherRules_stones otherRules_signs otherRules_any otherRules_back otherRules_ring otherRules_two now_made now_movers now_row now_numbers now_size kept_made kept_movers kept_row kept_numbers kept_size toGoal_table_slots toGoal_table_rows toGoal_table_size toGoal_depths toGoal_ways toGoal_stuckRows toGoal_soonestStuck afresh_table_slots afresh_table_rows afresh_table_size afresh_depths afresh_ways afresh_stuckRows afresh_soonestStuck game_table_slots game_table_rows game_table_size game_known readRow goalRow frogs timesRead hasImage) (some (.long res.1)) (wX E a b page_codes page_size rules_stones rules_signs rules_any rules_back rules_ring rules_two otherRules_stones otherRules_signs otherRules_any otherRules_back otherRules_ring otherRules_two now_made now_movers now_row now_numbers now_size kept_made kept_movers kept_row kept_numbers kept_size toGoal_table_slots toGoal_table_rows toGoal_table_size toGoal_depths toGoal_ways toGoal_stuckRows toGoal_soonestStuck res.2.1 res.2.2.1 res.2.2.2.1 res.2.2.2.2.1 res.2.2.2.2.2.1 res.2.2.2.2.2.2.1 res.2.2.2.2.2.2.2.1 res.2.2.2.2.2.2.2.2.1 res.2.2.2.2.2.2.2.2.2.1 res.2.2.2.2.2.2.2.2.2.2.1 res.2.2.2.2.2.2.2.2.2.2.2 readRow goalRow frogs timesRead hasImage) := by
  refine Ct.of (by decide) (Nat.le_of_ble_eq_true rfl) (fun Y hB hR => ?_)
  have hB : Cb E cX7_digest RX7 rX7_digest 5 Y := hB
  show J l E rX7_digest Y (wX E a b page_codes page_size rules_stones rules_signs rules_any rules_back rules_ring rules_two otherRules_stones otherRules_signs otherRules_any otherRules_back otherRules_ring otherRules_two now_made now_movers now_row now_numbers now_size kept_made kept_movers kept_row kept_numbers kept_size toGoal_table_slots toGoal_table_rows toGoal_table_size toGoal_depths toGoal_ways toGoal_stuckRows toGoal_soonestStuck afresh_table_slots afresh_table_rows afresh_table_size afresh_depths afresh_ways afresh_stuckRows afresh_soonestStuck game_table_slots game_table_rows game_table_size game_known readRow goalRow frogs timesRead hasImage) 0 [(0, .ref (a b))] []
  unfold f_X7_digest at hf
  refine J_ldc2 hB dX7_digest_0 kk_X7_245 ?_
  refine J_lstore_n (lv' := [(1, .long 613), (0, .ref (a b))]) hB rfl dX7_digest_3 rfl (Nat.le_of_ble_eq_true rfl) rfl ?_
  refine J_iconst (v := 0) hB dX7_digest_4 rfl ?_
  refine J_istore_n (lv' := [(3, .int 0), (1, .long 613), (0, .ref (a b))]) hB rfl dX7_digest_5 rfl (Nat.le_of_ble_eq_true rfl) rfl ?_
  refine J_lv [2, 1, 0] rfl ?_
  refine lp2_1_J (P := fun x1_1 x3_2 => J l E rX7_digest Y (wX E a b page_codes page_size rules_stones rules_signs rules_any rules_back rules_ring rules_two otherRules_stones otherRules_signs otherRules_any otherRules_back otherRules_ring otherRules_two now_made now_movers now_row now_numbers now_size kept_made kept_movers kept_row kept_numbers kept_size toGoal_table_slots toGoal_table_rows toGoal_table_size toGoal_depths toGoal_ways toGoal_stuckRows toGoal_soonestStuck afresh_table_slots afresh_table_rows afresh_table_size afresh_depths afresh_ways afresh_stuckRows afresh_soonestStuck game_table_slots game_table_rows game_table_size game_known readRow goalRow frogs timesRead hasImage) 6 [(0, .ref (a b)), (1, .long x1_1), (3, .int x3_2)] []) (Q := fun x1_3 => J l E rX7_digest Y (wX E a b page_codes page_size rules_stones rules_signs rules_any rules_back rules_ring rules_two otherRules_stones otherRules_signs otherRules_any otherRules_back otherRules_ring otherRules_two now_made now_movers now_row now_numbers now_size kept_made kept_movers kept_row kept_numbers kept_size toGoal_table_slots toGoal_table_rows toGoal_table_size toGoal_depths toGoal_ways toGoal_stuckRows toGoal_soonestStuck afresh_table_slots afresh_table_rows afresh_table_size afresh_depths afresh_ways afresh_stuckRows afresh_soonestStuck game_table_slots game_table_rows game_table_size game_known readRow goalRow frogs timesRead hasImage) 49 [(0, .ref (a b)), (1, .long x1_3)] []) (fun x1_1 x3_2 nx6 ex6 hnx6 hex6 hf => ?_) (fun x1_3 hf => ?_) hf
  · refine J_iload_n hB dX7_digest_6 rfl 2 rfl ?_
    refine J_aload_n hB dX7_digest_7 rfl 0 rfl ?_
    refine J_get (v := .ref (a (b + 3))) hB inX7 0 rfl rfl 1 (Nat.le_of_ble_eq_true rfl) kf_X7_19 rfl dX7_digest_8 ?_
    refine J_getN (v := .int rules_stones) hB inX4 3 rfl rfl 0 (Nat.le_of_ble_eq_true rfl) kfN_X7_89 rfl dX7_digest_11 ?_
    refine J_icmp_ge (tgt := 49) hB dX7_digest_14 rfl (fun c_4 => ?_) (fun c_4 => ?_)
    · have hf := it_t c_4 hf
      exact J_lv [0, 1] rfl (hex6 x1_1 hf)
    · have hf := it_f c_4 hf
      refine J_ldc2 hB dX7_digest_17 kk_X7_247 ?_
      refine J_lload_n hB dX7_digest_20 rfl 1 rfl ?_
      refine J_lmul hB dX7_digest_21 ?_
      refine J_aload_n hB dX7_digest_22 rfl 0 rfl ?_
      refine J_iload_n hB dX7_digest_23 rfl 2 rfl ?_
      obtain ⟨r_5, h_6, hf⟩ := cl1_e hf
      refine J_callV (As := [.int x3_2]) (rest := [.long ((31 : Int64) * x1_1)]) (n := 1) (ws' := wX E a b page_codes page_size rules_stones rules_signs rules_any rules_back rules_ring rules_two otherRules_stones otherRules_signs otherRules_any otherRules_back otherRules_ring otherRules_two now_made now_movers now_row now_numbers now_size kept_made kept_movers kept_row kept_numbers kept_size toGoal_table_slots toGoal_table_rows toGoal_table_size toGoal_depths toGoal_ways toGoal_stuckRows toGoal_soonestStuck afresh_table_slots afresh_table_rows afresh_table_size afresh_depths afresh_ways afresh_stuckRows afresh_soonestStuck game_table_slots game_table_rows game_table_size game_known readRow goalRow frogs timesRead hasImage) hB (c_X7_on l E a b page_codes page_size rules_stones rules_signs rules_any rules_back rules_ring rules_two otherRules_stones otherRules_signs otherRules_any otherRules_back otherRules_ring otherRules_two now_made now_movers now_row now_numbers now_size kept_made kept_movers kept_row kept_numbers kept_size toGoal_table_slots toGoal_table_rows toGoal_table_size toGoal_depths toGoal_ways toGoal_stuckRows toGoal_soonestStuck afresh_table_slots afresh_table_rows afresh_table_size afresh_depths afresh_ways afresh_stuckRows afresh_soonestStuck game_table_slots game_table_rows game_table_size game_known readRow goalRow frogs timesRead hasImage h_6) mi_X7_on ⟨ki_X7_on, kv_X7_on⟩ km_X7_249 ⟨rfl, rfl, Nat.le_of_ble_eq_true rfl, Nat.le_of_ble_eq_true rfl⟩ Lies.same 0 rfl rfl rfl rfl (Nat.le_of_ble_eq_true rfl) dX7_digest_24 ?_
      show J l E rX7_digest Y (wX E a b page_codes page_size rules_stones rules_signs rules_any rules_back rules_ring rules_two otherRules_stones otherRules_signs otherRules_any otherRules_back otherRules_ring otherRules_two now_made now_movers now_row now_numbers now_size kept_made kept_movers kept_row kept_numbers kept_size toGoal_table_slots toGoal_table_rows toGoal_table_size toGoal_depths toGoal_ways toGoal_stuckRows toGoal_soonestStuck afresh_table_slots afresh_table_rows afresh_table_size afresh_depths afresh_ways afresh_stuckRows afresh_soonestStuck game_table_slots game_table_rows game_table_size game_known readRow goalRow frogs timesRead hasImage) 27 [(0, .ref (a b)), (1, .long x1_1), (3, .int x3_2)] [.int r_5, .long ((31 : Int64) * x1_1)]
      refine J_i2l hB dX7_digest_27 ?_
      refine J_ladd hB dX7_digest_28 ?_
      obtain ⟨x1_7, ex1_7, hf⟩ := nmv_e hf
      refine J_lstore_n (lv' := [(1, .long x1_7), (0, .ref (a b)), (3, .int x3_2)]) hB ex1_7 dX7_digest_29 rfl (Nat.le_of_ble_eq_true rfl) rfl ?_
      refine J_ldc2 hB dX7_digest_30 kk_X7_247 ?_
      refine J_lload_n hB dX7_digest_33 rfl 0 rfl ?_
      refine J_lmul hB dX7_digest_34 ?_
      refine J_aload_n hB dX7_digest_35 rfl 1 rfl ?_
      refine J_iload_n hB dX7_digest_36 rfl 2 rfl ?_
      obtain ⟨r_8, h_9, hf⟩ := cl1_e hf
      refine J_callV (As := [.int x3_2]) (rest := [.long ((31 : Int64) * x1_7)]) (n := 1) (ws' := wX E a b page_codes page_size rules_stones rules_signs rules_any rules_back rules_ring rules_two otherRules_stones otherRules_signs otherRules_any otherRules_back otherRules_ring otherRules_two now_made now_movers now_row now_numbers now_size kept_made kept_movers kept_row kept_numbers kept_size toGoal_table_slots toGoal_table_rows toGoal_table_size toGoal_depths toGoal_ways toGoal_stuckRows toGoal_soonestStuck afresh_table_slots afresh_table_rows afresh_table_size afresh_depths afresh_ways afresh_stuckRows afresh_soonestStuck game_table_slots game_table_rows game_table_size game_known readRow goalRow frogs timesRead hasImage) hB (c_X7_frog l E a b page_codes page_size rules_stones rules_signs rules_any rules_back rules_ring rules_two otherRules_stones otherRules_signs otherRules_any otherRules_back otherRules_ring otherRules_two now_made now_movers now_row now_numbers now_size kept_made kept_movers kept_row kept_numbers kept_size toGoal_table_slots toGoal_table_rows toGoal_table_size toGoal_depths toGoal_ways toGoal_stuckRows toGoal_soonestStuck afresh_table_slots afresh_table_rows afresh_table_size afresh_depths afresh_ways afresh_stuckRows afresh_soonestStuck game_table_slots game_table_rows game_table_size game_known readRow goalRow frogs timesRead hasImage h_9) mi_X7_frog ⟨ki_X7_frog, kv_X7_frog⟩ km_X7_252 ⟨rfl, rfl, Nat.le_of_ble_eq_true rfl, Nat.le_of_ble_eq_true rfl⟩ Lies.same 0 rfl rfl rfl rfl (Nat.le_of_ble_eq_true rfl) dX7_digest_37 ?_
      show J l E rX7_digest Y (wX E a b page_codes page_size rules_stones rules_signs rules_any rules_back rules_ring rules_two otherRules_stones otherRules_signs otherRules_any otherRules_back otherRules_ring otherRules_two now_made now_movers now_row now_numbers now_size kept_made kept_movers kept_row kept_numbers kept_size toGoal_table_slots toGoal_table_rows toGoal_table_size toGoal_depths toGoal_ways toGoal_stuckRows toGoal_soonestStuck afresh_table_slots afresh_table_rows afresh_table_size afresh_depths afresh_ways afresh_stuckRows afresh_soonestStuck game_table_slots game_table_rows game_table_size game_known readRow goalRow frogs timesRead hasImage) 40 [(1, .long x1_7), (0, .ref (a b)), (3, .int x3_2)] [.int r_8, .long ((31 : Int64) * x1_7)]
      refine J_i2l hB dX7_digest_40 ?_
      refine J_ladd hB dX7_digest_41 ?_
      obtain ⟨x1_10, ex1_10, hf⟩ := nmv_e hf
      refine J_lstore_n (lv' := [(1, .long x1_10), (0, .ref (a b)), (3, .int x3_2)]) hB ex1_10 dX7_digest_42 rfl (Nat.le_of_ble_eq_true rfl) rfl ?_
      obtain ⟨x3_11, ex3_11, hf⟩ := nmv_e hf
      refine J_iinc (lv' := [(3, .int x3_11), (1, .long x1_10), (0, .ref (a b))]) hB ex3_11 dX7_digest_43 2 rfl (Nat.le_of_ble_eq_true rfl) rfl ?_
      refine J_goto (tgt := 6) hB dX7_digest_46 rfl ?_
      exact J_lv [2, 1, 0] rfl (hnx6 x1_10 x3_11 hf)
  · refine J_iconst (v := 0) hB dX7_digest_49 rfl ?_
    refine J_istore_n (lv' := [(3, .int 0), (0, .ref (a b)), (1, .long x1_3)]) hB rfl dX7_digest_50 rfl (Nat.le_of_ble_eq_true rfl) rfl ?_
    refine J_lv [1, 2, 0] rfl ?_
    refine lp2_1_J (P := fun x1_12 x3_13 => J l E rX7_digest Y (wX E a b page_codes page_size rules_stones rules_signs rules_any rules_back rules_ring rules_two otherRules_stones otherRules_signs otherRules_any otherRules_back otherRules_ring otherRules_two now_made now_movers now_row now_numbers now_size kept_made kept_movers kept_row kept_numbers kept_size toGoal_table_slots toGoal_table_rows toGoal_table_size toGoal_depths toGoal_ways toGoal_stuckRows toGoal_soonestStuck afresh_table_slots afresh_table_rows afresh_table_size afresh_depths afresh_ways afresh_stuckRows afresh_soonestStuck game_table_slots game_table_rows game_table_size game_known readRow goalRow frogs timesRead hasImage) 51 [(0, .ref (a b)), (1, .long x1_12), (3, .int x3_13)] []) (Q := fun x1_14 => J l E rX7_digest Y (wX E a b page_codes page_size rules_stones rules_signs rules_any rules_back rules_ring rules_two otherRules_stones otherRules_signs otherRules_any otherRules_back otherRules_ring otherRules_two now_made now_movers now_row now_numbers now_size kept_made kept_movers kept_row kept_numbers kept_size toGoal_table_slots toGoal_table_rows toGoal_table_size toGoal_depths toGoal_ways toGoal_stuckRows toGoal_soonestStuck afresh_table_slots afresh_table_rows afresh_table_size afresh_depths afresh_ways afresh_stuckRows afresh_soonestStuck game_table_slots game_table_rows game_table_size game_known readRow goalRow frogs timesRead hasImage) 95 [(0, .ref (a b)), (1, .long x1_14)] []) (fun x1_12 x3_13 nx51 ex51 hnx51 hex51 hf => ?_) (fun x1_14 hf => ?_) hf
    · refine J_iload_n hB dX7_digest_51 rfl 2 rfl ?_
      refine J_aload_n hB dX7_digest_52 rfl 0 rfl ?_
      refine J_get (v := .int frogs) hB inX7 0 rfl rfl 10 (Nat.le_of_ble_eq_true rfl) kf_X7_104 rfl dX7_digest_53 ?_
      refine J_icmp_ge (tgt := 95) hB dX7_digest_56 rfl (fun c_15 => ?_) (fun c_15 => ?_)
      · have hf := it_t c_15 hf
        exact J_lv [0, 1] rfl (hex51 x1_12 hf)
      · have hf := it_f c_15 hf
        refine J_iconst (v := 0) hB dX7_digest_59 rfl ?_
        refine J_istore (lv' := [(4, .int 0), (0, .ref (a b)), (1, .long x1_12), (3, .int x3_13)]) hB rfl dX7_digest_60 (Nat.le_of_ble_eq_true rfl) rfl ?_
        refine J_lv [1, 2, 3, 0] rfl ?_
        refine lp2_1_J (P := fun x1_16 x4_17 => J l E rX7_digest Y (wX E a b page_codes page_size rules_stones rules_signs rules_any rules_back rules_ring rules_two otherRules_stones otherRules_signs otherRules_any otherRules_back otherRules_ring otherRules_two now_made now_movers now_row now_numbers now_size kept_made kept_movers kept_row kept_numbers kept_size toGoal_table_slots toGoal_table_rows toGoal_table_size toGoal_depths toGoal_ways toGoal_stuckRows toGoal_soonestStuck afresh_table_slots afresh_table_rows afresh_table_size afresh_depths afresh_ways afresh_stuckRows afresh_soonestStuck game_table_slots game_table_rows game_table_size game_known readRow goalRow frogs timesRead hasImage) 62 [(0, .ref (a b)), (1, .long x1_16), (3, .int x3_13), (4, .int x4_17)] []) (Q := fun x1_18 => J l E rX7_digest Y (wX E a b page_codes page_size rules_stones rules_signs rules_any rules_back rules_ring rules_two otherRules_stones otherRules_signs otherRules_any otherRules_back otherRules_ring otherRules_two now_made now_movers now_row now_numbers now_size kept_made kept_movers kept_row kept_numbers kept_size toGoal_table_slots toGoal_table_rows toGoal_table_size toGoal_depths toGoal_ways toGoal_stuckRows toGoal_soonestStuck afresh_table_slots afresh_table_rows afresh_table_size afresh_depths afresh_ways afresh_stuckRows afresh_soonestStuck game_table_slots game_table_rows game_table_size game_known readRow goalRow frogs timesRead hasImage) 89 [(0, .ref (a b)), (1, .long x1_18), (3, .int x3_13)] []) (fun x1_16 x4_17 nx62 ex62 hnx62 hex62 hf => ?_) (fun x1_18 hf => ?_) hf
        · refine J_iload hB dX7_digest_62 3 rfl ?_
          refine J_iconst (v := 2) hB dX7_digest_64 rfl ?_
          refine J_icmp_gt (tgt := 89) hB dX7_digest_65 rfl (fun c_19 => ?_) (fun c_19 => ?_)
          · have hf := it_t c_19 hf
            exact J_lv [0, 1, 2] rfl (hex62 x1_16 hf)
          · have hf := it_f c_19 hf
            refine J_ldc2 hB dX7_digest_68 kk_X7_247 ?_
            refine J_lload_n hB dX7_digest_71 rfl 1 rfl ?_
            refine J_lmul hB dX7_digest_72 ?_
            refine J_aload_n hB dX7_digest_73 rfl 0 rfl ?_
            refine J_iload_n hB dX7_digest_74 rfl 2 rfl ?_
            refine J_iload hB dX7_digest_75 3 rfl ?_
            obtain ⟨r_20, h_21, hf⟩ := cl1_e hf
            refine J_callV (As := [.int x3_13, .int x4_17]) (rest := [.long ((31 : Int64) * x1_16)]) (n := 2) (ws' := wX E a b page_codes page_size rules_stones rules_signs rules_any rules_back rules_ring rules_two otherRules_stones otherRules_signs otherRules_any otherRules_back otherRules_ring otherRules_two now_made now_movers now_row now_numbers now_size kept_made kept_movers kept_row kept_numbers kept_size toGoal_table_slots toGoal_table_rows toGoal_table_size toGoal_depths toGoal_ways toGoal_stuckRows toGoal_soonestStuck afresh_table_slots afresh_table_rows afresh_table_size afresh_depths afresh_ways afresh_stuckRows afresh_soonestStuck game_table_slots game_table_rows game_table_size game_known readRow goalRow frogs timesRead hasImage) hB (c_X7_about l E a b page_codes page_size rules_stones rules_signs rules_any rules_back rules_ring rules_two otherRules_stones otherRules_signs otherRules_any otherRules_back otherRules_ring otherRules_two now_made now_movers now_row now_numbers now_size kept_made kept_movers kept_row kept_numbers kept_size toGoal_table_slots toGoal_table_rows toGoal_table_size toGoal_depths toGoal_ways toGoal_stuckRows toGoal_soonestStuck afresh_table_slots afresh_table_rows afresh_table_size afresh_depths afresh_ways afresh_stuckRows afresh_soonestStuck game_table_slots game_table_rows game_table_size game_known readRow goalRow frogs timesRead hasImage h_21) mi_X7_about ⟨ki_X7_about, kv_X7_about⟩ km_X7_255 ⟨rfl, rfl, Nat.le_of_ble_eq_true rfl, Nat.le_of_ble_eq_true rfl⟩ Lies.same 0 rfl rfl rfl rfl (Nat.le_of_ble_eq_true rfl) dX7_digest_77 ?_
            show J l E rX7_digest Y (wX E a b page_codes page_size rules_stones rules_signs rules_any rules_back rules_ring rules_two otherRules_stones otherRules_signs otherRules_any otherRules_back otherRules_ring otherRules_two now_made now_movers now_row now_numbers now_size kept_made kept_movers kept_row kept_numbers kept_size toGoal_table_slots toGoal_table_rows toGoal_table_size toGoal_depths toGoal_ways toGoal_stuckRows toGoal_soonestStuck afresh_table_slots afresh_table_rows afresh_table_size afresh_depths afresh_ways afresh_stuckRows afresh_soonestStuck game_table_slots game_table_rows game_table_size game_known readRow goalRow frogs timesRead hasImage) 80 [(0, .ref (a b)), (1, .long x1_16), (3, .int x3_13), (4, .int x4_17)] [.int r_20, .long ((31 : Int64) * x1_16)]
            refine J_i2l hB dX7_digest_80 ?_
            refine J_ladd hB dX7_digest_81 ?_
            obtain ⟨x1_22, ex1_22, hf⟩ := nmv_e hf
            refine J_lstore_n (lv' := [(1, .long x1_22), (0, .ref (a b)), (3, .int x3_13), (4, .int x4_17)]) hB ex1_22 dX7_digest_82 rfl (Nat.le_of_ble_eq_true rfl) rfl ?_
            obtain ⟨x4_23, ex4_23, hf⟩ := nmv_e hf
            refine J_iinc (lv' := [(4, .int x4_23), (1, .long x1_22), (0, .ref (a b)), (3, .int x3_13)]) hB ex4_23 dX7_digest_83 3 rfl (Nat.le_of_ble_eq_true rfl) rfl ?_
            refine J_goto (tgt := 62) hB dX7_digest_86 rfl ?_
            exact J_lv [2, 1, 3, 0] rfl (hnx62 x1_22 x4_23 hf)
        · obtain ⟨x3_24, ex3_24, hf⟩ := nmv_e hf
          refine J_iinc (lv' := [(3, .int x3_24), (0, .ref (a b)), (1, .long x1_18)]) hB ex3_24 dX7_digest_89 2 rfl (Nat.le_of_ble_eq_true rfl) rfl ?_
          refine J_goto (tgt := 51) hB dX7_digest_92 rfl ?_
          exact J_lv [1, 2, 0] rfl (hnx51 x1_18 x3_24 hf)
    · refine J_ldc2 hB dX7_digest_95 kk_X7_247 ?_
      refine J_lload_n hB dX7_digest_98 rfl 1 rfl ?_
      refine J_lmul hB dX7_digest_99 ?_
      refine J_aload_n hB dX7_digest_100 rfl 0 rfl ?_
      obtain ⟨r_25, h_26, hf⟩ := cl1_e hf
      refine J_callV (As := []) (rest := [.long ((31 : Int64) * x1_14)]) (n := 0) (ws' := wX E a b page_codes page_size rules_stones rules_signs rules_any rules_back rules_ring rules_two otherRules_stones otherRules_signs otherRules_any otherRules_back otherRules_ring otherRules_two now_made now_movers now_row now_numbers now_size kept_made kept_movers kept_row kept_numbers kept_size toGoal_table_slots toGoal_table_rows toGoal_table_size toGoal_depths toGoal_ways toGoal_stuckRows toGoal_soonestStuck afresh_table_slots afresh_table_rows afresh_table_size afresh_depths afresh_ways afresh_stuckRows afresh_soonestStuck game_table_slots game_table_rows game_table_size game_known readRow goalRow frogs timesRead hasImage) hB (c_X7_moves l E a b page_codes page_size rules_stones rules_signs rules_any rules_back rules_ring rules_two otherRules_stones otherRules_signs otherRules_any otherRules_back otherRules_ring otherRules_two now_made now_movers now_row now_numbers now_size kept_made kept_movers kept_row kept_numbers kept_size toGoal_table_slots toGoal_table_rows toGoal_table_size toGoal_depths toGoal_ways toGoal_stuckRows toGoal_soonestStuck afresh_table_slots afresh_table_rows afresh_table_size afresh_depths afresh_ways afresh_stuckRows afresh_soonestStuck game_table_slots game_table_rows game_table_size game_known readRow goalRow frogs timesRead hasImage h_26) mi_X7_moves ⟨ki_X7_moves, kv_X7_moves⟩ km_X7_258 ⟨rfl, rfl, Nat.le_of_ble_eq_true rfl, Nat.le_of_ble_eq_true rfl⟩ Lies.same 0 rfl rfl rfl rfl (Nat.le_of_ble_eq_true rfl) dX7_digest_101 ?_
      show J l E rX7_digest Y (wX E a b page_codes page_size rules_stones rules_signs rules_any rules_back rules_ring rules_two otherRules_stones otherRules_signs otherRules_any otherRules_back otherRules_ring otherRules_two now_made now_movers now_row now_numbers now_size kept_made kept_movers kept_row kept_numbers kept_size toGoal_table_slots toGoal_table_rows toGoal_table_size toGoal_depths toGoal_ways toGoal_stuckRows toGoal_soonestStuck afresh_table_slots afresh_table_rows afresh_table_size afresh_depths afresh_ways afresh_stuckRows afresh_soonestStuck game_table_slots game_table_rows game_table_size game_known readRow goalRow frogs timesRead hasImage) 104 [(0, .ref (a b)), (1, .long x1_14)] [.int r_25, .long ((31 : Int64) * x1_14)]
      refine J_i2l hB dX7_digest_104 ?_
      refine J_ladd hB dX7_digest_105 ?_
      obtain ⟨x1_27, ex1_27, hf⟩ := nmv_e hf
      refine J_lstore_n (lv' := [(1, .long x1_27), (0, .ref (a b))]) hB ex1_27 dX7_digest_106 rfl (Nat.le_of_ble_eq_true rfl) rfl ?_
      refine J_aload_n hB dX7_digest_107 rfl 1 rfl ?_
      obtain ⟨r_28, h_29, hf⟩ := cl1_e hf
      refine J_callV (As := []) (rest := []) (n := 0) (ws' := wX E a b page_codes page_size rules_stones rules_signs rules_any rules_back rules_ring rules_two otherRules_stones otherRules_signs otherRules_any otherRules_back otherRules_ring otherRules_two now_made now_movers now_row now_numbers now_size kept_made kept_movers kept_row kept_numbers kept_size toGoal_table_slots toGoal_table_rows toGoal_table_size toGoal_depths toGoal_ways toGoal_stuckRows toGoal_soonestStuck afresh_table_slots afresh_table_rows afresh_table_size afresh_depths afresh_ways afresh_stuckRows afresh_soonestStuck game_table_slots game_table_rows game_table_size game_known readRow goalRow frogs timesRead hasImage) hB (c_X7_hasBrook l E a b page_codes page_size rules_stones rules_signs rules_any rules_back rules_ring rules_two otherRules_stones otherRules_signs otherRules_any otherRules_back otherRules_ring otherRules_two now_made now_movers now_row now_numbers now_size kept_made kept_movers kept_row kept_numbers kept_size toGoal_table_slots toGoal_table_rows toGoal_table_size toGoal_depths toGoal_ways toGoal_stuckRows toGoal_soonestStuck afresh_table_slots afresh_table_rows afresh_table_size afresh_depths afresh_ways afresh_stuckRows afresh_soonestStuck game_table_slots game_table_rows game_table_size game_known readRow goalRow frogs timesRead hasImage h_29) mi_X7_hasBrook ⟨ki_X7_hasBrook, kv_X7_hasBrook⟩ km_X7_172 ⟨rfl, rfl, Nat.le_of_ble_eq_true rfl, Nat.le_of_ble_eq_true rfl⟩ Lies.same 0 rfl rfl rfl rfl (Nat.le_of_ble_eq_true rfl) dX7_digest_108 ?_
      show J l E rX7_digest Y (wX E a b page_codes page_size rules_stones rules_signs rules_any rules_back rules_ring rules_two otherRules_stones otherRules_signs otherRules_any otherRules_back otherRules_ring otherRules_two now_made now_movers now_row now_numbers now_size kept_made kept_movers kept_row kept_numbers kept_size toGoal_table_slots toGoal_table_rows toGoal_table_size toGoal_depths toGoal_ways toGoal_stuckRows toGoal_soonestStuck afresh_table_slots afresh_table_rows afresh_table_size afresh_depths afresh_ways afresh_stuckRows afresh_soonestStuck game_table_slots game_table_rows game_table_size game_known readRow goalRow frogs timesRead hasImage) 111 [(1, .long x1_27), (0, .ref (a b))] [.int r_28]
      refine jn8_e (P := fun x1_30 afresh_table_slots_31 afresh_table_rows_32 afresh_table_size_33 afresh_depths_34 afresh_ways_35 afresh_stuckRows_36 afresh_soonestStuck_37 => J l E rX7_digest Y (wX E a b page_codes page_size rules_stones rules_signs rules_any rules_back rules_ring rules_two otherRules_stones otherRules_signs otherRules_any otherRules_back otherRules_ring otherRules_two now_made now_movers now_row now_numbers now_size kept_made kept_movers kept_row kept_numbers kept_size toGoal_table_slots toGoal_table_rows toGoal_table_size toGoal_depths toGoal_ways toGoal_stuckRows toGoal_soonestStuck afresh_table_slots_31 afresh_table_rows_32 afresh_table_size_33 afresh_depths_34 afresh_ways_35 afresh_stuckRows_36 afresh_soonestStuck_37 game_table_slots game_table_rows game_table_size game_known readRow goalRow frogs timesRead hasImage) 188 [(0, .ref (a b)), (1, .long x1_30)] []) hf (fun x1_30 afresh_table_slots_31 afresh_table_rows_32 afresh_table_size_33 afresh_depths_34 afresh_ways_35 afresh_stuckRows_36 afresh_soonestStuck_37 hf => ?_) (fun j188 hj188 hf => ?_)
      · refine J_aload_n hB dX7_digest_188 rfl 0 rfl ?_
        obtain ⟨r_38, h_39, hf⟩ := cl1_e hf
        refine J_callV (As := []) (rest := []) (n := 0) (ws' := wX E a b page_codes page_size rules_stones rules_signs rules_any rules_back rules_ring rules_two otherRules_stones otherRules_signs otherRules_any otherRules_back otherRules_ring otherRules_two now_made now_movers now_row now_numbers now_size kept_made kept_movers kept_row kept_numbers kept_size toGoal_table_slots toGoal_table_rows toGoal_table_size toGoal_depths toGoal_ways toGoal_stuckRows toGoal_soonestStuck afresh_table_slots_31 afresh_table_rows_32 afresh_table_size_33 afresh_depths_34 afresh_ways_35 afresh_stuckRows_36 afresh_soonestStuck_37 game_table_slots game_table_rows game_table_size game_known readRow goalRow frogs timesRead hasImage) hB (c_X7_hasGame l E a b page_codes page_size rules_stones rules_signs rules_any rules_back rules_ring rules_two otherRules_stones otherRules_signs otherRules_any otherRules_back otherRules_ring otherRules_two now_made now_movers now_row now_numbers now_size kept_made kept_movers kept_row kept_numbers kept_size toGoal_table_slots toGoal_table_rows toGoal_table_size toGoal_depths toGoal_ways toGoal_stuckRows toGoal_soonestStuck afresh_table_slots_31 afresh_table_rows_32 afresh_table_size_33 afresh_depths_34 afresh_ways_35 afresh_stuckRows_36 afresh_soonestStuck_37 game_table_slots game_table_rows game_table_size game_known readRow goalRow frogs timesRead hasImage h_39) mi_X7_hasGame ⟨ki_X7_hasGame, kv_X7_hasGame⟩ km_X7_215 ⟨rfl, rfl, Nat.le_of_ble_eq_true rfl, Nat.le_of_ble_eq_true rfl⟩ Lies.same 0 rfl rfl rfl rfl (Nat.le_of_ble_eq_true rfl) dX7_digest_189 ?_
        show J l E rX7_digest Y (wX E a b page_codes page_size rules_stones rules_signs rules_any rules_back rules_ring rules_two otherRules_stones otherRules_signs otherRules_any otherRules_back otherRules_ring otherRules_two now_made now_movers now_row now_numbers now_size kept_made kept_movers kept_row kept_numbers kept_size toGoal_table_slots toGoal_table_rows toGoal_table_size toGoal_depths toGoal_ways toGoal_stuckRows toGoal_soonestStuck afresh_table_slots_31 afresh_table_rows_32 afresh_table_size_33 afresh_depths_34 afresh_ways_35 afresh_stuckRows_36 afresh_soonestStuck_37 game_table_slots game_table_rows game_table_size game_known readRow goalRow frogs timesRead hasImage) 192 [(0, .ref (a b)), (1, .long x1_30)] [.int r_38]
        refine jn5_e (P := fun x1_40 game_table_slots_41 game_table_rows_42 game_table_size_43 game_known_44 => J l E rX7_digest Y (wX E a b page_codes page_size rules_stones rules_signs rules_any rules_back rules_ring rules_two otherRules_stones otherRules_signs otherRules_any otherRules_back otherRules_ring otherRules_two now_made now_movers now_row now_numbers now_size kept_made kept_movers kept_row kept_numbers kept_size toGoal_table_slots toGoal_table_rows toGoal_table_size toGoal_depths toGoal_ways toGoal_stuckRows toGoal_soonestStuck afresh_table_slots_31 afresh_table_rows_32 afresh_table_size_33 afresh_depths_34 afresh_ways_35 afresh_stuckRows_36 afresh_soonestStuck_37 game_table_slots_41 game_table_rows_42 game_table_size_43 game_known_44 readRow goalRow frogs timesRead hasImage) 221 [(0, .ref (a b)), (1, .long x1_40)] []) hf (fun x1_40 game_table_slots_41 game_table_rows_42 game_table_size_43 game_known_44 hf => ?_) (fun j221 hj221 hf => ?_)
        · refine J_iconst (v := 0) hB dX7_digest_221 rfl ?_
          refine J_istore_n (lv' := [(3, .int 0), (0, .ref (a b)), (1, .long x1_40)]) hB rfl dX7_digest_222 rfl (Nat.le_of_ble_eq_true rfl) rfl ?_
          refine J_lv [1, 2, 0] rfl ?_
          refine lp2_1_J (P := fun x1_45 x3_46 => J l E rX7_digest Y (wX E a b page_codes page_size rules_stones rules_signs rules_any rules_back rules_ring rules_two otherRules_stones otherRules_signs otherRules_any otherRules_back otherRules_ring otherRules_two now_made now_movers now_row now_numbers now_size kept_made kept_movers kept_row kept_numbers kept_size toGoal_table_slots toGoal_table_rows toGoal_table_size toGoal_depths toGoal_ways toGoal_stuckRows toGoal_soonestStuck afresh_table_slots_31 afresh_table_rows_32 afresh_table_size_33 afresh_depths_34 afresh_ways_35 afresh_stuckRows_36 afresh_soonestStuck_37 game_table_slots_41 game_table_rows_42 game_table_size_43 game_known_44 readRow goalRow frogs timesRead hasImage) 223 [(0, .ref (a b)), (1, .long x1_45), (3, .int x3_46)] []) (Q := fun x1_47 => J l E rX7_digest Y (wX E a b page_codes page_size rules_stones rules_signs rules_any rules_back rules_ring rules_two otherRules_stones otherRules_signs otherRules_any otherRules_back otherRules_ring otherRules_two now_made now_movers now_row now_numbers now_size kept_made kept_movers kept_row kept_numbers kept_size toGoal_table_slots toGoal_table_rows toGoal_table_size toGoal_depths toGoal_ways toGoal_stuckRows toGoal_soonestStuck afresh_table_slots_31 afresh_table_rows_32 afresh_table_size_33 afresh_depths_34 afresh_ways_35 afresh_stuckRows_36 afresh_soonestStuck_37 game_table_slots_41 game_table_rows_42 game_table_size_43 game_known_44 readRow goalRow frogs timesRead hasImage) 263 [(0, .ref (a b)), (1, .long x1_47)] []) (fun x1_45 x3_46 nx223 ex223 hnx223 hex223 hf => ?_) (fun x1_47 hf => ?_) hf
          · refine J_iload_n hB dX7_digest_223 rfl 2 rfl ?_
            refine J_aload_n hB dX7_digest_224 rfl 0 rfl ?_
            refine J_get (v := .ref (a (b + 1))) hB inX7 0 rfl rfl 0 (Nat.le_of_ble_eq_true rfl) kf_X7_10 rfl dX7_digest_225 ?_
            refine J_getN (v := .int page_size) hB inX1 1 rfl rfl 1 (Nat.le_of_ble_eq_true rfl) kfN_X7_57 rfl dX7_digest_228 ?_
            refine J_icmp_ge (tgt := 263) hB dX7_digest_231 rfl (fun c_48 => ?_) (fun c_48 => ?_)
            · have hf := it_t c_48 hf
              exact J_lv [0, 1] rfl (hex223 x1_45 hf)
            · have hf := it_f c_48 hf
              refine J_iload_n hB dX7_digest_234 rfl 2 rfl ?_
              refine J_bipush (v := 14) hB dX7_digest_235 rfl ?_
              refine J_icmp_ge (tgt := 263) hB dX7_digest_237 rfl (fun c_49 => ?_) (fun c_49 => ?_)
              · have hf := it_t c_49 hf
                exact J_lv [0, 1] rfl (hex223 x1_45 hf)
              · have hf := it_f c_49 hf
                refine J_ldc2 hB dX7_digest_240 kk_X7_247 ?_
                refine J_lload_n hB dX7_digest_243 rfl 1 rfl ?_
                refine J_lmul hB dX7_digest_244 ?_
                refine J_aload_n hB dX7_digest_245 rfl 0 rfl ?_
                refine J_get (v := .ref (a (b + 1))) hB inX7 0 rfl rfl 0 (Nat.le_of_ble_eq_true rfl) kf_X7_10 rfl dX7_digest_246 ?_
                refine J_getN (v := .ref (a (b + 2))) hB inX1 1 rfl rfl 0 (Nat.le_of_ble_eq_true rfl) kfN_X7_279 rfl dX7_digest_249 ?_
                refine J_iload_n hB dX7_digest_252 rfl 2 rfl ?_
                obtain ⟨v_50, ev_50, h_51, hf⟩ := ald_e hf
                refine J_iald hB 2 rfl ev_50 h_51 dX7_digest_253 ?_
                refine J_i2l hB dX7_digest_254 ?_
                refine J_ladd hB dX7_digest_255 ?_
                obtain ⟨x1_52, ex1_52, hf⟩ := nmv_e hf
                refine J_lstore_n (lv' := [(1, .long x1_52), (0, .ref (a b)), (3, .int x3_46)]) hB ex1_52 dX7_digest_256 rfl (Nat.le_of_ble_eq_true rfl) rfl ?_
                obtain ⟨x3_53, ex3_53, hf⟩ := nmv_e hf
                refine J_iinc (lv' := [(3, .int x3_53), (1, .long x1_52), (0, .ref (a b))]) hB ex3_53 dX7_digest_257 2 rfl (Nat.le_of_ble_eq_true rfl) rfl ?_
                refine J_goto (tgt := 223) hB dX7_digest_260 rfl ?_
                exact J_lv [2, 1, 0] rfl (hnx223 x1_52 x3_53 hf)
          · refine J_iconst (v := 0) hB dX7_digest_263 rfl ?_
            refine J_istore_n (lv' := [(3, .int 0), (0, .ref (a b)), (1, .long x1_47)]) hB rfl dX7_digest_264 rfl (Nat.le_of_ble_eq_true rfl) rfl ?_
            refine J_lv [1, 2, 0] rfl ?_
            refine lp2_1_J (P := fun x1_54 x3_55 => J l E rX7_digest Y (wX E a b page_codes page_size rules_stones rules_signs rules_any rules_back rules_ring rules_two otherRules_stones otherRules_signs otherRules_any otherRules_back otherRules_ring otherRules_two now_made now_movers now_row now_numbers now_size kept_made kept_movers kept_row kept_numbers kept_size toGoal_table_slots toGoal_table_rows toGoal_table_size toGoal_depths toGoal_ways toGoal_stuckRows toGoal_soonestStuck afresh_table_slots_31 afresh_table_rows_32 afresh_table_size_33 afresh_depths_34 afresh_ways_35 afresh_stuckRows_36 afresh_soonestStuck_37 game_table_slots_41 game_table_rows_42 game_table_size_43 game_known_44 readRow goalRow frogs timesRead hasImage) 265 [(0, .ref (a b)), (1, .long x1_54), (3, .int x3_55)] []) (Q := fun x1_56 => J l E rX7_digest Y (wX E a b page_codes page_size rules_stones rules_signs rules_any rules_back rules_ring rules_two otherRules_stones otherRules_signs otherRules_any otherRules_back otherRules_ring otherRules_two now_made now_movers now_row now_numbers now_size kept_made kept_movers kept_row kept_numbers kept_size toGoal_table_slots toGoal_table_rows toGoal_table_size toGoal_depths toGoal_ways toGoal_stuckRows toGoal_soonestStuck afresh_table_slots_31 afresh_table_rows_32 afresh_table_size_33 afresh_depths_34 afresh_ways_35 afresh_stuckRows_36 afresh_soonestStuck_37 game_table_slots_41 game_table_rows_42 game_table_size_43 game_known_44 readRow goalRow frogs timesRead hasImage) 290 [(1, .long x1_56)] []) (fun x1_54 x3_55 nx265 ex265 hnx265 hex265 hf => ?_) (fun x1_56 hf => ?_) hf
            · refine J_iload_n hB dX7_digest_265 rfl 2 rfl ?_
              refine J_bipush (v := 9) hB dX7_digest_266 rfl ?_
              refine J_icmp_gt (tgt := 290) hB dX7_digest_268 rfl (fun c_57 => ?_) (fun c_57 => ?_)
              · have hf := it_t c_57 hf
                exact J_lv [1] rfl (hex265 x1_54 hf)
              · have hf := it_f c_57 hf
                refine J_ldc2 hB dX7_digest_271 kk_X7_247 ?_
                refine J_lload_n hB dX7_digest_274 rfl 1 rfl ?_
                refine J_lmul hB dX7_digest_275 ?_
                refine J_aload_n hB dX7_digest_276 rfl 0 rfl ?_
                refine J_iload_n hB dX7_digest_277 rfl 2 rfl ?_
                obtain ⟨r_58, h_59, hf⟩ := cl1_e hf
                refine J_callV (As := [.int x3_55]) (rest := [.long ((31 : Int64) * x1_54)]) (n := 1) (ws' := wX E a b page_codes page_size rules_stones rules_signs rules_any rules_back rules_ring rules_two otherRules_stones otherRules_signs otherRules_any otherRules_back otherRules_ring otherRules_two now_made now_movers now_row now_numbers now_size kept_made kept_movers kept_row kept_numbers kept_size toGoal_table_slots toGoal_table_rows toGoal_table_size toGoal_depths toGoal_ways toGoal_stuckRows toGoal_soonestStuck afresh_table_slots_31 afresh_table_rows_32 afresh_table_size_33 afresh_depths_34 afresh_ways_35 afresh_stuckRows_36 afresh_soonestStuck_37 game_table_slots_41 game_table_rows_42 game_table_size_43 game_known_44 readRow goalRow frogs timesRead hasImage) hB (c_X7_count l E a b page_codes page_size rules_stones rules_signs rules_any rules_back rules_ring rules_two otherRules_stones otherRules_signs otherRules_any otherRules_back otherRules_ring otherRules_two now_made now_movers now_row now_numbers now_size kept_made kept_movers kept_row kept_numbers kept_size toGoal_table_slots toGoal_table_rows toGoal_table_size toGoal_depths toGoal_ways toGoal_stuckRows toGoal_soonestStuck afresh_table_slots_31 afresh_table_rows_32 afresh_table_size_33 afresh_depths_34 afresh_ways_35 afresh_stuckRows_36 afresh_soonestStuck_37 game_table_slots_41 game_table_rows_42 game_table_size_43 game_known_44 readRow goalRow frogs timesRead hasImage h_59) mi_X7_count ⟨ki_X7_count, kv_X7_count⟩ km_X7_283 ⟨rfl, rfl, Nat.le_of_ble_eq_true rfl, Nat.le_of_ble_eq_true rfl⟩ Lies.same 0 rfl rfl rfl rfl (Nat.le_of_ble_eq_true rfl) dX7_digest_278 ?_
                show J l E rX7_digest Y (wX E a b page_codes page_size rules_stones rules_signs rules_any rules_back rules_ring rules_two otherRules_stones otherRules_signs otherRules_any otherRules_back otherRules_ring otherRules_two now_made now_movers now_row now_numbers now_size kept_made kept_movers kept_row kept_numbers kept_size toGoal_table_slots toGoal_table_rows toGoal_table_size toGoal_depths toGoal_ways toGoal_stuckRows toGoal_soonestStuck afresh_table_slots_31 afresh_table_rows_32 afresh_table_size_33 afresh_depths_34 afresh_ways_35 afresh_stuckRows_36 afresh_soonestStuck_37 game_table_slots_41 game_table_rows_42 game_table_size_43 game_known_44 readRow goalRow frogs timesRead hasImage) 281 [(0, .ref (a b)), (1, .long x1_54), (3, .int x3_55)] [.int r_58, .long ((31 : Int64) * x1_54)]
                refine J_i2l hB dX7_digest_281 ?_
                refine J_ladd hB dX7_digest_282 ?_
                obtain ⟨x1_60, ex1_60, hf⟩ := nmv_e hf
                refine J_lstore_n (lv' := [(1, .long x1_60), (0, .ref (a b)), (3, .int x3_55)]) hB ex1_60 dX7_digest_283 rfl (Nat.le_of_ble_eq_true rfl) rfl ?_
                obtain ⟨x3_61, ex3_61, hf⟩ := nmv_e hf
                refine J_iinc (lv' := [(3, .int x3_61), (1, .long x1_60), (0, .ref (a b))]) hB ex3_61 dX7_digest_284 2 rfl (Nat.le_of_ble_eq_true rfl) rfl ?_
                refine J_goto (tgt := 265) hB dX7_digest_287 rfl ?_
                exact J_lv [2, 1, 0] rfl (hnx265 x1_60 x3_61 hf)
            · refine J_lload_n hB dX7_digest_290 rfl 0 rfl ?_
              obtain rfl := Option.some.inj hf
              exact J_lret hB hR dX7_digest_291
        · refine J_if_eq (tgt := 221) hB dX7_digest_192 rfl (fun c_62 => ?_) (fun c_62 => ?_)
          · have hf := it_t c_62 hf
            exact J_lv [0, 1] rfl (hj221 x1_30 game_table_slots game_table_rows game_table_size game_known hf)
          · have hf := it_f c_62 hf
            refine J_ldc2 hB dX7_digest_195 kk_X7_247 ?_
            refine J_lload_n hB dX7_digest_198 rfl 1 rfl ?_
            refine J_lmul hB dX7_digest_199 ?_
            refine J_aload_n hB dX7_digest_200 rfl 0 rfl ?_
            refine J_iconst (v := 0) hB dX7_digest_201 rfl ?_
            obtain ⟨r_63, game_table_slots_64, game_table_rows_65, game_table_size_66, game_known_67, h_68, hf⟩ := cl5_e hf
            refine J_callV (As := [.int 0]) (rest := [.long ((31 : Int64) * x1_30)]) (n := 1) (ws' := wX E a b page_codes page_size rules_stones rules_signs rules_any rules_back rules_ring rules_two otherRules_stones otherRules_signs otherRules_any otherRules_back otherRules_ring otherRules_two now_made now_movers now_row now_numbers now_size kept_made kept_movers kept_row kept_numbers kept_size toGoal_table_slots toGoal_table_rows toGoal_table_size toGoal_depths toGoal_ways toGoal_stuckRows toGoal_soonestStuck afresh_table_slots_31 afresh_table_rows_32 afresh_table_size_33 afresh_depths_34 afresh_ways_35 afresh_stuckRows_36 afresh_soonestStuck_37 game_table_slots_64 game_table_rows_65 game_table_size_66 game_known_67 readRow goalRow frogs timesRead hasImage) hB (c_X7_wins l E a b page_codes page_size rules_stones rules_signs rules_any rules_back rules_ring rules_two otherRules_stones otherRules_signs otherRules_any otherRules_back otherRules_ring otherRules_two now_made now_movers now_row now_numbers now_size kept_made kept_movers kept_row kept_numbers kept_size toGoal_table_slots toGoal_table_rows toGoal_table_size toGoal_depths toGoal_ways toGoal_stuckRows toGoal_soonestStuck afresh_table_slots_31 afresh_table_rows_32 afresh_table_size_33 afresh_depths_34 afresh_ways_35 afresh_stuckRows_36 afresh_soonestStuck_37 game_table_slots game_table_rows game_table_size game_known readRow goalRow frogs timesRead hasImage h_68) mi_X7_wins ⟨ki_X7_wins, kv_X7_wins⟩ km_X7_276 ⟨rfl, rfl, Nat.le_of_ble_eq_true rfl, Nat.le_of_ble_eq_true rfl⟩ Lies.same 0 rfl rfl rfl rfl (Nat.le_of_ble_eq_true rfl) dX7_digest_202 ?_
            show J l E rX7_digest Y (wX E a b page_codes page_size rules_stones rules_signs rules_any rules_back rules_ring rules_two otherRules_stones otherRules_signs otherRules_any otherRules_back otherRules_ring otherRules_two now_made now_movers now_row now_numbers now_size kept_made kept_movers kept_row kept_numbers kept_size toGoal_table_slots toGoal_table_rows toGoal_table_size toGoal_depths toGoal_ways toGoal_stuckRows toGoal_soonestStuck afresh_table_slots_31 afresh_table_rows_32 afresh_table_size_33 afresh_depths_34 afresh_ways_35 afresh_stuckRows_36 afresh_soonestStuck_37 game_table_slots_64 game_table_rows_65 game_table_size_66 game_known_67 readRow goalRow frogs timesRead hasImage) 205 [(0, .ref (a b)), (1, .long x1_30)] [.int r_63, .long ((31 : Int64) * x1_30)]
            refine J_i2l hB dX7_digest_205 ?_
            refine J_ladd hB dX7_digest_206 ?_
            obtain ⟨x1_69, ex1_69, hf⟩ := nmv_e hf
            refine J_lstore_n (lv' := [(1, .long x1_69), (0, .ref (a b))]) hB ex1_69 dX7_digest_207 rfl (Nat.le_of_ble_eq_true rfl) rfl ?_
            refine J_ldc2 hB dX7_digest_208 kk_X7_247 ?_
            refine J_lload_n hB dX7_digest_211 rfl 0 rfl ?_
            refine J_lmul hB dX7_digest_212 ?_
            refine J_aload_n hB dX7_digest_213 rfl 1 rfl ?_
            refine J_iconst (v := 1) hB dX7_digest_214 rfl ?_
            obtain ⟨r_70, game_table_slots_71, game_table_rows_72, game_table_size_73, game_known_74, h_75, hf⟩ := cl5_e hf
            refine J_callV (As := [.int 1]) (rest := [.long ((31 : Int64) * x1_69)]) (n := 1) (ws' := wX E a b page_codes page_size rules_stones rules_signs rules_any rules_back rules_ring rules_two otherRules_stones otherRules_signs otherRules_any otherRules_back otherRules_ring otherRules_two now_made now_movers now_row now_numbers now_size kept_made kept_movers kept_row kept_numbers kept_size toGoal_table_slots toGoal_table_rows toGoal_table_size toGoal_depths toGoal_ways toGoal_stuckRows toGoal_soonestStuck afresh_table_slots_31 afresh_table_rows_32 afresh_table_size_33 afresh_depths_34 afresh_ways_35 afresh_stuckRows_36 afresh_soonestStuck_37 game_table_slots_71 game_table_rows_72 game_table_size_73 game_known_74 readRow goalRow frogs timesRead hasImage) hB (c_X7_wins l E a b page_codes page_size rules_stones rules_signs rules_any rules_back rules_ring rules_two otherRules_stones otherRules_signs otherRules_any otherRules_back otherRules_ring otherRules_two now_made now_movers now_row now_numbers now_size kept_made kept_movers kept_row kept_numbers kept_size toGoal_table_slots toGoal_table_rows toGoal_table_size toGoal_depths toGoal_ways toGoal_stuckRows toGoal_soonestStuck afresh_table_slots_31 afresh_table_rows_32 afresh_table_size_33 afresh_depths_34 afresh_ways_35 afresh_stuckRows_36 afresh_soonestStuck_37 game_table_slots_64 game_table_rows_65 game_table_size_66 game_known_67 readRow goalRow frogs timesRead hasImage h_75) mi_X7_wins ⟨ki_X7_wins, kv_X7_wins⟩ km_X7_276 ⟨rfl, rfl, Nat.le_of_ble_eq_true rfl, Nat.le_of_ble_eq_true rfl⟩ Lies.same 0 rfl rfl rfl rfl (Nat.le_of_ble_eq_true rfl) dX7_digest_215 ?_
            show J l E rX7_digest Y (wX E a b page_codes page_size rules_stones rules_signs rules_any rules_back rules_ring rules_two otherRules_stones otherRules_signs otherRules_any otherRules_back otherRules_ring otherRules_two now_made now_movers now_row now_numbers now_size kept_made kept_movers kept_row kept_numbers kept_size toGoal_table_slots toGoal_table_rows toGoal_table_size toGoal_depths toGoal_ways toGoal_stuckRows toGoal_soonestStuck afresh_table_slots_31 afresh_table_rows_32 afresh_table_size_33 afresh_depths_34 afresh_ways_35 afresh_stuckRows_36 afresh_soonestStuck_37 game_table_slots_71 game_table_rows_72 game_table_size_73 game_known_74 readRow goalRow frogs timesRead hasImage) 218 [(1, .long x1_69), (0, .ref (a b))] [.int r_70, .long ((31 : Int64) * x1_69)]
            refine J_i2l hB dX7_digest_218 ?_
            refine J_ladd hB dX7_digest_219 ?_
            obtain ⟨x1_76, ex1_76, hf⟩ := nmv_e hf
            refine J_lstore_n (lv' := [(1, .long x1_76), (0, .ref (a b))]) hB ex1_76 dX7_digest_220 rfl (Nat.le_of_ble_eq_true rfl) rfl ?_
            exact J_lv [1, 0] rfl (hj221 x1_76 game_table_slots_71 game_table_rows_72 game_table_size_73 game_known_74 hf)
      · refine J_if_eq (tgt := 188) hB dX7_digest_111 rfl (fun c_77 => ?_) (fun c_77 => ?_)
        · have hf := it_t c_77 hf
          exact J_lv [1, 0] rfl (hj188 x1_27 afresh_table_slots afresh_table_rows afresh_table_size afresh_depths afresh_ways afresh_stuckRows afresh_soonestStuck hf)
        · have hf := it_f c_77 hf
          refine J_iconst (v := 0) hB dX7_digest_114 rfl ?_
          refine J_istore_n (lv' := [(3, .int 0), (1, .long x1_27), (0, .ref (a b))]) hB rfl dX7_digest_115 rfl (Nat.le_of_ble_eq_true rfl) rfl ?_
          refine J_lv [2, 1, 0] rfl ?_
          refine lp2_1_J (P := fun x1_78 x3_79 => J l E rX7_digest Y (wX E a b page_codes page_size rules_stones rules_signs rules_any rules_back rules_ring rules_two otherRules_stones otherRules_signs otherRules_any otherRules_back otherRules_ring otherRules_two now_made now_movers now_row now_numbers now_size kept_made kept_movers kept_row kept_numbers kept_size toGoal_table_slots toGoal_table_rows toGoal_table_size toGoal_depths toGoal_ways toGoal_stuckRows toGoal_soonestStuck afresh_table_slots afresh_table_rows afresh_table_size afresh_depths afresh_ways afresh_stuckRows afresh_soonestStuck game_table_slots game_table_rows game_table_size game_known readRow goalRow frogs timesRead hasImage) 116 [(0, .ref (a b)), (1, .long x1_78), (3, .int x3_79)] []) (Q := fun x1_80 => J l E rX7_digest Y (wX E a b page_codes page_size rules_stones rules_signs rules_any rules_back rules_ring rules_two otherRules_stones otherRules_signs otherRules_any otherRules_back otherRules_ring otherRules_two now_made now_movers now_row now_numbers now_size kept_made kept_movers kept_row kept_numbers kept_size toGoal_table_slots toGoal_table_rows toGoal_table_size toGoal_depths toGoal_ways toGoal_stuckRows toGoal_soonestStuck afresh_table_slots afresh_table_rows afresh_table_size afresh_depths afresh_ways afresh_stuckRows afresh_soonestStuck game_table_slots game_table_rows game_table_size game_known readRow goalRow frogs timesRead hasImage) 140 [(0, .ref (a b)), (1, .long x1_80)] []) (fun x1_78 x3_79 nx116 ex116 hnx116 hex116 hf => ?_) (fun x1_80 hf => ?_) hf
          · refine J_iload_n hB dX7_digest_116 rfl 2 rfl ?_
            refine J_iconst (v := 2) hB dX7_digest_117 rfl ?_
            refine J_icmp_gt (tgt := 140) hB dX7_digest_118 rfl (fun c_81 => ?_) (fun c_81 => ?_)
            · have hf := it_t c_81 hf
              exact J_lv [0, 1] rfl (hex116 x1_78 hf)
            · have hf := it_f c_81 hf
              refine J_ldc2 hB dX7_digest_121 kk_X7_247 ?_
              refine J_lload_n hB dX7_digest_124 rfl 1 rfl ?_
              refine J_lmul hB dX7_digest_125 ?_
              refine J_aload_n hB dX7_digest_126 rfl 0 rfl ?_
              refine J_iload_n hB dX7_digest_127 rfl 2 rfl ?_
              obtain ⟨r_82, h_83, hf⟩ := cl1_e hf
              refine J_callV (As := [.int x3_79]) (rest := [.long ((31 : Int64) * x1_78)]) (n := 1) (ws' := wX E a b page_codes page_size rules_stones rules_signs rules_any rules_back rules_ring rules_two otherRules_stones otherRules_signs otherRules_any otherRules_back otherRules_ring otherRules_two now_made now_movers now_row now_numbers now_size kept_made kept_movers kept_row kept_numbers kept_size toGoal_table_slots toGoal_table_rows toGoal_table_size toGoal_depths toGoal_ways toGoal_stuckRows toGoal_soonestStuck afresh_table_slots afresh_table_rows afresh_table_size afresh_depths afresh_ways afresh_stuckRows afresh_soonestStuck game_table_slots game_table_rows game_table_size game_known readRow goalRow frogs timesRead hasImage) hB (c_X7_fewest l E a b page_codes page_size rules_stones rules_signs rules_any rules_back rules_ring rules_two otherRules_stones otherRules_signs otherRules_any otherRules_back otherRules_ring otherRules_two now_made now_movers now_row now_numbers now_size kept_made kept_movers kept_row kept_numbers kept_size toGoal_table_slots toGoal_table_rows toGoal_table_size toGoal_depths toGoal_ways toGoal_stuckRows toGoal_soonestStuck afresh_table_slots afresh_table_rows afresh_table_size afresh_depths afresh_ways afresh_stuckRows afresh_soonestStuck game_table_slots game_table_rows game_table_size game_known readRow goalRow frogs timesRead hasImage h_83) mi_X7_fewest ⟨ki_X7_fewest, kv_X7_fewest⟩ km_X7_261 ⟨rfl, rfl, Nat.le_of_ble_eq_true rfl, Nat.le_of_ble_eq_true rfl⟩ Lies.same 0 rfl rfl rfl rfl (Nat.le_of_ble_eq_true rfl) dX7_digest_128 ?_
              show J l E rX7_digest Y (wX E a b page_codes page_size rules_stones rules_signs rules_any rules_back rules_ring rules_two otherRules_stones otherRules_signs otherRules_any otherRules_back otherRules_ring otherRules_two now_made now_movers now_row now_numbers now_size kept_made kept_movers kept_row kept_numbers kept_size toGoal_table_slots toGoal_table_rows toGoal_table_size toGoal_depths toGoal_ways toGoal_stuckRows toGoal_soonestStuck afresh_table_slots afresh_table_rows afresh_table_size afresh_depths afresh_ways afresh_stuckRows afresh_soonestStuck game_table_slots game_table_rows game_table_size game_known readRow goalRow frogs timesRead hasImage) 131 [(0, .ref (a b)), (1, .long x1_78), (3, .int x3_79)] [.int r_82, .long ((31 : Int64) * x1_78)]
              refine J_i2l hB dX7_digest_131 ?_
              refine J_ladd hB dX7_digest_132 ?_
              obtain ⟨x1_84, ex1_84, hf⟩ := nmv_e hf
              refine J_lstore_n (lv' := [(1, .long x1_84), (0, .ref (a b)), (3, .int x3_79)]) hB ex1_84 dX7_digest_133 rfl (Nat.le_of_ble_eq_true rfl) rfl ?_
              obtain ⟨x3_85, ex3_85, hf⟩ := nmv_e hf
              refine J_iinc (lv' := [(3, .int x3_85), (1, .long x1_84), (0, .ref (a b))]) hB ex3_85 dX7_digest_134 2 rfl (Nat.le_of_ble_eq_true rfl) rfl ?_
              refine J_goto (tgt := 116) hB dX7_digest_137 rfl ?_
              exact J_lv [2, 1, 0] rfl (hnx116 x1_84 x3_85 hf)
          · refine J_ldc2 hB dX7_digest_140 kk_X7_247 ?_
            refine J_lload_n hB dX7_digest_143 rfl 1 rfl ?_
            refine J_lmul hB dX7_digest_144 ?_
            refine J_aload_n hB dX7_digest_145 rfl 0 rfl ?_
            obtain ⟨r_86, h_87, hf⟩ := cl1_e hf
            refine J_callV (As := []) (rest := [.long ((31 : Int64) * x1_80)]) (n := 0) (ws' := wX E a b page_codes page_size rules_stones rules_signs rules_any rules_back rules_ring rules_two otherRules_stones otherRules_signs otherRules_any otherRules_back otherRules_ring otherRules_two now_made now_movers now_row now_numbers now_size kept_made kept_movers kept_row kept_numbers kept_size toGoal_table_slots toGoal_table_rows toGoal_table_size toGoal_depths toGoal_ways toGoal_stuckRows toGoal_soonestStuck afresh_table_slots afresh_table_rows afresh_table_size afresh_depths afresh_ways afresh_stuckRows afresh_soonestStuck game_table_slots game_table_rows game_table_size game_known readRow goalRow frogs timesRead hasImage) hB (c_X7_ways l E a b page_codes page_size rules_stones rules_signs rules_any rules_back rules_ring rules_two otherRules_stones otherRules_signs otherRules_any otherRules_back otherRules_ring otherRules_two now_made now_movers now_row now_numbers now_size kept_made kept_movers kept_row kept_numbers kept_size toGoal_table_slots toGoal_table_rows toGoal_table_size toGoal_depths toGoal_ways toGoal_stuckRows toGoal_soonestStuck afresh_table_slots afresh_table_rows afresh_table_size afresh_depths afresh_ways afresh_stuckRows afresh_soonestStuck game_table_slots game_table_rows game_table_size game_known readRow goalRow frogs timesRead hasImage h_87) mi_X7_ways ⟨ki_X7_ways, kv_X7_ways⟩ km_X7_264 ⟨rfl, rfl, Nat.le_of_ble_eq_true rfl, Nat.le_of_ble_eq_true rfl⟩ Lies.same 0 rfl rfl rfl rfl (Nat.le_of_ble_eq_true rfl) dX7_digest_146 ?_
            show J l E rX7_digest Y (wX E a b page_codes page_size rules_stones rules_signs rules_any rules_back rules_ring rules_two otherRules_stones otherRules_signs otherRules_any otherRules_back otherRules_ring otherRules_two now_made now_movers now_row now_numbers now_size kept_made kept_movers kept_row kept_numbers kept_size toGoal_table_slots toGoal_table_rows toGoal_table_size toGoal_depths toGoal_ways toGoal_stuckRows toGoal_soonestStuck afresh_table_slots afresh_table_rows afresh_table_size afresh_depths afresh_ways afresh_stuckRows afresh_soonestStuck game_table_slots game_table_rows game_table_size game_known readRow goalRow frogs timesRead hasImage) 149 [(0, .ref (a b)), (1, .long x1_80)] [.int r_86, .long ((31 : Int64) * x1_80)]
            refine J_i2l hB dX7_digest_149 ?_
            refine J_ladd hB dX7_digest_150 ?_
            obtain ⟨x1_88, ex1_88, hf⟩ := nmv_e hf
            refine J_lstore_n (lv' := [(1, .long x1_88), (0, .ref (a b))]) hB ex1_88 dX7_digest_151 rfl (Nat.le_of_ble_eq_true rfl) rfl ?_
            refine J_ldc2 hB dX7_digest_152 kk_X7_247 ?_
            refine J_lload_n hB dX7_digest_155 rfl 0 rfl ?_
            refine J_lmul hB dX7_digest_156 ?_
            refine J_aload_n hB dX7_digest_157 rfl 1 rfl ?_
            obtain ⟨r_89, h_90, hf⟩ := cl1_e hf
            refine J_callV (As := []) (rest := [.long ((31 : Int64) * x1_88)]) (n := 0) (ws' := wX E a b page_codes page_size rules_stones rules_signs rules_any rules_back rules_ring rules_two otherRules_stones otherRules_signs otherRules_any otherRules_back otherRules_ring otherRules_two now_made now_movers now_row now_numbers now_size kept_made kept_movers kept_row kept_numbers kept_size toGoal_table_slots toGoal_table_rows toGoal_table_size toGoal_depths toGoal_ways toGoal_stuckRows toGoal_soonestStuck afresh_table_slots afresh_table_rows afresh_table_size afresh_depths afresh_ways afresh_stuckRows afresh_soonestStuck game_table_slots game_table_rows game_table_size game_known readRow goalRow frogs timesRead hasImage) hB (c_X7_wrong l E a b page_codes page_size rules_stones rules_signs rules_any rules_back rules_ring rules_two otherRules_stones otherRules_signs otherRules_any otherRules_back otherRules_ring otherRules_two now_made now_movers now_row now_numbers now_size kept_made kept_movers kept_row kept_numbers kept_size toGoal_table_slots toGoal_table_rows toGoal_table_size toGoal_depths toGoal_ways toGoal_stuckRows toGoal_soonestStuck afresh_table_slots afresh_table_rows afresh_table_size afresh_depths afresh_ways afresh_stuckRows afresh_soonestStuck game_table_slots game_table_rows game_table_size game_known readRow goalRow frogs timesRead hasImage h_90) mi_X7_wrong ⟨ki_X7_wrong, kv_X7_wrong⟩ km_X7_267 ⟨rfl, rfl, Nat.le_of_ble_eq_true rfl, Nat.le_of_ble_eq_true rfl⟩ Lies.same 0 rfl rfl rfl rfl (Nat.le_of_ble_eq_true rfl) dX7_digest_158 ?_
            show J l E rX7_digest Y (wX E a b page_codes page_size rules_stones rules_signs rules_any rules_back rules_ring rules_two otherRules_stones otherRules_signs otherRules_any otherRules_back otherRules_ring otherRules_two now_made now_movers now_row now_numbers now_size kept_made kept_movers kept_row kept_numbers kept_size toGoal_table_slots toGoal_table_rows toGoal_table_size toGoal_depths toGoal_ways toGoal_stuckRows toGoal_soonestStuck afresh_table_slots afresh_table_rows afresh_table_size afresh_depths afresh_ways afresh_stuckRows afresh_soonestStuck game_table_slots game_table_rows game_table_size game_known readRow goalRow frogs timesRead hasImage) 161 [(1, .long x1_88), (0, .ref (a b))] [.int r_89, .long ((31 : Int64) * x1_88)]
            refine J_i2l hB dX7_digest_161 ?_
            refine J_ladd hB dX7_digest_162 ?_
            obtain ⟨x1_91, ex1_91, hf⟩ := nmv_e hf
            refine J_lstore_n (lv' := [(1, .long x1_91), (0, .ref (a b))]) hB ex1_91 dX7_digest_163 rfl (Nat.le_of_ble_eq_true rfl) rfl ?_
            refine J_ldc2 hB dX7_digest_164 kk_X7_247 ?_
            refine J_lload_n hB dX7_digest_167 rfl 0 rfl ?_
            refine J_lmul hB dX7_digest_168 ?_
            refine J_aload_n hB dX7_digest_169 rfl 1 rfl ?_
            obtain ⟨r_92, afresh_table_slots_93, afresh_table_rows_94, afresh_table_size_95, afresh_depths_96, afresh_ways_97, afresh_stuckRows_98, afresh_soonestStuck_99, h_100, hf⟩ := cl8_e hf
            refine J_callV (As := []) (rest := [.long ((31 : Int64) * x1_91)]) (n := 0) (ws' := wX E a b page_codes page_size rules_stones rules_signs rules_any rules_back rules_ring rules_two otherRules_stones otherRules_signs otherRules_any otherRules_back otherRules_ring otherRules_two now_made now_movers now_row now_numbers now_size kept_made kept_movers kept_row kept_numbers kept_size toGoal_table_slots toGoal_table_rows toGoal_table_size toGoal_depths toGoal_ways toGoal_stuckRows toGoal_soonestStuck afresh_table_slots_93 afresh_table_rows_94 afresh_table_size_95 afresh_depths_96 afresh_ways_97 afresh_stuckRows_98 afresh_soonestStuck_99 game_table_slots game_table_rows game_table_size game_known readRow goalRow frogs timesRead hasImage) hB (c_X7_ends l E a b page_codes page_size rules_stones rules_signs rules_any rules_back rules_ring rules_two otherRules_stones otherRules_signs otherRules_any otherRules_back otherRules_ring otherRules_two now_made now_movers now_row now_numbers now_size kept_made kept_movers kept_row kept_numbers kept_size toGoal_table_slots toGoal_table_rows toGoal_table_size toGoal_depths toGoal_ways toGoal_stuckRows toGoal_soonestStuck afresh_table_slots afresh_table_rows afresh_table_size afresh_depths afresh_ways afresh_stuckRows afresh_soonestStuck game_table_slots game_table_rows game_table_size game_known readRow goalRow frogs timesRead hasImage h_100) mi_X7_ends ⟨ki_X7_ends, kv_X7_ends⟩ km_X7_270 ⟨rfl, rfl, Nat.le_of_ble_eq_true rfl, Nat.le_of_ble_eq_true rfl⟩ Lies.same 0 rfl rfl rfl rfl (Nat.le_of_ble_eq_true rfl) dX7_digest_170 ?_
            show J l E rX7_digest Y (wX E a b page_codes page_size rules_stones rules_signs rules_any rules_back rules_ring rules_two otherRules_stones otherRules_signs otherRules_any otherRules_back otherRules_ring otherRules_two now_made now_movers now_row now_numbers now_size kept_made kept_movers kept_row kept_numbers kept_size toGoal_table_slots toGoal_table_rows toGoal_table_size toGoal_depths toGoal_ways toGoal_stuckRows toGoal_soonestStuck afresh_table_slots_93 afresh_table_rows_94 afresh_table_size_95 afresh_depths_96 afresh_ways_97 afresh_stuckRows_98 afresh_soonestStuck_99 game_table_slots game_table_rows game_table_size game_known readRow goalRow frogs timesRead hasImage) 173 [(1, .long x1_91), (0, .ref (a b))] [.int r_92, .long ((31 : Int64) * x1_91)]
            refine J_i2l hB dX7_digest_173 ?_
            refine J_ladd hB dX7_digest_174 ?_
            obtain ⟨x1_101, ex1_101, hf⟩ := nmv_e hf
            refine J_lstore_n (lv' := [(1, .long x1_101), (0, .ref (a b))]) hB ex1_101 dX7_digest_175 rfl (Nat.le_of_ble_eq_true rfl) rfl ?_
            refine J_ldc2 hB dX7_digest_176 kk_X7_247 ?_
            refine J_lload_n hB dX7_digest_179 rfl 0 rfl ?_
            refine J_lmul hB dX7_digest_180 ?_
            refine J_aload_n hB dX7_digest_181 rfl 1 rfl ?_
            obtain ⟨r_102, afresh_table_slots_103, afresh_table_rows_104, afresh_table_size_105, afresh_depths_106, afresh_ways_107, afresh_stuckRows_108, afresh_soonestStuck_109, h_110, hf⟩ := cl8_e hf
            refine J_callV (As := []) (rest := [.long ((31 : Int64) * x1_101)]) (n := 0) (ws' := wX E a b page_codes page_size rules_stones rules_signs rules_any rules_back rules_ring rules_two otherRules_stones otherRules_signs otherRules_any otherRules_back otherRules_ring otherRules_two now_made now_movers now_row now_numbers now_size kept_made kept_movers kept_row kept_numbers kept_size toGoal_table_slots toGoal_table_rows toGoal_table_size toGoal_depths toGoal_ways toGoal_stuckRows toGoal_soonestStuck afresh_table_slots_103 afresh_table_rows_104 afresh_table_size_105 afresh_depths_106 afresh_ways_107 afresh_stuckRows_108 afresh_soonestStuck_109 game_table_slots game_table_rows game_table_size game_known readRow goalRow frogs timesRead hasImage) hB (c_X7_soon l E a b page_codes page_size rules_stones rules_signs rules_any rules_back rules_ring rules_two otherRules_stones otherRules_signs otherRules_any otherRules_back otherRules_ring otherRules_two now_made now_movers now_row now_numbers now_size kept_made kept_movers kept_row kept_numbers kept_size toGoal_table_slots toGoal_table_rows toGoal_table_size toGoal_depths toGoal_ways toGoal_stuckRows toGoal_soonestStuck afresh_table_slots_93 afresh_table_rows_94 afresh_table_size_95 afresh_depths_96 afresh_ways_97 afresh_stuckRows_98 afresh_soonestStuck_99 game_table_slots game_table_rows game_table_size game_known readRow goalRow frogs timesRead hasImage h_110) mi_X7_soon ⟨ki_X7_soon, kv_X7_soon⟩ km_X7_273 ⟨rfl, rfl, Nat.le_of_ble_eq_true rfl, Nat.le_of_ble_eq_true rfl⟩ Lies.same 0 rfl rfl rfl rfl (Nat.le_of_ble_eq_true rfl) dX7_digest_182 ?_
            show J l E rX7_digest Y (wX E a b page_codes page_size rules_stones rules_signs rules_any rules_back rules_ring rules_two otherRules_stones otherRules_signs otherRules_any otherRules_back otherRules_ring otherRules_two now_made now_movers now_row now_numbers now_size kept_made kept_movers kept_row kept_numbers kept_size toGoal_table_slots toGoal_table_rows toGoal_table_size toGoal_depths toGoal_ways toGoal_stuckRows toGoal_soonestStuck afresh_table_slots_103 afresh_table_rows_104 afresh_table_size_105 afresh_depths_106 afresh_ways_107 afresh_stuckRows_108 afresh_soonestStuck_109 game_table_slots game_table_rows game_table_size game_known readRow goalRow frogs timesRead hasImage) 185 [(1, .long x1_101), (0, .ref (a b))] [.int r_102, .long ((31 : Int64) * x1_101)]
            refine J_i2l hB dX7_digest_185 ?_
            refine J_ladd hB dX7_digest_186 ?_
            obtain ⟨x1_111, ex1_111, hf⟩ := nmv_e hf
            refine J_lstore_n (lv' := [(1, .long x1_111), (0, .ref (a b))]) hB ex1_111 dX7_digest_187 rfl (Nat.le_of_ble_eq_true rfl) rfl ?_
            exact J_lv [1, 0] rfl (hj188 x1_111 afresh_table_slots_103 afresh_table_rows_104 afresh_table_size_105 afresh_depths_106 afresh_ways_107 afresh_stuckRows_108 afresh_soonestStuck_109 hf)
