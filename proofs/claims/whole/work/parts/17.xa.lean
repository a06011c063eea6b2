def f_X7_hasBrook (rules_stones : Int32) : Option (Int32) :=
if rules_stones ≤ 0 then (
some 0) else (
some 1)
abbrev rX7_hasBrook : Room := { frames := 0, cells := 0, slots := 0, locals := 0 }
set_option maxRecDepth 100000 in
set_option maxHeartbeats 4000000 in
theorem c_X7_hasBrook (l : Launch) (E : En) (a : Nat → Nat) (b : Nat) (page_codes : Nat → Int32) (page_size : Int32) (rules_stones : Int32) (rules_signs : Int32) (rules_any : Int32) (rules_back : Int32) (rules_ring : Int32) (rules_two : Int32) (otherRules_stones : Int32) (otherRules_signs : Int32) (otherRules_any : Int32) (otherRules_back : Int32) (otherRules_ring : Int32) (otherRules_two : Int32) (now_made : Nat → Int32) (now_movers : Nat → Int32) (now_row : Int32) (now_numbers : Int32) (now_size : Int32) (kept_made : Nat → Int32) (kept_movers : Nat → Int32) (kept_row : Int32) (kept_numbers : Int32) (kept_size : Int32) (toGoal_table_slots : Nat → Int32) (toGoal_table_rows : Nat → Int32) (toGoal_table_size : Int32) (toGoal_depths : Nat → Int32) (toGoal_ways : Nat → Int32) (toGoal_stuckRows : Int32) (toGoal_soonestStuck : Int32) (afresh_table_slots : Nat → Int32) (afresh_table_rows : Nat → Int32) (afresh_table_size : Int32) (afresh_depths : Nat → Int32) (afresh_ways : Nat → Int32) (afresh_stuckRows : Int32) (afresh_soonestStuck : Int32) (game_table_slots : Nat → Int32) (game_table_rows : Nat → Int32) (game_table_size : Int32) (game_known : Nat → Int32) (readRow : Int32) (goalRow : Int32) (frogs : Int32) (timesRead : Int32) (hasImage : Int32) {res : Int32} (hf : f_X7_hasBrook rules_stones = some res) : Ct l yX7_hasBrook (.code yX7_hasBrook cX7_hasBrook 1 (some .boolean)) rX7_hasBrook E [.ref (a b)] (wX E a b page_codes page_size rules_stones rules_signs rules_any rules_back rules_ring rules_two otherRules_stones otherRules_signs otherRules_any otherRules_back otherRules_ring otherRules_two now_made now_movers now_row now_numbers now_size kept_made kept_movers kept_row kept_numbers kept_size toGoal_table_slots toGoal_table_rows toGoal_table_size toGoal_depths toGoal_ways toGoal_stuckRows toGoal_soonestStuck afresh_table_slots afresh_table_rows afresh_table_size afresh_depths afresh_ways afresh_stuckRows afresh_soonestStuck game_table_slots game_table_rows game_table_size game_known readRow goalRow frogs timesRead hasImage) (some (.int res)) (wX E a b page_codes page_size rules_stones rules_signs rules_any rules_back rules_ring rules_two otherRules_stones otherRules_signs otherRules_any otherRules_back otherRules_ring otherRules_two now_made now_movers now_row now_numbers now_size kept_made kept_movers kept_row kept_numbers kept_size toGoal_table_slots toGoal_table_rows toGoal_table_size toGoal_depths toGoal_ways toGoal_stuckRows toGoal_soonestStuck afresh_table_slots afresh_table_rows afresh_table_size afresh_depths afresh_ways afresh_stuckRows afresh_soonestStuck game_table_slots game_table_rows game_table_size game_known readRow goalRow frogs timesRead hasImage) := by
  refine Ct.of (by decide) (Nat.le_of_ble_eq_true rfl) (fun Y hB hR => ?_)
  have hB : Cb E cX7_hasBrook RX7 rX7_hasBrook 1 Y := hB
  show J l E rX7_hasBrook Y (wX E a b page_codes page_size rules_stones rules_signs rules_any rules_back rules_ring rules_two otherRules_stones otherRules_signs otherRules_any otherRules_back otherRules_ring otherRules_two now_made now_movers now_row now_numbers now_size kept_made kept_movers kept_row kept_numbers kept_size toGoal_table_slots toGoal_table_rows toGoal_table_size toGoal_depths toGoal_ways toGoal_stuckRows toGoal_soonestStuck afresh_table_slots afresh_table_rows afresh_table_size afresh_depths afresh_ways afresh_stuckRows afresh_soonestStuck game_table_slots game_table_rows game_table_size game_known readRow goalRow frogs timesRead hasImage) 0 [(0, .ref (a b))] []
  unfold f_X7_hasBrook at hf
  refine J_aload_n hB dX7_hasBrook_0 rfl 0 rfl ?_
  refine J_get (v := .ref (a (b + 3))) hB inX7 0 rfl rfl 1 (Nat.le_of_ble_eq_true rfl) kf_X7_19 rfl dX7_hasBrook_1 ?_
  refine J_getN (v := .int rules_stones) hB inX4 3 rfl rfl 0 (Nat.le_of_ble_eq_true rfl) kfN_X7_89 rfl dX7_hasBrook_4 ?_
  refine J_if_le (tgt := 14) hB dX7_hasBrook_7 rfl (fun c_1 => ?_) (fun c_1 => ?_)
  · have hf := it_t c_1 hf
    refine J_iconst (v := 0) hB dX7_hasBrook_14 rfl ?_
    obtain rfl := Option.some.inj hf
    exact J_zret hB hR (Or.inl rfl) dX7_hasBrook_15
  · have hf := it_f c_1 hf
    refine J_iconst (v := 1) hB dX7_hasBrook_10 rfl ?_
    refine J_goto (tgt := 15) hB dX7_hasBrook_11 rfl ?_
    obtain rfl := Option.some.inj hf
    exact J_zret hB hR (Or.inr rfl) dX7_hasBrook_15
def f_X7_hasGame (rules_stones : Int32) (rules_back : Int32) (rules_ring : Int32) : Option (Int32) :=
cl1 (f_X7_hasBrook rules_stones) fun r_1 =>
if r_1 = 0 then (
some 0) else (
if rules_back = 0 then (
if rules_ring = 0 then (
some 1) else (
some 0)) else (
some 0))
abbrev rX7_hasGame : Room := { frames := 1, cells := 0, slots := 0, locals := 20 }
set_option maxRecDepth 100000 in
set_option maxHeartbeats 4000000 in
theorem c_X7_hasGame (l : Launch) (E : En) (a : Nat → Nat) (b : Nat) (page_codes : Nat → Int32) (page_size : Int32) (rules_stones : Int32) (rules_signs : Int32) (rules_any : Int32) (rules_back : Int32) (rules_ring : Int32) (rules_two : Int32) (otherRules_stones : Int32) (otherRules_signs : Int32) (otherRules_any : Int32) (otherRules_back : Int32) (otherRules_ring : Int32) (otherRules_two : Int32) (now_made : Nat → Int32) (now_movers : Nat → Int32) (now_row : Int32) (now_numbers : Int32) (now_size : Int32) (kept_made : Nat → Int32) (kept_movers : Nat → Int32) (kept_row : Int32) (kept_numbers : Int32) (kept_size : Int32) (toGoal_table_slots : Nat → Int32) (toGoal_table_rows : Nat → Int32) (toGoal_table_size : Int32) (toGoal_depths : Nat → Int32) (toGoal_ways : Nat → Int32) (toGoal_stuckRows : Int32) (toGoal_soonestStuck : Int32) (afresh_table_slots : Nat → Int32) (afresh_table_rows : Nat → Int32) (afresh_table_size : Int32) (afresh_depths : Nat → Int32) (afresh_ways : Nat → Int32) (afresh_stuckRows : Int32) (afresh_soonestStuck : Int32) (game_table_slots : Nat → Int32) (game_table_rows : Nat → Int32) (game_table_size : Int32) (game_known : Nat → Int32) (readRow : Int32) (goalRow : Int32) (frogs : Int32) (timesRead : Int32) (hasImage : Int32) {res : Int32} (hf : f_X7_hasGame rules_stones rules_back rules_ring = some res) : Ct l yX7_hasGame (.code yX7_hasGame cX7_hasGame 1 (some .boolean)) rX7_hasGame E [.ref (a b)] (wX E a b page_codes page_size rules_stones rules_signs rules_any rules_back rules_ring rules_two otherRules_stones otherRules_signs otherRules_any otherRules_back otherRules_ring otherRules_two now_made now_movers now_row now_numbers now_size kept_made kept_movers kept_row kept_numbers kept_size toGoal_table_slots toGoal_table_rows toGoal_table_size toGoal_depths toGoal_ways toGoal_stuckRows toGoal_soonestStuck afresh_table_slots afresh_table_rows afresh_table_size afresh_depths afresh_ways afresh_stuckRows afresh_soonestStuck game_table_slots game_table_rows game_table_size game_known readRow goalRow frogs timesRead hasImage) (some (.int res)) (wX E a b page_codes page_size rules_stones rules_signs rules_any rules_back rules_ring rules_two otherRules_stones otherRules_signs otherRules_any otherRules_back otherRules_ring otherRules_two now_made now_movers now_row now_numbers now_size kept_made kept_movers kept_row kept_numbers kept_size toGoal_table_slots toGoal_table_rows toGoal_table_size toGoal_depths toGoal_ways toGoal_stuckRows toGoal_soonestStuck afresh_table_slots afresh_table_rows afresh_table_size afresh_depths afresh_ways afresh_stuckRows afresh_soonestStuck game_table_slots game_table_rows game_table_size game_known readRow goalRow frogs timesRead hasImage) := by
  refine Ct.of (by decide) (Nat.le_of_ble_eq_true rfl) (fun Y hB hR => ?_)
  have hB : Cb E cX7_hasGame RX7 rX7_hasGame 1 Y := hB
  show J l E rX7_hasGame Y (wX E a b page_codes page_size rules_stones rules_signs rules_any rules_back rules_ring rules_two otherRules_stones otherRules_signs otherRules_any otherRules_back otherRules_ring otherRules_two now_made now_movers now_row now_numbers now_size kept_made kept_movers kept_row kept_numbers kept_size toGoal_table_slots toGoal_table_rows toGoal_table_size toGoal_depths toGoal_ways toGoal_stuckRows toGoal_soonestStuck afresh_table_slots afresh_table_rows afresh_table_size afresh_depths afresh_ways afresh_stuckRows afresh_soonestStuck game_table_slots game_table_rows game_table_size game_known readRow goalRow frogs timesRead hasImage) 0 [(0, .ref (a b))] []
  unfold f_X7_hasGame at hf
  refine J_aload_n hB dX7_hasGame_0 rfl 0 rfl ?_
  obtain ⟨r_1, h_2, hf⟩ := cl1_e hf
  refine J_callV (As := []) (rest := []) (n := 0) (ws' := wX E a b page_codes page_size rules_stones rules_signs rules_any rules_back rules_ring rules_two otherRules_stones otherRules_signs otherRules_any otherRules_back otherRules_ring otherRules_two now_made now_movers now_row now_numbers now_size kept_made kept_movers kept_row kept_numbers kept_size toGoal_table_slots toGoal_table_rows toGoal_table_size toGoal_depths toGoal_ways toGoal_stuckRows toGoal_soonestStuck afresh_table_slots afresh_table_rows afresh_table_size afresh_depths afresh_ways afresh_stuckRows afresh_soonestStuck game_table_slots game_table_rows game_table_size game_known readRow goalRow frogs timesRead hasImage) hB (c_X7_hasBrook l E a b page_codes page_size rules_stones rules_signs rules_any rules_back rules_ring rules_two otherRules_stones otherRules_signs otherRules_any otherRules_back otherRules_ring otherRules_two now_made now_movers now_row now_numbers now_size kept_made kept_movers kept_row kept_numbers kept_size toGoal_table_slots toGoal_table_rows toGoal_table_size toGoal_depths toGoal_ways toGoal_stuckRows toGoal_soonestStuck afresh_table_slots afresh_table_rows afresh_table_size afresh_depths afresh_ways afresh_stuckRows afresh_soonestStuck game_table_slots game_table_rows game_table_size game_known readRow goalRow frogs timesRead hasImage h_2) mi_X7_hasBrook ⟨ki_X7_hasBrook, kv_X7_hasBrook⟩ km_X7_172 ⟨rfl, rfl, Nat.le_of_ble_eq_true rfl, Nat.le_of_ble_eq_true rfl⟩ Lies.same 0 rfl rfl rfl rfl (Nat.le_of_ble_eq_true rfl) dX7_hasGame_1 ?_
  show J l E rX7_hasGame Y (wX E a b page_codes page_size rules_stones rules_signs rules_any rules_back rules_ring rules_two otherRules_stones otherRules_signs otherRules_any otherRules_back otherRules_ring otherRules_two now_made now_movers now_row now_numbers now_size kept_made kept_movers kept_row kept_numbers kept_size toGoal_table_slots toGoal_table_rows toGoal_table_size toGoal_depths toGoal_ways toGoal_stuckRows toGoal_soonestStuck afresh_table_slots afresh_table_rows afresh_table_size afresh_depths afresh_ways afresh_stuckRows afresh_soonestStuck game_table_slots game_table_rows game_table_size game_known readRow goalRow frogs timesRead hasImage) 4 [(0, .ref (a b))] [.int r_1]
  refine J_if_eq (tgt := 31) hB dX7_hasGame_4 rfl (fun c_3 => ?_) (fun c_3 => ?_)
  · have hf := it_t c_3 hf
    refine J_iconst (v := 0) hB dX7_hasGame_31 rfl ?_
    obtain rfl := Option.some.inj hf
    exact J_zret hB hR (Or.inl rfl) dX7_hasGame_32
  · have hf := it_f c_3 hf
    refine J_aload_n hB dX7_hasGame_7 rfl 0 rfl ?_
    refine J_get (v := .ref (a (b + 3))) hB inX7 0 rfl rfl 1 (Nat.le_of_ble_eq_true rfl) kf_X7_19 rfl dX7_hasGame_8 ?_
    refine J_getN (v := .int rules_back) hB inX4 3 rfl rfl 3 (Nat.le_of_ble_eq_true rfl) kfN_X7_286 rfl dX7_hasGame_11 ?_
    refine J_if_ne (tgt := 31) hB dX7_hasGame_14 rfl (fun c_4 => ?_) (fun c_4 => ?_)
    · have hf := it_f c_4 hf
      refine J_iconst (v := 0) hB dX7_hasGame_31 rfl ?_
      obtain rfl := Option.some.inj hf
      exact J_zret hB hR (Or.inl rfl) dX7_hasGame_32
    · have hf := it_t c_4 hf
      refine J_aload_n hB dX7_hasGame_17 rfl 0 rfl ?_
      refine J_get (v := .ref (a (b + 3))) hB inX7 0 rfl rfl 1 (Nat.le_of_ble_eq_true rfl) kf_X7_19 rfl dX7_hasGame_18 ?_
      refine J_getN (v := .int rules_ring) hB inX4 3 rfl rfl 4 (Nat.le_of_ble_eq_true rfl) kfN_X7_289 rfl dX7_hasGame_21 ?_
      refine J_if_ne (tgt := 31) hB dX7_hasGame_24 rfl (fun c_5 => ?_) (fun c_5 => ?_)
      · have hf := it_f c_5 hf
        refine J_iconst (v := 0) hB dX7_hasGame_31 rfl ?_
        obtain rfl := Option.some.inj hf
        exact J_zret hB hR (Or.inl rfl) dX7_hasGame_32
      · have hf := it_t c_5 hf
        refine J_iconst (v := 1) hB dX7_hasGame_27 rfl ?_
        refine J_goto (tgt := 32) hB dX7_hasGame_28 rfl ?_
        obtain rfl := Option.some.inj hf
        exact J_zret hB hR (Or.inr rfl) dX7_hasGame_32
def f_X7_isStone (rules_stones : Int32) (p0 : Int32) : Option (Int32) :=
if p0 < 0 then (
some 0) else (
if rules_stones ≤ p0 then (
some 0) else (
some 1))
abbrev rX7_isStone : Room := { frames := 0, cells := 0, slots := 0, locals := 0 }
set_option maxRecDepth 100000 in
set_option maxHeartbeats 4000000 in
theorem c_X7_isStone (l : Launch) (E : En) (a : Nat → Nat) (b : Nat) (page_codes : Nat → Int32) (page_size : Int32) (rules_stones : Int32) (rules_signs : Int32) (rules_any : Int32) (rules_back : Int32) (rules_ring : Int32) (rules_two : Int32) (otherRules_stones : Int32) (otherRules_signs : Int32) (otherRules_any : Int32) (otherRules_back : Int32) (otherRules_ring : Int32) (otherRules_two : Int32) (now_made : Nat → Int32) (now_movers : Nat → Int32) (now_row : Int32) (now_numbers : Int32) (now_size : Int32) (kept_made : Nat → Int32) (kept_movers : Nat → Int32) (kept_row : Int32) (kept_numbers : Int32) (kept_size : Int32) (toGoal_table_slots : Nat → Int32) (toGoal_table_rows : Nat → Int32) (toGoal_table_size : Int32) (toGoal_depths : Nat → Int32) (toGoal_ways : Nat → Int32) (toGoal_stuckRows : Int32) (toGoal_soonestStuck : Int32) (afresh_table_slots : Nat → Int32) (afresh_table_rows : Nat → Int32) (afresh_table_size : Int32) (afresh_depths : Nat → Int32) (afresh_ways : Nat → Int32) (afresh_stuckRows : Int32) (afresh_soonestStuck : Int32) (game_table_slots : Nat → Int32) (game_table_rows : Nat → Int32) (game_table_size : Int32) (game_known : Nat → Int32) (readRow : Int32) (goalRow : Int32) (frogs : Int32) (timesRead : Int32) (hasImage : Int32) {p0 : Int32} {res : Int32} (hf : f_X7_isStone rules_stones p0 = some res) : Ct l yX7_isStone (.code yX7_isStone cX7_isStone 2 (some .boolean)) rX7_isStone E [.ref (a b), .int p0] (wX E a b page_codes page_size rules_stones rules_signs rules_any rules_back rules_ring rules_two otherRules_stones otherRules_signs otherRules_any otherRules_back otherRules_ring otherRules_two now_made now_movers now_row now_numbers now_size kept_made kept_movers kept_row kept_numbers kept_size toGoal_table_slots toGoal_table_rows toGoal_table_size toGoal_depths toGoal_ways toGoal_stuckRows toGoal_soonestStuck afresh_table_slots afresh_table_rows afresh_table_size afresh_depths afresh_ways afresh_stuckRows afresh_soonestStuck game_table_slots game_table_rows game_table_size game_known readRow goalRow frogs timesRead hasImage) (some (.int res)) (wX E a b page_codes page_size rules_stones rules_signs rules_any rules_back rules_ring rules_two otherRules_stones otherRules_signs otherRules_any otherRules_back otherRules_ring otherRules_two now_made now_movers now_row now_numbers now_size kept_made kept_movers kept_row kept_numbers kept_size toGoal_table_slots toGoal_table_rows toGoal_table_size toGoal_depths toGoal_ways toGoal_stuckRows toGoal_soonestStuck afresh_table_slots afresh_table_rows afresh_table_size afresh_depths afresh_ways afresh_stuckRows afresh_soonestStuck game_table_slots game_table_rows game_table_size game_known readRow goalRow frogs timesRead hasImage) := by
  refine Ct.of (by decide) (Nat.le_of_ble_eq_true rfl) (fun Y hB hR => ?_)
  have hB : Cb E cX7_isStone RX7 rX7_isStone 2 Y := hB
  show J l E rX7_isStone Y (wX E a b page_codes page_size rules_stones rules_signs rules_any rules_back rules_ring rules_two otherRules_stones otherRules_signs otherRules_any otherRules_back otherRules_ring otherRules_two now_made now_movers now_row now_numbers now_size kept_made kept_movers kept_row kept_numbers kept_size toGoal_table_slots toGoal_table_rows toGoal_table_size toGoal_depths toGoal_ways toGoal_stuckRows toGoal_soonestStuck afresh_table_slots afresh_table_rows afresh_table_size afresh_depths afresh_ways afresh_stuckRows afresh_soonestStuck game_table_slots game_table_rows game_table_size game_known readRow goalRow frogs timesRead hasImage) 0 [(0, .ref (a b)), (1, .int p0)] []
  unfold f_X7_isStone at hf
  refine J_iload_n hB dX7_isStone_0 rfl 1 rfl ?_
  refine J_if_lt (tgt := 19) hB dX7_isStone_1 rfl (fun c_1 => ?_) (fun c_1 => ?_)
  · have hf := it_t c_1 hf
    refine J_iconst (v := 0) hB dX7_isStone_19 rfl ?_
    obtain rfl := Option.some.inj hf
    exact J_zret hB hR (Or.inl rfl) dX7_isStone_20
  · have hf := it_f c_1 hf
    refine J_iload_n hB dX7_isStone_4 rfl 1 rfl ?_
    refine J_aload_n hB dX7_isStone_5 rfl 0 rfl ?_
    refine J_get (v := .ref (a (b + 3))) hB inX7 0 rfl rfl 1 (Nat.le_of_ble_eq_true rfl) kf_X7_19 rfl dX7_isStone_6 ?_
    refine J_getN (v := .int rules_stones) hB inX4 3 rfl rfl 0 (Nat.le_of_ble_eq_true rfl) kfN_X7_89 rfl dX7_isStone_9 ?_
    refine J_icmp_ge (tgt := 19) hB dX7_isStone_12 rfl (fun c_2 => ?_) (fun c_2 => ?_)
    · have hf := it_t c_2 hf
      refine J_iconst (v := 0) hB dX7_isStone_19 rfl ?_
      obtain rfl := Option.some.inj hf
      exact J_zret hB hR (Or.inl rfl) dX7_isStone_20
    · have hf := it_f c_2 hf
      refine J_iconst (v := 1) hB dX7_isStone_15 rfl ?_
      refine J_goto (tgt := 20) hB dX7_isStone_16 rfl ?_
      obtain rfl := Option.some.inj hf
      exact J_zret hB hR (Or.inr rfl) dX7_isStone_20
def f_X7_isFrog (frogs : Int32) (p0 : Int32) : Option (Int32) :=
if p0 < 0 then (
some 0) else (
if frogs ≤ p0 then (
some 0) else (
some 1))
abbrev rX7_isFrog : Room := { frames := 0, cells := 0, slots := 0, locals := 0 }
set_option maxRecDepth 100000 in
set_option maxHeartbeats 4000000 in
theorem c_X7_isFrog (l : Launch) (E : En) (a : Nat → Nat) (b : Nat) (page_codes : Nat → Int32) (page_size : Int32) (rules_stones : Int32) (rules_signs : Int32) (rules_any : Int32) (rules_back : Int32) (rules_ring : Int32) (rules_two : Int32) (otherRules_stones : Int32) (otherRules_signs : Int32) (otherRules_any : Int32) (otherRules_back : Int32) (otherRules_ring : Int32) (otherRules_two : Int32) (now_made : Nat → Int32) (now_movers : Nat → Int32) (now_row : Int32) (now_numbers : Int32) (now_size : Int32) (kept_made : Nat → Int32) (kept_movers : Nat → Int32) (kept_row : Int32) (kept_numbers : Int32) (kept_size : Int32) (toGoal_table_slots : Nat → Int32) (toGoal_table_rows : Nat → Int32) (toGoal_table_size : Int32) (toGoal_depths : Nat → Int32) (toGoal_ways : Nat → Int32) (toGoal_stuckRows : Int32) (toGoal_soonestStuck : Int32) (afresh_table_slots : Nat → Int32) (afresh_table_rows : Nat → Int32) (afresh_table_size : Int32) (afresh_depths : Nat → Int32) (afresh_ways : Nat → Int32) (afresh_stuckRows : Int32) (afresh_soonestStuck : Int32) (game_table_slots : Nat → Int32) (game_table_rows : Nat → Int32) (game_table_size : Int32) (game_known : Nat → Int32) (readRow : Int32) (goalRow : Int32) (frogs : Int32) (timesRead : Int32) (hasImage : Int32) {p0 : Int32} {res : Int32} (hf : f_X7_isFrog frogs p0 = some res) : Ct l yX7_isFrog (.code yX7_isFrog cX7_isFrog 2 (some .boolean)) rX7_isFrog E [.ref (a b), .int p0] (wX E a b page_codes page_size rules_stones rules_signs rules_any rules_back rules_ring rules_two otherRules_stones otherRules_signs otherRules_any otherRules_back otherRules_ring otherRules_two now_made now_movers now_row now_numbers now_size kept_made kept_movers kept_row kept_numbers kept_size toGoal_table_slots toGoal_table_rows toGoal_table_size toGoal_depths toGoal_ways toGoal_stuckRows toGoal_soonestStuck afresh_table_slots afresh_table_rows afresh_table_size afresh_depths afresh_ways afresh_stuckRows afresh_soonestStuck game_table_slots game_table_rows game_table_size game_known readRow goalRow frogs timesRead hasImage) (some (.int res)) (wX E a b page_codes page_size rules_stones rules_signs rules_any rules_back rules_ring rules_two otherRules_stones otherRules_signs otherRules_any otherRules_back otherRules_ring otherRules_two now_made now_movers now_row now_numbers now_size kept_made kept_movers kept_row kept_numbers kept_size toGoal_table_slots toGoal_table_rows toGoal_table_size toGoal_depths toGoal_ways toGoal_stuckRows toGoal_soonestStuck afresh_table_slots afresh_table_rows afresh_table_size afresh_depths afresh_ways afresh_stuckRows afresh_soonestStuck game_table_slots game_table_rows game_table_size game_known readRow goalRow frogs timesRead hasImage) := by
  refine Ct.of (by decide) (Nat.le_of_ble_eq_true rfl) (fun Y hB hR => ?_)
  have hB : Cb E cX7_isFrog RX7 rX7_isFrog 2 Y := hB
  show J l E rX7_isFrog Y (wX E a b page_codes page_size rules_stones rules_signs rules_any rules_back rules_ring rules_two otherRules_stones otherRules_signs otherRules_any otherRules_back otherRules_ring otherRules_two now_made now_movers now_row now_numbers now_size kept_made kept_movers kept_row kept_numbers kept_size toGoal_table_slots toGoal_table_rows toGoal_table_size toGoal_depths toGoal_ways toGoal_stuckRows toGoal_soonestStuck afresh_table_slots afresh_table_rows afresh_table_size afresh_depths afresh_ways afresh_stuckRows afresh_soonestStuck game_table_slots game_table_rows game_table_size game_known readRow goalRow frogs timesRead hasImage) 0 [(0, .ref (a b)), (1, .int p0)] []
  unfold f_X7_isFrog at hf
  refine J_iload_n hB dX7_isFrog_0 rfl 1 rfl ?_
  refine J_if_lt (tgt := 16) hB dX7_isFrog_1 rfl (fun c_1 => ?_) (fun c_1 => ?_)
  · have hf := it_t c_1 hf
    refine J_iconst (v := 0) hB dX7_isFrog_16 rfl ?_
    obtain rfl := Option.some.inj hf
    exact J_zret hB hR (Or.inl rfl) dX7_isFrog_17
  · have hf := it_f c_1 hf
    refine J_iload_n hB dX7_isFrog_4 rfl 1 rfl ?_
    refine J_aload_n hB dX7_isFrog_5 rfl 0 rfl ?_
    refine J_get (v := .int frogs) hB inX7 0 rfl rfl 10 (Nat.le_of_ble_eq_true rfl) kf_X7_104 rfl dX7_isFrog_6 ?_
    refine J_icmp_ge (tgt := 16) hB dX7_isFrog_9 rfl (fun c_2 => ?_) (fun c_2 => ?_)
    · have hf := it_t c_2 hf
      refine J_iconst (v := 0) hB dX7_isFrog_16 rfl ?_
      obtain rfl := Option.some.inj hf
      exact J_zret hB hR (Or.inl rfl) dX7_isFrog_17
    · have hf := it_f c_2 hf
      refine J_iconst (v := 1) hB dX7_isFrog_12 rfl ?_
      refine J_goto (tgt := 17) hB dX7_isFrog_13 rfl ?_
      obtain rfl := Option.some.inj hf
      exact J_zret hB hR (Or.inr rfl) dX7_isFrog_17
def f_X7_kindOfFrog (now_row : Int32) (now_numbers : Int32) (p0 : Int32) : Option (Int32) :=
cl1 (f_X2_stoneOf now_numbers p0) fun r_1 =>
cl1 (f_X3_at now_row r_1) fun r_3 =>
some r_3
abbrev rX7_kindOfFrog : Room := { frames := 2, cells := 0, slots := 0, locals := 43 }
set_option maxRecDepth 100000 in
set_option maxHeartbeats 4000000 in
theorem c_X7_kindOfFrog (l : Launch) (E : En) (a : Nat → Nat) (b : Nat) (page_codes : Nat → Int32) (page_size : Int32) (rules_stones : Int32) (rules_signs : Int32) (rules_any : Int32) (rules_back : Int32) (rules_ring : Int32) (rules_two : Int32) (otherRules_stones : Int32) (otherRules_signs : Int32) (otherRules_any : Int32) (otherRules_back : Int32) (otherRules_ring : Int32) (otherRules_two : Int32) (now_made : Nat → Int32) (now_movers : Nat → Int32) (now_row : Int32) (now_numbers : Int32) (now_size : Int32) (kept_made : Nat → Int32) (kept_movers : Nat → Int32) (kept_row : Int32) (kept_numbers : Int32) (kept_size : Int32) (toGoal_table_slots : Nat → Int32) (toGoal_table_rows : Nat → Int32) (toGoal_table_size : Int32) (toGoal_depths : Nat → Int32) (toGoal_ways : Nat → Int32) (toGoal_stuckRows : Int32) (toGoal_soonestStuck : Int32) (afresh_table_slots : Nat → Int32) (afresh_table_rows : Nat → Int32) (afresh_table_size : Int32) (afresh_depths : Nat → Int32) (afresh_ways : Nat → Int32) (afresh_stuckRows : Int32) (afresh_soonestStuck : Int32) (game_table_slots : Nat → Int32) (game_table_rows : Nat → Int32) (game_table_size : Int32) (game_known : Nat → Int32) (readRow : Int32) (goalRow : Int32) (frogs : Int32) (timesRead : Int32) (hasImage : Int32) {p0 : Int32} {res : Int32} (hf : f_X7_kindOfFrog now_row now_numbers p0 = some res) : Ct l yX7_kindOfFrog (.code yX7_kindOfFrog cX7_kindOfFrog 2 (some .int)) rX7_kindOfFrog E [.ref (a b), .int p0] (wX E a b page_codes page_size rules_stones rules_signs rules_any rules_back rules_ring rules_two otherRules_stones otherRules_signs otherRules_any otherRules_back otherRules_ring otherRules_two now_made now_movers now_row now_numbers now_size kept_made kept_movers kept_row kept_numbers kept_size toGoal_table_slots toGoal_table_rows toGoal_table_size toGoal_depths toGoal_ways toGoal_stuckRows toGoal_soonestStuck afresh_table_slots afresh_table_rows afresh_table_size afresh_depths afresh_ways afresh_stuckRows afresh_soonestStuck game_table_slots game_table_rows game_table_size game_known readRow goalRow frogs timesRead hasImage) (some (.int res)) (wX E a b page_codes page_size rules_stones rules_signs rules_any rules_back rules_ring rules_two otherRules_stones otherRules_signs otherRules_any otherRules_back otherRules_ring otherRules_two now_made now_movers now_row now_numbers now_size kept_made kept_movers kept_row kept_numbers kept_size toGoal_table_slots toGoal_table_rows toGoal_table_size toGoal_depths toGoal_ways toGoal_stuckRows toGoal_soonestStuck afresh_table_slots afresh_table_rows afresh_table_size afresh_depths afresh_ways afresh_stuckRows afresh_soonestStuck game_table_slots game_table_rows game_table_size game_known readRow goalRow frogs timesRead hasImage) := by
  refine Ct.of (by decide) (Nat.le_of_ble_eq_true rfl) (fun Y hB hR => ?_)
  have hB : Cb E cX7_kindOfFrog RX7 rX7_kindOfFrog 2 Y := hB
  show J l E rX7_kindOfFrog Y (wX E a b page_codes page_size rules_stones rules_signs rules_any rules_back rules_ring rules_two otherRules_stones otherRules_signs otherRules_any otherRules_back otherRules_ring otherRules_two now_made now_movers now_row now_numbers now_size kept_made kept_movers kept_row kept_numbers kept_size toGoal_table_slots toGoal_table_rows toGoal_table_size toGoal_depths toGoal_ways toGoal_stuckRows toGoal_soonestStuck afresh_table_slots afresh_table_rows afresh_table_size afresh_depths afresh_ways afresh_stuckRows afresh_soonestStuck game_table_slots game_table_rows game_table_size game_known readRow goalRow frogs timesRead hasImage) 0 [(0, .ref (a b)), (1, .int p0)] []
  unfold f_X7_kindOfFrog at hf
  refine J_aload_n hB dX7_kindOfFrog_0 rfl 0 rfl ?_
  refine J_get (v := .ref (a (b + 5))) hB inX7 0 rfl rfl 3 (Nat.le_of_ble_eq_true rfl) kf_X7_29 rfl dX7_kindOfFrog_1 ?_
  refine J_getN (v := .int now_row) hB inX2 5 rfl rfl 2 (Nat.le_of_ble_eq_true rfl) kfN_X7_132 rfl dX7_kindOfFrog_4 ?_
  refine J_aload_n hB dX7_kindOfFrog_7 rfl 0 rfl ?_
  refine J_get (v := .ref (a (b + 5))) hB inX7 0 rfl rfl 3 (Nat.le_of_ble_eq_true rfl) kf_X7_29 rfl dX7_kindOfFrog_8 ?_
  refine J_iload_n hB dX7_kindOfFrog_11 rfl 1 rfl ?_
  obtain ⟨r_1, h_2, hf⟩ := cl1_e hf
  refine J_callV (As := [.int p0]) (rest := [.int now_row]) (n := 1) (ws' := wX E a b page_codes page_size rules_stones rules_signs rules_any rules_back rules_ring rules_two otherRules_stones otherRules_signs otherRules_any otherRules_back otherRules_ring otherRules_two now_made now_movers now_row now_numbers now_size kept_made kept_movers kept_row kept_numbers kept_size toGoal_table_slots toGoal_table_rows toGoal_table_size toGoal_depths toGoal_ways toGoal_stuckRows toGoal_soonestStuck afresh_table_slots afresh_table_rows afresh_table_size afresh_depths afresh_ways afresh_stuckRows afresh_soonestStuck game_table_slots game_table_rows game_table_size game_known readRow goalRow frogs timesRead hasImage) hB (c_X2_stoneOf l E a (b + 5) now_made now_movers now_row now_numbers now_size h_2) mi_X2_stoneOf ⟨ki_X2_stoneOf, kv_X2_stoneOf⟩ km_X7_146 ⟨rfl, rfl, Nat.le_of_ble_eq_true rfl, Nat.le_of_ble_eq_true rfl⟩ (Lz.lies (Lz.skip (Lz.skip (Lz.skip (Lz.skip (Lz.take (len_wPos.trans len_wPos.symm) (fst_wPos.trans fst_wPos.symm))))))) 5 rfl rfl rfl rfl (Nat.le_of_ble_eq_true rfl) dX7_kindOfFrog_12 ?_
  show J l E rX7_kindOfFrog Y (wX E a b page_codes page_size rules_stones rules_signs rules_any rules_back rules_ring rules_two otherRules_stones otherRules_signs otherRules_any otherRules_back otherRules_ring otherRules_two now_made now_movers now_row now_numbers now_size kept_made kept_movers kept_row kept_numbers kept_size toGoal_table_slots toGoal_table_rows toGoal_table_size toGoal_depths toGoal_ways toGoal_stuckRows toGoal_soonestStuck afresh_table_slots afresh_table_rows afresh_table_size afresh_depths afresh_ways afresh_stuckRows afresh_soonestStuck game_table_slots game_table_rows game_table_size game_known readRow goalRow frogs timesRead hasImage) 15 [(0, .ref (a b)), (1, .int p0)] [.int r_1, .int now_row]
  obtain ⟨r_3, h_4, hf⟩ := cl1_e hf
  refine J_callS (As := [.int now_row, .int r_1]) (rest := []) (n := 2) (ws' := wX E a b page_codes page_size rules_stones rules_signs rules_any rules_back rules_ring rules_two otherRules_stones otherRules_signs otherRules_any otherRules_back otherRules_ring otherRules_two now_made now_movers now_row now_numbers now_size kept_made kept_movers kept_row kept_numbers kept_size toGoal_table_slots toGoal_table_rows toGoal_table_size toGoal_depths toGoal_ways toGoal_stuckRows toGoal_soonestStuck afresh_table_slots afresh_table_rows afresh_table_size afresh_depths afresh_ways afresh_stuckRows afresh_soonestStuck game_table_slots game_table_rows game_table_size game_known readRow goalRow frogs timesRead hasImage) hB (c_X3_at l E a h_4) mi_X3_at ks_X3_at km_X7_134 ⟨rfl, rfl, Nat.le_of_ble_eq_true rfl, Nat.le_of_ble_eq_true rfl⟩ Lies.none rfl rfl (Nat.le_of_ble_eq_true rfl) dX7_kindOfFrog_15 ?_
  show J l E rX7_kindOfFrog Y (wX E a b page_codes page_size rules_stones rules_signs rules_any rules_back rules_ring rules_two otherRules_stones otherRules_signs otherRules_any otherRules_back otherRules_ring otherRules_two now_made now_movers now_row now_numbers now_size kept_made kept_movers kept_row kept_numbers kept_size toGoal_table_slots toGoal_table_rows toGoal_table_size toGoal_depths toGoal_ways toGoal_stuckRows toGoal_soonestStuck afresh_table_slots afresh_table_rows afresh_table_size afresh_depths afresh_ways afresh_stuckRows afresh_soonestStuck game_table_slots game_table_rows game_table_size game_known readRow goalRow frogs timesRead hasImage) 18 [(0, .ref (a b)), (1, .int p0)] [.int r_3]
  obtain rfl := Option.some.inj hf
  exact J_iret hB hR dX7_kindOfFrog_18
def f_X7_partOfMove (p0 : Int32) (p1 : Int32) : Option (Int32) :=
if p0 = ((-1)) then (
some ((-1))) else (
if p1 = 0 then (
some (p0 >>> ((3 : Int32) &&& 31))) else (
some (p0 &&& (7 : Int32))))
abbrev rX7_partOfMove : Room := { frames := 0, cells := 0, slots := 0, locals := 0 }
set_option maxRecDepth 100000 in
set_option maxHeartbeats 4000000 in
theorem c_X7_partOfMove (l : Launch) (E : En) (a : Nat → Nat) {p0 : Int32} {p1 : Int32} {res : Int32} (hf : f_X7_partOfMove p0 p1 = some res) : Ct l yX7_partOfMove (.code yX7_partOfMove cX7_partOfMove 2 (some .int)) rX7_partOfMove E [.int p0, .int p1] ([]) (some (.int res)) ([]) := by
  refine Ct.of (by decide) (Nat.le_of_ble_eq_true rfl) (fun Y hB hR => ?_)
  have hB : Cb E cX7_partOfMove RX7 rX7_partOfMove 2 Y := hB
  show J l E rX7_partOfMove Y [] 0 [(0, .int p0), (1, .int p1)] []
  unfold f_X7_partOfMove at hf
  refine J_iload_n hB dX7_partOfMove_0 rfl 0 rfl ?_
  refine J_iconst (v := (-1)) hB dX7_partOfMove_1 rfl ?_
  refine J_icmp_ne (tgt := 7) hB dX7_partOfMove_2 rfl (fun c_1 => ?_) (fun c_1 => ?_)
  · have hf := it_f c_1 hf
    refine J_iload_n hB dX7_partOfMove_7 rfl 1 rfl ?_
    refine J_if_ne (tgt := 17) hB dX7_partOfMove_8 rfl (fun c_2 => ?_) (fun c_2 => ?_)
    · have hf := it_f c_2 hf
      refine J_iload_n hB dX7_partOfMove_17 rfl 0 rfl ?_
      refine J_bipush (v := 7) hB dX7_partOfMove_18 rfl ?_
      refine J_iand hB dX7_partOfMove_20 ?_
      obtain rfl := Option.some.inj hf
      exact J_iret hB hR dX7_partOfMove_21
    · have hf := it_t c_2 hf
      refine J_iload_n hB dX7_partOfMove_11 rfl 0 rfl ?_
      refine J_iconst (v := 3) hB dX7_partOfMove_12 rfl ?_
      refine J_ishr hB dX7_partOfMove_13 ?_
      refine J_goto (tgt := 21) hB dX7_partOfMove_14 rfl ?_
      obtain rfl := Option.some.inj hf
      exact J_iret hB hR dX7_partOfMove_21
  · have hf := it_t c_1 hf
    refine J_iconst (v := (-1)) hB dX7_partOfMove_5 rfl ?_
    obtain rfl := Option.some.inj hf
    exact J_iret hB hR dX7_partOfMove_6
def f_X7_firstOfFewest (rules_stones : Int32) (rules_any : Int32) (rules_back : Int32) (rules_ring : Int32) (rules_two : Int32) (now_row : Int32) (toGoal_table_slots : Nat → Int32) (toGoal_table_rows : Nat → Int32) (toGoal_depths : Nat → Int32) : Option (Int32) :=
cl1 (f_X5_depthOf toGoal_table_slots toGoal_table_rows toGoal_depths now_row) fun r_1 =>
if 0 < r_1 then (
cl1 (f_X4_allMoves rules_stones rules_any rules_back rules_ring rules_two now_row 1) fun r_4 =>
cl1 (f_J13_bitCount_95d88 r_4) fun r_6 =>
lp2_0 (fun (x2_8 : Int64) (x5_9 : Int32) nx46 ex46 =>
if r_6 ≤ x5_9 then (
ex46) else (
cl1 (f_X3_lowestMove x2_8) fun r_11 =>
nmv (α := Int64) (x2_8 &&& (x2_8 - (1 : Int64))) fun x2_13 =>
cl1 (f_X3_moved now_row r_11) fun r_14 =>
cl1 (f_X5_depthOf toGoal_table_slots toGoal_table_rows toGoal_depths r_14) fun r_16 =>
if r_16 = (r_1 - (1 : Int32)) then (
some r_11) else (
nmv (α := Int32) (x5_9 + 1) fun x5_19 =>
nx46 x2_13 x5_19))) (
some ((-1))) fuel r_4 0) else (
some ((-1)))
abbrev rX7_firstOfFewest : Room := { frames := 4, cells := 0, slots := 0, locals := 102 }
set_option maxRecDepth 100000 in
set_option maxHeartbeats 4000000 in
theorem c_X7_firstOfFewest (l : Launch) (E : En) (a : Nat → Nat) (b : Nat) (page_codes : Nat → Int32) (page_size : Int32) (rules_stones : Int32) (rules_signs : Int32) (rules_any : Int32) (rules_back : Int32) (rules_ring : Int32) (rules_two : Int32) (otherRules_stones : Int32) (otherRules_signs : Int32) (otherRules_any : Int32) (otherRules_back : Int32) (otherRules_ring : Int32) (otherRules_two : Int32) (now_made : Nat → Int32) (now_movers : Nat → Int32) (now_row : Int32) (now_numbers : Int32) (now_size : Int32) (kept_made : Nat → Int32) (kept_movers : Nat → Int32) (kept_row : Int32) (kept_numbers : Int32) (kept_size : Int32) (toGoal_table_slots : Nat → Int32) (toGoal_table_rows : Nat → Int32) (toGoal_table_size : Int32) (toGoal_depths : Nat → Int32) (toGoal_ways : Nat → Int32) (toGoal_stuckRows : Int32) (toGoal_soonestStuck : Int32) (afresh_table_slots : Nat → Int32) (afresh_table_rows : Nat → Int32) (afresh_table_size : Int32) (afresh_depths : Nat → Int32) (afresh_ways : Nat → Int32) (afresh_stuckRows : Int32) (afresh_soonestStuck : Int32) (game_table_slots : Nat → Int32) (game_table_rows : Nat → Int32) (game_table_size : Int32) (game_known : Nat → Int32) (readRow : Int32) (goalRow : Int32) (frogs : Int32) (timesRead : Int32) (hasImage : Int32) {res : Int32} (hf : f_X7_firstOfFewest rules_stones rules_any rules_back rules_ring rules_two now_row toGoal_table_slots toGoal_table_rows toGoal_depths = some res) : Ct l yX7_firstOfFewest (.code yX7_firstOfFewest cX7_firstOfFewest 7 (some .int)) rX7_firstOfFewest E [.ref (a b)] (wX E a b page_codes page_size rules_stones rules_signs rules_any rules_back rules_ring rules_two otherRules_stones otherRules_signs otherRules_any otherRules_back otherRules_ring otherRules_two now_made now_movers now_row now_numbers now_size kept_made kept_movers kept_row kept_numbers kept_size toGoal_table_slots toGoal_table_rows toGoal_table_size toGoal_depths toGoal_ways toGoal_stuckRows toGoal_soonestStuck afresh_table_slots afresh_table_rows afresh_table_size afresh_depths afresh_ways afresh_stuckRows afresh_soonestStuck game_table_slots game_table_rows game_table_size game_known readRow goalRow frogs timesRead hasImage) (some (.int res)) (wX E a b page_codes page_size rules_stones rules_signs rules_any rules_back rules_ring rules_two otherRules_stones otherRules_signs otherRules_any otherRules_back otherRules_ring otherRules_two now_made now_movers now_row now_numbers now_size kept_made kept_movers kept_row kept_numbers kept_size toGoal_table_slots toGoal_table_rows toGoal_table_size toGoal_depths toGoal_ways toGoal_stuckRows toGoal_soonestStuck afresh_table_slots afresh_table_rows afresh_table_size afresh_depths afresh_ways afresh_stuckRows afresh_soonestStuck game_table_slots game_table_rows game_table_size game_known readRow goalRow frogs timesRead hasImage) := by
  refine Ct.of (by decide) (Nat.le_of_ble_eq_true rfl) (fun Y hB hR => ?_)
  have hB : Cb E cX7_firstOfFewest RX7 rX7_firstOfFewest 7 Y := hB
  show J l E rX7_firstOfFewest Y (wX E a b page_codes page_size rules_stones rules_signs rules_any rules_back rules_ring rules_two otherRules_stones otherRules_signs otherRules_any otherRules_back otherRules_ring otherRules_two now_made now_movers now_row now_numbers now_size kept_made kept_movers kept_row kept_numbers kept_size toGoal_table_slots toGoal_table_rows toGoal_table_size toGoal_depths toGoal_ways toGoal_stuckRows toGoal_soonestStuck afresh_table_slots afresh_table_rows afresh_table_size afresh_depths afresh_ways afresh_stuckRows afresh_soonestStuck game_table_slots game_table_rows game_table_size game_known readRow goalRow frogs timesRead hasImage) 0 [(0, .ref (a b))] []
  unfold f_X7_firstOfFewest at hf
  refine J_aload_n hB dX7_firstOfFewest_0 rfl 0 rfl ?_
  refine J_get (v := .ref (a (b + 11))) hB inX7 0 rfl rfl 5 (Nat.le_of_ble_eq_true rfl) kf_X7_39 rfl dX7_firstOfFewest_1 ?_
  refine J_aload_n hB dX7_firstOfFewest_4 rfl 0 rfl ?_
  refine J_get (v := .ref (a (b + 5))) hB inX7 0 rfl rfl 3 (Nat.le_of_ble_eq_true rfl) kf_X7_29 rfl dX7_firstOfFewest_5 ?_
  refine J_getN (v := .int now_row) hB inX2 5 rfl rfl 2 (Nat.le_of_ble_eq_true rfl) kfN_X7_132 rfl dX7_firstOfFewest_8 ?_
  obtain ⟨r_1, h_2, hf⟩ := cl1_e hf
  refine J_callV (As := [.int now_row]) (rest := []) (n := 1) (ws' := wX E a b page_codes page_size rules_stones rules_signs rules_any rules_back rules_ring rules_two otherRules_stones otherRules_signs otherRules_any otherRules_back otherRules_ring otherRules_two now_made now_movers now_row now_numbers now_size kept_made kept_movers kept_row kept_numbers kept_size toGoal_table_slots toGoal_table_rows toGoal_table_size toGoal_depths toGoal_ways toGoal_stuckRows toGoal_soonestStuck afresh_table_slots afresh_table_rows afresh_table_size afresh_depths afresh_ways afresh_stuckRows afresh_soonestStuck game_table_slots game_table_rows game_table_size game_known readRow goalRow frogs timesRead hasImage) hB (c_X5_depthOf l E a (b + 11) toGoal_table_slots toGoal_table_rows toGoal_table_size toGoal_depths toGoal_ways toGoal_stuckRows toGoal_soonestStuck h_2) mi_X5_depthOf ⟨ki_X5_depthOf, kv_X5_depthOf⟩ km_X7_175 ⟨rfl, rfl, Nat.le_of_ble_eq_true rfl, Nat.le_of_ble_eq_true rfl⟩ (Lz.lies (Lz.skip (Lz.skip (Lz.skip (Lz.skip (Lz.skip (Lz.skip (Lz.take (len_wSearch.trans len_wSearch.symm) (fst_wSearch.trans fst_wSearch.symm))))))))) 11 rfl rfl rfl rfl (Nat.le_of_ble_eq_true rfl) dX7_firstOfFewest_11 ?_
  show J l E rX7_firstOfFewest Y (wX E a b page_codes page_size rules_stones rules_signs rules_any rules_back rules_ring rules_two otherRules_stones otherRules_signs otherRules_any otherRules_back otherRules_ring otherRules_two now_made now_movers now_row now_numbers now_size kept_made kept_movers kept_row kept_numbers kept_size toGoal_table_slots toGoal_table_rows toGoal_table_size toGoal_depths toGoal_ways toGoal_stuckRows toGoal_soonestStuck afresh_table_slots afresh_table_rows afresh_table_size afresh_depths afresh_ways afresh_stuckRows afresh_soonestStuck game_table_slots game_table_rows game_table_size game_known readRow goalRow frogs timesRead hasImage) 14 [(0, .ref (a b))] [.int r_1]
  refine J_istore_n (lv' := [(1, .int r_1), (0, .ref (a b))]) hB rfl dX7_firstOfFewest_14 rfl (Nat.le_of_ble_eq_true rfl) rfl ?_
  refine J_iload_n hB dX7_firstOfFewest_15 rfl 0 rfl ?_
  refine J_if_gt (tgt := 21) hB dX7_firstOfFewest_16 rfl (fun c_3 => ?_) (fun c_3 => ?_)
  · have hf := it_t c_3 hf
    refine J_aload_n hB dX7_firstOfFewest_21 rfl 1 rfl ?_
    refine J_get (v := .ref (a (b + 3))) hB inX7 0 rfl rfl 1 (Nat.le_of_ble_eq_true rfl) kf_X7_19 rfl dX7_firstOfFewest_22 ?_
    refine J_aload_n hB dX7_firstOfFewest_25 rfl 1 rfl ?_
    refine J_get (v := .ref (a (b + 5))) hB inX7 0 rfl rfl 3 (Nat.le_of_ble_eq_true rfl) kf_X7_29 rfl dX7_firstOfFewest_26 ?_
    refine J_getN (v := .int now_row) hB inX2 5 rfl rfl 2 (Nat.le_of_ble_eq_true rfl) kfN_X7_132 rfl dX7_firstOfFewest_29 ?_
    refine J_iconst (v := 1) hB dX7_firstOfFewest_32 rfl ?_
    obtain ⟨r_4, h_5, hf⟩ := cl1_e hf
    refine J_callV (As := [.int now_row, .int 1]) (rest := []) (n := 2) (ws' := wX E a b page_codes page_size rules_stones rules_signs rules_any rules_back rules_ring rules_two otherRules_stones otherRules_signs otherRules_any otherRules_back otherRules_ring otherRules_two now_made now_movers now_row now_numbers now_size kept_made kept_movers kept_row kept_numbers kept_size toGoal_table_slots toGoal_table_rows toGoal_table_size toGoal_depths toGoal_ways toGoal_stuckRows toGoal_soonestStuck afresh_table_slots afresh_table_rows afresh_table_size afresh_depths afresh_ways afresh_stuckRows afresh_soonestStuck game_table_slots game_table_rows game_table_size game_known readRow goalRow frogs timesRead hasImage) hB (c_X4_allMoves l E a (b + 3) rules_stones rules_signs rules_any rules_back rules_ring rules_two h_5) mi_X4_allMoves ⟨ki_X4_allMoves, kv_X4_allMoves⟩ km_X7_156 ⟨rfl, rfl, Nat.le_of_ble_eq_true rfl, Nat.le_of_ble_eq_true rfl⟩ (Lz.lies (Lz.skip (Lz.skip (Lz.take (len_wRules.trans len_wRules.symm) (fst_wRules.trans fst_wRules.symm))))) 3 rfl rfl rfl rfl (Nat.le_of_ble_eq_true rfl) dX7_firstOfFewest_33 ?_
    show J l E rX7_firstOfFewest Y (wX E a b page_codes page_size rules_stones rules_signs rules_any rules_back rules_ring rules_two otherRules_stones otherRules_signs otherRules_any otherRules_back otherRules_ring otherRules_two now_made now_movers now_row now_numbers now_size kept_made kept_movers kept_row kept_numbers kept_size toGoal_table_slots toGoal_table_rows toGoal_table_size toGoal_depths toGoal_ways toGoal_stuckRows toGoal_soonestStuck afresh_table_slots afresh_table_rows afresh_table_size afresh_depths afresh_ways afresh_stuckRows afresh_soonestStuck game_table_slots game_table_rows game_table_size game_known readRow goalRow frogs timesRead hasImage) 36 [(1, .int r_1), (0, .ref (a b))] [.long r_4]
    refine J_lstore_n (lv' := [(2, .long r_4), (1, .int r_1), (0, .ref (a b))]) hB rfl dX7_firstOfFewest_36 rfl (Nat.le_of_ble_eq_true rfl) rfl ?_
    refine J_lload_n hB dX7_firstOfFewest_37 rfl 0 rfl ?_
    obtain ⟨r_6, h_7, hf⟩ := cl1_e hf
    refine J_callS (As := [.long r_4]) (rest := []) (n := 1) (ws' := wX E a b page_codes page_size rules_stones rules_signs rules_any rules_back rules_ring rules_two otherRules_stones otherRules_signs otherRules_any otherRules_back otherRules_ring otherRules_two now_made now_movers now_row now_numbers now_size kept_made kept_movers kept_row kept_numbers kept_size toGoal_table_slots toGoal_table_rows toGoal_table_size toGoal_depths toGoal_ways toGoal_stuckRows toGoal_soonestStuck afresh_table_slots afresh_table_rows afresh_table_size afresh_depths afresh_ways afresh_stuckRows afresh_soonestStuck game_table_slots game_table_rows game_table_size game_known readRow goalRow frogs timesRead hasImage) hB (c_J13_bitCount_95d88 l E a h_7) mi_J13_bitCount_95d88 ks_J13_bitCount_95d88 km_X7_160 ⟨rfl, rfl, Nat.le_of_ble_eq_true rfl, Nat.le_of_ble_eq_true rfl⟩ Lies.none rfl rfl (Nat.le_of_ble_eq_true rfl) dX7_firstOfFewest_38 ?_
    show J l E rX7_firstOfFewest Y (wX E a b page_codes page_size rules_stones rules_signs rules_any rules_back rules_ring rules_two otherRules_stones otherRules_signs otherRules_any otherRules_back otherRules_ring otherRules_two now_made now_movers now_row now_numbers now_size kept_made kept_movers kept_row kept_numbers kept_size toGoal_table_slots toGoal_table_rows toGoal_table_size toGoal_depths toGoal_ways toGoal_stuckRows toGoal_soonestStuck afresh_table_slots afresh_table_rows afresh_table_size afresh_depths afresh_ways afresh_stuckRows afresh_soonestStuck game_table_slots game_table_rows game_table_size game_known readRow goalRow frogs timesRead hasImage) 41 [(2, .long r_4), (1, .int r_1), (0, .ref (a b))] [.int r_6]
    refine J_istore (lv' := [(4, .int r_6), (2, .long r_4), (1, .int r_1), (0, .ref (a b))]) hB rfl dX7_firstOfFewest_41 (Nat.le_of_ble_eq_true rfl) rfl ?_
    refine J_iconst (v := 0) hB dX7_firstOfFewest_43 rfl ?_
    refine J_istore (lv' := [(5, .int 0), (4, .int r_6), (2, .long r_4), (1, .int r_1), (0, .ref (a b))]) hB rfl dX7_firstOfFewest_44 (Nat.le_of_ble_eq_true rfl) rfl ?_
    refine J_lv [4, 3, 2, 1, 0] rfl ?_
    refine lp2_0_J (P := fun x2_8 x5_9 => J l E rX7_firstOfFewest Y (wX E a b page_codes page_size rules_stones rules_signs rules_any rules_back rules_ring rules_two otherRules_stones otherRules_signs otherRules_any otherRules_back otherRules_ring otherRules_two now_made now_movers now_row now_numbers now_size kept_made kept_movers kept_row kept_numbers kept_size toGoal_table_slots toGoal_table_rows toGoal_table_size toGoal_depths toGoal_ways toGoal_stuckRows toGoal_soonestStuck afresh_table_slots afresh_table_rows afresh_table_size afresh_depths afresh_ways afresh_stuckRows afresh_soonestStuck game_table_slots game_table_rows game_table_size game_known readRow goalRow frogs timesRead hasImage) 46 [(0, .ref (a b)), (1, .int r_1), (2, .long x2_8), (4, .int r_6), (5, .int x5_9)] []) (Q := J l E rX7_firstOfFewest Y (wX E a b page_codes page_size rules_stones rules_signs rules_any rules_back rules_ring rules_two otherRules_stones otherRules_signs otherRules_any otherRules_back otherRules_ring otherRules_two now_made now_movers now_row now_numbers now_size kept_made kept_movers kept_row kept_numbers kept_size toGoal_table_slots toGoal_table_rows toGoal_table_size toGoal_depths toGoal_ways toGoal_stuckRows toGoal_soonestStuck afresh_table_slots afresh_table_rows afresh_table_size afresh_depths afresh_ways afresh_stuckRows afresh_soonestStuck game_table_slots game_table_rows game_table_size game_known readRow goalRow frogs timesRead hasImage) 99 [] []) (fun x2_8 x5_9 nx46 ex46 hnx46 hex46 hf => ?_) (fun hf => ?_) hf
    · refine J_iload hB dX7_firstOfFewest_46 4 rfl ?_
      refine J_iload hB dX7_firstOfFewest_48 3 rfl ?_
      refine J_icmp_ge (tgt := 99) hB dX7_firstOfFewest_50 rfl (fun c_10 => ?_) (fun c_10 => ?_)
      · have hf := it_t c_10 hf
        exact J_lv [] rfl (hex46 hf)
      · have hf := it_f c_10 hf
        refine J_lload_n hB dX7_firstOfFewest_53 rfl 2 rfl ?_
        obtain ⟨r_11, h_12, hf⟩ := cl1_e hf
        refine J_callS (As := [.long x2_8]) (rest := []) (n := 1) (ws' := wX E a b page_codes page_size rules_stones rules_signs rules_any rules_back rules_ring rules_two otherRules_stones otherRules_signs otherRules_any otherRules_back otherRules_ring otherRules_two now_made now_movers now_row now_numbers now_size kept_made kept_movers kept_row kept_numbers kept_size toGoal_table_slots toGoal_table_rows toGoal_table_size toGoal_depths toGoal_ways toGoal_stuckRows toGoal_soonestStuck afresh_table_slots afresh_table_rows afresh_table_size afresh_depths afresh_ways afresh_stuckRows afresh_soonestStuck game_table_slots game_table_rows game_table_size game_known readRow goalRow frogs timesRead hasImage) hB (c_X3_lowestMove l E a h_12) mi_X3_lowestMove ks_X3_lowestMove km_X7_292 ⟨rfl, rfl, Nat.le_of_ble_eq_true rfl, Nat.le_of_ble_eq_true rfl⟩ Lies.none rfl rfl (Nat.le_of_ble_eq_true rfl) dX7_firstOfFewest_54 ?_
        show J l E rX7_firstOfFewest Y (wX E a b page_codes page_size rules_stones rules_signs rules_any rules_back rules_ring rules_two otherRules_stones otherRules_signs otherRules_any otherRules_back otherRules_ring otherRules_two now_made now_movers now_row now_numbers now_size kept_made kept_movers kept_row kept_numbers kept_size toGoal_table_slots toGoal_table_rows toGoal_table_size toGoal_depths toGoal_ways toGoal_stuckRows toGoal_soonestStuck afresh_table_slots afresh_table_rows afresh_table_size afresh_depths afresh_ways afresh_stuckRows afresh_soonestStuck game_table_slots game_table_rows game_table_size game_known readRow goalRow frogs timesRead hasImage) 57 [(0, .ref (a b)), (1, .int r_1), (2, .long x2_8), (4, .int r_6), (5, .int x5_9)] [.int r_11]
        refine J_istore (lv' := [(6, .int r_11), (0, .ref (a b)), (1, .int r_1), (2, .long x2_8), (4, .int r_6), (5, .int x5_9)]) hB rfl dX7_firstOfFewest_57 (Nat.le_of_ble_eq_true rfl) rfl ?_
        refine J_lload_n hB dX7_firstOfFewest_59 rfl 3 rfl ?_
        refine J_lload_n hB dX7_firstOfFewest_60 rfl 3 rfl ?_
        refine J_lconst (v := 1) hB dX7_firstOfFewest_61 rfl ?_
        refine J_lsub hB dX7_firstOfFewest_62 ?_
        refine J_land hB dX7_firstOfFewest_63 ?_
        obtain ⟨x2_13, ex2_13, hf⟩ := nmv_e hf
        refine J_lstore_n (lv' := [(2, .long x2_13), (6, .int r_11), (0, .ref (a b)), (1, .int r_1), (4, .int r_6), (5, .int x5_9)]) hB ex2_13 dX7_firstOfFewest_64 rfl (Nat.le_of_ble_eq_true rfl) rfl ?_
        refine J_aload_n hB dX7_firstOfFewest_65 rfl 2 rfl ?_
        refine J_get (v := .ref (a (b + 11))) hB inX7 0 rfl rfl 5 (Nat.le_of_ble_eq_true rfl) kf_X7_39 rfl dX7_firstOfFewest_66 ?_
        refine J_aload_n hB dX7_firstOfFewest_69 rfl 2 rfl ?_
        refine J_get (v := .ref (a (b + 5))) hB inX7 0 rfl rfl 3 (Nat.le_of_ble_eq_true rfl) kf_X7_29 rfl dX7_firstOfFewest_70 ?_
        refine J_getN (v := .int now_row) hB inX2 5 rfl rfl 2 (Nat.le_of_ble_eq_true rfl) kfN_X7_132 rfl dX7_firstOfFewest_73 ?_
        refine J_iload hB dX7_firstOfFewest_76 1 rfl ?_
        obtain ⟨r_14, h_15, hf⟩ := cl1_e hf
        refine J_callS (As := [.int now_row, .int r_11]) (rest := [.ref (a (b + 11))]) (n := 2) (ws' := wX E a b page_codes page_size rules_stones rules_signs rules_any rules_back rules_ring rules_two otherRules_stones otherRules_signs otherRules_any otherRules_back otherRules_ring otherRules_two now_made now_movers now_row now_numbers now_size kept_made kept_movers kept_row kept_numbers kept_size toGoal_table_slots toGoal_table_rows toGoal_table_size toGoal_depths toGoal_ways toGoal_stuckRows toGoal_soonestStuck afresh_table_slots afresh_table_rows afresh_table_size afresh_depths afresh_ways afresh_stuckRows afresh_soonestStuck game_table_slots game_table_rows game_table_size game_known readRow goalRow frogs timesRead hasImage) hB (c_X3_moved l E a h_15) mi_X3_moved ks_X3_moved km_X7_235 ⟨rfl, rfl, Nat.le_of_ble_eq_true rfl, Nat.le_of_ble_eq_true rfl⟩ Lies.none rfl rfl (Nat.le_of_ble_eq_true rfl) dX7_firstOfFewest_78 ?_
        show J l E rX7_firstOfFewest Y (wX E a b page_codes page_size rules_stones rules_signs rules_any rules_back rules_ring rules_two otherRules_stones otherRules_signs otherRules_any otherRules_back otherRules_ring otherRules_two now_made now_movers now_row now_numbers now_size kept_made kept_movers kept_row kept_numbers kept_size toGoal_table_slots toGoal_table_rows toGoal_table_size toGoal_depths toGoal_ways toGoal_stuckRows toGoal_soonestStuck afresh_table_slots afresh_table_rows afresh_table_size afresh_depths afresh_ways afresh_stuckRows afresh_soonestStuck game_table_slots game_table_rows game_table_size game_known readRow goalRow frogs timesRead hasImage) 81 [(2, .long x2_13), (6, .int r_11), (0, .ref (a b)), (1, .int r_1), (4, .int r_6), (5, .int x5_9)] [.int r_14, .ref (a (b + 11))]
        obtain ⟨r_16, h_17, hf⟩ := cl1_e hf
        refine J_callV (As := [.int r_14]) (rest := []) (n := 1) (ws' := wX E a b page_codes page_size rules_stones rules_signs rules_any rules_back rules_ring rules_two otherRules_stones otherRules_signs otherRules_any otherRules_back otherRules_ring otherRules_two now_made now_movers now_row now_numbers now_size kept_made kept_movers kept_row kept_numbers kept_size toGoal_table_slots toGoal_table_rows toGoal_table_size toGoal_depths toGoal_ways toGoal_stuckRows toGoal_soonestStuck afresh_table_slots afresh_table_rows afresh_table_size afresh_depths afresh_ways afresh_stuckRows afresh_soonestStuck game_table_slots game_table_rows game_table_size game_known readRow goalRow frogs timesRead hasImage) hB (c_X5_depthOf l E a (b + 11) toGoal_table_slots toGoal_table_rows toGoal_table_size toGoal_depths toGoal_ways toGoal_stuckRows toGoal_soonestStuck h_17) mi_X5_depthOf ⟨ki_X5_depthOf, kv_X5_depthOf⟩ km_X7_175 ⟨rfl, rfl, Nat.le_of_ble_eq_true rfl, Nat.le_of_ble_eq_true rfl⟩ (Lz.lies (Lz.skip (Lz.skip (Lz.skip (Lz.skip (Lz.skip (Lz.skip (Lz.take (len_wSearch.trans len_wSearch.symm) (fst_wSearch.trans fst_wSearch.symm))))))))) 11 rfl rfl rfl rfl (Nat.le_of_ble_eq_true rfl) dX7_firstOfFewest_81 ?_
        show J l E rX7_firstOfFewest Y (wX E a b page_codes page_size rules_stones rules_signs rules_any rules_back rules_ring rules_two otherRules_stones otherRules_signs otherRules_any otherRules_back otherRules_ring otherRules_two now_made now_movers now_row now_numbers now_size kept_made kept_movers kept_row kept_numbers kept_size toGoal_table_slots toGoal_table_rows toGoal_table_size toGoal_depths toGoal_ways toGoal_stuckRows toGoal_soonestStuck afresh_table_slots afresh_table_rows afresh_table_size afresh_depths afresh_ways afresh_stuckRows afresh_soonestStuck game_table_slots game_table_rows game_table_size game_known readRow goalRow frogs timesRead hasImage) 84 [(2, .long x2_13), (6, .int r_11), (0, .ref (a b)), (1, .int r_1), (4, .int r_6), (5, .int x5_9)] [.int r_16]
        refine J_iload_n hB dX7_firstOfFewest_84 rfl 3 rfl ?_
        refine J_iconst (v := 1) hB dX7_firstOfFewest_85 rfl ?_
        refine J_isub hB dX7_firstOfFewest_86 ?_
        refine J_icmp_ne (tgt := 93) hB dX7_firstOfFewest_87 rfl (fun c_18 => ?_) (fun c_18 => ?_)
        · have hf := it_f c_18 hf
          obtain ⟨x5_19, ex5_19, hf⟩ := nmv_e hf
          refine J_iinc (lv' := [(5, .int x5_19), (2, .long x2_13), (6, .int r_11), (0, .ref (a b)), (1, .int r_1), (4, .int r_6)]) hB ex5_19 dX7_firstOfFewest_93 5 rfl (Nat.le_of_ble_eq_true rfl) rfl ?_
          refine J_goto (tgt := 46) hB dX7_firstOfFewest_96 rfl ?_
          exact J_lv [3, 4, 1, 5, 0] rfl (hnx46 x2_13 x5_19 hf)
        · have hf := it_t c_18 hf
          refine J_iload hB dX7_firstOfFewest_90 1 rfl ?_
          obtain rfl := Option.some.inj hf
          exact J_iret hB hR dX7_firstOfFewest_92
    · refine J_iconst (v := (-1)) hB dX7_firstOfFewest_99 rfl ?_
      obtain rfl := Option.some.inj hf
      exact J_iret hB hR dX7_firstOfFewest_100
  · have hf := it_f c_3 hf
    refine J_iconst (v := (-1)) hB dX7_firstOfFewest_19 rfl ?_
    obtain rfl := Option.some.inj hf
    exact J_iret hB hR dX7_firstOfFewest_20
def f_X7_firstWrong (now_made : Nat → Int32) (now_size : Int32) (toGoal_table_slots : Nat → Int32) (toGoal_table_rows : Nat → Int32) (toGoal_depths : Nat → Int32) (readRow : Int32) : Option (Int32) :=
cl1 (f_X5_depthOf toGoal_table_slots toGoal_table_rows toGoal_depths readRow) fun r_1 =>
if r_1 = ((-1)) then (
some ((-1))) else (
lp2_0 (fun (x1_4 : Int32) (x2_5 : Int32) nx21 ex21 =>
if now_size ≤ x2_5 then (
ex21) else (
if 60 ≤ x2_5 then (
ex21) else (
ald 60 now_made x2_5 fun v_8 =>
cl1 (f_X3_moved x1_4 v_8) fun r_10 =>
cl1 (f_X5_depthOf toGoal_table_slots toGoal_table_rows toGoal_depths r_10) fun r_12 =>
if r_12 = ((-1)) then (
some (x2_5 + (1 : Int32))) else (
nmv (α := Int32) (x2_5 + 1) fun x2_15 =>
nx21 r_10 x2_15)))) (
some ((-1))) fuel readRow 0)
abbrev rX7_firstWrong : Room := { frames := 3, cells := 0, slots := 0, locals := 67 }
set_option maxRecDepth 100000 in
set_option maxHeartbeats 4000000 in
theorem c_X7_firstWrong (l : Launch) (E : En) (a : Nat → Nat) (b : Nat) (page_codes : Nat → Int32) (page_size : Int32) (rules_stones : Int32) (rules_signs : Int32) (rules_any : Int32) (rules_back : Int32) (rules_ring : Int32) (rules_two : Int32) (otherRules_stones : Int32) (otherRules_signs : Int32) (otherRules_any : Int32) (otherRules_back : Int32) (otherRules_ring : Int32) (otherRules_two : Int32) (now_made : Nat → Int32) (now_movers : Nat → Int32) (now_row : Int32) (now_numbers : Int32) (now_size : Int32) (kept_made : Nat → Int32) (kept_movers : Nat → Int32) (kept_row : Int32) (kept_numbers : Int32) (kept_size : Int32) (toGoal_table_slots : Nat → Int32) (toGoal_table_rows : Nat → Int32) (toGoal_table_size : Int32) (toGoal_depths : Nat → Int32) (toGoal_ways : Nat → Int32) (toGoal_stuckRows : Int32) (toGoal_soonestStuck : Int32) (afresh_table_slots : Nat → Int32) (afresh_table_rows : Nat → Int32) (afresh_table_size : Int32) (afresh_depths : Nat → Int32) (afresh_ways : Nat → Int32) (afresh_stuckRows : Int32) (afresh_soonestStuck : Int32) (game_table_slots : Nat → Int32) (game_table_rows : Nat → Int32) (game_table_size : Int32) (game_known : Nat → Int32) (readRow : Int32) (goalRow : Int32) (frogs : Int32) (timesRead : Int32) (hasImage : Int32) {res : Int32} (hf : f_X7_firstWrong now_made now_size toGoal_table_slots toGoal_table_rows toGoal_depths readRow = some res) : Ct l yX7_firstWrong (.code yX7_firstWrong cX7_firstWrong 3 (some .int)) rX7_firstWrong E [.ref (a b)] (wX E a b page_codes page_size rules_stones rules_signs rules_any rules_back rules_ring rules_two otherRules_stones otherRules_signs otherRules_any otherRules_back otherRules_ring otherRules_two now_made now_movers now_row now_numbers now_size kept_made kept_movers kept_row kept_numbers kept_size toGoal_table_slots toGoal_table_rows toGoal_table_size toGoal_depths toGoal_ways toGoal_stuckRows toGoal_soonestStuck afresh_table_slots afresh_table_rows afresh_table_size afresh_depths afresh_ways afresh_stuckRows afresh_soonestStuck game_table_slots game_table_rows game_table_size game_known readRow goalRow frogs timesRead hasImage) (some (.int res)) (wX E a b page_codes page_size rules_stones rules_signs rules_any rules_back rules_ring rules_two otherRules_stones otherRules_signs otherRules_any otherRules_back otherRules_ring otherRules_two now_made now_movers now_row now_numbers now_size kept_made kept_movers kept_row kept_numbers kept_size toGoal_table_slots toGoal_table_rows toGoal_table_size toGoal_depths toGoal_ways toGoal_stuckRows toGoal_soonestStuck afresh_table_slots afresh_table_rows afresh_table_size afresh_depths afresh_ways afresh_stuckRows afresh_soonestStuck game_table_slots game_table_rows game_table_size game_known readRow goalRow frogs timesRead hasImage) := by
  refine Ct.of (by decide) (Nat.le_of_ble_eq_true rfl) (fun Y hB hR => ?_)
  have hB : Cb E cX7_firstWrong RX7 rX7_firstWrong 3 Y := hB
  show J l E rX7_firstWrong Y (wX E a b page_codes page_size rules_stones rules_signs rules_any rules_back rules_ring rules_two otherRules_stones otherRules_signs otherRules_any otherRules_back otherRules_ring otherRules_two now_made now_movers now_row now_numbers now_size kept_made kept_movers kept_row kept_numbers kept_size toGoal_table_slots toGoal_table_rows toGoal_table_size toGoal_depths toGoal_ways toGoal_stuckRows toGoal_soonestStuck afresh_table_slots afresh_table_rows afresh_table_size afresh_depths afresh_ways afresh_stuckRows afresh_soonestStuck game_table_slots game_table_rows game_table_size game_known readRow goalRow frogs timesRead hasImage) 0 [(0, .ref (a b))] []
  unfold f_X7_firstWrong at hf
  refine J_aload_n hB dX7_firstWrong_0 rfl 0 rfl ?_
  refine J_get (v := .int readRow) hB inX7 0 rfl rfl 8 (Nat.le_of_ble_eq_true rfl) kf_X7_86 rfl dX7_firstWrong_1 ?_
  refine J_istore_n (lv' := [(1, .int readRow), (0, .ref (a b))]) hB rfl dX7_firstWrong_4 rfl (Nat.le_of_ble_eq_true rfl) rfl ?_
  refine J_aload_n hB dX7_firstWrong_5 rfl 1 rfl ?_
  refine J_get (v := .ref (a (b + 11))) hB inX7 0 rfl rfl 5 (Nat.le_of_ble_eq_true rfl) kf_X7_39 rfl dX7_firstWrong_6 ?_
  refine J_iload_n hB dX7_firstWrong_9 rfl 0 rfl ?_
  obtain ⟨r_1, h_2, hf⟩ := cl1_e hf
  refine J_callV (As := [.int readRow]) (rest := []) (n := 1) (ws' := wX E a b page_codes page_size rules_stones rules_signs rules_any rules_back rules_ring rules_two otherRules_stones otherRules_signs otherRules_any otherRules_back otherRules_ring otherRules_two now_made now_movers now_row now_numbers now_size kept_made kept_movers kept_row kept_numbers kept_size toGoal_table_slots toGoal_table_rows toGoal_table_size toGoal_depths toGoal_ways toGoal_stuckRows toGoal_soonestStuck afresh_table_slots afresh_table_rows afresh_table_size afresh_depths afresh_ways afresh_stuckRows afresh_soonestStuck game_table_slots game_table_rows game_table_size game_known readRow goalRow frogs timesRead hasImage) hB (c_X5_depthOf l E a (b + 11) toGoal_table_slots toGoal_table_rows toGoal_table_size toGoal_depths toGoal_ways toGoal_stuckRows toGoal_soonestStuck h_2) mi_X5_depthOf ⟨ki_X5_depthOf, kv_X5_depthOf⟩ km_X7_175 ⟨rfl, rfl, Nat.le_of_ble_eq_true rfl, Nat.le_of_ble_eq_true rfl⟩ (Lz.lies (Lz.skip (Lz.skip (Lz.skip (Lz.skip (Lz.skip (Lz.skip (Lz.take (len_wSearch.trans len_wSearch.symm) (fst_wSearch.trans fst_wSearch.symm))))))))) 11 rfl rfl rfl rfl (Nat.le_of_ble_eq_true rfl) dX7_firstWrong_10 ?_
  show J l E rX7_firstWrong Y (wX E a b page_codes page_size rules_stones rules_signs rules_any rules_back rules_ring rules_two otherRules_stones otherRules_signs otherRules_any otherRules_back otherRules_ring otherRules_two now_made now_movers now_row now_numbers now_size kept_made kept_movers kept_row kept_numbers kept_size toGoal_table_slots toGoal_table_rows toGoal_table_size toGoal_depths toGoal_ways toGoal_stuckRows toGoal_soonestStuck afresh_table_slots afresh_table_rows afresh_table_size afresh_depths afresh_ways afresh_stuckRows afresh_soonestStuck game_table_slots game_table_rows game_table_size game_known readRow goalRow frogs timesRead hasImage) 13 [(1, .int readRow), (0, .ref (a b))] [.int r_1]
  refine J_iconst (v := (-1)) hB dX7_firstWrong_13 rfl ?_
  refine J_icmp_ne (tgt := 19) hB dX7_firstWrong_14 rfl (fun c_3 => ?_) (fun c_3 => ?_)
  · have hf := it_f c_3 hf
    refine J_iconst (v := 0) hB dX7_firstWrong_19 rfl ?_
    refine J_istore_n (lv' := [(2, .int 0), (1, .int readRow), (0, .ref (a b))]) hB rfl dX7_firstWrong_20 rfl (Nat.le_of_ble_eq_true rfl) rfl ?_
    refine J_lv [2, 1, 0] rfl ?_
    refine lp2_0_J (P := fun x1_4 x2_5 => J l E rX7_firstWrong Y (wX E a b page_codes page_size rules_stones rules_signs rules_any rules_back rules_ring rules_two otherRules_stones otherRules_signs otherRules_any otherRules_back otherRules_ring otherRules_two now_made now_movers now_row now_numbers now_size kept_made kept_movers kept_row kept_numbers kept_size toGoal_table_slots toGoal_table_rows toGoal_table_size toGoal_depths toGoal_ways toGoal_stuckRows toGoal_soonestStuck afresh_table_slots afresh_table_rows afresh_table_size afresh_depths afresh_ways afresh_stuckRows afresh_soonestStuck game_table_slots game_table_rows game_table_size game_known readRow goalRow frogs timesRead hasImage) 21 [(0, .ref (a b)), (1, .int x1_4), (2, .int x2_5)] []) (Q := J l E rX7_firstWrong Y (wX E a b page_codes page_size rules_stones rules_signs rules_any rules_back rules_ring rules_two otherRules_stones otherRules_signs otherRules_any otherRules_back otherRules_ring otherRules_two now_made now_movers now_row now_numbers now_size kept_made kept_movers kept_row kept_numbers kept_size toGoal_table_slots toGoal_table_rows toGoal_table_size toGoal_depths toGoal_ways toGoal_stuckRows toGoal_soonestStuck afresh_table_slots afresh_table_rows afresh_table_size afresh_depths afresh_ways afresh_stuckRows afresh_soonestStuck game_table_slots game_table_rows game_table_size game_known readRow goalRow frogs timesRead hasImage) 74 [] []) (fun x1_4 x2_5 nx21 ex21 hnx21 hex21 hf => ?_) (fun hf => ?_) hf
    · refine J_iload_n hB dX7_firstWrong_21 rfl 2 rfl ?_
      refine J_aload_n hB dX7_firstWrong_22 rfl 0 rfl ?_
      refine J_get (v := .ref (a (b + 5))) hB inX7 0 rfl rfl 3 (Nat.le_of_ble_eq_true rfl) kf_X7_29 rfl dX7_firstWrong_23 ?_
      refine J_getN (v := .int now_size) hB inX2 5 rfl rfl 4 (Nat.le_of_ble_eq_true rfl) kfN_X7_165 rfl dX7_firstWrong_26 ?_
      refine J_icmp_ge (tgt := 74) hB dX7_firstWrong_29 rfl (fun c_6 => ?_) (fun c_6 => ?_)
      · have hf := it_t c_6 hf
        exact J_lv [] rfl (hex21 hf)
      · have hf := it_f c_6 hf
        refine J_iload_n hB dX7_firstWrong_32 rfl 2 rfl ?_
        refine J_bipush (v := 60) hB dX7_firstWrong_33 rfl ?_
        refine J_icmp_ge (tgt := 74) hB dX7_firstWrong_35 rfl (fun c_7 => ?_) (fun c_7 => ?_)
        · have hf := it_t c_7 hf
          exact J_lv [] rfl (hex21 hf)
        · have hf := it_f c_7 hf
          refine J_iload_n hB dX7_firstWrong_38 rfl 1 rfl ?_
          refine J_aload_n hB dX7_firstWrong_39 rfl 0 rfl ?_
          refine J_get (v := .ref (a (b + 5))) hB inX7 0 rfl rfl 3 (Nat.le_of_ble_eq_true rfl) kf_X7_29 rfl dX7_firstWrong_40 ?_
          refine J_getN (v := .ref (a (b + 6))) hB inX2 5 rfl rfl 0 (Nat.le_of_ble_eq_true rfl) kfN_X7_295 rfl dX7_firstWrong_43 ?_
          refine J_iload_n hB dX7_firstWrong_46 rfl 2 rfl ?_
          obtain ⟨v_8, ev_8, h_9, hf⟩ := ald_e hf
          refine J_iald hB 6 rfl ev_8 h_9 dX7_firstWrong_47 ?_
          obtain ⟨r_10, h_11, hf⟩ := cl1_e hf
          refine J_callS (As := [.int x1_4, .int v_8]) (rest := []) (n := 2) (ws' := wX E a b page_codes page_size rules_stones rules_signs rules_any rules_back rules_ring rules_two otherRules_stones otherRules_signs otherRules_any otherRules_back otherRules_ring otherRules_two now_made now_movers now_row now_numbers now_size kept_made kept_movers kept_row kept_numbers kept_size toGoal_table_slots toGoal_table_rows toGoal_table_size toGoal_depths toGoal_ways toGoal_stuckRows toGoal_soonestStuck afresh_table_slots afresh_table_rows afresh_table_size afresh_depths afresh_ways afresh_stuckRows afresh_soonestStuck game_table_slots game_table_rows game_table_size game_known readRow goalRow frogs timesRead hasImage) hB (c_X3_moved l E a h_11) mi_X3_moved ks_X3_moved km_X7_235 ⟨rfl, rfl, Nat.le_of_ble_eq_true rfl, Nat.le_of_ble_eq_true rfl⟩ Lies.none rfl rfl (Nat.le_of_ble_eq_true rfl) dX7_firstWrong_48 ?_
          show J l E rX7_firstWrong Y (wX E a b page_codes page_size rules_stones rules_signs rules_any rules_back rules_ring rules_two otherRules_stones otherRules_signs otherRules_any otherRules_back otherRules_ring otherRules_two now_made now_movers now_row now_numbers now_size kept_made kept_movers kept_row kept_numbers kept_size toGoal_table_slots toGoal_table_rows toGoal_table_size toGoal_depths toGoal_ways toGoal_stuckRows toGoal_soonestStuck afresh_table_slots afresh_table_rows afresh_table_size afresh_depths afresh_ways afresh_stuckRows afresh_soonestStuck game_table_slots game_table_rows game_table_size game_known readRow goalRow frogs timesRead hasImage) 51 [(0, .ref (a b)), (1, .int x1_4), (2, .int x2_5)] [.int r_10]
          refine J_istore_n (lv' := [(1, .int r_10), (0, .ref (a b)), (2, .int x2_5)]) hB rfl dX7_firstWrong_51 rfl (Nat.le_of_ble_eq_true rfl) rfl ?_
          refine J_aload_n hB dX7_firstWrong_52 rfl 1 rfl ?_
          refine J_get (v := .ref (a (b + 11))) hB inX7 0 rfl rfl 5 (Nat.le_of_ble_eq_true rfl) kf_X7_39 rfl dX7_firstWrong_53 ?_
          refine J_iload_n hB dX7_firstWrong_56 rfl 0 rfl ?_
          obtain ⟨r_12, h_13, hf⟩ := cl1_e hf
          refine J_callV (As := [.int r_10]) (rest := []) (n := 1) (ws' := wX E a b page_codes page_size rules_stones rules_signs rules_any rules_back rules_ring rules_two otherRules_stones otherRules_signs otherRules_any otherRules_back otherRules_ring otherRules_two now_made now_movers now_row now_numbers now_size kept_made kept_movers kept_row kept_numbers kept_size toGoal_table_slots toGoal_table_rows toGoal_table_size toGoal_depths toGoal_ways toGoal_stuckRows toGoal_soonestStuck afresh_table_slots afresh_table_rows afresh_table_size afresh_depths afresh_ways afresh_stuckRows afresh_soonestStuck game_table_slots game_table_rows game_table_size game_known readRow goalRow frogs timesRead hasImage) hB (c_X5_depthOf l E a (b + 11) toGoal_table_slots toGoal_table_rows toGoal_table_size toGoal_depths toGoal_ways toGoal_stuckRows toGoal_soonestStuck h_13) mi_X5_depthOf ⟨ki_X5_depthOf, kv_X5_depthOf⟩ km_X7_175 ⟨rfl, rfl, Nat.le_of_ble_eq_true rfl, Nat.le_of_ble_eq_true rfl⟩ (Lz.lies (Lz.skip (Lz.skip (Lz.skip (Lz.skip (Lz.skip (Lz.skip (Lz.take (len_wSearch.trans len_wSearch.symm) (fst_wSearch.trans fst_wSearch.symm))))))))) 11 rfl rfl rfl rfl (Nat.le_of_ble_eq_true rfl) dX7_firstWrong_57 ?_
          show J l E rX7_firstWrong Y (wX E a b page_codes page_size rules_stones rules_signs rules_any rules_back rules_ring rules_two otherRules_stones otherRules_signs otherRules_any otherRules_back otherRules_ring otherRules_two now_made now_movers now_row now_numbers now_size kept_made kept_movers kept_row kept_numbers kept_size toGoal_table_slots toGoal_table_rows toGoal_table_size toGoal_depths toGoal_ways toGoal_stuckRows toGoal_soonestStuck afresh_table_slots afresh_table_rows afresh_table_size afresh_depths afresh_ways afresh_stuckRows afresh_soonestStuck game_table_slots game_table_rows game_table_size game_known readRow goalRow frogs timesRead hasImage) 60 [(1, .int r_10), (0, .ref (a b)), (2, .int x2_5)] [.int r_12]
          refine J_iconst (v := (-1)) hB dX7_firstWrong_60 rfl ?_
          refine J_icmp_ne (tgt := 68) hB dX7_firstWrong_61 rfl (fun c_14 => ?_) (fun c_14 => ?_)
          · have hf := it_f c_14 hf
            obtain ⟨x2_15, ex2_15, hf⟩ := nmv_e hf
            refine J_iinc (lv' := [(2, .int x2_15), (1, .int r_10), (0, .ref (a b))]) hB ex2_15 dX7_firstWrong_68 2 rfl (Nat.le_of_ble_eq_true rfl) rfl ?_
            refine J_goto (tgt := 21) hB dX7_firstWrong_71 rfl ?_
            exact J_lv [2, 1, 0] rfl (hnx21 r_10 x2_15 hf)
          · have hf := it_t c_14 hf
            refine J_iload_n hB dX7_firstWrong_64 rfl 2 rfl ?_
            refine J_iconst (v := 1) hB dX7_firstWrong_65 rfl ?_
            refine J_iadd hB dX7_firstWrong_66 ?_
            obtain rfl := Option.some.inj hf
            exact J_iret hB hR dX7_firstWrong_67
    · refine J_iconst (v := (-1)) hB dX7_firstWrong_74 rfl ?_
      obtain rfl := Option.some.inj hf
      exact J_iret hB hR dX7_firstWrong_75
  · have hf := it_t c_3 hf
    refine J_iconst (v := (-1)) hB dX7_firstWrong_17 rfl ?_
    obtain rfl := Option.some.inj hf
    exact J_iret hB hR dX7_firstWrong_18
def f_X7_toTurnRound_u (rules_stones : Int32) (rules_any : Int32) (rules_back : Int32) (rules_ring : Int32) (rules_two : Int32) (afresh_table_slots : Nat → Int32) (afresh_table_rows : Nat → Int32) (afresh_table_size : Int32) (afresh_depths : Nat → Int32) (afresh_ways : Nat → Int32) (afresh_stuckRows : Int32) (afresh_soonestStuck : Int32) (p1 : Int32) : Option (Int32 × (Nat → Int32) × (Nat → Int32) × Int32 × (Nat → Int32) × (Nat → Int32) × Int32 × Int32) :=
cl1 (f_X3_turned p1 rules_stones) fun r_1 =>
cl8 (f_X5_spread rules_stones rules_any rules_back rules_ring rules_two afresh_table_slots afresh_table_rows afresh_table_size afresh_depths afresh_ways afresh_stuckRows afresh_soonestStuck p1 1 r_1) fun r_3 afresh_table_slots_4 afresh_table_rows_5 afresh_table_size_6 afresh_depths_7 afresh_ways_8 afresh_stuckRows_9 afresh_soonestStuck_10 =>
some (r_3, afresh_table_slots_4, afresh_table_rows_5, afresh_table_size_6, afresh_depths_7, afresh_ways_8, afresh_stuckRows_9, afresh_soonestStuck_10)
abbrev rX7_toTurnRound_u : Room := { frames := 5, cells := 0, slots := 0, locals := 131 }
set_option maxRecDepth 100000 in
set_option maxHeartbeats 4000000 in
theorem c_X7_toTurnRound_u (l : Launch) (E : En) (a : Nat → Nat) (b : Nat) (page_codes : Nat → Int32) (page_size : Int32) (rules_stones : Int32) (rules_signs : Int32) (rules_any : Int32) (rules_back : Int32) (rules_ring : Int32) (rules_two : Int32) (otherRules_stones : Int32) (otherRules_signs : Int32) (otherRules_any : Int32) (otherRules_back : Int32) (otherRules_ring : Int32) (otherRules_two : Int32) (now_made : Nat → Int32) (now_movers : Nat → Int32) (now_row : Int32) (now_numbers : Int32) (now_size : Int32) (kept_made : Nat → Int32) (kept_movers : Nat → Int32) (kept_row : Int32) (kept_numbers : Int32) (kept_size : Int32) (toGoal_table_slots : Nat → Int32) (toGoal_table_rows : Nat → Int32) (toGoal_table_size : Int32) (toGoal_depths : Nat → Int32) (toGoal_ways : Nat → Int32) (toGoal_stuckRows : Int32) (toGoal_soonestStuck : Int32) (afresh_table_slots : Nat → Int32) (afresh_table_rows : Nat → Int32) (afresh_table_size : Int32) (afresh_depths : Nat → Int32) (afresh_ways : Nat → Int32) (afresh_stuckRows : Int32) (afresh_soonestStuck : Int32) (game_table_slots : Nat → Int32) (game_table_rows : Nat → Int32) (game_table_size : Int32) (game_known : Nat → Int32) (readRow : Int32) (goalRow : Int32) (frogs : Int32) (timesRead : Int32) (hasImage : Int32) {p1 : Int32} {res : Int32 × (Nat → Int32) × (Nat → Int32) × Int32 × (Nat → Int32) × (Nat → Int32) × Int32 × Int32} (hf : f_X7_toTurnRound_u rules_stones rules_any rules_back rules_ring rules_two afresh_table_slots afresh_table_rows afresh_table_size afresh_depths afresh_ways afresh_stuckRows afresh_soonestStuck p1 = some res) : Ct l yX7_toTurnRound (.code yX7_toTurnRound cX7_toTurnRound 3 (some .int)) rX7_toTurnRound_u E [.ref (a b), .ref (a (b + 3)), .int p1] (wX E a b page_codes page_size rules_stones rules_signs rules_any rules_back rules_ring rules_two otherRules_stones otherRules_signs otherRules_any otherRules_back otherRules_ring otherRules_two now_made now_movers now_row now_numbers now_size kept_made kept_movers kept_row kept_numbers kept_size toGoal_table_slots toGoal_table_rows toGoal_table_size toGoal_depths toGoal_ways toGoal_stuckRows toGoal_soonestStuck afresh_table_slots afresh_table_rows afresh_table_size afresh_depths afresh_ways afresh_stuckRows afresh_soonestStuck game_table_slots game_table_rows game_table_size game_known readRow goalRow frogs timesRead hasImage) (some (.int res.1)) (wX E a b page_codes page_size rules_stones rules_signs rules_any rules_back rules_ring rules_two otherRules_stones otherRules_signs otherRules_any otherRules_back otherRules_ring otherRules_two now_made now_movers now_row now_numbers now_size kept_made kept_movers kept_row kept_numbers kept_size toGoal_table_slots toGoal_table_rows toGoal_table_size toGoal_depths toGoal_ways toGoal_stuckRows toGoal_soonestStuck res.2.1 res.2.2.1 res.2.2.2.1 res.2.2.2.2.1 res.2.2.2.2.2.1 res.2.2.2.2.2.2.1 res.2.2.2.2.2.2.2 game_table_slots game_table_rows game_table_size game_known readRow goalRow frogs timesRead hasImage) := by
  refine Ct.of (by decide) (Nat.le_of_ble_eq_true rfl) (fun Y hB hR => ?_)
  have hB : Cb E cX7_toTurnRound RX7 rX7_toTurnRound_u 3 Y := hB
  show J l E rX7_toTurnRound_u Y (wX E a b page_codes page_size rules_stones rules_signs rules_any rules_back rules_ring rules_two otherRules_stones otherRules_signs otherRules_any otherRules_back otherRules_ring otherRules_two now_made now_movers now_row now_numbers now_size kept_made kept_movers kept_row kept_numbers kept_size toGoal_table_slots toGoal_table_rows toGoal_table_size toGoal_depths toGoal_ways toGoal_stuckRows toGoal_soonestStuck afresh_table_slots afresh_table_rows afresh_table_size afresh_depths afresh_ways afresh_stuckRows afresh_soonestStuck game_table_slots game_table_rows game_table_size game_known readRow goalRow frogs timesRead hasImage) 0 [(0, .ref (a b)), (1, .ref (a (b + 3))), (2, .int p1)] []
  unfold f_X7_toTurnRound_u at hf
  refine J_aload_n hB dX7_toTurnRound_0 rfl 0 rfl ?_
  refine J_get (v := .ref (a (b + 17))) hB inX7 0 rfl rfl 6 (Nat.le_of_ble_eq_true rfl) kf_X7_43 rfl dX7_toTurnRound_1 ?_
  refine J_aload_n hB dX7_toTurnRound_4 rfl 1 rfl ?_
  refine J_iload_n hB dX7_toTurnRound_5 rfl 2 rfl ?_
  refine J_iconst (v := 1) hB dX7_toTurnRound_6 rfl ?_
  refine J_iload_n hB dX7_toTurnRound_7 rfl 2 rfl ?_
  refine J_aload_n hB dX7_toTurnRound_8 rfl 1 rfl ?_
  refine J_getN (v := .int rules_stones) hB inX4 3 rfl rfl 0 (Nat.le_of_ble_eq_true rfl) kfN_X7_89 rfl dX7_toTurnRound_9 ?_
  obtain ⟨r_1, h_2, hf⟩ := cl1_e hf
  refine J_callS (As := [.int p1, .int rules_stones]) (rest := [.int 1, .int p1, .ref (a (b + 3)), .ref (a (b + 17))]) (n := 2) (ws' := wX E a b page_codes page_size rules_stones rules_signs rules_any rules_back rules_ring rules_two otherRules_stones otherRules_signs otherRules_any otherRules_back otherRules_ring otherRules_two now_made now_movers now_row now_numbers now_size kept_made kept_movers kept_row kept_numbers kept_size toGoal_table_slots toGoal_table_rows toGoal_table_size toGoal_depths toGoal_ways toGoal_stuckRows toGoal_soonestStuck afresh_table_slots afresh_table_rows afresh_table_size afresh_depths afresh_ways afresh_stuckRows afresh_soonestStuck game_table_slots game_table_rows game_table_size game_known readRow goalRow frogs timesRead hasImage) hB (c_X3_turned l E a h_2) mi_X3_turned ks_X3_turned km_X7_92 ⟨rfl, rfl, Nat.le_of_ble_eq_true rfl, Nat.le_of_ble_eq_true rfl⟩ Lies.none rfl rfl (Nat.le_of_ble_eq_true rfl) dX7_toTurnRound_12 ?_
  show J l E rX7_toTurnRound_u Y (wX E a b page_codes page_size rules_stones rules_signs rules_any rules_back rules_ring rules_two otherRules_stones otherRules_signs otherRules_any otherRules_back otherRules_ring otherRules_two now_made now_movers now_row now_numbers now_size kept_made kept_movers kept_row kept_numbers kept_size toGoal_table_slots toGoal_table_rows toGoal_table_size toGoal_depths toGoal_ways toGoal_stuckRows toGoal_soonestStuck afresh_table_slots afresh_table_rows afresh_table_size afresh_depths afresh_ways afresh_stuckRows afresh_soonestStuck game_table_slots game_table_rows game_table_size game_known readRow goalRow frogs timesRead hasImage) 15 [(0, .ref (a b)), (1, .ref (a (b + 3))), (2, .int p1)] [.int r_1, .int 1, .int p1, .ref (a (b + 3)), .ref (a (b + 17))]
  obtain ⟨r_3, afresh_table_slots_4, afresh_table_rows_5, afresh_table_size_6, afresh_depths_7, afresh_ways_8, afresh_stuckRows_9, afresh_soonestStuck_10, h_11, hf⟩ := cl8_e hf
  refine J_callV (As := [.ref (a (b + 3)), .int p1, .int 1, .int r_1]) (rest := []) (n := 4) (ws' := wX E a b page_codes page_size rules_stones rules_signs rules_any rules_back rules_ring rules_two otherRules_stones otherRules_signs otherRules_any otherRules_back otherRules_ring otherRules_two now_made now_movers now_row now_numbers now_size kept_made kept_movers kept_row kept_numbers kept_size toGoal_table_slots toGoal_table_rows toGoal_table_size toGoal_depths toGoal_ways toGoal_stuckRows toGoal_soonestStuck afresh_table_slots_4 afresh_table_rows_5 afresh_table_size_6 afresh_depths_7 afresh_ways_8 afresh_stuckRows_9 afresh_soonestStuck_10 game_table_slots game_table_rows game_table_size game_known readRow goalRow frogs timesRead hasImage) hB (c_X5_spread l E a (b + 3) (b + 17) rules_stones rules_signs rules_any rules_back rules_ring rules_two afresh_table_slots afresh_table_rows afresh_table_size afresh_depths afresh_ways afresh_stuckRows afresh_soonestStuck h_11) mi_X5_spread ⟨ki_X5_spread, kv_X5_spread⟩ km_X7_114 ⟨rfl, rfl, Nat.le_of_ble_eq_true rfl, Nat.le_of_ble_eq_true rfl⟩ (Lz.lies (Lz.skip (Lz.skip (Lz.pair (len_wRules.trans len_wRules.symm) (fst_wRules.trans fst_wRules.symm) (Lz.skip (Lz.skip (Lz.skip (Lz.skip (Lz.take (len_wSearch.trans len_wSearch.symm) (fst_wSearch.trans fst_wSearch.symm)))))))))) 17 rfl rfl rfl rfl (Nat.le_of_ble_eq_true rfl) dX7_toTurnRound_15 ?_
  show J l E rX7_toTurnRound_u Y (wX E a b page_codes page_size rules_stones rules_signs rules_any rules_back rules_ring rules_two otherRules_stones otherRules_signs otherRules_any otherRules_back otherRules_ring otherRules_two now_made now_movers now_row now_numbers now_size kept_made kept_movers kept_row kept_numbers kept_size toGoal_table_slots toGoal_table_rows toGoal_table_size toGoal_depths toGoal_ways toGoal_stuckRows toGoal_soonestStuck afresh_table_slots_4 afresh_table_rows_5 afresh_table_size_6 afresh_depths_7 afresh_ways_8 afresh_stuckRows_9 afresh_soonestStuck_10 game_table_slots game_table_rows game_table_size game_known readRow goalRow frogs timesRead hasImage) 18 [(0, .ref (a b)), (1, .ref (a (b + 3))), (2, .int p1)] [.int r_3]
  obtain rfl := Option.some.inj hf
  exact J_iret hB hR dX7_toTurnRound_18
def f_X7_toTurnRound_o (otherRules_stones : Int32) (otherRules_any : Int32) (otherRules_back : Int32) (otherRules_ring : Int32) (otherRules_two : Int32) (afresh_table_slots : Nat → Int32) (afresh_table_rows : Nat → Int32) (afresh_table_size : Int32) (afresh_depths : Nat → Int32) (afresh_ways : Nat → Int32) (afresh_stuckRows : Int32) (afresh_soonestStuck : Int32) (p1 : Int32) : Option (Int32 × (Nat → Int32) × (Nat → Int32) × Int32 × (Nat → Int32) × (Nat → Int32) × Int32 × Int32) :=
cl1 (f_X3_turned p1 otherRules_stones) fun r_1 =>
cl8 (f_X5_spread otherRules_stones otherRules_any otherRules_back otherRules_ring otherRules_two afresh_table_slots afresh_table_rows afresh_table_size afresh_depths afresh_ways afresh_stuckRows afresh_soonestStuck p1 1 r_1) fun r_3 afresh_table_slots_4 afresh_table_rows_5 afresh_table_size_6 afresh_depths_7 afresh_ways_8 afresh_stuckRows_9 afresh_soonestStuck_10 =>
some (r_3, afresh_table_slots_4, afresh_table_rows_5, afresh_table_size_6, afresh_depths_7, afresh_ways_8, afresh_stuckRows_9, afresh_soonestStuck_10)
abbrev rX7_toTurnRound_o : Room := { frames := 5, cells := 0, slots := 0, locals := 131 }
set_option maxRecDepth 100000 in
set_option maxHeartbeats 4000000 in
theorem c_X7_toTurnRound_o (l : Launch) (E : En) (a : Nat → Nat) (b : Nat) (page_codes : Nat → Int32) (page_size : Int32) (rules_stones : Int32) (rules_signs : Int32) (rules_any : Int32) (rules_back : Int32) (rules_ring : Int32) (rules_two : Int32) (otherRules_stones : Int32) (otherRules_signs : Int32) (otherRules_any : Int32) (otherRules_back : Int32) (otherRules_ring : Int32) (otherRules_two : Int32) (now_made : Nat → Int32) (now_movers : Nat → Int32) (now_row : Int32) (now_numbers : Int32) (now_size : Int32) (kept_made : Nat → Int32) (kept_movers : Nat → Int32) (kept_row : Int32) (kept_numbers : Int32) (kept_size : Int32) (toGoal_table_slots : Nat → Int32) (toGoal_table_rows : Nat → Int32) (toGoal_table_size : Int32) (toGoal_depths : Nat → Int32) (toGoal_ways : Nat → Int32) (toGoal_stuckRows : Int32) (toGoal_soonestStuck : Int32) (afresh_table_slots : Nat → Int32) (afresh_table_rows : Nat → Int32) (afresh_table_size : Int32) (afresh_depths : Nat → Int32) (afresh_ways : Nat → Int32) (afresh_stuckRows : Int32) (afresh_soonestStuck : Int32) (game_table_slots : Nat → Int32) (game_table_rows : Nat → Int32) (game_table_size : Int32) (game_known : Nat → Int32) (readRow : Int32) (goalRow : Int32) (frogs : Int32) (timesRead : Int32) (hasImage : Int32) {p1 : Int32} {res : Int32 × (Nat → Int32) × (Nat → Int32) × Int32 × (Nat → Int32) × (Nat → Int32) × Int32 × Int32} (hf : f_X7_toTurnRound_o otherRules_stones otherRules_any otherRules_back otherRules_ring otherRules_two afresh_table_slots afresh_table_rows afresh_table_size afresh_depths afresh_ways afresh_stuckRows afresh_soonestStuck p1 = some res) : Ct l yX7_toTurnRound (.code yX7_toTurnRound cX7_toTurnRound 3 (some .int)) rX7_toTurnRound_o E [.ref (a b), .ref (a (b + 4)), .int p1] (wX E a b page_codes page_size rules_stones rules_signs rules_any rules_back rules_ring rules_two otherRules_stones otherRules_signs otherRules_any otherRules_back otherRules_ring otherRules_two now_made now_movers now_row now_numbers now_size kept_made kept_movers kept_row kept_numbers kept_size toGoal_table_slots toGoal_table_rows toGoal_table_size toGoal_depths toGoal_ways toGoal_stuckRows toGoal_soonestStuck afresh_table_slots afresh_table_rows afresh_table_size afresh_depths afresh_ways afresh_stuckRows afresh_soonestStuck game_table_slots game_table_rows game_table_size game_known readRow goalRow frogs timesRead hasImage) (some (.int res.1)) (wX E a b page_codes page_size rules_stones rules_signs rules_any rules_back rules_ring rules_two otherRules_stones otherRules_signs otherRules_any otherRules_back otherRules_ring otherRules_two now_made now_movers now_row now_numbers now_size kept_made kept_movers kept_row kept_numbers kept_size toGoal_table_slots toGoal_table_rows toGoal_table_size toGoal_depths toGoal_ways toGoal_stuckRows toGoal_soonestStuck res.2.1 res.2.2.1 res.2.2.2.1 res.2.2.2.2.1 res.2.2.2.2.2.1 res.2.2.2.2.2.2.1 res.2.2.2.2.2.2.2 game_table_slots game_table_rows game_table_size game_known readRow goalRow frogs timesRead hasImage) := by
  refine Ct.of (by decide) (Nat.le_of_ble_eq_true rfl) (fun Y hB hR => ?_)
  have hB : Cb E cX7_toTurnRound RX7 rX7_toTurnRound_o 3 Y := hB
  show J l E rX7_toTurnRound_o Y (wX E a b page_codes page_size rules_stones rules_signs rules_any rules_back rules_ring rules_two otherRules_stones otherRules_signs otherRules_any otherRules_back otherRules_ring otherRules_two now_made now_movers now_row now_numbers now_size kept_made kept_movers kept_row kept_numbers kept_size toGoal_table_slots toGoal_table_rows toGoal_table_size toGoal_depths toGoal_ways toGoal_stuckRows toGoal_soonestStuck afresh_table_slots afresh_table_rows afresh_table_size afresh_depths afresh_ways afresh_stuckRows afresh_soonestStuck game_table_slots game_table_rows game_table_size game_known readRow goalRow frogs timesRead hasImage) 0 [(0, .ref (a b)), (1, .ref (a (b + 4))), (2, .int p1)] []
  unfold f_X7_toTurnRound_o at hf
  refine J_aload_n hB dX7_toTurnRound_0 rfl 0 rfl ?_
  refine J_get (v := .ref (a (b + 17))) hB inX7 0 rfl rfl 6 (Nat.le_of_ble_eq_true rfl) kf_X7_43 rfl dX7_toTurnRound_1 ?_
  refine J_aload_n hB dX7_toTurnRound_4 rfl 1 rfl ?_
  refine J_iload_n hB dX7_toTurnRound_5 rfl 2 rfl ?_
  refine J_iconst (v := 1) hB dX7_toTurnRound_6 rfl ?_
  refine J_iload_n hB dX7_toTurnRound_7 rfl 2 rfl ?_
  refine J_aload_n hB dX7_toTurnRound_8 rfl 1 rfl ?_
  refine J_getN (v := .int otherRules_stones) hB inX4 4 rfl rfl 0 (Nat.le_of_ble_eq_true rfl) kfN_X7_89 rfl dX7_toTurnRound_9 ?_
  obtain ⟨r_1, h_2, hf⟩ := cl1_e hf
  refine J_callS (As := [.int p1, .int otherRules_stones]) (rest := [.int 1, .int p1, .ref (a (b + 4)), .ref (a (b + 17))]) (n := 2) (ws' := wX E a b page_codes page_size rules_stones rules_signs rules_any rules_back rules_ring rules_two otherRules_stones otherRules_signs otherRules_any otherRules_back otherRules_ring otherRules_two now_made now_movers now_row now_numbers now_size kept_made kept_movers kept_row kept_numbers kept_size toGoal_table_slots toGoal_table_rows toGoal_table_size toGoal_depths toGoal_ways toGoal_stuckRows toGoal_soonestStuck afresh_table_slots afresh_table_rows afresh_table_size afresh_depths afresh_ways afresh_stuckRows afresh_soonestStuck game_table_slots game_table_rows game_table_size game_known readRow goalRow frogs timesRead hasImage) hB (c_X3_turned l E a h_2) mi_X3_turned ks_X3_turned km_X7_92 ⟨rfl, rfl, Nat.le_of_ble_eq_true rfl, Nat.le_of_ble_eq_true rfl⟩ Lies.none rfl rfl (Nat.le_of_ble_eq_true rfl) dX7_toTurnRound_12 ?_
  show J l E rX7_toTurnRound_o Y (wX E a b page_codes page_size rules_stones rules_signs rules_any rules_back rules_ring rules_two otherRules_stones otherRules_signs otherRules_any otherRules_back otherRules_ring otherRules_two now_made now_movers now_row now_numbers now_size kept_made kept_movers kept_row kept_numbers kept_size toGoal_table_slots toGoal_table_rows toGoal_table_size toGoal_depths toGoal_ways toGoal_stuckRows toGoal_soonestStuck afresh_table_slots afresh_table_rows afresh_table_size afresh_depths afresh_ways afresh_stuckRows afresh_soonestStuck game_table_slots game_table_rows game_table_size game_known readRow goalRow frogs timesRead hasImage) 15 [(0, .ref (a b)), (1, .ref (a (b + 4))), (2, .int p1)] [.int r_1, .int 1, .int p1, .ref (a (b + 4)), .ref (a (b + 17))]
  obtain ⟨r_3, afresh_table_slots_4, afresh_table_rows_5, afresh_table_size_6, afresh_depths_7, afresh_ways_8, afresh_stuckRows_9, afresh_soonestStuck_10, h_11, hf⟩ := cl8_e hf
  refine J_callV (As := [.ref (a (b + 4)), .int p1, .int 1, .int r_1]) (rest := []) (n := 4) (ws' := wX E a b page_codes page_size rules_stones rules_signs rules_any rules_back rules_ring rules_two otherRules_stones otherRules_signs otherRules_any otherRules_back otherRules_ring otherRules_two now_made now_movers now_row now_numbers now_size kept_made kept_movers kept_row kept_numbers kept_size toGoal_table_slots toGoal_table_rows toGoal_table_size toGoal_depths toGoal_ways toGoal_stuckRows toGoal_soonestStuck afresh_table_slots_4 afresh_table_rows_5 afresh_table_size_6 afresh_depths_7 afresh_ways_8 afresh_stuckRows_9 afresh_soonestStuck_10 game_table_slots game_table_rows game_table_size game_known readRow goalRow frogs timesRead hasImage) hB (c_X5_spread l E a (b + 4) (b + 17) otherRules_stones otherRules_signs otherRules_any otherRules_back otherRules_ring otherRules_two afresh_table_slots afresh_table_rows afresh_table_size afresh_depths afresh_ways afresh_stuckRows afresh_soonestStuck h_11) mi_X5_spread ⟨ki_X5_spread, kv_X5_spread⟩ km_X7_114 ⟨rfl, rfl, Nat.le_of_ble_eq_true rfl, Nat.le_of_ble_eq_true rfl⟩ (Lz.lies (Lz.skip (Lz.skip (Lz.skip (Lz.pair (len_wRules.trans len_wRules.symm) (fst_wRules.trans fst_wRules.symm) (Lz.skip (Lz.skip (Lz.skip (Lz.take (len_wSearch.trans len_wSearch.symm) (fst_wSearch.trans fst_wSearch.symm)))))))))) 17 rfl rfl rfl rfl (Nat.le_of_ble_eq_true rfl) dX7_toTurnRound_15 ?_
  show J l E rX7_toTurnRound_o Y (wX E a b page_codes page_size rules_stones rules_signs rules_any rules_back rules_ring rules_two otherRules_stones otherRules_signs otherRules_any otherRules_back otherRules_ring otherRules_two now_made now_movers now_row now_numbers now_size kept_made kept_movers kept_row kept_numbers kept_size toGoal_table_slots toGoal_table_rows toGoal_table_size toGoal_depths toGoal_ways toGoal_stuckRows toGoal_soonestStuck afresh_table_slots_4 afresh_table_rows_5 afresh_table_size_6 afresh_depths_7 afresh_ways_8 afresh_stuckRows_9 afresh_soonestStuck_10 game_table_slots game_table_rows game_table_size game_known readRow goalRow frogs timesRead hasImage) 18 [(0, .ref (a b)), (1, .ref (a (b + 4))), (2, .int p1)] [.int r_3]
  obtain rfl := Option.some.inj hf
  exact J_iret hB hR dX7_toTurnRound_18
def f_X7_isLess (p0 : Int32) (p1 : Int32) : Option (Int32) :=
if p0 = ((-1)) then (
some 0) else (
jn0 (
some 1) fun j15 =>
if p1 = ((-1)) then (
j15) else (
if p1 ≤ p0 then (
some 0) else (
j15)))
abbrev rX7_isLess : Room := { frames := 0, cells := 0, slots := 0, locals := 0 }
set_option maxRecDepth 100000 in
set_option maxHeartbeats 4000000 in
theorem c_X7_isLess (l : Launch) (E : En) (a : Nat → Nat) {p0 : Int32} {p1 : Int32} {res : Int32} (hf : f_X7_isLess p0 p1 = some res) : Ct l yX7_isLess (.code yX7_isLess cX7_isLess 2 (some .boolean)) rX7_isLess E [.int p0, .int p1] ([]) (some (.int res)) ([]) := by
  refine Ct.of (by decide) (Nat.le_of_ble_eq_true rfl) (fun Y hB hR => ?_)
  have hB : Cb E cX7_isLess RX7 rX7_isLess 2 Y := hB
  show J l E rX7_isLess Y [] 0 [(0, .int p0), (1, .int p1)] []
  unfold f_X7_isLess at hf
  refine J_iload_n hB dX7_isLess_0 rfl 0 rfl ?_
  refine J_iconst (v := (-1)) hB dX7_isLess_1 rfl ?_
  refine J_icmp_eq (tgt := 19) hB dX7_isLess_2 rfl (fun c_1 => ?_) (fun c_1 => ?_)
  · have hf := it_t c_1 hf
    refine J_iconst (v := 0) hB dX7_isLess_19 rfl ?_
    obtain rfl := Option.some.inj hf
    exact J_zret hB hR (Or.inl rfl) dX7_isLess_20
  · have hf := it_f c_1 hf
    refine J_iload_n hB dX7_isLess_5 rfl 1 rfl ?_
    refine J_iconst (v := (-1)) hB dX7_isLess_6 rfl ?_
    refine jn0_e (P := J l E rX7_isLess Y [] 15 [] []) hf (fun hf => ?_) (fun j15 hj15 hf => ?_)
    · refine J_iconst (v := 1) hB dX7_isLess_15 rfl ?_
      refine J_goto (tgt := 20) hB dX7_isLess_16 rfl ?_
      obtain rfl := Option.some.inj hf
      exact J_zret hB hR (Or.inr rfl) dX7_isLess_20
    · refine J_icmp_eq (tgt := 15) hB dX7_isLess_7 rfl (fun c_2 => ?_) (fun c_2 => ?_)
      · have hf := it_t c_2 hf
        exact J_lv [] rfl (hj15 hf)
      · have hf := it_f c_2 hf
        refine J_iload_n hB dX7_isLess_10 rfl 0 rfl ?_
        refine J_iload_n hB dX7_isLess_11 rfl 1 rfl ?_
        refine J_icmp_ge (tgt := 19) hB dX7_isLess_12 rfl (fun c_3 => ?_) (fun c_3 => ?_)
        · have hf := it_t c_3 hf
          refine J_iconst (v := 0) hB dX7_isLess_19 rfl ?_
          obtain rfl := Option.some.inj hf
          exact J_zret hB hR (Or.inl rfl) dX7_isLess_20
        · have hf := it_f c_3 hf
          exact J_lv [] rfl (hj15 hf)
def f_X7_seedAfter (p0 : Int32) : Option (Int32) :=
some (Int64.toInt32 ((((1103515245 : Int64) * (Int32.toInt64 p0)) + (12345 : Int64)) &&& (2147483647 : Int64)))
abbrev rX7_seedAfter : Room := { frames := 0, cells := 0, slots := 0, locals := 0 }
set_option maxRecDepth 100000 in
set_option maxHeartbeats 4000000 in
theorem c_X7_seedAfter (l : Launch) (E : En) (a : Nat → Nat) {p0 : Int32} {res : Int32} (hf : f_X7_seedAfter p0 = some res) : Ct l yX7_seedAfter (.code yX7_seedAfter cX7_seedAfter 1 (some .int)) rX7_seedAfter E [.int p0] ([]) (some (.int res)) ([]) := by
  refine Ct.of (by decide) (Nat.le_of_ble_eq_true rfl) (fun Y hB hR => ?_)
  have hB : Cb E cX7_seedAfter RX7 rX7_seedAfter 1 Y := hB
  show J l E rX7_seedAfter Y [] 0 [(0, .int p0)] []
  unfold f_X7_seedAfter at hf
  refine J_ldc2 hB dX7_seedAfter_0 kk_X7_298 ?_
  refine J_iload_n hB dX7_seedAfter_3 rfl 0 rfl ?_
  refine J_i2l hB dX7_seedAfter_4 ?_
  refine J_lmul hB dX7_seedAfter_5 ?_
  refine J_ldc2 hB dX7_seedAfter_6 kk_X7_300 ?_
  refine J_ladd hB dX7_seedAfter_9 ?_
  refine J_ldc2 hB dX7_seedAfter_10 kk_X7_302 ?_
  refine J_land hB dX7_seedAfter_13 ?_
  refine J_l2i hB dX7_seedAfter_14 ?_
  obtain rfl := Option.some.inj hf
  exact J_iret hB hR dX7_seedAfter_15
def f_X7_drawOf (p0 : Int32) (p1 : Int32) : Option (Int32) :=
if 0 < p1 then (
idivK p0 65536 fun v_2 =>
iremK v_2 p1 fun v_4 =>
some v_4) else (
some 0)
abbrev rX7_drawOf : Room := { frames := 0, cells := 0, slots := 0, locals := 0 }
set_option maxRecDepth 100000 in
set_option maxHeartbeats 4000000 in
theorem c_X7_drawOf (l : Launch) (E : En) (a : Nat → Nat) {p0 : Int32} {p1 : Int32} {res : Int32} (hf : f_X7_drawOf p0 p1 = some res) : Ct l yX7_drawOf (.code yX7_drawOf cX7_drawOf 2 (some .int)) rX7_drawOf E [.int p0, .int p1] ([]) (some (.int res)) ([]) := by
  refine Ct.of (by decide) (Nat.le_of_ble_eq_true rfl) (fun Y hB hR => ?_)
  have hB : Cb E cX7_drawOf RX7 rX7_drawOf 2 Y := hB
  show J l E rX7_drawOf Y [] 0 [(0, .int p0), (1, .int p1)] []
  unfold f_X7_drawOf at hf
  refine J_iload_n hB dX7_drawOf_0 rfl 1 rfl ?_
  refine J_if_gt (tgt := 8) hB dX7_drawOf_1 rfl (fun c_1 => ?_) (fun c_1 => ?_)
  · have hf := it_t c_1 hf
    refine J_iload_n hB dX7_drawOf_8 rfl 0 rfl ?_
    refine J_ldcw hB dX7_drawOf_9 kk_X7_304 ?_
    obtain ⟨v_2, ev_2, h_3, hf⟩ := idivK_e hf
    refine J_idiv hB dX7_drawOf_12 h_3 ?_
    rw [← ev_2]
    refine J_iload_n hB dX7_drawOf_13 rfl 1 rfl ?_
    obtain ⟨v_4, ev_4, h_5, hf⟩ := iremK_e hf
    refine J_irem hB dX7_drawOf_14 h_5 ?_
    rw [← ev_4]
    obtain rfl := Option.some.inj hf
    exact J_iret hB hR dX7_drawOf_15
  · have hf := it_f c_1 hf
    refine J_iconst (v := 0) hB dX7_drawOf_4 rfl ?_
    refine J_goto (tgt := 15) hB dX7_drawOf_5 rfl ?_
    obtain rfl := Option.some.inj hf
    exact J_iret hB hR dX7_drawOf_15
def f_X7_moveOfNumber (p0 : Int64) (p1 : Int32) : Option (Int32) :=
lp2_1 (fun (x3_1 : Int64) (x5_2 : Int32) nx5 ex5 =>
if p1 ≤ x5_2 then (
ex5 x3_1) else (
nmv (α := Int64) (x3_1 &&& (x3_1 - (1 : Int64))) fun x3_5 =>
nmv (α := Int32) (x5_2 + 1) fun x5_6 =>
nx5 x3_5 x5_6)) (fun (x3_3 : Int64) =>
cl1 (f_X3_lowestMove x3_3) fun r_7 =>
some r_7) fuel p0 0
abbrev rX7_moveOfNumber : Room := { frames := 2, cells := 0, slots := 0, locals := 42 }
set_option maxRecDepth 100000 in
set_option maxHeartbeats 4000000 in
theorem c_X7_moveOfNumber (l : Launch) (E : En) (a : Nat → Nat) {p0 : Int64} {p1 : Int32} {res : Int32} (hf : f_X7_moveOfNumber p0 p1 = some res) : Ct l yX7_moveOfNumber (.code yX7_moveOfNumber cX7_moveOfNumber 6 (some .int)) rX7_moveOfNumber E [.long p0, .int p1] ([]) (some (.int res)) ([]) := by
  refine Ct.of (by decide) (Nat.le_of_ble_eq_true rfl) (fun Y hB hR => ?_)
  have hB : Cb E cX7_moveOfNumber RX7 rX7_moveOfNumber 6 Y := hB
  show J l E rX7_moveOfNumber Y [] 0 [(0, .long p0), (2, .int p1)] []
  unfold f_X7_moveOfNumber at hf
  refine J_lload_n hB dX7_moveOfNumber_0 rfl 0 rfl ?_
  refine J_lstore_n (lv' := [(3, .long p0), (0, .long p0), (2, .int p1)]) hB rfl dX7_moveOfNumber_1 rfl (Nat.le_of_ble_eq_true rfl) rfl ?_
  refine J_iconst (v := 0) hB dX7_moveOfNumber_2 rfl ?_
  refine J_istore (lv' := [(5, .int 0), (3, .long p0), (0, .long p0), (2, .int p1)]) hB rfl dX7_moveOfNumber_3 (Nat.le_of_ble_eq_true rfl) rfl ?_
  refine J_lv [3, 1, 0] rfl ?_
  refine lp2_1_J (P := fun x3_1 x5_2 => J l E rX7_moveOfNumber Y [] 5 [(2, .int p1), (3, .long x3_1), (5, .int x5_2)] []) (Q := fun x3_3 => J l E rX7_moveOfNumber Y [] 23 [(3, .long x3_3)] []) (fun x3_1 x5_2 nx5 ex5 hnx5 hex5 hf => ?_) (fun x3_3 hf => ?_) hf
  · refine J_iload hB dX7_moveOfNumber_5 2 rfl ?_
    refine J_iload_n hB dX7_moveOfNumber_7 rfl 0 rfl ?_
    refine J_icmp_ge (tgt := 23) hB dX7_moveOfNumber_8 rfl (fun c_4 => ?_) (fun c_4 => ?_)
    · have hf := it_t c_4 hf
      exact J_lv [1] rfl (hex5 x3_1 hf)
    · have hf := it_f c_4 hf
      refine J_lload_n hB dX7_moveOfNumber_11 rfl 1 rfl ?_
      refine J_lload_n hB dX7_moveOfNumber_12 rfl 1 rfl ?_
      refine J_lconst (v := 1) hB dX7_moveOfNumber_13 rfl ?_
      refine J_lsub hB dX7_moveOfNumber_14 ?_
      refine J_land hB dX7_moveOfNumber_15 ?_
      obtain ⟨x3_5, ex3_5, hf⟩ := nmv_e hf
      refine J_lstore_n (lv' := [(3, .long x3_5), (2, .int p1), (5, .int x5_2)]) hB ex3_5 dX7_moveOfNumber_16 rfl (Nat.le_of_ble_eq_true rfl) rfl ?_
      obtain ⟨x5_6, ex5_6, hf⟩ := nmv_e hf
      refine J_iinc (lv' := [(5, .int x5_6), (3, .long x3_5), (2, .int p1)]) hB ex5_6 dX7_moveOfNumber_17 2 rfl (Nat.le_of_ble_eq_true rfl) rfl ?_
      refine J_goto (tgt := 5) hB dX7_moveOfNumber_20 rfl ?_
      exact J_lv [2, 1, 0] rfl (hnx5 x3_5 x5_6 hf)
  · refine J_lload_n hB dX7_moveOfNumber_23 rfl 0 rfl ?_
    obtain ⟨r_7, h_8, hf⟩ := cl1_e hf
    refine J_callS (As := [.long x3_3]) (rest := []) (n := 1) (ws' := []) hB (c_X3_lowestMove l E a h_8) mi_X3_lowestMove ks_X3_lowestMove km_X7_292 ⟨rfl, rfl, Nat.le_of_ble_eq_true rfl, Nat.le_of_ble_eq_true rfl⟩ Lies.none rfl rfl (Nat.le_of_ble_eq_true rfl) dX7_moveOfNumber_24 ?_
    show J l E rX7_moveOfNumber Y [] 27 [(3, .long x3_3)] [.int r_7]
    obtain rfl := Option.some.inj hf
    exact J_iret hB hR dX7_moveOfNumber_27
