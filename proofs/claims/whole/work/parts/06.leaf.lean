def f_X3_at (p0 : Int32) (p1 : Int32) : Option (Int32) :=
some ((p0 >>> (((3 : Int32) * p1) &&& 31)) &&& (7 : Int32))
abbrev rX3_at : Room := { frames := 0, cells := 0, slots := 0, locals := 0 }
set_option maxRecDepth 100000 in
set_option maxHeartbeats 4000000 in
theorem c_X3_at (l : Launch) (E : En) (a : Nat → Nat) {p0 : Int32} {p1 : Int32} {res : Int32} (hf : f_X3_at p0 p1 = some res) : Ct l yX3_at (.code yX3_at cX3_at 2 (some .int)) rX3_at E [.int p0, .int p1] ([]) (some (.int res)) ([]) := by
  refine Ct.of (by decide) (Nat.le_of_ble_eq_true rfl) (fun Y hB hR => ?_)
  have hB : Cb E cX3_at RX3 rX3_at 2 Y := hB
  show J l E rX3_at Y [] 0 [(0, .int p0), (1, .int p1)] []
  unfold f_X3_at at hf
  refine J_iload_n hB dX3_at_0 rfl 0 rfl ?_
  refine J_iconst (v := 3) hB dX3_at_1 rfl ?_
  refine J_iload_n hB dX3_at_2 rfl 1 rfl ?_
  refine J_imul hB dX3_at_3 ?_
  refine J_ishr hB dX3_at_4 ?_
  refine J_bipush (v := 7) hB dX3_at_5 rfl ?_
  refine J_iand hB dX3_at_7 ?_
  obtain rfl := Option.some.inj hf
  exact J_iret hB hR dX3_at_8
def f_X3_moved (p0 : Int32) (p1 : Int32) : Option (Int32) :=
nmv (α := Int32) ((3 : Int32) * (p1 >>> ((3 : Int32) &&& 31))) fun x2_1 =>
nmv (α := Int32) ((3 : Int32) * (p1 &&& (7 : Int32))) fun x3_2 =>
nmv (α := Int32) ((p0 >>> (x2_1 &&& 31)) &&& (7 : Int32)) fun x4_3 =>
some ((p0 ^^^ (x4_3 <<< (x2_1 &&& 31))) ^^^ (x4_3 <<< (x3_2 &&& 31)))
abbrev rX3_moved : Room := { frames := 0, cells := 0, slots := 0, locals := 0 }
set_option maxRecDepth 100000 in
set_option maxHeartbeats 4000000 in
theorem c_X3_moved (l : Launch) (E : En) (a : Nat → Nat) {p0 : Int32} {p1 : Int32} {res : Int32} (hf : f_X3_moved p0 p1 = some res) : Ct l yX3_moved (.code yX3_moved cX3_moved 5 (some .int)) rX3_moved E [.int p0, .int p1] ([]) (some (.int res)) ([]) := by
  refine Ct.of (by decide) (Nat.le_of_ble_eq_true rfl) (fun Y hB hR => ?_)
  have hB : Cb E cX3_moved RX3 rX3_moved 5 Y := hB
  show J l E rX3_moved Y [] 0 [(0, .int p0), (1, .int p1)] []
  unfold f_X3_moved at hf
  refine J_iconst (v := 3) hB dX3_moved_0 rfl ?_
  refine J_iload_n hB dX3_moved_1 rfl 1 rfl ?_
  refine J_iconst (v := 3) hB dX3_moved_2 rfl ?_
  refine J_ishr hB dX3_moved_3 ?_
  refine J_imul hB dX3_moved_4 ?_
  obtain ⟨x2_1, ex2_1, hf⟩ := nmv_e hf
  refine J_istore_n (lv' := [(2, .int x2_1), (0, .int p0), (1, .int p1)]) hB ex2_1 dX3_moved_5 rfl (Nat.le_of_ble_eq_true rfl) rfl ?_
  refine J_iconst (v := 3) hB dX3_moved_6 rfl ?_
  refine J_iload_n hB dX3_moved_7 rfl 2 rfl ?_
  refine J_bipush (v := 7) hB dX3_moved_8 rfl ?_
  refine J_iand hB dX3_moved_10 ?_
  refine J_imul hB dX3_moved_11 ?_
  obtain ⟨x3_2, ex3_2, hf⟩ := nmv_e hf
  refine J_istore_n (lv' := [(3, .int x3_2), (2, .int x2_1), (0, .int p0), (1, .int p1)]) hB ex3_2 dX3_moved_12 rfl (Nat.le_of_ble_eq_true rfl) rfl ?_
  refine J_iload_n hB dX3_moved_13 rfl 2 rfl ?_
  refine J_iload_n hB dX3_moved_14 rfl 1 rfl ?_
  refine J_ishr hB dX3_moved_15 ?_
  refine J_bipush (v := 7) hB dX3_moved_16 rfl ?_
  refine J_iand hB dX3_moved_18 ?_
  obtain ⟨x4_3, ex4_3, hf⟩ := nmv_e hf
  refine J_istore (lv' := [(4, .int x4_3), (3, .int x3_2), (2, .int x2_1), (0, .int p0), (1, .int p1)]) hB ex4_3 dX3_moved_19 (Nat.le_of_ble_eq_true rfl) rfl ?_
  refine J_iload_n hB dX3_moved_21 rfl 3 rfl ?_
  refine J_iload hB dX3_moved_22 0 rfl ?_
  refine J_iload_n hB dX3_moved_24 rfl 2 rfl ?_
  refine J_ishl hB dX3_moved_25 ?_
  refine J_ixor hB dX3_moved_26 ?_
  refine J_iload hB dX3_moved_27 0 rfl ?_
  refine J_iload_n hB dX3_moved_29 rfl 1 rfl ?_
  refine J_ishl hB dX3_moved_30 ?_
  refine J_ixor hB dX3_moved_31 ?_
  obtain rfl := Option.some.inj hf
  exact J_iret hB hR dX3_moved_32
def f_X3_turned (p0 : Int32) (p1 : Int32) : Option (Int32) :=
lp2_1 (fun (x2_1 : Int32) (x3_2 : Int32) nx4 ex4 =>
if p1 ≤ x3_2 then (
ex4 x2_1) else (
cl1 (f_X3_at p0 x3_2) fun r_5 =>
nmv (α := Int32) ((x2_1 <<< ((3 : Int32) &&& 31)) ||| r_5) fun x2_7 =>
nmv (α := Int32) (x3_2 + 1) fun x3_8 =>
nx4 x2_7 x3_8)) (fun (x2_3 : Int32) =>
some x2_3) fuel 0 0
abbrev rX3_turned : Room := { frames := 1, cells := 0, slots := 0, locals := 21 }
set_option maxRecDepth 100000 in
set_option maxHeartbeats 4000000 in
theorem c_X3_turned (l : Launch) (E : En) (a : Nat → Nat) {p0 : Int32} {p1 : Int32} {res : Int32} (hf : f_X3_turned p0 p1 = some res) : Ct l yX3_turned (.code yX3_turned cX3_turned 4 (some .int)) rX3_turned E [.int p0, .int p1] ([]) (some (.int res)) ([]) := by
  refine Ct.of (by decide) (Nat.le_of_ble_eq_true rfl) (fun Y hB hR => ?_)
  have hB : Cb E cX3_turned RX3 rX3_turned 4 Y := hB
  show J l E rX3_turned Y [] 0 [(0, .int p0), (1, .int p1)] []
  unfold f_X3_turned at hf
  refine J_iconst (v := 0) hB dX3_turned_0 rfl ?_
  refine J_istore_n (lv' := [(2, .int 0), (0, .int p0), (1, .int p1)]) hB rfl dX3_turned_1 rfl (Nat.le_of_ble_eq_true rfl) rfl ?_
  refine J_iconst (v := 0) hB dX3_turned_2 rfl ?_
  refine J_istore_n (lv' := [(3, .int 0), (2, .int 0), (0, .int p0), (1, .int p1)]) hB rfl dX3_turned_3 rfl (Nat.le_of_ble_eq_true rfl) rfl ?_
  refine J_lv [2, 3, 1, 0] rfl ?_
  refine lp2_1_J (P := fun x2_1 x3_2 => J l E rX3_turned Y [] 4 [(0, .int p0), (1, .int p1), (2, .int x2_1), (3, .int x3_2)] []) (Q := fun x2_3 => J l E rX3_turned Y [] 25 [(2, .int x2_3)] []) (fun x2_1 x3_2 nx4 ex4 hnx4 hex4 hf => ?_) (fun x2_3 hf => ?_) hf
  · refine J_iload_n hB dX3_turned_4 rfl 3 rfl ?_
    refine J_iload_n hB dX3_turned_5 rfl 1 rfl ?_
    refine J_icmp_ge (tgt := 25) hB dX3_turned_6 rfl (fun c_4 => ?_) (fun c_4 => ?_)
    · have hf := it_t c_4 hf
      exact J_lv [2] rfl (hex4 x2_1 hf)
    · have hf := it_f c_4 hf
      refine J_iload_n hB dX3_turned_9 rfl 2 rfl ?_
      refine J_iconst (v := 3) hB dX3_turned_10 rfl ?_
      refine J_ishl hB dX3_turned_11 ?_
      refine J_iload_n hB dX3_turned_12 rfl 0 rfl ?_
      refine J_iload_n hB dX3_turned_13 rfl 3 rfl ?_
      obtain ⟨r_5, h_6, hf⟩ := cl1_e hf
      refine J_callS (As := [.int p0, .int x3_2]) (rest := [.int (x2_1 <<< ((3 : Int32) &&& 31))]) (n := 2) (ws' := []) hB (c_X3_at l E a h_6) mi_X3_at ks_X3_at km_X3_9 ⟨rfl, rfl, Nat.le_of_ble_eq_true rfl, Nat.le_of_ble_eq_true rfl⟩ Lies.none rfl rfl (Nat.le_of_ble_eq_true rfl) dX3_turned_14 ?_
      show J l E rX3_turned Y [] 17 [(0, .int p0), (1, .int p1), (2, .int x2_1), (3, .int x3_2)] [.int r_5, .int (x2_1 <<< ((3 : Int32) &&& 31))]
      refine J_ior hB dX3_turned_17 ?_
      obtain ⟨x2_7, ex2_7, hf⟩ := nmv_e hf
      refine J_istore_n (lv' := [(2, .int x2_7), (0, .int p0), (1, .int p1), (3, .int x3_2)]) hB ex2_7 dX3_turned_18 rfl (Nat.le_of_ble_eq_true rfl) rfl ?_
      obtain ⟨x3_8, ex3_8, hf⟩ := nmv_e hf
      refine J_iinc (lv' := [(3, .int x3_8), (2, .int x2_7), (0, .int p0), (1, .int p1)]) hB ex3_8 dX3_turned_19 3 rfl (Nat.le_of_ble_eq_true rfl) rfl ?_
      refine J_goto (tgt := 4) hB dX3_turned_22 rfl ?_
      exact J_lv [2, 3, 1, 0] rfl (hnx4 x2_7 x3_8 hf)
  · refine J_iload_n hB dX3_turned_25 rfl 0 rfl ?_
    obtain rfl := Option.some.inj hf
    exact J_iret hB hR dX3_turned_26
def f_X3_widened (p0 : Int32) (p1 : Int32) : Option (Int32) :=
nmv (α := Int32) (p0 &&& (((1 : Int32) <<< (((3 : Int32) * p1) &&& 31)) - (1 : Int32))) fun x2_1 =>
some (x2_1 ||| ((p0 ^^^ x2_1) <<< ((3 : Int32) &&& 31)))
abbrev rX3_widened : Room := { frames := 0, cells := 0, slots := 0, locals := 0 }
set_option maxRecDepth 100000 in
set_option maxHeartbeats 4000000 in
theorem c_X3_widened (l : Launch) (E : En) (a : Nat → Nat) {p0 : Int32} {p1 : Int32} {res : Int32} (hf : f_X3_widened p0 p1 = some res) : Ct l yX3_widened (.code yX3_widened cX3_widened 3 (some .int)) rX3_widened E [.int p0, .int p1] ([]) (some (.int res)) ([]) := by
  refine Ct.of (by decide) (Nat.le_of_ble_eq_true rfl) (fun Y hB hR => ?_)
  have hB : Cb E cX3_widened RX3 rX3_widened 3 Y := hB
  show J l E rX3_widened Y [] 0 [(0, .int p0), (1, .int p1)] []
  unfold f_X3_widened at hf
  refine J_iload_n hB dX3_widened_0 rfl 0 rfl ?_
  refine J_iconst (v := 1) hB dX3_widened_1 rfl ?_
  refine J_iconst (v := 3) hB dX3_widened_2 rfl ?_
  refine J_iload_n hB dX3_widened_3 rfl 1 rfl ?_
  refine J_imul hB dX3_widened_4 ?_
  refine J_ishl hB dX3_widened_5 ?_
  refine J_iconst (v := 1) hB dX3_widened_6 rfl ?_
  refine J_isub hB dX3_widened_7 ?_
  refine J_iand hB dX3_widened_8 ?_
  obtain ⟨x2_1, ex2_1, hf⟩ := nmv_e hf
  refine J_istore_n (lv' := [(2, .int x2_1), (0, .int p0), (1, .int p1)]) hB ex2_1 dX3_widened_9 rfl (Nat.le_of_ble_eq_true rfl) rfl ?_
  refine J_iload_n hB dX3_widened_10 rfl 0 rfl ?_
  refine J_iload_n hB dX3_widened_11 rfl 1 rfl ?_
  refine J_iload_n hB dX3_widened_12 rfl 0 rfl ?_
  refine J_ixor hB dX3_widened_13 ?_
  refine J_iconst (v := 3) hB dX3_widened_14 rfl ?_
  refine J_ishl hB dX3_widened_15 ?_
  refine J_ior hB dX3_widened_16 ?_
  obtain rfl := Option.some.inj hf
  exact J_iret hB hR dX3_widened_17
def f_X3_without (p0 : Int32) (p1 : Int32) : Option (Int32) :=
some (p0 &&& (((7 : Int32) <<< (((3 : Int32) * p1) &&& 31)) ^^^ (-1 : Int32)))
abbrev rX3_without : Room := { frames := 0, cells := 0, slots := 0, locals := 0 }
set_option maxRecDepth 100000 in
set_option maxHeartbeats 4000000 in
theorem c_X3_without (l : Launch) (E : En) (a : Nat → Nat) {p0 : Int32} {p1 : Int32} {res : Int32} (hf : f_X3_without p0 p1 = some res) : Ct l yX3_without (.code yX3_without cX3_without 2 (some .int)) rX3_without E [.int p0, .int p1] ([]) (some (.int res)) ([]) := by
  refine Ct.of (by decide) (Nat.le_of_ble_eq_true rfl) (fun Y hB hR => ?_)
  have hB : Cb E cX3_without RX3 rX3_without 2 Y := hB
  show J l E rX3_without Y [] 0 [(0, .int p0), (1, .int p1)] []
  unfold f_X3_without at hf
  refine J_iload_n hB dX3_without_0 rfl 0 rfl ?_
  refine J_bipush (v := 7) hB dX3_without_1 rfl ?_
  refine J_iconst (v := 3) hB dX3_without_3 rfl ?_
  refine J_iload_n hB dX3_without_4 rfl 1 rfl ?_
  refine J_imul hB dX3_without_5 ?_
  refine J_ishl hB dX3_without_6 ?_
  refine J_iconst (v := (-1)) hB dX3_without_7 rfl ?_
  refine J_ixor hB dX3_without_8 ?_
  refine J_iand hB dX3_without_9 ?_
  obtain rfl := Option.some.inj hf
  exact J_iret hB hR dX3_without_10
def f_X3_freeStones (p0 : Int32) (p1 : Int32) : Option (Int32) :=
lp2_1 (fun (x2_1 : Int32) (x3_2 : Int32) nx4 ex4 =>
if p1 ≤ x3_2 then (
ex4 x2_1) else (
cl1 (f_X3_at p0 x3_2) fun r_5 =>
jn1 (fun (x2_7 : Int32) =>
nmv (α := Int32) (x3_2 + 1) fun x3_8 =>
nx4 x2_7 x3_8) fun j20 =>
if r_5 = 0 then (
nmv (α := Int32) (x2_1 + 1) fun x2_10 =>
j20 x2_10) else (
j20 x2_1))) (fun (x2_3 : Int32) =>
some x2_3) fuel 0 0
abbrev rX3_freeStones : Room := { frames := 1, cells := 0, slots := 0, locals := 21 }
set_option maxRecDepth 100000 in
set_option maxHeartbeats 4000000 in
theorem c_X3_freeStones (l : Launch) (E : En) (a : Nat → Nat) {p0 : Int32} {p1 : Int32} {res : Int32} (hf : f_X3_freeStones p0 p1 = some res) : Ct l yX3_freeStones (.code yX3_freeStones cX3_freeStones 4 (some .int)) rX3_freeStones E [.int p0, .int p1] ([]) (some (.int res)) ([]) := by
  refine Ct.of (by decide) (Nat.le_of_ble_eq_true rfl) (fun Y hB hR => ?_)
  have hB : Cb E cX3_freeStones RX3 rX3_freeStones 4 Y := hB
  show J l E rX3_freeStones Y [] 0 [(0, .int p0), (1, .int p1)] []
  unfold f_X3_freeStones at hf
  refine J_iconst (v := 0) hB dX3_freeStones_0 rfl ?_
  refine J_istore_n (lv' := [(2, .int 0), (0, .int p0), (1, .int p1)]) hB rfl dX3_freeStones_1 rfl (Nat.le_of_ble_eq_true rfl) rfl ?_
  refine J_iconst (v := 0) hB dX3_freeStones_2 rfl ?_
  refine J_istore_n (lv' := [(3, .int 0), (2, .int 0), (0, .int p0), (1, .int p1)]) hB rfl dX3_freeStones_3 rfl (Nat.le_of_ble_eq_true rfl) rfl ?_
  refine J_lv [2, 3, 1, 0] rfl ?_
  refine lp2_1_J (P := fun x2_1 x3_2 => J l E rX3_freeStones Y [] 4 [(0, .int p0), (1, .int p1), (2, .int x2_1), (3, .int x3_2)] []) (Q := fun x2_3 => J l E rX3_freeStones Y [] 26 [(2, .int x2_3)] []) (fun x2_1 x3_2 nx4 ex4 hnx4 hex4 hf => ?_) (fun x2_3 hf => ?_) hf
  · refine J_iload_n hB dX3_freeStones_4 rfl 3 rfl ?_
    refine J_iload_n hB dX3_freeStones_5 rfl 1 rfl ?_
    refine J_icmp_ge (tgt := 26) hB dX3_freeStones_6 rfl (fun c_4 => ?_) (fun c_4 => ?_)
    · have hf := it_t c_4 hf
      exact J_lv [2] rfl (hex4 x2_1 hf)
    · have hf := it_f c_4 hf
      refine J_iload_n hB dX3_freeStones_9 rfl 0 rfl ?_
      refine J_iload_n hB dX3_freeStones_10 rfl 3 rfl ?_
      obtain ⟨r_5, h_6, hf⟩ := cl1_e hf
      refine J_callS (As := [.int p0, .int x3_2]) (rest := []) (n := 2) (ws' := []) hB (c_X3_at l E a h_6) mi_X3_at ks_X3_at km_X3_9 ⟨rfl, rfl, Nat.le_of_ble_eq_true rfl, Nat.le_of_ble_eq_true rfl⟩ Lies.none rfl rfl (Nat.le_of_ble_eq_true rfl) dX3_freeStones_11 ?_
      show J l E rX3_freeStones Y [] 14 [(0, .int p0), (1, .int p1), (2, .int x2_1), (3, .int x3_2)] [.int r_5]
      refine jn1_e (P := fun x2_7 => J l E rX3_freeStones Y [] 20 [(0, .int p0), (1, .int p1), (2, .int x2_7), (3, .int x3_2)] []) hf (fun x2_7 hf => ?_) (fun j20 hj20 hf => ?_)
      · obtain ⟨x3_8, ex3_8, hf⟩ := nmv_e hf
        refine J_iinc (lv' := [(3, .int x3_8), (0, .int p0), (1, .int p1), (2, .int x2_7)]) hB ex3_8 dX3_freeStones_20 3 rfl (Nat.le_of_ble_eq_true rfl) rfl ?_
        refine J_goto (tgt := 4) hB dX3_freeStones_23 rfl ?_
        exact J_lv [1, 2, 3, 0] rfl (hnx4 x2_7 x3_8 hf)
      · refine J_if_ne (tgt := 20) hB dX3_freeStones_14 rfl (fun c_9 => ?_) (fun c_9 => ?_)
        · have hf := it_f c_9 hf
          exact J_lv [0, 1, 2, 3] rfl (hj20 x2_1 hf)
        · have hf := it_t c_9 hf
          obtain ⟨x2_10, ex2_10, hf⟩ := nmv_e hf
          refine J_iinc (lv' := [(2, .int x2_10), (0, .int p0), (1, .int p1), (3, .int x3_2)]) hB ex2_10 dX3_freeStones_17 2 rfl (Nat.le_of_ble_eq_true rfl) rfl ?_
          exact J_lv [1, 2, 0, 3] rfl (hj20 x2_10 hf)
  · refine J_iload_n hB dX3_freeStones_26 rfl 0 rfl ?_
    obtain rfl := Option.some.inj hf
    exact J_iret hB hR dX3_freeStones_27
def f_X3_numbered (p0 : Int32) : Option (Int32) :=
lp3_1 (fun (x1_1 : Int32) (x2_2 : Int32) (x3_3 : Int32) nx6 ex6 =>
if 7 ≤ x3_3 then (
ex6 x1_1) else (
cl1 (f_X3_at p0 x3_3) fun r_6 =>
jn2 (fun (x1_8 : Int32) (x2_9 : Int32) =>
nmv (α := Int32) (x3_3 + 1) fun x3_10 =>
nx6 x1_8 x2_9 x3_10) fun j31 =>
if r_6 = 0 then (
j31 x1_1 x2_2) else (
nmv (α := Int32) (x2_2 + 1) fun x2_12 =>
nmv (α := Int32) (x1_1 ||| (x2_12 <<< (((3 : Int32) * x3_3) &&& 31))) fun x1_13 =>
j31 x1_13 x2_12))) (fun (x1_4 : Int32) =>
some x1_4) fuel 0 0 0
abbrev rX3_numbered : Room := { frames := 1, cells := 0, slots := 0, locals := 21 }
set_option maxRecDepth 100000 in
set_option maxHeartbeats 4000000 in
theorem c_X3_numbered (l : Launch) (E : En) (a : Nat → Nat) {p0 : Int32} {res : Int32} (hf : f_X3_numbered p0 = some res) : Ct l yX3_numbered (.code yX3_numbered cX3_numbered 4 (some .int)) rX3_numbered E [.int p0] ([]) (some (.int res)) ([]) := by
  refine Ct.of (by decide) (Nat.le_of_ble_eq_true rfl) (fun Y hB hR => ?_)
  have hB : Cb E cX3_numbered RX3 rX3_numbered 4 Y := hB
  show J l E rX3_numbered Y [] 0 [(0, .int p0)] []
  unfold f_X3_numbered at hf
  refine J_iconst (v := 0) hB dX3_numbered_0 rfl ?_
  refine J_istore_n (lv' := [(1, .int 0), (0, .int p0)]) hB rfl dX3_numbered_1 rfl (Nat.le_of_ble_eq_true rfl) rfl ?_
  refine J_iconst (v := 0) hB dX3_numbered_2 rfl ?_
  refine J_istore_n (lv' := [(2, .int 0), (1, .int 0), (0, .int p0)]) hB rfl dX3_numbered_3 rfl (Nat.le_of_ble_eq_true rfl) rfl ?_
  refine J_iconst (v := 0) hB dX3_numbered_4 rfl ?_
  refine J_istore_n (lv' := [(3, .int 0), (2, .int 0), (1, .int 0), (0, .int p0)]) hB rfl dX3_numbered_5 rfl (Nat.le_of_ble_eq_true rfl) rfl ?_
  refine J_lv [3, 2, 1, 0] rfl ?_
  refine lp3_1_J (P := fun x1_1 x2_2 x3_3 => J l E rX3_numbered Y [] 6 [(0, .int p0), (1, .int x1_1), (2, .int x2_2), (3, .int x3_3)] []) (Q := fun x1_4 => J l E rX3_numbered Y [] 37 [(1, .int x1_4)] []) (fun x1_1 x2_2 x3_3 nx6 ex6 hnx6 hex6 hf => ?_) (fun x1_4 hf => ?_) hf
  · refine J_iload_n hB dX3_numbered_6 rfl 3 rfl ?_
    refine J_bipush (v := 7) hB dX3_numbered_7 rfl ?_
    refine J_icmp_ge (tgt := 37) hB dX3_numbered_9 rfl (fun c_5 => ?_) (fun c_5 => ?_)
    · have hf := it_t c_5 hf
      exact J_lv [1] rfl (hex6 x1_1 hf)
    · have hf := it_f c_5 hf
      refine J_iload_n hB dX3_numbered_12 rfl 0 rfl ?_
      refine J_iload_n hB dX3_numbered_13 rfl 3 rfl ?_
      obtain ⟨r_6, h_7, hf⟩ := cl1_e hf
      refine J_callS (As := [.int p0, .int x3_3]) (rest := []) (n := 2) (ws' := []) hB (c_X3_at l E a h_7) mi_X3_at ks_X3_at km_X3_9 ⟨rfl, rfl, Nat.le_of_ble_eq_true rfl, Nat.le_of_ble_eq_true rfl⟩ Lies.none rfl rfl (Nat.le_of_ble_eq_true rfl) dX3_numbered_14 ?_
      show J l E rX3_numbered Y [] 17 [(0, .int p0), (1, .int x1_1), (2, .int x2_2), (3, .int x3_3)] [.int r_6]
      refine jn2_e (P := fun x1_8 x2_9 => J l E rX3_numbered Y [] 31 [(0, .int p0), (1, .int x1_8), (2, .int x2_9), (3, .int x3_3)] []) hf (fun x1_8 x2_9 hf => ?_) (fun j31 hj31 hf => ?_)
      · obtain ⟨x3_10, ex3_10, hf⟩ := nmv_e hf
        refine J_iinc (lv' := [(3, .int x3_10), (0, .int p0), (1, .int x1_8), (2, .int x2_9)]) hB ex3_10 dX3_numbered_31 3 rfl (Nat.le_of_ble_eq_true rfl) rfl ?_
        refine J_goto (tgt := 6) hB dX3_numbered_34 rfl ?_
        exact J_lv [1, 2, 3, 0] rfl (hnx6 x1_8 x2_9 x3_10 hf)
      · refine J_if_eq (tgt := 31) hB dX3_numbered_17 rfl (fun c_11 => ?_) (fun c_11 => ?_)
        · have hf := it_t c_11 hf
          exact J_lv [0, 1, 2, 3] rfl (hj31 x1_1 x2_2 hf)
        · have hf := it_f c_11 hf
          obtain ⟨x2_12, ex2_12, hf⟩ := nmv_e hf
          refine J_iinc (lv' := [(2, .int x2_12), (0, .int p0), (1, .int x1_1), (3, .int x3_3)]) hB ex2_12 dX3_numbered_20 2 rfl (Nat.le_of_ble_eq_true rfl) rfl ?_
          refine J_iload_n hB dX3_numbered_23 rfl 2 rfl ?_
          refine J_iload_n hB dX3_numbered_24 rfl 0 rfl ?_
          refine J_iconst (v := 3) hB dX3_numbered_25 rfl ?_
          refine J_iload_n hB dX3_numbered_26 rfl 3 rfl ?_
          refine J_imul hB dX3_numbered_27 ?_
          refine J_ishl hB dX3_numbered_28 ?_
          refine J_ior hB dX3_numbered_29 ?_
          obtain ⟨x1_13, ex1_13, hf⟩ := nmv_e hf
          refine J_istore_n (lv' := [(1, .int x1_13), (2, .int x2_12), (0, .int p0), (3, .int x3_3)]) hB ex1_13 dX3_numbered_30 rfl (Nat.le_of_ble_eq_true rfl) rfl ?_
          exact J_lv [2, 0, 1, 3] rfl (hj31 x1_13 x2_12 hf)
  · refine J_iload_n hB dX3_numbered_37 rfl 0 rfl ?_
    obtain rfl := Option.some.inj hf
    exact J_iret hB hR dX3_numbered_38
def f_J13_bitCount_95d88 (p0 : Int64) : Option (Int32) :=
nmv (α := Int64) (p0 - ((UInt64.toInt64 (Int64.toUInt64 p0 >>> (Int64.toUInt64 (Int32.toInt64 (1 : Int32)) &&& Int64.toUInt64 63))) &&& (6148914691236517205 : Int64))) fun x0_1 =>
nmv (α := Int64) ((x0_1 &&& (3689348814741910323 : Int64)) + ((UInt64.toInt64 (Int64.toUInt64 x0_1 >>> (Int64.toUInt64 (Int32.toInt64 (2 : Int32)) &&& Int64.toUInt64 63))) &&& (3689348814741910323 : Int64))) fun x0_2 =>
nmv (α := Int64) ((x0_2 + (UInt64.toInt64 (Int64.toUInt64 x0_2 >>> (Int64.toUInt64 (Int32.toInt64 (4 : Int32)) &&& Int64.toUInt64 63)))) &&& (1085102592571150095 : Int64)) fun x0_3 =>
nmv (α := Int64) (x0_3 + (UInt64.toInt64 (Int64.toUInt64 x0_3 >>> (Int64.toUInt64 (Int32.toInt64 (8 : Int32)) &&& Int64.toUInt64 63)))) fun x0_4 =>
nmv (α := Int64) (x0_4 + (UInt64.toInt64 (Int64.toUInt64 x0_4 >>> (Int64.toUInt64 (Int32.toInt64 (16 : Int32)) &&& Int64.toUInt64 63)))) fun x0_5 =>
nmv (α := Int64) (x0_5 + (UInt64.toInt64 (Int64.toUInt64 x0_5 >>> (Int64.toUInt64 (Int32.toInt64 (32 : Int32)) &&& Int64.toUInt64 63)))) fun x0_6 =>
some ((Int64.toInt32 x0_6) &&& (127 : Int32))
abbrev rJ13_bitCount_95d88 : Room := { frames := 0, cells := 0, slots := 0, locals := 0 }
set_option maxRecDepth 100000 in
set_option maxHeartbeats 4000000 in
theorem c_J13_bitCount_95d88 (l : Launch) (E : En) (a : Nat → Nat) {p0 : Int64} {res : Int32} (hf : f_J13_bitCount_95d88 p0 = some res) : Ct l yJ13_bitCount_95d88 (.code yJ13_bitCount_95d88 cJ13_bitCount_95d88 2 (some .int)) rJ13_bitCount_95d88 E [.long p0] ([]) (some (.int res)) ([]) := by
  refine Ct.of (by decide) (Nat.le_of_ble_eq_true rfl) (fun Y hB hR => ?_)
  have hB : Cb E cJ13_bitCount_95d88 RJ13 rJ13_bitCount_95d88 2 Y := hB
  show J l E rJ13_bitCount_95d88 Y [] 0 [(0, .long p0)] []
  unfold f_J13_bitCount_95d88 at hf
  refine J_lload_n hB dJ13_bitCount_95d88_0 rfl 0 rfl ?_
  refine J_lload_n hB dJ13_bitCount_95d88_1 rfl 0 rfl ?_
  refine J_iconst (v := 1) hB dJ13_bitCount_95d88_2 rfl ?_
  refine J_lushr hB dJ13_bitCount_95d88_3 ?_
  refine J_ldc2 hB dJ13_bitCount_95d88_4 kk_J13_314 ?_
  refine J_land hB dJ13_bitCount_95d88_7 ?_
  refine J_lsub hB dJ13_bitCount_95d88_8 ?_
  obtain ⟨x0_1, ex0_1, hf⟩ := nmv_e hf
  refine J_lstore_n (lv' := [(0, .long x0_1)]) hB ex0_1 dJ13_bitCount_95d88_9 rfl (Nat.le_of_ble_eq_true rfl) rfl ?_
  refine J_lload_n hB dJ13_bitCount_95d88_10 rfl 0 rfl ?_
  refine J_ldc2 hB dJ13_bitCount_95d88_11 kk_J13_316 ?_
  refine J_land hB dJ13_bitCount_95d88_14 ?_
  refine J_lload_n hB dJ13_bitCount_95d88_15 rfl 0 rfl ?_
  refine J_iconst (v := 2) hB dJ13_bitCount_95d88_16 rfl ?_
  refine J_lushr hB dJ13_bitCount_95d88_17 ?_
  refine J_ldc2 hB dJ13_bitCount_95d88_18 kk_J13_316 ?_
  refine J_land hB dJ13_bitCount_95d88_21 ?_
  refine J_ladd hB dJ13_bitCount_95d88_22 ?_
  obtain ⟨x0_2, ex0_2, hf⟩ := nmv_e hf
  refine J_lstore_n (lv' := [(0, .long x0_2)]) hB ex0_2 dJ13_bitCount_95d88_23 rfl (Nat.le_of_ble_eq_true rfl) rfl ?_
  refine J_lload_n hB dJ13_bitCount_95d88_24 rfl 0 rfl ?_
  refine J_lload_n hB dJ13_bitCount_95d88_25 rfl 0 rfl ?_
  refine J_iconst (v := 4) hB dJ13_bitCount_95d88_26 rfl ?_
  refine J_lushr hB dJ13_bitCount_95d88_27 ?_
  refine J_ladd hB dJ13_bitCount_95d88_28 ?_
  refine J_ldc2 hB dJ13_bitCount_95d88_29 kk_J13_318 ?_
  refine J_land hB dJ13_bitCount_95d88_32 ?_
  obtain ⟨x0_3, ex0_3, hf⟩ := nmv_e hf
  refine J_lstore_n (lv' := [(0, .long x0_3)]) hB ex0_3 dJ13_bitCount_95d88_33 rfl (Nat.le_of_ble_eq_true rfl) rfl ?_
  refine J_lload_n hB dJ13_bitCount_95d88_34 rfl 0 rfl ?_
  refine J_lload_n hB dJ13_bitCount_95d88_35 rfl 0 rfl ?_
  refine J_bipush (v := 8) hB dJ13_bitCount_95d88_36 rfl ?_
  refine J_lushr hB dJ13_bitCount_95d88_38 ?_
  refine J_ladd hB dJ13_bitCount_95d88_39 ?_
  obtain ⟨x0_4, ex0_4, hf⟩ := nmv_e hf
  refine J_lstore_n (lv' := [(0, .long x0_4)]) hB ex0_4 dJ13_bitCount_95d88_40 rfl (Nat.le_of_ble_eq_true rfl) rfl ?_
  refine J_lload_n hB dJ13_bitCount_95d88_41 rfl 0 rfl ?_
  refine J_lload_n hB dJ13_bitCount_95d88_42 rfl 0 rfl ?_
  refine J_bipush (v := 16) hB dJ13_bitCount_95d88_43 rfl ?_
  refine J_lushr hB dJ13_bitCount_95d88_45 ?_
  refine J_ladd hB dJ13_bitCount_95d88_46 ?_
  obtain ⟨x0_5, ex0_5, hf⟩ := nmv_e hf
  refine J_lstore_n (lv' := [(0, .long x0_5)]) hB ex0_5 dJ13_bitCount_95d88_47 rfl (Nat.le_of_ble_eq_true rfl) rfl ?_
  refine J_lload_n hB dJ13_bitCount_95d88_48 rfl 0 rfl ?_
  refine J_lload_n hB dJ13_bitCount_95d88_49 rfl 0 rfl ?_
  refine J_bipush (v := 32) hB dJ13_bitCount_95d88_50 rfl ?_
  refine J_lushr hB dJ13_bitCount_95d88_52 ?_
  refine J_ladd hB dJ13_bitCount_95d88_53 ?_
  obtain ⟨x0_6, ex0_6, hf⟩ := nmv_e hf
  refine J_lstore_n (lv' := [(0, .long x0_6)]) hB ex0_6 dJ13_bitCount_95d88_54 rfl (Nat.le_of_ble_eq_true rfl) rfl ?_
  refine J_lload_n hB dJ13_bitCount_95d88_55 rfl 0 rfl ?_
  refine J_l2i hB dJ13_bitCount_95d88_56 ?_
  refine J_bipush (v := 127) hB dJ13_bitCount_95d88_57 rfl ?_
  refine J_iand hB dJ13_bitCount_95d88_59 ?_
  obtain rfl := Option.some.inj hf
  exact J_iret hB hR dJ13_bitCount_95d88_60
def f_X3_lowestMove (p0 : Int64) : Option (Int32) :=
cl1 (f_J13_bitCount_95d88 ((p0 &&& (-p0)) - (1 : Int64))) fun r_1 =>
some (r_1 &&& (63 : Int32))
abbrev rX3_lowestMove : Room := { frames := 1, cells := 0, slots := 0, locals := 21 }
set_option maxRecDepth 100000 in
set_option maxHeartbeats 4000000 in
theorem c_X3_lowestMove (l : Launch) (E : En) (a : Nat → Nat) {p0 : Int64} {res : Int32} (hf : f_X3_lowestMove p0 = some res) : Ct l yX3_lowestMove (.code yX3_lowestMove cX3_lowestMove 2 (some .int)) rX3_lowestMove E [.long p0] ([]) (some (.int res)) ([]) := by
  refine Ct.of (by decide) (Nat.le_of_ble_eq_true rfl) (fun Y hB hR => ?_)
  have hB : Cb E cX3_lowestMove RX3 rX3_lowestMove 2 Y := hB
  show J l E rX3_lowestMove Y [] 0 [(0, .long p0)] []
  unfold f_X3_lowestMove at hf
  refine J_lload_n hB dX3_lowestMove_0 rfl 0 rfl ?_
  refine J_lload_n hB dX3_lowestMove_1 rfl 0 rfl ?_
  refine J_lneg hB dX3_lowestMove_2 ?_
  refine J_land hB dX3_lowestMove_3 ?_
  refine J_lconst (v := 1) hB dX3_lowestMove_4 rfl ?_
  refine J_lsub hB dX3_lowestMove_5 ?_
  obtain ⟨r_1, h_2, hf⟩ := cl1_e hf
  refine J_callS (As := [.long ((p0 &&& (-p0)) - (1 : Int64))]) (rest := []) (n := 1) (ws' := []) hB (c_J13_bitCount_95d88 l E a h_2) mi_J13_bitCount_95d88 ks_J13_bitCount_95d88 km_X3_15 ⟨rfl, rfl, Nat.le_of_ble_eq_true rfl, Nat.le_of_ble_eq_true rfl⟩ Lies.none rfl rfl (Nat.le_of_ble_eq_true rfl) dX3_lowestMove_6 ?_
  show J l E rX3_lowestMove Y [] 9 [(0, .long p0)] [.int r_1]
  refine J_bipush (v := 63) hB dX3_lowestMove_9 rfl ?_
  refine J_iand hB dX3_lowestMove_11 ?_
  obtain rfl := Option.some.inj hf
  exact J_iret hB hR dX3_lowestMove_12
def f_J7_fill_53178 (n : Nat) (f : Nat → Int32) (p1 : Int32) : Option ((Nat → Int32)) :=
nmv (α := Int32) (Int32.ofNat n) fun x3_1 =>
lp2_1 (fun (x2_2 : Int32) (f_3 : Nat → Int32) nx5 ex5 =>
if x3_1 ≤ x2_2 then (
ex5 f_3) else (
astI n f_3 x2_2 p1 fun f_6 =>
nmv (α := Int32) (x2_2 + 1) fun x2_8 =>
nx5 x2_8 f_6)) (fun (f_4 : Nat → Int32) =>
some f_4) fuel 0 f
abbrev rJ7_fill_53178 : Room := { frames := 0, cells := 0, slots := 0, locals := 0 }
set_option maxRecDepth 100000 in
set_option maxHeartbeats 4000000 in
theorem c_J7_fill_53178 (l : Launch) (E : En) (a : Nat → Nat) (b : Nat) {n : Nat} {f : Nat → Int32} {p1 : Int32} {res : (Nat → Int32)} (hf : f_J7_fill_53178 n f p1 = some res) : Ct l yJ7_fill_53178 (.code yJ7_fill_53178 cJ7_fill_53178 4 none) rJ7_fill_53178 E [.ref (a b), .int p1] ([ia E (a b) n f]) none ([ia E (a b) n res]) := by
  refine Ct.of (by decide) (Nat.le_of_ble_eq_true rfl) (fun Y hB hR => ?_)
  have hB : Cb E cJ7_fill_53178 RJ7 rJ7_fill_53178 4 Y := hB
  show J l E rJ7_fill_53178 Y ([ia E (a b) n f]) 0 [(0, .ref (a b)), (1, .int p1)] []
  unfold f_J7_fill_53178 at hf
  refine J_iconst (v := 0) hB dJ7_fill_53178_0 rfl ?_
  refine J_istore_n (lv' := [(2, .int 0), (0, .ref (a b)), (1, .int p1)]) hB rfl dJ7_fill_53178_1 rfl (Nat.le_of_ble_eq_true rfl) rfl ?_
  refine J_aload_n hB dJ7_fill_53178_2 rfl 1 rfl ?_
  refine J_alen hB 0 rfl rfl dJ7_fill_53178_3 ?_
  obtain ⟨x3_1, ex3_1, hf⟩ := nmv_e hf
  refine J_istore_n (lv' := [(3, .int x3_1), (2, .int 0), (0, .ref (a b)), (1, .int p1)]) hB ex3_1 dJ7_fill_53178_4 rfl (Nat.le_of_ble_eq_true rfl) rfl ?_
  refine J_lv [2, 3, 1, 0] rfl ?_
  refine lp2_1_J (P := fun x2_2 f_3 => J l E rJ7_fill_53178 Y ([ia E (a b) n f_3]) 5 [(0, .ref (a b)), (1, .int p1), (2, .int x2_2), (3, .int x3_1)] []) (Q := fun f_4 => J l E rJ7_fill_53178 Y ([ia E (a b) n f_4]) 20 [] []) (fun x2_2 f_3 nx5 ex5 hnx5 hex5 hf => ?_) (fun f_4 hf => ?_) hf
  · refine J_iload_n hB dJ7_fill_53178_5 rfl 2 rfl ?_
    refine J_iload_n hB dJ7_fill_53178_6 rfl 3 rfl ?_
    refine J_icmp_ge (tgt := 20) hB dJ7_fill_53178_7 rfl (fun c_5 => ?_) (fun c_5 => ?_)
    · have hf := it_t c_5 hf
      exact J_lv [] rfl (hex5 f_3 hf)
    · have hf := it_f c_5 hf
      refine J_aload_n hB dJ7_fill_53178_10 rfl 0 rfl ?_
      refine J_iload_n hB dJ7_fill_53178_11 rfl 2 rfl ?_
      refine J_iload_n hB dJ7_fill_53178_12 rfl 1 rfl ?_
      obtain ⟨f_6, ef_6, h_7, hf⟩ := astI_e hf
      refine J_iast (ws' := [ia E (a b) n f_6]) hB 0 rfl ef_6 h_7 dJ7_fill_53178_13 rfl ?_
      obtain ⟨x2_8, ex2_8, hf⟩ := nmv_e hf
      refine J_iinc (lv' := [(2, .int x2_8), (0, .ref (a b)), (1, .int p1), (3, .int x3_1)]) hB ex2_8 dJ7_fill_53178_14 2 rfl (Nat.le_of_ble_eq_true rfl) rfl ?_
      refine J_goto (tgt := 5) hB dJ7_fill_53178_17 rfl ?_
      exact J_lv [1, 2, 0, 3] rfl (hnx5 x2_8 f_6 hf)
  · obtain rfl := Option.some.inj hf
    exact J_vret hB hR dJ7_fill_53178_20
