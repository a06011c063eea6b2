def f_X6_clear (slots : Nat → Int32) (size : Int32) : Option ((Nat → Int32) × Int32) :=
cl1 (f_J7_fill_53178 1024 slots 0) fun slots_1 =>
some (slots_1, 0)
abbrev rX6_clear : Room := { frames := 1, cells := 0, slots := 0, locals := 23 }
set_option maxRecDepth 100000 in
set_option maxHeartbeats 4000000 in
theorem c_X6_clear (l : Launch) (E : En) (a : Nat → Nat) (b : Nat) (slots : Nat → Int32) (rows : Nat → Int32) (size : Int32) {res : (Nat → Int32) × Int32} (hf : f_X6_clear slots size = some res) : Ct l yX6_clear (.code yX6_clear cX6_clear 1 none) rX6_clear E [.ref (a b)] (wTab E a b slots rows size) none (wTab E a b res.1 rows res.2) := by
  refine Ct.of (by decide) (Nat.le_of_ble_eq_true rfl) (fun Y hB hR => ?_)
  have hB : Cb E cX6_clear RX6 rX6_clear 1 Y := hB
  show J l E rX6_clear Y (wTab E a b slots rows size) 0 [(0, .ref (a b))] []
  unfold f_X6_clear at hf
  refine J_aload_n hB dX6_clear_0 rfl 0 rfl ?_
  refine J_get (v := .ref (a (b + 1))) hB inX6 0 rfl rfl 0 (Nat.le_of_ble_eq_true rfl) kf_X6_9 rfl dX6_clear_1 ?_
  refine J_iconst (v := 0) hB dX6_clear_4 rfl ?_
  obtain ⟨slots_1, h_2, hf⟩ := cl1_e hf
  refine J_callS (As := [.ref (a (b + 1)), .int 0]) (rest := []) (n := 2) (ws' := wTab E a b slots_1 rows size) hB (c_J7_fill_53178 l E a (b + 1) h_2) mi_J7_fill_53178 ks_J7_fill_53178 km_X6_18 ⟨rfl, rfl, Nat.le_of_ble_eq_true rfl, Nat.le_of_ble_eq_true rfl⟩ (Lies.part (ws' := wTab E a b slots_1 rows size) [1] [0, 2] rfl rfl rfl rfl 3 rfl (by decide +kernel) (by decide +kernel) rfl) rfl rfl (Nat.le_of_ble_eq_true rfl) dX6_clear_5 ?_
  show J l E rX6_clear Y (wTab E a b slots_1 rows size) 8 [(0, .ref (a b))] []
  refine J_aload_n hB dX6_clear_8 rfl 0 rfl ?_
  refine J_iconst (v := 0) hB dX6_clear_9 rfl ?_
  refine J_put (ws' := wTab E a b slots_1 rows 0) (ty := .int) (v := .int 0) hB inX6 tyX6 tyX6_ok nmX6 0 rfl rfl 2 (Nat.le_of_ble_eq_true rfl) kf_X6_24 rfl rfl rfl rfl (Nat.le_of_ble_eq_true rfl) dX6_clear_10 rfl ?_
  obtain rfl := Option.some.inj hf
  exact J_vret hB hR dX6_clear_13
def f_X6_slotOf (slots : Nat → Int32) (rows : Nat → Int32) (p0 : Int32) : Option (Int32) :=
nmv (α := Int32) ((UInt32.toInt32 (Int32.toUInt32 (p0 * (-1640531535 : Int32)) >>> (Int32.toUInt32 (22 : Int32) &&& Int32.toUInt32 31))) &&& (1023 : Int32)) fun x2_1 =>
lp2_1 (fun (x2_2 : Int32) (x3_3 : Int32) nx14 ex14 =>
if 1024 ≤ x3_3 then (
ex14 x2_2) else (
ald 1024 slots x2_2 fun v_6 =>
nmv (α := Int32) (v_6 - (1 : Int32)) fun x4_8 =>
if x4_8 < 0 then (
some x2_2) else (
if 640 ≤ x4_8 then (
some x2_2) else (
ald 640 rows x4_8 fun v_11 =>
if v_11 = p0 then (
some x2_2) else (
nmv (α := Int32) ((x2_2 + (1 : Int32)) &&& (1023 : Int32)) fun x2_14 =>
nmv (α := Int32) (x3_3 + 1) fun x3_15 =>
nx14 x2_14 x3_15))))) (fun (x2_4 : Int32) =>
some x2_4) fuel x2_1 0
abbrev rX6_slotOf : Room := { frames := 0, cells := 0, slots := 0, locals := 0 }
set_option maxRecDepth 100000 in
set_option maxHeartbeats 4000000 in
theorem c_X6_slotOf (l : Launch) (E : En) (a : Nat → Nat) (b : Nat) (slots : Nat → Int32) (rows : Nat → Int32) (size : Int32) {p0 : Int32} {res : Int32} (hf : f_X6_slotOf slots rows p0 = some res) : Ct l yX6_slotOf (.code yX6_slotOf cX6_slotOf 5 (some .int)) rX6_slotOf E [.ref (a b), .int p0] (wTab E a b slots rows size) (some (.int res)) (wTab E a b slots rows size) := by
  refine Ct.of (by decide) (Nat.le_of_ble_eq_true rfl) (fun Y hB hR => ?_)
  have hB : Cb E cX6_slotOf RX6 rX6_slotOf 5 Y := hB
  show J l E rX6_slotOf Y (wTab E a b slots rows size) 0 [(0, .ref (a b)), (1, .int p0)] []
  unfold f_X6_slotOf at hf
  refine J_iload_n hB dX6_slotOf_0 rfl 1 rfl ?_
  refine J_ldc hB dX6_slotOf_1 kk_X6_32 ?_
  refine J_imul hB dX6_slotOf_3 ?_
  refine J_bipush (v := 22) hB dX6_slotOf_4 rfl ?_
  refine J_iushr hB dX6_slotOf_6 ?_
  refine J_sipush (v := 1023) hB dX6_slotOf_7 rfl ?_
  refine J_iand hB dX6_slotOf_10 ?_
  obtain ⟨x2_1, ex2_1, hf⟩ := nmv_e hf
  refine J_istore_n (lv' := [(2, .int x2_1), (0, .ref (a b)), (1, .int p0)]) hB ex2_1 dX6_slotOf_11 rfl (Nat.le_of_ble_eq_true rfl) rfl ?_
  refine J_iconst (v := 0) hB dX6_slotOf_12 rfl ?_
  refine J_istore_n (lv' := [(3, .int 0), (2, .int x2_1), (0, .ref (a b)), (1, .int p0)]) hB rfl dX6_slotOf_13 rfl (Nat.le_of_ble_eq_true rfl) rfl ?_
  refine J_lv [2, 3, 1, 0] rfl ?_
  refine lp2_1_J (P := fun x2_2 x3_3 => J l E rX6_slotOf Y (wTab E a b slots rows size) 14 [(0, .ref (a b)), (1, .int p0), (2, .int x2_2), (3, .int x3_3)] []) (Q := fun x2_4 => J l E rX6_slotOf Y (wTab E a b slots rows size) 71 [(2, .int x2_4)] []) (fun x2_2 x3_3 nx14 ex14 hnx14 hex14 hf => ?_) (fun x2_4 hf => ?_) hf
  · refine J_iload_n hB dX6_slotOf_14 rfl 3 rfl ?_
    refine J_sipush (v := 1024) hB dX6_slotOf_15 rfl ?_
    refine J_icmp_ge (tgt := 71) hB dX6_slotOf_18 rfl (fun c_5 => ?_) (fun c_5 => ?_)
    · have hf := it_t c_5 hf
      exact J_lv [2] rfl (hex14 x2_2 hf)
    · have hf := it_f c_5 hf
      refine J_aload_n hB dX6_slotOf_21 rfl 0 rfl ?_
      refine J_get (v := .ref (a (b + 1))) hB inX6 0 rfl rfl 0 (Nat.le_of_ble_eq_true rfl) kf_X6_9 rfl dX6_slotOf_22 ?_
      refine J_iload_n hB dX6_slotOf_25 rfl 2 rfl ?_
      obtain ⟨v_6, ev_6, h_7, hf⟩ := ald_e hf
      refine J_iald hB 1 rfl ev_6 h_7 dX6_slotOf_26 ?_
      refine J_iconst (v := 1) hB dX6_slotOf_27 rfl ?_
      refine J_isub hB dX6_slotOf_28 ?_
      obtain ⟨x4_8, ex4_8, hf⟩ := nmv_e hf
      refine J_istore (lv' := [(4, .int x4_8), (0, .ref (a b)), (1, .int p0), (2, .int x2_2), (3, .int x3_3)]) hB ex4_8 dX6_slotOf_29 (Nat.le_of_ble_eq_true rfl) rfl ?_
      refine J_iload hB dX6_slotOf_31 0 rfl ?_
      refine J_if_lt (tgt := 55) hB dX6_slotOf_33 rfl (fun c_9 => ?_) (fun c_9 => ?_)
      · have hf := it_t c_9 hf
        refine J_iload_n hB dX6_slotOf_55 rfl 3 rfl ?_
        obtain rfl := Option.some.inj hf
        exact J_iret hB hR dX6_slotOf_56
      · have hf := it_f c_9 hf
        refine J_iload hB dX6_slotOf_36 0 rfl ?_
        refine J_sipush (v := 640) hB dX6_slotOf_38 rfl ?_
        refine J_icmp_ge (tgt := 55) hB dX6_slotOf_41 rfl (fun c_10 => ?_) (fun c_10 => ?_)
        · have hf := it_t c_10 hf
          refine J_iload_n hB dX6_slotOf_55 rfl 3 rfl ?_
          obtain rfl := Option.some.inj hf
          exact J_iret hB hR dX6_slotOf_56
        · have hf := it_f c_10 hf
          refine J_aload_n hB dX6_slotOf_44 rfl 1 rfl ?_
          refine J_get (v := .ref (a (b + 2))) hB inX6 0 rfl rfl 1 (Nat.le_of_ble_eq_true rfl) kf_X6_15 rfl dX6_slotOf_45 ?_
          refine J_iload hB dX6_slotOf_48 0 rfl ?_
          obtain ⟨v_11, ev_11, h_12, hf⟩ := ald_e hf
          refine J_iald hB 2 rfl ev_11 h_12 dX6_slotOf_50 ?_
          refine J_iload_n hB dX6_slotOf_51 rfl 2 rfl ?_
          refine J_icmp_ne (tgt := 57) hB dX6_slotOf_52 rfl (fun c_13 => ?_) (fun c_13 => ?_)
          · have hf := it_f c_13 hf
            refine J_iload_n hB dX6_slotOf_57 rfl 3 rfl ?_
            refine J_iconst (v := 1) hB dX6_slotOf_58 rfl ?_
            refine J_iadd hB dX6_slotOf_59 ?_
            refine J_sipush (v := 1023) hB dX6_slotOf_60 rfl ?_
            refine J_iand hB dX6_slotOf_63 ?_
            obtain ⟨x2_14, ex2_14, hf⟩ := nmv_e hf
            refine J_istore_n (lv' := [(2, .int x2_14), (4, .int x4_8), (0, .ref (a b)), (1, .int p0), (3, .int x3_3)]) hB ex2_14 dX6_slotOf_64 rfl (Nat.le_of_ble_eq_true rfl) rfl ?_
            obtain ⟨x3_15, ex3_15, hf⟩ := nmv_e hf
            refine J_iinc (lv' := [(3, .int x3_15), (2, .int x2_14), (4, .int x4_8), (0, .ref (a b)), (1, .int p0)]) hB ex3_15 dX6_slotOf_65 4 rfl (Nat.le_of_ble_eq_true rfl) rfl ?_
            refine J_goto (tgt := 14) hB dX6_slotOf_68 rfl ?_
            exact J_lv [3, 4, 1, 0] rfl (hnx14 x2_14 x3_15 hf)
          · have hf := it_t c_13 hf
            refine J_iload_n hB dX6_slotOf_55 rfl 3 rfl ?_
            obtain rfl := Option.some.inj hf
            exact J_iret hB hR dX6_slotOf_56
  · refine J_iload_n hB dX6_slotOf_71 rfl 0 rfl ?_
    obtain rfl := Option.some.inj hf
    exact J_iret hB hR dX6_slotOf_72
def f_X6_find (slots : Nat → Int32) (rows : Nat → Int32) (p0 : Int32) : Option (Int32) :=
cl1 (f_X6_slotOf slots rows p0) fun r_1 =>
ald 1024 slots r_1 fun v_3 =>
some (v_3 - (1 : Int32))
abbrev rX6_find : Room := { frames := 1, cells := 0, slots := 0, locals := 24 }
set_option maxRecDepth 100000 in
set_option maxHeartbeats 4000000 in
theorem c_X6_find (l : Launch) (E : En) (a : Nat → Nat) (b : Nat) (slots : Nat → Int32) (rows : Nat → Int32) (size : Int32) {p0 : Int32} {res : Int32} (hf : f_X6_find slots rows p0 = some res) : Ct l yX6_find (.code yX6_find cX6_find 2 (some .int)) rX6_find E [.ref (a b), .int p0] (wTab E a b slots rows size) (some (.int res)) (wTab E a b slots rows size) := by
  refine Ct.of (by decide) (Nat.le_of_ble_eq_true rfl) (fun Y hB hR => ?_)
  have hB : Cb E cX6_find RX6 rX6_find 2 Y := hB
  show J l E rX6_find Y (wTab E a b slots rows size) 0 [(0, .ref (a b)), (1, .int p0)] []
  unfold f_X6_find at hf
  refine J_aload_n hB dX6_find_0 rfl 0 rfl ?_
  refine J_get (v := .ref (a (b + 1))) hB inX6 0 rfl rfl 0 (Nat.le_of_ble_eq_true rfl) kf_X6_9 rfl dX6_find_1 ?_
  refine J_aload_n hB dX6_find_4 rfl 0 rfl ?_
  refine J_iload_n hB dX6_find_5 rfl 1 rfl ?_
  obtain ⟨r_1, h_2, hf⟩ := cl1_e hf
  refine J_callV (As := [.int p0]) (rest := [.ref (a (b + 1))]) (n := 1) (ws' := wTab E a b slots rows size) hB (c_X6_slotOf l E a b slots rows size h_2) mi_X6_slotOf ⟨ki_X6_slotOf, kv_X6_slotOf⟩ km_X6_28 ⟨rfl, rfl, Nat.le_of_ble_eq_true rfl, Nat.le_of_ble_eq_true rfl⟩ Lies.same 0 rfl rfl rfl rfl (Nat.le_of_ble_eq_true rfl) dX6_find_6 ?_
  show J l E rX6_find Y (wTab E a b slots rows size) 9 [(0, .ref (a b)), (1, .int p0)] [.int r_1, .ref (a (b + 1))]
  obtain ⟨v_3, ev_3, h_4, hf⟩ := ald_e hf
  refine J_iald hB 1 rfl ev_3 h_4 dX6_find_9 ?_
  refine J_iconst (v := 1) hB dX6_find_10 rfl ?_
  refine J_isub hB dX6_find_11 ?_
  obtain rfl := Option.some.inj hf
  exact J_iret hB hR dX6_find_12
def f_X6_meet (slots : Nat → Int32) (rows : Nat → Int32) (size : Int32) (p0 : Int32) : Option (Int32 × (Nat → Int32) × (Nat → Int32) × Int32) :=
cl1 (f_X6_slotOf slots rows p0) fun r_1 =>
ald 1024 slots r_1 fun v_3 =>
jn3 (fun (slots_5 : Nat → Int32) (rows_6 : Nat → Int32) (size_7 : Int32) =>
ald 1024 slots_5 r_1 fun v_8 =>
some (v_8 - (1 : Int32), slots_5, rows_6, size_7)) fun j57 =>
if v_3 = 0 then (
if size < 640 then (
astI 640 rows size p0 fun rows_12 =>
nmv (α := Int32) (size + (1 : Int32)) fun size_14 =>
astI 1024 slots r_1 size_14 fun slots_15 =>
j57 slots_15 rows_12 size_14) else (
some ((-1), slots, rows, size))) else (
j57 slots rows size)
abbrev rX6_meet : Room := { frames := 1, cells := 0, slots := 0, locals := 24 }
set_option maxRecDepth 100000 in
set_option maxHeartbeats 4000000 in
theorem c_X6_meet (l : Launch) (E : En) (a : Nat → Nat) (b : Nat) (slots : Nat → Int32) (rows : Nat → Int32) (size : Int32) {p0 : Int32} {res : Int32 × (Nat → Int32) × (Nat → Int32) × Int32} (hf : f_X6_meet slots rows size p0 = some res) : Ct l yX6_meet (.code yX6_meet cX6_meet 3 (some .int)) rX6_meet E [.ref (a b), .int p0] (wTab E a b slots rows size) (some (.int res.1)) (wTab E a b res.2.1 res.2.2.1 res.2.2.2) := by
  refine Ct.of (by decide) (Nat.le_of_ble_eq_true rfl) (fun Y hB hR => ?_)
  have hB : Cb E cX6_meet RX6 rX6_meet 3 Y := hB
  show J l E rX6_meet Y (wTab E a b slots rows size) 0 [(0, .ref (a b)), (1, .int p0)] []
  unfold f_X6_meet at hf
  refine J_aload_n hB dX6_meet_0 rfl 0 rfl ?_
  refine J_iload_n hB dX6_meet_1 rfl 1 rfl ?_
  obtain ⟨r_1, h_2, hf⟩ := cl1_e hf
  refine J_callV (As := [.int p0]) (rest := []) (n := 1) (ws' := wTab E a b slots rows size) hB (c_X6_slotOf l E a b slots rows size h_2) mi_X6_slotOf ⟨ki_X6_slotOf, kv_X6_slotOf⟩ km_X6_28 ⟨rfl, rfl, Nat.le_of_ble_eq_true rfl, Nat.le_of_ble_eq_true rfl⟩ Lies.same 0 rfl rfl rfl rfl (Nat.le_of_ble_eq_true rfl) dX6_meet_2 ?_
  show J l E rX6_meet Y (wTab E a b slots rows size) 5 [(0, .ref (a b)), (1, .int p0)] [.int r_1]
  refine J_istore_n (lv' := [(2, .int r_1), (0, .ref (a b)), (1, .int p0)]) hB rfl dX6_meet_5 rfl (Nat.le_of_ble_eq_true rfl) rfl ?_
  refine J_aload_n hB dX6_meet_6 rfl 1 rfl ?_
  refine J_get (v := .ref (a (b + 1))) hB inX6 0 rfl rfl 0 (Nat.le_of_ble_eq_true rfl) kf_X6_9 rfl dX6_meet_7 ?_
  refine J_iload_n hB dX6_meet_10 rfl 0 rfl ?_
  obtain ⟨v_3, ev_3, h_4, hf⟩ := ald_e hf
  refine J_iald hB 1 rfl ev_3 h_4 dX6_meet_11 ?_
  refine jn3_e (P := fun slots_5 rows_6 size_7 => J l E rX6_meet Y (wTab E a b slots_5 rows_6 size_7) 57 [(0, .ref (a b)), (2, .int r_1)] []) hf (fun slots_5 rows_6 size_7 hf => ?_) (fun j57 hj57 hf => ?_)
  · refine J_aload_n hB dX6_meet_57 rfl 0 rfl ?_
    refine J_get (v := .ref (a (b + 1))) hB inX6 0 rfl rfl 0 (Nat.le_of_ble_eq_true rfl) kf_X6_9 rfl dX6_meet_58 ?_
    refine J_iload_n hB dX6_meet_61 rfl 1 rfl ?_
    obtain ⟨v_8, ev_8, h_9, hf⟩ := ald_e hf
    refine J_iald hB 1 rfl ev_8 h_9 dX6_meet_62 ?_
    refine J_iconst (v := 1) hB dX6_meet_63 rfl ?_
    refine J_isub hB dX6_meet_64 ?_
    obtain rfl := Option.some.inj hf
    exact J_iret hB hR dX6_meet_65
  · refine J_if_ne (tgt := 57) hB dX6_meet_12 rfl (fun c_10 => ?_) (fun c_10 => ?_)
    · have hf := it_f c_10 hf
      exact J_lv [1, 0] rfl (hj57 slots rows size hf)
    · have hf := it_t c_10 hf
      refine J_aload_n hB dX6_meet_15 rfl 1 rfl ?_
      refine J_get (v := .int size) hB inX6 0 rfl rfl 2 (Nat.le_of_ble_eq_true rfl) kf_X6_24 rfl dX6_meet_16 ?_
      refine J_sipush (v := 640) hB dX6_meet_19 rfl ?_
      refine J_icmp_lt (tgt := 27) hB dX6_meet_22 rfl (fun c_11 => ?_) (fun c_11 => ?_)
      · have hf := it_t c_11 hf
        refine J_aload_n hB dX6_meet_27 rfl 1 rfl ?_
        refine J_get (v := .ref (a (b + 2))) hB inX6 0 rfl rfl 1 (Nat.le_of_ble_eq_true rfl) kf_X6_15 rfl dX6_meet_28 ?_
        refine J_aload_n hB dX6_meet_31 rfl 1 rfl ?_
        refine J_get (v := .int size) hB inX6 0 rfl rfl 2 (Nat.le_of_ble_eq_true rfl) kf_X6_24 rfl dX6_meet_32 ?_
        refine J_iload_n hB dX6_meet_35 rfl 2 rfl ?_
        obtain ⟨rows_12, erows_12, h_13, hf⟩ := astI_e hf
        refine J_iast (ws' := wTab E a b slots rows_12 size) hB 2 rfl erows_12 h_13 dX6_meet_36 rfl ?_
        refine J_aload_n hB dX6_meet_37 rfl 1 rfl ?_
        refine J_dup hB dX6_meet_38 rfl ?_
        refine J_get (v := .int size) hB inX6 0 rfl rfl 2 (Nat.le_of_ble_eq_true rfl) kf_X6_24 rfl dX6_meet_39 ?_
        refine J_iconst (v := 1) hB dX6_meet_42 rfl ?_
        refine J_iadd hB dX6_meet_43 ?_
        obtain ⟨size_14, esize_14, hf⟩ := nmv_e hf
        rw [← esize_14]
        refine J_put (ws' := wTab E a b slots rows_12 size_14) (ty := .int) (v := .int size_14) hB inX6 tyX6 tyX6_ok nmX6 0 rfl rfl 2 (Nat.le_of_ble_eq_true rfl) kf_X6_24 rfl rfl rfl rfl (Nat.le_of_ble_eq_true rfl) dX6_meet_44 rfl ?_
        refine J_aload_n hB dX6_meet_47 rfl 1 rfl ?_
        refine J_get (v := .ref (a (b + 1))) hB inX6 0 rfl rfl 0 (Nat.le_of_ble_eq_true rfl) kf_X6_9 rfl dX6_meet_48 ?_
        refine J_iload_n hB dX6_meet_51 rfl 0 rfl ?_
        refine J_aload_n hB dX6_meet_52 rfl 1 rfl ?_
        refine J_get (v := .int size_14) hB inX6 0 rfl rfl 2 (Nat.le_of_ble_eq_true rfl) kf_X6_24 rfl dX6_meet_53 ?_
        obtain ⟨slots_15, eslots_15, h_16, hf⟩ := astI_e hf
        refine J_iast (ws' := wTab E a b slots_15 rows_12 size_14) hB 1 rfl eslots_15 h_16 dX6_meet_56 rfl ?_
        exact J_lv [1, 0] rfl (hj57 slots_15 rows_12 size_14 hf)
      · have hf := it_f c_11 hf
        refine J_iconst (v := (-1)) hB dX6_meet_25 rfl ?_
        obtain rfl := Option.some.inj hf
        exact J_iret hB hR dX6_meet_26
