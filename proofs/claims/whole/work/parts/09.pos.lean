def f_X2_begin (row : Int32) (numbers : Int32) (size : Int32) (p0 : Int32) (p1 : Int32) : Option (Int32 × Int32 × Int32) :=
some (p0, p1, 0)
abbrev rX2_begin : Room := { frames := 0, cells := 0, slots := 0, locals := 0 }
set_option maxRecDepth 100000 in
set_option maxHeartbeats 4000000 in
theorem c_X2_begin (l : Launch) (E : En) (a : Nat → Nat) (b : Nat) (made : Nat → Int32) (movers : Nat → Int32) (row : Int32) (numbers : Int32) (size : Int32) {p0 : Int32} {p1 : Int32} {res : Int32 × Int32 × Int32} (hf : f_X2_begin row numbers size p0 p1 = some res) : Ct l yX2_begin (.code yX2_begin cX2_begin 3 none) rX2_begin E [.ref (a b), .int p0, .int p1] (wPos E a b made movers row numbers size) none (wPos E a b made movers res.1 res.2.1 res.2.2) := by
  refine Ct.of (by decide) (Nat.le_of_ble_eq_true rfl) (fun Y hB hR => ?_)
  have hB : Cb E cX2_begin RX2 rX2_begin 3 Y := hB
  show J l E rX2_begin Y (wPos E a b made movers row numbers size) 0 [(0, .ref (a b)), (1, .int p0), (2, .int p1)] []
  unfold f_X2_begin at hf
  refine J_aload_n hB dX2_begin_0 rfl 0 rfl ?_
  refine J_iload_n hB dX2_begin_1 rfl 1 rfl ?_
  refine J_put (ws' := wPos E a b made movers p0 numbers size) (ty := .int) (v := .int p0) hB inX2 tyX2 tyX2_ok nmX2 0 rfl rfl 2 (Nat.le_of_ble_eq_true rfl) kf_X2_18 rfl rfl rfl rfl (Nat.le_of_ble_eq_true rfl) dX2_begin_2 rfl ?_
  refine J_aload_n hB dX2_begin_5 rfl 0 rfl ?_
  refine J_iload_n hB dX2_begin_6 rfl 2 rfl ?_
  refine J_put (ws' := wPos E a b made movers p0 p1 size) (ty := .int) (v := .int p1) hB inX2 tyX2 tyX2_ok nmX2 0 rfl rfl 3 (Nat.le_of_ble_eq_true rfl) kf_X2_22 rfl rfl rfl rfl (Nat.le_of_ble_eq_true rfl) dX2_begin_7 rfl ?_
  refine J_aload_n hB dX2_begin_10 rfl 0 rfl ?_
  refine J_iconst (v := 0) hB dX2_begin_11 rfl ?_
  refine J_put (ws' := wPos E a b made movers p0 p1 0) (ty := .int) (v := .int 0) hB inX2 tyX2 tyX2_ok nmX2 0 rfl rfl 4 (Nat.le_of_ble_eq_true rfl) kf_X2_25 rfl rfl rfl rfl (Nat.le_of_ble_eq_true rfl) dX2_begin_12 rfl ?_
  obtain rfl := Option.some.inj hf
  exact J_vret hB hR dX2_begin_15
def f_X2_go (made : Nat → Int32) (movers : Nat → Int32) (row : Int32) (numbers : Int32) (size : Int32) (p0 : Int32) (p1 : Int32) : Option ((Nat → Int32) × (Nat → Int32) × Int32 × Int32 × Int32) :=
if size < 60 then (
nmv (α := Int32) (((8 : Int32) * p0) + p1) fun x3_2 =>
astI 60 made size x3_2 fun made_3 =>
cl1 (f_X3_at numbers p0) fun r_5 =>
astI 60 movers size (r_5 - (1 : Int32)) fun movers_7 =>
nmv (α := Int32) (size + (1 : Int32)) fun size_9 =>
cl1 (f_X3_moved row x3_2) fun r_10 =>
cl1 (f_X3_moved numbers x3_2) fun r_12 =>
some (made_3, movers_7, r_10, r_12, size_9)) else (
some (made, movers, row, numbers, size))
abbrev rX2_go : Room := { frames := 1, cells := 0, slots := 0, locals := 24 }
set_option maxRecDepth 100000 in
set_option maxHeartbeats 4000000 in
theorem c_X2_go (l : Launch) (E : En) (a : Nat → Nat) (b : Nat) (made : Nat → Int32) (movers : Nat → Int32) (row : Int32) (numbers : Int32) (size : Int32) {p0 : Int32} {p1 : Int32} {res : (Nat → Int32) × (Nat → Int32) × Int32 × Int32 × Int32} (hf : f_X2_go made movers row numbers size p0 p1 = some res) : Ct l yX2_go (.code yX2_go cX2_go 4 none) rX2_go E [.ref (a b), .int p0, .int p1] (wPos E a b made movers row numbers size) none (wPos E a b res.1 res.2.1 res.2.2.1 res.2.2.2.1 res.2.2.2.2) := by
  refine Ct.of (by decide) (Nat.le_of_ble_eq_true rfl) (fun Y hB hR => ?_)
  have hB : Cb E cX2_go RX2 rX2_go 4 Y := hB
  show J l E rX2_go Y (wPos E a b made movers row numbers size) 0 [(0, .ref (a b)), (1, .int p0), (2, .int p1)] []
  unfold f_X2_go at hf
  refine J_aload_n hB dX2_go_0 rfl 0 rfl ?_
  refine J_get (v := .int size) hB inX2 0 rfl rfl 4 (Nat.le_of_ble_eq_true rfl) kf_X2_25 rfl dX2_go_1 ?_
  refine J_bipush (v := 60) hB dX2_go_4 rfl ?_
  refine J_icmp_lt (tgt := 10) hB dX2_go_6 rfl (fun c_1 => ?_) (fun c_1 => ?_)
  · have hf := it_t c_1 hf
    refine J_bipush (v := 8) hB dX2_go_10 rfl ?_
    refine J_iload_n hB dX2_go_12 rfl 1 rfl ?_
    refine J_imul hB dX2_go_13 ?_
    refine J_iload_n hB dX2_go_14 rfl 2 rfl ?_
    refine J_iadd hB dX2_go_15 ?_
    obtain ⟨x3_2, ex3_2, hf⟩ := nmv_e hf
    refine J_istore_n (lv' := [(3, .int x3_2), (0, .ref (a b)), (1, .int p0), (2, .int p1)]) hB ex3_2 dX2_go_16 rfl (Nat.le_of_ble_eq_true rfl) rfl ?_
    refine J_aload_n hB dX2_go_17 rfl 1 rfl ?_
    refine J_get (v := .ref (a (b + 1))) hB inX2 0 rfl rfl 0 (Nat.le_of_ble_eq_true rfl) kf_X2_9 rfl dX2_go_18 ?_
    refine J_aload_n hB dX2_go_21 rfl 1 rfl ?_
    refine J_get (v := .int size) hB inX2 0 rfl rfl 4 (Nat.le_of_ble_eq_true rfl) kf_X2_25 rfl dX2_go_22 ?_
    refine J_iload_n hB dX2_go_25 rfl 0 rfl ?_
    obtain ⟨made_3, emade_3, h_4, hf⟩ := astI_e hf
    refine J_iast (ws' := wPos E a b made_3 movers row numbers size) hB 1 rfl emade_3 h_4 dX2_go_26 rfl ?_
    refine J_aload_n hB dX2_go_27 rfl 1 rfl ?_
    refine J_get (v := .ref (a (b + 2))) hB inX2 0 rfl rfl 1 (Nat.le_of_ble_eq_true rfl) kf_X2_15 rfl dX2_go_28 ?_
    refine J_aload_n hB dX2_go_31 rfl 1 rfl ?_
    refine J_get (v := .int size) hB inX2 0 rfl rfl 4 (Nat.le_of_ble_eq_true rfl) kf_X2_25 rfl dX2_go_32 ?_
    refine J_aload_n hB dX2_go_35 rfl 1 rfl ?_
    refine J_get (v := .int numbers) hB inX2 0 rfl rfl 3 (Nat.le_of_ble_eq_true rfl) kf_X2_22 rfl dX2_go_36 ?_
    refine J_iload_n hB dX2_go_39 rfl 2 rfl ?_
    obtain ⟨r_5, h_6, hf⟩ := cl1_e hf
    refine J_callS (As := [.int numbers, .int p0]) (rest := [.int size, .ref (a (b + 2))]) (n := 2) (ws' := wPos E a b made_3 movers row numbers size) hB (c_X3_at l E a h_6) mi_X3_at ks_X3_at km_X2_28 ⟨rfl, rfl, Nat.le_of_ble_eq_true rfl, Nat.le_of_ble_eq_true rfl⟩ Lies.none rfl rfl (Nat.le_of_ble_eq_true rfl) dX2_go_40 ?_
    show J l E rX2_go Y (wPos E a b made_3 movers row numbers size) 43 [(3, .int x3_2), (0, .ref (a b)), (1, .int p0), (2, .int p1)] [.int r_5, .int size, .ref (a (b + 2))]
    refine J_iconst (v := 1) hB dX2_go_43 rfl ?_
    refine J_isub hB dX2_go_44 ?_
    obtain ⟨movers_7, emovers_7, h_8, hf⟩ := astI_e hf
    refine J_iast (ws' := wPos E a b made_3 movers_7 row numbers size) hB 2 rfl emovers_7 h_8 dX2_go_45 rfl ?_
    refine J_aload_n hB dX2_go_46 rfl 1 rfl ?_
    refine J_dup hB dX2_go_47 rfl ?_
    refine J_get (v := .int size) hB inX2 0 rfl rfl 4 (Nat.le_of_ble_eq_true rfl) kf_X2_25 rfl dX2_go_48 ?_
    refine J_iconst (v := 1) hB dX2_go_51 rfl ?_
    refine J_iadd hB dX2_go_52 ?_
    obtain ⟨size_9, esize_9, hf⟩ := nmv_e hf
    rw [← esize_9]
    refine J_put (ws' := wPos E a b made_3 movers_7 row numbers size_9) (ty := .int) (v := .int size_9) hB inX2 tyX2 tyX2_ok nmX2 0 rfl rfl 4 (Nat.le_of_ble_eq_true rfl) kf_X2_25 rfl rfl rfl rfl (Nat.le_of_ble_eq_true rfl) dX2_go_53 rfl ?_
    refine J_aload_n hB dX2_go_56 rfl 1 rfl ?_
    refine J_aload_n hB dX2_go_57 rfl 1 rfl ?_
    refine J_get (v := .int row) hB inX2 0 rfl rfl 2 (Nat.le_of_ble_eq_true rfl) kf_X2_18 rfl dX2_go_58 ?_
    refine J_iload_n hB dX2_go_61 rfl 0 rfl ?_
    obtain ⟨r_10, h_11, hf⟩ := cl1_e hf
    refine J_callS (As := [.int row, .int x3_2]) (rest := [.ref (a b)]) (n := 2) (ws' := wPos E a b made_3 movers_7 row numbers size_9) hB (c_X3_moved l E a h_11) mi_X3_moved ks_X3_moved km_X2_34 ⟨rfl, rfl, Nat.le_of_ble_eq_true rfl, Nat.le_of_ble_eq_true rfl⟩ Lies.none rfl rfl (Nat.le_of_ble_eq_true rfl) dX2_go_62 ?_
    show J l E rX2_go Y (wPos E a b made_3 movers_7 row numbers size_9) 65 [(3, .int x3_2), (0, .ref (a b)), (1, .int p0), (2, .int p1)] [.int r_10, .ref (a b)]
    refine J_put (ws' := wPos E a b made_3 movers_7 r_10 numbers size_9) (ty := .int) (v := .int r_10) hB inX2 tyX2 tyX2_ok nmX2 0 rfl rfl 2 (Nat.le_of_ble_eq_true rfl) kf_X2_18 rfl rfl rfl rfl (Nat.le_of_ble_eq_true rfl) dX2_go_65 rfl ?_
    refine J_aload_n hB dX2_go_68 rfl 1 rfl ?_
    refine J_aload_n hB dX2_go_69 rfl 1 rfl ?_
    refine J_get (v := .int numbers) hB inX2 0 rfl rfl 3 (Nat.le_of_ble_eq_true rfl) kf_X2_22 rfl dX2_go_70 ?_
    refine J_iload_n hB dX2_go_73 rfl 0 rfl ?_
    obtain ⟨r_12, h_13, hf⟩ := cl1_e hf
    refine J_callS (As := [.int numbers, .int x3_2]) (rest := [.ref (a b)]) (n := 2) (ws' := wPos E a b made_3 movers_7 r_10 numbers size_9) hB (c_X3_moved l E a h_13) mi_X3_moved ks_X3_moved km_X2_34 ⟨rfl, rfl, Nat.le_of_ble_eq_true rfl, Nat.le_of_ble_eq_true rfl⟩ Lies.none rfl rfl (Nat.le_of_ble_eq_true rfl) dX2_go_74 ?_
    show J l E rX2_go Y (wPos E a b made_3 movers_7 r_10 numbers size_9) 77 [(3, .int x3_2), (0, .ref (a b)), (1, .int p0), (2, .int p1)] [.int r_12, .ref (a b)]
    refine J_put (ws' := wPos E a b made_3 movers_7 r_10 r_12 size_9) (ty := .int) (v := .int r_12) hB inX2 tyX2 tyX2_ok nmX2 0 rfl rfl 3 (Nat.le_of_ble_eq_true rfl) kf_X2_22 rfl rfl rfl rfl (Nat.le_of_ble_eq_true rfl) dX2_go_77 rfl ?_
    obtain rfl := Option.some.inj hf
    exact J_vret hB hR dX2_go_80
  · have hf := it_f c_1 hf
    obtain rfl := Option.some.inj hf
    exact J_vret hB hR dX2_go_9
def f_X2_takeBack (made : Nat → Int32) (row : Int32) (numbers : Int32) (size : Int32) : Option (Int32 × Int32 × Int32 × Int32) :=
if size ≤ 0 then (
some ((-1), row, numbers, size)) else (
if size ≤ 60 then (
nmv (α := Int32) (size - (1 : Int32)) fun size_3 =>
ald 60 made size_3 fun v_4 =>
nmv (α := Int32) (v_4 >>> ((3 : Int32) &&& 31)) fun x1_6 =>
ald 60 made size_3 fun v_7 =>
nmv (α := Int32) (((8 : Int32) * (v_7 &&& (7 : Int32))) + x1_6) fun x2_9 =>
cl1 (f_X3_moved row x2_9) fun r_10 =>
cl1 (f_X3_moved numbers x2_9) fun r_12 =>
some (x1_6, r_10, r_12, size_3)) else (
some ((-1), row, numbers, size)))
abbrev rX2_takeBack : Room := { frames := 1, cells := 0, slots := 0, locals := 24 }
set_option maxRecDepth 100000 in
set_option maxHeartbeats 4000000 in
theorem c_X2_takeBack (l : Launch) (E : En) (a : Nat → Nat) (b : Nat) (made : Nat → Int32) (movers : Nat → Int32) (row : Int32) (numbers : Int32) (size : Int32) {res : Int32 × Int32 × Int32 × Int32} (hf : f_X2_takeBack made row numbers size = some res) : Ct l yX2_takeBack (.code yX2_takeBack cX2_takeBack 3 (some .int)) rX2_takeBack E [.ref (a b)] (wPos E a b made movers row numbers size) (some (.int res.1)) (wPos E a b made movers res.2.1 res.2.2.1 res.2.2.2) := by
  refine Ct.of (by decide) (Nat.le_of_ble_eq_true rfl) (fun Y hB hR => ?_)
  have hB : Cb E cX2_takeBack RX2 rX2_takeBack 3 Y := hB
  show J l E rX2_takeBack Y (wPos E a b made movers row numbers size) 0 [(0, .ref (a b))] []
  unfold f_X2_takeBack at hf
  refine J_aload_n hB dX2_takeBack_0 rfl 0 rfl ?_
  refine J_get (v := .int size) hB inX2 0 rfl rfl 4 (Nat.le_of_ble_eq_true rfl) kf_X2_25 rfl dX2_takeBack_1 ?_
  refine J_if_le (tgt := 16) hB dX2_takeBack_4 rfl (fun c_1 => ?_) (fun c_1 => ?_)
  · have hf := it_t c_1 hf
    refine J_iconst (v := (-1)) hB dX2_takeBack_16 rfl ?_
    obtain rfl := Option.some.inj hf
    exact J_iret hB hR dX2_takeBack_17
  · have hf := it_f c_1 hf
    refine J_aload_n hB dX2_takeBack_7 rfl 0 rfl ?_
    refine J_get (v := .int size) hB inX2 0 rfl rfl 4 (Nat.le_of_ble_eq_true rfl) kf_X2_25 rfl dX2_takeBack_8 ?_
    refine J_bipush (v := 60) hB dX2_takeBack_11 rfl ?_
    refine J_icmp_le (tgt := 18) hB dX2_takeBack_13 rfl (fun c_2 => ?_) (fun c_2 => ?_)
    · have hf := it_t c_2 hf
      refine J_aload_n hB dX2_takeBack_18 rfl 0 rfl ?_
      refine J_dup hB dX2_takeBack_19 rfl ?_
      refine J_get (v := .int size) hB inX2 0 rfl rfl 4 (Nat.le_of_ble_eq_true rfl) kf_X2_25 rfl dX2_takeBack_20 ?_
      refine J_iconst (v := 1) hB dX2_takeBack_23 rfl ?_
      refine J_isub hB dX2_takeBack_24 ?_
      obtain ⟨size_3, esize_3, hf⟩ := nmv_e hf
      rw [← esize_3]
      refine J_put (ws' := wPos E a b made movers row numbers size_3) (ty := .int) (v := .int size_3) hB inX2 tyX2 tyX2_ok nmX2 0 rfl rfl 4 (Nat.le_of_ble_eq_true rfl) kf_X2_25 rfl rfl rfl rfl (Nat.le_of_ble_eq_true rfl) dX2_takeBack_25 rfl ?_
      refine J_aload_n hB dX2_takeBack_28 rfl 0 rfl ?_
      refine J_get (v := .ref (a (b + 1))) hB inX2 0 rfl rfl 0 (Nat.le_of_ble_eq_true rfl) kf_X2_9 rfl dX2_takeBack_29 ?_
      refine J_aload_n hB dX2_takeBack_32 rfl 0 rfl ?_
      refine J_get (v := .int size_3) hB inX2 0 rfl rfl 4 (Nat.le_of_ble_eq_true rfl) kf_X2_25 rfl dX2_takeBack_33 ?_
      obtain ⟨v_4, ev_4, h_5, hf⟩ := ald_e hf
      refine J_iald hB 1 rfl ev_4 h_5 dX2_takeBack_36 ?_
      refine J_iconst (v := 3) hB dX2_takeBack_37 rfl ?_
      refine J_ishr hB dX2_takeBack_38 ?_
      obtain ⟨x1_6, ex1_6, hf⟩ := nmv_e hf
      refine J_istore_n (lv' := [(1, .int x1_6), (0, .ref (a b))]) hB ex1_6 dX2_takeBack_39 rfl (Nat.le_of_ble_eq_true rfl) rfl ?_
      refine J_bipush (v := 8) hB dX2_takeBack_40 rfl ?_
      refine J_aload_n hB dX2_takeBack_42 rfl 1 rfl ?_
      refine J_get (v := .ref (a (b + 1))) hB inX2 0 rfl rfl 0 (Nat.le_of_ble_eq_true rfl) kf_X2_9 rfl dX2_takeBack_43 ?_
      refine J_aload_n hB dX2_takeBack_46 rfl 1 rfl ?_
      refine J_get (v := .int size_3) hB inX2 0 rfl rfl 4 (Nat.le_of_ble_eq_true rfl) kf_X2_25 rfl dX2_takeBack_47 ?_
      obtain ⟨v_7, ev_7, h_8, hf⟩ := ald_e hf
      refine J_iald hB 1 rfl ev_7 h_8 dX2_takeBack_50 ?_
      refine J_bipush (v := 7) hB dX2_takeBack_51 rfl ?_
      refine J_iand hB dX2_takeBack_53 ?_
      refine J_imul hB dX2_takeBack_54 ?_
      refine J_iload_n hB dX2_takeBack_55 rfl 0 rfl ?_
      refine J_iadd hB dX2_takeBack_56 ?_
      obtain ⟨x2_9, ex2_9, hf⟩ := nmv_e hf
      refine J_istore_n (lv' := [(2, .int x2_9), (1, .int x1_6), (0, .ref (a b))]) hB ex2_9 dX2_takeBack_57 rfl (Nat.le_of_ble_eq_true rfl) rfl ?_
      refine J_aload_n hB dX2_takeBack_58 rfl 2 rfl ?_
      refine J_aload_n hB dX2_takeBack_59 rfl 2 rfl ?_
      refine J_get (v := .int row) hB inX2 0 rfl rfl 2 (Nat.le_of_ble_eq_true rfl) kf_X2_18 rfl dX2_takeBack_60 ?_
      refine J_iload_n hB dX2_takeBack_63 rfl 0 rfl ?_
      obtain ⟨r_10, h_11, hf⟩ := cl1_e hf
      refine J_callS (As := [.int row, .int x2_9]) (rest := [.ref (a b)]) (n := 2) (ws' := wPos E a b made movers row numbers size_3) hB (c_X3_moved l E a h_11) mi_X3_moved ks_X3_moved km_X2_34 ⟨rfl, rfl, Nat.le_of_ble_eq_true rfl, Nat.le_of_ble_eq_true rfl⟩ Lies.none rfl rfl (Nat.le_of_ble_eq_true rfl) dX2_takeBack_64 ?_
      show J l E rX2_takeBack Y (wPos E a b made movers row numbers size_3) 67 [(2, .int x2_9), (1, .int x1_6), (0, .ref (a b))] [.int r_10, .ref (a b)]
      refine J_put (ws' := wPos E a b made movers r_10 numbers size_3) (ty := .int) (v := .int r_10) hB inX2 tyX2 tyX2_ok nmX2 0 rfl rfl 2 (Nat.le_of_ble_eq_true rfl) kf_X2_18 rfl rfl rfl rfl (Nat.le_of_ble_eq_true rfl) dX2_takeBack_67 rfl ?_
      refine J_aload_n hB dX2_takeBack_70 rfl 2 rfl ?_
      refine J_aload_n hB dX2_takeBack_71 rfl 2 rfl ?_
      refine J_get (v := .int numbers) hB inX2 0 rfl rfl 3 (Nat.le_of_ble_eq_true rfl) kf_X2_22 rfl dX2_takeBack_72 ?_
      refine J_iload_n hB dX2_takeBack_75 rfl 0 rfl ?_
      obtain ⟨r_12, h_13, hf⟩ := cl1_e hf
      refine J_callS (As := [.int numbers, .int x2_9]) (rest := [.ref (a b)]) (n := 2) (ws' := wPos E a b made movers r_10 numbers size_3) hB (c_X3_moved l E a h_13) mi_X3_moved ks_X3_moved km_X2_34 ⟨rfl, rfl, Nat.le_of_ble_eq_true rfl, Nat.le_of_ble_eq_true rfl⟩ Lies.none rfl rfl (Nat.le_of_ble_eq_true rfl) dX2_takeBack_76 ?_
      show J l E rX2_takeBack Y (wPos E a b made movers r_10 numbers size_3) 79 [(2, .int x2_9), (1, .int x1_6), (0, .ref (a b))] [.int r_12, .ref (a b)]
      refine J_put (ws' := wPos E a b made movers r_10 r_12 size_3) (ty := .int) (v := .int r_12) hB inX2 tyX2 tyX2_ok nmX2 0 rfl rfl 3 (Nat.le_of_ble_eq_true rfl) kf_X2_22 rfl rfl rfl rfl (Nat.le_of_ble_eq_true rfl) dX2_takeBack_79 rfl ?_
      refine J_iload_n hB dX2_takeBack_82 rfl 1 rfl ?_
      obtain rfl := Option.some.inj hf
      exact J_iret hB hR dX2_takeBack_83
    · have hf := it_f c_2 hf
      refine J_iconst (v := (-1)) hB dX2_takeBack_16 rfl ?_
      obtain rfl := Option.some.inj hf
      exact J_iret hB hR dX2_takeBack_17
def f_X2_stoneOf (numbers : Int32) (p0 : Int32) : Option (Int32) :=
lp1_0 (fun (x2_1 : Int32) nx2 ex2 =>
if 7 ≤ x2_1 then (
ex2) else (
cl1 (f_X3_at numbers x2_1) fun r_3 =>
if r_3 = (p0 + (1 : Int32)) then (
some x2_1) else (
nmv (α := Int32) (x2_1 + 1) fun x2_6 =>
nx2 x2_6))) (
some 0) fuel 0
abbrev rX2_stoneOf : Room := { frames := 1, cells := 0, slots := 0, locals := 21 }
set_option maxRecDepth 100000 in
set_option maxHeartbeats 4000000 in
theorem c_X2_stoneOf (l : Launch) (E : En) (a : Nat → Nat) (b : Nat) (made : Nat → Int32) (movers : Nat → Int32) (row : Int32) (numbers : Int32) (size : Int32) {p0 : Int32} {res : Int32} (hf : f_X2_stoneOf numbers p0 = some res) : Ct l yX2_stoneOf (.code yX2_stoneOf cX2_stoneOf 3 (some .int)) rX2_stoneOf E [.ref (a b), .int p0] (wPos E a b made movers row numbers size) (some (.int res)) (wPos E a b made movers row numbers size) := by
  refine Ct.of (by decide) (Nat.le_of_ble_eq_true rfl) (fun Y hB hR => ?_)
  have hB : Cb E cX2_stoneOf RX2 rX2_stoneOf 3 Y := hB
  show J l E rX2_stoneOf Y (wPos E a b made movers row numbers size) 0 [(0, .ref (a b)), (1, .int p0)] []
  unfold f_X2_stoneOf at hf
  refine J_iconst (v := 0) hB dX2_stoneOf_0 rfl ?_
  refine J_istore_n (lv' := [(2, .int 0), (0, .ref (a b)), (1, .int p0)]) hB rfl dX2_stoneOf_1 rfl (Nat.le_of_ble_eq_true rfl) rfl ?_
  refine J_lv [1, 2, 0] rfl ?_
  refine lp1_0_J (P := fun x2_1 => J l E rX2_stoneOf Y (wPos E a b made movers row numbers size) 2 [(0, .ref (a b)), (1, .int p0), (2, .int x2_1)] []) (Q := J l E rX2_stoneOf Y (wPos E a b made movers row numbers size) 30 [] []) (fun x2_1 nx2 ex2 hnx2 hex2 hf => ?_) (fun hf => ?_) hf
  · refine J_iload_n hB dX2_stoneOf_2 rfl 2 rfl ?_
    refine J_bipush (v := 7) hB dX2_stoneOf_3 rfl ?_
    refine J_icmp_ge (tgt := 30) hB dX2_stoneOf_5 rfl (fun c_2 => ?_) (fun c_2 => ?_)
    · have hf := it_t c_2 hf
      exact J_lv [] rfl (hex2 hf)
    · have hf := it_f c_2 hf
      refine J_aload_n hB dX2_stoneOf_8 rfl 0 rfl ?_
      refine J_get (v := .int numbers) hB inX2 0 rfl rfl 3 (Nat.le_of_ble_eq_true rfl) kf_X2_22 rfl dX2_stoneOf_9 ?_
      refine J_iload_n hB dX2_stoneOf_12 rfl 2 rfl ?_
      obtain ⟨r_3, h_4, hf⟩ := cl1_e hf
      refine J_callS (As := [.int numbers, .int x2_1]) (rest := []) (n := 2) (ws' := wPos E a b made movers row numbers size) hB (c_X3_at l E a h_4) mi_X3_at ks_X3_at km_X2_28 ⟨rfl, rfl, Nat.le_of_ble_eq_true rfl, Nat.le_of_ble_eq_true rfl⟩ Lies.none rfl rfl (Nat.le_of_ble_eq_true rfl) dX2_stoneOf_13 ?_
      show J l E rX2_stoneOf Y (wPos E a b made movers row numbers size) 16 [(0, .ref (a b)), (1, .int p0), (2, .int x2_1)] [.int r_3]
      refine J_iload_n hB dX2_stoneOf_16 rfl 1 rfl ?_
      refine J_iconst (v := 1) hB dX2_stoneOf_17 rfl ?_
      refine J_iadd hB dX2_stoneOf_18 ?_
      refine J_icmp_ne (tgt := 24) hB dX2_stoneOf_19 rfl (fun c_5 => ?_) (fun c_5 => ?_)
      · have hf := it_f c_5 hf
        obtain ⟨x2_6, ex2_6, hf⟩ := nmv_e hf
        refine J_iinc (lv' := [(2, .int x2_6), (0, .ref (a b)), (1, .int p0)]) hB ex2_6 dX2_stoneOf_24 2 rfl (Nat.le_of_ble_eq_true rfl) rfl ?_
        refine J_goto (tgt := 2) hB dX2_stoneOf_27 rfl ?_
        exact J_lv [1, 2, 0] rfl (hnx2 x2_6 hf)
      · have hf := it_t c_5 hf
        refine J_iload_n hB dX2_stoneOf_22 rfl 2 rfl ?_
        obtain rfl := Option.some.inj hf
        exact J_iret hB hR dX2_stoneOf_23
  · refine J_iconst (v := 0) hB dX2_stoneOf_30 rfl ?_
    obtain rfl := Option.some.inj hf
    exact J_iret hB hR dX2_stoneOf_31
def f_X2_timesMoved (movers : Nat → Int32) (size : Int32) (p0 : Int32) : Option (Int32) :=
lp2_1 (fun (x2_1 : Int32) (x3_2 : Int32) nx4 ex4 =>
if size ≤ x3_2 then (
ex4 x2_1) else (
if 60 ≤ x3_2 then (
ex4 x2_1) else (
ald 60 movers x3_2 fun v_6 =>
jn1 (fun (x2_8 : Int32) =>
nmv (α := Int32) (x3_2 + 1) fun x3_9 =>
nx4 x2_8 x3_9) fun j31 =>
if v_6 = p0 then (
nmv (α := Int32) (x2_1 + 1) fun x2_11 =>
j31 x2_11) else (
j31 x2_1)))) (fun (x2_3 : Int32) =>
some x2_3) fuel 0 0
abbrev rX2_timesMoved : Room := { frames := 0, cells := 0, slots := 0, locals := 0 }
set_option maxRecDepth 100000 in
set_option maxHeartbeats 4000000 in
theorem c_X2_timesMoved (l : Launch) (E : En) (a : Nat → Nat) (b : Nat) (made : Nat → Int32) (movers : Nat → Int32) (row : Int32) (numbers : Int32) (size : Int32) {p0 : Int32} {res : Int32} (hf : f_X2_timesMoved movers size p0 = some res) : Ct l yX2_timesMoved (.code yX2_timesMoved cX2_timesMoved 4 (some .int)) rX2_timesMoved E [.ref (a b), .int p0] (wPos E a b made movers row numbers size) (some (.int res)) (wPos E a b made movers row numbers size) := by
  refine Ct.of (by decide) (Nat.le_of_ble_eq_true rfl) (fun Y hB hR => ?_)
  have hB : Cb E cX2_timesMoved RX2 rX2_timesMoved 4 Y := hB
  show J l E rX2_timesMoved Y (wPos E a b made movers row numbers size) 0 [(0, .ref (a b)), (1, .int p0)] []
  unfold f_X2_timesMoved at hf
  refine J_iconst (v := 0) hB dX2_timesMoved_0 rfl ?_
  refine J_istore_n (lv' := [(2, .int 0), (0, .ref (a b)), (1, .int p0)]) hB rfl dX2_timesMoved_1 rfl (Nat.le_of_ble_eq_true rfl) rfl ?_
  refine J_iconst (v := 0) hB dX2_timesMoved_2 rfl ?_
  refine J_istore_n (lv' := [(3, .int 0), (2, .int 0), (0, .ref (a b)), (1, .int p0)]) hB rfl dX2_timesMoved_3 rfl (Nat.le_of_ble_eq_true rfl) rfl ?_
  refine J_lv [2, 3, 1, 0] rfl ?_
  refine lp2_1_J (P := fun x2_1 x3_2 => J l E rX2_timesMoved Y (wPos E a b made movers row numbers size) 4 [(0, .ref (a b)), (1, .int p0), (2, .int x2_1), (3, .int x3_2)] []) (Q := fun x2_3 => J l E rX2_timesMoved Y (wPos E a b made movers row numbers size) 37 [(2, .int x2_3)] []) (fun x2_1 x3_2 nx4 ex4 hnx4 hex4 hf => ?_) (fun x2_3 hf => ?_) hf
  · refine J_iload_n hB dX2_timesMoved_4 rfl 3 rfl ?_
    refine J_aload_n hB dX2_timesMoved_5 rfl 0 rfl ?_
    refine J_get (v := .int size) hB inX2 0 rfl rfl 4 (Nat.le_of_ble_eq_true rfl) kf_X2_25 rfl dX2_timesMoved_6 ?_
    refine J_icmp_ge (tgt := 37) hB dX2_timesMoved_9 rfl (fun c_4 => ?_) (fun c_4 => ?_)
    · have hf := it_t c_4 hf
      exact J_lv [2] rfl (hex4 x2_1 hf)
    · have hf := it_f c_4 hf
      refine J_iload_n hB dX2_timesMoved_12 rfl 3 rfl ?_
      refine J_bipush (v := 60) hB dX2_timesMoved_13 rfl ?_
      refine J_icmp_ge (tgt := 37) hB dX2_timesMoved_15 rfl (fun c_5 => ?_) (fun c_5 => ?_)
      · have hf := it_t c_5 hf
        exact J_lv [2] rfl (hex4 x2_1 hf)
      · have hf := it_f c_5 hf
        refine J_aload_n hB dX2_timesMoved_18 rfl 0 rfl ?_
        refine J_get (v := .ref (a (b + 2))) hB inX2 0 rfl rfl 1 (Nat.le_of_ble_eq_true rfl) kf_X2_15 rfl dX2_timesMoved_19 ?_
        refine J_iload_n hB dX2_timesMoved_22 rfl 3 rfl ?_
        obtain ⟨v_6, ev_6, h_7, hf⟩ := ald_e hf
        refine J_iald hB 2 rfl ev_6 h_7 dX2_timesMoved_23 ?_
        refine J_iload_n hB dX2_timesMoved_24 rfl 1 rfl ?_
        refine jn1_e (P := fun x2_8 => J l E rX2_timesMoved Y (wPos E a b made movers row numbers size) 31 [(0, .ref (a b)), (1, .int p0), (2, .int x2_8), (3, .int x3_2)] []) hf (fun x2_8 hf => ?_) (fun j31 hj31 hf => ?_)
        · obtain ⟨x3_9, ex3_9, hf⟩ := nmv_e hf
          refine J_iinc (lv' := [(3, .int x3_9), (0, .ref (a b)), (1, .int p0), (2, .int x2_8)]) hB ex3_9 dX2_timesMoved_31 3 rfl (Nat.le_of_ble_eq_true rfl) rfl ?_
          refine J_goto (tgt := 4) hB dX2_timesMoved_34 rfl ?_
          exact J_lv [1, 2, 3, 0] rfl (hnx4 x2_8 x3_9 hf)
        · refine J_icmp_ne (tgt := 31) hB dX2_timesMoved_25 rfl (fun c_10 => ?_) (fun c_10 => ?_)
          · have hf := it_f c_10 hf
            exact J_lv [0, 1, 2, 3] rfl (hj31 x2_1 hf)
          · have hf := it_t c_10 hf
            obtain ⟨x2_11, ex2_11, hf⟩ := nmv_e hf
            refine J_iinc (lv' := [(2, .int x2_11), (0, .ref (a b)), (1, .int p0), (3, .int x3_2)]) hB ex2_11 dX2_timesMoved_28 2 rfl (Nat.le_of_ble_eq_true rfl) rfl ?_
            exact J_lv [1, 2, 0, 3] rfl (hj31 x2_11 hf)
  · refine J_iload_n hB dX2_timesMoved_37 rfl 0 rfl ?_
    obtain rfl := Option.some.inj hf
    exact J_iret hB hR dX2_timesMoved_38
def f_X2_copy_a (made : Nat → Int32) (movers : Nat → Int32) (row : Int32) (numbers : Int32) (size : Int32) (o_made : Nat → Int32) (o_movers : Nat → Int32) (o_row : Int32) (o_numbers : Int32) (o_size : Int32) : Option ((Nat → Int32) × (Nat → Int32) × Int32 × Int32 × Int32) :=
lp3_2 (fun (x2_1 : Int32) (made_2 : Nat → Int32) (movers_3 : Nat → Int32) nx26 ex26 =>
if o_size ≤ x2_1 then (
ex26 made_2 movers_3) else (
if 60 ≤ x2_1 then (
ex26 made_2 movers_3) else (
ald 60 o_made x2_1 fun v_8 =>
astI 60 made_2 x2_1 v_8 fun made_10 =>
ald 60 o_movers x2_1 fun v_12 =>
astI 60 movers_3 x2_1 v_12 fun movers_14 =>
nmv (α := Int32) (x2_1 + 1) fun x2_16 =>
nx26 x2_16 made_10 movers_14))) (fun (made_4 : Nat → Int32) (movers_5 : Nat → Int32) =>
some (made_4, movers_5, o_row, o_numbers, o_size)) fuel 0 made movers
abbrev rX2_copy_a : Room := { frames := 0, cells := 0, slots := 0, locals := 0 }
set_option maxRecDepth 100000 in
set_option maxHeartbeats 4000000 in
theorem c_X2_copy_a (l : Launch) (E : En) (a : Nat → Nat) (b c : Nat) (made : Nat → Int32) (movers : Nat → Int32) (row : Int32) (numbers : Int32) (size : Int32) (o_made : Nat → Int32) (o_movers : Nat → Int32) (o_row : Int32) (o_numbers : Int32) (o_size : Int32) {res : (Nat → Int32) × (Nat → Int32) × Int32 × Int32 × Int32} (hf : f_X2_copy_a made movers row numbers size o_made o_movers o_row o_numbers o_size = some res) : Ct l yX2_copy (.code yX2_copy cX2_copy 3 none) rX2_copy_a E [.ref (a b), .ref (a c)] (wPos2 E a b c made movers row numbers size o_made o_movers o_row o_numbers o_size) none (wPos2 E a b c res.1 res.2.1 res.2.2.1 res.2.2.2.1 res.2.2.2.2 o_made o_movers o_row o_numbers o_size) := by
  refine Ct.of (by decide) (Nat.le_of_ble_eq_true rfl) (fun Y hB hR => ?_)
  have hB : Cb E cX2_copy RX2 rX2_copy_a 3 Y := hB
  show J l E rX2_copy_a Y (wPos2 E a b c made movers row numbers size o_made o_movers o_row o_numbers o_size) 0 [(0, .ref (a b)), (1, .ref (a c))] []
  unfold f_X2_copy_a at hf
  refine J_aload_n hB dX2_copy_0 rfl 0 rfl ?_
  refine J_aload_n hB dX2_copy_1 rfl 1 rfl ?_
  refine J_get (v := .int o_row) hB inX2 3 rfl rfl 2 (Nat.le_of_ble_eq_true rfl) kf_X2_18 rfl dX2_copy_2 ?_
  refine J_put (ws' := wPos2 E a b c made movers o_row numbers size o_made o_movers o_row o_numbers o_size) (ty := .int) (v := .int o_row) hB inX2 tyX2 tyX2_ok nmX2 0 rfl rfl 2 (Nat.le_of_ble_eq_true rfl) kf_X2_18 rfl rfl rfl rfl (Nat.le_of_ble_eq_true rfl) dX2_copy_5 rfl ?_
  refine J_aload_n hB dX2_copy_8 rfl 0 rfl ?_
  refine J_aload_n hB dX2_copy_9 rfl 1 rfl ?_
  refine J_get (v := .int o_numbers) hB inX2 3 rfl rfl 3 (Nat.le_of_ble_eq_true rfl) kf_X2_22 rfl dX2_copy_10 ?_
  refine J_put (ws' := wPos2 E a b c made movers o_row o_numbers size o_made o_movers o_row o_numbers o_size) (ty := .int) (v := .int o_numbers) hB inX2 tyX2 tyX2_ok nmX2 0 rfl rfl 3 (Nat.le_of_ble_eq_true rfl) kf_X2_22 rfl rfl rfl rfl (Nat.le_of_ble_eq_true rfl) dX2_copy_13 rfl ?_
  refine J_aload_n hB dX2_copy_16 rfl 0 rfl ?_
  refine J_aload_n hB dX2_copy_17 rfl 1 rfl ?_
  refine J_get (v := .int o_size) hB inX2 3 rfl rfl 4 (Nat.le_of_ble_eq_true rfl) kf_X2_25 rfl dX2_copy_18 ?_
  refine J_put (ws' := wPos2 E a b c made movers o_row o_numbers o_size o_made o_movers o_row o_numbers o_size) (ty := .int) (v := .int o_size) hB inX2 tyX2 tyX2_ok nmX2 0 rfl rfl 4 (Nat.le_of_ble_eq_true rfl) kf_X2_25 rfl rfl rfl rfl (Nat.le_of_ble_eq_true rfl) dX2_copy_21 rfl ?_
  refine J_iconst (v := 0) hB dX2_copy_24 rfl ?_
  refine J_istore_n (lv' := [(2, .int 0), (0, .ref (a b)), (1, .ref (a c))]) hB rfl dX2_copy_25 rfl (Nat.le_of_ble_eq_true rfl) rfl ?_
  refine J_lv [1, 2, 0] rfl ?_
  refine lp3_2_J (P := fun x2_1 made_2 movers_3 => J l E rX2_copy_a Y (wPos2 E a b c made_2 movers_3 o_row o_numbers o_size o_made o_movers o_row o_numbers o_size) 26 [(0, .ref (a b)), (1, .ref (a c)), (2, .int x2_1)] []) (Q := fun made_4 movers_5 => J l E rX2_copy_a Y (wPos2 E a b c made_4 movers_5 o_row o_numbers o_size o_made o_movers o_row o_numbers o_size) 70 [] []) (fun x2_1 made_2 movers_3 nx26 ex26 hnx26 hex26 hf => ?_) (fun made_4 movers_5 hf => ?_) hf
  · refine J_iload_n hB dX2_copy_26 rfl 2 rfl ?_
    refine J_aload_n hB dX2_copy_27 rfl 0 rfl ?_
    refine J_get (v := .int o_size) hB inX2 0 rfl rfl 4 (Nat.le_of_ble_eq_true rfl) kf_X2_25 rfl dX2_copy_28 ?_
    refine J_icmp_ge (tgt := 70) hB dX2_copy_31 rfl (fun c_6 => ?_) (fun c_6 => ?_)
    · have hf := it_t c_6 hf
      exact J_lv [] rfl (hex26 made_2 movers_3 hf)
    · have hf := it_f c_6 hf
      refine J_iload_n hB dX2_copy_34 rfl 2 rfl ?_
      refine J_bipush (v := 60) hB dX2_copy_35 rfl ?_
      refine J_icmp_ge (tgt := 70) hB dX2_copy_37 rfl (fun c_7 => ?_) (fun c_7 => ?_)
      · have hf := it_t c_7 hf
        exact J_lv [] rfl (hex26 made_2 movers_3 hf)
      · have hf := it_f c_7 hf
        refine J_aload_n hB dX2_copy_40 rfl 0 rfl ?_
        refine J_get (v := .ref (a (b + 1))) hB inX2 0 rfl rfl 0 (Nat.le_of_ble_eq_true rfl) kf_X2_9 rfl dX2_copy_41 ?_
        refine J_iload_n hB dX2_copy_44 rfl 2 rfl ?_
        refine J_aload_n hB dX2_copy_45 rfl 1 rfl ?_
        refine J_get (v := .ref (a (c + 1))) hB inX2 3 rfl rfl 0 (Nat.le_of_ble_eq_true rfl) kf_X2_9 rfl dX2_copy_46 ?_
        refine J_iload_n hB dX2_copy_49 rfl 2 rfl ?_
        obtain ⟨v_8, ev_8, h_9, hf⟩ := ald_e hf
        refine J_iald hB 4 rfl ev_8 h_9 dX2_copy_50 ?_
        obtain ⟨made_10, emade_10, h_11, hf⟩ := astI_e hf
        refine J_iast (ws' := wPos2 E a b c made_10 movers_3 o_row o_numbers o_size o_made o_movers o_row o_numbers o_size) hB 1 rfl emade_10 h_11 dX2_copy_51 rfl ?_
        refine J_aload_n hB dX2_copy_52 rfl 0 rfl ?_
        refine J_get (v := .ref (a (b + 2))) hB inX2 0 rfl rfl 1 (Nat.le_of_ble_eq_true rfl) kf_X2_15 rfl dX2_copy_53 ?_
        refine J_iload_n hB dX2_copy_56 rfl 2 rfl ?_
        refine J_aload_n hB dX2_copy_57 rfl 1 rfl ?_
        refine J_get (v := .ref (a (c + 2))) hB inX2 3 rfl rfl 1 (Nat.le_of_ble_eq_true rfl) kf_X2_15 rfl dX2_copy_58 ?_
        refine J_iload_n hB dX2_copy_61 rfl 2 rfl ?_
        obtain ⟨v_12, ev_12, h_13, hf⟩ := ald_e hf
        refine J_iald hB 5 rfl ev_12 h_13 dX2_copy_62 ?_
        obtain ⟨movers_14, emovers_14, h_15, hf⟩ := astI_e hf
        refine J_iast (ws' := wPos2 E a b c made_10 movers_14 o_row o_numbers o_size o_made o_movers o_row o_numbers o_size) hB 2 rfl emovers_14 h_15 dX2_copy_63 rfl ?_
        obtain ⟨x2_16, ex2_16, hf⟩ := nmv_e hf
        refine J_iinc (lv' := [(2, .int x2_16), (0, .ref (a b)), (1, .ref (a c))]) hB ex2_16 dX2_copy_64 2 rfl (Nat.le_of_ble_eq_true rfl) rfl ?_
        refine J_goto (tgt := 26) hB dX2_copy_67 rfl ?_
        exact J_lv [1, 2, 0] rfl (hnx26 x2_16 made_10 movers_14 hf)
  · obtain rfl := Option.some.inj hf
    exact J_vret hB hR dX2_copy_70
def f_X2_copy_b (o_made : Nat → Int32) (o_movers : Nat → Int32) (o_row : Int32) (o_numbers : Int32) (o_size : Int32) (made : Nat → Int32) (movers : Nat → Int32) (row : Int32) (numbers : Int32) (size : Int32) : Option ((Nat → Int32) × (Nat → Int32) × Int32 × Int32 × Int32) :=
lp3_2 (fun (x2_1 : Int32) (made_2 : Nat → Int32) (movers_3 : Nat → Int32) nx26 ex26 =>
if o_size ≤ x2_1 then (
ex26 made_2 movers_3) else (
if 60 ≤ x2_1 then (
ex26 made_2 movers_3) else (
ald 60 o_made x2_1 fun v_8 =>
astI 60 made_2 x2_1 v_8 fun made_10 =>
ald 60 o_movers x2_1 fun v_12 =>
astI 60 movers_3 x2_1 v_12 fun movers_14 =>
nmv (α := Int32) (x2_1 + 1) fun x2_16 =>
nx26 x2_16 made_10 movers_14))) (fun (made_4 : Nat → Int32) (movers_5 : Nat → Int32) =>
some (made_4, movers_5, o_row, o_numbers, o_size)) fuel 0 made movers
abbrev rX2_copy_b : Room := { frames := 0, cells := 0, slots := 0, locals := 0 }
set_option maxRecDepth 100000 in
set_option maxHeartbeats 4000000 in
theorem c_X2_copy_b (l : Launch) (E : En) (a : Nat → Nat) (c b : Nat) (o_made : Nat → Int32) (o_movers : Nat → Int32) (o_row : Int32) (o_numbers : Int32) (o_size : Int32) (made : Nat → Int32) (movers : Nat → Int32) (row : Int32) (numbers : Int32) (size : Int32) {res : (Nat → Int32) × (Nat → Int32) × Int32 × Int32 × Int32} (hf : f_X2_copy_b o_made o_movers o_row o_numbers o_size made movers row numbers size = some res) : Ct l yX2_copy (.code yX2_copy cX2_copy 3 none) rX2_copy_b E [.ref (a b), .ref (a c)] (wPos2b E a c b o_made o_movers o_row o_numbers o_size made movers row numbers size) none (wPos2b E a c b o_made o_movers o_row o_numbers o_size res.1 res.2.1 res.2.2.1 res.2.2.2.1 res.2.2.2.2) := by
  refine Ct.of (by decide) (Nat.le_of_ble_eq_true rfl) (fun Y hB hR => ?_)
  have hB : Cb E cX2_copy RX2 rX2_copy_b 3 Y := hB
  show J l E rX2_copy_b Y (wPos2b E a c b o_made o_movers o_row o_numbers o_size made movers row numbers size) 0 [(0, .ref (a b)), (1, .ref (a c))] []
  unfold f_X2_copy_b at hf
  refine J_aload_n hB dX2_copy_0 rfl 0 rfl ?_
  refine J_aload_n hB dX2_copy_1 rfl 1 rfl ?_
  refine J_get (v := .int o_row) hB inX2 0 rfl rfl 2 (Nat.le_of_ble_eq_true rfl) kf_X2_18 rfl dX2_copy_2 ?_
  refine J_put (ws' := wPos2b E a c b o_made o_movers o_row o_numbers o_size made movers o_row numbers size) (ty := .int) (v := .int o_row) hB inX2 tyX2 tyX2_ok nmX2 3 rfl rfl 2 (Nat.le_of_ble_eq_true rfl) kf_X2_18 rfl rfl rfl rfl (Nat.le_of_ble_eq_true rfl) dX2_copy_5 rfl ?_
  refine J_aload_n hB dX2_copy_8 rfl 0 rfl ?_
  refine J_aload_n hB dX2_copy_9 rfl 1 rfl ?_
  refine J_get (v := .int o_numbers) hB inX2 0 rfl rfl 3 (Nat.le_of_ble_eq_true rfl) kf_X2_22 rfl dX2_copy_10 ?_
  refine J_put (ws' := wPos2b E a c b o_made o_movers o_row o_numbers o_size made movers o_row o_numbers size) (ty := .int) (v := .int o_numbers) hB inX2 tyX2 tyX2_ok nmX2 3 rfl rfl 3 (Nat.le_of_ble_eq_true rfl) kf_X2_22 rfl rfl rfl rfl (Nat.le_of_ble_eq_true rfl) dX2_copy_13 rfl ?_
  refine J_aload_n hB dX2_copy_16 rfl 0 rfl ?_
  refine J_aload_n hB dX2_copy_17 rfl 1 rfl ?_
  refine J_get (v := .int o_size) hB inX2 0 rfl rfl 4 (Nat.le_of_ble_eq_true rfl) kf_X2_25 rfl dX2_copy_18 ?_
  refine J_put (ws' := wPos2b E a c b o_made o_movers o_row o_numbers o_size made movers o_row o_numbers o_size) (ty := .int) (v := .int o_size) hB inX2 tyX2 tyX2_ok nmX2 3 rfl rfl 4 (Nat.le_of_ble_eq_true rfl) kf_X2_25 rfl rfl rfl rfl (Nat.le_of_ble_eq_true rfl) dX2_copy_21 rfl ?_
  refine J_iconst (v := 0) hB dX2_copy_24 rfl ?_
  refine J_istore_n (lv' := [(2, .int 0), (0, .ref (a b)), (1, .ref (a c))]) hB rfl dX2_copy_25 rfl (Nat.le_of_ble_eq_true rfl) rfl ?_
  refine J_lv [1, 2, 0] rfl ?_
  refine lp3_2_J (P := fun x2_1 made_2 movers_3 => J l E rX2_copy_b Y (wPos2b E a c b o_made o_movers o_row o_numbers o_size made_2 movers_3 o_row o_numbers o_size) 26 [(0, .ref (a b)), (1, .ref (a c)), (2, .int x2_1)] []) (Q := fun made_4 movers_5 => J l E rX2_copy_b Y (wPos2b E a c b o_made o_movers o_row o_numbers o_size made_4 movers_5 o_row o_numbers o_size) 70 [] []) (fun x2_1 made_2 movers_3 nx26 ex26 hnx26 hex26 hf => ?_) (fun made_4 movers_5 hf => ?_) hf
  · refine J_iload_n hB dX2_copy_26 rfl 2 rfl ?_
    refine J_aload_n hB dX2_copy_27 rfl 0 rfl ?_
    refine J_get (v := .int o_size) hB inX2 3 rfl rfl 4 (Nat.le_of_ble_eq_true rfl) kf_X2_25 rfl dX2_copy_28 ?_
    refine J_icmp_ge (tgt := 70) hB dX2_copy_31 rfl (fun c_6 => ?_) (fun c_6 => ?_)
    · have hf := it_t c_6 hf
      exact J_lv [] rfl (hex26 made_2 movers_3 hf)
    · have hf := it_f c_6 hf
      refine J_iload_n hB dX2_copy_34 rfl 2 rfl ?_
      refine J_bipush (v := 60) hB dX2_copy_35 rfl ?_
      refine J_icmp_ge (tgt := 70) hB dX2_copy_37 rfl (fun c_7 => ?_) (fun c_7 => ?_)
      · have hf := it_t c_7 hf
        exact J_lv [] rfl (hex26 made_2 movers_3 hf)
      · have hf := it_f c_7 hf
        refine J_aload_n hB dX2_copy_40 rfl 0 rfl ?_
        refine J_get (v := .ref (a (b + 1))) hB inX2 3 rfl rfl 0 (Nat.le_of_ble_eq_true rfl) kf_X2_9 rfl dX2_copy_41 ?_
        refine J_iload_n hB dX2_copy_44 rfl 2 rfl ?_
        refine J_aload_n hB dX2_copy_45 rfl 1 rfl ?_
        refine J_get (v := .ref (a (c + 1))) hB inX2 0 rfl rfl 0 (Nat.le_of_ble_eq_true rfl) kf_X2_9 rfl dX2_copy_46 ?_
        refine J_iload_n hB dX2_copy_49 rfl 2 rfl ?_
        obtain ⟨v_8, ev_8, h_9, hf⟩ := ald_e hf
        refine J_iald hB 1 rfl ev_8 h_9 dX2_copy_50 ?_
        obtain ⟨made_10, emade_10, h_11, hf⟩ := astI_e hf
        refine J_iast (ws' := wPos2b E a c b o_made o_movers o_row o_numbers o_size made_10 movers_3 o_row o_numbers o_size) hB 4 rfl emade_10 h_11 dX2_copy_51 rfl ?_
        refine J_aload_n hB dX2_copy_52 rfl 0 rfl ?_
        refine J_get (v := .ref (a (b + 2))) hB inX2 3 rfl rfl 1 (Nat.le_of_ble_eq_true rfl) kf_X2_15 rfl dX2_copy_53 ?_
        refine J_iload_n hB dX2_copy_56 rfl 2 rfl ?_
        refine J_aload_n hB dX2_copy_57 rfl 1 rfl ?_
        refine J_get (v := .ref (a (c + 2))) hB inX2 0 rfl rfl 1 (Nat.le_of_ble_eq_true rfl) kf_X2_15 rfl dX2_copy_58 ?_
        refine J_iload_n hB dX2_copy_61 rfl 2 rfl ?_
        obtain ⟨v_12, ev_12, h_13, hf⟩ := ald_e hf
        refine J_iald hB 2 rfl ev_12 h_13 dX2_copy_62 ?_
        obtain ⟨movers_14, emovers_14, h_15, hf⟩ := astI_e hf
        refine J_iast (ws' := wPos2b E a c b o_made o_movers o_row o_numbers o_size made_10 movers_14 o_row o_numbers o_size) hB 5 rfl emovers_14 h_15 dX2_copy_63 rfl ?_
        obtain ⟨x2_16, ex2_16, hf⟩ := nmv_e hf
        refine J_iinc (lv' := [(2, .int x2_16), (0, .ref (a b)), (1, .ref (a c))]) hB ex2_16 dX2_copy_64 2 rfl (Nat.le_of_ble_eq_true rfl) rfl ?_
        refine J_goto (tgt := 26) hB dX2_copy_67 rfl ?_
        exact J_lv [1, 2, 0] rfl (hnx26 x2_16 made_10 movers_14 hf)
  · obtain rfl := Option.some.inj hf
    exact J_vret hB hR dX2_copy_70
