def f_X1_codeIn (p0 : Int64) (p1 : Int32) : Option (Int32) :=
some ((Int64.toInt32 (UInt64.toInt64 (Int64.toUInt64 p0 >>> (Int64.toUInt64 (Int32.toInt64 ((8 : Int32) * p1)) &&& Int64.toUInt64 63)))) &&& (255 : Int32))
abbrev rX1_codeIn : Room := { frames := 0, cells := 0, slots := 0, locals := 0 }
set_option maxRecDepth 100000 in
set_option maxHeartbeats 4000000 in
theorem c_X1_codeIn (l : Launch) (E : En) (a : Nat → Nat) {p0 : Int64} {p1 : Int32} {res : Int32} (hf : f_X1_codeIn p0 p1 = some res) : Ct l yX1_codeIn (.code yX1_codeIn cX1_codeIn 3 (some .int)) rX1_codeIn E [.long p0, .int p1] ([]) (some (.int res)) ([]) := by
  refine Ct.of (by decide) (Nat.le_of_ble_eq_true rfl) (fun Y hB hR => ?_)
  have hB : Cb E cX1_codeIn RX1 rX1_codeIn 3 Y := hB
  show J l E rX1_codeIn Y [] 0 [(0, .long p0), (2, .int p1)] []
  unfold f_X1_codeIn at hf
  refine J_lload_n hB dX1_codeIn_0 rfl 0 rfl ?_
  refine J_bipush (v := 8) hB dX1_codeIn_1 rfl ?_
  refine J_iload_n hB dX1_codeIn_3 rfl 1 rfl ?_
  refine J_imul hB dX1_codeIn_4 ?_
  refine J_lushr hB dX1_codeIn_5 ?_
  refine J_l2i hB dX1_codeIn_6 ?_
  refine J_sipush (v := 255) hB dX1_codeIn_7 rfl ?_
  refine J_iand hB dX1_codeIn_10 ?_
  obtain rfl := Option.some.inj hf
  exact J_iret hB hR dX1_codeIn_11
def f_X1_lettersIn (p0 : Int64) : Option (Int32) :=
lp3_1 (fun (x2_1 : Int32) (x3_2 : Int32) (x4_3 : Int32) nx7 ex7 =>
if 8 ≤ x4_3 then (
ex7 x2_1) else (
cl1 (f_X1_codeIn p0 x4_3) fun r_6 =>
if 126 < r_6 then (
some ((-1))) else (
jn0 (
jn2 (fun (x2_9 : Int32) (x3_10 : Int32) =>
nmv (α := Int32) (x4_3 + 1) fun x4_11 =>
nx7 x2_9 x3_10 x4_11) fun j53 =>
if r_6 = 0 then (
j53 x2_1 1) else (
nmv (α := Int32) (x2_1 + 1) fun x2_13 =>
j53 x2_13 x3_2)) fun j40 =>
if x3_2 = 0 then (
j40) else (
if r_6 = 0 then (
j40) else (
some ((-1))))))) (fun (x2_4 : Int32) =>
some x2_4) fuel 0 0 0
abbrev rX1_lettersIn : Room := { frames := 1, cells := 0, slots := 0, locals := 22 }
set_option maxRecDepth 100000 in
set_option maxHeartbeats 4000000 in
theorem c_X1_lettersIn (l : Launch) (E : En) (a : Nat → Nat) {p0 : Int64} {res : Int32} (hf : f_X1_lettersIn p0 = some res) : Ct l yX1_lettersIn (.code yX1_lettersIn cX1_lettersIn 6 (some .int)) rX1_lettersIn E [.long p0] ([]) (some (.int res)) ([]) := by
  refine Ct.of (by decide) (Nat.le_of_ble_eq_true rfl) (fun Y hB hR => ?_)
  have hB : Cb E cX1_lettersIn RX1 rX1_lettersIn 6 Y := hB
  show J l E rX1_lettersIn Y [] 0 [(0, .long p0)] []
  unfold f_X1_lettersIn at hf
  refine J_iconst (v := 0) hB dX1_lettersIn_0 rfl ?_
  refine J_istore_n (lv' := [(2, .int 0), (0, .long p0)]) hB rfl dX1_lettersIn_1 rfl (Nat.le_of_ble_eq_true rfl) rfl ?_
  refine J_iconst (v := 0) hB dX1_lettersIn_2 rfl ?_
  refine J_istore_n (lv' := [(3, .int 0), (2, .int 0), (0, .long p0)]) hB rfl dX1_lettersIn_3 rfl (Nat.le_of_ble_eq_true rfl) rfl ?_
  refine J_iconst (v := 0) hB dX1_lettersIn_4 rfl ?_
  refine J_istore (lv' := [(4, .int 0), (3, .int 0), (2, .int 0), (0, .long p0)]) hB rfl dX1_lettersIn_5 (Nat.le_of_ble_eq_true rfl) rfl ?_
  refine J_lv [3, 2, 1, 0] rfl ?_
  refine lp3_1_J (P := fun x2_1 x3_2 x4_3 => J l E rX1_lettersIn Y [] 7 [(0, .long p0), (2, .int x2_1), (3, .int x3_2), (4, .int x4_3)] []) (Q := fun x2_4 => J l E rX1_lettersIn Y [] 59 [(2, .int x2_4)] []) (fun x2_1 x3_2 x4_3 nx7 ex7 hnx7 hex7 hf => ?_) (fun x2_4 hf => ?_) hf
  · refine J_iload hB dX1_lettersIn_7 3 rfl ?_
    refine J_bipush (v := 8) hB dX1_lettersIn_9 rfl ?_
    refine J_icmp_ge (tgt := 59) hB dX1_lettersIn_11 rfl (fun c_5 => ?_) (fun c_5 => ?_)
    · have hf := it_t c_5 hf
      exact J_lv [1] rfl (hex7 x2_1 hf)
    · have hf := it_f c_5 hf
      refine J_lload_n hB dX1_lettersIn_14 rfl 0 rfl ?_
      refine J_iload hB dX1_lettersIn_15 3 rfl ?_
      obtain ⟨r_6, h_7, hf⟩ := cl1_e hf
      refine J_callS (As := [.long p0, .int x4_3]) (rest := []) (n := 2) (ws' := []) hB (c_X1_codeIn l E a h_7) mi_X1_codeIn ks_X1_codeIn km_X1_15 ⟨rfl, rfl, Nat.le_of_ble_eq_true rfl, Nat.le_of_ble_eq_true rfl⟩ Lies.none rfl rfl (Nat.le_of_ble_eq_true rfl) dX1_lettersIn_17 ?_
      show J l E rX1_lettersIn Y [] 20 [(0, .long p0), (2, .int x2_1), (3, .int x3_2), (4, .int x4_3)] [.int r_6]
      refine J_istore (lv' := [(5, .int r_6), (0, .long p0), (2, .int x2_1), (3, .int x3_2), (4, .int x4_3)]) hB rfl dX1_lettersIn_20 (Nat.le_of_ble_eq_true rfl) rfl ?_
      refine J_iload hB dX1_lettersIn_22 0 rfl ?_
      refine J_bipush (v := 126) hB dX1_lettersIn_24 rfl ?_
      refine J_icmp_gt (tgt := 38) hB dX1_lettersIn_26 rfl (fun c_8 => ?_) (fun c_8 => ?_)
      · have hf := it_t c_8 hf
        refine J_iconst (v := (-1)) hB dX1_lettersIn_38 rfl ?_
        obtain rfl := Option.some.inj hf
        exact J_iret hB hR dX1_lettersIn_39
      · have hf := it_f c_8 hf
        refine J_iload_n hB dX1_lettersIn_29 rfl 3 rfl ?_
        refine jn0_e (P := J l E rX1_lettersIn Y [] 40 [(0, .long p0), (2, .int x2_1), (3, .int x3_2), (4, .int x4_3), (5, .int r_6)] []) hf (fun hf => ?_) (fun j40 hj40 hf => ?_)
        · refine J_iload hB dX1_lettersIn_40 4 rfl ?_
          refine jn2_e (P := fun x2_9 x3_10 => J l E rX1_lettersIn Y [] 53 [(0, .long p0), (2, .int x2_9), (3, .int x3_10), (4, .int x4_3)] []) hf (fun x2_9 x3_10 hf => ?_) (fun j53 hj53 hf => ?_)
          · obtain ⟨x4_11, ex4_11, hf⟩ := nmv_e hf
            refine J_iinc (lv' := [(4, .int x4_11), (0, .long p0), (2, .int x2_9), (3, .int x3_10)]) hB ex4_11 dX1_lettersIn_53 3 rfl (Nat.le_of_ble_eq_true rfl) rfl ?_
            refine J_goto (tgt := 7) hB dX1_lettersIn_56 rfl ?_
            exact J_lv [1, 2, 3, 0] rfl (hnx7 x2_9 x3_10 x4_11 hf)
          · refine J_if_ne (tgt := 50) hB dX1_lettersIn_42 rfl (fun c_12 => ?_) (fun c_12 => ?_)
            · have hf := it_f c_12 hf
              obtain ⟨x2_13, ex2_13, hf⟩ := nmv_e hf
              refine J_iinc (lv' := [(2, .int x2_13), (0, .long p0), (3, .int x3_2), (4, .int x4_3), (5, .int r_6)]) hB ex2_13 dX1_lettersIn_50 1 rfl (Nat.le_of_ble_eq_true rfl) rfl ?_
              exact J_lv [1, 0, 2, 3] rfl (hj53 x2_13 x3_2 hf)
            · have hf := it_t c_12 hf
              refine J_iconst (v := 1) hB dX1_lettersIn_45 rfl ?_
              refine J_istore_n (lv' := [(3, .int 1), (0, .long p0), (2, .int x2_1), (4, .int x4_3), (5, .int r_6)]) hB rfl dX1_lettersIn_46 rfl (Nat.le_of_ble_eq_true rfl) rfl ?_
              refine J_goto (tgt := 53) hB dX1_lettersIn_47 rfl ?_
              exact J_lv [1, 2, 0, 3] rfl (hj53 x2_1 1 hf)
        · refine J_if_eq (tgt := 40) hB dX1_lettersIn_30 rfl (fun c_14 => ?_) (fun c_14 => ?_)
          · have hf := it_t c_14 hf
            exact J_lv [1, 2, 3, 4, 0] rfl (hj40 hf)
          · have hf := it_f c_14 hf
            refine J_iload hB dX1_lettersIn_33 0 rfl ?_
            refine J_if_eq (tgt := 40) hB dX1_lettersIn_35 rfl (fun c_15 => ?_) (fun c_15 => ?_)
            · have hf := it_t c_15 hf
              exact J_lv [1, 2, 3, 4, 0] rfl (hj40 hf)
            · have hf := it_f c_15 hf
              refine J_iconst (v := (-1)) hB dX1_lettersIn_38 rfl ?_
              obtain rfl := Option.some.inj hf
              exact J_iret hB hR dX1_lettersIn_39
  · refine J_iload_n hB dX1_lettersIn_59 rfl 0 rfl ?_
    obtain rfl := Option.some.inj hf
    exact J_iret hB hR dX1_lettersIn_60
def f_X1_append (codes : Nat → Int32) (size : Int32) (p0 : Int64) (p1 : Int32) : Option ((Nat → Int32) × Int32) :=
lp3_2 (fun (x4_1 : Int32) (codes_2 : Nat → Int32) (size_3 : Int32) nx3 ex3 =>
if p1 ≤ x4_1 then (
ex3 codes_2 size_3) else (
if 14 ≤ size_3 then (
ex3 codes_2 size_3) else (
cl1 (f_X1_codeIn p0 x4_1) fun r_8 =>
astI 14 codes_2 size_3 r_8 fun codes_10 =>
nmv (α := Int32) (size_3 + (1 : Int32)) fun size_12 =>
nmv (α := Int32) (x4_1 + 1) fun x4_13 =>
nx3 x4_13 codes_10 size_12))) (fun (codes_4 : Nat → Int32) (size_5 : Int32) =>
some (codes_4, size_5)) fuel 0 codes size
abbrev rX1_append : Room := { frames := 1, cells := 0, slots := 0, locals := 22 }
set_option maxRecDepth 100000 in
set_option maxHeartbeats 4000000 in
theorem c_X1_append (l : Launch) (E : En) (a : Nat → Nat) (b : Nat) (codes : Nat → Int32) (size : Int32) {p0 : Int64} {p1 : Int32} {res : (Nat → Int32) × Int32} (hf : f_X1_append codes size p0 p1 = some res) : Ct l yX1_append (.code yX1_append cX1_append 5 none) rX1_append E [.ref (a b), .long p0, .int p1] (wPage E a b codes size) none (wPage E a b res.1 res.2) := by
  refine Ct.of (by decide) (Nat.le_of_ble_eq_true rfl) (fun Y hB hR => ?_)
  have hB : Cb E cX1_append RX1 rX1_append 5 Y := hB
  show J l E rX1_append Y (wPage E a b codes size) 0 [(0, .ref (a b)), (1, .long p0), (3, .int p1)] []
  unfold f_X1_append at hf
  refine J_iconst (v := 0) hB dX1_append_0 rfl ?_
  refine J_istore (lv' := [(4, .int 0), (0, .ref (a b)), (1, .long p0), (3, .int p1)]) hB rfl dX1_append_1 (Nat.le_of_ble_eq_true rfl) rfl ?_
  refine J_lv [1, 2, 3, 0] rfl ?_
  refine lp3_2_J (P := fun x4_1 codes_2 size_3 => J l E rX1_append Y (wPage E a b codes_2 size_3) 3 [(0, .ref (a b)), (1, .long p0), (3, .int p1), (4, .int x4_1)] []) (Q := fun codes_4 size_5 => J l E rX1_append Y (wPage E a b codes_4 size_5) 49 [] []) (fun x4_1 codes_2 size_3 nx3 ex3 hnx3 hex3 hf => ?_) (fun codes_4 size_5 hf => ?_) hf
  · refine J_iload hB dX1_append_3 3 rfl ?_
    refine J_iload_n hB dX1_append_5 rfl 2 rfl ?_
    refine J_icmp_ge (tgt := 49) hB dX1_append_6 rfl (fun c_6 => ?_) (fun c_6 => ?_)
    · have hf := it_t c_6 hf
      exact J_lv [] rfl (hex3 codes_2 size_3 hf)
    · have hf := it_f c_6 hf
      refine J_aload_n hB dX1_append_9 rfl 0 rfl ?_
      refine J_get (v := .int size_3) hB inX1 0 rfl rfl 1 (Nat.le_of_ble_eq_true rfl) kf_X1_19 rfl dX1_append_10 ?_
      refine J_bipush (v := 14) hB dX1_append_13 rfl ?_
      refine J_icmp_ge (tgt := 49) hB dX1_append_15 rfl (fun c_7 => ?_) (fun c_7 => ?_)
      · have hf := it_t c_7 hf
        exact J_lv [] rfl (hex3 codes_2 size_3 hf)
      · have hf := it_f c_7 hf
        refine J_aload_n hB dX1_append_18 rfl 0 rfl ?_
        refine J_get (v := .ref (a (b + 1))) hB inX1 0 rfl rfl 0 (Nat.le_of_ble_eq_true rfl) kf_X1_9 rfl dX1_append_19 ?_
        refine J_aload_n hB dX1_append_22 rfl 0 rfl ?_
        refine J_get (v := .int size_3) hB inX1 0 rfl rfl 1 (Nat.le_of_ble_eq_true rfl) kf_X1_19 rfl dX1_append_23 ?_
        refine J_lload_n hB dX1_append_26 rfl 1 rfl ?_
        refine J_iload hB dX1_append_27 3 rfl ?_
        obtain ⟨r_8, h_9, hf⟩ := cl1_e hf
        refine J_callS (As := [.long p0, .int x4_1]) (rest := [.int size_3, .ref (a (b + 1))]) (n := 2) (ws' := wPage E a b codes_2 size_3) hB (c_X1_codeIn l E a h_9) mi_X1_codeIn ks_X1_codeIn km_X1_15 ⟨rfl, rfl, Nat.le_of_ble_eq_true rfl, Nat.le_of_ble_eq_true rfl⟩ Lies.none rfl rfl (Nat.le_of_ble_eq_true rfl) dX1_append_29 ?_
        show J l E rX1_append Y (wPage E a b codes_2 size_3) 32 [(0, .ref (a b)), (1, .long p0), (3, .int p1), (4, .int x4_1)] [.int r_8, .int size_3, .ref (a (b + 1))]
        obtain ⟨codes_10, ecodes_10, h_11, hf⟩ := astI_e hf
        refine J_iast (ws' := wPage E a b codes_10 size_3) hB 1 rfl ecodes_10 h_11 dX1_append_32 rfl ?_
        refine J_aload_n hB dX1_append_33 rfl 0 rfl ?_
        refine J_dup hB dX1_append_34 rfl ?_
        refine J_get (v := .int size_3) hB inX1 0 rfl rfl 1 (Nat.le_of_ble_eq_true rfl) kf_X1_19 rfl dX1_append_35 ?_
        refine J_iconst (v := 1) hB dX1_append_38 rfl ?_
        refine J_iadd hB dX1_append_39 ?_
        obtain ⟨size_12, esize_12, hf⟩ := nmv_e hf
        rw [← esize_12]
        refine J_put (ws' := wPage E a b codes_10 size_12) (ty := .int) (v := .int size_12) hB inX1 tyX1 tyX1_ok nmX1 0 rfl rfl 1 (Nat.le_of_ble_eq_true rfl) kf_X1_19 rfl rfl rfl rfl (Nat.le_of_ble_eq_true rfl) dX1_append_40 rfl ?_
        obtain ⟨x4_13, ex4_13, hf⟩ := nmv_e hf
        refine J_iinc (lv' := [(4, .int x4_13), (0, .ref (a b)), (1, .long p0), (3, .int p1)]) hB ex4_13 dX1_append_43 3 rfl (Nat.le_of_ble_eq_true rfl) rfl ?_
        refine J_goto (tgt := 3) hB dX1_append_46 rfl ?_
        exact J_lv [1, 2, 3, 0] rfl (hnx3 x4_13 codes_10 size_12 hf)
  · obtain rfl := Option.some.inj hf
    exact J_vret hB hR dX1_append_49
def f_X1_kindOf (p0 : Int32) : Option (Int32) :=
if p0 = 46 then (
some 0) else
if p0 = 60 then (
some 2) else
if p0 = 62 then (
some 1) else
if p0 = 103 then (
some 4) else
if p0 = 111 then (
some 3) else
some ((-1))
abbrev rX1_kindOf : Room := { frames := 0, cells := 0, slots := 0, locals := 0 }
set_option maxRecDepth 100000 in
set_option maxHeartbeats 4000000 in
theorem c_X1_kindOf (l : Launch) (E : En) (a : Nat → Nat) {p0 : Int32} {res : Int32} (hf : f_X1_kindOf p0 = some res) : Ct l yX1_kindOf (.code yX1_kindOf cX1_kindOf 1 (some .int)) rX1_kindOf E [.int p0] ([]) (some (.int res)) ([]) := by
  refine Ct.of (by decide) (Nat.le_of_ble_eq_true rfl) (fun Y hB hR => ?_)
  have hB : Cb E cX1_kindOf RX1 rX1_kindOf 1 Y := hB
  show J l E rX1_kindOf Y [] 0 [(0, .int p0)] []
  unfold f_X1_kindOf at hf
  refine J_iload_n hB dX1_kindOf_0 rfl 0 rfl ?_
  refine by_c (p0 = 46) (fun c_1 => ?_) (fun c_1 => ?_)
  · have hf := it_t c_1 hf
    refine J_lsw (off := 51) (tgt := 52) hB dX1_kindOf_1 (by decide) (by rw [c_1]; decide +kernel) rfl ?_
    refine J_iconst (v := 0) hB dX1_kindOf_52 rfl ?_
    obtain rfl := Option.some.inj hf
    exact J_iret hB hR dX1_kindOf_53
  have hf := it_f c_1 hf
  refine by_c (p0 = 60) (fun c_2 => ?_) (fun c_2 => ?_)
  · have hf := it_t c_2 hf
    refine J_lsw (off := 55) (tgt := 56) hB dX1_kindOf_1 (by decide) (by rw [c_2]; decide +kernel) rfl ?_
    refine J_iconst (v := 2) hB dX1_kindOf_56 rfl ?_
    obtain rfl := Option.some.inj hf
    exact J_iret hB hR dX1_kindOf_57
  have hf := it_f c_2 hf
  refine by_c (p0 = 62) (fun c_3 => ?_) (fun c_3 => ?_)
  · have hf := it_t c_3 hf
    refine J_lsw (off := 53) (tgt := 54) hB dX1_kindOf_1 (by decide) (by rw [c_3]; decide +kernel) rfl ?_
    refine J_iconst (v := 1) hB dX1_kindOf_54 rfl ?_
    obtain rfl := Option.some.inj hf
    exact J_iret hB hR dX1_kindOf_55
  have hf := it_f c_3 hf
  refine by_c (p0 = 103) (fun c_4 => ?_) (fun c_4 => ?_)
  · have hf := it_t c_4 hf
    refine J_lsw (off := 59) (tgt := 60) hB dX1_kindOf_1 (by decide) (by rw [c_4]; decide +kernel) rfl ?_
    refine J_iconst (v := 4) hB dX1_kindOf_60 rfl ?_
    obtain rfl := Option.some.inj hf
    exact J_iret hB hR dX1_kindOf_61
  have hf := it_f c_4 hf
  refine by_c (p0 = 111) (fun c_5 => ?_) (fun c_5 => ?_)
  · have hf := it_t c_5 hf
    refine J_lsw (off := 57) (tgt := 58) hB dX1_kindOf_1 (by decide) (by rw [c_5]; decide +kernel) rfl ?_
    refine J_iconst (v := 3) hB dX1_kindOf_58 rfl ?_
    obtain rfl := Option.some.inj hf
    exact J_iret hB hR dX1_kindOf_59
  have hf := it_f c_5 hf
  refine J_lsw (tgt := 62) hB dX1_kindOf_1 (by decide) (lsw5 c_1 c_2 c_3 c_4 c_5) rfl ?_
  refine J_iconst (v := (-1)) hB dX1_kindOf_62 rfl ?_
  obtain rfl := Option.some.inj hf
  exact J_iret hB hR dX1_kindOf_63
def f_X1_signOf (p0 : Int32) : Option (Int32) :=
if p0 = 97 then (
some 0) else
if p0 = 98 then (
some 1) else
if p0 = 114 then (
some 2) else
if p0 = 116 then (
some 3) else
some ((-1))
abbrev rX1_signOf : Room := { frames := 0, cells := 0, slots := 0, locals := 0 }
set_option maxRecDepth 100000 in
set_option maxHeartbeats 4000000 in
theorem c_X1_signOf (l : Launch) (E : En) (a : Nat → Nat) {p0 : Int32} {res : Int32} (hf : f_X1_signOf p0 = some res) : Ct l yX1_signOf (.code yX1_signOf cX1_signOf 1 (some .int)) rX1_signOf E [.int p0] ([]) (some (.int res)) ([]) := by
  refine Ct.of (by decide) (Nat.le_of_ble_eq_true rfl) (fun Y hB hR => ?_)
  have hB : Cb E cX1_signOf RX1 rX1_signOf 1 Y := hB
  show J l E rX1_signOf Y [] 0 [(0, .int p0)] []
  unfold f_X1_signOf at hf
  refine J_iload_n hB dX1_signOf_0 rfl 0 rfl ?_
  refine by_c (p0 = 97) (fun c_1 => ?_) (fun c_1 => ?_)
  · have hf := it_t c_1 hf
    refine J_lsw (off := 43) (tgt := 44) hB dX1_signOf_1 (by decide) (by rw [c_1]; decide +kernel) rfl ?_
    refine J_iconst (v := 0) hB dX1_signOf_44 rfl ?_
    obtain rfl := Option.some.inj hf
    exact J_iret hB hR dX1_signOf_45
  have hf := it_f c_1 hf
  refine by_c (p0 = 98) (fun c_2 => ?_) (fun c_2 => ?_)
  · have hf := it_t c_2 hf
    refine J_lsw (off := 45) (tgt := 46) hB dX1_signOf_1 (by decide) (by rw [c_2]; decide +kernel) rfl ?_
    refine J_iconst (v := 1) hB dX1_signOf_46 rfl ?_
    obtain rfl := Option.some.inj hf
    exact J_iret hB hR dX1_signOf_47
  have hf := it_f c_2 hf
  refine by_c (p0 = 114) (fun c_3 => ?_) (fun c_3 => ?_)
  · have hf := it_t c_3 hf
    refine J_lsw (off := 47) (tgt := 48) hB dX1_signOf_1 (by decide) (by rw [c_3]; decide +kernel) rfl ?_
    refine J_iconst (v := 2) hB dX1_signOf_48 rfl ?_
    obtain rfl := Option.some.inj hf
    exact J_iret hB hR dX1_signOf_49
  have hf := it_f c_3 hf
  refine by_c (p0 = 116) (fun c_4 => ?_) (fun c_4 => ?_)
  · have hf := it_t c_4 hf
    refine J_lsw (off := 49) (tgt := 50) hB dX1_signOf_1 (by decide) (by rw [c_4]; decide +kernel) rfl ?_
    refine J_iconst (v := 3) hB dX1_signOf_50 rfl ?_
    obtain rfl := Option.some.inj hf
    exact J_iret hB hR dX1_signOf_51
  have hf := it_f c_4 hf
  refine J_lsw (tgt := 52) hB dX1_signOf_1 (by decide) (lsw4 c_1 c_2 c_3 c_4) rfl ?_
  refine J_iconst (v := (-1)) hB dX1_signOf_52 rfl ?_
  obtain rfl := Option.some.inj hf
  exact J_iret hB hR dX1_signOf_53
def f_X1_leadingStones (codes : Nat → Int32) (size : Int32) : Option (Int32) :=
lp1_1 (fun (x1_1 : Int32) nx2 ex2 =>
if size ≤ x1_1 then (
ex2 x1_1) else (
if 7 ≤ x1_1 then (
ex2 x1_1) else (
ald 14 codes x1_1 fun v_5 =>
cl1 (f_X1_kindOf v_5) fun r_7 =>
if r_7 = ((-1)) then (
ex2 x1_1) else (
nmv (α := Int32) (x1_1 + 1) fun x1_10 =>
nx2 x1_10)))) (fun (x1_2 : Int32) =>
some x1_2) fuel 0
abbrev rX1_leadingStones : Room := { frames := 1, cells := 0, slots := 0, locals := 20 }
set_option maxRecDepth 100000 in
set_option maxHeartbeats 4000000 in
theorem c_X1_leadingStones (l : Launch) (E : En) (a : Nat → Nat) (b : Nat) (codes : Nat → Int32) (size : Int32) {res : Int32} (hf : f_X1_leadingStones codes size = some res) : Ct l yX1_leadingStones (.code yX1_leadingStones cX1_leadingStones 2 (some .int)) rX1_leadingStones E [.ref (a b)] (wPage E a b codes size) (some (.int res)) (wPage E a b codes size) := by
  refine Ct.of (by decide) (Nat.le_of_ble_eq_true rfl) (fun Y hB hR => ?_)
  have hB : Cb E cX1_leadingStones RX1 rX1_leadingStones 2 Y := hB
  show J l E rX1_leadingStones Y (wPage E a b codes size) 0 [(0, .ref (a b))] []
  unfold f_X1_leadingStones at hf
  refine J_iconst (v := 0) hB dX1_leadingStones_0 rfl ?_
  refine J_istore_n (lv' := [(1, .int 0), (0, .ref (a b))]) hB rfl dX1_leadingStones_1 rfl (Nat.le_of_ble_eq_true rfl) rfl ?_
  refine J_lv [1, 0] rfl ?_
  refine lp1_1_J (P := fun x1_1 => J l E rX1_leadingStones Y (wPage E a b codes size) 2 [(0, .ref (a b)), (1, .int x1_1)] []) (Q := fun x1_2 => J l E rX1_leadingStones Y (wPage E a b codes size) 35 [(1, .int x1_2)] []) (fun x1_1 nx2 ex2 hnx2 hex2 hf => ?_) (fun x1_2 hf => ?_) hf
  · refine J_iload_n hB dX1_leadingStones_2 rfl 1 rfl ?_
    refine J_aload_n hB dX1_leadingStones_3 rfl 0 rfl ?_
    refine J_get (v := .int size) hB inX1 0 rfl rfl 1 (Nat.le_of_ble_eq_true rfl) kf_X1_19 rfl dX1_leadingStones_4 ?_
    refine J_icmp_ge (tgt := 35) hB dX1_leadingStones_7 rfl (fun c_3 => ?_) (fun c_3 => ?_)
    · have hf := it_t c_3 hf
      exact J_lv [1] rfl (hex2 x1_1 hf)
    · have hf := it_f c_3 hf
      refine J_iload_n hB dX1_leadingStones_10 rfl 1 rfl ?_
      refine J_bipush (v := 7) hB dX1_leadingStones_11 rfl ?_
      refine J_icmp_ge (tgt := 35) hB dX1_leadingStones_13 rfl (fun c_4 => ?_) (fun c_4 => ?_)
      · have hf := it_t c_4 hf
        exact J_lv [1] rfl (hex2 x1_1 hf)
      · have hf := it_f c_4 hf
        refine J_aload_n hB dX1_leadingStones_16 rfl 0 rfl ?_
        refine J_get (v := .ref (a (b + 1))) hB inX1 0 rfl rfl 0 (Nat.le_of_ble_eq_true rfl) kf_X1_9 rfl dX1_leadingStones_17 ?_
        refine J_iload_n hB dX1_leadingStones_20 rfl 1 rfl ?_
        obtain ⟨v_5, ev_5, h_6, hf⟩ := ald_e hf
        refine J_iald hB 1 rfl ev_5 h_6 dX1_leadingStones_21 ?_
        obtain ⟨r_7, h_8, hf⟩ := cl1_e hf
        refine J_callS (As := [.int v_5]) (rest := []) (n := 1) (ws' := wPage E a b codes size) hB (c_X1_kindOf l E a h_8) mi_X1_kindOf ks_X1_kindOf km_X1_23 ⟨rfl, rfl, Nat.le_of_ble_eq_true rfl, Nat.le_of_ble_eq_true rfl⟩ Lies.none rfl rfl (Nat.le_of_ble_eq_true rfl) dX1_leadingStones_22 ?_
        show J l E rX1_leadingStones Y (wPage E a b codes size) 25 [(0, .ref (a b)), (1, .int x1_1)] [.int r_7]
        refine J_iconst (v := (-1)) hB dX1_leadingStones_25 rfl ?_
        refine J_icmp_eq (tgt := 35) hB dX1_leadingStones_26 rfl (fun c_9 => ?_) (fun c_9 => ?_)
        · have hf := it_t c_9 hf
          exact J_lv [1] rfl (hex2 x1_1 hf)
        · have hf := it_f c_9 hf
          obtain ⟨x1_10, ex1_10, hf⟩ := nmv_e hf
          refine J_iinc (lv' := [(1, .int x1_10), (0, .ref (a b))]) hB ex1_10 dX1_leadingStones_29 1 rfl (Nat.le_of_ble_eq_true rfl) rfl ?_
          refine J_goto (tgt := 2) hB dX1_leadingStones_32 rfl ?_
          exact J_lv [1, 0] rfl (hnx2 x1_10 hf)
  · refine J_iload_n hB dX1_leadingStones_35 rfl 0 rfl ?_
    obtain rfl := Option.some.inj hf
    exact J_iret hB hR dX1_leadingStones_36
def f_X1_firstFault (codes : Nat → Int32) (size : Int32) : Option (Int32) :=
cl1 (f_X1_leadingStones codes size) fun r_1 =>
if r_1 < size then (
if r_1 < 3 then (
some r_1) else (
ald 14 codes r_1 fun v_5 =>
if v_5 = 59 then (
nmv (α := Int32) (r_1 + (1 : Int32)) fun x3_8 =>
lp2_0 (fun (x2_9 : Int32) (x3_10 : Int32) nx42 ex42 =>
if size ≤ x3_10 then (
ex42) else (
if 14 ≤ x3_10 then (
ex42) else (
ald 14 codes x3_10 fun v_13 =>
cl1 (f_X1_signOf v_13) fun r_15 =>
if x2_9 < r_15 then (
nmv (α := Int32) (x3_10 + 1) fun x3_18 =>
nx42 r_15 x3_18) else (
some x3_10)))) (
some size) fuel ((-1)) x3_8) else (
some r_1))) else (
some size)
abbrev rX1_firstFault : Room := { frames := 2, cells := 0, slots := 0, locals := 41 }
set_option maxRecDepth 100000 in
set_option maxHeartbeats 4000000 in
theorem c_X1_firstFault (l : Launch) (E : En) (a : Nat → Nat) (b : Nat) (codes : Nat → Int32) (size : Int32) {res : Int32} (hf : f_X1_firstFault codes size = some res) : Ct l yX1_firstFault (.code yX1_firstFault cX1_firstFault 5 (some .int)) rX1_firstFault E [.ref (a b)] (wPage E a b codes size) (some (.int res)) (wPage E a b codes size) := by
  refine Ct.of (by decide) (Nat.le_of_ble_eq_true rfl) (fun Y hB hR => ?_)
  have hB : Cb E cX1_firstFault RX1 rX1_firstFault 5 Y := hB
  show J l E rX1_firstFault Y (wPage E a b codes size) 0 [(0, .ref (a b))] []
  unfold f_X1_firstFault at hf
  refine J_aload_n hB dX1_firstFault_0 rfl 0 rfl ?_
  obtain ⟨r_1, h_2, hf⟩ := cl1_e hf
  refine J_callV (As := []) (rest := []) (n := 0) (ws' := wPage E a b codes size) hB (c_X1_leadingStones l E a b codes size h_2) mi_X1_leadingStones ⟨ki_X1_leadingStones, kv_X1_leadingStones⟩ km_X1_27 ⟨rfl, rfl, Nat.le_of_ble_eq_true rfl, Nat.le_of_ble_eq_true rfl⟩ Lies.same 0 rfl rfl rfl rfl (Nat.le_of_ble_eq_true rfl) dX1_firstFault_1 ?_
  show J l E rX1_firstFault Y (wPage E a b codes size) 4 [(0, .ref (a b))] [.int r_1]
  refine J_istore_n (lv' := [(1, .int r_1), (0, .ref (a b))]) hB rfl dX1_firstFault_4 rfl (Nat.le_of_ble_eq_true rfl) rfl ?_
  refine J_iload_n hB dX1_firstFault_5 rfl 0 rfl ?_
  refine J_aload_n hB dX1_firstFault_6 rfl 1 rfl ?_
  refine J_get (v := .int size) hB inX1 0 rfl rfl 1 (Nat.le_of_ble_eq_true rfl) kf_X1_19 rfl dX1_firstFault_7 ?_
  refine J_icmp_lt (tgt := 18) hB dX1_firstFault_10 rfl (fun c_3 => ?_) (fun c_3 => ?_)
  · have hf := it_t c_3 hf
    refine J_iload_n hB dX1_firstFault_18 rfl 0 rfl ?_
    refine J_iconst (v := 3) hB dX1_firstFault_19 rfl ?_
    refine J_icmp_lt (tgt := 34) hB dX1_firstFault_20 rfl (fun c_4 => ?_) (fun c_4 => ?_)
    · have hf := it_t c_4 hf
      refine J_iload_n hB dX1_firstFault_34 rfl 0 rfl ?_
      obtain rfl := Option.some.inj hf
      exact J_iret hB hR dX1_firstFault_35
    · have hf := it_f c_4 hf
      refine J_aload_n hB dX1_firstFault_23 rfl 1 rfl ?_
      refine J_get (v := .ref (a (b + 1))) hB inX1 0 rfl rfl 0 (Nat.le_of_ble_eq_true rfl) kf_X1_9 rfl dX1_firstFault_24 ?_
      refine J_iload_n hB dX1_firstFault_27 rfl 0 rfl ?_
      obtain ⟨v_5, ev_5, h_6, hf⟩ := ald_e hf
      refine J_iald hB 1 rfl ev_5 h_6 dX1_firstFault_28 ?_
      refine J_bipush (v := 59) hB dX1_firstFault_29 rfl ?_
      refine J_icmp_eq (tgt := 36) hB dX1_firstFault_31 rfl (fun c_7 => ?_) (fun c_7 => ?_)
      · have hf := it_t c_7 hf
        refine J_iconst (v := (-1)) hB dX1_firstFault_36 rfl ?_
        refine J_istore_n (lv' := [(2, .int ((-1))), (1, .int r_1), (0, .ref (a b))]) hB rfl dX1_firstFault_37 rfl (Nat.le_of_ble_eq_true rfl) rfl ?_
        refine J_iload_n hB dX1_firstFault_38 rfl 1 rfl ?_
        refine J_iconst (v := 1) hB dX1_firstFault_39 rfl ?_
        refine J_iadd hB dX1_firstFault_40 ?_
        obtain ⟨x3_8, ex3_8, hf⟩ := nmv_e hf
        refine J_istore_n (lv' := [(3, .int x3_8), (2, .int ((-1))), (1, .int r_1), (0, .ref (a b))]) hB ex3_8 dX1_firstFault_41 rfl (Nat.le_of_ble_eq_true rfl) rfl ?_
        refine J_lv [3, 1, 0] rfl ?_
        refine lp2_0_J (P := fun x2_9 x3_10 => J l E rX1_firstFault Y (wPage E a b codes size) 42 [(0, .ref (a b)), (2, .int x2_9), (3, .int x3_10)] []) (Q := J l E rX1_firstFault Y (wPage E a b codes size) 84 [(0, .ref (a b))] []) (fun x2_9 x3_10 nx42 ex42 hnx42 hex42 hf => ?_) (fun hf => ?_) hf
        · refine J_iload_n hB dX1_firstFault_42 rfl 2 rfl ?_
          refine J_aload_n hB dX1_firstFault_43 rfl 0 rfl ?_
          refine J_get (v := .int size) hB inX1 0 rfl rfl 1 (Nat.le_of_ble_eq_true rfl) kf_X1_19 rfl dX1_firstFault_44 ?_
          refine J_icmp_ge (tgt := 84) hB dX1_firstFault_47 rfl (fun c_11 => ?_) (fun c_11 => ?_)
          · have hf := it_t c_11 hf
            exact J_lv [0] rfl (hex42 hf)
          · have hf := it_f c_11 hf
            refine J_iload_n hB dX1_firstFault_50 rfl 2 rfl ?_
            refine J_bipush (v := 14) hB dX1_firstFault_51 rfl ?_
            refine J_icmp_ge (tgt := 84) hB dX1_firstFault_53 rfl (fun c_12 => ?_) (fun c_12 => ?_)
            · have hf := it_t c_12 hf
              exact J_lv [0] rfl (hex42 hf)
            · have hf := it_f c_12 hf
              refine J_aload_n hB dX1_firstFault_56 rfl 0 rfl ?_
              refine J_get (v := .ref (a (b + 1))) hB inX1 0 rfl rfl 0 (Nat.le_of_ble_eq_true rfl) kf_X1_9 rfl dX1_firstFault_57 ?_
              refine J_iload_n hB dX1_firstFault_60 rfl 2 rfl ?_
              obtain ⟨v_13, ev_13, h_14, hf⟩ := ald_e hf
              refine J_iald hB 1 rfl ev_13 h_14 dX1_firstFault_61 ?_
              obtain ⟨r_15, h_16, hf⟩ := cl1_e hf
              refine J_callS (As := [.int v_13]) (rest := []) (n := 1) (ws' := wPage E a b codes size) hB (c_X1_signOf l E a h_16) mi_X1_signOf ks_X1_signOf km_X1_31 ⟨rfl, rfl, Nat.le_of_ble_eq_true rfl, Nat.le_of_ble_eq_true rfl⟩ Lies.none rfl rfl (Nat.le_of_ble_eq_true rfl) dX1_firstFault_62 ?_
              show J l E rX1_firstFault Y (wPage E a b codes size) 65 [(0, .ref (a b)), (2, .int x2_9), (3, .int x3_10)] [.int r_15]
              refine J_istore (lv' := [(4, .int r_15), (0, .ref (a b)), (2, .int x2_9), (3, .int x3_10)]) hB rfl dX1_firstFault_65 (Nat.le_of_ble_eq_true rfl) rfl ?_
              refine J_iload hB dX1_firstFault_67 0 rfl ?_
              refine J_iload_n hB dX1_firstFault_69 rfl 2 rfl ?_
              refine J_icmp_gt (tgt := 75) hB dX1_firstFault_70 rfl (fun c_17 => ?_) (fun c_17 => ?_)
              · have hf := it_t c_17 hf
                refine J_iload hB dX1_firstFault_75 0 rfl ?_
                refine J_istore_n (lv' := [(2, .int r_15), (4, .int r_15), (0, .ref (a b)), (3, .int x3_10)]) hB rfl dX1_firstFault_77 rfl (Nat.le_of_ble_eq_true rfl) rfl ?_
                obtain ⟨x3_18, ex3_18, hf⟩ := nmv_e hf
                refine J_iinc (lv' := [(3, .int x3_18), (2, .int r_15), (4, .int r_15), (0, .ref (a b))]) hB ex3_18 dX1_firstFault_78 3 rfl (Nat.le_of_ble_eq_true rfl) rfl ?_
                refine J_goto (tgt := 42) hB dX1_firstFault_81 rfl ?_
                exact J_lv [3, 1, 0] rfl (hnx42 r_15 x3_18 hf)
              · have hf := it_f c_17 hf
                refine J_iload_n hB dX1_firstFault_73 rfl 3 rfl ?_
                obtain rfl := Option.some.inj hf
                exact J_iret hB hR dX1_firstFault_74
        · refine J_aload_n hB dX1_firstFault_84 rfl 0 rfl ?_
          refine J_get (v := .int size) hB inX1 0 rfl rfl 1 (Nat.le_of_ble_eq_true rfl) kf_X1_19 rfl dX1_firstFault_85 ?_
          obtain rfl := Option.some.inj hf
          exact J_iret hB hR dX1_firstFault_88
      · have hf := it_f c_7 hf
        refine J_iload_n hB dX1_firstFault_34 rfl 0 rfl ?_
        obtain rfl := Option.some.inj hf
        exact J_iret hB hR dX1_firstFault_35
  · have hf := it_f c_3 hf
    refine J_aload_n hB dX1_firstFault_13 rfl 1 rfl ?_
    refine J_get (v := .int size) hB inX1 0 rfl rfl 1 (Nat.le_of_ble_eq_true rfl) kf_X1_19 rfl dX1_firstFault_14 ?_
    obtain rfl := Option.some.inj hf
    exact J_iret hB hR dX1_firstFault_17
def f_X1_row (codes : Nat → Int32) (size : Int32) : Option (Int32) :=
cl1 (f_X1_leadingStones codes size) fun r_1 =>
lp2_1 (fun (x2_3 : Int32) (x3_4 : Int32) nx9 ex9 =>
if r_1 ≤ x3_4 then (
ex9 x2_3) else (
if 7 ≤ x3_4 then (
ex9 x2_3) else (
ald 14 codes x3_4 fun v_8 =>
cl1 (f_X1_kindOf v_8) fun r_10 =>
nmv (α := Int32) (x2_3 ||| (r_10 <<< (((3 : Int32) * x3_4) &&& 31))) fun x2_12 =>
nmv (α := Int32) (x3_4 + 1) fun x3_13 =>
nx9 x2_12 x3_13))) (fun (x2_5 : Int32) =>
some x2_5) fuel 0 0
abbrev rX1_row : Room := { frames := 2, cells := 0, slots := 0, locals := 41 }
set_option maxRecDepth 100000 in
set_option maxHeartbeats 4000000 in
theorem c_X1_row (l : Launch) (E : En) (a : Nat → Nat) (b : Nat) (codes : Nat → Int32) (size : Int32) {res : Int32} (hf : f_X1_row codes size = some res) : Ct l yX1_row (.code yX1_row cX1_row 4 (some .int)) rX1_row E [.ref (a b)] (wPage E a b codes size) (some (.int res)) (wPage E a b codes size) := by
  refine Ct.of (by decide) (Nat.le_of_ble_eq_true rfl) (fun Y hB hR => ?_)
  have hB : Cb E cX1_row RX1 rX1_row 4 Y := hB
  show J l E rX1_row Y (wPage E a b codes size) 0 [(0, .ref (a b))] []
  unfold f_X1_row at hf
  refine J_aload_n hB dX1_row_0 rfl 0 rfl ?_
  obtain ⟨r_1, h_2, hf⟩ := cl1_e hf
  refine J_callV (As := []) (rest := []) (n := 0) (ws' := wPage E a b codes size) hB (c_X1_leadingStones l E a b codes size h_2) mi_X1_leadingStones ⟨ki_X1_leadingStones, kv_X1_leadingStones⟩ km_X1_27 ⟨rfl, rfl, Nat.le_of_ble_eq_true rfl, Nat.le_of_ble_eq_true rfl⟩ Lies.same 0 rfl rfl rfl rfl (Nat.le_of_ble_eq_true rfl) dX1_row_1 ?_
  show J l E rX1_row Y (wPage E a b codes size) 4 [(0, .ref (a b))] [.int r_1]
  refine J_istore_n (lv' := [(1, .int r_1), (0, .ref (a b))]) hB rfl dX1_row_4 rfl (Nat.le_of_ble_eq_true rfl) rfl ?_
  refine J_iconst (v := 0) hB dX1_row_5 rfl ?_
  refine J_istore_n (lv' := [(2, .int 0), (1, .int r_1), (0, .ref (a b))]) hB rfl dX1_row_6 rfl (Nat.le_of_ble_eq_true rfl) rfl ?_
  refine J_iconst (v := 0) hB dX1_row_7 rfl ?_
  refine J_istore_n (lv' := [(3, .int 0), (2, .int 0), (1, .int r_1), (0, .ref (a b))]) hB rfl dX1_row_8 rfl (Nat.le_of_ble_eq_true rfl) rfl ?_
  refine J_lv [3, 2, 1, 0] rfl ?_
  refine lp2_1_J (P := fun x2_3 x3_4 => J l E rX1_row Y (wPage E a b codes size) 9 [(0, .ref (a b)), (1, .int r_1), (2, .int x2_3), (3, .int x3_4)] []) (Q := fun x2_5 => J l E rX1_row Y (wPage E a b codes size) 42 [(2, .int x2_5)] []) (fun x2_3 x3_4 nx9 ex9 hnx9 hex9 hf => ?_) (fun x2_5 hf => ?_) hf
  · refine J_iload_n hB dX1_row_9 rfl 3 rfl ?_
    refine J_iload_n hB dX1_row_10 rfl 1 rfl ?_
    refine J_icmp_ge (tgt := 42) hB dX1_row_11 rfl (fun c_6 => ?_) (fun c_6 => ?_)
    · have hf := it_t c_6 hf
      exact J_lv [2] rfl (hex9 x2_3 hf)
    · have hf := it_f c_6 hf
      refine J_iload_n hB dX1_row_14 rfl 3 rfl ?_
      refine J_bipush (v := 7) hB dX1_row_15 rfl ?_
      refine J_icmp_ge (tgt := 42) hB dX1_row_17 rfl (fun c_7 => ?_) (fun c_7 => ?_)
      · have hf := it_t c_7 hf
        exact J_lv [2] rfl (hex9 x2_3 hf)
      · have hf := it_f c_7 hf
        refine J_iload_n hB dX1_row_20 rfl 2 rfl ?_
        refine J_aload_n hB dX1_row_21 rfl 0 rfl ?_
        refine J_get (v := .ref (a (b + 1))) hB inX1 0 rfl rfl 0 (Nat.le_of_ble_eq_true rfl) kf_X1_9 rfl dX1_row_22 ?_
        refine J_iload_n hB dX1_row_25 rfl 3 rfl ?_
        obtain ⟨v_8, ev_8, h_9, hf⟩ := ald_e hf
        refine J_iald hB 1 rfl ev_8 h_9 dX1_row_26 ?_
        obtain ⟨r_10, h_11, hf⟩ := cl1_e hf
        refine J_callS (As := [.int v_8]) (rest := [.int x2_3]) (n := 1) (ws' := wPage E a b codes size) hB (c_X1_kindOf l E a h_11) mi_X1_kindOf ks_X1_kindOf km_X1_23 ⟨rfl, rfl, Nat.le_of_ble_eq_true rfl, Nat.le_of_ble_eq_true rfl⟩ Lies.none rfl rfl (Nat.le_of_ble_eq_true rfl) dX1_row_27 ?_
        show J l E rX1_row Y (wPage E a b codes size) 30 [(0, .ref (a b)), (1, .int r_1), (2, .int x2_3), (3, .int x3_4)] [.int r_10, .int x2_3]
        refine J_iconst (v := 3) hB dX1_row_30 rfl ?_
        refine J_iload_n hB dX1_row_31 rfl 3 rfl ?_
        refine J_imul hB dX1_row_32 ?_
        refine J_ishl hB dX1_row_33 ?_
        refine J_ior hB dX1_row_34 ?_
        obtain ⟨x2_12, ex2_12, hf⟩ := nmv_e hf
        refine J_istore_n (lv' := [(2, .int x2_12), (0, .ref (a b)), (1, .int r_1), (3, .int x3_4)]) hB ex2_12 dX1_row_35 rfl (Nat.le_of_ble_eq_true rfl) rfl ?_
        obtain ⟨x3_13, ex3_13, hf⟩ := nmv_e hf
        refine J_iinc (lv' := [(3, .int x3_13), (2, .int x2_12), (0, .ref (a b)), (1, .int r_1)]) hB ex3_13 dX1_row_36 3 rfl (Nat.le_of_ble_eq_true rfl) rfl ?_
        refine J_goto (tgt := 9) hB dX1_row_39 rfl ?_
        exact J_lv [2, 3, 1, 0] rfl (hnx9 x2_12 x3_13 hf)
  · refine J_iload_n hB dX1_row_42 rfl 0 rfl ?_
    obtain rfl := Option.some.inj hf
    exact J_iret hB hR dX1_row_43
def f_X1_tellsBrook (codes : Nat → Int32) (size : Int32) : Option (Int32) :=
cl1 (f_X1_leadingStones codes size) fun r_1 =>
jn1 (fun (s_3 : Int32) =>
if r_1 < 3 then (
some 0) else (
if s_3 = 0 then (
some 0) else (
cl1 (f_X1_firstFault codes size) fun r_6 =>
if r_6 = size then (
cl1 (f_X1_row codes size) fun r_9 =>
if r_9 = 0 then (
some 0) else (
some 1)) else (
some 0)))) fun j28 =>
jn0 (
j28 1) fun j23 =>
if size = r_1 then (
j23) else (
if size ≤ (r_1 + (1 : Int32)) then (
j28 0) else (
j23))
abbrev rX1_tellsBrook : Room := { frames := 3, cells := 0, slots := 0, locals := 65 }
set_option maxRecDepth 100000 in
set_option maxHeartbeats 4000000 in
theorem c_X1_tellsBrook (l : Launch) (E : En) (a : Nat → Nat) (b : Nat) (codes : Nat → Int32) (size : Int32) {res : Int32} (hf : f_X1_tellsBrook codes size = some res) : Ct l yX1_tellsBrook (.code yX1_tellsBrook cX1_tellsBrook 3 (some .boolean)) rX1_tellsBrook E [.ref (a b)] (wPage E a b codes size) (some (.int res)) (wPage E a b codes size) := by
  refine Ct.of (by decide) (Nat.le_of_ble_eq_true rfl) (fun Y hB hR => ?_)
  have hB : Cb E cX1_tellsBrook RX1 rX1_tellsBrook 3 Y := hB
  show J l E rX1_tellsBrook Y (wPage E a b codes size) 0 [(0, .ref (a b))] []
  unfold f_X1_tellsBrook at hf
  refine J_aload_n hB dX1_tellsBrook_0 rfl 0 rfl ?_
  obtain ⟨r_1, h_2, hf⟩ := cl1_e hf
  refine J_callV (As := []) (rest := []) (n := 0) (ws' := wPage E a b codes size) hB (c_X1_leadingStones l E a b codes size h_2) mi_X1_leadingStones ⟨ki_X1_leadingStones, kv_X1_leadingStones⟩ km_X1_27 ⟨rfl, rfl, Nat.le_of_ble_eq_true rfl, Nat.le_of_ble_eq_true rfl⟩ Lies.same 0 rfl rfl rfl rfl (Nat.le_of_ble_eq_true rfl) dX1_tellsBrook_1 ?_
  show J l E rX1_tellsBrook Y (wPage E a b codes size) 4 [(0, .ref (a b))] [.int r_1]
  refine J_istore_n (lv' := [(1, .int r_1), (0, .ref (a b))]) hB rfl dX1_tellsBrook_4 rfl (Nat.le_of_ble_eq_true rfl) rfl ?_
  refine J_aload_n hB dX1_tellsBrook_5 rfl 1 rfl ?_
  refine J_get (v := .int size) hB inX1 0 rfl rfl 1 (Nat.le_of_ble_eq_true rfl) kf_X1_19 rfl dX1_tellsBrook_6 ?_
  refine J_iload_n hB dX1_tellsBrook_9 rfl 0 rfl ?_
  refine jn1_e (P := fun s_3 => J l E rX1_tellsBrook Y (wPage E a b codes size) 28 [(0, .ref (a b)), (1, .int r_1)] [.int s_3]) hf (fun s_3 hf => ?_) (fun j28 hj28 hf => ?_)
  · refine J_istore_n (lv' := [(2, .int s_3), (0, .ref (a b)), (1, .int r_1)]) hB rfl dX1_tellsBrook_28 rfl (Nat.le_of_ble_eq_true rfl) rfl ?_
    refine J_iload_n hB dX1_tellsBrook_29 rfl 2 rfl ?_
    refine J_iconst (v := 3) hB dX1_tellsBrook_30 rfl ?_
    refine J_icmp_lt (tgt := 60) hB dX1_tellsBrook_31 rfl (fun c_4 => ?_) (fun c_4 => ?_)
    · have hf := it_t c_4 hf
      refine J_iconst (v := 0) hB dX1_tellsBrook_60 rfl ?_
      obtain rfl := Option.some.inj hf
      exact J_zret hB hR (Or.inl rfl) dX1_tellsBrook_61
    · have hf := it_f c_4 hf
      refine J_iload_n hB dX1_tellsBrook_34 rfl 0 rfl ?_
      refine J_if_eq (tgt := 60) hB dX1_tellsBrook_35 rfl (fun c_5 => ?_) (fun c_5 => ?_)
      · have hf := it_t c_5 hf
        refine J_iconst (v := 0) hB dX1_tellsBrook_60 rfl ?_
        obtain rfl := Option.some.inj hf
        exact J_zret hB hR (Or.inl rfl) dX1_tellsBrook_61
      · have hf := it_f c_5 hf
        refine J_aload_n hB dX1_tellsBrook_38 rfl 1 rfl ?_
        obtain ⟨r_6, h_7, hf⟩ := cl1_e hf
        refine J_callV (As := []) (rest := []) (n := 0) (ws' := wPage E a b codes size) hB (c_X1_firstFault l E a b codes size h_7) mi_X1_firstFault ⟨ki_X1_firstFault, kv_X1_firstFault⟩ km_X1_34 ⟨rfl, rfl, Nat.le_of_ble_eq_true rfl, Nat.le_of_ble_eq_true rfl⟩ Lies.same 0 rfl rfl rfl rfl (Nat.le_of_ble_eq_true rfl) dX1_tellsBrook_39 ?_
        show J l E rX1_tellsBrook Y (wPage E a b codes size) 42 [(2, .int s_3), (0, .ref (a b)), (1, .int r_1)] [.int r_6]
        refine J_aload_n hB dX1_tellsBrook_42 rfl 1 rfl ?_
        refine J_get (v := .int size) hB inX1 0 rfl rfl 1 (Nat.le_of_ble_eq_true rfl) kf_X1_19 rfl dX1_tellsBrook_43 ?_
        refine J_icmp_ne (tgt := 60) hB dX1_tellsBrook_46 rfl (fun c_8 => ?_) (fun c_8 => ?_)
        · have hf := it_f c_8 hf
          refine J_iconst (v := 0) hB dX1_tellsBrook_60 rfl ?_
          obtain rfl := Option.some.inj hf
          exact J_zret hB hR (Or.inl rfl) dX1_tellsBrook_61
        · have hf := it_t c_8 hf
          refine J_aload_n hB dX1_tellsBrook_49 rfl 1 rfl ?_
          obtain ⟨r_9, h_10, hf⟩ := cl1_e hf
          refine J_callV (As := []) (rest := []) (n := 0) (ws' := wPage E a b codes size) hB (c_X1_row l E a b codes size h_10) mi_X1_row ⟨ki_X1_row, kv_X1_row⟩ km_X1_37 ⟨rfl, rfl, Nat.le_of_ble_eq_true rfl, Nat.le_of_ble_eq_true rfl⟩ Lies.same 0 rfl rfl rfl rfl (Nat.le_of_ble_eq_true rfl) dX1_tellsBrook_50 ?_
          show J l E rX1_tellsBrook Y (wPage E a b codes size) 53 [(2, .int s_3), (0, .ref (a b)), (1, .int r_1)] [.int r_9]
          refine J_if_eq (tgt := 60) hB dX1_tellsBrook_53 rfl (fun c_11 => ?_) (fun c_11 => ?_)
          · have hf := it_t c_11 hf
            refine J_iconst (v := 0) hB dX1_tellsBrook_60 rfl ?_
            obtain rfl := Option.some.inj hf
            exact J_zret hB hR (Or.inl rfl) dX1_tellsBrook_61
          · have hf := it_f c_11 hf
            refine J_iconst (v := 1) hB dX1_tellsBrook_56 rfl ?_
            refine J_goto (tgt := 61) hB dX1_tellsBrook_57 rfl ?_
            obtain rfl := Option.some.inj hf
            exact J_zret hB hR (Or.inr rfl) dX1_tellsBrook_61
  · refine jn0_e (P := J l E rX1_tellsBrook Y (wPage E a b codes size) 23 [(0, .ref (a b)), (1, .int r_1)] []) hf (fun hf => ?_) (fun j23 hj23 hf => ?_)
    · refine J_iconst (v := 1) hB dX1_tellsBrook_23 rfl ?_
      refine J_goto (tgt := 28) hB dX1_tellsBrook_24 rfl ?_
      exact J_lv [0, 1] rfl (hj28 1 hf)
    · refine J_icmp_eq (tgt := 23) hB dX1_tellsBrook_10 rfl (fun c_12 => ?_) (fun c_12 => ?_)
      · have hf := it_t c_12 hf
        exact J_lv [1, 0] rfl (hj23 hf)
      · have hf := it_f c_12 hf
        refine J_aload_n hB dX1_tellsBrook_13 rfl 1 rfl ?_
        refine J_get (v := .int size) hB inX1 0 rfl rfl 1 (Nat.le_of_ble_eq_true rfl) kf_X1_19 rfl dX1_tellsBrook_14 ?_
        refine J_iload_n hB dX1_tellsBrook_17 rfl 0 rfl ?_
        refine J_iconst (v := 1) hB dX1_tellsBrook_18 rfl ?_
        refine J_iadd hB dX1_tellsBrook_19 ?_
        refine J_icmp_le (tgt := 27) hB dX1_tellsBrook_20 rfl (fun c_13 => ?_) (fun c_13 => ?_)
        · have hf := it_t c_13 hf
          refine J_iconst (v := 0) hB dX1_tellsBrook_27 rfl ?_
          exact J_lv [1, 0] rfl (hj28 0 hf)
        · have hf := it_f c_13 hf
          exact J_lv [1, 0] rfl (hj23 hf)
def f_X1_tellsRow (codes : Nat → Int32) (size : Int32) (p0 : Int32) : Option (Int32) :=
if size = p0 then (
cl1 (f_X1_leadingStones codes size) fun r_2 =>
if r_2 = p0 then (
some 1) else (
some 0)) else (
some 0)
abbrev rX1_tellsRow : Room := { frames := 2, cells := 0, slots := 0, locals := 41 }
set_option maxRecDepth 100000 in
set_option maxHeartbeats 4000000 in
theorem c_X1_tellsRow (l : Launch) (E : En) (a : Nat → Nat) (b : Nat) (codes : Nat → Int32) (size : Int32) {p0 : Int32} {res : Int32} (hf : f_X1_tellsRow codes size p0 = some res) : Ct l yX1_tellsRow (.code yX1_tellsRow cX1_tellsRow 2 (some .boolean)) rX1_tellsRow E [.ref (a b), .int p0] (wPage E a b codes size) (some (.int res)) (wPage E a b codes size) := by
  refine Ct.of (by decide) (Nat.le_of_ble_eq_true rfl) (fun Y hB hR => ?_)
  have hB : Cb E cX1_tellsRow RX1 rX1_tellsRow 2 Y := hB
  show J l E rX1_tellsRow Y (wPage E a b codes size) 0 [(0, .ref (a b)), (1, .int p0)] []
  unfold f_X1_tellsRow at hf
  refine J_aload_n hB dX1_tellsRow_0 rfl 0 rfl ?_
  refine J_get (v := .int size) hB inX1 0 rfl rfl 1 (Nat.le_of_ble_eq_true rfl) kf_X1_19 rfl dX1_tellsRow_1 ?_
  refine J_iload_n hB dX1_tellsRow_4 rfl 1 rfl ?_
  refine J_icmp_ne (tgt := 20) hB dX1_tellsRow_5 rfl (fun c_1 => ?_) (fun c_1 => ?_)
  · have hf := it_f c_1 hf
    refine J_iconst (v := 0) hB dX1_tellsRow_20 rfl ?_
    obtain rfl := Option.some.inj hf
    exact J_zret hB hR (Or.inl rfl) dX1_tellsRow_21
  · have hf := it_t c_1 hf
    refine J_aload_n hB dX1_tellsRow_8 rfl 0 rfl ?_
    obtain ⟨r_2, h_3, hf⟩ := cl1_e hf
    refine J_callV (As := []) (rest := []) (n := 0) (ws' := wPage E a b codes size) hB (c_X1_leadingStones l E a b codes size h_3) mi_X1_leadingStones ⟨ki_X1_leadingStones, kv_X1_leadingStones⟩ km_X1_27 ⟨rfl, rfl, Nat.le_of_ble_eq_true rfl, Nat.le_of_ble_eq_true rfl⟩ Lies.same 0 rfl rfl rfl rfl (Nat.le_of_ble_eq_true rfl) dX1_tellsRow_9 ?_
    show J l E rX1_tellsRow Y (wPage E a b codes size) 12 [(0, .ref (a b)), (1, .int p0)] [.int r_2]
    refine J_iload_n hB dX1_tellsRow_12 rfl 1 rfl ?_
    refine J_icmp_ne (tgt := 20) hB dX1_tellsRow_13 rfl (fun c_4 => ?_) (fun c_4 => ?_)
    · have hf := it_f c_4 hf
      refine J_iconst (v := 0) hB dX1_tellsRow_20 rfl ?_
      obtain rfl := Option.some.inj hf
      exact J_zret hB hR (Or.inl rfl) dX1_tellsRow_21
    · have hf := it_t c_4 hf
      refine J_iconst (v := 1) hB dX1_tellsRow_16 rfl ?_
      refine J_goto (tgt := 21) hB dX1_tellsRow_17 rfl ?_
      obtain rfl := Option.some.inj hf
      exact J_zret hB hR (Or.inr rfl) dX1_tellsRow_21
def f_X1_signs (codes : Nat → Int32) (size : Int32) : Option (Int32) :=
cl1 (f_X1_leadingStones codes size) fun r_1 =>
nmv (α := Int32) (r_1 + (1 : Int32)) fun x2_3 =>
lp2_1 (fun (x1_4 : Int32) (x2_5 : Int32) nx9 ex9 =>
if size ≤ x2_5 then (
ex9 x1_4) else (
if 14 ≤ x2_5 then (
ex9 x1_4) else (
ald 14 codes x2_5 fun v_9 =>
cl1 (f_X1_signOf v_9) fun r_11 =>
jn1 (fun (x1_13 : Int32) =>
nmv (α := Int32) (x2_5 + 1) fun x2_14 =>
nx9 x1_13 x2_14) fun j44 =>
if r_11 = ((-1)) then (
j44 x1_4) else (
nmv (α := Int32) (x1_4 ||| ((1 : Int32) <<< (r_11 &&& 31))) fun x1_16 =>
j44 x1_16)))) (fun (x1_6 : Int32) =>
some x1_6) fuel 0 x2_3
abbrev rX1_signs : Room := { frames := 2, cells := 0, slots := 0, locals := 41 }
set_option maxRecDepth 100000 in
set_option maxHeartbeats 4000000 in
theorem c_X1_signs (l : Launch) (E : En) (a : Nat → Nat) (b : Nat) (codes : Nat → Int32) (size : Int32) {res : Int32} (hf : f_X1_signs codes size = some res) : Ct l yX1_signs (.code yX1_signs cX1_signs 4 (some .int)) rX1_signs E [.ref (a b)] (wPage E a b codes size) (some (.int res)) (wPage E a b codes size) := by
  refine Ct.of (by decide) (Nat.le_of_ble_eq_true rfl) (fun Y hB hR => ?_)
  have hB : Cb E cX1_signs RX1 rX1_signs 4 Y := hB
  show J l E rX1_signs Y (wPage E a b codes size) 0 [(0, .ref (a b))] []
  unfold f_X1_signs at hf
  refine J_iconst (v := 0) hB dX1_signs_0 rfl ?_
  refine J_istore_n (lv' := [(1, .int 0), (0, .ref (a b))]) hB rfl dX1_signs_1 rfl (Nat.le_of_ble_eq_true rfl) rfl ?_
  refine J_aload_n hB dX1_signs_2 rfl 1 rfl ?_
  obtain ⟨r_1, h_2, hf⟩ := cl1_e hf
  refine J_callV (As := []) (rest := []) (n := 0) (ws' := wPage E a b codes size) hB (c_X1_leadingStones l E a b codes size h_2) mi_X1_leadingStones ⟨ki_X1_leadingStones, kv_X1_leadingStones⟩ km_X1_27 ⟨rfl, rfl, Nat.le_of_ble_eq_true rfl, Nat.le_of_ble_eq_true rfl⟩ Lies.same 0 rfl rfl rfl rfl (Nat.le_of_ble_eq_true rfl) dX1_signs_3 ?_
  show J l E rX1_signs Y (wPage E a b codes size) 6 [(1, .int 0), (0, .ref (a b))] [.int r_1]
  refine J_iconst (v := 1) hB dX1_signs_6 rfl ?_
  refine J_iadd hB dX1_signs_7 ?_
  obtain ⟨x2_3, ex2_3, hf⟩ := nmv_e hf
  refine J_istore_n (lv' := [(2, .int x2_3), (1, .int 0), (0, .ref (a b))]) hB ex2_3 dX1_signs_8 rfl (Nat.le_of_ble_eq_true rfl) rfl ?_
  refine J_lv [2, 1, 0] rfl ?_
  refine lp2_1_J (P := fun x1_4 x2_5 => J l E rX1_signs Y (wPage E a b codes size) 9 [(0, .ref (a b)), (1, .int x1_4), (2, .int x2_5)] []) (Q := fun x1_6 => J l E rX1_signs Y (wPage E a b codes size) 50 [(1, .int x1_6)] []) (fun x1_4 x2_5 nx9 ex9 hnx9 hex9 hf => ?_) (fun x1_6 hf => ?_) hf
  · refine J_iload_n hB dX1_signs_9 rfl 2 rfl ?_
    refine J_aload_n hB dX1_signs_10 rfl 0 rfl ?_
    refine J_get (v := .int size) hB inX1 0 rfl rfl 1 (Nat.le_of_ble_eq_true rfl) kf_X1_19 rfl dX1_signs_11 ?_
    refine J_icmp_ge (tgt := 50) hB dX1_signs_14 rfl (fun c_7 => ?_) (fun c_7 => ?_)
    · have hf := it_t c_7 hf
      exact J_lv [1] rfl (hex9 x1_4 hf)
    · have hf := it_f c_7 hf
      refine J_iload_n hB dX1_signs_17 rfl 2 rfl ?_
      refine J_bipush (v := 14) hB dX1_signs_18 rfl ?_
      refine J_icmp_ge (tgt := 50) hB dX1_signs_20 rfl (fun c_8 => ?_) (fun c_8 => ?_)
      · have hf := it_t c_8 hf
        exact J_lv [1] rfl (hex9 x1_4 hf)
      · have hf := it_f c_8 hf
        refine J_aload_n hB dX1_signs_23 rfl 0 rfl ?_
        refine J_get (v := .ref (a (b + 1))) hB inX1 0 rfl rfl 0 (Nat.le_of_ble_eq_true rfl) kf_X1_9 rfl dX1_signs_24 ?_
        refine J_iload_n hB dX1_signs_27 rfl 2 rfl ?_
        obtain ⟨v_9, ev_9, h_10, hf⟩ := ald_e hf
        refine J_iald hB 1 rfl ev_9 h_10 dX1_signs_28 ?_
        obtain ⟨r_11, h_12, hf⟩ := cl1_e hf
        refine J_callS (As := [.int v_9]) (rest := []) (n := 1) (ws' := wPage E a b codes size) hB (c_X1_signOf l E a h_12) mi_X1_signOf ks_X1_signOf km_X1_31 ⟨rfl, rfl, Nat.le_of_ble_eq_true rfl, Nat.le_of_ble_eq_true rfl⟩ Lies.none rfl rfl (Nat.le_of_ble_eq_true rfl) dX1_signs_29 ?_
        show J l E rX1_signs Y (wPage E a b codes size) 32 [(0, .ref (a b)), (1, .int x1_4), (2, .int x2_5)] [.int r_11]
        refine J_istore_n (lv' := [(3, .int r_11), (0, .ref (a b)), (1, .int x1_4), (2, .int x2_5)]) hB rfl dX1_signs_32 rfl (Nat.le_of_ble_eq_true rfl) rfl ?_
        refine J_iload_n hB dX1_signs_33 rfl 0 rfl ?_
        refine J_iconst (v := (-1)) hB dX1_signs_34 rfl ?_
        refine jn1_e (P := fun x1_13 => J l E rX1_signs Y (wPage E a b codes size) 44 [(0, .ref (a b)), (1, .int x1_13), (2, .int x2_5)] []) hf (fun x1_13 hf => ?_) (fun j44 hj44 hf => ?_)
        · obtain ⟨x2_14, ex2_14, hf⟩ := nmv_e hf
          refine J_iinc (lv' := [(2, .int x2_14), (0, .ref (a b)), (1, .int x1_13)]) hB ex2_14 dX1_signs_44 2 rfl (Nat.le_of_ble_eq_true rfl) rfl ?_
          refine J_goto (tgt := 9) hB dX1_signs_47 rfl ?_
          exact J_lv [1, 2, 0] rfl (hnx9 x1_13 x2_14 hf)
        · refine J_icmp_eq (tgt := 44) hB dX1_signs_35 rfl (fun c_15 => ?_) (fun c_15 => ?_)
          · have hf := it_t c_15 hf
            exact J_lv [1, 2, 3] rfl (hj44 x1_4 hf)
          · have hf := it_f c_15 hf
            refine J_iload_n hB dX1_signs_38 rfl 2 rfl ?_
            refine J_iconst (v := 1) hB dX1_signs_39 rfl ?_
            refine J_iload_n hB dX1_signs_40 rfl 0 rfl ?_
            refine J_ishl hB dX1_signs_41 ?_
            refine J_ior hB dX1_signs_42 ?_
            obtain ⟨x1_16, ex1_16, hf⟩ := nmv_e hf
            refine J_istore_n (lv' := [(1, .int x1_16), (3, .int r_11), (0, .ref (a b)), (2, .int x2_5)]) hB ex1_16 dX1_signs_43 rfl (Nat.le_of_ble_eq_true rfl) rfl ?_
            exact J_lv [2, 0, 3] rfl (hj44 x1_16 hf)
  · refine J_iload_n hB dX1_signs_50 rfl 0 rfl ?_
    obtain rfl := Option.some.inj hf
    exact J_iret hB hR dX1_signs_51
