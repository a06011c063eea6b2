def f_X4_has (signs : Int32) (p0 : Int32) : Option (Int32) :=
if ((signs >>> (p0 &&& 31)) &&& (1 : Int32)) = 1 then (
some 1) else (
some 0)
abbrev rX4_has : Room := { frames := 0, cells := 0, slots := 0, locals := 0 }
set_option maxRecDepth 100000 in
set_option maxHeartbeats 4000000 in
theorem c_X4_has (l : Launch) (E : En) (a : Nat → Nat) (b : Nat) (stones : Int32) (signs : Int32) (any : Int32) (back : Int32) (ring : Int32) (two : Int32) {p0 : Int32} {res : Int32} (hf : f_X4_has signs p0 = some res) : Ct l yX4_has (.code yX4_has cX4_has 2 (some .boolean)) rX4_has E [.ref (a b), .int p0] (wRules E a b stones signs any back ring two) (some (.int res)) (wRules E a b stones signs any back ring two) := by
  refine Ct.of (by decide) (Nat.le_of_ble_eq_true rfl) (fun Y hB hR => ?_)
  have hB : Cb E cX4_has RX4 rX4_has 2 Y := hB
  show J l E rX4_has Y (wRules E a b stones signs any back ring two) 0 [(0, .ref (a b)), (1, .int p0)] []
  unfold f_X4_has at hf
  refine J_aload_n hB dX4_has_0 rfl 0 rfl ?_
  refine J_get (v := .int signs) hB inX4 0 rfl rfl 1 (Nat.le_of_ble_eq_true rfl) kf_X4_15 rfl dX4_has_1 ?_
  refine J_iload_n hB dX4_has_4 rfl 1 rfl ?_
  refine J_ishr hB dX4_has_5 ?_
  refine J_iconst (v := 1) hB dX4_has_6 rfl ?_
  refine J_iand hB dX4_has_7 ?_
  refine J_iconst (v := 1) hB dX4_has_8 rfl ?_
  refine J_icmp_ne (tgt := 16) hB dX4_has_9 rfl (fun c_1 => ?_) (fun c_1 => ?_)
  · have hf := it_f c_1 hf
    refine J_iconst (v := 0) hB dX4_has_16 rfl ?_
    obtain rfl := Option.some.inj hf
    exact J_zret hB hR (Or.inl rfl) dX4_has_17
  · have hf := it_t c_1 hf
    refine J_iconst (v := 1) hB dX4_has_12 rfl ?_
    refine J_goto (tgt := 17) hB dX4_has_13 rfl ?_
    obtain rfl := Option.some.inj hf
    exact J_zret hB hR (Or.inr rfl) dX4_has_17
def f_X4_set (stones : Int32) (signs : Int32) (any : Int32) (back : Int32) (ring : Int32) (two : Int32) (p0 : Int32) (p1 : Int32) : Option (Int32 × Int32 × Int32 × Int32 × Int32 × Int32) :=
cl1 (f_X4_has p1 0) fun r_1 =>
gz r_1 fun _ =>
cl1 (f_X4_has p1 1) fun r_4 =>
gz r_4 fun _ =>
cl1 (f_X4_has p1 2) fun r_7 =>
gz r_7 fun _ =>
cl1 (f_X4_has p1 3) fun r_10 =>
gz r_10 fun _ =>
some (p0, p1, r_1, r_4, r_7, r_10)
abbrev rX4_set : Room := { frames := 1, cells := 0, slots := 0, locals := 21 }
set_option maxRecDepth 100000 in
set_option maxHeartbeats 4000000 in
theorem c_X4_set (l : Launch) (E : En) (a : Nat → Nat) (b : Nat) (stones : Int32) (signs : Int32) (any : Int32) (back : Int32) (ring : Int32) (two : Int32) {p0 : Int32} {p1 : Int32} {res : Int32 × Int32 × Int32 × Int32 × Int32 × Int32} (hf : f_X4_set stones signs any back ring two p0 p1 = some res) : Ct l yX4_set (.code yX4_set cX4_set 3 none) rX4_set E [.ref (a b), .int p0, .int p1] (wRules E a b stones signs any back ring two) none (wRules E a b res.1 res.2.1 res.2.2.1 res.2.2.2.1 res.2.2.2.2.1 res.2.2.2.2.2) := by
  refine Ct.of (by decide) (Nat.le_of_ble_eq_true rfl) (fun Y hB hR => ?_)
  have hB : Cb E cX4_set RX4 rX4_set 3 Y := hB
  show J l E rX4_set Y (wRules E a b stones signs any back ring two) 0 [(0, .ref (a b)), (1, .int p0), (2, .int p1)] []
  unfold f_X4_set at hf
  refine J_aload_n hB dX4_set_0 rfl 0 rfl ?_
  refine J_iload_n hB dX4_set_1 rfl 1 rfl ?_
  refine J_put (ws' := wRules E a b p0 signs any back ring two) (ty := .int) (v := .int p0) hB inX4 tyX4 tyX4_ok nmX4 0 rfl rfl 0 (Nat.le_of_ble_eq_true rfl) kf_X4_9 rfl rfl rfl rfl (Nat.le_of_ble_eq_true rfl) dX4_set_2 rfl ?_
  refine J_aload_n hB dX4_set_5 rfl 0 rfl ?_
  refine J_iload_n hB dX4_set_6 rfl 2 rfl ?_
  refine J_put (ws' := wRules E a b p0 p1 any back ring two) (ty := .int) (v := .int p1) hB inX4 tyX4 tyX4_ok nmX4 0 rfl rfl 1 (Nat.le_of_ble_eq_true rfl) kf_X4_15 rfl rfl rfl rfl (Nat.le_of_ble_eq_true rfl) dX4_set_7 rfl ?_
  refine J_aload_n hB dX4_set_10 rfl 0 rfl ?_
  refine J_aload_n hB dX4_set_11 rfl 0 rfl ?_
  refine J_iconst (v := 0) hB dX4_set_12 rfl ?_
  obtain ⟨r_1, h_2, hf⟩ := cl1_e hf
  refine J_callV (As := [.int 0]) (rest := [.ref (a b)]) (n := 1) (ws' := wRules E a b p0 p1 any back ring two) hB (c_X4_has l E a b p0 p1 any back ring two h_2) mi_X4_has ⟨ki_X4_has, kv_X4_has⟩ km_X4_18 ⟨rfl, rfl, Nat.le_of_ble_eq_true rfl, Nat.le_of_ble_eq_true rfl⟩ Lies.same 0 rfl rfl rfl rfl (Nat.le_of_ble_eq_true rfl) dX4_set_13 ?_
  show J l E rX4_set Y (wRules E a b p0 p1 any back ring two) 16 [(0, .ref (a b)), (1, .int p0), (2, .int p1)] [.int r_1, .ref (a b)]
  obtain ⟨h_3, hf⟩ := gz_e hf
  refine J_put (ws' := wRules E a b p0 p1 r_1 back ring two) (ty := .boolean) (v := .int r_1) hB inX4 tyX4 tyX4_ok nmX4 0 rfl rfl 2 (Nat.le_of_ble_eq_true rfl) kf_X4_22 rfl rfl (nar_z h_3) (fit_z h_3) (Nat.le_of_ble_eq_true rfl) dX4_set_16 rfl ?_
  refine J_aload_n hB dX4_set_19 rfl 0 rfl ?_
  refine J_aload_n hB dX4_set_20 rfl 0 rfl ?_
  refine J_iconst (v := 1) hB dX4_set_21 rfl ?_
  obtain ⟨r_4, h_5, hf⟩ := cl1_e hf
  refine J_callV (As := [.int 1]) (rest := [.ref (a b)]) (n := 1) (ws' := wRules E a b p0 p1 r_1 back ring two) hB (c_X4_has l E a b p0 p1 r_1 back ring two h_5) mi_X4_has ⟨ki_X4_has, kv_X4_has⟩ km_X4_18 ⟨rfl, rfl, Nat.le_of_ble_eq_true rfl, Nat.le_of_ble_eq_true rfl⟩ Lies.same 0 rfl rfl rfl rfl (Nat.le_of_ble_eq_true rfl) dX4_set_22 ?_
  show J l E rX4_set Y (wRules E a b p0 p1 r_1 back ring two) 25 [(0, .ref (a b)), (1, .int p0), (2, .int p1)] [.int r_4, .ref (a b)]
  obtain ⟨h_6, hf⟩ := gz_e hf
  refine J_put (ws' := wRules E a b p0 p1 r_1 r_4 ring two) (ty := .boolean) (v := .int r_4) hB inX4 tyX4 tyX4_ok nmX4 0 rfl rfl 3 (Nat.le_of_ble_eq_true rfl) kf_X4_26 rfl rfl (nar_z h_6) (fit_z h_6) (Nat.le_of_ble_eq_true rfl) dX4_set_25 rfl ?_
  refine J_aload_n hB dX4_set_28 rfl 0 rfl ?_
  refine J_aload_n hB dX4_set_29 rfl 0 rfl ?_
  refine J_iconst (v := 2) hB dX4_set_30 rfl ?_
  obtain ⟨r_7, h_8, hf⟩ := cl1_e hf
  refine J_callV (As := [.int 2]) (rest := [.ref (a b)]) (n := 1) (ws' := wRules E a b p0 p1 r_1 r_4 ring two) hB (c_X4_has l E a b p0 p1 r_1 r_4 ring two h_8) mi_X4_has ⟨ki_X4_has, kv_X4_has⟩ km_X4_18 ⟨rfl, rfl, Nat.le_of_ble_eq_true rfl, Nat.le_of_ble_eq_true rfl⟩ Lies.same 0 rfl rfl rfl rfl (Nat.le_of_ble_eq_true rfl) dX4_set_31 ?_
  show J l E rX4_set Y (wRules E a b p0 p1 r_1 r_4 ring two) 34 [(0, .ref (a b)), (1, .int p0), (2, .int p1)] [.int r_7, .ref (a b)]
  obtain ⟨h_9, hf⟩ := gz_e hf
  refine J_put (ws' := wRules E a b p0 p1 r_1 r_4 r_7 two) (ty := .boolean) (v := .int r_7) hB inX4 tyX4 tyX4_ok nmX4 0 rfl rfl 4 (Nat.le_of_ble_eq_true rfl) kf_X4_29 rfl rfl (nar_z h_9) (fit_z h_9) (Nat.le_of_ble_eq_true rfl) dX4_set_34 rfl ?_
  refine J_aload_n hB dX4_set_37 rfl 0 rfl ?_
  refine J_aload_n hB dX4_set_38 rfl 0 rfl ?_
  refine J_iconst (v := 3) hB dX4_set_39 rfl ?_
  obtain ⟨r_10, h_11, hf⟩ := cl1_e hf
  refine J_callV (As := [.int 3]) (rest := [.ref (a b)]) (n := 1) (ws' := wRules E a b p0 p1 r_1 r_4 r_7 two) hB (c_X4_has l E a b p0 p1 r_1 r_4 r_7 two h_11) mi_X4_has ⟨ki_X4_has, kv_X4_has⟩ km_X4_18 ⟨rfl, rfl, Nat.le_of_ble_eq_true rfl, Nat.le_of_ble_eq_true rfl⟩ Lies.same 0 rfl rfl rfl rfl (Nat.le_of_ble_eq_true rfl) dX4_set_40 ?_
  show J l E rX4_set Y (wRules E a b p0 p1 r_1 r_4 r_7 two) 43 [(0, .ref (a b)), (1, .int p0), (2, .int p1)] [.int r_10, .ref (a b)]
  obtain ⟨h_12, hf⟩ := gz_e hf
  refine J_put (ws' := wRules E a b p0 p1 r_1 r_4 r_7 r_10) (ty := .boolean) (v := .int r_10) hB inX4 tyX4 tyX4_ok nmX4 0 rfl rfl 5 (Nat.le_of_ble_eq_true rfl) kf_X4_32 rfl rfl (nar_z h_12) (fit_z h_12) (Nat.le_of_ble_eq_true rfl) dX4_set_43 rfl ?_
  obtain rfl := Option.some.inj hf
  exact J_vret hB hR dX4_set_46
def f_X4_beside (stones : Int32) (ring : Int32) (p0 : Int32) (p1 : Int32) : Option (Int32) :=
nmv (α := Int32) (p0 + p1) fun x3_1 =>
jn0 (
if ring = 0 then (
some ((-1))) else (
if 0 ≤ x3_1 then (
some 0) else (
some (stones - (1 : Int32))))) fun j18 =>
if x3_1 < 0 then (
j18) else (
if stones ≤ x3_1 then (
j18) else (
some x3_1))
abbrev rX4_beside : Room := { frames := 0, cells := 0, slots := 0, locals := 0 }
set_option maxRecDepth 100000 in
set_option maxHeartbeats 4000000 in
theorem c_X4_beside (l : Launch) (E : En) (a : Nat → Nat) (b : Nat) (stones : Int32) (signs : Int32) (any : Int32) (back : Int32) (ring : Int32) (two : Int32) {p0 : Int32} {p1 : Int32} {res : Int32} (hf : f_X4_beside stones ring p0 p1 = some res) : Ct l yX4_beside (.code yX4_beside cX4_beside 4 (some .int)) rX4_beside E [.ref (a b), .int p0, .int p1] (wRules E a b stones signs any back ring two) (some (.int res)) (wRules E a b stones signs any back ring two) := by
  refine Ct.of (by decide) (Nat.le_of_ble_eq_true rfl) (fun Y hB hR => ?_)
  have hB : Cb E cX4_beside RX4 rX4_beside 4 Y := hB
  show J l E rX4_beside Y (wRules E a b stones signs any back ring two) 0 [(0, .ref (a b)), (1, .int p0), (2, .int p1)] []
  unfold f_X4_beside at hf
  refine J_iload_n hB dX4_beside_0 rfl 1 rfl ?_
  refine J_iload_n hB dX4_beside_1 rfl 2 rfl ?_
  refine J_iadd hB dX4_beside_2 ?_
  obtain ⟨x3_1, ex3_1, hf⟩ := nmv_e hf
  refine J_istore_n (lv' := [(3, .int x3_1), (0, .ref (a b)), (1, .int p0), (2, .int p1)]) hB ex3_1 dX4_beside_3 rfl (Nat.le_of_ble_eq_true rfl) rfl ?_
  refine J_iload_n hB dX4_beside_4 rfl 0 rfl ?_
  refine jn0_e (P := J l E rX4_beside Y (wRules E a b stones signs any back ring two) 18 [(0, .ref (a b)), (3, .int x3_1)] []) hf (fun hf => ?_) (fun j18 hj18 hf => ?_)
  · refine J_aload_n hB dX4_beside_18 rfl 0 rfl ?_
    refine J_get (v := .int ring) hB inX4 0 rfl rfl 4 (Nat.le_of_ble_eq_true rfl) kf_X4_29 rfl dX4_beside_19 ?_
    refine J_if_ne (tgt := 27) hB dX4_beside_22 rfl (fun c_2 => ?_) (fun c_2 => ?_)
    · have hf := it_f c_2 hf
      refine J_iload_n hB dX4_beside_27 rfl 1 rfl ?_
      refine J_if_ge (tgt := 40) hB dX4_beside_28 rfl (fun c_3 => ?_) (fun c_3 => ?_)
      · have hf := it_t c_3 hf
        refine J_iconst (v := 0) hB dX4_beside_40 rfl ?_
        obtain rfl := Option.some.inj hf
        exact J_iret hB hR dX4_beside_41
      · have hf := it_f c_3 hf
        refine J_aload_n hB dX4_beside_31 rfl 0 rfl ?_
        refine J_get (v := .int stones) hB inX4 0 rfl rfl 0 (Nat.le_of_ble_eq_true rfl) kf_X4_9 rfl dX4_beside_32 ?_
        refine J_iconst (v := 1) hB dX4_beside_35 rfl ?_
        refine J_isub hB dX4_beside_36 ?_
        refine J_goto (tgt := 41) hB dX4_beside_37 rfl ?_
        obtain rfl := Option.some.inj hf
        exact J_iret hB hR dX4_beside_41
    · have hf := it_t c_2 hf
      refine J_iconst (v := (-1)) hB dX4_beside_25 rfl ?_
      obtain rfl := Option.some.inj hf
      exact J_iret hB hR dX4_beside_26
  · refine J_if_lt (tgt := 18) hB dX4_beside_5 rfl (fun c_4 => ?_) (fun c_4 => ?_)
    · have hf := it_t c_4 hf
      exact J_lv [1, 0] rfl (hj18 hf)
    · have hf := it_f c_4 hf
      refine J_iload_n hB dX4_beside_8 rfl 0 rfl ?_
      refine J_aload_n hB dX4_beside_9 rfl 1 rfl ?_
      refine J_get (v := .int stones) hB inX4 0 rfl rfl 0 (Nat.le_of_ble_eq_true rfl) kf_X4_9 rfl dX4_beside_10 ?_
      refine J_icmp_ge (tgt := 18) hB dX4_beside_13 rfl (fun c_5 => ?_) (fun c_5 => ?_)
      · have hf := it_t c_5 hf
        exact J_lv [1, 0] rfl (hj18 hf)
      · have hf := it_f c_5 hf
        refine J_iload_n hB dX4_beside_16 rfl 0 rfl ?_
        obtain rfl := Option.some.inj hf
        exact J_iret hB hR dX4_beside_17
def f_X4_leapsOver (any : Int32) (p0 : Int32) (p1 : Int32) : Option (Int32) :=
jn0 (
some 1) fun j35 =>
if any = 0 then (
if p1 = 3 then (
some 0) else (
jn1 (fun (s_3 : Int32) =>
jn1 (fun (s_4 : Int32) =>
if s_3 = s_4 then (
some 0) else (
j35)) fun j32 =>
if p1 = 2 then (
j32 1) else (
j32 0)) fun j22 =>
if p0 = 2 then (
j22 1) else (
j22 0))) else (
j35)
abbrev rX4_leapsOver : Room := { frames := 0, cells := 0, slots := 0, locals := 0 }
set_option maxRecDepth 100000 in
set_option maxHeartbeats 4000000 in
theorem c_X4_leapsOver (l : Launch) (E : En) (a : Nat → Nat) (b : Nat) (stones : Int32) (signs : Int32) (any : Int32) (back : Int32) (ring : Int32) (two : Int32) {p0 : Int32} {p1 : Int32} {res : Int32} (hf : f_X4_leapsOver any p0 p1 = some res) : Ct l yX4_leapsOver (.code yX4_leapsOver cX4_leapsOver 3 (some .boolean)) rX4_leapsOver E [.ref (a b), .int p0, .int p1] (wRules E a b stones signs any back ring two) (some (.int res)) (wRules E a b stones signs any back ring two) := by
  refine Ct.of (by decide) (Nat.le_of_ble_eq_true rfl) (fun Y hB hR => ?_)
  have hB : Cb E cX4_leapsOver RX4 rX4_leapsOver 3 Y := hB
  show J l E rX4_leapsOver Y (wRules E a b stones signs any back ring two) 0 [(0, .ref (a b)), (1, .int p0), (2, .int p1)] []
  unfold f_X4_leapsOver at hf
  refine J_aload_n hB dX4_leapsOver_0 rfl 0 rfl ?_
  refine J_get (v := .int any) hB inX4 0 rfl rfl 2 (Nat.le_of_ble_eq_true rfl) kf_X4_22 rfl dX4_leapsOver_1 ?_
  refine jn0_e (P := J l E rX4_leapsOver Y (wRules E a b stones signs any back ring two) 35 [] []) hf (fun hf => ?_) (fun j35 hj35 hf => ?_)
  · refine J_iconst (v := 1) hB dX4_leapsOver_35 rfl ?_
    refine J_goto (tgt := 40) hB dX4_leapsOver_36 rfl ?_
    obtain rfl := Option.some.inj hf
    exact J_zret hB hR (Or.inr rfl) dX4_leapsOver_40
  · refine J_if_ne (tgt := 35) hB dX4_leapsOver_4 rfl (fun c_1 => ?_) (fun c_1 => ?_)
    · have hf := it_f c_1 hf
      exact J_lv [] rfl (hj35 hf)
    · have hf := it_t c_1 hf
      refine J_iload_n hB dX4_leapsOver_7 rfl 2 rfl ?_
      refine J_iconst (v := 3) hB dX4_leapsOver_8 rfl ?_
      refine J_icmp_eq (tgt := 39) hB dX4_leapsOver_9 rfl (fun c_2 => ?_) (fun c_2 => ?_)
      · have hf := it_t c_2 hf
        refine J_iconst (v := 0) hB dX4_leapsOver_39 rfl ?_
        obtain rfl := Option.some.inj hf
        exact J_zret hB hR (Or.inl rfl) dX4_leapsOver_40
      · have hf := it_f c_2 hf
        refine J_iload_n hB dX4_leapsOver_12 rfl 1 rfl ?_
        refine J_iconst (v := 2) hB dX4_leapsOver_13 rfl ?_
        refine jn1_e (P := fun s_3 => J l E rX4_leapsOver Y (wRules E a b stones signs any back ring two) 22 [(2, .int p1)] [.int s_3]) hf (fun s_3 hf => ?_) (fun j22 hj22 hf => ?_)
        · refine J_iload_n hB dX4_leapsOver_22 rfl 0 rfl ?_
          refine J_iconst (v := 2) hB dX4_leapsOver_23 rfl ?_
          refine jn1_e (P := fun s_4 => J l E rX4_leapsOver Y (wRules E a b stones signs any back ring two) 32 [] [.int s_4, .int s_3]) hf (fun s_4 hf => ?_) (fun j32 hj32 hf => ?_)
          · refine J_icmp_eq (tgt := 39) hB dX4_leapsOver_32 rfl (fun c_5 => ?_) (fun c_5 => ?_)
            · have hf := it_t c_5 hf
              refine J_iconst (v := 0) hB dX4_leapsOver_39 rfl ?_
              obtain rfl := Option.some.inj hf
              exact J_zret hB hR (Or.inl rfl) dX4_leapsOver_40
            · have hf := it_f c_5 hf
              exact J_lv [] rfl (hj35 hf)
          · refine J_icmp_ne (tgt := 31) hB dX4_leapsOver_24 rfl (fun c_6 => ?_) (fun c_6 => ?_)
            · have hf := it_f c_6 hf
              refine J_iconst (v := 0) hB dX4_leapsOver_31 rfl ?_
              exact J_lv [] rfl (hj32 0 hf)
            · have hf := it_t c_6 hf
              refine J_iconst (v := 1) hB dX4_leapsOver_27 rfl ?_
              refine J_goto (tgt := 32) hB dX4_leapsOver_28 rfl ?_
              exact J_lv [] rfl (hj32 1 hf)
        · refine J_icmp_ne (tgt := 21) hB dX4_leapsOver_14 rfl (fun c_7 => ?_) (fun c_7 => ?_)
          · have hf := it_f c_7 hf
            refine J_iconst (v := 0) hB dX4_leapsOver_21 rfl ?_
            exact J_lv [2] rfl (hj22 0 hf)
          · have hf := it_t c_7 hf
            refine J_iconst (v := 1) hB dX4_leapsOver_17 rfl ?_
            refine J_goto (tgt := 22) hB dX4_leapsOver_18 rfl ?_
            exact J_lv [2] rfl (hj22 1 hf)
def f_X4_landing (stones : Int32) (any : Int32) (ring : Int32) (two : Int32) (p0 : Int32) (p1 : Int32) (p2 : Int32) : Option (Int32) :=
cl1 (f_X3_at p0 p1) fun r_1 =>
jn1 (fun (s_3 : Int32) =>
lp2_0 (fun (x6_4 : Int32) (x7_5 : Int32) nx37 ex37 =>
if s_3 < x7_5 then (
ex37) else (
cl1 (f_X4_beside stones ring x6_4 p2) fun r_7 =>
if r_7 = ((-1)) then (
some 0) else (
cl1 (f_X3_at p0 r_7) fun r_10 =>
if r_10 = 0 then (
some ((1 : Int32) <<< (r_7 &&& 31))) else (
cl1 (f_X4_leapsOver any r_1 r_10) fun r_13 =>
if r_13 = 0 then (
some 0) else (
nmv (α := Int32) (x7_5 + 1) fun x7_16 =>
nx37 r_7 x7_16))))) (
some 0) fuel p1 0) fun j29 =>
if r_1 = 4 then (
j29 0) else (
if two = 0 then (
j29 1) else (
j29 2))
abbrev rX4_landing : Room := { frames := 1, cells := 0, slots := 0, locals := 23 }
set_option maxRecDepth 100000 in
set_option maxHeartbeats 4000000 in
theorem c_X4_landing (l : Launch) (E : En) (a : Nat → Nat) (b : Nat) (stones : Int32) (signs : Int32) (any : Int32) (back : Int32) (ring : Int32) (two : Int32) {p0 : Int32} {p1 : Int32} {p2 : Int32} {res : Int32} (hf : f_X4_landing stones any ring two p0 p1 p2 = some res) : Ct l yX4_landing (.code yX4_landing cX4_landing 9 (some .int)) rX4_landing E [.ref (a b), .int p0, .int p1, .int p2] (wRules E a b stones signs any back ring two) (some (.int res)) (wRules E a b stones signs any back ring two) := by
  refine Ct.of (by decide) (Nat.le_of_ble_eq_true rfl) (fun Y hB hR => ?_)
  have hB : Cb E cX4_landing RX4 rX4_landing 9 Y := hB
  show J l E rX4_landing Y (wRules E a b stones signs any back ring two) 0 [(0, .ref (a b)), (1, .int p0), (2, .int p1), (3, .int p2)] []
  unfold f_X4_landing at hf
  refine J_iload_n hB dX4_landing_0 rfl 1 rfl ?_
  refine J_iload_n hB dX4_landing_1 rfl 2 rfl ?_
  obtain ⟨r_1, h_2, hf⟩ := cl1_e hf
  refine J_callS (As := [.int p0, .int p1]) (rest := []) (n := 2) (ws' := wRules E a b stones signs any back ring two) hB (c_X3_at l E a h_2) mi_X3_at ks_X3_at km_X4_39 ⟨rfl, rfl, Nat.le_of_ble_eq_true rfl, Nat.le_of_ble_eq_true rfl⟩ Lies.none rfl rfl (Nat.le_of_ble_eq_true rfl) dX4_landing_2 ?_
  show J l E rX4_landing Y (wRules E a b stones signs any back ring two) 5 [(0, .ref (a b)), (1, .int p0), (2, .int p1), (3, .int p2)] [.int r_1]
  refine J_istore (lv' := [(4, .int r_1), (0, .ref (a b)), (1, .int p0), (2, .int p1), (3, .int p2)]) hB rfl dX4_landing_5 (Nat.le_of_ble_eq_true rfl) rfl ?_
  refine J_iload hB dX4_landing_7 0 rfl ?_
  refine J_iconst (v := 4) hB dX4_landing_9 rfl ?_
  refine jn1_e (P := fun s_3 => J l E rX4_landing Y (wRules E a b stones signs any back ring two) 29 [(0, .ref (a b)), (1, .int p0), (2, .int p1), (3, .int p2), (4, .int r_1)] [.int s_3]) hf (fun s_3 hf => ?_) (fun j29 hj29 hf => ?_)
  · refine J_istore (lv' := [(5, .int s_3), (0, .ref (a b)), (1, .int p0), (2, .int p1), (3, .int p2), (4, .int r_1)]) hB rfl dX4_landing_29 (Nat.le_of_ble_eq_true rfl) rfl ?_
    refine J_iload_n hB dX4_landing_31 rfl 3 rfl ?_
    refine J_istore (lv' := [(6, .int p1), (5, .int s_3), (0, .ref (a b)), (1, .int p0), (2, .int p1), (3, .int p2), (4, .int r_1)]) hB rfl dX4_landing_32 (Nat.le_of_ble_eq_true rfl) rfl ?_
    refine J_iconst (v := 0) hB dX4_landing_34 rfl ?_
    refine J_istore (lv' := [(7, .int 0), (6, .int p1), (5, .int s_3), (0, .ref (a b)), (1, .int p0), (2, .int p1), (3, .int p2), (4, .int r_1)]) hB rfl dX4_landing_35 (Nat.le_of_ble_eq_true rfl) rfl ?_
    refine J_lv [3, 4, 6, 7, 2, 1, 0] rfl ?_
    refine lp2_0_J (P := fun x6_4 x7_5 => J l E rX4_landing Y (wRules E a b stones signs any back ring two) 37 [(0, .ref (a b)), (1, .int p0), (3, .int p2), (4, .int r_1), (5, .int s_3), (6, .int x6_4), (7, .int x7_5)] []) (Q := J l E rX4_landing Y (wRules E a b stones signs any back ring two) 98 [] []) (fun x6_4 x7_5 nx37 ex37 hnx37 hex37 hf => ?_) (fun hf => ?_) hf
    · refine J_iload hB dX4_landing_37 6 rfl ?_
      refine J_iload hB dX4_landing_39 4 rfl ?_
      refine J_icmp_gt (tgt := 98) hB dX4_landing_41 rfl (fun c_6 => ?_) (fun c_6 => ?_)
      · have hf := it_t c_6 hf
        exact J_lv [] rfl (hex37 hf)
      · have hf := it_f c_6 hf
        refine J_aload_n hB dX4_landing_44 rfl 0 rfl ?_
        refine J_iload hB dX4_landing_45 5 rfl ?_
        refine J_iload_n hB dX4_landing_47 rfl 2 rfl ?_
        obtain ⟨r_7, h_8, hf⟩ := cl1_e hf
        refine J_callV (As := [.int x6_4, .int p2]) (rest := []) (n := 2) (ws' := wRules E a b stones signs any back ring two) hB (c_X4_beside l E a b stones signs any back ring two h_8) mi_X4_beside ⟨ki_X4_beside, kv_X4_beside⟩ km_X4_48 ⟨rfl, rfl, Nat.le_of_ble_eq_true rfl, Nat.le_of_ble_eq_true rfl⟩ Lies.same 0 rfl rfl rfl rfl (Nat.le_of_ble_eq_true rfl) dX4_landing_48 ?_
        show J l E rX4_landing Y (wRules E a b stones signs any back ring two) 51 [(0, .ref (a b)), (1, .int p0), (3, .int p2), (4, .int r_1), (5, .int s_3), (6, .int x6_4), (7, .int x7_5)] [.int r_7]
        refine J_istore (lv' := [(6, .int r_7), (0, .ref (a b)), (1, .int p0), (3, .int p2), (4, .int r_1), (5, .int s_3), (7, .int x7_5)]) hB rfl dX4_landing_51 (Nat.le_of_ble_eq_true rfl) rfl ?_
        refine J_iload hB dX4_landing_53 0 rfl ?_
        refine J_iconst (v := (-1)) hB dX4_landing_55 rfl ?_
        refine J_icmp_ne (tgt := 61) hB dX4_landing_56 rfl (fun c_9 => ?_) (fun c_9 => ?_)
        · have hf := it_f c_9 hf
          refine J_iload_n hB dX4_landing_61 rfl 2 rfl ?_
          refine J_iload hB dX4_landing_62 0 rfl ?_
          obtain ⟨r_10, h_11, hf⟩ := cl1_e hf
          refine J_callS (As := [.int p0, .int r_7]) (rest := []) (n := 2) (ws' := wRules E a b stones signs any back ring two) hB (c_X3_at l E a h_11) mi_X3_at ks_X3_at km_X4_39 ⟨rfl, rfl, Nat.le_of_ble_eq_true rfl, Nat.le_of_ble_eq_true rfl⟩ Lies.none rfl rfl (Nat.le_of_ble_eq_true rfl) dX4_landing_64 ?_
          show J l E rX4_landing Y (wRules E a b stones signs any back ring two) 67 [(6, .int r_7), (0, .ref (a b)), (1, .int p0), (3, .int p2), (4, .int r_1), (5, .int s_3), (7, .int x7_5)] [.int r_10]
          refine J_istore (lv' := [(8, .int r_10), (6, .int r_7), (0, .ref (a b)), (1, .int p0), (3, .int p2), (4, .int r_1), (5, .int s_3), (7, .int x7_5)]) hB rfl dX4_landing_67 (Nat.le_of_ble_eq_true rfl) rfl ?_
          refine J_iload hB dX4_landing_69 0 rfl ?_
          refine J_if_ne (tgt := 79) hB dX4_landing_71 rfl (fun c_12 => ?_) (fun c_12 => ?_)
          · have hf := it_f c_12 hf
            refine J_aload_n hB dX4_landing_79 rfl 2 rfl ?_
            refine J_iload hB dX4_landing_80 5 rfl ?_
            refine J_iload hB dX4_landing_82 0 rfl ?_
            obtain ⟨r_13, h_14, hf⟩ := cl1_e hf
            refine J_callV (As := [.int r_1, .int r_10]) (rest := []) (n := 2) (ws' := wRules E a b stones signs any back ring two) hB (c_X4_leapsOver l E a b stones signs any back ring two h_14) mi_X4_leapsOver ⟨ki_X4_leapsOver, kv_X4_leapsOver⟩ km_X4_51 ⟨rfl, rfl, Nat.le_of_ble_eq_true rfl, Nat.le_of_ble_eq_true rfl⟩ Lies.same 0 rfl rfl rfl rfl (Nat.le_of_ble_eq_true rfl) dX4_landing_84 ?_
            show J l E rX4_landing Y (wRules E a b stones signs any back ring two) 87 [(8, .int r_10), (6, .int r_7), (0, .ref (a b)), (1, .int p0), (3, .int p2), (4, .int r_1), (5, .int s_3), (7, .int x7_5)] [.int r_13]
            refine J_if_ne (tgt := 92) hB dX4_landing_87 rfl (fun c_15 => ?_) (fun c_15 => ?_)
            · have hf := it_f c_15 hf
              obtain ⟨x7_16, ex7_16, hf⟩ := nmv_e hf
              refine J_iinc (lv' := [(7, .int x7_16), (8, .int r_10), (6, .int r_7), (0, .ref (a b)), (1, .int p0), (3, .int p2), (4, .int r_1), (5, .int s_3)]) hB ex7_16 dX4_landing_92 7 rfl (Nat.le_of_ble_eq_true rfl) rfl ?_
              refine J_goto (tgt := 37) hB dX4_landing_95 rfl ?_
              exact J_lv [3, 4, 5, 6, 7, 2, 0] rfl (hnx37 r_7 x7_16 hf)
            · have hf := it_t c_15 hf
              refine J_iconst (v := 0) hB dX4_landing_90 rfl ?_
              obtain rfl := Option.some.inj hf
              exact J_iret hB hR dX4_landing_91
          · have hf := it_t c_12 hf
            refine J_iconst (v := 1) hB dX4_landing_74 rfl ?_
            refine J_iload hB dX4_landing_75 1 rfl ?_
            refine J_ishl hB dX4_landing_77 ?_
            obtain rfl := Option.some.inj hf
            exact J_iret hB hR dX4_landing_78
        · have hf := it_t c_9 hf
          refine J_iconst (v := 0) hB dX4_landing_59 rfl ?_
          obtain rfl := Option.some.inj hf
          exact J_iret hB hR dX4_landing_60
    · refine J_iconst (v := 0) hB dX4_landing_98 rfl ?_
      obtain rfl := Option.some.inj hf
      exact J_iret hB hR dX4_landing_99
  · refine J_icmp_ne (tgt := 17) hB dX4_landing_10 rfl (fun c_17 => ?_) (fun c_17 => ?_)
    · have hf := it_f c_17 hf
      refine J_aload_n hB dX4_landing_17 rfl 1 rfl ?_
      refine J_get (v := .int two) hB inX4 0 rfl rfl 5 (Nat.le_of_ble_eq_true rfl) kf_X4_32 rfl dX4_landing_18 ?_
      refine J_if_eq (tgt := 28) hB dX4_landing_21 rfl (fun c_18 => ?_) (fun c_18 => ?_)
      · have hf := it_t c_18 hf
        refine J_iconst (v := 1) hB dX4_landing_28 rfl ?_
        exact J_lv [1, 2, 3, 4, 0] rfl (hj29 1 hf)
      · have hf := it_f c_18 hf
        refine J_iconst (v := 2) hB dX4_landing_24 rfl ?_
        refine J_goto (tgt := 29) hB dX4_landing_25 rfl ?_
        exact J_lv [1, 2, 3, 4, 0] rfl (hj29 2 hf)
    · have hf := it_t c_17 hf
      refine J_iconst (v := 0) hB dX4_landing_13 rfl ?_
      refine J_goto (tgt := 29) hB dX4_landing_14 rfl ?_
      exact J_lv [1, 2, 3, 4, 0] rfl (hj29 0 hf)
def f_X4_targets (stones : Int32) (any : Int32) (back : Int32) (ring : Int32) (two : Int32) (p0 : Int32) (p1 : Int32) (p2 : Int32) : Option (Int32) :=
cl1 (f_X3_at p0 p1) fun r_1 =>
if r_1 = 0 then (
some 0) else (
if r_1 = 3 then (
some 0) else (
jn1 (fun (s_5 : Int32) =>
cl1 (f_X4_landing stones any ring two p0 p1 s_5) fun r_6 =>
if back = 0 then (
some r_6) else (
cl1 (f_X4_landing stones any ring two p0 p1 (-s_5)) fun r_9 =>
nmv (α := Int32) (r_6 ||| r_9) fun x6_11 =>
some x6_11)) fun j32 =>
if r_1 = 2 then (
j32 (-p2)) else (
j32 p2)))
abbrev rX4_targets : Room := { frames := 2, cells := 0, slots := 0, locals := 51 }
set_option maxRecDepth 100000 in
set_option maxHeartbeats 4000000 in
theorem c_X4_targets (l : Launch) (E : En) (a : Nat → Nat) (b : Nat) (stones : Int32) (signs : Int32) (any : Int32) (back : Int32) (ring : Int32) (two : Int32) {p0 : Int32} {p1 : Int32} {p2 : Int32} {res : Int32} (hf : f_X4_targets stones any back ring two p0 p1 p2 = some res) : Ct l yX4_targets (.code yX4_targets cX4_targets 7 (some .int)) rX4_targets E [.ref (a b), .int p0, .int p1, .int p2] (wRules E a b stones signs any back ring two) (some (.int res)) (wRules E a b stones signs any back ring two) := by
  refine Ct.of (by decide) (Nat.le_of_ble_eq_true rfl) (fun Y hB hR => ?_)
  have hB : Cb E cX4_targets RX4 rX4_targets 7 Y := hB
  show J l E rX4_targets Y (wRules E a b stones signs any back ring two) 0 [(0, .ref (a b)), (1, .int p0), (2, .int p1), (3, .int p2)] []
  unfold f_X4_targets at hf
  refine J_iload_n hB dX4_targets_0 rfl 1 rfl ?_
  refine J_iload_n hB dX4_targets_1 rfl 2 rfl ?_
  obtain ⟨r_1, h_2, hf⟩ := cl1_e hf
  refine J_callS (As := [.int p0, .int p1]) (rest := []) (n := 2) (ws' := wRules E a b stones signs any back ring two) hB (c_X3_at l E a h_2) mi_X3_at ks_X3_at km_X4_39 ⟨rfl, rfl, Nat.le_of_ble_eq_true rfl, Nat.le_of_ble_eq_true rfl⟩ Lies.none rfl rfl (Nat.le_of_ble_eq_true rfl) dX4_targets_2 ?_
  show J l E rX4_targets Y (wRules E a b stones signs any back ring two) 5 [(0, .ref (a b)), (1, .int p0), (2, .int p1), (3, .int p2)] [.int r_1]
  refine J_istore (lv' := [(4, .int r_1), (0, .ref (a b)), (1, .int p0), (2, .int p1), (3, .int p2)]) hB rfl dX4_targets_5 (Nat.le_of_ble_eq_true rfl) rfl ?_
  refine J_iload hB dX4_targets_7 0 rfl ?_
  refine J_if_eq (tgt := 18) hB dX4_targets_9 rfl (fun c_3 => ?_) (fun c_3 => ?_)
  · have hf := it_t c_3 hf
    refine J_iconst (v := 0) hB dX4_targets_18 rfl ?_
    obtain rfl := Option.some.inj hf
    exact J_iret hB hR dX4_targets_19
  · have hf := it_f c_3 hf
    refine J_iload hB dX4_targets_12 0 rfl ?_
    refine J_iconst (v := 3) hB dX4_targets_14 rfl ?_
    refine J_icmp_ne (tgt := 20) hB dX4_targets_15 rfl (fun c_4 => ?_) (fun c_4 => ?_)
    · have hf := it_f c_4 hf
      refine J_iload hB dX4_targets_20 0 rfl ?_
      refine J_iconst (v := 2) hB dX4_targets_22 rfl ?_
      refine jn1_e (P := fun s_5 => J l E rX4_targets Y (wRules E a b stones signs any back ring two) 32 [(0, .ref (a b)), (1, .int p0), (2, .int p1)] [.int s_5]) hf (fun s_5 hf => ?_) (fun j32 hj32 hf => ?_)
      · refine J_istore (lv' := [(5, .int s_5), (0, .ref (a b)), (1, .int p0), (2, .int p1)]) hB rfl dX4_targets_32 (Nat.le_of_ble_eq_true rfl) rfl ?_
        refine J_aload_n hB dX4_targets_34 rfl 1 rfl ?_
        refine J_iload_n hB dX4_targets_35 rfl 2 rfl ?_
        refine J_iload_n hB dX4_targets_36 rfl 3 rfl ?_
        refine J_iload hB dX4_targets_37 0 rfl ?_
        obtain ⟨r_6, h_7, hf⟩ := cl1_e hf
        refine J_callV (As := [.int p0, .int p1, .int s_5]) (rest := []) (n := 3) (ws' := wRules E a b stones signs any back ring two) hB (c_X4_landing l E a b stones signs any back ring two h_7) mi_X4_landing ⟨ki_X4_landing, kv_X4_landing⟩ km_X4_45 ⟨rfl, rfl, Nat.le_of_ble_eq_true rfl, Nat.le_of_ble_eq_true rfl⟩ Lies.same 0 rfl rfl rfl rfl (Nat.le_of_ble_eq_true rfl) dX4_targets_39 ?_
        show J l E rX4_targets Y (wRules E a b stones signs any back ring two) 42 [(5, .int s_5), (0, .ref (a b)), (1, .int p0), (2, .int p1)] [.int r_6]
        refine J_istore (lv' := [(6, .int r_6), (5, .int s_5), (0, .ref (a b)), (1, .int p0), (2, .int p1)]) hB rfl dX4_targets_42 (Nat.le_of_ble_eq_true rfl) rfl ?_
        refine J_aload_n hB dX4_targets_44 rfl 2 rfl ?_
        refine J_get (v := .int back) hB inX4 0 rfl rfl 3 (Nat.le_of_ble_eq_true rfl) kf_X4_26 rfl dX4_targets_45 ?_
        refine J_if_eq (tgt := 65) hB dX4_targets_48 rfl (fun c_8 => ?_) (fun c_8 => ?_)
        · have hf := it_t c_8 hf
          refine J_iload hB dX4_targets_65 0 rfl ?_
          obtain rfl := Option.some.inj hf
          exact J_iret hB hR dX4_targets_67
        · have hf := it_f c_8 hf
          refine J_iload hB dX4_targets_51 0 rfl ?_
          refine J_aload_n hB dX4_targets_53 rfl 2 rfl ?_
          refine J_iload_n hB dX4_targets_54 rfl 3 rfl ?_
          refine J_iload_n hB dX4_targets_55 rfl 4 rfl ?_
          refine J_iload hB dX4_targets_56 1 rfl ?_
          refine J_ineg hB dX4_targets_58 ?_
          obtain ⟨r_9, h_10, hf⟩ := cl1_e hf
          refine J_callV (As := [.int p0, .int p1, .int (-s_5)]) (rest := [.int r_6]) (n := 3) (ws' := wRules E a b stones signs any back ring two) hB (c_X4_landing l E a b stones signs any back ring two h_10) mi_X4_landing ⟨ki_X4_landing, kv_X4_landing⟩ km_X4_45 ⟨rfl, rfl, Nat.le_of_ble_eq_true rfl, Nat.le_of_ble_eq_true rfl⟩ Lies.same 0 rfl rfl rfl rfl (Nat.le_of_ble_eq_true rfl) dX4_targets_59 ?_
          show J l E rX4_targets Y (wRules E a b stones signs any back ring two) 62 [(6, .int r_6), (5, .int s_5), (0, .ref (a b)), (1, .int p0), (2, .int p1)] [.int r_9, .int r_6]
          refine J_ior hB dX4_targets_62 ?_
          obtain ⟨x6_11, ex6_11, hf⟩ := nmv_e hf
          refine J_istore (lv' := [(6, .int x6_11), (5, .int s_5), (0, .ref (a b)), (1, .int p0), (2, .int p1)]) hB ex6_11 dX4_targets_63 (Nat.le_of_ble_eq_true rfl) rfl ?_
          refine J_iload hB dX4_targets_65 0 rfl ?_
          obtain rfl := Option.some.inj hf
          exact J_iret hB hR dX4_targets_67
      · refine J_icmp_ne (tgt := 31) hB dX4_targets_23 rfl (fun c_12 => ?_) (fun c_12 => ?_)
        · have hf := it_f c_12 hf
          refine J_iload_n hB dX4_targets_31 rfl 4 rfl ?_
          exact J_lv [1, 2, 3] rfl (hj32 p2 hf)
        · have hf := it_t c_12 hf
          refine J_iload_n hB dX4_targets_26 rfl 4 rfl ?_
          refine J_ineg hB dX4_targets_27 ?_
          refine J_goto (tgt := 32) hB dX4_targets_28 rfl ?_
          exact J_lv [1, 2, 3] rfl (hj32 (-p2) hf)
    · have hf := it_t c_4 hf
      refine J_iconst (v := 0) hB dX4_targets_18 rfl ?_
      obtain rfl := Option.some.inj hf
      exact J_iret hB hR dX4_targets_19
def f_X4_allows (stones : Int32) (any : Int32) (back : Int32) (ring : Int32) (two : Int32) (p0 : Int32) (p1 : Int32) (p2 : Int32) : Option (Int32) :=
cl1 (f_X4_targets stones any back ring two p0 p1 1) fun r_1 =>
if ((r_1 >>> (p2 &&& 31)) &&& (1 : Int32)) = 1 then (
some 1) else (
some 0)
abbrev rX4_allows : Room := { frames := 3, cells := 0, slots := 0, locals := 77 }
set_option maxRecDepth 100000 in
set_option maxHeartbeats 4000000 in
theorem c_X4_allows (l : Launch) (E : En) (a : Nat → Nat) (b : Nat) (stones : Int32) (signs : Int32) (any : Int32) (back : Int32) (ring : Int32) (two : Int32) {p0 : Int32} {p1 : Int32} {p2 : Int32} {res : Int32} (hf : f_X4_allows stones any back ring two p0 p1 p2 = some res) : Ct l yX4_allows (.code yX4_allows cX4_allows 4 (some .boolean)) rX4_allows E [.ref (a b), .int p0, .int p1, .int p2] (wRules E a b stones signs any back ring two) (some (.int res)) (wRules E a b stones signs any back ring two) := by
  refine Ct.of (by decide) (Nat.le_of_ble_eq_true rfl) (fun Y hB hR => ?_)
  have hB : Cb E cX4_allows RX4 rX4_allows 4 Y := hB
  show J l E rX4_allows Y (wRules E a b stones signs any back ring two) 0 [(0, .ref (a b)), (1, .int p0), (2, .int p1), (3, .int p2)] []
  unfold f_X4_allows at hf
  refine J_aload_n hB dX4_allows_0 rfl 0 rfl ?_
  refine J_iload_n hB dX4_allows_1 rfl 1 rfl ?_
  refine J_iload_n hB dX4_allows_2 rfl 2 rfl ?_
  refine J_iconst (v := 1) hB dX4_allows_3 rfl ?_
  obtain ⟨r_1, h_2, hf⟩ := cl1_e hf
  refine J_callV (As := [.int p0, .int p1, .int 1]) (rest := []) (n := 3) (ws' := wRules E a b stones signs any back ring two) hB (c_X4_targets l E a b stones signs any back ring two h_2) mi_X4_targets ⟨ki_X4_targets, kv_X4_targets⟩ km_X4_35 ⟨rfl, rfl, Nat.le_of_ble_eq_true rfl, Nat.le_of_ble_eq_true rfl⟩ Lies.same 0 rfl rfl rfl rfl (Nat.le_of_ble_eq_true rfl) dX4_allows_4 ?_
  show J l E rX4_allows Y (wRules E a b stones signs any back ring two) 7 [(0, .ref (a b)), (1, .int p0), (2, .int p1), (3, .int p2)] [.int r_1]
  refine J_iload_n hB dX4_allows_7 rfl 3 rfl ?_
  refine J_ishr hB dX4_allows_8 ?_
  refine J_iconst (v := 1) hB dX4_allows_9 rfl ?_
  refine J_iand hB dX4_allows_10 ?_
  refine J_iconst (v := 1) hB dX4_allows_11 rfl ?_
  refine J_icmp_ne (tgt := 19) hB dX4_allows_12 rfl (fun c_3 => ?_) (fun c_3 => ?_)
  · have hf := it_f c_3 hf
    refine J_iconst (v := 0) hB dX4_allows_19 rfl ?_
    obtain rfl := Option.some.inj hf
    exact J_zret hB hR (Or.inl rfl) dX4_allows_20
  · have hf := it_t c_3 hf
    refine J_iconst (v := 1) hB dX4_allows_15 rfl ?_
    refine J_goto (tgt := 20) hB dX4_allows_16 rfl ?_
    obtain rfl := Option.some.inj hf
    exact J_zret hB hR (Or.inr rfl) dX4_allows_20
def f_X4_allMoves (stones : Int32) (any : Int32) (back : Int32) (ring : Int32) (two : Int32) (p0 : Int32) (p1 : Int32) : Option (Int64) :=
lp2_1 (fun (x3_1 : Int64) (x5_2 : Int32) nx5 ex5 =>
if stones ≤ x5_2 then (
ex5 x3_1) else (
cl1 (f_X4_targets stones any back ring two p0 x5_2 p1) fun r_5 =>
nmv (α := Int64) (x3_1 ||| ((Int32.toInt64 r_5) <<< (Int32.toInt64 ((8 : Int32) * x5_2) &&& 63))) fun x3_7 =>
nmv (α := Int32) (x5_2 + 1) fun x5_8 =>
nx5 x3_7 x5_8)) (fun (x3_3 : Int64) =>
some x3_3) fuel 0 0
abbrev rX4_allMoves : Room := { frames := 3, cells := 0, slots := 0, locals := 77 }
set_option maxRecDepth 100000 in
set_option maxHeartbeats 4000000 in
theorem c_X4_allMoves (l : Launch) (E : En) (a : Nat → Nat) (b : Nat) (stones : Int32) (signs : Int32) (any : Int32) (back : Int32) (ring : Int32) (two : Int32) {p0 : Int32} {p1 : Int32} {res : Int64} (hf : f_X4_allMoves stones any back ring two p0 p1 = some res) : Ct l yX4_allMoves (.code yX4_allMoves cX4_allMoves 6 (some .long)) rX4_allMoves E [.ref (a b), .int p0, .int p1] (wRules E a b stones signs any back ring two) (some (.long res)) (wRules E a b stones signs any back ring two) := by
  refine Ct.of (by decide) (Nat.le_of_ble_eq_true rfl) (fun Y hB hR => ?_)
  have hB : Cb E cX4_allMoves RX4 rX4_allMoves 6 Y := hB
  show J l E rX4_allMoves Y (wRules E a b stones signs any back ring two) 0 [(0, .ref (a b)), (1, .int p0), (2, .int p1)] []
  unfold f_X4_allMoves at hf
  refine J_lconst (v := 0) hB dX4_allMoves_0 rfl ?_
  refine J_lstore_n (lv' := [(3, .long 0), (0, .ref (a b)), (1, .int p0), (2, .int p1)]) hB rfl dX4_allMoves_1 rfl (Nat.le_of_ble_eq_true rfl) rfl ?_
  refine J_iconst (v := 0) hB dX4_allMoves_2 rfl ?_
  refine J_istore (lv' := [(5, .int 0), (3, .long 0), (0, .ref (a b)), (1, .int p0), (2, .int p1)]) hB rfl dX4_allMoves_3 (Nat.le_of_ble_eq_true rfl) rfl ?_
  refine J_lv [2, 3, 4, 1, 0] rfl ?_
  refine lp2_1_J (P := fun x3_1 x5_2 => J l E rX4_allMoves Y (wRules E a b stones signs any back ring two) 5 [(0, .ref (a b)), (1, .int p0), (2, .int p1), (3, .long x3_1), (5, .int x5_2)] []) (Q := fun x3_3 => J l E rX4_allMoves Y (wRules E a b stones signs any back ring two) 38 [(3, .long x3_3)] []) (fun x3_1 x5_2 nx5 ex5 hnx5 hex5 hf => ?_) (fun x3_3 hf => ?_) hf
  · refine J_iload hB dX4_allMoves_5 4 rfl ?_
    refine J_aload_n hB dX4_allMoves_7 rfl 0 rfl ?_
    refine J_get (v := .int stones) hB inX4 0 rfl rfl 0 (Nat.le_of_ble_eq_true rfl) kf_X4_9 rfl dX4_allMoves_8 ?_
    refine J_icmp_ge (tgt := 38) hB dX4_allMoves_11 rfl (fun c_4 => ?_) (fun c_4 => ?_)
    · have hf := it_t c_4 hf
      exact J_lv [3] rfl (hex5 x3_1 hf)
    · have hf := it_f c_4 hf
      refine J_lload_n hB dX4_allMoves_14 rfl 3 rfl ?_
      refine J_aload_n hB dX4_allMoves_15 rfl 0 rfl ?_
      refine J_iload_n hB dX4_allMoves_16 rfl 1 rfl ?_
      refine J_iload hB dX4_allMoves_17 4 rfl ?_
      refine J_iload_n hB dX4_allMoves_19 rfl 2 rfl ?_
      obtain ⟨r_5, h_6, hf⟩ := cl1_e hf
      refine J_callV (As := [.int p0, .int x5_2, .int p1]) (rest := [.long x3_1]) (n := 3) (ws' := wRules E a b stones signs any back ring two) hB (c_X4_targets l E a b stones signs any back ring two h_6) mi_X4_targets ⟨ki_X4_targets, kv_X4_targets⟩ km_X4_35 ⟨rfl, rfl, Nat.le_of_ble_eq_true rfl, Nat.le_of_ble_eq_true rfl⟩ Lies.same 0 rfl rfl rfl rfl (Nat.le_of_ble_eq_true rfl) dX4_allMoves_20 ?_
      show J l E rX4_allMoves Y (wRules E a b stones signs any back ring two) 23 [(0, .ref (a b)), (1, .int p0), (2, .int p1), (3, .long x3_1), (5, .int x5_2)] [.int r_5, .long x3_1]
      refine J_i2l hB dX4_allMoves_23 ?_
      refine J_bipush (v := 8) hB dX4_allMoves_24 rfl ?_
      refine J_iload hB dX4_allMoves_26 4 rfl ?_
      refine J_imul hB dX4_allMoves_28 ?_
      refine J_lshl hB dX4_allMoves_29 ?_
      refine J_lor hB dX4_allMoves_30 ?_
      obtain ⟨x3_7, ex3_7, hf⟩ := nmv_e hf
      refine J_lstore_n (lv' := [(3, .long x3_7), (0, .ref (a b)), (1, .int p0), (2, .int p1), (5, .int x5_2)]) hB ex3_7 dX4_allMoves_31 rfl (Nat.le_of_ble_eq_true rfl) rfl ?_
      obtain ⟨x5_8, ex5_8, hf⟩ := nmv_e hf
      refine J_iinc (lv' := [(5, .int x5_8), (3, .long x3_7), (0, .ref (a b)), (1, .int p0), (2, .int p1)]) hB ex5_8 dX4_allMoves_32 4 rfl (Nat.le_of_ble_eq_true rfl) rfl ?_
      refine J_goto (tgt := 5) hB dX4_allMoves_35 rfl ?_
      exact J_lv [2, 3, 4, 1, 0] rfl (hnx5 x3_7 x5_8 hf)
  · refine J_lload_n hB dX4_allMoves_38 rfl 0 rfl ?_
    obtain rfl := Option.some.inj hf
    exact J_lret hB hR dX4_allMoves_39
