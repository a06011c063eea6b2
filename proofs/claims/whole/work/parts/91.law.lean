/-! THE CLAIM OUT OF ONE WALK OF THE LAW'S BODY. Your part is whole_start (and what it stands on); all else here is the same for every law, but numbers. -/
def R_law : String := "FrogsChangeSidesLaw"
def lw_P (b : Addr) (xs : List Int32) (args : Array Value) (s : State) : Prop := args = #[.ref b] ∧ s.IntsAt b xs ∧ xs.length ≤ 2048 ∧ (Jvm.Cond.and given_1 narrow_1).before args s = true
def lw_Q (_ : Array Value) (s : State) (o : Outcome) (t : State) : Prop := o = .returned (some (.int 1)) ∧ Framed s o t [] 600000 7302250
def lw_Z (below : List Frame) (a : Array Value) (s : State) : State → Prop := fun t => ∃ o, t.status = .running ∧ Ended t below o ∧ lw_Q a s o t
/-- the law's own end, with 1 on the stack, nothing written that was there before, its room as the claim has it -/
theorem lw_ret {p : Program} {l : Launch} {e : Env} {s : State} {m : MethodId} {below : List Frame} {meth : Method} {c : Code} {b : Nat} (hx : p.tables.exec = Jvm.exec) (hb : c.code = code) (hr : meth.sig.returnType = ret) (hlocks : meth.locks = false) {pc : Nat} {H : Heap} {ls : Array Slot} (hdg : decode code pc = .ok (.ireturn, 1)) : W p l e room_1 s m #[Value.ref b] below meth c H [] 600000 7302250 (lw_Z below #[Value.ref b] s) (F0 m pc ls [.int 1]) := by
  intro T hT X
  obtain ⟨fs, hret, hrun, hended, hW, hframe⟩ := X.leave (v := some (.int 1)) (hlocks := hlocks) (fun h => by rw [hr] at h; cases h)
  have hmeth' : T.vm.method? m = some meth := X.method'
  refine ⟨T.setFrames fs, ?_, .returned (some (.int 1)), hrun, hended, rfl, ⟨_, rfl⟩, hW, hframe⟩
  jvm_step X.here [X.here.top, hx, hb, hdg, hmeth', hr, ret, narrow_b1]
  (try refine ⟨rfl, ?_⟩); (try refine ⟨rfl, ?_⟩)
  first | (intro acts; rw [hret _ acts rfl rfl rfl]) | rw [hret _ _ rfl rfl rfl]
  exact Steps.refl _
/-- what holds at the law's entry: the machine, the code, the tables' words (any of lw_tbl by 'hts w (by decide +kernel)'), the script of L ints xs at the cell b, what the Statement gives of the start (any of its parts by flat_of_before) -/
def lw_At (p : Program) (s : State) (m : MethodId) (meth : Method) (c : Code) (b L : Nat) (xs : Nat → Int32) : Prop :=
  p.tables.exec = Jvm.exec ∧ c.code = code ∧ meth.sig.returnType = ret ∧ c.maxLocals = 4 ∧ s.vm.findClass R_law = some m.cls ∧ (∀ w ∈ lw_tbl, w.before #[Value.ref b] s = true) ∧ va_X b L xs s s.heap ∧ b < s.heap.size ∧ meth.locks = false ∧ (Jvm.Cond.and given_1 narrow_1).before #[Value.ref b] s = true
/-- the law's loop, at its head, with k calls made -/
theorem law_loop {l : Launch} {E : En} {Y : Cy} (hB : Cb E cL_law RL room_1 4 Y) {b L : Nat} {xs : Nat → Int32} (hX : va_X b L xs (ys Y) (ys Y).heap) (hbl : b < (ys Y).heap.size) (hbA : ¬ yA Y b) (hL : L ≤ 2048) (hend : ∀ (ws : va_W) (lv : List (Nat × Value)), J l E room_1 Y ws 755 lv [.int 1]) (a : Nat → Nat) :
    ∀ (f k : Nat) (wc wm : va_W) (n S : Nat) (rd : Nd) (pg : List Nat) (hs : List (Nat × Nat)) (im : Option (List (Nat × Nat))) (br : Nat), L + 4 ≤ 4 * k + f → 4 * k ≤ L → br ≤ k → Okk n S rd pg hs im br → WX E a wc n S rd pg hs im br → WM E a wm n S rd pg hs im br → J l E room_1 Y (wc ++ wm) 18 [(0, .ref b), (1, .ref (a 0)), (2, .ref (a 28)), (3, .int (nI (4 * k)))] [] := by
  intro f
  induction f with
  | zero =>
    intro k wc wm n S rd pg hs im br h1 h2
    exact absurd h1 (by omega)
  | succ f ih =>
    intro k wc wm n S rd pg hs im br h1 h2 hbr hO hW hN
    have eL : (nI L - (4 : Int32)).toInt = (L : Int) - 4 := by
      rw [Int32.toInt_sub, nI_toInt (by omega)]
      show ((L : Int) - 4).bmod _ = _
      apply Int.bmod_eq_of_le <;> omega
    have e4 : (nI (4 * k)).toInt = ((4 * k : Nat) : Int) := nI_toInt (by omega)
    refine J_iload_n hB dL_law_18 rfl 3 rfl ?_
    refine J_aload_n hB dL_law_19 rfl 0 rfl ?_
    refine J_slen hB hX hbl hbA dL_law_20 ?_
    refine J_iconst (v := 4) hB dL_law_21 rfl ?_
    refine J_isub hB dL_law_22 ?_
    refine J_icmp_gt (tgt := 754) hB dL_law_23 rfl (fun _ => ?_) (fun q => ?_)
    · refine J_iconst (v := 1) hB dL_law_754 rfl ?_
      exact hend _ _
    · have hk4 : 4 * k + 4 ≤ L := by
        rw [Int32.lt_iff_toInt_lt, eL, e4] at q
        omega
      have v0 : vp_in (nI (4 * k)) L := vp_in_nI (by omega) (by omega)
      have v1 : vp_in (nI (4 * k) + 1) L := by rw [nI_1]; exact vp_in_nI (by omega) (by omega)
      have v2 : vp_in (nI (4 * k) + 2) L := by rw [n_lit 2, nI_add]; exact vp_in_nI (by omega) (by omega)
      have v3 : vp_in (nI (4 * k) + 3) L := by rw [n_lit 3, nI_add]; exact vp_in_nI (by omega) (by omega)
      have hb1 : br + 1 < 1000000 := by omega
      have hnext : ∀ (wc' wm' : va_W) (n' S' : Nat) (rd' : Nd) (pg' : List Nat) (hs' : List (Nat × Nat)) (im' : Option (List (Nat × Nat))) (br' : Nat), Okk n' S' rd' pg' hs' im' br' → br' ≤ br + 1 → WX E a wc' n' S' rd' pg' hs' im' br' → WM E a wm' n' S' rd' pg' hs' im' br' → J l E room_1 Y (wc' ++ wm') 748 [(0, .ref b), (1, .ref (a 0)), (2, .ref (a 28)), (3, .int (nI (4 * k)))] [] := by
        intro wc' wm' n' S' rd' pg' hs' im' br' hO' hbr' hW' hN'
        refine J_iinc (v := nI (4 * (k + 1))) (lv' := [(3, .int (nI (4 * (k + 1)))), (0, .ref b), (1, .ref (a 0)), (2, .ref (a 28))]) hB (by show _ = nI (4 * k) + nI 4; rw [nI_add]; congr 1) dL_law_748 3 rfl (Nat.le_of_ble_eq_true rfl) rfl ?_
        refine J_goto (tgt := 18) hB dL_law_751 rfl ?_
        refine J_lv [1, 2, 3, 0] rfl ?_
        exact ih (k + 1) wc' wm' n' S' rd' pg' hs' im' br' (by omega) (by omega) (by omega) hO' hW' hN'
      refine J_aload_n hB dL_law_26 rfl 0 rfl ?_
      refine J_iload_n hB dL_law_27 rfl 3 rfl ?_
      refine J_sld hB hX hbl hbA v0 dL_law_28 ?_
      refine J_bipush (v := 31) hB dL_law_29 rfl ?_
      refine J_iand hB dL_law_31 ?_
      obtain ⟨c, hc, e31⟩ := and31 (xs (nI (4 * k)).toNatClampNeg)
      by_cases hc26 : c ≤ 26
      · rcases (show c = 0 ∨ c = 1 ∨ c = 2 ∨ c = 3 ∨ c = 4 ∨ c = 5 ∨ c = 6 ∨ c = 7 ∨ c = 8 ∨ c = 9 ∨ c = 10 ∨ c = 11 ∨ c = 12 ∨ c = 13 ∨ c = 14 ∨ c = 15 ∨ c = 16 ∨ c = 17 ∨ c = 18 ∨ c = 19 ∨ c = 20 ∨ c = 21 ∨ c = 22 ∨ c = 23 ∨ c = 24 ∨ c = 25 ∨ c = 26 by omega) with rfl | rfl | rfl | rfl | rfl | rfl | rfl | rfl | rfl | rfl | rfl | rfl | rfl | rfl | rfl | rfl | rfl | rfl | rfl | rfl | rfl | rfl | rfl | rfl | rfl | rfl | rfl
        · exact J_tswIn (tgt := 156) hB 0 e31 (by decide) dL_law_32 (by decide) rfl rfl (lw_c0 hB hX hbl hbA hO hW hN v1 v2 v3 hb1 hnext)
        · exact J_tswIn (tgt := 209) hB 1 e31 (by decide) dL_law_32 (by decide) rfl rfl (lw_c1 hB hX hbl hbA hO hW hN v1 v2 v3 hb1 hnext)
        · exact J_tswIn (tgt := 222) hB 2 e31 (by decide) dL_law_32 (by decide) rfl rfl (lw_c2 hB hX hbl hbA hO hW hN v1 v2 v3 hb1 hnext)
        · exact J_tswIn (tgt := 235) hB 3 e31 (by decide) dL_law_32 (by decide) rfl rfl (lw_c3 hB hX hbl hbA hO hW hN v1 v2 v3 hb1 hnext)
        · exact J_tswIn (tgt := 248) hB 4 e31 (by decide) dL_law_32 (by decide) rfl rfl (lw_c4 hB hX hbl hbA hO hW hN v1 v2 v3 hb1 hnext)
        · exact J_tswIn (tgt := 271) hB 5 e31 (by decide) dL_law_32 (by decide) rfl rfl (lw_c5 hB hX hbl hbA hO hW hN v1 v2 v3 hb1 hnext)
        · exact J_tswIn (tgt := 294) hB 6 e31 (by decide) dL_law_32 (by decide) rfl rfl (lw_c6 hB hX hbl hbA hO hW hN v1 v2 v3 hb1 hnext)
        · exact J_tswIn (tgt := 327) hB 7 e31 (by decide) dL_law_32 (by decide) rfl rfl (lw_c7 hB hX hbl hbA hO hW hN v1 v2 v3 hb1 hnext)
        · exact J_tswIn (tgt := 360) hB 8 e31 (by decide) dL_law_32 (by decide) rfl rfl (lw_c8 hB hX hbl hbA hO hW hN v1 v2 v3 hb1 hnext)
        · exact J_tswIn (tgt := 393) hB 9 e31 (by decide) dL_law_32 (by decide) rfl rfl (lw_c9 hB hX hbl hbA hO hW hN v1 v2 v3 hb1 hnext)
        · exact J_tswIn (tgt := 406) hB 10 e31 (by decide) dL_law_32 (by decide) rfl rfl (lw_c10 hB hX hbl hbA hO hW hN v1 v2 v3 hb1 hnext)
        · exact J_tswIn (tgt := 439) hB 11 e31 (by decide) dL_law_32 (by decide) rfl rfl (lw_c11 hB hX hbl hbA hO hW hN v1 v2 v3 hb1 hnext)
        · exact J_tswIn (tgt := 452) hB 12 e31 (by decide) dL_law_32 (by decide) rfl rfl (lw_c12 hB hX hbl hbA hO hW hN v1 v2 v3 hb1 hnext)
        · exact J_tswIn (tgt := 475) hB 13 e31 (by decide) dL_law_32 (by decide) rfl rfl (lw_c13 hB hX hbl hbA hO hW hN v1 v2 v3 hb1 hnext)
        · exact J_tswIn (tgt := 488) hB 14 e31 (by decide) dL_law_32 (by decide) rfl rfl (lw_c14 hB hX hbl hbA hO hW hN v1 v2 v3 hb1 hnext)
        · exact J_tswIn (tgt := 501) hB 15 e31 (by decide) dL_law_32 (by decide) rfl rfl (lw_c15 hB hX hbl hbA hO hW hN v1 v2 v3 hb1 hnext)
        · exact J_tswIn (tgt := 514) hB 16 e31 (by decide) dL_law_32 (by decide) rfl rfl (lw_c16 hB hX hbl hbA hO hW hN v1 v2 v3 hb1 hnext)
        · exact J_tswIn (tgt := 527) hB 17 e31 (by decide) dL_law_32 (by decide) rfl rfl (lw_c17 hB hX hbl hbA hO hW hN v1 v2 v3 hb1 hnext)
        · exact J_tswIn (tgt := 540) hB 18 e31 (by decide) dL_law_32 (by decide) rfl rfl (lw_c18 hB hX hbl hbA hO hW hN v1 v2 v3 hb1 hnext)
        · exact J_tswIn (tgt := 563) hB 19 e31 (by decide) dL_law_32 (by decide) rfl rfl (lw_c19 hB hX hbl hbA hO hW hN v1 v2 v3 hb1 hnext)
        · exact J_tswIn (tgt := 586) hB 20 e31 (by decide) dL_law_32 (by decide) rfl rfl (lw_c20 hB hX hbl hbA hO hW hN v1 v2 v3 hb1 hnext)
        · exact J_tswIn (tgt := 609) hB 21 e31 (by decide) dL_law_32 (by decide) rfl rfl (lw_c21 hB hX hbl hbA hO hW hN v1 v2 v3 hb1 hnext)
        · exact J_tswIn (tgt := 642) hB 22 e31 (by decide) dL_law_32 (by decide) rfl rfl (lw_c22 hB hX hbl hbA hO hW hN v1 v2 v3 hb1 hnext)
        · exact J_tswIn (tgt := 685) hB 23 e31 (by decide) dL_law_32 (by decide) rfl rfl (lw_c23 hB hX hbl hbA hO hW hN v1 v2 v3 hb1 hnext)
        · exact J_tswIn (tgt := 698) hB 24 e31 (by decide) dL_law_32 (by decide) rfl rfl (lw_c24 hB hX hbl hbA hO hW hN v1 v2 v3 hb1 hnext)
        · exact J_tswIn (tgt := 711) hB 25 e31 (by decide) dL_law_32 (by decide) rfl rfl (lw_c25 hB hX hbl hbA hO hW hN v1 v2 v3 hb1 hnext)
        · exact J_tswIn (tgt := 734) hB 26 e31 (by decide) dL_law_32 (by decide) rfl rfl (lw_c26 hB hX hbl hbA hO hW hN v1 v2 v3 hb1 hnext)
      · refine J_tswOut (tgt := 748) hB (Or.inr (by rw [e31, nI_toInt (by omega)]; omega)) dL_law_32 rfl ?_
        exact hnext wc wm n S rd pg hs im br hO (by omega) hW hN
theorem ok_0 : Okk 0 0 [] [] [] none 0 := ⟨⟨⟨rfl, fun k hk => by simp at hk⟩, by decide, trivial, by decide⟩, by decide, Or.inl rfl, fun hs e => by (cases e), by decide⟩
theorem pg_0 (c : A32) : pgR [] c 0 := ⟨rfl, fun i hi => absurd hi (Nat.not_lt_zero _), by simp, fun c hc => by simp at hc⟩
theorem wx_0 (E : En) (a : Nat → Nat) : WX E a (wX E a 0 (fun _ => 0) 0 0 0 0 0 0 0 0 0 0 0 0 0 (fun _ => 0) (fun _ => 0) 0 0 0 (fun _ => 0) (fun _ => 0) 0 0 0 (fun _ => 0) (fun _ => 0) 0 (fun _ => 0) (fun _ => 0) 0 0 (fun _ => 0) (fun _ => 0) 0 (fun _ => 0) (fun _ => 0) 0 0 (fun _ => 0) (fun _ => 0) 0 (fun _ => 0) 0 0 0 0 0) 0 0 [] [] [] none 0 := ⟨_, _, _, _, _, _, _, _, _, _, _, _, _, _, _, _, _, _, _, _, _, _, _, _, _, _, _, _, _, _, _, _, _, _, _, _, _, _, _, _, _, _, _, _, _, _, _, rfl, pg_0 _, ⟨rfl, rfl, rfl, rfl, rfl, rfl, by decide, rfl⟩, ⟨rfl, rfl, rfl, trivial⟩, ⟨rfl, fun hs e => by cases e⟩, fun h => absurd rfl h, fun h => absurd rfl h, rfl, rfl, rfl, rfl⟩
theorem wm_0 (E : En) (a : Nat → Nat) : WM E a (wM E a 28 0 0 0 0 0 0 (fun _ => 0) (fun _ => 0) (fun _ => 0) 0 (fun _ => 0) 0 (fun _ => 0) (fun _ => 0) 0 (fun _ => 0) 0 0 0 0 (fun _ => 0) 0 (fun _ => 0) (fun _ => 0) (fun _ => 0) (fun _ => 0) 0 0 0 (fun _ => 0) 0 0 0 0 (fun _ => 0) (fun _ => 0) (fun _ => 0) (fun _ => 0) 0) 0 0 [] [] [] none 0 := ⟨_, _, _, _, _, _, _, _, _, _, _, _, _, _, _, _, _, _, _, _, _, _, _, _, _, _, _, _, _, _, _, _, _, _, _, _, _, _, _, rfl, rfl, rfl, rfl, rfl, rfl, rfl, fun i hi => absurd hi (Nat.not_lt_zero _), ⟨fun i hi => absurd hi (Nat.not_lt_zero _), fun i hi => absurd hi (Nat.not_lt_zero _), rfl, trivial⟩, ⟨rfl, fun f hf => absurd hf (Nat.not_lt_zero _)⟩, pg_0 _, ⟨[], rfl, by decide, fun i hi => absurd hi (Nat.not_lt_zero _), fun c hc => by simp at hc, fun c _ _ => ⟨rfl, rfl⟩⟩, ⟨fun _ => Or.inl rfl, fun hs e => by cases e⟩⟩
theorem kL7 : Cond.classLink RL 7 RX7 ∈ bigW := kq_L_7
theorem law_made {l : Launch} {E : En} {Y : Cy} (hB : Cb E cL_law RL room_1 4 (wk Y 0 0)) {b L : Nat} {xs : Nat → Int32} (hX : va_X b L xs (ys Y) (ys Y).heap) (hbl : b < (ys Y).heap.size) (hbA : ¬ yA Y b) (hL : L ≤ 2048) (hend : ∀ (ws : va_W) (lv : List (Nat × Value)), J l E room_1 (wk Y 46 321353) ws 755 lv [.int 1]) : J l E room_1 (wk Y 0 0) [] 0 [(0, .ref b)] [] := by
  refine J_new (ci := 6) (fs := [.null, .null, .null, .null, .null, .null, .null, .null, .int 0, .int 0, .int 0, .int 0, .int 0]) (k' := 1) (n' := 13) hB inX7 tyX7 tyX7_ok kq_L_7 kz_X7 kn_X7 rfl (fun j hj => by rcases (show j = 0 ∨ j = 1 ∨ j = 2 ∨ j = 3 ∨ j = 4 ∨ j = 5 ∨ j = 6 ∨ j = 7 ∨ j = 8 ∨ j = 9 ∨ j = 10 ∨ j = 11 ∨ j = 12 by omega) with rfl | rfl | rfl | rfl | rfl | rfl | rfl | rfl | rfl | rfl | rfl | rfl | rfl <;> rfl) rfl rfl (Nat.le_of_ble_eq_true rfl) (Nat.le_of_ble_eq_true rfl) dL_law_0 (fun q0 hB => ?_)
  show J l E room_1 (wk Y 1 13) [ob q0 6 [.null, .null, .null, .null, .null, .null, .null, .null, .int 0, .int 0, .int 0, .int 0, .int 0]] 3 [(0, .ref b)] [.ref q0]
  refine J_dup hB dL_law_3 rfl ?_
  refine J_callI (w1 := []) (k' := 28) (n' := 8504) hB (c_X7_init l E q0) mi_X7_init ⟨rfl, ki_X7_init⟩ km_L_9 ⟨rfl, rfl, (Nat.le_of_ble_eq_true rfl), (Nat.le_of_ble_eq_true rfl)⟩ rfl (Nat.le_of_ble_eq_true rfl) dL_law_4 rfl rfl (Nat.le_of_ble_eq_true rfl) (Nat.le_of_ble_eq_true rfl) (fun w' hw hB => ?_)
  obtain ⟨q1, q2, q3, q4, q5, q6, q7, q8, q9, q10, q11, q12, q13, q14, q15, q16, q17, q18, q19, q20, q21, q22, q23, q24, q25, q26, q27, rfl⟩ := hw
  show J l E room_1 (wk Y 28 8504) [ob q0 6 [.ref q1, .ref q3, .ref q4, .ref q5, .ref q8, .ref q11, .ref q17, .ref q23, .int 0, .int 0, .int 0, .int 0, .int 0], ob q1 1 [.ref q2, .int 0], ia E q2 14 (fun _ => 0), ob q3 3 [.int 0, .int 0, .int 0, .int 0, .int 0, .int 0], ob q4 3 [.int 0, .int 0, .int 0, .int 0, .int 0, .int 0], ob q5 2 [.ref q6, .ref q7, .int 0, .int 0, .int 0], ia E q6 60 (fun _ => 0), ia E q7 60 (fun _ => 0), ob q8 2 [.ref q9, .ref q10, .int 0, .int 0, .int 0], ia E q9 60 (fun _ => 0), ia E q10 60 (fun _ => 0), ob q11 4 [.ref q12, .ref q15, .ref q16, .int 0, .int 0], ob q12 5 [.ref q13, .ref q14, .int 0], ia E q13 1024 (fun _ => 0), ia E q14 640 (fun _ => 0), ia E q15 640 (fun _ => 0), ia E q16 640 (fun _ => 0), ob q17 4 [.ref q18, .ref q21, .ref q22, .int 0, .int 0], ob q18 5 [.ref q19, .ref q20, .int 0], ia E q19 1024 (fun _ => 0), ia E q20 640 (fun _ => 0), ia E q21 640 (fun _ => 0), ia E q22 640 (fun _ => 0), ob q23 0 [.ref q24, .ref q27], ob q24 5 [.ref q25, .ref q26, .int 0], ia E q25 1024 (fun _ => 0), ia E q26 640 (fun _ => 0), ia E q27 640 (fun _ => 0)] 7 [(0, .ref b)] [.ref q0]
  refine J_astore_n (lv' := [(1, .ref q0), (0, .ref b)]) hB dL_law_7 rfl (Nat.le_of_ble_eq_true rfl) rfl ?_
  refine J_new (ci := 7) (fs := [.int 0, .int 0, .int 0, .int 0, .int 0, .int 0, .null, .null, .null, .int 0, .null, .int 0, .null, .null, .int 0, .null, .int 0, .int 0, .int 0, .int 0, .null, .int 0, .null, .null, .null, .null, .int 0, .int 0, .int 0, .null, .long 0, .int 0, .int 0, .int 0, .null, .null, .null, .null, .long 0]) (k' := 29) (n' := 8543) hB inX8 tyX8 tyX8_ok kq_L_10 kz_X8 kn_X8 rfl (fun j hj => by rcases (show j = 0 ∨ j = 1 ∨ j = 2 ∨ j = 3 ∨ j = 4 ∨ j = 5 ∨ j = 6 ∨ j = 7 ∨ j = 8 ∨ j = 9 ∨ j = 10 ∨ j = 11 ∨ j = 12 ∨ j = 13 ∨ j = 14 ∨ j = 15 ∨ j = 16 ∨ j = 17 ∨ j = 18 ∨ j = 19 ∨ j = 20 ∨ j = 21 ∨ j = 22 ∨ j = 23 ∨ j = 24 ∨ j = 25 ∨ j = 26 ∨ j = 27 ∨ j = 28 ∨ j = 29 ∨ j = 30 ∨ j = 31 ∨ j = 32 ∨ j = 33 ∨ j = 34 ∨ j = 35 ∨ j = 36 ∨ j = 37 ∨ j = 38 by omega) with rfl | rfl | rfl | rfl | rfl | rfl | rfl | rfl | rfl | rfl | rfl | rfl | rfl | rfl | rfl | rfl | rfl | rfl | rfl | rfl | rfl | rfl | rfl | rfl | rfl | rfl | rfl | rfl | rfl | rfl | rfl | rfl | rfl | rfl | rfl | rfl | rfl | rfl | rfl <;> rfl) rfl rfl (Nat.le_of_ble_eq_true rfl) (Nat.le_of_ble_eq_true rfl) dL_law_8 (fun q28 hB => ?_)
  refine J_dup hB dL_law_11 rfl ?_
  refine J_callI (w1 := [ob q0 6 [.ref q1, .ref q3, .ref q4, .ref q5, .ref q8, .ref q11, .ref q17, .ref q23, .int 0, .int 0, .int 0, .int 0, .int 0], ob q1 1 [.ref q2, .int 0], ia E q2 14 (fun _ => 0), ob q3 3 [.int 0, .int 0, .int 0, .int 0, .int 0, .int 0], ob q4 3 [.int 0, .int 0, .int 0, .int 0, .int 0, .int 0], ob q5 2 [.ref q6, .ref q7, .int 0, .int 0, .int 0], ia E q6 60 (fun _ => 0), ia E q7 60 (fun _ => 0), ob q8 2 [.ref q9, .ref q10, .int 0, .int 0, .int 0], ia E q9 60 (fun _ => 0), ia E q10 60 (fun _ => 0), ob q11 4 [.ref q12, .ref q15, .ref q16, .int 0, .int 0], ob q12 5 [.ref q13, .ref q14, .int 0], ia E q13 1024 (fun _ => 0), ia E q14 640 (fun _ => 0), ia E q15 640 (fun _ => 0), ia E q16 640 (fun _ => 0), ob q17 4 [.ref q18, .ref q21, .ref q22, .int 0, .int 0], ob q18 5 [.ref q19, .ref q20, .int 0], ia E q19 1024 (fun _ => 0), ia E q20 640 (fun _ => 0), ia E q21 640 (fun _ => 0), ia E q22 640 (fun _ => 0), ob q23 0 [.ref q24, .ref q27], ob q24 5 [.ref q25, .ref q26, .int 0], ia E q25 1024 (fun _ => 0), ia E q26 640 (fun _ => 0), ia E q27 640 (fun _ => 0)]) (k' := 46) (n' := 321353) hB (c_X8_init l E q28) mi_X8_init ⟨rfl, ki_X8_init⟩ km_L_12 ⟨rfl, rfl, (Nat.le_of_ble_eq_true rfl), (Nat.le_of_ble_eq_true rfl)⟩ rfl (Nat.le_of_ble_eq_true rfl) dL_law_12 rfl rfl (Nat.le_of_ble_eq_true rfl) (Nat.le_of_ble_eq_true rfl) (fun w' hw hB => ?_)
  obtain ⟨q29, q30, q31, q32, q33, q34, q35, q36, q37, q38, q39, q40, q41, q42, q43, q44, q45, rfl⟩ := hw
  refine J_astore_n (lv' := [(2, .ref q28), (1, .ref q0), (0, .ref b)]) hB dL_law_15 rfl (Nat.le_of_ble_eq_true rfl) rfl ?_
  refine J_iconst (v := 0) hB dL_law_16 rfl ?_
  refine J_istore_n (v := 0) (lv' := [(3, .int 0), (2, .ref q28), (1, .ref q0), (0, .ref b)]) hB rfl dL_law_17 rfl (Nat.le_of_ble_eq_true rfl) rfl ?_
  refine J_lv [3, 2, 1, 0] rfl ?_
  exact law_loop hB hX hbl hbA hL hend (fun i => ([q0, q1, q2, q3, q4, q5, q6, q7, q8, q9, q10, q11, q12, q13, q14, q15, q16, q17, q18, q19, q20, q21, q22, q23, q24, q25, q26, q27, q28, q29, q30, q31, q32, q33, q34, q35, q36, q37, q38, q39, q40, q41, q42, q43, q44, q45] : List Nat).getD i 0) (L + 4) 0 _ _ 0 0 [] [] [] none 0 (by omega) (by omega) (Nat.le_refl _) ok_0 (wx_0 E _) (wm_0 E _)
set_option maxHeartbeats 4000000 in
set_option maxRecDepth 100000 in
theorem whole_start {p : Program} {e : Env} {s : State} {m : MethodId} {below : List Frame} {meth : Method} {c : Code} (l : Launch) (hflags : l.flags = flags0) {b L : Nat} {xs : Nat → Int32} (hL : L ≤ 2048) (C0 : lw_At p s m meth c b L xs) : W p l e room_1 s m #[Value.ref b] below meth c s.heap [] 0 0 (lw_Z below #[Value.ref b] s) (entryFrame m ([Value.ref b] : List Value).toArray 4) := by
  obtain ⟨hx, hb, hr, hml, hown, hts, hX, hbl, hlocks, hgv⟩ := id C0
  have hbw : ∀ w ∈ bigW, w.before #[Value.ref b] s = true := fun w h => hts w (bigIn w h)
  obtain ⟨c0, s0, hn0⟩ := u_known (C := RX0) (T := TX0) (N := 2) (n := 2) hbw inX0 (hbw _ kz_X0)
  obtain ⟨c1, s1, hn1⟩ := u_known (C := RX1) (T := TX1) (N := 2) (n := 2) hbw inX1 (hbw _ kz_X1)
  obtain ⟨c2, s2, hn2⟩ := u_known (C := RX2) (T := TX2) (N := 5) (n := 5) hbw inX2 (hbw _ kz_X2)
  obtain ⟨c3, s3, hn3⟩ := u_known (C := RX4) (T := TX4) (N := 6) (n := 6) hbw inX4 (hbw _ kz_X4)
  obtain ⟨c4, s4, hn4⟩ := u_known (C := RX5) (T := TX5) (N := 5) (n := 5) hbw inX5 (hbw _ kz_X5)
  obtain ⟨c5, s5, hn5⟩ := u_known (C := RX6) (T := TX6) (N := 3) (n := 3) hbw inX6 (hbw _ kz_X6)
  obtain ⟨c6, s6, hn6⟩ := u_known (C := RX7) (T := TX7) (N := 13) (n := 13) hbw inX7 (hbw _ kz_X7)
  obtain ⟨c7, s7, hn7⟩ := u_known (C := RX8) (T := TX8) (N := 39) (n := 39) hbw inX8 (hbw _ kz_X8)
  obtain ⟨dC, dI, hKc⟩ : ∃ (dC : Nat → ClassId) (dI : Nat → Nat → Nat), ∀ (k : Nat) (q : vw_C), vwCl[k]? = some q → u_Kn s q.1 q.2.1 q.2.2 (dC k) (dI k) := by
    refine ⟨fun k => [c0, c1, c2, c3, c4, c5, c6, c7].getD k c0, fun k => [s0, s1, s2, s3, s4, s5, s6, s7].getD k s0, ?_⟩
    intro k q hq
    match k, hq with
    | 0, hq => cases hq; exact hn0
    | 1, hq => cases hq; exact hn1
    | 2, hq => cases hq; exact hn2
    | 3, hq => cases hq; exact hn3
    | 4, hq => cases hq; exact hn4
    | 5, hq => cases hq; exact hn5
    | 6, hq => cases hq; exact hn6
    | 7, hq => cases hq; exact hn7
    | k + 8, hq => simp [vwCl] at hq
  obtain ⟨aI, kI, pI, i1, i2, i3⟩ := Cond.arrayClass_spec (hbw _ kaI)
  obtain ⟨aB, kB, pB, j1, j2, j3⟩ := Cond.arrayClass_spec (hbw _ kaB)
  obtain ⟨aL, kL, pL, l1, l2, l3⟩ := Cond.arrayClass_spec (hbw _ kaL)
  have hK : va_K (dC, dI) vwCl [(aI, .int), (aB, .byte), (aL, .long)] s := by
    refine ⟨hKc, fun k q hq => ?_⟩
    match k, hq with
    | 0, hq => cases hq; exact ⟨fun n z => ⟨fun k h => (by cases h), kI, i2, pI, i3⟩, i1⟩
    | 1, hq => cases hq; exact ⟨fun n z => ⟨fun k h => (by cases h), kB, j2, pB, j3⟩, j1⟩
    | 2, hq => cases hq; exact ⟨fun n z => ⟨fun k h => (by cases h), kL, l2, pL, l3⟩, l1⟩
    | k + 3, hq => simp at hq
  have hbA : ¬ (fun q : Nat => s.heap.size ≤ q) b := Nat.not_le.mpr hbl
  have hend : ∀ (ws : va_W) (lv : List (Nat × Value)), J l ((dC, dI), aI, aB, aL) room_1 (wk (p, e, s, m, #[Value.ref b], below, meth, c, fun q : Nat => s.heap.size ≤ q, lw_Z below #[Value.ref b] s, 4, 0, 0) 46 321353) ws 755 lv [.int 1] := by
    intro ws lv H locs ls hP hD hS hl
    refine va_forget (fun q hq => hS.2.2 q hq) ?_
    refine W.widen (k := 600000) (n := 7302250) (Nat.le_of_ble_eq_true rfl) (Nat.le_of_ble_eq_true rfl) ?_
    exact lw_ret hx hb hr hlocks dL_law_755
  rw [lg_entry_eq]
  have b0 := law_made (l := l) (E := ((dC, dI), aI, aB, aL)) (Y := (p, e, s, m, #[Value.ref b], below, meth, c, fun q : Nat => s.heap.size ≤ q, lw_Z below #[Value.ref b] s, 4, 0, 0))
    ⟨hx, hb, hml, hown, hbw, hK, nest_ok hts, fun _ h => h, ⟨Nat.zero_le _, Nat.zero_le _⟩, rfl⟩ hX hbl hbA hL hend
  exact b0 s.heap [] _ (fun k q h => by simp at h) ⟨fun i j p q h => by simp at h, fun k q h => by simp at h⟩ va_S.rf (lv_entry ([.ref b]) (n := 4) (Nat.le_of_ble_eq_true rfl))
set_option maxHeartbeats 4000000 in
theorem lw_walk (l : Launch) (hflags : l.flags = flags0) (b : Addr) (xs : List Int32) : MetFree l x (headSpec (Jvm.Cond.code x code maxLocals ret :: tables_1) room_1) (lw_P b xs) (fun _ _ _ _ _ => True) lw_Q := by
  refine MetFree.of_bodyS (code := code) (maxLocals := maxLocals) (ret := ret) (by decide) ?_ ?_
  · intro args s m h hn
    obtain ⟨meth, c, h1, h2, h3, h4, h5, h6, -, -⟩ := Cond.code_spec hn (atoms_spec (ws := Jvm.Cond.code x code maxLocals ret :: tables_1) h _ List.mem_cons_self)
    exact ⟨meth, c, h1, h2, h3, h4, h5, h6⟩
  · intro p e s m args below meth c s₁ B hml0 hP _
    obtain ⟨rfl, hx, hbd, hgv⟩ := hP
    obtain ⟨scr, harrAt, hlist, hof, hsmall⟩ := hx
    obtain ⟨hcb, hkn, -, -⟩ := State.arrayAt?_spec harrAt
    have hown : s.vm.findClass R_law = some m.cls := findClass_of_methodNamed B.named
    have hts0 : ∀ c ∈ (Jvm.Cond.code x code maxLocals ret :: tables_1), c.before #[Value.ref b] s = true := atoms_spec (ws := Jvm.Cond.code x code maxLocals ret :: tables_1) B.pre
    have hts : ∀ w ∈ lw_tbl, w.before #[Value.ref b] s = true := k2_hts_sels lw_privs (fun w hw => hts0 w (List.mem_cons_of_mem _ hw)) lw_privs_ok
    have hml : c.maxLocals = 4 := B.maxLocals_eq (hts0 _ List.mem_cons_self)
    have X₀ : Stand p l e room_1 s m #[Value.ref b] below meth c s₁ [] 0 0 := Stand.of_body B
    have hh0 : s₁.heap = s.heap := by rw [B.state]; rfl
    have hsz : scr.slots.size = xs.length := by rw [← Array.length_toList, hlist, List.length_map]
    have hval : ∀ j : Nat, j < xs.length → scr.slots[j]? = some (.int (xs.getD j 0)) := fun j hj => by
      rw [← Array.getElem?_toList, hlist]
      simp [hj]
    have hbl : b < s.heap.size := (Array.getElem?_eq_some_iff.mp hcb).1
    have hX : va_X b xs.length (fun j => xs.getD j 0) s s.heap := ⟨scr, hcb, hof, hkn, hsz, hval⟩
    have K : W p l e room_1 s m #[Value.ref b] below meth c s₁.heap [] 0 0 (lw_Z below #[Value.ref b] s) (entryFrame m ([Value.ref b] : List Value).toArray 4) := by
      rw [hh0]
      exact whole_start l hflags hbd ⟨B.exec, B.bytes, B.returns, hml, hown, hts, hX, hbl, B.notSynchronized, hgv⟩
    obtain ⟨t, a1, o, b1, b2, b3⟩ := K s₁ rfl X₀
    exact ⟨t, o, a1, b1, b2, b3⟩
theorem lw_pre_spec {args : Array Value} {s : State} (h : (Jvm.Cond.and given_1 narrow_1).before args s = true) (hr : rest_1_c.before args s = true) : ∃ (b : Addr) (xs : List Int32), lw_P b xs args s := by
  have hs := flat_of_before _ h
  have hq := flat_of_before _ hr
  have hc : (Cond.count 1).before args s = true := hs _ (by decide +kernel)
  have harr : (Cond.arrayOf (.arg 0) .int).before args s = true := hs _ (by decide +kernel)
  have hle : (Cond.le (.length (.arg 0)) (.int 2048)).before args s = true := hs _ (by decide +kernel)
  have hlen : (Cond.isInt (.length (.arg 0))).before args s = true := hq _ (by decide +kernel)
  have hall : (Cond.all (.arg 0) (.isInt (.elem (.arg 0) (.index 0)))).before args s = true := hq _ (by decide +kernel)
  obtain ⟨b, xs, hb, hx⟩ := State.ints_of_pre rfl harr hlen hall
  have hsm : xs.length < 2 ^ 31 := hx.choose_spec.2.2.2
  have hev : (Term.length (.arg 0)).eval args s none [] s = some (.int xs.length.toInt32) := hx.length_eval hb
  have hv := Cond.le_ints hev (show (Term.int 2048).eval args s none [] s = some (.int 2048) from rfl)
  have hd : xs.length.toInt32 ≤ 2048 := by
    simpa [Cond.before, Cond.holds, hv] using hle
  have hN : xs.length ≤ 2048 := (Int32.ofNat_le_ofNat hsm (by decide)).mp (show Int32.ofNat xs.length ≤ Int32.ofNat 2048 from hd)
  exact ⟨b, xs, Cond.one_arg hc (show args[0]? = some (.ref b) from hb), hx, hN, h⟩
theorem lw_comes (l : Launch) (hflags : l.flags = flags0) : Comes l x (Jvm.Cond.code x code maxLocals ret :: tables_1) room_1 (fun tb e args s => Calls_1 tb e args s ∧ rest_1 tb e args s ∧ Pre_1 tb e args s)
    (fun _ _ args s o t => lw_Q args s o t) := by
  intro p e ha hc hk s m args below hf hfit hheap happ hpre
  obtain ⟨b, xs, hP⟩ := lw_pre_spec hpre.2.2 hpre.2.1
  obtain ⟨k, o, h1, h2, h3, hQ⟩ := lw_walk l hflags b xs p e ha hc hk s m args below hf ((Spec.applies_iff_loose hf).mp happ).1 hP trivial
  exact ⟨k, o, h1, h2, h3, hQ⟩
theorem lw_frame {s t : State} {o : Outcome} {args : Array Value} (h : Framed s o t [] 600000 7302250) :
    Framed s o t (fieldLocs frame_1_writes args s ++ arrayLocs frame_1_arrays args s ++ staticLocs frame_1_statics s) 600000 7302250 := h
theorem lw_limb (L : Cond) (hL : ∀ (args : Array Value) (s t : State), L.after args s (.returned (some (.int 1))) t = true) :
    ArmFor flags0 classFile x code maxLocals ret World_1 tables_1 room_1 Calls_1 rest_1 Pre_1
      (fun tb e a s o t => postC L tb e a s o t ∧ Framed s o t (fieldLocs frame_1_writes a s ++ arrayLocs frame_1_arrays a s ++ staticLocs frame_1_statics s) 600000 7302250) := by
  intro l hflags _ _ p e ha hc hk s m args below hf hfit hheap happ hpre
  obtain ⟨k, o, h1, h2, h3, rfl, hF⟩ := lw_comes l hflags p e ha hc hk s m args below hf hfit hheap happ hpre
  exact ⟨k, _, h1, h2, h3, hL args s _, lw_frame hF⟩
theorem i_vc : Claimed_1_1 ∧ Claimed_1_2 := ⟨lw_limb limb_1_1 (fun args s t => by simp [limb_1_1, Cond.after, Cond.holds, Cond.value]), lw_limb limb_1_2 (fun args s t => Cond.after_iff.mpr (by
  first | (rw [show limb_1_2 = Cond.eq .result (.int 1) from rfl, Cond.eq_ints (x := 1) (y := 1) rfl rfl]; simp; done) | (simp [limb_1_2, Cond.value, Term.eval]; done)))⟩
