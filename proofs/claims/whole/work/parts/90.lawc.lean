/-! ===== the law: rows, and its calls ===== -/
def AX (a : Nat → Nat) : List Nat := [a 0, a 1, a 2, a 3, a 4, a 5, a 6, a 7, a 8, a 9, a 10, a 11, a 12, a 13, a 14, a 15, a 16, a 17, a 18, a 19, a 20, a 21, a 22, a 23, a 24, a 25, a 26, a 27]
def AM (a : Nat → Nat) : List Nat := [a 28, a 29, a 30, a 31, a 32, a 33, a 34, a 35, a 36, a 37, a 38, a 39, a 40, a 41, a 42, a 43, a 44, a 45]
theorem WX_f {E : En} {a : Nat → Nat} {ws : va_W} {n S : Nat} {rd : Nd} {pg : List Nat} {hs : List (Nat × Nat)} {im : Option (List (Nat × Nat))} {br : Nat} (h : WX E a ws n S rd pg hs im br) : ws.length = 28 ∧ ws.map (fun q => q.1) = AX a ∧ ∃ fs, ws[0]? = some (a 0, .inr (6, fs)) := WX_e h (fun _ _ _ _ _ _ _ _ _ _ _ _ _ _ _ _ _ _ _ _ _ _ _ _ _ _ _ _ _ _ _ _ _ _ _ _ _ _ _ _ _ _ _ _ _ _ _ e _ => by subst e; exact ⟨rfl, rfl, _, rfl⟩)
theorem WM_f {E : En} {a : Nat → Nat} {ws : va_W} {n S : Nat} {rd : Nd} {pg : List Nat} {hs : List (Nat × Nat)} {im : Option (List (Nat × Nat))} {br : Nat} (h : WM E a ws n S rd pg hs im br) : ws.length = 18 ∧ ws.map (fun q => q.1) = AM a ∧ ∃ fs, ws[0]? = some (a 28, .inr (7, fs)) := WM_e h (fun _ _ _ _ _ _ _ _ _ _ _ _ _ _ _ _ _ _ _ _ _ _ _ _ _ _ _ _ _ _ _ _ _ _ _ _ _ _ _ e _ => by subst e; exact ⟨rfl, rfl, _, rfl⟩)
section
variable {l : Launch} {E : En} {cc : ByteArray} {own : String} {R : Room} {nL : Nat} {Y : Cy} {ws ws' : va_W} {pc : Nat} {lv lv' : List (Nat × Value)} {st : List Value}
theorem J_sld (hB : Cb E cc own R nL Y) {b L : Nat} {xs : Nat → Int32} (hX : va_X b L xs (ys Y) (ys Y).heap) (hbl : b < (ys Y).heap.size) (hbA : ¬ yA Y b) {i : Int32} (hin : vp_in i L) (hd : decode cc pc = .ok (.iaload, 1)) (k : J l E R Y ws (pc + 1) lv (.int (xs i.toNatClampNeg) :: st)) : J l E R Y ws pc lv (.int i :: .ref b :: st) := fun H locs ls hP hD hS hl => va_sld hB.1 hB.2.1 hX hbl hbA hS hin hd (k H locs ls hP hD hS hl)
theorem J_slen (hB : Cb E cc own R nL Y) {b L : Nat} {xs : Nat → Int32} (hX : va_X b L xs (ys Y) (ys Y).heap) (hbl : b < (ys Y).heap.size) (hbA : ¬ yA Y b) (hd : decode cc pc = .ok (.arraylength, 1)) (k : J l E R Y ws (pc + 1) lv (.int (nI L) :: st)) : J l E R Y ws pc lv (.ref b :: st) := fun H locs ls hP hD hS hl => va_slen hB.1 hB.2.1 hX hbl hbA hS hd (k H locs ls hP hD hS hl)
theorem J_astore_n (hB : Cb E cc own R nL Y) {n : Fin 4} {i x : Nat} (hd : decode cc pc = .ok (.astore_n n, 1)) (hi : (n : Nat) = i) (hn : i < nL) (hl' : (i, Value.ref x) :: lv.filter (fun q => !(q.1 == i) && !(q.1 + 1 == i && q.2.category == 2)) = lv') (k : J l E R Y ws (pc + 1) lv' st) : J l E R Y ws pc lv (.ref x :: st) := fun H locs ls hP hD hS hl => lv_astore_n hB.1 hB.2.1 hd hi hl (by rw [hB.2.2.2.2.2.2.2.2.2]; exact hn) hl' (fun ls' hl2 => k H locs ls' hP hD hS hl2)
/-- a call of the class, a call of the reference -/
theorem J_cX (hB : Cb E cc own R nL Y) {a : Nat → Nat} {wc wc' wm : va_W} {n0 S0 n1 S1 br0 br1 : Nat} {rd0 rd1 : Nd} {pg0 pg1 : List Nat} {hs0 hs1 : List (Nat × Nat)} {im0 im1 : Option (List (Nat × Nat))} (h0 : WX E a wc n0 S0 rd0 pg0 hs0 im0 br0) (h1 : WX E a wc' n1 S1 rd1 pg1 hs1 im1 br1) {y : MethodName} {bytes : ByteArray} {maxL n index : Nat} {ret : Option FieldType} {rmc : Room} {r : Option Value} {As rest : List Value} (hM : Ct l y (.code y bytes maxL ret) rmc E (.ref (a 0) :: As) wc r wc') (hi : Mi y bytes maxL ret n) (hs : Cond.instanceMethod y ∈ bigW ∧ Cond.selects y.cls y y ∈ bigW) (hlink : Cond.methodLink own index y ∈ bigW) (hm : rmc.cells = 0 ∧ rmc.slots = 0 ∧ rmc.frames + 1 ≤ R.frames ∧ 8 + (maxL + 11) + rmc.locals ≤ R.locals) {T : u_T} {N : Nat} (hcl : vwCl[6]? = some (y.cls, T, N)) (hlen : As.length = n) (hst : st = As.reverse ++ .ref (a 0) :: rest) (hcat : (rest.map fun v => v.category).sum ≤ 8) (hd : decode cc pc = .ok (.invokevirtual index, 3)) (k : J l E R Y (wc' ++ wm) (pc + 3) lv (r.toList ++ rest)) : J l E R Y (wc ++ wm) pc lv st := by
  obtain ⟨a1, a2, fs, a3⟩ := WX_f h0
  obtain ⟨b1, b2, -⟩ := WX_f h1
  exact J_callV hB hM hi hs hlink hm (Lz.take (by rw [a1, b1]) (by rw [a2, b2])).lies 0 (by rw [List.getElem?_append_left (by omega)]; exact a3) hcl hlen hst hcat hd k
theorem J_cM (hB : Cb E cc own R nL Y) {a : Nat → Nat} {wc wm wm' : va_W} {n0 S0 n1 S1 n2 S2 br0 br1 br2 : Nat} {rd0 rd1 rd2 : Nd} {pg0 pg1 pg2 : List Nat} {hs0 hs1 hs2 : List (Nat × Nat)} {im0 im1 im2 : Option (List (Nat × Nat))} (hx : WX E a wc n2 S2 rd2 pg2 hs2 im2 br2) (h0 : WM E a wm n0 S0 rd0 pg0 hs0 im0 br0) (h1 : WM E a wm' n1 S1 rd1 pg1 hs1 im1 br1) {y : MethodName} {bytes : ByteArray} {maxL n index : Nat} {ret : Option FieldType} {rmc : Room} {r : Option Value} {As rest : List Value} (hM : Ct l y (.code y bytes maxL ret) rmc E (.ref (a 28) :: As) wm r wm') (hi : Mi y bytes maxL ret n) (hs : Cond.instanceMethod y ∈ bigW ∧ Cond.selects y.cls y y ∈ bigW) (hlink : Cond.methodLink own index y ∈ bigW) (hm : rmc.cells = 0 ∧ rmc.slots = 0 ∧ rmc.frames + 1 ≤ R.frames ∧ 8 + (maxL + 11) + rmc.locals ≤ R.locals) {T : u_T} {N : Nat} (hcl : vwCl[7]? = some (y.cls, T, N)) (hlen : As.length = n) (hst : st = As.reverse ++ .ref (a 28) :: rest) (hcat : (rest.map fun v => v.category).sum ≤ 8) (hd : decode cc pc = .ok (.invokevirtual index, 3)) (k : J l E R Y (wc ++ wm') (pc + 3) lv (r.toList ++ rest)) : J l E R Y (wc ++ wm) pc lv st := by
  obtain ⟨c1, -, -⟩ := WX_f hx
  obtain ⟨a1, a2, fs, a3⟩ := WM_f h0
  obtain ⟨b1, b2, -⟩ := WM_f h1
  exact J_callV hB hM hi hs hlink hm (Lz.skip (Lz.here (by rw [a1, b1]) (by rw [a2, b2]))).lies 28 (by rw [List.getElem?_append_right (by omega), c1]; exact a3) hcl hlen hst hcat hd k
end
theorem cmp_self (v : Int64) : lg_cmp v v = 0 := by unfold lg_cmp; rw [if_neg (show ¬ v > v from Int64.lt_irrefl), if_pos rfl]
theorem and31 (x : Int32) : ∃ c, c < 32 ∧ x &&& (31 : Int32) = nI c := by
  obtain ⟨m, -, rfl⟩ := wb_of32 x
  exact ⟨m &&& 31, Nat.and_lt_two_pow (n := 5) m (by decide), by rw [n_lit 31, nx_and]⟩
set_option maxRecDepth 100000 in
set_option maxHeartbeats 2000000 in
theorem lw_c0 {l : Launch} {E : En} {Y : Cy} (hB : Cb E cL_law RL room_1 4 Y) {b L : Nat} {xs : Nat → Int32} (hX : va_X b L xs (ys Y) (ys Y).heap) (hbl : b < (ys Y).heap.size) (hbA : ¬ yA Y b) {a : Nat → Nat} {wc wm : va_W} {n S : Nat} {rd : Nd} {pg : List Nat} {hs : List (Nat × Nat)} {im : Option (List (Nat × Nat))} {br : Nat} (hO : Okk n S rd pg hs im br) (hW : WX E a wc n S rd pg hs im br) (hN : WM E a wm n S rd pg hs im br) {k : Nat} (h1 : vp_in (nI (4 * k) + 1) L) (h2 : vp_in (nI (4 * k) + 2) L) (h3 : vp_in (nI (4 * k) + 3) L) (hb1 : br + 1 < 1000000) (hnext : ∀ (wc' wm' : va_W) (n' S' : Nat) (rd' : Nd) (pg' : List Nat) (hs' : List (Nat × Nat)) (im' : Option (List (Nat × Nat))) (br' : Nat), Okk n' S' rd' pg' hs' im' br' → br' ≤ br + 1 → WX E a wc' n' S' rd' pg' hs' im' br' → WM E a wm' n' S' rd' pg' hs' im' br' → J l E room_1 Y (wc' ++ wm') 748 [(0, .ref b), (1, .ref (a 0)), (2, .ref (a 28)), (3, .int (nI (4 * k)))] []) : J l E room_1 Y (wc ++ wm) 156 [(0, .ref b), (1, .ref (a 0)), (2, .ref (a 28)), (3, .int (nI (4 * k)))] [] := by
  obtain ⟨v, wc', wm', n', S', rd', pg', hs', im', br', t1, t2, t3, t4, t5, t6⟩ := st_letters l E a hO hW hN ((((xs ((nI (4 * k)) + 1).toNatClampNeg).toInt64) <<< ((32 : Int32).toInt64 &&& 63)) ||| (((xs ((nI (4 * k)) + 2).toNatClampNeg).toInt64) &&& (4294967295 : Int64)))
  refine J_aload_n hB dL_law_156 rfl 1 rfl ?_
  refine J_aload_n hB dL_law_157 rfl 0 rfl ?_
  refine J_iload_n hB dL_law_158 rfl 3 rfl ?_
  refine J_iconst (v := 1) hB dL_law_159 rfl ?_
  refine J_iadd hB dL_law_160 ?_
  refine J_sld hB hX hbl hbA h1 dL_law_161 ?_
  refine J_i2l hB dL_law_162 ?_
  refine J_bipush (v := 32) hB dL_law_163 rfl ?_
  refine J_lshl hB dL_law_165 ?_
  refine J_aload_n hB dL_law_166 rfl 0 rfl ?_
  refine J_iload_n hB dL_law_167 rfl 3 rfl ?_
  refine J_iconst (v := 2) hB dL_law_168 rfl ?_
  refine J_iadd hB dL_law_169 ?_
  refine J_sld hB hX hbl hbA h2 dL_law_170 ?_
  refine J_i2l hB dL_law_171 ?_
  refine J_ldc2 (v := 4294967295) hB dL_law_172 kk_L_13 ?_
  refine J_land hB dL_law_175 ?_
  refine J_lor hB dL_law_176 ?_
  refine J_cX (As := [.long ((((xs ((nI (4 * k)) + 1).toNatClampNeg).toInt64) <<< ((32 : Int32).toInt64 &&& 63)) ||| (((xs ((nI (4 * k)) + 2).toNatClampNeg).toInt64) &&& (4294967295 : Int64)))]) (rest := []) hB hW t5 t1 mi_X7_letters ⟨ki_X7_letters, kv_X7_letters⟩ km_L_15 ⟨rfl, rfl, (Nat.le_of_ble_eq_true rfl), (Nat.le_of_ble_eq_true rfl)⟩ rfl rfl rfl (Nat.le_of_ble_eq_true rfl) dL_law_177 ?_
  refine J_aload_n hB dL_law_180 rfl 2 rfl ?_
  refine J_aload_n hB dL_law_181 rfl 0 rfl ?_
  refine J_iload_n hB dL_law_182 rfl 3 rfl ?_
  refine J_iconst (v := 1) hB dL_law_183 rfl ?_
  refine J_iadd hB dL_law_184 ?_
  refine J_sld hB hX hbl hbA h1 dL_law_185 ?_
  refine J_i2l hB dL_law_186 ?_
  refine J_bipush (v := 32) hB dL_law_187 rfl ?_
  refine J_lshl hB dL_law_189 ?_
  refine J_aload_n hB dL_law_190 rfl 0 rfl ?_
  refine J_iload_n hB dL_law_191 rfl 3 rfl ?_
  refine J_iconst (v := 2) hB dL_law_192 rfl ?_
  refine J_iadd hB dL_law_193 ?_
  refine J_sld hB hX hbl hbA h2 dL_law_194 ?_
  refine J_i2l hB dL_law_195 ?_
  refine J_ldc2 (v := 4294967295) hB dL_law_196 kk_L_13 ?_
  refine J_land hB dL_law_199 ?_
  refine J_lor hB dL_law_200 ?_
  refine J_cM (As := [.long ((((xs ((nI (4 * k)) + 1).toNatClampNeg).toInt64) <<< ((32 : Int32).toInt64 &&& 63)) ||| (((xs ((nI (4 * k)) + 2).toNatClampNeg).toInt64) &&& (4294967295 : Int64)))]) (rest := [.int v]) hB t5 hN t6 t2 mi_X8_letters ⟨ki_X8_letters, kv_X8_letters⟩ km_L_19 ⟨rfl, rfl, (Nat.le_of_ble_eq_true rfl), (Nat.le_of_ble_eq_true rfl)⟩ rfl rfl rfl (Nat.le_of_ble_eq_true rfl) dL_law_201 ?_
  refine J_icmp_eq (tgt := 748) hB dL_law_204 rfl (fun _ => ?_) (fun q => absurd rfl q)
  exact hnext wc' wm' n' S' rd' pg' hs' im' br' (t3 hb1) t4 t5 t6
set_option maxRecDepth 100000 in
set_option maxHeartbeats 2000000 in
theorem lw_c1 {l : Launch} {E : En} {Y : Cy} (hB : Cb E cL_law RL room_1 4 Y) {b L : Nat} {xs : Nat → Int32} (hX : va_X b L xs (ys Y) (ys Y).heap) (hbl : b < (ys Y).heap.size) (hbA : ¬ yA Y b) {a : Nat → Nat} {wc wm : va_W} {n S : Nat} {rd : Nd} {pg : List Nat} {hs : List (Nat × Nat)} {im : Option (List (Nat × Nat))} {br : Nat} (hO : Okk n S rd pg hs im br) (hW : WX E a wc n S rd pg hs im br) (hN : WM E a wm n S rd pg hs im br) {k : Nat} (h1 : vp_in (nI (4 * k) + 1) L) (h2 : vp_in (nI (4 * k) + 2) L) (h3 : vp_in (nI (4 * k) + 3) L) (hb1 : br + 1 < 1000000) (hnext : ∀ (wc' wm' : va_W) (n' S' : Nat) (rd' : Nd) (pg' : List Nat) (hs' : List (Nat × Nat)) (im' : Option (List (Nat × Nat))) (br' : Nat), Okk n' S' rd' pg' hs' im' br' → br' ≤ br + 1 → WX E a wc' n' S' rd' pg' hs' im' br' → WM E a wm' n' S' rd' pg' hs' im' br' → J l E room_1 Y (wc' ++ wm') 748 [(0, .ref b), (1, .ref (a 0)), (2, .ref (a 28)), (3, .int (nI (4 * k)))] []) : J l E room_1 Y (wc ++ wm) 209 [(0, .ref b), (1, .ref (a 0)), (2, .ref (a 28)), (3, .int (nI (4 * k)))] [] := by
  obtain ⟨v, wc', wm', n', S', rd', pg', hs', im', br', t1, t2, t3, t4, t5, t6⟩ := st_blank l E a hO hW hN 
  refine J_aload_n hB dL_law_209 rfl 1 rfl ?_
  refine J_cX (As := []) (rest := []) hB hW t5 t1 mi_X7_blank ⟨ki_X7_blank, kv_X7_blank⟩ km_L_20 ⟨rfl, rfl, (Nat.le_of_ble_eq_true rfl), (Nat.le_of_ble_eq_true rfl)⟩ rfl rfl rfl (Nat.le_of_ble_eq_true rfl) dL_law_210 ?_
  refine J_aload_n hB dL_law_213 rfl 2 rfl ?_
  refine J_cM (As := []) (rest := [.int v]) hB t5 hN t6 t2 mi_X8_blank ⟨ki_X8_blank, kv_X8_blank⟩ km_L_24 ⟨rfl, rfl, (Nat.le_of_ble_eq_true rfl), (Nat.le_of_ble_eq_true rfl)⟩ rfl rfl rfl (Nat.le_of_ble_eq_true rfl) dL_law_214 ?_
  refine J_icmp_eq (tgt := 748) hB dL_law_217 rfl (fun _ => ?_) (fun q => absurd rfl q)
  exact hnext wc' wm' n' S' rd' pg' hs' im' br' (t3 hb1) t4 t5 t6
set_option maxRecDepth 100000 in
set_option maxHeartbeats 2000000 in
theorem lw_c2 {l : Launch} {E : En} {Y : Cy} (hB : Cb E cL_law RL room_1 4 Y) {b L : Nat} {xs : Nat → Int32} (hX : va_X b L xs (ys Y) (ys Y).heap) (hbl : b < (ys Y).heap.size) (hbA : ¬ yA Y b) {a : Nat → Nat} {wc wm : va_W} {n S : Nat} {rd : Nd} {pg : List Nat} {hs : List (Nat × Nat)} {im : Option (List (Nat × Nat))} {br : Nat} (hO : Okk n S rd pg hs im br) (hW : WX E a wc n S rd pg hs im br) (hN : WM E a wm n S rd pg hs im br) {k : Nat} (h1 : vp_in (nI (4 * k) + 1) L) (h2 : vp_in (nI (4 * k) + 2) L) (h3 : vp_in (nI (4 * k) + 3) L) (hb1 : br + 1 < 1000000) (hnext : ∀ (wc' wm' : va_W) (n' S' : Nat) (rd' : Nd) (pg' : List Nat) (hs' : List (Nat × Nat)) (im' : Option (List (Nat × Nat))) (br' : Nat), Okk n' S' rd' pg' hs' im' br' → br' ≤ br + 1 → WX E a wc' n' S' rd' pg' hs' im' br' → WM E a wm' n' S' rd' pg' hs' im' br' → J l E room_1 Y (wc' ++ wm') 748 [(0, .ref b), (1, .ref (a 0)), (2, .ref (a 28)), (3, .int (nI (4 * k)))] []) : J l E room_1 Y (wc ++ wm) 222 [(0, .ref b), (1, .ref (a 0)), (2, .ref (a 28)), (3, .int (nI (4 * k)))] [] := by
  obtain ⟨v, wc', wm', n', S', rd', pg', hs', im', br', t1, t2, t3, t4, t5, t6⟩ := st_fault l E a hO hW hN 
  refine J_aload_n hB dL_law_222 rfl 1 rfl ?_
  refine J_cX (As := []) (rest := []) hB hW t5 t1 mi_X7_fault ⟨ki_X7_fault, kv_X7_fault⟩ km_L_25 ⟨rfl, rfl, (Nat.le_of_ble_eq_true rfl), (Nat.le_of_ble_eq_true rfl)⟩ rfl rfl rfl (Nat.le_of_ble_eq_true rfl) dL_law_223 ?_
  refine J_aload_n hB dL_law_226 rfl 2 rfl ?_
  refine J_cM (As := []) (rest := [.int v]) hB t5 hN t6 t2 mi_X8_fault ⟨ki_X8_fault, kv_X8_fault⟩ km_L_28 ⟨rfl, rfl, (Nat.le_of_ble_eq_true rfl), (Nat.le_of_ble_eq_true rfl)⟩ rfl rfl rfl (Nat.le_of_ble_eq_true rfl) dL_law_227 ?_
  refine J_icmp_eq (tgt := 748) hB dL_law_230 rfl (fun _ => ?_) (fun q => absurd rfl q)
  exact hnext wc' wm' n' S' rd' pg' hs' im' br' (t3 hb1) t4 t5 t6
set_option maxRecDepth 100000 in
set_option maxHeartbeats 2000000 in
theorem lw_c3 {l : Launch} {E : En} {Y : Cy} (hB : Cb E cL_law RL room_1 4 Y) {b L : Nat} {xs : Nat → Int32} (hX : va_X b L xs (ys Y) (ys Y).heap) (hbl : b < (ys Y).heap.size) (hbA : ¬ yA Y b) {a : Nat → Nat} {wc wm : va_W} {n S : Nat} {rd : Nd} {pg : List Nat} {hs : List (Nat × Nat)} {im : Option (List (Nat × Nat))} {br : Nat} (hO : Okk n S rd pg hs im br) (hW : WX E a wc n S rd pg hs im br) (hN : WM E a wm n S rd pg hs im br) {k : Nat} (h1 : vp_in (nI (4 * k) + 1) L) (h2 : vp_in (nI (4 * k) + 2) L) (h3 : vp_in (nI (4 * k) + 3) L) (hb1 : br + 1 < 1000000) (hnext : ∀ (wc' wm' : va_W) (n' S' : Nat) (rd' : Nd) (pg' : List Nat) (hs' : List (Nat × Nat)) (im' : Option (List (Nat × Nat))) (br' : Nat), Okk n' S' rd' pg' hs' im' br' → br' ≤ br + 1 → WX E a wc' n' S' rd' pg' hs' im' br' → WM E a wm' n' S' rd' pg' hs' im' br' → J l E room_1 Y (wc' ++ wm') 748 [(0, .ref b), (1, .ref (a 0)), (2, .ref (a 28)), (3, .int (nI (4 * k)))] []) : J l E room_1 Y (wc ++ wm) 235 [(0, .ref b), (1, .ref (a 0)), (2, .ref (a 28)), (3, .int (nI (4 * k)))] [] := by
  obtain ⟨v, wc', wm', n', S', rd', pg', hs', im', br', t1, t2, t3, t4, t5, t6⟩ := st_brook l E a hO hW hN 
  refine J_aload_n hB dL_law_235 rfl 1 rfl ?_
  refine J_cX (As := []) (rest := []) hB hW t5 t1 mi_X7_brook ⟨ki_X7_brook, kv_X7_brook⟩ km_L_29 ⟨rfl, rfl, (Nat.le_of_ble_eq_true rfl), (Nat.le_of_ble_eq_true rfl)⟩ rfl rfl rfl (Nat.le_of_ble_eq_true rfl) dL_law_236 ?_
  refine J_aload_n hB dL_law_239 rfl 2 rfl ?_
  refine J_cM (As := []) (rest := [.int v]) hB t5 hN t6 t2 mi_X8_brook ⟨ki_X8_brook, kv_X8_brook⟩ km_L_32 ⟨rfl, rfl, (Nat.le_of_ble_eq_true rfl), (Nat.le_of_ble_eq_true rfl)⟩ rfl rfl rfl (Nat.le_of_ble_eq_true rfl) dL_law_240 ?_
  refine J_icmp_eq (tgt := 748) hB dL_law_243 rfl (fun _ => ?_) (fun q => absurd rfl q)
  exact hnext wc' wm' n' S' rd' pg' hs' im' br' (t3 hb1) t4 t5 t6
set_option maxRecDepth 100000 in
set_option maxHeartbeats 2000000 in
theorem lw_c4 {l : Launch} {E : En} {Y : Cy} (hB : Cb E cL_law RL room_1 4 Y) {b L : Nat} {xs : Nat → Int32} (hX : va_X b L xs (ys Y) (ys Y).heap) (hbl : b < (ys Y).heap.size) (hbA : ¬ yA Y b) {a : Nat → Nat} {wc wm : va_W} {n S : Nat} {rd : Nd} {pg : List Nat} {hs : List (Nat × Nat)} {im : Option (List (Nat × Nat))} {br : Nat} (hO : Okk n S rd pg hs im br) (hW : WX E a wc n S rd pg hs im br) (hN : WM E a wm n S rd pg hs im br) {k : Nat} (h1 : vp_in (nI (4 * k) + 1) L) (h2 : vp_in (nI (4 * k) + 2) L) (h3 : vp_in (nI (4 * k) + 3) L) (hb1 : br + 1 < 1000000) (hnext : ∀ (wc' wm' : va_W) (n' S' : Nat) (rd' : Nd) (pg' : List Nat) (hs' : List (Nat × Nat)) (im' : Option (List (Nat × Nat))) (br' : Nat), Okk n' S' rd' pg' hs' im' br' → br' ≤ br + 1 → WX E a wc' n' S' rd' pg' hs' im' br' → WM E a wm' n' S' rd' pg' hs' im' br' → J l E room_1 Y (wc' ++ wm') 748 [(0, .ref b), (1, .ref (a 0)), (2, .ref (a 28)), (3, .int (nI (4 * k)))] []) : J l E room_1 Y (wc ++ wm) 248 [(0, .ref b), (1, .ref (a 0)), (2, .ref (a 28)), (3, .int (nI (4 * k)))] [] := by
  obtain ⟨v, wc', wm', n', S', rd', pg', hs', im', br', t1, t2, t3, t4, t5, t6⟩ := st_on l E a hO hW hN (xs ((nI (4 * k)) + 1).toNatClampNeg)
  refine J_aload_n hB dL_law_248 rfl 1 rfl ?_
  refine J_aload_n hB dL_law_249 rfl 0 rfl ?_
  refine J_iload_n hB dL_law_250 rfl 3 rfl ?_
  refine J_iconst (v := 1) hB dL_law_251 rfl ?_
  refine J_iadd hB dL_law_252 ?_
  refine J_sld hB hX hbl hbA h1 dL_law_253 ?_
  refine J_cX (As := [.int (xs ((nI (4 * k)) + 1).toNatClampNeg)]) (rest := []) hB hW t5 t1 mi_X7_on ⟨ki_X7_on, kv_X7_on⟩ km_L_33 ⟨rfl, rfl, (Nat.le_of_ble_eq_true rfl), (Nat.le_of_ble_eq_true rfl)⟩ rfl rfl rfl (Nat.le_of_ble_eq_true rfl) dL_law_254 ?_
  refine J_aload_n hB dL_law_257 rfl 2 rfl ?_
  refine J_aload_n hB dL_law_258 rfl 0 rfl ?_
  refine J_iload_n hB dL_law_259 rfl 3 rfl ?_
  refine J_iconst (v := 1) hB dL_law_260 rfl ?_
  refine J_iadd hB dL_law_261 ?_
  refine J_sld hB hX hbl hbA h1 dL_law_262 ?_
  refine J_cM (As := [.int (xs ((nI (4 * k)) + 1).toNatClampNeg)]) (rest := [.int v]) hB t5 hN t6 t2 mi_X8_on ⟨ki_X8_on, kv_X8_on⟩ km_L_37 ⟨rfl, rfl, (Nat.le_of_ble_eq_true rfl), (Nat.le_of_ble_eq_true rfl)⟩ rfl rfl rfl (Nat.le_of_ble_eq_true rfl) dL_law_263 ?_
  refine J_icmp_eq (tgt := 748) hB dL_law_266 rfl (fun _ => ?_) (fun q => absurd rfl q)
  exact hnext wc' wm' n' S' rd' pg' hs' im' br' (t3 hb1) t4 t5 t6
set_option maxRecDepth 100000 in
set_option maxHeartbeats 2000000 in
theorem lw_c5 {l : Launch} {E : En} {Y : Cy} (hB : Cb E cL_law RL room_1 4 Y) {b L : Nat} {xs : Nat → Int32} (hX : va_X b L xs (ys Y) (ys Y).heap) (hbl : b < (ys Y).heap.size) (hbA : ¬ yA Y b) {a : Nat → Nat} {wc wm : va_W} {n S : Nat} {rd : Nd} {pg : List Nat} {hs : List (Nat × Nat)} {im : Option (List (Nat × Nat))} {br : Nat} (hO : Okk n S rd pg hs im br) (hW : WX E a wc n S rd pg hs im br) (hN : WM E a wm n S rd pg hs im br) {k : Nat} (h1 : vp_in (nI (4 * k) + 1) L) (h2 : vp_in (nI (4 * k) + 2) L) (h3 : vp_in (nI (4 * k) + 3) L) (hb1 : br + 1 < 1000000) (hnext : ∀ (wc' wm' : va_W) (n' S' : Nat) (rd' : Nd) (pg' : List Nat) (hs' : List (Nat × Nat)) (im' : Option (List (Nat × Nat))) (br' : Nat), Okk n' S' rd' pg' hs' im' br' → br' ≤ br + 1 → WX E a wc' n' S' rd' pg' hs' im' br' → WM E a wm' n' S' rd' pg' hs' im' br' → J l E room_1 Y (wc' ++ wm') 748 [(0, .ref b), (1, .ref (a 0)), (2, .ref (a 28)), (3, .int (nI (4 * k)))] []) : J l E room_1 Y (wc ++ wm) 271 [(0, .ref b), (1, .ref (a 0)), (2, .ref (a 28)), (3, .int (nI (4 * k)))] [] := by
  obtain ⟨v, wc', wm', n', S', rd', pg', hs', im', br', t1, t2, t3, t4, t5, t6⟩ := st_frog l E a hO hW hN (xs ((nI (4 * k)) + 1).toNatClampNeg)
  refine J_aload_n hB dL_law_271 rfl 1 rfl ?_
  refine J_aload_n hB dL_law_272 rfl 0 rfl ?_
  refine J_iload_n hB dL_law_273 rfl 3 rfl ?_
  refine J_iconst (v := 1) hB dL_law_274 rfl ?_
  refine J_iadd hB dL_law_275 ?_
  refine J_sld hB hX hbl hbA h1 dL_law_276 ?_
  refine J_cX (As := [.int (xs ((nI (4 * k)) + 1).toNatClampNeg)]) (rest := []) hB hW t5 t1 mi_X7_frog ⟨ki_X7_frog, kv_X7_frog⟩ km_L_38 ⟨rfl, rfl, (Nat.le_of_ble_eq_true rfl), (Nat.le_of_ble_eq_true rfl)⟩ rfl rfl rfl (Nat.le_of_ble_eq_true rfl) dL_law_277 ?_
  refine J_aload_n hB dL_law_280 rfl 2 rfl ?_
  refine J_aload_n hB dL_law_281 rfl 0 rfl ?_
  refine J_iload_n hB dL_law_282 rfl 3 rfl ?_
  refine J_iconst (v := 1) hB dL_law_283 rfl ?_
  refine J_iadd hB dL_law_284 ?_
  refine J_sld hB hX hbl hbA h1 dL_law_285 ?_
  refine J_cM (As := [.int (xs ((nI (4 * k)) + 1).toNatClampNeg)]) (rest := [.int v]) hB t5 hN t6 t2 mi_X8_frog ⟨ki_X8_frog, kv_X8_frog⟩ km_L_41 ⟨rfl, rfl, (Nat.le_of_ble_eq_true rfl), (Nat.le_of_ble_eq_true rfl)⟩ rfl rfl rfl (Nat.le_of_ble_eq_true rfl) dL_law_286 ?_
  refine J_icmp_eq (tgt := 748) hB dL_law_289 rfl (fun _ => ?_) (fun q => absurd rfl q)
  exact hnext wc' wm' n' S' rd' pg' hs' im' br' (t3 hb1) t4 t5 t6
set_option maxRecDepth 100000 in
set_option maxHeartbeats 2000000 in
theorem lw_c6 {l : Launch} {E : En} {Y : Cy} (hB : Cb E cL_law RL room_1 4 Y) {b L : Nat} {xs : Nat → Int32} (hX : va_X b L xs (ys Y) (ys Y).heap) (hbl : b < (ys Y).heap.size) (hbA : ¬ yA Y b) {a : Nat → Nat} {wc wm : va_W} {n S : Nat} {rd : Nd} {pg : List Nat} {hs : List (Nat × Nat)} {im : Option (List (Nat × Nat))} {br : Nat} (hO : Okk n S rd pg hs im br) (hW : WX E a wc n S rd pg hs im br) (hN : WM E a wm n S rd pg hs im br) {k : Nat} (h1 : vp_in (nI (4 * k) + 1) L) (h2 : vp_in (nI (4 * k) + 2) L) (h3 : vp_in (nI (4 * k) + 3) L) (hb1 : br + 1 < 1000000) (hnext : ∀ (wc' wm' : va_W) (n' S' : Nat) (rd' : Nd) (pg' : List Nat) (hs' : List (Nat × Nat)) (im' : Option (List (Nat × Nat))) (br' : Nat), Okk n' S' rd' pg' hs' im' br' → br' ≤ br + 1 → WX E a wc' n' S' rd' pg' hs' im' br' → WM E a wm' n' S' rd' pg' hs' im' br' → J l E room_1 Y (wc' ++ wm') 748 [(0, .ref b), (1, .ref (a 0)), (2, .ref (a 28)), (3, .int (nI (4 * k)))] []) : J l E room_1 Y (wc ++ wm) 294 [(0, .ref b), (1, .ref (a 0)), (2, .ref (a 28)), (3, .int (nI (4 * k)))] [] := by
  obtain ⟨v, wc', wm', n', S', rd', pg', hs', im', br', t1, t2, t3, t4, t5, t6⟩ := st_about l E a hO hW hN (xs ((nI (4 * k)) + 1).toNatClampNeg) (xs ((nI (4 * k)) + 2).toNatClampNeg)
  refine J_aload_n hB dL_law_294 rfl 1 rfl ?_
  refine J_aload_n hB dL_law_295 rfl 0 rfl ?_
  refine J_iload_n hB dL_law_296 rfl 3 rfl ?_
  refine J_iconst (v := 1) hB dL_law_297 rfl ?_
  refine J_iadd hB dL_law_298 ?_
  refine J_sld hB hX hbl hbA h1 dL_law_299 ?_
  refine J_aload_n hB dL_law_300 rfl 0 rfl ?_
  refine J_iload_n hB dL_law_301 rfl 3 rfl ?_
  refine J_iconst (v := 2) hB dL_law_302 rfl ?_
  refine J_iadd hB dL_law_303 ?_
  refine J_sld hB hX hbl hbA h2 dL_law_304 ?_
  refine J_cX (As := [.int (xs ((nI (4 * k)) + 1).toNatClampNeg), .int (xs ((nI (4 * k)) + 2).toNatClampNeg)]) (rest := []) hB hW t5 t1 mi_X7_about ⟨ki_X7_about, kv_X7_about⟩ km_L_42 ⟨rfl, rfl, (Nat.le_of_ble_eq_true rfl), (Nat.le_of_ble_eq_true rfl)⟩ rfl rfl rfl (Nat.le_of_ble_eq_true rfl) dL_law_305 ?_
  refine J_aload_n hB dL_law_308 rfl 2 rfl ?_
  refine J_aload_n hB dL_law_309 rfl 0 rfl ?_
  refine J_iload_n hB dL_law_310 rfl 3 rfl ?_
  refine J_iconst (v := 1) hB dL_law_311 rfl ?_
  refine J_iadd hB dL_law_312 ?_
  refine J_sld hB hX hbl hbA h1 dL_law_313 ?_
  refine J_aload_n hB dL_law_314 rfl 0 rfl ?_
  refine J_iload_n hB dL_law_315 rfl 3 rfl ?_
  refine J_iconst (v := 2) hB dL_law_316 rfl ?_
  refine J_iadd hB dL_law_317 ?_
  refine J_sld hB hX hbl hbA h2 dL_law_318 ?_
  refine J_cM (As := [.int (xs ((nI (4 * k)) + 1).toNatClampNeg), .int (xs ((nI (4 * k)) + 2).toNatClampNeg)]) (rest := [.int v]) hB t5 hN t6 t2 mi_X8_about ⟨ki_X8_about, kv_X8_about⟩ km_L_46 ⟨rfl, rfl, (Nat.le_of_ble_eq_true rfl), (Nat.le_of_ble_eq_true rfl)⟩ rfl rfl rfl (Nat.le_of_ble_eq_true rfl) dL_law_319 ?_
  refine J_icmp_eq (tgt := 748) hB dL_law_322 rfl (fun _ => ?_) (fun q => absurd rfl q)
  exact hnext wc' wm' n' S' rd' pg' hs' im' br' (t3 hb1) t4 t5 t6
set_option maxRecDepth 100000 in
set_option maxHeartbeats 2000000 in
theorem lw_c7 {l : Launch} {E : En} {Y : Cy} (hB : Cb E cL_law RL room_1 4 Y) {b L : Nat} {xs : Nat → Int32} (hX : va_X b L xs (ys Y) (ys Y).heap) (hbl : b < (ys Y).heap.size) (hbA : ¬ yA Y b) {a : Nat → Nat} {wc wm : va_W} {n S : Nat} {rd : Nd} {pg : List Nat} {hs : List (Nat × Nat)} {im : Option (List (Nat × Nat))} {br : Nat} (hO : Okk n S rd pg hs im br) (hW : WX E a wc n S rd pg hs im br) (hN : WM E a wm n S rd pg hs im br) {k : Nat} (h1 : vp_in (nI (4 * k) + 1) L) (h2 : vp_in (nI (4 * k) + 2) L) (h3 : vp_in (nI (4 * k) + 3) L) (hb1 : br + 1 < 1000000) (hnext : ∀ (wc' wm' : va_W) (n' S' : Nat) (rd' : Nd) (pg' : List Nat) (hs' : List (Nat × Nat)) (im' : Option (List (Nat × Nat))) (br' : Nat), Okk n' S' rd' pg' hs' im' br' → br' ≤ br + 1 → WX E a wc' n' S' rd' pg' hs' im' br' → WM E a wm' n' S' rd' pg' hs' im' br' → J l E room_1 Y (wc' ++ wm') 748 [(0, .ref b), (1, .ref (a 0)), (2, .ref (a 28)), (3, .int (nI (4 * k)))] []) : J l E room_1 Y (wc ++ wm) 327 [(0, .ref b), (1, .ref (a 0)), (2, .ref (a 28)), (3, .int (nI (4 * k)))] [] := by
  obtain ⟨v, wc', wm', n', S', rd', pg', hs', im', br', t1, t2, t3, t4, t5, t6⟩ := st_as l E a hO hW hN (xs ((nI (4 * k)) + 1).toNatClampNeg) (xs ((nI (4 * k)) + 2).toNatClampNeg)
  refine J_aload_n hB dL_law_327 rfl 1 rfl ?_
  refine J_aload_n hB dL_law_328 rfl 0 rfl ?_
  refine J_iload_n hB dL_law_329 rfl 3 rfl ?_
  refine J_iconst (v := 1) hB dL_law_330 rfl ?_
  refine J_iadd hB dL_law_331 ?_
  refine J_sld hB hX hbl hbA h1 dL_law_332 ?_
  refine J_aload_n hB dL_law_333 rfl 0 rfl ?_
  refine J_iload_n hB dL_law_334 rfl 3 rfl ?_
  refine J_iconst (v := 2) hB dL_law_335 rfl ?_
  refine J_iadd hB dL_law_336 ?_
  refine J_sld hB hX hbl hbA h2 dL_law_337 ?_
  refine J_cX (As := [.int (xs ((nI (4 * k)) + 1).toNatClampNeg), .int (xs ((nI (4 * k)) + 2).toNatClampNeg)]) (rest := []) hB hW t5 t1 mi_X7_as ⟨ki_X7_as, kv_X7_as⟩ km_L_47 ⟨rfl, rfl, (Nat.le_of_ble_eq_true rfl), (Nat.le_of_ble_eq_true rfl)⟩ rfl rfl rfl (Nat.le_of_ble_eq_true rfl) dL_law_338 ?_
  refine J_aload_n hB dL_law_341 rfl 2 rfl ?_
  refine J_aload_n hB dL_law_342 rfl 0 rfl ?_
  refine J_iload_n hB dL_law_343 rfl 3 rfl ?_
  refine J_iconst (v := 1) hB dL_law_344 rfl ?_
  refine J_iadd hB dL_law_345 ?_
  refine J_sld hB hX hbl hbA h1 dL_law_346 ?_
  refine J_aload_n hB dL_law_347 rfl 0 rfl ?_
  refine J_iload_n hB dL_law_348 rfl 3 rfl ?_
  refine J_iconst (v := 2) hB dL_law_349 rfl ?_
  refine J_iadd hB dL_law_350 ?_
  refine J_sld hB hX hbl hbA h2 dL_law_351 ?_
  refine J_cM (As := [.int (xs ((nI (4 * k)) + 1).toNatClampNeg), .int (xs ((nI (4 * k)) + 2).toNatClampNeg)]) (rest := [.int v]) hB t5 hN t6 t2 mi_X8_as ⟨ki_X8_as, kv_X8_as⟩ km_L_50 ⟨rfl, rfl, (Nat.le_of_ble_eq_true rfl), (Nat.le_of_ble_eq_true rfl)⟩ rfl rfl rfl (Nat.le_of_ble_eq_true rfl) dL_law_352 ?_
  refine J_icmp_eq (tgt := 748) hB dL_law_355 rfl (fun _ => ?_) (fun q => absurd rfl q)
  exact hnext wc' wm' n' S' rd' pg' hs' im' br' (t3 hb1) t4 t5 t6
set_option maxRecDepth 100000 in
set_option maxHeartbeats 2000000 in
theorem lw_c8 {l : Launch} {E : En} {Y : Cy} (hB : Cb E cL_law RL room_1 4 Y) {b L : Nat} {xs : Nat → Int32} (hX : va_X b L xs (ys Y) (ys Y).heap) (hbl : b < (ys Y).heap.size) (hbA : ¬ yA Y b) {a : Nat → Nat} {wc wm : va_W} {n S : Nat} {rd : Nd} {pg : List Nat} {hs : List (Nat × Nat)} {im : Option (List (Nat × Nat))} {br : Nat} (hO : Okk n S rd pg hs im br) (hW : WX E a wc n S rd pg hs im br) (hN : WM E a wm n S rd pg hs im br) {k : Nat} (h1 : vp_in (nI (4 * k) + 1) L) (h2 : vp_in (nI (4 * k) + 2) L) (h3 : vp_in (nI (4 * k) + 3) L) (hb1 : br + 1 < 1000000) (hnext : ∀ (wc' wm' : va_W) (n' S' : Nat) (rd' : Nd) (pg' : List Nat) (hs' : List (Nat × Nat)) (im' : Option (List (Nat × Nat))) (br' : Nat), Okk n' S' rd' pg' hs' im' br' → br' ≤ br + 1 → WX E a wc' n' S' rd' pg' hs' im' br' → WM E a wm' n' S' rd' pg' hs' im' br' → J l E room_1 Y (wc' ++ wm') 748 [(0, .ref b), (1, .ref (a 0)), (2, .ref (a 28)), (3, .int (nI (4 * k)))] []) : J l E room_1 Y (wc ++ wm) 360 [(0, .ref b), (1, .ref (a 0)), (2, .ref (a 28)), (3, .int (nI (4 * k)))] [] := by
  obtain ⟨v, wc', wm', n', S', rd', pg', hs', im', br', t1, t2, t3, t4, t5, t6⟩ := st_may l E a hO hW hN (xs ((nI (4 * k)) + 1).toNatClampNeg) (xs ((nI (4 * k)) + 2).toNatClampNeg)
  refine J_aload_n hB dL_law_360 rfl 1 rfl ?_
  refine J_aload_n hB dL_law_361 rfl 0 rfl ?_
  refine J_iload_n hB dL_law_362 rfl 3 rfl ?_
  refine J_iconst (v := 1) hB dL_law_363 rfl ?_
  refine J_iadd hB dL_law_364 ?_
  refine J_sld hB hX hbl hbA h1 dL_law_365 ?_
  refine J_aload_n hB dL_law_366 rfl 0 rfl ?_
  refine J_iload_n hB dL_law_367 rfl 3 rfl ?_
  refine J_iconst (v := 2) hB dL_law_368 rfl ?_
  refine J_iadd hB dL_law_369 ?_
  refine J_sld hB hX hbl hbA h2 dL_law_370 ?_
  refine J_cX (As := [.int (xs ((nI (4 * k)) + 1).toNatClampNeg), .int (xs ((nI (4 * k)) + 2).toNatClampNeg)]) (rest := []) hB hW t5 t1 mi_X7_may ⟨ki_X7_may, kv_X7_may⟩ km_L_51 ⟨rfl, rfl, (Nat.le_of_ble_eq_true rfl), (Nat.le_of_ble_eq_true rfl)⟩ rfl rfl rfl (Nat.le_of_ble_eq_true rfl) dL_law_371 ?_
  refine J_aload_n hB dL_law_374 rfl 2 rfl ?_
  refine J_aload_n hB dL_law_375 rfl 0 rfl ?_
  refine J_iload_n hB dL_law_376 rfl 3 rfl ?_
  refine J_iconst (v := 1) hB dL_law_377 rfl ?_
  refine J_iadd hB dL_law_378 ?_
  refine J_sld hB hX hbl hbA h1 dL_law_379 ?_
  refine J_aload_n hB dL_law_380 rfl 0 rfl ?_
  refine J_iload_n hB dL_law_381 rfl 3 rfl ?_
  refine J_iconst (v := 2) hB dL_law_382 rfl ?_
  refine J_iadd hB dL_law_383 ?_
  refine J_sld hB hX hbl hbA h2 dL_law_384 ?_
  refine J_cM (As := [.int (xs ((nI (4 * k)) + 1).toNatClampNeg), .int (xs ((nI (4 * k)) + 2).toNatClampNeg)]) (rest := [.int v]) hB t5 hN t6 t2 mi_X8_may ⟨ki_X8_may, kv_X8_may⟩ km_L_54 ⟨rfl, rfl, (Nat.le_of_ble_eq_true rfl), (Nat.le_of_ble_eq_true rfl)⟩ rfl rfl rfl (Nat.le_of_ble_eq_true rfl) dL_law_385 ?_
  refine J_icmp_eq (tgt := 748) hB dL_law_388 rfl (fun _ => ?_) (fun q => absurd rfl q)
  exact hnext wc' wm' n' S' rd' pg' hs' im' br' (t3 hb1) t4 t5 t6
set_option maxRecDepth 100000 in
set_option maxHeartbeats 2000000 in
theorem lw_c9 {l : Launch} {E : En} {Y : Cy} (hB : Cb E cL_law RL room_1 4 Y) {b L : Nat} {xs : Nat → Int32} (hX : va_X b L xs (ys Y) (ys Y).heap) (hbl : b < (ys Y).heap.size) (hbA : ¬ yA Y b) {a : Nat → Nat} {wc wm : va_W} {n S : Nat} {rd : Nd} {pg : List Nat} {hs : List (Nat × Nat)} {im : Option (List (Nat × Nat))} {br : Nat} (hO : Okk n S rd pg hs im br) (hW : WX E a wc n S rd pg hs im br) (hN : WM E a wm n S rd pg hs im br) {k : Nat} (h1 : vp_in (nI (4 * k) + 1) L) (h2 : vp_in (nI (4 * k) + 2) L) (h3 : vp_in (nI (4 * k) + 3) L) (hb1 : br + 1 < 1000000) (hnext : ∀ (wc' wm' : va_W) (n' S' : Nat) (rd' : Nd) (pg' : List Nat) (hs' : List (Nat × Nat)) (im' : Option (List (Nat × Nat))) (br' : Nat), Okk n' S' rd' pg' hs' im' br' → br' ≤ br + 1 → WX E a wc' n' S' rd' pg' hs' im' br' → WM E a wm' n' S' rd' pg' hs' im' br' → J l E room_1 Y (wc' ++ wm') 748 [(0, .ref b), (1, .ref (a 0)), (2, .ref (a 28)), (3, .int (nI (4 * k)))] []) : J l E room_1 Y (wc ++ wm) 393 [(0, .ref b), (1, .ref (a 0)), (2, .ref (a 28)), (3, .int (nI (4 * k)))] [] := by
  obtain ⟨v, wc', wm', n', S', rd', pg', hs', im', br', t1, t2, t3, t4, t5, t6⟩ := st_moves l E a hO hW hN 
  refine J_aload_n hB dL_law_393 rfl 1 rfl ?_
  refine J_cX (As := []) (rest := []) hB hW t5 t1 mi_X7_moves ⟨ki_X7_moves, kv_X7_moves⟩ km_L_55 ⟨rfl, rfl, (Nat.le_of_ble_eq_true rfl), (Nat.le_of_ble_eq_true rfl)⟩ rfl rfl rfl (Nat.le_of_ble_eq_true rfl) dL_law_394 ?_
  refine J_aload_n hB dL_law_397 rfl 2 rfl ?_
  refine J_cM (As := []) (rest := [.int v]) hB t5 hN t6 t2 mi_X8_moves ⟨ki_X8_moves, kv_X8_moves⟩ km_L_58 ⟨rfl, rfl, (Nat.le_of_ble_eq_true rfl), (Nat.le_of_ble_eq_true rfl)⟩ rfl rfl rfl (Nat.le_of_ble_eq_true rfl) dL_law_398 ?_
  refine J_icmp_eq (tgt := 748) hB dL_law_401 rfl (fun _ => ?_) (fun q => absurd rfl q)
  exact hnext wc' wm' n' S' rd' pg' hs' im' br' (t3 hb1) t4 t5 t6
set_option maxRecDepth 100000 in
set_option maxHeartbeats 2000000 in
theorem lw_c10 {l : Launch} {E : En} {Y : Cy} (hB : Cb E cL_law RL room_1 4 Y) {b L : Nat} {xs : Nat → Int32} (hX : va_X b L xs (ys Y) (ys Y).heap) (hbl : b < (ys Y).heap.size) (hbA : ¬ yA Y b) {a : Nat → Nat} {wc wm : va_W} {n S : Nat} {rd : Nd} {pg : List Nat} {hs : List (Nat × Nat)} {im : Option (List (Nat × Nat))} {br : Nat} (hO : Okk n S rd pg hs im br) (hW : WX E a wc n S rd pg hs im br) (hN : WM E a wm n S rd pg hs im br) {k : Nat} (h1 : vp_in (nI (4 * k) + 1) L) (h2 : vp_in (nI (4 * k) + 2) L) (h3 : vp_in (nI (4 * k) + 3) L) (hb1 : br + 1 < 1000000) (hnext : ∀ (wc' wm' : va_W) (n' S' : Nat) (rd' : Nd) (pg' : List Nat) (hs' : List (Nat × Nat)) (im' : Option (List (Nat × Nat))) (br' : Nat), Okk n' S' rd' pg' hs' im' br' → br' ≤ br + 1 → WX E a wc' n' S' rd' pg' hs' im' br' → WM E a wm' n' S' rd' pg' hs' im' br' → J l E room_1 Y (wc' ++ wm') 748 [(0, .ref b), (1, .ref (a 0)), (2, .ref (a 28)), (3, .int (nI (4 * k)))] []) : J l E room_1 Y (wc ++ wm) 406 [(0, .ref b), (1, .ref (a 0)), (2, .ref (a 28)), (3, .int (nI (4 * k)))] [] := by
  obtain ⟨v, wc', wm', n', S', rd', pg', hs', im', br', t1, t2, t3, t4, t5, t6⟩ := st_move l E a hO hW hN (xs ((nI (4 * k)) + 1).toNatClampNeg) (xs ((nI (4 * k)) + 2).toNatClampNeg)
  refine J_aload_n hB dL_law_406 rfl 1 rfl ?_
  refine J_aload_n hB dL_law_407 rfl 0 rfl ?_
  refine J_iload_n hB dL_law_408 rfl 3 rfl ?_
  refine J_iconst (v := 1) hB dL_law_409 rfl ?_
  refine J_iadd hB dL_law_410 ?_
  refine J_sld hB hX hbl hbA h1 dL_law_411 ?_
  refine J_aload_n hB dL_law_412 rfl 0 rfl ?_
  refine J_iload_n hB dL_law_413 rfl 3 rfl ?_
  refine J_iconst (v := 2) hB dL_law_414 rfl ?_
  refine J_iadd hB dL_law_415 ?_
  refine J_sld hB hX hbl hbA h2 dL_law_416 ?_
  refine J_cX (As := [.int (xs ((nI (4 * k)) + 1).toNatClampNeg), .int (xs ((nI (4 * k)) + 2).toNatClampNeg)]) (rest := []) hB hW t5 t1 mi_X7_move ⟨ki_X7_move, kv_X7_move⟩ km_L_59 ⟨rfl, rfl, (Nat.le_of_ble_eq_true rfl), (Nat.le_of_ble_eq_true rfl)⟩ rfl rfl rfl (Nat.le_of_ble_eq_true rfl) dL_law_417 ?_
  refine J_aload_n hB dL_law_420 rfl 2 rfl ?_
  refine J_aload_n hB dL_law_421 rfl 0 rfl ?_
  refine J_iload_n hB dL_law_422 rfl 3 rfl ?_
  refine J_iconst (v := 1) hB dL_law_423 rfl ?_
  refine J_iadd hB dL_law_424 ?_
  refine J_sld hB hX hbl hbA h1 dL_law_425 ?_
  refine J_aload_n hB dL_law_426 rfl 0 rfl ?_
  refine J_iload_n hB dL_law_427 rfl 3 rfl ?_
  refine J_iconst (v := 2) hB dL_law_428 rfl ?_
  refine J_iadd hB dL_law_429 ?_
  refine J_sld hB hX hbl hbA h2 dL_law_430 ?_
  refine J_cM (As := [.int (xs ((nI (4 * k)) + 1).toNatClampNeg), .int (xs ((nI (4 * k)) + 2).toNatClampNeg)]) (rest := [.int v]) hB t5 hN t6 t2 mi_X8_move ⟨ki_X8_move, kv_X8_move⟩ km_L_62 ⟨rfl, rfl, (Nat.le_of_ble_eq_true rfl), (Nat.le_of_ble_eq_true rfl)⟩ rfl rfl rfl (Nat.le_of_ble_eq_true rfl) dL_law_431 ?_
  refine J_icmp_eq (tgt := 748) hB dL_law_434 rfl (fun _ => ?_) (fun q => absurd rfl q)
  exact hnext wc' wm' n' S' rd' pg' hs' im' br' (t3 hb1) t4 t5 t6
set_option maxRecDepth 100000 in
set_option maxHeartbeats 2000000 in
theorem lw_c11 {l : Launch} {E : En} {Y : Cy} (hB : Cb E cL_law RL room_1 4 Y) {b L : Nat} {xs : Nat → Int32} (hX : va_X b L xs (ys Y) (ys Y).heap) (hbl : b < (ys Y).heap.size) (hbA : ¬ yA Y b) {a : Nat → Nat} {wc wm : va_W} {n S : Nat} {rd : Nd} {pg : List Nat} {hs : List (Nat × Nat)} {im : Option (List (Nat × Nat))} {br : Nat} (hO : Okk n S rd pg hs im br) (hW : WX E a wc n S rd pg hs im br) (hN : WM E a wm n S rd pg hs im br) {k : Nat} (h1 : vp_in (nI (4 * k) + 1) L) (h2 : vp_in (nI (4 * k) + 2) L) (h3 : vp_in (nI (4 * k) + 3) L) (hb1 : br + 1 < 1000000) (hnext : ∀ (wc' wm' : va_W) (n' S' : Nat) (rd' : Nd) (pg' : List Nat) (hs' : List (Nat × Nat)) (im' : Option (List (Nat × Nat))) (br' : Nat), Okk n' S' rd' pg' hs' im' br' → br' ≤ br + 1 → WX E a wc' n' S' rd' pg' hs' im' br' → WM E a wm' n' S' rd' pg' hs' im' br' → J l E room_1 Y (wc' ++ wm') 748 [(0, .ref b), (1, .ref (a 0)), (2, .ref (a 28)), (3, .int (nI (4 * k)))] []) : J l E room_1 Y (wc ++ wm) 439 [(0, .ref b), (1, .ref (a 0)), (2, .ref (a 28)), (3, .int (nI (4 * k)))] [] := by
  obtain ⟨v, wc', wm', n', S', rd', pg', hs', im', br', t1, t2, t3, t4, t5, t6⟩ := st_back l E a hO hW hN 
  refine J_aload_n hB dL_law_439 rfl 1 rfl ?_
  refine J_cX (As := []) (rest := []) hB hW t5 t1 mi_X7_back ⟨ki_X7_back, kv_X7_back⟩ km_L_63 ⟨rfl, rfl, (Nat.le_of_ble_eq_true rfl), (Nat.le_of_ble_eq_true rfl)⟩ rfl rfl rfl (Nat.le_of_ble_eq_true rfl) dL_law_440 ?_
  refine J_aload_n hB dL_law_443 rfl 2 rfl ?_
  refine J_cM (As := []) (rest := [.int v]) hB t5 hN t6 t2 mi_X8_back ⟨ki_X8_back, kv_X8_back⟩ km_L_66 ⟨rfl, rfl, (Nat.le_of_ble_eq_true rfl), (Nat.le_of_ble_eq_true rfl)⟩ rfl rfl rfl (Nat.le_of_ble_eq_true rfl) dL_law_444 ?_
  refine J_icmp_eq (tgt := 748) hB dL_law_447 rfl (fun _ => ?_) (fun q => absurd rfl q)
  exact hnext wc' wm' n' S' rd' pg' hs' im' br' (t3 hb1) t4 t5 t6
set_option maxRecDepth 100000 in
set_option maxHeartbeats 2000000 in
theorem lw_c12 {l : Launch} {E : En} {Y : Cy} (hB : Cb E cL_law RL room_1 4 Y) {b L : Nat} {xs : Nat → Int32} (hX : va_X b L xs (ys Y) (ys Y).heap) (hbl : b < (ys Y).heap.size) (hbA : ¬ yA Y b) {a : Nat → Nat} {wc wm : va_W} {n S : Nat} {rd : Nd} {pg : List Nat} {hs : List (Nat × Nat)} {im : Option (List (Nat × Nat))} {br : Nat} (hO : Okk n S rd pg hs im br) (hW : WX E a wc n S rd pg hs im br) (hN : WM E a wm n S rd pg hs im br) {k : Nat} (h1 : vp_in (nI (4 * k) + 1) L) (h2 : vp_in (nI (4 * k) + 2) L) (h3 : vp_in (nI (4 * k) + 3) L) (hb1 : br + 1 < 1000000) (hnext : ∀ (wc' wm' : va_W) (n' S' : Nat) (rd' : Nd) (pg' : List Nat) (hs' : List (Nat × Nat)) (im' : Option (List (Nat × Nat))) (br' : Nat), Okk n' S' rd' pg' hs' im' br' → br' ≤ br + 1 → WX E a wc' n' S' rd' pg' hs' im' br' → WM E a wm' n' S' rd' pg' hs' im' br' → J l E room_1 Y (wc' ++ wm') 748 [(0, .ref b), (1, .ref (a 0)), (2, .ref (a 28)), (3, .int (nI (4 * k)))] []) : J l E room_1 Y (wc ++ wm) 452 [(0, .ref b), (1, .ref (a 0)), (2, .ref (a 28)), (3, .int (nI (4 * k)))] [] := by
  obtain ⟨v, wc', wm', n', S', rd', pg', hs', im', br', t1, t2, t3, t4, t5, t6⟩ := st_fewest l E a hO hW hN (xs ((nI (4 * k)) + 1).toNatClampNeg)
  refine J_aload_n hB dL_law_452 rfl 1 rfl ?_
  refine J_aload_n hB dL_law_453 rfl 0 rfl ?_
  refine J_iload_n hB dL_law_454 rfl 3 rfl ?_
  refine J_iconst (v := 1) hB dL_law_455 rfl ?_
  refine J_iadd hB dL_law_456 ?_
  refine J_sld hB hX hbl hbA h1 dL_law_457 ?_
  refine J_cX (As := [.int (xs ((nI (4 * k)) + 1).toNatClampNeg)]) (rest := []) hB hW t5 t1 mi_X7_fewest ⟨ki_X7_fewest, kv_X7_fewest⟩ km_L_67 ⟨rfl, rfl, (Nat.le_of_ble_eq_true rfl), (Nat.le_of_ble_eq_true rfl)⟩ rfl rfl rfl (Nat.le_of_ble_eq_true rfl) dL_law_458 ?_
  refine J_aload_n hB dL_law_461 rfl 2 rfl ?_
  refine J_aload_n hB dL_law_462 rfl 0 rfl ?_
  refine J_iload_n hB dL_law_463 rfl 3 rfl ?_
  refine J_iconst (v := 1) hB dL_law_464 rfl ?_
  refine J_iadd hB dL_law_465 ?_
  refine J_sld hB hX hbl hbA h1 dL_law_466 ?_
  refine J_cM (As := [.int (xs ((nI (4 * k)) + 1).toNatClampNeg)]) (rest := [.int v]) hB t5 hN t6 t2 mi_X8_fewest ⟨ki_X8_fewest, kv_X8_fewest⟩ km_L_70 ⟨rfl, rfl, (Nat.le_of_ble_eq_true rfl), (Nat.le_of_ble_eq_true rfl)⟩ rfl rfl rfl (Nat.le_of_ble_eq_true rfl) dL_law_467 ?_
  refine J_icmp_eq (tgt := 748) hB dL_law_470 rfl (fun _ => ?_) (fun q => absurd rfl q)
  exact hnext wc' wm' n' S' rd' pg' hs' im' br' (t3 hb1) t4 t5 t6
set_option maxRecDepth 100000 in
set_option maxHeartbeats 2000000 in
theorem lw_c13 {l : Launch} {E : En} {Y : Cy} (hB : Cb E cL_law RL room_1 4 Y) {b L : Nat} {xs : Nat → Int32} (hX : va_X b L xs (ys Y) (ys Y).heap) (hbl : b < (ys Y).heap.size) (hbA : ¬ yA Y b) {a : Nat → Nat} {wc wm : va_W} {n S : Nat} {rd : Nd} {pg : List Nat} {hs : List (Nat × Nat)} {im : Option (List (Nat × Nat))} {br : Nat} (hO : Okk n S rd pg hs im br) (hW : WX E a wc n S rd pg hs im br) (hN : WM E a wm n S rd pg hs im br) {k : Nat} (h1 : vp_in (nI (4 * k) + 1) L) (h2 : vp_in (nI (4 * k) + 2) L) (h3 : vp_in (nI (4 * k) + 3) L) (hb1 : br + 1 < 1000000) (hnext : ∀ (wc' wm' : va_W) (n' S' : Nat) (rd' : Nd) (pg' : List Nat) (hs' : List (Nat × Nat)) (im' : Option (List (Nat × Nat))) (br' : Nat), Okk n' S' rd' pg' hs' im' br' → br' ≤ br + 1 → WX E a wc' n' S' rd' pg' hs' im' br' → WM E a wm' n' S' rd' pg' hs' im' br' → J l E room_1 Y (wc' ++ wm') 748 [(0, .ref b), (1, .ref (a 0)), (2, .ref (a 28)), (3, .int (nI (4 * k)))] []) : J l E room_1 Y (wc ++ wm) 475 [(0, .ref b), (1, .ref (a 0)), (2, .ref (a 28)), (3, .int (nI (4 * k)))] [] := by
  obtain ⟨v, wc', wm', n', S', rd', pg', hs', im', br', t1, t2, t3, t4, t5, t6⟩ := st_ways l E a hO hW hN 
  refine J_aload_n hB dL_law_475 rfl 1 rfl ?_
  refine J_cX (As := []) (rest := []) hB hW t5 t1 mi_X7_ways ⟨ki_X7_ways, kv_X7_ways⟩ km_L_71 ⟨rfl, rfl, (Nat.le_of_ble_eq_true rfl), (Nat.le_of_ble_eq_true rfl)⟩ rfl rfl rfl (Nat.le_of_ble_eq_true rfl) dL_law_476 ?_
  refine J_aload_n hB dL_law_479 rfl 2 rfl ?_
  refine J_cM (As := []) (rest := [.int v]) hB t5 hN t6 t2 mi_X8_ways ⟨ki_X8_ways, kv_X8_ways⟩ km_L_74 ⟨rfl, rfl, (Nat.le_of_ble_eq_true rfl), (Nat.le_of_ble_eq_true rfl)⟩ rfl rfl rfl (Nat.le_of_ble_eq_true rfl) dL_law_480 ?_
  refine J_icmp_eq (tgt := 748) hB dL_law_483 rfl (fun _ => ?_) (fun q => absurd rfl q)
  exact hnext wc' wm' n' S' rd' pg' hs' im' br' (t3 hb1) t4 t5 t6
set_option maxRecDepth 100000 in
set_option maxHeartbeats 2000000 in
theorem lw_c14 {l : Launch} {E : En} {Y : Cy} (hB : Cb E cL_law RL room_1 4 Y) {b L : Nat} {xs : Nat → Int32} (hX : va_X b L xs (ys Y) (ys Y).heap) (hbl : b < (ys Y).heap.size) (hbA : ¬ yA Y b) {a : Nat → Nat} {wc wm : va_W} {n S : Nat} {rd : Nd} {pg : List Nat} {hs : List (Nat × Nat)} {im : Option (List (Nat × Nat))} {br : Nat} (hO : Okk n S rd pg hs im br) (hW : WX E a wc n S rd pg hs im br) (hN : WM E a wm n S rd pg hs im br) {k : Nat} (h1 : vp_in (nI (4 * k) + 1) L) (h2 : vp_in (nI (4 * k) + 2) L) (h3 : vp_in (nI (4 * k) + 3) L) (hb1 : br + 1 < 1000000) (hnext : ∀ (wc' wm' : va_W) (n' S' : Nat) (rd' : Nd) (pg' : List Nat) (hs' : List (Nat × Nat)) (im' : Option (List (Nat × Nat))) (br' : Nat), Okk n' S' rd' pg' hs' im' br' → br' ≤ br + 1 → WX E a wc' n' S' rd' pg' hs' im' br' → WM E a wm' n' S' rd' pg' hs' im' br' → J l E room_1 Y (wc' ++ wm') 748 [(0, .ref b), (1, .ref (a 0)), (2, .ref (a 28)), (3, .int (nI (4 * k)))] []) : J l E room_1 Y (wc ++ wm) 488 [(0, .ref b), (1, .ref (a 0)), (2, .ref (a 28)), (3, .int (nI (4 * k)))] [] := by
  obtain ⟨v, wc', wm', n', S', rd', pg', hs', im', br', t1, t2, t3, t4, t5, t6⟩ := st_wrong l E a hO hW hN 
  refine J_aload_n hB dL_law_488 rfl 1 rfl ?_
  refine J_cX (As := []) (rest := []) hB hW t5 t1 mi_X7_wrong ⟨ki_X7_wrong, kv_X7_wrong⟩ km_L_75 ⟨rfl, rfl, (Nat.le_of_ble_eq_true rfl), (Nat.le_of_ble_eq_true rfl)⟩ rfl rfl rfl (Nat.le_of_ble_eq_true rfl) dL_law_489 ?_
  refine J_aload_n hB dL_law_492 rfl 2 rfl ?_
  refine J_cM (As := []) (rest := [.int v]) hB t5 hN t6 t2 mi_X8_wrong ⟨ki_X8_wrong, kv_X8_wrong⟩ km_L_78 ⟨rfl, rfl, (Nat.le_of_ble_eq_true rfl), (Nat.le_of_ble_eq_true rfl)⟩ rfl rfl rfl (Nat.le_of_ble_eq_true rfl) dL_law_493 ?_
  refine J_icmp_eq (tgt := 748) hB dL_law_496 rfl (fun _ => ?_) (fun q => absurd rfl q)
  exact hnext wc' wm' n' S' rd' pg' hs' im' br' (t3 hb1) t4 t5 t6
set_option maxRecDepth 100000 in
set_option maxHeartbeats 2000000 in
theorem lw_c15 {l : Launch} {E : En} {Y : Cy} (hB : Cb E cL_law RL room_1 4 Y) {b L : Nat} {xs : Nat → Int32} (hX : va_X b L xs (ys Y) (ys Y).heap) (hbl : b < (ys Y).heap.size) (hbA : ¬ yA Y b) {a : Nat → Nat} {wc wm : va_W} {n S : Nat} {rd : Nd} {pg : List Nat} {hs : List (Nat × Nat)} {im : Option (List (Nat × Nat))} {br : Nat} (hO : Okk n S rd pg hs im br) (hW : WX E a wc n S rd pg hs im br) (hN : WM E a wm n S rd pg hs im br) {k : Nat} (h1 : vp_in (nI (4 * k) + 1) L) (h2 : vp_in (nI (4 * k) + 2) L) (h3 : vp_in (nI (4 * k) + 3) L) (hb1 : br + 1 < 1000000) (hnext : ∀ (wc' wm' : va_W) (n' S' : Nat) (rd' : Nd) (pg' : List Nat) (hs' : List (Nat × Nat)) (im' : Option (List (Nat × Nat))) (br' : Nat), Okk n' S' rd' pg' hs' im' br' → br' ≤ br + 1 → WX E a wc' n' S' rd' pg' hs' im' br' → WM E a wm' n' S' rd' pg' hs' im' br' → J l E room_1 Y (wc' ++ wm') 748 [(0, .ref b), (1, .ref (a 0)), (2, .ref (a 28)), (3, .int (nI (4 * k)))] []) : J l E room_1 Y (wc ++ wm) 501 [(0, .ref b), (1, .ref (a 0)), (2, .ref (a 28)), (3, .int (nI (4 * k)))] [] := by
  obtain ⟨v, wc', wm', n', S', rd', pg', hs', im', br', t1, t2, t3, t4, t5, t6⟩ := st_ends l E a hO hW hN 
  refine J_aload_n hB dL_law_501 rfl 1 rfl ?_
  refine J_cX (As := []) (rest := []) hB hW t5 t1 mi_X7_ends ⟨ki_X7_ends, kv_X7_ends⟩ km_L_79 ⟨rfl, rfl, (Nat.le_of_ble_eq_true rfl), (Nat.le_of_ble_eq_true rfl)⟩ rfl rfl rfl (Nat.le_of_ble_eq_true rfl) dL_law_502 ?_
  refine J_aload_n hB dL_law_505 rfl 2 rfl ?_
  refine J_cM (As := []) (rest := [.int v]) hB t5 hN t6 t2 mi_X8_ends ⟨ki_X8_ends, kv_X8_ends⟩ km_L_82 ⟨rfl, rfl, (Nat.le_of_ble_eq_true rfl), (Nat.le_of_ble_eq_true rfl)⟩ rfl rfl rfl (Nat.le_of_ble_eq_true rfl) dL_law_506 ?_
  refine J_icmp_eq (tgt := 748) hB dL_law_509 rfl (fun _ => ?_) (fun q => absurd rfl q)
  exact hnext wc' wm' n' S' rd' pg' hs' im' br' (t3 hb1) t4 t5 t6
set_option maxRecDepth 100000 in
set_option maxHeartbeats 2000000 in
theorem lw_c16 {l : Launch} {E : En} {Y : Cy} (hB : Cb E cL_law RL room_1 4 Y) {b L : Nat} {xs : Nat → Int32} (hX : va_X b L xs (ys Y) (ys Y).heap) (hbl : b < (ys Y).heap.size) (hbA : ¬ yA Y b) {a : Nat → Nat} {wc wm : va_W} {n S : Nat} {rd : Nd} {pg : List Nat} {hs : List (Nat × Nat)} {im : Option (List (Nat × Nat))} {br : Nat} (hO : Okk n S rd pg hs im br) (hW : WX E a wc n S rd pg hs im br) (hN : WM E a wm n S rd pg hs im br) {k : Nat} (h1 : vp_in (nI (4 * k) + 1) L) (h2 : vp_in (nI (4 * k) + 2) L) (h3 : vp_in (nI (4 * k) + 3) L) (hb1 : br + 1 < 1000000) (hnext : ∀ (wc' wm' : va_W) (n' S' : Nat) (rd' : Nd) (pg' : List Nat) (hs' : List (Nat × Nat)) (im' : Option (List (Nat × Nat))) (br' : Nat), Okk n' S' rd' pg' hs' im' br' → br' ≤ br + 1 → WX E a wc' n' S' rd' pg' hs' im' br' → WM E a wm' n' S' rd' pg' hs' im' br' → J l E room_1 Y (wc' ++ wm') 748 [(0, .ref b), (1, .ref (a 0)), (2, .ref (a 28)), (3, .int (nI (4 * k)))] []) : J l E room_1 Y (wc ++ wm) 514 [(0, .ref b), (1, .ref (a 0)), (2, .ref (a 28)), (3, .int (nI (4 * k)))] [] := by
  obtain ⟨v, wc', wm', n', S', rd', pg', hs', im', br', t1, t2, t3, t4, t5, t6⟩ := st_soon l E a hO hW hN 
  refine J_aload_n hB dL_law_514 rfl 1 rfl ?_
  refine J_cX (As := []) (rest := []) hB hW t5 t1 mi_X7_soon ⟨ki_X7_soon, kv_X7_soon⟩ km_L_83 ⟨rfl, rfl, (Nat.le_of_ble_eq_true rfl), (Nat.le_of_ble_eq_true rfl)⟩ rfl rfl rfl (Nat.le_of_ble_eq_true rfl) dL_law_515 ?_
  refine J_aload_n hB dL_law_518 rfl 2 rfl ?_
  refine J_cM (As := []) (rest := [.int v]) hB t5 hN t6 t2 mi_X8_soon ⟨ki_X8_soon, kv_X8_soon⟩ km_L_86 ⟨rfl, rfl, (Nat.le_of_ble_eq_true rfl), (Nat.le_of_ble_eq_true rfl)⟩ rfl rfl rfl (Nat.le_of_ble_eq_true rfl) dL_law_519 ?_
  refine J_icmp_eq (tgt := 748) hB dL_law_522 rfl (fun _ => ?_) (fun q => absurd rfl q)
  exact hnext wc' wm' n' S' rd' pg' hs' im' br' (t3 hb1) t4 t5 t6
set_option maxRecDepth 100000 in
set_option maxHeartbeats 2000000 in
theorem lw_c17 {l : Launch} {E : En} {Y : Cy} (hB : Cb E cL_law RL room_1 4 Y) {b L : Nat} {xs : Nat → Int32} (hX : va_X b L xs (ys Y) (ys Y).heap) (hbl : b < (ys Y).heap.size) (hbA : ¬ yA Y b) {a : Nat → Nat} {wc wm : va_W} {n S : Nat} {rd : Nd} {pg : List Nat} {hs : List (Nat × Nat)} {im : Option (List (Nat × Nat))} {br : Nat} (hO : Okk n S rd pg hs im br) (hW : WX E a wc n S rd pg hs im br) (hN : WM E a wm n S rd pg hs im br) {k : Nat} (h1 : vp_in (nI (4 * k) + 1) L) (h2 : vp_in (nI (4 * k) + 2) L) (h3 : vp_in (nI (4 * k) + 3) L) (hb1 : br + 1 < 1000000) (hnext : ∀ (wc' wm' : va_W) (n' S' : Nat) (rd' : Nd) (pg' : List Nat) (hs' : List (Nat × Nat)) (im' : Option (List (Nat × Nat))) (br' : Nat), Okk n' S' rd' pg' hs' im' br' → br' ≤ br + 1 → WX E a wc' n' S' rd' pg' hs' im' br' → WM E a wm' n' S' rd' pg' hs' im' br' → J l E room_1 Y (wc' ++ wm') 748 [(0, .ref b), (1, .ref (a 0)), (2, .ref (a 28)), (3, .int (nI (4 * k)))] []) : J l E room_1 Y (wc ++ wm) 527 [(0, .ref b), (1, .ref (a 0)), (2, .ref (a 28)), (3, .int (nI (4 * k)))] [] := by
  obtain ⟨v, wc', wm', n', S', rd', pg', hs', im', br', t1, t2, t3, t4, t5, t6⟩ := st_comes l E a hO hW hN 
  refine J_aload_n hB dL_law_527 rfl 1 rfl ?_
  refine J_cX (As := []) (rest := []) hB hW t5 t1 mi_X7_comes ⟨ki_X7_comes, kv_X7_comes⟩ km_L_87 ⟨rfl, rfl, (Nat.le_of_ble_eq_true rfl), (Nat.le_of_ble_eq_true rfl)⟩ rfl rfl rfl (Nat.le_of_ble_eq_true rfl) dL_law_528 ?_
  refine J_aload_n hB dL_law_531 rfl 2 rfl ?_
  refine J_cM (As := []) (rest := [.int v]) hB t5 hN t6 t2 mi_X8_comes ⟨ki_X8_comes, kv_X8_comes⟩ km_L_90 ⟨rfl, rfl, (Nat.le_of_ble_eq_true rfl), (Nat.le_of_ble_eq_true rfl)⟩ rfl rfl rfl (Nat.le_of_ble_eq_true rfl) dL_law_532 ?_
  refine J_icmp_eq (tgt := 748) hB dL_law_535 rfl (fun _ => ?_) (fun q => absurd rfl q)
  exact hnext wc' wm' n' S' rd' pg' hs' im' br' (t3 hb1) t4 t5 t6
set_option maxRecDepth 100000 in
set_option maxHeartbeats 2000000 in
theorem lw_c18 {l : Launch} {E : En} {Y : Cy} (hB : Cb E cL_law RL room_1 4 Y) {b L : Nat} {xs : Nat → Int32} (hX : va_X b L xs (ys Y) (ys Y).heap) (hbl : b < (ys Y).heap.size) (hbA : ¬ yA Y b) {a : Nat → Nat} {wc wm : va_W} {n S : Nat} {rd : Nd} {pg : List Nat} {hs : List (Nat × Nat)} {im : Option (List (Nat × Nat))} {br : Nat} (hO : Okk n S rd pg hs im br) (hW : WX E a wc n S rd pg hs im br) (hN : WM E a wm n S rd pg hs im br) {k : Nat} (h1 : vp_in (nI (4 * k) + 1) L) (h2 : vp_in (nI (4 * k) + 2) L) (h3 : vp_in (nI (4 * k) + 3) L) (hb1 : br + 1 < 1000000) (hnext : ∀ (wc' wm' : va_W) (n' S' : Nat) (rd' : Nd) (pg' : List Nat) (hs' : List (Nat × Nat)) (im' : Option (List (Nat × Nat))) (br' : Nat), Okk n' S' rd' pg' hs' im' br' → br' ≤ br + 1 → WX E a wc' n' S' rd' pg' hs' im' br' → WM E a wm' n' S' rd' pg' hs' im' br' → J l E room_1 Y (wc' ++ wm') 748 [(0, .ref b), (1, .ref (a 0)), (2, .ref (a 28)), (3, .int (nI (4 * k)))] []) : J l E room_1 Y (wc ++ wm) 540 [(0, .ref b), (1, .ref (a 0)), (2, .ref (a 28)), (3, .int (nI (4 * k)))] [] := by
  obtain ⟨v, wc', wm', n', S', rd', pg', hs', im', br', t1, t2, t3, t4, t5, t6⟩ := st_more l E a hO hW hN (xs ((nI (4 * k)) + 1).toNatClampNeg)
  refine J_aload_n hB dL_law_540 rfl 1 rfl ?_
  refine J_aload_n hB dL_law_541 rfl 0 rfl ?_
  refine J_iload_n hB dL_law_542 rfl 3 rfl ?_
  refine J_iconst (v := 1) hB dL_law_543 rfl ?_
  refine J_iadd hB dL_law_544 ?_
  refine J_sld hB hX hbl hbA h1 dL_law_545 ?_
  refine J_cX (As := [.int (xs ((nI (4 * k)) + 1).toNatClampNeg)]) (rest := []) hB hW t5 t1 mi_X7_more ⟨ki_X7_more, kv_X7_more⟩ km_L_91 ⟨rfl, rfl, (Nat.le_of_ble_eq_true rfl), (Nat.le_of_ble_eq_true rfl)⟩ rfl rfl rfl (Nat.le_of_ble_eq_true rfl) dL_law_546 ?_
  refine J_aload_n hB dL_law_549 rfl 2 rfl ?_
  refine J_aload_n hB dL_law_550 rfl 0 rfl ?_
  refine J_iload_n hB dL_law_551 rfl 3 rfl ?_
  refine J_iconst (v := 1) hB dL_law_552 rfl ?_
  refine J_iadd hB dL_law_553 ?_
  refine J_sld hB hX hbl hbA h1 dL_law_554 ?_
  refine J_cM (As := [.int (xs ((nI (4 * k)) + 1).toNatClampNeg)]) (rest := [.int v]) hB t5 hN t6 t2 mi_X8_more ⟨ki_X8_more, kv_X8_more⟩ km_L_94 ⟨rfl, rfl, (Nat.le_of_ble_eq_true rfl), (Nat.le_of_ble_eq_true rfl)⟩ rfl rfl rfl (Nat.le_of_ble_eq_true rfl) dL_law_555 ?_
  refine J_icmp_eq (tgt := 748) hB dL_law_558 rfl (fun _ => ?_) (fun q => absurd rfl q)
  exact hnext wc' wm' n' S' rd' pg' hs' im' br' (t3 hb1) t4 t5 t6
set_option maxRecDepth 100000 in
set_option maxHeartbeats 2000000 in
theorem lw_c19 {l : Launch} {E : En} {Y : Cy} (hB : Cb E cL_law RL room_1 4 Y) {b L : Nat} {xs : Nat → Int32} (hX : va_X b L xs (ys Y) (ys Y).heap) (hbl : b < (ys Y).heap.size) (hbA : ¬ yA Y b) {a : Nat → Nat} {wc wm : va_W} {n S : Nat} {rd : Nd} {pg : List Nat} {hs : List (Nat × Nat)} {im : Option (List (Nat × Nat))} {br : Nat} (hO : Okk n S rd pg hs im br) (hW : WX E a wc n S rd pg hs im br) (hN : WM E a wm n S rd pg hs im br) {k : Nat} (h1 : vp_in (nI (4 * k) + 1) L) (h2 : vp_in (nI (4 * k) + 2) L) (h3 : vp_in (nI (4 * k) + 3) L) (hb1 : br + 1 < 1000000) (hnext : ∀ (wc' wm' : va_W) (n' S' : Nat) (rd' : Nd) (pg' : List Nat) (hs' : List (Nat × Nat)) (im' : Option (List (Nat × Nat))) (br' : Nat), Okk n' S' rd' pg' hs' im' br' → br' ≤ br + 1 → WX E a wc' n' S' rd' pg' hs' im' br' → WM E a wm' n' S' rd' pg' hs' im' br' → J l E room_1 Y (wc' ++ wm') 748 [(0, .ref b), (1, .ref (a 0)), (2, .ref (a 28)), (3, .int (nI (4 * k)))] []) : J l E room_1 Y (wc ++ wm) 563 [(0, .ref b), (1, .ref (a 0)), (2, .ref (a 28)), (3, .int (nI (4 * k)))] [] := by
  obtain ⟨v, wc', wm', n', S', rd', pg', hs', im', br', t1, t2, t3, t4, t5, t6⟩ := st_off l E a hO hW hN (xs ((nI (4 * k)) + 1).toNatClampNeg)
  refine J_aload_n hB dL_law_563 rfl 1 rfl ?_
  refine J_aload_n hB dL_law_564 rfl 0 rfl ?_
  refine J_iload_n hB dL_law_565 rfl 3 rfl ?_
  refine J_iconst (v := 1) hB dL_law_566 rfl ?_
  refine J_iadd hB dL_law_567 ?_
  refine J_sld hB hX hbl hbA h1 dL_law_568 ?_
  refine J_cX (As := [.int (xs ((nI (4 * k)) + 1).toNatClampNeg)]) (rest := []) hB hW t5 t1 mi_X7_off ⟨ki_X7_off, kv_X7_off⟩ km_L_95 ⟨rfl, rfl, (Nat.le_of_ble_eq_true rfl), (Nat.le_of_ble_eq_true rfl)⟩ rfl rfl rfl (Nat.le_of_ble_eq_true rfl) dL_law_569 ?_
  refine J_aload_n hB dL_law_572 rfl 2 rfl ?_
  refine J_aload_n hB dL_law_573 rfl 0 rfl ?_
  refine J_iload_n hB dL_law_574 rfl 3 rfl ?_
  refine J_iconst (v := 1) hB dL_law_575 rfl ?_
  refine J_iadd hB dL_law_576 ?_
  refine J_sld hB hX hbl hbA h1 dL_law_577 ?_
  refine J_cM (As := [.int (xs ((nI (4 * k)) + 1).toNatClampNeg)]) (rest := [.int v]) hB t5 hN t6 t2 mi_X8_off ⟨ki_X8_off, kv_X8_off⟩ km_L_98 ⟨rfl, rfl, (Nat.le_of_ble_eq_true rfl), (Nat.le_of_ble_eq_true rfl)⟩ rfl rfl rfl (Nat.le_of_ble_eq_true rfl) dL_law_578 ?_
  refine J_icmp_eq (tgt := 748) hB dL_law_581 rfl (fun _ => ?_) (fun q => absurd rfl q)
  exact hnext wc' wm' n' S' rd' pg' hs' im' br' (t3 hb1) t4 t5 t6
set_option maxRecDepth 100000 in
set_option maxHeartbeats 2000000 in
theorem lw_c20 {l : Launch} {E : En} {Y : Cy} (hB : Cb E cL_law RL room_1 4 Y) {b L : Nat} {xs : Nat → Int32} (hX : va_X b L xs (ys Y) (ys Y).heap) (hbl : b < (ys Y).heap.size) (hbA : ¬ yA Y b) {a : Nat → Nat} {wc wm : va_W} {n S : Nat} {rd : Nd} {pg : List Nat} {hs : List (Nat × Nat)} {im : Option (List (Nat × Nat))} {br : Nat} (hO : Okk n S rd pg hs im br) (hW : WX E a wc n S rd pg hs im br) (hN : WM E a wm n S rd pg hs im br) {k : Nat} (h1 : vp_in (nI (4 * k) + 1) L) (h2 : vp_in (nI (4 * k) + 2) L) (h3 : vp_in (nI (4 * k) + 3) L) (hb1 : br + 1 < 1000000) (hnext : ∀ (wc' wm' : va_W) (n' S' : Nat) (rd' : Nd) (pg' : List Nat) (hs' : List (Nat × Nat)) (im' : Option (List (Nat × Nat))) (br' : Nat), Okk n' S' rd' pg' hs' im' br' → br' ≤ br + 1 → WX E a wc' n' S' rd' pg' hs' im' br' → WM E a wm' n' S' rd' pg' hs' im' br' → J l E room_1 Y (wc' ++ wm') 748 [(0, .ref b), (1, .ref (a 0)), (2, .ref (a 28)), (3, .int (nI (4 * k)))] []) : J l E room_1 Y (wc ++ wm) 586 [(0, .ref b), (1, .ref (a 0)), (2, .ref (a 28)), (3, .int (nI (4 * k)))] [] := by
  obtain ⟨v, wc', wm', n', S', rd', pg', hs', im', br', t1, t2, t3, t4, t5, t6⟩ := st_wins l E a hO hW hN (xs ((nI (4 * k)) + 1).toNatClampNeg)
  refine J_aload_n hB dL_law_586 rfl 1 rfl ?_
  refine J_aload_n hB dL_law_587 rfl 0 rfl ?_
  refine J_iload_n hB dL_law_588 rfl 3 rfl ?_
  refine J_iconst (v := 1) hB dL_law_589 rfl ?_
  refine J_iadd hB dL_law_590 ?_
  refine J_sld hB hX hbl hbA h1 dL_law_591 ?_
  refine J_cX (As := [.int (xs ((nI (4 * k)) + 1).toNatClampNeg)]) (rest := []) hB hW t5 t1 mi_X7_wins ⟨ki_X7_wins, kv_X7_wins⟩ km_L_99 ⟨rfl, rfl, (Nat.le_of_ble_eq_true rfl), (Nat.le_of_ble_eq_true rfl)⟩ rfl rfl rfl (Nat.le_of_ble_eq_true rfl) dL_law_592 ?_
  refine J_aload_n hB dL_law_595 rfl 2 rfl ?_
  refine J_aload_n hB dL_law_596 rfl 0 rfl ?_
  refine J_iload_n hB dL_law_597 rfl 3 rfl ?_
  refine J_iconst (v := 1) hB dL_law_598 rfl ?_
  refine J_iadd hB dL_law_599 ?_
  refine J_sld hB hX hbl hbA h1 dL_law_600 ?_
  refine J_cM (As := [.int (xs ((nI (4 * k)) + 1).toNatClampNeg)]) (rest := [.int v]) hB t5 hN t6 t2 mi_X8_wins ⟨ki_X8_wins, kv_X8_wins⟩ km_L_102 ⟨rfl, rfl, (Nat.le_of_ble_eq_true rfl), (Nat.le_of_ble_eq_true rfl)⟩ rfl rfl rfl (Nat.le_of_ble_eq_true rfl) dL_law_601 ?_
  refine J_icmp_eq (tgt := 748) hB dL_law_604 rfl (fun _ => ?_) (fun q => absurd rfl q)
  exact hnext wc' wm' n' S' rd' pg' hs' im' br' (t3 hb1) t4 t5 t6
set_option maxRecDepth 100000 in
set_option maxHeartbeats 2000000 in
theorem lw_c21 {l : Launch} {E : En} {Y : Cy} (hB : Cb E cL_law RL room_1 4 Y) {b L : Nat} {xs : Nat → Int32} (hX : va_X b L xs (ys Y) (ys Y).heap) (hbl : b < (ys Y).heap.size) (hbA : ¬ yA Y b) {a : Nat → Nat} {wc wm : va_W} {n S : Nat} {rd : Nd} {pg : List Nat} {hs : List (Nat × Nat)} {im : Option (List (Nat × Nat))} {br : Nat} (hO : Okk n S rd pg hs im br) (hW : WX E a wc n S rd pg hs im br) (hN : WM E a wm n S rd pg hs im br) {k : Nat} (h1 : vp_in (nI (4 * k) + 1) L) (h2 : vp_in (nI (4 * k) + 2) L) (h3 : vp_in (nI (4 * k) + 3) L) (hb1 : br + 1 < 1000000) (hnext : ∀ (wc' wm' : va_W) (n' S' : Nat) (rd' : Nd) (pg' : List Nat) (hs' : List (Nat × Nat)) (im' : Option (List (Nat × Nat))) (br' : Nat), Okk n' S' rd' pg' hs' im' br' → br' ≤ br + 1 → WX E a wc' n' S' rd' pg' hs' im' br' → WM E a wm' n' S' rd' pg' hs' im' br' → J l E room_1 Y (wc' ++ wm') 748 [(0, .ref b), (1, .ref (a 0)), (2, .ref (a 28)), (3, .int (nI (4 * k)))] []) : J l E room_1 Y (wc ++ wm) 609 [(0, .ref b), (1, .ref (a 0)), (2, .ref (a 28)), (3, .int (nI (4 * k)))] [] := by
  obtain ⟨v, wc', wm', n', S', rd', pg', hs', im', br', t1, t2, t3, t4, t5, t6⟩ := st_by l E a hO hW hN (xs ((nI (4 * k)) + 1).toNatClampNeg) (xs ((nI (4 * k)) + 2).toNatClampNeg)
  refine J_aload_n hB dL_law_609 rfl 1 rfl ?_
  refine J_aload_n hB dL_law_610 rfl 0 rfl ?_
  refine J_iload_n hB dL_law_611 rfl 3 rfl ?_
  refine J_iconst (v := 1) hB dL_law_612 rfl ?_
  refine J_iadd hB dL_law_613 ?_
  refine J_sld hB hX hbl hbA h1 dL_law_614 ?_
  refine J_aload_n hB dL_law_615 rfl 0 rfl ?_
  refine J_iload_n hB dL_law_616 rfl 3 rfl ?_
  refine J_iconst (v := 2) hB dL_law_617 rfl ?_
  refine J_iadd hB dL_law_618 ?_
  refine J_sld hB hX hbl hbA h2 dL_law_619 ?_
  refine J_cX (As := [.int (xs ((nI (4 * k)) + 1).toNatClampNeg), .int (xs ((nI (4 * k)) + 2).toNatClampNeg)]) (rest := []) hB hW t5 t1 mi_X7_by ⟨ki_X7_by, kv_X7_by⟩ km_L_103 ⟨rfl, rfl, (Nat.le_of_ble_eq_true rfl), (Nat.le_of_ble_eq_true rfl)⟩ rfl rfl rfl (Nat.le_of_ble_eq_true rfl) dL_law_620 ?_
  refine J_aload_n hB dL_law_623 rfl 2 rfl ?_
  refine J_aload_n hB dL_law_624 rfl 0 rfl ?_
  refine J_iload_n hB dL_law_625 rfl 3 rfl ?_
  refine J_iconst (v := 1) hB dL_law_626 rfl ?_
  refine J_iadd hB dL_law_627 ?_
  refine J_sld hB hX hbl hbA h1 dL_law_628 ?_
  refine J_aload_n hB dL_law_629 rfl 0 rfl ?_
  refine J_iload_n hB dL_law_630 rfl 3 rfl ?_
  refine J_iconst (v := 2) hB dL_law_631 rfl ?_
  refine J_iadd hB dL_law_632 ?_
  refine J_sld hB hX hbl hbA h2 dL_law_633 ?_
  refine J_cM (As := [.int (xs ((nI (4 * k)) + 1).toNatClampNeg), .int (xs ((nI (4 * k)) + 2).toNatClampNeg)]) (rest := [.int v]) hB t5 hN t6 t2 mi_X8_by ⟨ki_X8_by, kv_X8_by⟩ km_L_106 ⟨rfl, rfl, (Nat.le_of_ble_eq_true rfl), (Nat.le_of_ble_eq_true rfl)⟩ rfl rfl rfl (Nat.le_of_ble_eq_true rfl) dL_law_634 ?_
  refine J_icmp_eq (tgt := 748) hB dL_law_637 rfl (fun _ => ?_) (fun q => absurd rfl q)
  exact hnext wc' wm' n' S' rd' pg' hs' im' br' (t3 hb1) t4 t5 t6
set_option maxRecDepth 100000 in
set_option maxHeartbeats 2000000 in
theorem lw_c22 {l : Launch} {E : En} {Y : Cy} (hB : Cb E cL_law RL room_1 4 Y) {b L : Nat} {xs : Nat → Int32} (hX : va_X b L xs (ys Y) (ys Y).heap) (hbl : b < (ys Y).heap.size) (hbA : ¬ yA Y b) {a : Nat → Nat} {wc wm : va_W} {n S : Nat} {rd : Nd} {pg : List Nat} {hs : List (Nat × Nat)} {im : Option (List (Nat × Nat))} {br : Nat} (hO : Okk n S rd pg hs im br) (hW : WX E a wc n S rd pg hs im br) (hN : WM E a wm n S rd pg hs im br) {k : Nat} (h1 : vp_in (nI (4 * k) + 1) L) (h2 : vp_in (nI (4 * k) + 2) L) (h3 : vp_in (nI (4 * k) + 3) L) (hb1 : br + 1 < 1000000) (hnext : ∀ (wc' wm' : va_W) (n' S' : Nat) (rd' : Nd) (pg' : List Nat) (hs' : List (Nat × Nat)) (im' : Option (List (Nat × Nat))) (br' : Nat), Okk n' S' rd' pg' hs' im' br' → br' ≤ br + 1 → WX E a wc' n' S' rd' pg' hs' im' br' → WM E a wm' n' S' rd' pg' hs' im' br' → J l E room_1 Y (wc' ++ wm') 748 [(0, .ref b), (1, .ref (a 0)), (2, .ref (a 28)), (3, .int (nI (4 * k)))] []) : J l E room_1 Y (wc ++ wm) 642 [(0, .ref b), (1, .ref (a 0)), (2, .ref (a 28)), (3, .int (nI (4 * k)))] [] := by
  obtain ⟨v, wc', wm', n', S', rd', pg', hs', im', br', t1, t2, t3, t4, t5, t6⟩ := st_play l E a hO hW hN (xs ((nI (4 * k)) + 1).toNatClampNeg) (xs ((nI (4 * k)) + 2).toNatClampNeg) (xs ((nI (4 * k)) + 3).toNatClampNeg)
  refine J_aload_n hB dL_law_642 rfl 1 rfl ?_
  refine J_aload_n hB dL_law_643 rfl 0 rfl ?_
  refine J_iload_n hB dL_law_644 rfl 3 rfl ?_
  refine J_iconst (v := 1) hB dL_law_645 rfl ?_
  refine J_iadd hB dL_law_646 ?_
  refine J_sld hB hX hbl hbA h1 dL_law_647 ?_
  refine J_aload_n hB dL_law_648 rfl 0 rfl ?_
  refine J_iload_n hB dL_law_649 rfl 3 rfl ?_
  refine J_iconst (v := 2) hB dL_law_650 rfl ?_
  refine J_iadd hB dL_law_651 ?_
  refine J_sld hB hX hbl hbA h2 dL_law_652 ?_
  refine J_aload_n hB dL_law_653 rfl 0 rfl ?_
  refine J_iload_n hB dL_law_654 rfl 3 rfl ?_
  refine J_iconst (v := 3) hB dL_law_655 rfl ?_
  refine J_iadd hB dL_law_656 ?_
  refine J_sld hB hX hbl hbA h3 dL_law_657 ?_
  refine J_cX (As := [.int (xs ((nI (4 * k)) + 1).toNatClampNeg), .int (xs ((nI (4 * k)) + 2).toNatClampNeg), .int (xs ((nI (4 * k)) + 3).toNatClampNeg)]) (rest := []) hB hW t5 t1 mi_X7_play ⟨ki_X7_play, kv_X7_play⟩ km_L_107 ⟨rfl, rfl, (Nat.le_of_ble_eq_true rfl), (Nat.le_of_ble_eq_true rfl)⟩ rfl rfl rfl (Nat.le_of_ble_eq_true rfl) dL_law_658 ?_
  refine J_aload_n hB dL_law_661 rfl 2 rfl ?_
  refine J_aload_n hB dL_law_662 rfl 0 rfl ?_
  refine J_iload_n hB dL_law_663 rfl 3 rfl ?_
  refine J_iconst (v := 1) hB dL_law_664 rfl ?_
  refine J_iadd hB dL_law_665 ?_
  refine J_sld hB hX hbl hbA h1 dL_law_666 ?_
  refine J_aload_n hB dL_law_667 rfl 0 rfl ?_
  refine J_iload_n hB dL_law_668 rfl 3 rfl ?_
  refine J_iconst (v := 2) hB dL_law_669 rfl ?_
  refine J_iadd hB dL_law_670 ?_
  refine J_sld hB hX hbl hbA h2 dL_law_671 ?_
  refine J_aload_n hB dL_law_672 rfl 0 rfl ?_
  refine J_iload_n hB dL_law_673 rfl 3 rfl ?_
  refine J_iconst (v := 3) hB dL_law_674 rfl ?_
  refine J_iadd hB dL_law_675 ?_
  refine J_sld hB hX hbl hbA h3 dL_law_676 ?_
  refine J_cM (As := [.int (xs ((nI (4 * k)) + 1).toNatClampNeg), .int (xs ((nI (4 * k)) + 2).toNatClampNeg), .int (xs ((nI (4 * k)) + 3).toNatClampNeg)]) (rest := [.int v]) hB t5 hN t6 t2 mi_X8_play ⟨ki_X8_play, kv_X8_play⟩ km_L_111 ⟨rfl, rfl, (Nat.le_of_ble_eq_true rfl), (Nat.le_of_ble_eq_true rfl)⟩ rfl rfl rfl (Nat.le_of_ble_eq_true rfl) dL_law_677 ?_
  refine J_icmp_eq (tgt := 748) hB dL_law_680 rfl (fun _ => ?_) (fun q => absurd rfl q)
  exact hnext wc' wm' n' S' rd' pg' hs' im' br' (t3 hb1) t4 t5 t6
set_option maxRecDepth 100000 in
set_option maxHeartbeats 2000000 in
theorem lw_c23 {l : Launch} {E : En} {Y : Cy} (hB : Cb E cL_law RL room_1 4 Y) {b L : Nat} {xs : Nat → Int32} (hX : va_X b L xs (ys Y) (ys Y).heap) (hbl : b < (ys Y).heap.size) (hbA : ¬ yA Y b) {a : Nat → Nat} {wc wm : va_W} {n S : Nat} {rd : Nd} {pg : List Nat} {hs : List (Nat × Nat)} {im : Option (List (Nat × Nat))} {br : Nat} (hO : Okk n S rd pg hs im br) (hW : WX E a wc n S rd pg hs im br) (hN : WM E a wm n S rd pg hs im br) {k : Nat} (h1 : vp_in (nI (4 * k) + 1) L) (h2 : vp_in (nI (4 * k) + 2) L) (h3 : vp_in (nI (4 * k) + 3) L) (hb1 : br + 1 < 1000000) (hnext : ∀ (wc' wm' : va_W) (n' S' : Nat) (rd' : Nd) (pg' : List Nat) (hs' : List (Nat × Nat)) (im' : Option (List (Nat × Nat))) (br' : Nat), Okk n' S' rd' pg' hs' im' br' → br' ≤ br + 1 → WX E a wc' n' S' rd' pg' hs' im' br' → WM E a wm' n' S' rd' pg' hs' im' br' → J l E room_1 Y (wc' ++ wm') 748 [(0, .ref b), (1, .ref (a 0)), (2, .ref (a 28)), (3, .int (nI (4 * k)))] []) : J l E room_1 Y (wc ++ wm) 685 [(0, .ref b), (1, .ref (a 0)), (2, .ref (a 28)), (3, .int (nI (4 * k)))] [] := by
  obtain ⟨v, wc', wm', n', S', rd', pg', hs', im', br', t1, t2, t3, t4, t5, t6⟩ := st_image l E a hO hW hN 
  refine J_aload_n hB dL_law_685 rfl 1 rfl ?_
  refine J_cX (As := []) (rest := []) hB hW t5 t1 mi_X7_image ⟨ki_X7_image, kv_X7_image⟩ km_L_112 ⟨rfl, rfl, (Nat.le_of_ble_eq_true rfl), (Nat.le_of_ble_eq_true rfl)⟩ rfl rfl rfl (Nat.le_of_ble_eq_true rfl) dL_law_686 ?_
  refine J_aload_n hB dL_law_689 rfl 2 rfl ?_
  refine J_cM (As := []) (rest := [.int v]) hB t5 hN t6 t2 mi_X8_image ⟨ki_X8_image, kv_X8_image⟩ km_L_115 ⟨rfl, rfl, (Nat.le_of_ble_eq_true rfl), (Nat.le_of_ble_eq_true rfl)⟩ rfl rfl rfl (Nat.le_of_ble_eq_true rfl) dL_law_690 ?_
  refine J_icmp_eq (tgt := 748) hB dL_law_693 rfl (fun _ => ?_) (fun q => absurd rfl q)
  exact hnext wc' wm' n' S' rd' pg' hs' im' br' (t3 hb1) t4 t5 t6
set_option maxRecDepth 100000 in
set_option maxHeartbeats 2000000 in
theorem lw_c24 {l : Launch} {E : En} {Y : Cy} (hB : Cb E cL_law RL room_1 4 Y) {b L : Nat} {xs : Nat → Int32} (hX : va_X b L xs (ys Y) (ys Y).heap) (hbl : b < (ys Y).heap.size) (hbA : ¬ yA Y b) {a : Nat → Nat} {wc wm : va_W} {n S : Nat} {rd : Nd} {pg : List Nat} {hs : List (Nat × Nat)} {im : Option (List (Nat × Nat))} {br : Nat} (hO : Okk n S rd pg hs im br) (hW : WX E a wc n S rd pg hs im br) (hN : WM E a wm n S rd pg hs im br) {k : Nat} (h1 : vp_in (nI (4 * k) + 1) L) (h2 : vp_in (nI (4 * k) + 2) L) (h3 : vp_in (nI (4 * k) + 3) L) (hb1 : br + 1 < 1000000) (hnext : ∀ (wc' wm' : va_W) (n' S' : Nat) (rd' : Nd) (pg' : List Nat) (hs' : List (Nat × Nat)) (im' : Option (List (Nat × Nat))) (br' : Nat), Okk n' S' rd' pg' hs' im' br' → br' ≤ br + 1 → WX E a wc' n' S' rd' pg' hs' im' br' → WM E a wm' n' S' rd' pg' hs' im' br' → J l E room_1 Y (wc' ++ wm') 748 [(0, .ref b), (1, .ref (a 0)), (2, .ref (a 28)), (3, .int (nI (4 * k)))] []) : J l E room_1 Y (wc ++ wm) 698 [(0, .ref b), (1, .ref (a 0)), (2, .ref (a 28)), (3, .int (nI (4 * k)))] [] := by
  obtain ⟨v, wc', wm', n', S', rd', pg', hs', im', br', t1, t2, t3, t4, t5, t6⟩ := st_restore l E a hO hW hN 
  refine J_aload_n hB dL_law_698 rfl 1 rfl ?_
  refine J_cX (As := []) (rest := []) hB hW t5 t1 mi_X7_restore ⟨ki_X7_restore, kv_X7_restore⟩ km_L_116 ⟨rfl, rfl, (Nat.le_of_ble_eq_true rfl), (Nat.le_of_ble_eq_true rfl)⟩ rfl rfl rfl (Nat.le_of_ble_eq_true rfl) dL_law_699 ?_
  refine J_aload_n hB dL_law_702 rfl 2 rfl ?_
  refine J_cM (As := []) (rest := [.int v]) hB t5 hN t6 t2 mi_X8_restore ⟨ki_X8_restore, kv_X8_restore⟩ km_L_119 ⟨rfl, rfl, (Nat.le_of_ble_eq_true rfl), (Nat.le_of_ble_eq_true rfl)⟩ rfl rfl rfl (Nat.le_of_ble_eq_true rfl) dL_law_703 ?_
  refine J_icmp_eq (tgt := 748) hB dL_law_706 rfl (fun _ => ?_) (fun q => absurd rfl q)
  exact hnext wc' wm' n' S' rd' pg' hs' im' br' (t3 hb1) t4 t5 t6
set_option maxRecDepth 100000 in
set_option maxHeartbeats 2000000 in
theorem lw_c25 {l : Launch} {E : En} {Y : Cy} (hB : Cb E cL_law RL room_1 4 Y) {b L : Nat} {xs : Nat → Int32} (hX : va_X b L xs (ys Y) (ys Y).heap) (hbl : b < (ys Y).heap.size) (hbA : ¬ yA Y b) {a : Nat → Nat} {wc wm : va_W} {n S : Nat} {rd : Nd} {pg : List Nat} {hs : List (Nat × Nat)} {im : Option (List (Nat × Nat))} {br : Nat} (hO : Okk n S rd pg hs im br) (hW : WX E a wc n S rd pg hs im br) (hN : WM E a wm n S rd pg hs im br) {k : Nat} (h1 : vp_in (nI (4 * k) + 1) L) (h2 : vp_in (nI (4 * k) + 2) L) (h3 : vp_in (nI (4 * k) + 3) L) (hb1 : br + 1 < 1000000) (hnext : ∀ (wc' wm' : va_W) (n' S' : Nat) (rd' : Nd) (pg' : List Nat) (hs' : List (Nat × Nat)) (im' : Option (List (Nat × Nat))) (br' : Nat), Okk n' S' rd' pg' hs' im' br' → br' ≤ br + 1 → WX E a wc' n' S' rd' pg' hs' im' br' → WM E a wm' n' S' rd' pg' hs' im' br' → J l E room_1 Y (wc' ++ wm') 748 [(0, .ref b), (1, .ref (a 0)), (2, .ref (a 28)), (3, .int (nI (4 * k)))] []) : J l E room_1 Y (wc ++ wm) 711 [(0, .ref b), (1, .ref (a 0)), (2, .ref (a 28)), (3, .int (nI (4 * k)))] [] := by
  obtain ⟨v, wc', wm', n', S', rd', pg', hs', im', br', t1, t2, t3, t4, t5, t6⟩ := st_count l E a hO hW hN (xs ((nI (4 * k)) + 1).toNatClampNeg)
  refine J_aload_n hB dL_law_711 rfl 1 rfl ?_
  refine J_aload_n hB dL_law_712 rfl 0 rfl ?_
  refine J_iload_n hB dL_law_713 rfl 3 rfl ?_
  refine J_iconst (v := 1) hB dL_law_714 rfl ?_
  refine J_iadd hB dL_law_715 ?_
  refine J_sld hB hX hbl hbA h1 dL_law_716 ?_
  refine J_cX (As := [.int (xs ((nI (4 * k)) + 1).toNatClampNeg)]) (rest := []) hB hW t5 t1 mi_X7_count ⟨ki_X7_count, kv_X7_count⟩ km_L_120 ⟨rfl, rfl, (Nat.le_of_ble_eq_true rfl), (Nat.le_of_ble_eq_true rfl)⟩ rfl rfl rfl (Nat.le_of_ble_eq_true rfl) dL_law_717 ?_
  refine J_aload_n hB dL_law_720 rfl 2 rfl ?_
  refine J_aload_n hB dL_law_721 rfl 0 rfl ?_
  refine J_iload_n hB dL_law_722 rfl 3 rfl ?_
  refine J_iconst (v := 1) hB dL_law_723 rfl ?_
  refine J_iadd hB dL_law_724 ?_
  refine J_sld hB hX hbl hbA h1 dL_law_725 ?_
  refine J_cM (As := [.int (xs ((nI (4 * k)) + 1).toNatClampNeg)]) (rest := [.int v]) hB t5 hN t6 t2 mi_X8_count ⟨ki_X8_count, kv_X8_count⟩ km_L_123 ⟨rfl, rfl, (Nat.le_of_ble_eq_true rfl), (Nat.le_of_ble_eq_true rfl)⟩ rfl rfl rfl (Nat.le_of_ble_eq_true rfl) dL_law_726 ?_
  refine J_icmp_eq (tgt := 748) hB dL_law_729 rfl (fun _ => ?_) (fun q => absurd rfl q)
  exact hnext wc' wm' n' S' rd' pg' hs' im' br' (t3 hb1) t4 t5 t6
set_option maxRecDepth 100000 in
set_option maxHeartbeats 2000000 in
theorem lw_c26 {l : Launch} {E : En} {Y : Cy} (hB : Cb E cL_law RL room_1 4 Y) {b L : Nat} {xs : Nat → Int32} (hX : va_X b L xs (ys Y) (ys Y).heap) (hbl : b < (ys Y).heap.size) (hbA : ¬ yA Y b) {a : Nat → Nat} {wc wm : va_W} {n S : Nat} {rd : Nd} {pg : List Nat} {hs : List (Nat × Nat)} {im : Option (List (Nat × Nat))} {br : Nat} (hO : Okk n S rd pg hs im br) (hW : WX E a wc n S rd pg hs im br) (hN : WM E a wm n S rd pg hs im br) {k : Nat} (h1 : vp_in (nI (4 * k) + 1) L) (h2 : vp_in (nI (4 * k) + 2) L) (h3 : vp_in (nI (4 * k) + 3) L) (hb1 : br + 1 < 1000000) (hnext : ∀ (wc' wm' : va_W) (n' S' : Nat) (rd' : Nd) (pg' : List Nat) (hs' : List (Nat × Nat)) (im' : Option (List (Nat × Nat))) (br' : Nat), Okk n' S' rd' pg' hs' im' br' → br' ≤ br + 1 → WX E a wc' n' S' rd' pg' hs' im' br' → WM E a wm' n' S' rd' pg' hs' im' br' → J l E room_1 Y (wc' ++ wm') 748 [(0, .ref b), (1, .ref (a 0)), (2, .ref (a 28)), (3, .int (nI (4 * k)))] []) : J l E room_1 Y (wc ++ wm) 734 [(0, .ref b), (1, .ref (a 0)), (2, .ref (a 28)), (3, .int (nI (4 * k)))] [] := by
  obtain ⟨v, wc', wm', n', S', rd', pg', hs', im', br', t1, t2, t3, t4, t5, t6⟩ := st_digest l E a hO hW hN 
  refine J_aload_n hB dL_law_734 rfl 1 rfl ?_
  refine J_cX (As := []) (rest := []) hB hW t5 t1 mi_X7_digest ⟨ki_X7_digest, kv_X7_digest⟩ km_L_124 ⟨rfl, rfl, (Nat.le_of_ble_eq_true rfl), (Nat.le_of_ble_eq_true rfl)⟩ rfl rfl rfl (Nat.le_of_ble_eq_true rfl) dL_law_735 ?_
  refine J_aload_n hB dL_law_738 rfl 2 rfl ?_
  refine J_cM (As := []) (rest := [.long v]) hB t5 hN t6 t2 mi_X8_digest ⟨ki_X8_digest, kv_X8_digest⟩ km_L_128 ⟨rfl, rfl, (Nat.le_of_ble_eq_true rfl), (Nat.le_of_ble_eq_true rfl)⟩ rfl rfl rfl (Nat.le_of_ble_eq_true rfl) dL_law_739 ?_
  refine J_lcmp hB dL_law_742 ?_
  refine J_if_eq (tgt := 748) hB dL_law_743 rfl (fun _ => ?_) (fun q => absurd (cmp_self v) q)
  exact hnext wc' wm' n' S' rd' pg' hs' im' br' (t3 hb1) t4 t5 t6
