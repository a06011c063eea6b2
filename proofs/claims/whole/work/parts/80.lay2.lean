/-! ===== what makes cells: new objects, new arrays, constructors ===== -/
theorem koI : Cond.instanceMethod objectInit ∈ bigW := List.mem_filter.mpr ⟨List.mem_append_right _ (List.mem_append_left _ (List.mem_of_getElem? (i := 18) rfl)), rfl⟩
theorem koC : Cond.code objectInit ⟨#[0xb1]⟩ 1 none ∈ bigW := List.mem_filter.mpr ⟨List.mem_append_right _ (List.mem_append_left _ (List.mem_of_getElem? (i := 19) rfl)), rfl⟩
theorem kaI : Cond.arrayClass .int ∈ bigW := List.mem_filter.mpr ⟨List.mem_append_right _ (List.mem_append_left _ (List.mem_of_getElem? (i := 35) rfl)), rfl⟩
theorem kaB : Cond.arrayClass .byte ∈ bigW := List.mem_filter.mpr ⟨List.mem_append_right _ (List.mem_append_right _ (List.mem_append_right _ (List.mem_append_left _ (List.mem_of_getElem? (i := 206) rfl)))), rfl⟩
theorem kaL : Cond.arrayClass .long ∈ bigW := List.mem_filter.mpr ⟨List.mem_append_right _ (List.mem_append_right _ (List.mem_append_right _ (List.mem_append_left _ (List.mem_of_getElem? (i := 207) rfl)))), rfl⟩
def wk (Y : Cy) (k n : Nat) : Cy := (yp Y, ye Y, ys Y, ym Y, ya Y, yb Y, yt Y, yc Y, yA Y, yQ Y, yN Y, k, n)
section
variable {l : Launch} {E : En} {cc : ByteArray} {own : String} {R : Room} {nL : Nat} {Y : Cy} {ws ws' : va_W} {pc : Nat} {lv lv' : List (Nat × Value)} {st : List Value} {k n k' n' : Nat}
theorem Cb.wk' (h : Cb E cc own R nL (wk Y k n)) (hk : k' ≤ R.cells) (hn : n' ≤ R.slots) : Cb E cc own R nL (wk Y k' n') := ⟨h.1, h.2.1, h.2.2.1, h.2.2.2.1, h.2.2.2.2.1, h.2.2.2.2.2.1, h.2.2.2.2.2.2.1, h.2.2.2.2.2.2.2.1, ⟨hk, hn⟩, h.2.2.2.2.2.2.2.2.2⟩
theorem J_new (hB : Cb E cc own R nL (wk Y k n)) {C : String} {T : u_T} {N ci index : Nat} {fs : List Value} (hin : ∀ w ∈ u_ws C T N, w ∈ bigW) (ty : Nat → FieldType) (hty : ∀ k, k < N → parseFieldDescriptor (T k).2.2.1 = some (ty k)) (hcl : Cond.classLink own index C ∈ bigW) (hinst : Cond.instantiable C N ∈ bigW) (hini : Cond.initialized C ∈ bigW) (hc : vwCl[ci]? = some (C, T, N)) (hfs : ∀ j, j < N → defaultValue (ty j) = vp_V fs j) (hk : k + 1 = k') (hn : n + N = n') (hkR : k' ≤ R.cells) (hnR : n' ≤ R.slots) (hd : decode cc pc = .ok (.new index, 3))
    (kk : ∀ q : Nat, Cb E cc own R nL (wk Y k' n') → J l E R (wk Y k' n') (ws ++ [ob q ci fs]) (pc + 3) lv (.ref q :: st)) : J l E R (wk Y k n) ws pc lv st := fun H locs ls hP hD hS hl => by
  subst hk; subst hn
  exact va_new hB.1 hB.2.1 hB.2.2.2.2.1 hin ty hty hB.2.2.2.1 (hB.2.2.2.2.1 _ hcl) (hB.2.2.2.2.1 _ hinst) (hB.2.2.2.2.1 _ hini) hB.2.2.2.2.2.1 hP hD hS hB.2.2.2.2.2.2.2.1 hc hfs hkR hnR hd (fun q H1 hP hD hS => kk q (hB.wk' hkR hnR) H1 locs ls hP hD hS hl)
theorem J_newI (hB : Cb E cc own R nL (wk Y k n)) {x : Int32} {N : Nat} (hx : ¬ x < 0) (hN : x.toNatClampNeg = N) (hb : N * componentBytes .int ≤ 536870912) (hk : k + 1 = k') (hn : n + N = n') (hkR : k' ≤ R.cells) (hnR : n' ≤ R.slots) (hd : decode cc pc = .ok (.newarray .int, 2))
    (kk : ∀ q : Nat, Cb E cc own R nL (wk Y k' n') → J l E R (wk Y k' n') (ws ++ [ia E q N (fun _ => 0)]) (pc + 2) lv (.ref q :: st)) : J l E R (wk Y k n) ws pc lv (.int x :: st) := fun H locs ls hP hD hS hl => by
  subst hk; subst hn
  refine va_newa (atype := .int) (ty := .int) (a0 := (N, .inl (fun _ => 0))) hB.1 hB.2.1 (hB.2.2.2.2.1 _ kaI) rfl hB.2.2.2.2.2.1 hP hD hS hB.2.2.2.2.2.2.2.1 (fun cA => rfl) hx hN hb hkR hnR hd (fun q cA H1 hK hP hD hS => ?_)
  have e : cA = E.2.1 := by
    have h1 : (ys (wk Y k n)).vm.findClass ("[" ++ FieldType.int.toString) = some cA := (hK.2 3 (cA, .int) rfl).2
    have h2 : (ys (wk Y k n)).vm.findClass ("[" ++ FieldType.int.toString) = some E.2.1 := (hK.2 0 (E.2.1, .int) rfl).2
    exact Option.some.inj (h1.symm.trans h2)
  subst e
  exact kk q (hB.wk' hkR hnR) H1 locs ls hP hD hS hl
theorem J_newB (hB : Cb E cc own R nL (wk Y k n)) {x : Int32} {N : Nat} (hx : ¬ x < 0) (hN : x.toNatClampNeg = N) (hb : N * componentBytes .byte ≤ 536870912) (hk : k + 1 = k') (hn : n + N = n') (hkR : k' ≤ R.cells) (hnR : n' ≤ R.slots) (hd : decode cc pc = .ok (.newarray .byte, 2))
    (kk : ∀ q : Nat, Cb E cc own R nL (wk Y k' n') → J l E R (wk Y k' n') (ws ++ [ba E q N (fun _ => 0)]) (pc + 2) lv (.ref q :: st)) : J l E R (wk Y k n) ws pc lv (.int x :: st) := fun H locs ls hP hD hS hl => by
  subst hk; subst hn
  refine va_newa (atype := .byte) (ty := .byte) (a0 := (N, .inl (fun _ => 0))) hB.1 hB.2.1 (hB.2.2.2.2.1 _ kaB) rfl hB.2.2.2.2.2.1 hP hD hS hB.2.2.2.2.2.2.2.1 (fun cA => rfl) hx hN hb hkR hnR hd (fun q cA H1 hK hP hD hS => ?_)
  have e : cA = E.2.2.1 := by
    have h1 : (ys (wk Y k n)).vm.findClass ("[" ++ FieldType.byte.toString) = some cA := (hK.2 3 (cA, .byte) rfl).2
    have h2 : (ys (wk Y k n)).vm.findClass ("[" ++ FieldType.byte.toString) = some E.2.2.1 := (hK.2 1 (E.2.2.1, .byte) rfl).2
    exact Option.some.inj (h1.symm.trans h2)
  subst e
  exact kk q (hB.wk' hkR hnR) H1 locs ls hP hD hS hl
theorem J_newL (hB : Cb E cc own R nL (wk Y k n)) {x : Int32} {N : Nat} (hx : ¬ x < 0) (hN : x.toNatClampNeg = N) (hb : N * componentBytes .long ≤ 536870912) (hk : k + 1 = k') (hn : n + N = n') (hkR : k' ≤ R.cells) (hnR : n' ≤ R.slots) (hd : decode cc pc = .ok (.newarray .long, 2))
    (kk : ∀ q : Nat, Cb E cc own R nL (wk Y k' n') → J l E R (wk Y k' n') (ws ++ [ja E q N (fun _ => 0)]) (pc + 2) lv (.ref q :: st)) : J l E R (wk Y k n) ws pc lv (.int x :: st) := fun H locs ls hP hD hS hl => by
  subst hk; subst hn
  refine va_newa (atype := .long) (ty := .long) (a0 := (N, .inr (.inl (fun _ => 0)))) hB.1 hB.2.1 (hB.2.2.2.2.1 _ kaL) rfl hB.2.2.2.2.2.1 hP hD hS hB.2.2.2.2.2.2.2.1 (fun cA => rfl) hx hN hb hkR hnR hd (fun q cA H1 hK hP hD hS => ?_)
  have e : cA = E.2.2.2 := by
    have h1 : (ys (wk Y k n)).vm.findClass ("[" ++ FieldType.long.toString) = some cA := (hK.2 3 (cA, .long) rfl).2
    have h2 : (ys (wk Y k n)).vm.findClass ("[" ++ FieldType.long.toString) = some E.2.2.2 := (hK.2 2 (E.2.2.2, .long) rfl).2
    exact Option.some.inj (h1.symm.trans h2)
  subst e
  exact kk q (hB.wk' hkR hnR) H1 locs ls hP hD hS hl
theorem J_obj (hB : Cb E cc own R nL Y) {idx b : Nat} (hlink : Cond.methodLink own idx objectInit ∈ bigW) (hd : decode cc pc = .ok (.invokespecial idx, 3)) (hf : 1 ≤ R.frames) (hlo : (st.map fun v => v.category).sum + 12 ≤ R.locals) (kk : J l E R Y ws (pc + 3) lv st) : J l E R Y ws pc lv (.ref b :: st) := fun H locs ls hP hD hS hl =>
  W.objInit hB.1 hB.2.1 hB.2.2.2.1 (hB.2.2.2.2.1 _ hlink) (hB.2.2.2.2.1 _ koI) (hB.2.2.2.2.1 _ koC) rfl (by rw [hB.2.2.1]; exact hl.1) rfl hd hf (by show 2 * 0 + _ + 12 ≤ _; omega) (kk H locs ls hP hD hS hl)
theorem J_putF (hB : Cb E cc own R nL Y) (hnm1 : (yt Y).name = "<init>") {C : String} {T : u_T} {N ci index q : Nat} (hin : ∀ w ∈ u_ws C T N, w ∈ bigW) (ty0 : Nat → FieldType) (hty : ∀ k, k < N → parseFieldDescriptor (T k).2.2.1 = some (ty0 k)) (hnm : ∀ a, a < N → ∀ b, b < N → a ≠ b → (T a).2.1 ≠ (T b).2.1) (q0 : Nat) {fs : List Value} (he : ws[q0]? = some (q, .inr (ci, fs))) (hc : vwCl[ci]? = some (C, T, N)) (k : Nat) (hk : k < N) (hlink : Cond.fieldLink own index (T k).1 (T k).2.1 (T k).2.2.1 ∈ bigW) (hfin : (T k).2.2.2 = true) (hdecl : (T k).1 = own) {ty : FieldType} {v : Value} (hp : parseFieldDescriptor (T k).2.2.1 = some ty) (hn : narrow ty v = v) (hfit : fits ty v = true) (hl9 : k < fs.length) (hd : decode cc pc = .ok (.putfield index, 3)) (hw : ws.set q0 (q, .inr (ci, fs.set k v)) = ws') (kk : J l E R Y ws' (pc + 3) lv st) : J l E R Y ws pc lv (v :: .ref q :: st) := fun H locs ls hP hD hS hl => by
  subst hw
  exact va_putF hB.1 hB.2.1 hB.2.2.2.2.1 hin ty0 hty hnm hB.2.2.2.1 hB.2.2.2.2.2.1 hP hD hS q0 he hc k hk (hB.2.2.2.2.1 _ hlink) (fun _ h => h) hfin hnm1 hdecl hp hn hfit hl9 hd (fun H1 locs1 hP hD hS => kk H1 locs1 ls hP hD hS hl)
end
def Qn (E : En) (PW : va_W → Prop) (A : Nat → Prop) : Array Value → State → Outcome → State → Prop := fun _ st oc t => oc = .returned none ∧ (∃ w', PW w' ∧ va_P E.1 vwCl w' t.heap ∧ va_D A w') ∧ va_F A st t
/-- a constructor's contract: from the world w of its own cell it makes mc cells of ms slots and leaves a world of PW -/
def Cn (l : Launch) (y : MethodName) (cd : Cond) (rm : Room) (E : En) (av : List Value) (w : va_W) (mc ms : Nat) (PW : va_W → Prop) : Prop :=
  ∀ sz : Nat, Met l y (cd :: bigW) rm (Pp E av w sz) (Qn E PW (va_A w sz)) mc ms (va_A w sz)
def Crn (E : En) (PW : va_W → Prop) (mc ms : Nat) (Y : Cy) : Prop :=
  (yt Y).sig.returnType = none ∧ (yt Y).locks = false ∧ yQ Y = MQ (yb Y) (Qn E PW (yA Y)) (ya Y) (ys Y) mc ms (yA Y) ∧ (yt Y).name = "<init>"
theorem Cn.of {l : Launch} {y : MethodName} {cc : ByteArray} {maxL mc ms : Nat} {rm : Room} {E : En} {av : List Value} {w : va_W} {PW : va_W → Prop} (hy : plainName y.cls = true) (hyn : y.name = "<init>") (hlen : (lg_sl av).length ≤ maxL)
    (body : ∀ Y : Cy, Cb E cc y.cls rm maxL (wk Y 0 0) → Crn E PW mc ms Y → J l E rm (wk Y 0 0) w 0 (lv_args 0 av) []) : Cn l y (.code y cc maxL none) rm E av w mc ms PW := by
  intro sz
  refine Met.ofW (cc := cc) (maxL := maxL) (ret := none) hy rfl ?_
  intro p e s m args below meth c s₁ B hml hv
  obtain ⟨rfl, hsz, hP, hK, hD0, hN⟩ := hv
  have hts := atoms_spec (ws := Cond.code y cc maxL none :: bigW) B.pre
  have hown : s.vm.findClass y.cls = some m.cls := findClass_of_methodNamed B.named
  have hin : meth.name = "<init>" := ((name_of_methodNamed B.named B.method).1).trans hyn
  subst hsz
  rw [lg_entry_eq]
  have b0 := body (p, e, s, m, av.toArray, below, meth, c, va_A w s.heap.size, MQ below (Qn E PW (va_A w s.heap.size)) av.toArray s mc ms (va_A w s.heap.size), maxL, 0, 0)
    ⟨B.exec, B.bytes, hml, hown, fun w h => hts w (List.mem_cons_of_mem _ h), hK, hN, fun q h => Or.inr h, ⟨Nat.zero_le _, Nat.zero_le _⟩, rfl⟩
    ⟨B.returns, B.notSynchronized, rfl, hin⟩
  exact b0 s.heap [] _ hP hD0.self va_S.rf (lv_entry av hlen)
theorem join_last {E : En} {w1 wc w' : va_W} {A : Nat → Prop} {H H1 : Heap} (hP : va_P E.1 vwCl (w1 ++ wc) H) (hD : va_D A (w1 ++ wc)) (hF : ∀ q, va_A wc H.size q → A q) (hP1 : va_P E.1 vwCl w' H1) (hD1 : va_D (va_A wc H.size) w') (hk : ∀ q : Nat, q < H.size → ¬ va_A wc H.size q → H1[q]? = H[q]?) : va_P E.1 vwCl (w1 ++ w') H1 ∧ va_D A (w1 ++ w') := by
  have hapart : ∀ (k : Nat) (q : Nat × va_E), w1[k]? = some q → q.1 < H.size ∧ ¬ va_A wc H.size q.1 := by
    intro k q hq
    have hkl : k < w1.length := (List.getElem?_eq_some_iff.mp hq).1
    have hq' : (w1 ++ wc)[k]? = some q := by rw [List.getElem?_append_left hkl]; exact hq
    have hlt := (hP k q hq').lt
    refine ⟨hlt, fun hz => ?_⟩
    rcases hz with ⟨j, e, hj⟩ | hz
    · have hj' : (w1 ++ wc)[w1.length + j]? = some (q.1, e) := by rw [List.getElem?_append_right (by omega), show w1.length + j - w1.length = j by omega]; exact hj
      have := hD.1 k (w1.length + j) _ _ hq' hj' rfl
      omega
    · omega
  constructor
  · intro k q hq
    rcases Nat.lt_or_ge k w1.length with h | h
    · rw [List.getElem?_append_left h] at hq
      have := hapart k q hq
      have hq' : (w1 ++ wc)[k]? = some q := by rw [List.getElem?_append_left h]; exact hq
      exact (hP k q hq').kept (hk q.1 this.1 this.2)
    · rw [List.getElem?_append_right h] at hq
      exact hP1 _ q hq
  · have hp := va_D.pw.mp hD
    have hp1 := va_D.pw.mp hD1
    refine va_D.pw.mpr ⟨?_, ?_⟩
    · rw [List.pairwise_append]
      refine ⟨(List.pairwise_append.mp hp.1).1, hp1.1, fun p hp' q hq e => ?_⟩
      obtain ⟨k, hk'⟩ := List.getElem?_of_mem hp'
      exact (hapart k p hk').2 (by rw [e]; exact hp1.2 q hq)
    · intro q hq
      rcases List.mem_append.mp hq with h | h
      · exact hp.2 q (List.mem_append_left _ h)
      · exact hF _ (hp1.2 q h)
theorem free_last {E : En} {w1 wc : va_W} {A : Nat → Prop} {H0 H : Heap} {locs : List Loc} (hD : va_D A (w1 ++ wc)) (hS : va_S A H0 H locs) (hA : ∀ q : Nat, H0.size ≤ q → A q) : ∀ q, va_A wc H.size q → A q := fun q h => by
  rcases h with ⟨j, e, h⟩ | h
  · exact hD.2 (w1.length + j) (q, e) (by rw [List.getElem?_append_right (by omega), show w1.length + j - w1.length = j by omega]; exact h)
  · exact hA q (Nat.le_trans hS.1 h)
section
variable {l : Launch} {E : En} {cc : ByteArray} {own : String} {R : Room} {nL : Nat} {Y : Cy} {ws ws' : va_W} {pc : Nat} {lv lv' : List (Nat × Value)} {st : List Value} {k n k' n' : Nat}
theorem J_retN (hB : Cb E cc own R nL (wk Y k n)) {PW : va_W → Prop} (hR : Crn E PW k n Y) (hPW : PW ws) (hd : decode cc pc = .ok (.return_, 1)) : J l E R (wk Y k n) ws pc lv [] := fun H locs ls hP hD hS hl => by
  obtain ⟨h1, h2, h3, h4⟩ := id hR
  show W (yp Y) l (ye Y) R (ys Y) (ym Y) (ya Y) (yb Y) (yt Y) (yc Y) H locs k n (yQ Y) (F0 (ym Y) pc ls [])
  rw [h3]
  exact W.vret hB.1 hB.2.1 h1 (fun t ht _ => ⟨rfl, ⟨ws, hPW, by rw [ht]; exact hP, hD⟩, hS.F ht⟩) hS.2.2 hd h2
theorem J_afterN {w1 wc : va_W} {PW : va_W → Prop} {st0 rest : List Value} {a : Array Value} {mc ms : Nat} {H : Heap} {locs : List Loc} {ls : Array Slot} (hF : ∀ q, va_A wc H.size q → yA Y q) (hP : va_P E.1 vwCl (w1 ++ wc) H) (hD : va_D (yA Y) (w1 ++ wc))
    (hS : va_S (yA Y) (ys Y).heap H locs) (hl : lv_has ls (yN Y) lv)
    (hr : va_Run (yp Y) l (ye Y) R (ys Y) (ym Y) (ya Y) (yb Y) (yt Y) (yc Y) H locs k n mc ms (F0 (ym Y) pc ls st0) rest (Qn E PW (va_A wc H.size) a) (va_A wc H.size))
    (kk : ∀ w', PW w' → J l E R (wk Y (k + mc) (n + ms)) (w1 ++ w') (pc + 3) lv rest) : W (yp Y) l (ye Y) R (ys Y) (ym Y) (ya Y) (yb Y) (yt Y) (yc Y) H locs k n (yQ Y) (F0 (ym Y) pc ls st0) := by
  intro T hT X
  obtain ⟨v, st₀, t, T', L, h0, X', hL, e1, e2, ⟨hv, ⟨w', hPW, hP1, hD1⟩, hz, hk⟩, stp⟩ := hr T hT X
  cases hv
  rw [h0] at hz hk
  rw [← e1] at hP1 hz hk
  obtain ⟨hP2, hD2⟩ := join_last hP hD hF hP1 hD1 hk
  obtain ⟨t2, a1, b1⟩ := kk w' hPW T'.heap (locs ++ L) ls hP2 hD2
    ⟨Nat.le_trans hS.1 hz, fun q h1 h2 => by rw [hk q (Nat.lt_of_lt_of_le h1 hS.1) (fun z => h2 (hF q z))]; exact hS.2.1 q h1 h2, fun q hq => by
      rcases List.mem_append.mp hq with h | h
      · exact hS.2.2 q h
      · exact hF _ (hL q h)⟩ hl T' rfl X'
  exact ⟨t2, stp t2 a1, b1⟩
theorem J_preN {av : List Value} {w1 wc : va_W} {H : Heap} (hB : Cb E cc own R nL Y) (hP : va_P E.1 vwCl (w1 ++ wc) H) (hD : va_D (yA Y) (w1 ++ wc)) : ∀ U : State, U.heap = H → (ys Y).WarmedH U.vm → Pp E av wc H.size av.toArray U := fun U hU hW =>
  ⟨rfl, by rw [hU], by rw [hU]; exact fun k q hk => hP (w1.length + k) q (by rw [List.getElem?_append_right (by omega), show w1.length + k - w1.length = k by omega]; exact hk), va_K.moved hW.alike hB.2.2.2.2.2.1, by
    have hp := va_D.pw.mp hD
    exact va_D.pw.mpr ⟨(List.pairwise_append.mp hp.1).2.1, fun _ _ => trivial⟩, hB.2.2.2.2.2.2.1.warm hW⟩
theorem J_callIN (hB : Cb E cc own R nL (wk Y k n)) {y : MethodName} {bytes : ByteArray} {maxL index mc ms b : Nat} {rmc : Room} {w1 wc : va_W} {PW : va_W → Prop} {host : String} (hM : Cn l y (.code y bytes maxL none) rmc E [.ref b] wc mc ms PW) (hi : Mi y bytes maxL none 0) (hs : y.name = "<init>" ∧ Cond.instanceMethod y ∈ bigW) (hlink : (own, index, y, host) ∈ nestM) (hm : rmc.cells = mc ∧ rmc.slots = ms ∧ rmc.frames + 1 ≤ R.frames ∧ 8 + (maxL + 11) + rmc.locals ≤ R.locals) (hw : ws = w1 ++ wc) (hcat : (st.map fun v => v.category).sum ≤ 8) (hd : decode cc pc = .ok (.invokespecial index, 3)) (hk : k + mc = k') (hn : n + ms = n') (hkR : k' ≤ R.cells) (hnR : n' ≤ R.slots)
    (kk : ∀ w', PW w' → Cb E cc own R nL (wk Y k' n') → J l E R (wk Y k' n') (w1 ++ w') (pc + 3) lv st) : J l E R (wk Y k n) ws pc lv (.ref b :: st) := fun H locs ls hP hD hS hl => by
  subst hw; subst hk; subst hn
  have hF := free_last (E := E) hD hS hB.2.2.2.2.2.2.2.1
  refine J_afterN (Y := Y) (a := [Value.ref b].toArray) hF hP hD hS hl ?_ (fun w' h => kk w' h (hB.wk' hkR hnR))
  exact va_runIN (As := []) (rest := st) (nL := yN Y) ⟨hB.1, hB.2.1, hB.2.2.1, hB.2.2.2.1, hB.2.2.2.2.1⟩ (hM H.size) ⟨va_cnB 0 hB.2.2.2.2.1 (good_big hi.1) rfl hm.1 hm.2.1 (hB.2.2.2.2.2.2.1.2 _ hlink) (hB.2.2.2.2.1 _ hi.2.1) hi.2.2 hm.2.2, hs.1, hB.2.2.2.2.1 _ hs.2⟩ ⟨Pp.blind, J_preN (Y := wk Y k n) hB hP hD⟩ rfl rfl hl.1 rfl (lv_room hcat) hd ⟨hkR, hnR⟩
theorem J_callI (hB : Cb E cc own R nL (wk Y k n)) {y : MethodName} {bytes : ByteArray} {maxL index mc ms b : Nat} {rmc : Room} {w1 wc : va_W} {PW : va_W → Prop} (hM : Cn l y (.code y bytes maxL none) rmc E [.ref b] wc mc ms PW) (hi : Mi y bytes maxL none 0) (hs : y.name = "<init>" ∧ Cond.instanceMethod y ∈ bigW) (hlink : Cond.methodLink own index y ∈ bigW) (hm : rmc.cells = mc ∧ rmc.slots = ms ∧ rmc.frames + 1 ≤ R.frames ∧ 8 + (maxL + 11) + rmc.locals ≤ R.locals) (hw : ws = w1 ++ wc) (hcat : (st.map fun v => v.category).sum ≤ 8) (hd : decode cc pc = .ok (.invokespecial index, 3)) (hk : k + mc = k') (hn : n + ms = n') (hkR : k' ≤ R.cells) (hnR : n' ≤ R.slots)
    (kk : ∀ w', PW w' → Cb E cc own R nL (wk Y k' n') → J l E R (wk Y k' n') (w1 ++ w') (pc + 3) lv st) : J l E R (wk Y k n) ws pc lv (.ref b :: st) := fun H locs ls hP hD hS hl => by
  subst hw; subst hk; subst hn
  have hF := free_last (E := E) hD hS hB.2.2.2.2.2.2.2.1
  refine J_afterN (Y := Y) (a := [Value.ref b].toArray) hF hP hD hS hl ?_ (fun w' h => kk w' h (hB.wk' hkR hnR))
  exact va_runI (As := []) (rest := st) (nL := yN Y) ⟨hB.1, hB.2.1, hB.2.2.1, hB.2.2.2.1, hB.2.2.2.2.1⟩ (hM H.size) ⟨callB_of 0 hB.2.2.2.2.1 (good_big hi.1) rfl hm.1 hm.2.1 (hB.2.2.2.2.1 _ hi.2.1) (hB.2.2.2.2.1 _ hlink) hi.2.2 hm.2.2, hs.1, hB.2.2.2.2.1 _ hs.2⟩ ⟨Pp.blind, J_preN (Y := wk Y k n) hB hP hD⟩ rfl rfl hl.1 rfl (lv_room hcat) hd ⟨hkR, hnR⟩
end
