/-! ===== the layer: J, a frame over a world of known cells ===== -/
abbrev En : Type := va_G × ClassId × ClassId × ClassId
abbrev Cy : Type := Program × Env × State × MethodId × Array Value × List Frame × Method × Code × (Nat → Prop) × (State → Prop) × Nat × Nat × Nat
abbrev yp (Y : Cy) : Program := Y.1
abbrev ye (Y : Cy) : Env := Y.2.1
abbrev ys (Y : Cy) : State := Y.2.2.1
abbrev ym (Y : Cy) : MethodId := Y.2.2.2.1
abbrev ya (Y : Cy) : Array Value := Y.2.2.2.2.1
abbrev yb (Y : Cy) : List Frame := Y.2.2.2.2.2.1
abbrev yt (Y : Cy) : Method := Y.2.2.2.2.2.2.1
abbrev yc (Y : Cy) : Code := Y.2.2.2.2.2.2.2.1
abbrev yA (Y : Cy) : Nat → Prop := Y.2.2.2.2.2.2.2.2.1
abbrev yQ (Y : Cy) : State → Prop := Y.2.2.2.2.2.2.2.2.2.1
abbrev yN (Y : Cy) : Nat := Y.2.2.2.2.2.2.2.2.2.2.1
abbrev yk (Y : Cy) : Nat := Y.2.2.2.2.2.2.2.2.2.2.2.1
abbrev yn (Y : Cy) : Nat := Y.2.2.2.2.2.2.2.2.2.2.2.2
def ety (E : En) : List (ClassId × FieldType) := [(E.2.1, .int), (E.2.2.1, .byte), (E.2.2.2, .long)]
abbrev ob (q : Nat) (ci : Nat) (fs : List Value) : Nat × va_E := (q, .inr (ci, fs))
abbrev ia (E : En) (q n : Nat) (f : Nat → Int32) : Nat × va_E := (q, .inl (E.2.1, n, .inl f))
abbrev ba (E : En) (q n : Nat) (f : Nat → Int32) : Nat × va_E := (q, .inl (E.2.2.1, n, .inl f))
abbrev ja (E : En) (q n : Nat) (f : Nat → Int64) : Nat × va_E := (q, .inl (E.2.2.2, n, .inr (.inl f)))
def Nst (U : State) : Prop := (∀ q ∈ nestF, va_Nw (.fieldLinkNest q.1 q.2.1 q.2.2.1 q.2.2.2.1 q.2.2.2.2.1 q.2.2.2.2.2) U) ∧ ∀ q ∈ nestM, va_Nw (.methodLinkNest q.1 q.2.1 q.2.2.1 q.2.2.2) U
theorem Nst.warm {s U : State} (hW : s.WarmedH U.vm) (h : Nst s) : Nst U := ⟨fun q hq => va_Nw.warmF hW (h.1 q hq), fun q hq => va_Nw.warmM hW (h.2 q hq)⟩
theorem Nst.same {s U : State} (hv : s.vm = U.vm) (h : Nst s) : Nst U := ⟨fun q hq => va_Nw.same rfl hv (h.1 q hq), fun q hq => va_Nw.same rfl hv (h.2 q hq)⟩
def J (l : Launch) (E : En) (R : Room) (Y : Cy) (ws : va_W) (pc : Nat) (lv : List (Nat × Value)) (st : List Value) : Prop :=
  ∀ (H : Heap) (locs : List Loc) (ls : Array Slot), va_P E.1 vwCl ws H → va_D (yA Y) ws → va_S (yA Y) (ys Y).heap H locs → lv_has ls (yN Y) lv → W (yp Y) l (ye Y) R (ys Y) (ym Y) (ya Y) (yb Y) (yt Y) (yc Y) H locs (yk Y) (yn Y) (yQ Y) (F0 (ym Y) pc ls st)
/-- what a method's body stands on -/
def Cb (E : En) (cc : ByteArray) (own : String) (R : Room) (nL : Nat) (Y : Cy) : Prop :=
  (yp Y).tables.exec = Jvm.exec ∧ (yc Y).code = cc ∧ (yc Y).maxLocals = yN Y ∧ (ys Y).vm.findClass own = some (ym Y).cls ∧ (∀ w ∈ bigW, w.before (ya Y) (ys Y) = true) ∧ va_K E.1 vwCl (ety E) (ys Y) ∧ Nst (ys Y) ∧ (∀ q : Nat, (ys Y).heap.size ≤ q → yA Y q) ∧ (yk Y ≤ R.cells ∧ yn Y ≤ R.slots) ∧ yN Y = nL
def Qo (E : En) (r : Option Value) (w' : va_W) (A : Nat → Prop) : Array Value → State → Outcome → State → Prop := fun _ st oc t => oc = .returned r ∧ va_P E.1 vwCl w' t.heap ∧ va_D A w' ∧ va_F A st t
def Pp (E : En) (av : List Value) (w : va_W) (sz : Nat) : Array Value → State → Prop := va_Pc av (fun U => U.heap.size = sz ∧ va_P E.1 vwCl w U.heap ∧ va_K E.1 vwCl (ety E) U ∧ va_D (fun _ => True) w ∧ Nst U)
/-- a contract: from the world w with the arguments av the method returns r and leaves the world w' -/
def Ct (l : Launch) (y : MethodName) (cd : Cond) (rm : Room) (E : En) (av : List Value) (w : va_W) (r : Option Value) (w' : va_W) : Prop :=
  ∀ sz : Nat, Met l y (cd :: bigW) rm (Pp E av w sz) (Qo E r w' (va_A w sz)) 0 0 (va_A w sz)
def Cr (E : En) (ret : Option FieldType) (r : Option Value) (w' : va_W) (Y : Cy) : Prop :=
  (yt Y).sig.returnType = ret ∧ (yt Y).locks = false ∧ yk Y = 0 ∧ yn Y = 0 ∧ yQ Y = MQ (yb Y) (Qo E r w' (yA Y)) (ya Y) (ys Y) 0 0 (yA Y)
theorem Pp.blind {E : En} {av : List Value} {w : va_W} {sz : Nat} : FrameBlind (Pp E av w sz) := by
  intro a U g mk h
  obtain ⟨q0, q1, qP, qK, qD, qN⟩ := h
  exact ⟨q0, q1, qP, va_K.moved (u := U) (U := U.calling g mk a) (Vm.Alike.refl U.vm) qK, qD, qN.same rfl⟩
theorem Ct.of {l : Launch} {y : MethodName} {cc : ByteArray} {maxL : Nat} {ret : Option FieldType} {rm : Room} {E : En} {av : List Value} {w : va_W} {r : Option Value} {w' : va_W} (hy : plainName y.cls = true) (hlen : (lg_sl av).length ≤ maxL)
    (body : ∀ Y : Cy, Cb E cc y.cls rm maxL Y → Cr E ret r w' Y → J l E rm Y w 0 (lv_args 0 av) []) : Ct l y (.code y cc maxL ret) rm E av w r w' := by
  intro sz
  refine Met.ofW (cc := cc) (maxL := maxL) (ret := ret) hy rfl ?_
  intro p e s m args below meth c s₁ B hml hv
  obtain ⟨rfl, hsz, hP, hK, hD0, hN⟩ := hv
  have hts := atoms_spec (ws := Cond.code y cc maxL ret :: bigW) B.pre
  have hown : s.vm.findClass y.cls = some m.cls := findClass_of_methodNamed B.named
  subst hsz
  rw [lg_entry_eq]
  have b0 := body (p, e, s, m, av.toArray, below, meth, c, va_A w s.heap.size, MQ below (Qo E r w' (va_A w s.heap.size)) av.toArray s 0 0 (va_A w s.heap.size), maxL, 0, 0)
    ⟨B.exec, B.bytes, hml, hown, fun w h => hts w (List.mem_cons_of_mem _ h), hK, hN, fun q h => Or.inr h, ⟨Nat.zero_le _, Nat.zero_le _⟩, rfl⟩
    ⟨B.returns, B.notSynchronized, rfl, rfl, rfl⟩
  exact b0 s.heap [] _ hP hD0.self va_S.rf (lv_entry av hlen)
section LY
variable {l : Launch} {E : En} {cc : ByteArray} {own : String} {R : Room} {nL : Nat} {Y : Cy} {ws ws' : va_W} {pc : Nat} {lv lv' : List (Nat × Value)} {st : List Value}
theorem J_lv (ks : List Nat) (h : lv_pick lv ks = lv') (k : J l E R Y ws pc lv' st) : J l E R Y ws pc lv st := fun H locs ls hP hD hS hl => k H locs ls hP hD hS (lv_sub hl ks h)
theorem J_pc {pc' : Nat} (h : pc = pc') (k : J l E R Y ws pc' lv st) : J l E R Y ws pc lv st := h ▸ k
theorem J_iconst (hB : Cb E cc own R nL Y) {n : Int} {v : Int32} (hd : decode cc pc = .ok (.iconst n, 1)) (hv : Int32.ofInt n = v) (k : J l E R Y ws (pc + 1) lv (.int v :: st)) : J l E R Y ws pc lv st := fun H locs ls hP hD hS hl => lv_iconst hB.1 hB.2.1 hd hv (k H locs ls hP hD hS hl)
theorem J_bipush (hB : Cb E cc own R nL Y) {n : Int} {v : Int32} (hd : decode cc pc = .ok (.bipush n, 2)) (hv : (Int8.ofInt n).toInt32 = v) (k : J l E R Y ws (pc + 2) lv (.int v :: st)) : J l E R Y ws pc lv st := fun H locs ls hP hD hS hl => lv_bipush hB.1 hB.2.1 hd hv (k H locs ls hP hD hS hl)
theorem J_sipush (hB : Cb E cc own R nL Y) {n : Int} {v : Int32} (hd : decode cc pc = .ok (.sipush n, 3)) (hv : (Int16.ofInt n).toInt32 = v) (k : J l E R Y ws (pc + 3) lv (.int v :: st)) : J l E R Y ws pc lv st := fun H locs ls hP hD hS hl => lv_sipush hB.1 hB.2.1 hd hv (k H locs ls hP hD hS hl)
theorem J_lconst (hB : Cb E cc own R nL Y) {n : Fin 2} {v : Int64} (hd : decode cc pc = .ok (.lconst n, 1)) (hv : Int64.ofNat n.val = v) (k : J l E R Y ws (pc + 1) lv (.long v :: st)) : J l E R Y ws pc lv st := fun H locs ls hP hD hS hl => lv_lconst hB.1 hB.2.1 hd hv (k H locs ls hP hD hS hl)
theorem J_iadd (hB : Cb E cc own R nL Y) {x y : Int32} (hd : decode cc pc = .ok (.iadd, 1))  (k : J l E R Y ws (pc + 1) lv (.int (x + y) :: st)) : J l E R Y ws pc lv (.int y :: .int x :: st) := fun H locs ls hP hD hS hl => lv_iadd hB.1 hB.2.1 hd  (k H locs ls hP hD hS hl)
theorem J_isub (hB : Cb E cc own R nL Y) {x y : Int32} (hd : decode cc pc = .ok (.isub, 1))  (k : J l E R Y ws (pc + 1) lv (.int (x - y) :: st)) : J l E R Y ws pc lv (.int y :: .int x :: st) := fun H locs ls hP hD hS hl => lv_isub hB.1 hB.2.1 hd  (k H locs ls hP hD hS hl)
theorem J_imul (hB : Cb E cc own R nL Y) {x y : Int32} (hd : decode cc pc = .ok (.imul, 1))  (k : J l E R Y ws (pc + 1) lv (.int (x * y) :: st)) : J l E R Y ws pc lv (.int y :: .int x :: st) := fun H locs ls hP hD hS hl => lv_imul hB.1 hB.2.1 hd  (k H locs ls hP hD hS hl)
theorem J_iand (hB : Cb E cc own R nL Y) {x y : Int32} (hd : decode cc pc = .ok (.iand, 1))  (k : J l E R Y ws (pc + 1) lv (.int (x &&& y) :: st)) : J l E R Y ws pc lv (.int y :: .int x :: st) := fun H locs ls hP hD hS hl => lv_iand hB.1 hB.2.1 hd  (k H locs ls hP hD hS hl)
theorem J_ior (hB : Cb E cc own R nL Y) {x y : Int32} (hd : decode cc pc = .ok (.ior, 1))  (k : J l E R Y ws (pc + 1) lv (.int (x ||| y) :: st)) : J l E R Y ws pc lv (.int y :: .int x :: st) := fun H locs ls hP hD hS hl => lv_ior hB.1 hB.2.1 hd  (k H locs ls hP hD hS hl)
theorem J_ixor (hB : Cb E cc own R nL Y) {x y : Int32} (hd : decode cc pc = .ok (.ixor, 1))  (k : J l E R Y ws (pc + 1) lv (.int (x ^^^ y) :: st)) : J l E R Y ws pc lv (.int y :: .int x :: st) := fun H locs ls hP hD hS hl => lv_ixor hB.1 hB.2.1 hd  (k H locs ls hP hD hS hl)
theorem J_ishl (hB : Cb E cc own R nL Y) {x y : Int32} (hd : decode cc pc = .ok (.ishl, 1))  (k : J l E R Y ws (pc + 1) lv (.int (x <<< (y &&& 31)) :: st)) : J l E R Y ws pc lv (.int y :: .int x :: st) := fun H locs ls hP hD hS hl => lv_ishl hB.1 hB.2.1 hd  (k H locs ls hP hD hS hl)
theorem J_ishr (hB : Cb E cc own R nL Y) {x y : Int32} (hd : decode cc pc = .ok (.ishr, 1))  (k : J l E R Y ws (pc + 1) lv (.int (x >>> (y &&& 31)) :: st)) : J l E R Y ws pc lv (.int y :: .int x :: st) := fun H locs ls hP hD hS hl => lv_ishr hB.1 hB.2.1 hd  (k H locs ls hP hD hS hl)
theorem J_iushr (hB : Cb E cc own R nL Y) {x y : Int32} (hd : decode cc pc = .ok (.iushr, 1))  (k : J l E R Y ws (pc + 1) lv (.int ((x.toUInt32 >>> (y.toUInt32 &&& Int32.toUInt32 31)).toInt32) :: st)) : J l E R Y ws pc lv (.int y :: .int x :: st) := fun H locs ls hP hD hS hl => lv_iushr hB.1 hB.2.1 hd rfl (k H locs ls hP hD hS hl)
theorem J_ineg (hB : Cb E cc own R nL Y) {x : Int32} (hd : decode cc pc = .ok (.ineg, 1))  (k : J l E R Y ws (pc + 1) lv (.int (-x) :: st)) : J l E R Y ws pc lv (.int x :: st) := fun H locs ls hP hD hS hl => lv_ineg hB.1 hB.2.1 hd  (k H locs ls hP hD hS hl)
theorem J_ladd (hB : Cb E cc own R nL Y) {x y : Int64} (hd : decode cc pc = .ok (.ladd, 1))  (k : J l E R Y ws (pc + 1) lv (.long (x + y) :: st)) : J l E R Y ws pc lv (.long y :: .long x :: st) := fun H locs ls hP hD hS hl => lv_ladd hB.1 hB.2.1 hd  (k H locs ls hP hD hS hl)
theorem J_lsub (hB : Cb E cc own R nL Y) {x y : Int64} (hd : decode cc pc = .ok (.lsub, 1))  (k : J l E R Y ws (pc + 1) lv (.long (x - y) :: st)) : J l E R Y ws pc lv (.long y :: .long x :: st) := fun H locs ls hP hD hS hl => lv_lsub hB.1 hB.2.1 hd  (k H locs ls hP hD hS hl)
theorem J_lmul (hB : Cb E cc own R nL Y) {x y : Int64} (hd : decode cc pc = .ok (.lmul, 1))  (k : J l E R Y ws (pc + 1) lv (.long (x * y) :: st)) : J l E R Y ws pc lv (.long y :: .long x :: st) := fun H locs ls hP hD hS hl => lv_lmul hB.1 hB.2.1 hd  (k H locs ls hP hD hS hl)
theorem J_land (hB : Cb E cc own R nL Y) {x y : Int64} (hd : decode cc pc = .ok (.land, 1))  (k : J l E R Y ws (pc + 1) lv (.long (x &&& y) :: st)) : J l E R Y ws pc lv (.long y :: .long x :: st) := fun H locs ls hP hD hS hl => lv_land hB.1 hB.2.1 hd  (k H locs ls hP hD hS hl)
theorem J_lor (hB : Cb E cc own R nL Y) {x y : Int64} (hd : decode cc pc = .ok (.lor, 1))  (k : J l E R Y ws (pc + 1) lv (.long (x ||| y) :: st)) : J l E R Y ws pc lv (.long y :: .long x :: st) := fun H locs ls hP hD hS hl => lv_lor hB.1 hB.2.1 hd  (k H locs ls hP hD hS hl)
theorem J_lxor (hB : Cb E cc own R nL Y) {x y : Int64} (hd : decode cc pc = .ok (.lxor, 1))  (k : J l E R Y ws (pc + 1) lv (.long (x ^^^ y) :: st)) : J l E R Y ws pc lv (.long y :: .long x :: st) := fun H locs ls hP hD hS hl => lv_lxor hB.1 hB.2.1 hd  (k H locs ls hP hD hS hl)
theorem J_lneg (hB : Cb E cc own R nL Y) {x : Int64} (hd : decode cc pc = .ok (.lneg, 1))  (k : J l E R Y ws (pc + 1) lv (.long (-x) :: st)) : J l E R Y ws pc lv (.long x :: st) := fun H locs ls hP hD hS hl => lv_lneg hB.1 hB.2.1 hd  (k H locs ls hP hD hS hl)
theorem J_lshl (hB : Cb E cc own R nL Y) {x : Int64} {y : Int32} (hd : decode cc pc = .ok (.lshl, 1))  (k : J l E R Y ws (pc + 1) lv (.long (x <<< (y.toInt64 &&& 63)) :: st)) : J l E R Y ws pc lv (.int y :: .long x :: st) := fun H locs ls hP hD hS hl => lv_lshl hB.1 hB.2.1 hd rfl (k H locs ls hP hD hS hl)
theorem J_lshr (hB : Cb E cc own R nL Y) {x : Int64} {y : Int32} (hd : decode cc pc = .ok (.lshr, 1))  (k : J l E R Y ws (pc + 1) lv (.long (x >>> (y.toInt64 &&& 63)) :: st)) : J l E R Y ws pc lv (.int y :: .long x :: st) := fun H locs ls hP hD hS hl => lv_lshr hB.1 hB.2.1 hd rfl (k H locs ls hP hD hS hl)
theorem J_lushr (hB : Cb E cc own R nL Y) {x : Int64} {y : Int32} (hd : decode cc pc = .ok (.lushr, 1))  (k : J l E R Y ws (pc + 1) lv (.long ((x.toUInt64 >>> (y.toInt64.toUInt64 &&& Int64.toUInt64 63)).toInt64) :: st)) : J l E R Y ws pc lv (.int y :: .long x :: st) := fun H locs ls hP hD hS hl => lv_lushr hB.1 hB.2.1 hd rfl (k H locs ls hP hD hS hl)
theorem J_i2l (hB : Cb E cc own R nL Y) {x : Int32} (hd : decode cc pc = .ok (.i2l, 1))  (k : J l E R Y ws (pc + 1) lv (.long (x.toInt64) :: st)) : J l E R Y ws pc lv (.int x :: st) := fun H locs ls hP hD hS hl => lv_i2l hB.1 hB.2.1 hd rfl (k H locs ls hP hD hS hl)
theorem J_l2i (hB : Cb E cc own R nL Y) {x : Int64} (hd : decode cc pc = .ok (.l2i, 1))  (k : J l E R Y ws (pc + 1) lv (.int (x.toInt32) :: st)) : J l E R Y ws pc lv (.long x :: st) := fun H locs ls hP hD hS hl => lv_l2i hB.1 hB.2.1 hd rfl (k H locs ls hP hD hS hl)
theorem J_i2b (hB : Cb E cc own R nL Y) {x : Int32} (hd : decode cc pc = .ok (.i2b, 1))  (k : J l E R Y ws (pc + 1) lv (.int (x.toInt8.toInt32) :: st)) : J l E R Y ws pc lv (.int x :: st) := fun H locs ls hP hD hS hl => lv_i2b hB.1 hB.2.1 hd rfl (k H locs ls hP hD hS hl)
theorem J_lcmp (hB : Cb E cc own R nL Y) {x y : Int64} (hd : decode cc pc = .ok (.lcmp, 1))  (k : J l E R Y ws (pc + 1) lv (.int (lg_cmp x y) :: st)) : J l E R Y ws pc lv (.long y :: .long x :: st) := fun H locs ls hP hD hS hl => W.lcmp hB.1 hB.2.1 hd  (k H locs ls hP hD hS hl)
theorem J_idiv (hB : Cb E cc own R nL Y) {x y : Int32} (hd : decode cc pc = .ok (.idiv, 1)) (hne : ¬ y = 0) (k : J l E R Y ws (pc + 1) lv (.int (x / y) :: st)) : J l E R Y ws pc lv (.int y :: .int x :: st) := fun H locs ls hP hD hS hl => lv_idiv hB.1 hB.2.1 hd hne (k H locs ls hP hD hS hl)
theorem J_irem (hB : Cb E cc own R nL Y) {x y : Int32} (hd : decode cc pc = .ok (.irem, 1)) (hne : ¬ y = 0) (k : J l E R Y ws (pc + 1) lv (.int (x - x / y * y) :: st)) : J l E R Y ws pc lv (.int y :: .int x :: st) := fun H locs ls hP hD hS hl => lv_irem hB.1 hB.2.1 hd hne (k H locs ls hP hD hS hl)
theorem J_ldiv (hB : Cb E cc own R nL Y) {x y : Int64} (hd : decode cc pc = .ok (.ldiv, 1)) (hne : ¬ y = 0) (k : J l E R Y ws (pc + 1) lv (.long (x / y) :: st)) : J l E R Y ws pc lv (.long y :: .long x :: st) := fun H locs ls hP hD hS hl => lv_ldiv hB.1 hB.2.1 hd hne (k H locs ls hP hD hS hl)
theorem J_lrem (hB : Cb E cc own R nL Y) {x y : Int64} (hd : decode cc pc = .ok (.lrem, 1)) (hne : ¬ y = 0) (k : J l E R Y ws (pc + 1) lv (.long (x - x / y * y) :: st)) : J l E R Y ws pc lv (.long y :: .long x :: st) := fun H locs ls hP hD hS hl => lv_lrem hB.1 hB.2.1 hd hne (k H locs ls hP hD hS hl)
theorem J_dup (hB : Cb E cc own R nL Y) {v : Value} (hd : decode cc pc = .ok (.dup, 1)) (hc : v.category = 1) (k : J l E R Y ws (pc + 1) lv (v :: v :: st)) : J l E R Y ws pc lv (v :: st) := fun H locs ls hP hD hS hl => lv_dup hB.1 hB.2.1 hd hc (k H locs ls hP hD hS hl)
theorem J_pop (hB : Cb E cc own R nL Y) {v : Value} (hd : decode cc pc = .ok (.pop, 1)) (hc : v.category = 1) (k : J l E R Y ws (pc + 1) lv st) : J l E R Y ws pc lv (v :: st) := fun H locs ls hP hD hS hl => lv_pop hB.1 hB.2.1 hd hc (k H locs ls hP hD hS hl)
theorem J_dup2 (hB : Cb E cc own R nL Y) {va vb : Value} (hd : decode cc pc = .ok (.dup2, 1)) (hc : va.category = 1) (hc2 : vb.category = 1) (k : J l E R Y ws (pc + 1) lv (va :: vb :: va :: vb :: st)) : J l E R Y ws pc lv (va :: vb :: st) := fun H locs ls hP hD hS hl => lv_dup2_11 hB.1 hB.2.1 hd hc hc2 (k H locs ls hP hD hS hl)
theorem J_ldc (hB : Cb E cc own R nL Y) {index : Nat} {v : Int32} (hd : decode cc pc = .ok (.ldc index, 2)) (hw : Cond.constant own index v ∈ bigW) (k : J l E R Y ws (pc + 2) lv (.int v :: st)) : J l E R Y ws pc lv st := fun H locs ls hP hD hS hl => lv_ldc hB.1 hB.2.1 hB.2.2.2.1 (hB.2.2.2.2.1 _ hw) hd (k H locs ls hP hD hS hl)
theorem J_ldcw (hB : Cb E cc own R nL Y) {index : Nat} {v : Int32} (hd : decode cc pc = .ok (.ldc_w index, 3)) (hw : Cond.constant own index v ∈ bigW) (k : J l E R Y ws (pc + 3) lv (.int v :: st)) : J l E R Y ws pc lv st := fun H locs ls hP hD hS hl => lv_ldcw hB.1 hB.2.1 hB.2.2.2.1 (hB.2.2.2.2.1 _ hw) hd (k H locs ls hP hD hS hl)
theorem J_ldc2 (hB : Cb E cc own R nL Y) {index : Nat} {v : Int64} (hd : decode cc pc = .ok (.ldc2_w index, 3)) (hw : Cond.constantLong own index v ∈ bigW) (k : J l E R Y ws (pc + 3) lv (.long v :: st)) : J l E R Y ws pc lv st := fun H locs ls hP hD hS hl => lv_ldc2 hB.1 hB.2.1 hB.2.2.2.1 (hB.2.2.2.2.1 _ hw) hd (k H locs ls hP hD hS hl)
theorem J_iload_n (hB : Cb E cc own R nL Y) {n : Fin 4} {i : Nat} {x : Int32} (hd : decode cc pc = .ok (.iload_n n, 1)) (hi : (n : Nat) = i) (q : Nat) (hq : lv[q]? = some (i, .int x)) (k : J l E R Y ws (pc + 1) lv (.int x :: st)) : J l E R Y ws pc lv st := fun H locs ls hP hD hS hl => lv_iload_n hB.1 hB.2.1 hd hi (lv_at hl q hq) (k H locs ls hP hD hS hl)
theorem J_iload (hB : Cb E cc own R nL Y) {i : Nat} {x : Int32} (hd : decode cc pc = .ok (.iload i, 2)) (q : Nat) (hq : lv[q]? = some (i, .int x)) (k : J l E R Y ws (pc + 2) lv (.int x :: st)) : J l E R Y ws pc lv st := fun H locs ls hP hD hS hl => lv_iload hB.1 hB.2.1 hd (lv_at hl q hq) (k H locs ls hP hD hS hl)
theorem J_lload_n (hB : Cb E cc own R nL Y) {n : Fin 4} {i : Nat} {x : Int64} (hd : decode cc pc = .ok (.lload_n n, 1)) (hi : (n : Nat) = i) (q : Nat) (hq : lv[q]? = some (i, .long x)) (k : J l E R Y ws (pc + 1) lv (.long x :: st)) : J l E R Y ws pc lv st := fun H locs ls hP hD hS hl => lv_lload_n hB.1 hB.2.1 hd hi (lv_at hl q hq) (k H locs ls hP hD hS hl)
theorem J_lload (hB : Cb E cc own R nL Y) {i : Nat} {x : Int64} (hd : decode cc pc = .ok (.lload i, 2)) (q : Nat) (hq : lv[q]? = some (i, .long x)) (k : J l E R Y ws (pc + 2) lv (.long x :: st)) : J l E R Y ws pc lv st := fun H locs ls hP hD hS hl => lv_lload hB.1 hB.2.1 hd (lv_at hl q hq) (k H locs ls hP hD hS hl)
theorem J_aload_n (hB : Cb E cc own R nL Y) {n : Fin 4} {i : Nat} {x : Nat} (hd : decode cc pc = .ok (.aload_n n, 1)) (hi : (n : Nat) = i) (q : Nat) (hq : lv[q]? = some (i, .ref x)) (k : J l E R Y ws (pc + 1) lv (.ref x :: st)) : J l E R Y ws pc lv st := fun H locs ls hP hD hS hl => lv_aload_n hB.1 hB.2.1 hd hi (lv_at hl q hq) (k H locs ls hP hD hS hl)
theorem J_aload (hB : Cb E cc own R nL Y) {i : Nat} {x : Nat} (hd : decode cc pc = .ok (.aload i, 2)) (q : Nat) (hq : lv[q]? = some (i, .ref x)) (k : J l E R Y ws (pc + 2) lv (.ref x :: st)) : J l E R Y ws pc lv st := fun H locs ls hP hD hS hl => lv_aload hB.1 hB.2.1 hd (lv_at hl q hq) (k H locs ls hP hD hS hl)
theorem J_istore_n (hB : Cb E cc own R nL Y) {n : Fin 4} {i : Nat} {x v : Int32} (hv : v = x) (hd : decode cc pc = .ok (.istore_n n, 1)) (hi : (n : Nat) = i) (hn : i < nL) (hl' : (i, Value.int v) :: lv.filter (fun q => !(q.1 == i) && !(q.1 + 1 == i && q.2.category == 2)) = lv') (k : J l E R Y ws (pc + 1) lv' st) : J l E R Y ws pc lv (.int x :: st) := fun H locs ls hP hD hS hl => by subst hv; exact lv_istore_n hB.1 hB.2.1 hd hi hl (by rw [hB.2.2.2.2.2.2.2.2.2]; exact hn) hl' (fun ls' hl2 => k H locs ls' hP hD hS hl2)
theorem J_istore (hB : Cb E cc own R nL Y) {i : Nat} {x v : Int32} (hv : v = x) (hd : decode cc pc = .ok (.istore i, 2)) (hn : i < nL) (hl' : (i, Value.int v) :: lv.filter (fun q => !(q.1 == i) && !(q.1 + 1 == i && q.2.category == 2)) = lv') (k : J l E R Y ws (pc + 2) lv' st) : J l E R Y ws pc lv (.int x :: st) := fun H locs ls hP hD hS hl => by subst hv; exact lv_istore hB.1 hB.2.1 hd hl (by rw [hB.2.2.2.2.2.2.2.2.2]; exact hn) hl' (fun ls' hl2 => k H locs ls' hP hD hS hl2)
theorem J_lstore_n (hB : Cb E cc own R nL Y) {n : Fin 4} {i : Nat} {x v : Int64} (hv : v = x) (hd : decode cc pc = .ok (.lstore_n n, 1)) (hi : (n : Nat) = i) (hn : i + 1 < nL) (hl' : (i, Value.long v) :: lv.filter (fun q => !(q.1 == i) && (!(q.1 == i + 1) && !(q.1 + 1 == i && q.2.category == 2))) = lv') (k : J l E R Y ws (pc + 1) lv' st) : J l E R Y ws pc lv (.long x :: st) := fun H locs ls hP hD hS hl => by subst hv; exact lv_lstore_n hB.1 hB.2.1 hd hi hl (by rw [hB.2.2.2.2.2.2.2.2.2]; exact hn) hl' (fun ls' hl2 => k H locs ls' hP hD hS hl2)
theorem J_lstore (hB : Cb E cc own R nL Y) {i : Nat} {x v : Int64} (hv : v = x) (hd : decode cc pc = .ok (.lstore i, 2)) (hn : i + 1 < nL) (hl' : (i, Value.long v) :: lv.filter (fun q => !(q.1 == i) && (!(q.1 == i + 1) && !(q.1 + 1 == i && q.2.category == 2))) = lv') (k : J l E R Y ws (pc + 2) lv' st) : J l E R Y ws pc lv (.long x :: st) := fun H locs ls hP hD hS hl => by subst hv; exact lv_lstore hB.1 hB.2.1 hd hl (by rw [hB.2.2.2.2.2.2.2.2.2]; exact hn) hl' (fun ls' hl2 => k H locs ls' hP hD hS hl2)
theorem J_iinc (hB : Cb E cc own R nL Y) {i : Nat} {n : Int} {x v : Int32} (hv : v = x + Int32.ofInt n) (hd : decode cc pc = .ok (.iinc i n, 3)) (q : Nat) (hq : lv[q]? = some (i, .int x)) (hn : i < nL) (hl' : (i, Value.int v) :: lv.filter (fun q => !(q.1 == i) && !(q.1 + 1 == i && q.2.category == 2)) = lv') (k : J l E R Y ws (pc + 3) lv' st) : J l E R Y ws pc lv st := fun H locs ls hP hD hS hl => lv_iinc hB.1 hB.2.1 hd hl hq hv.symm (by rw [hB.2.2.2.2.2.2.2.2.2]; exact hn) hl' (fun ls' hl2 => k H locs ls' hP hD hS hl2)
theorem J_if_eq (hB : Cb E cc own R nL Y) {x : Int32} {off : Int} {tgt : Nat} (hd : decode cc pc = .ok (.ifCond .eq off, 3)) (ht : (pc : Int) + off = (tgt : Int)) (kt : x = 0 → J l E R Y ws tgt lv st) (kf : ¬ x = 0 → J l E R Y ws (pc + 3) lv st) : J l E R Y ws pc lv (.int x :: st) := fun H locs ls hP hD hS hl => lv_if_eq hB.1 hB.2.1 hd ht (fun h => kt h H locs ls hP hD hS hl) (fun h => kf h H locs ls hP hD hS hl)
theorem J_icmp_eq (hB : Cb E cc own R nL Y) {x y : Int32} {off : Int} {tgt : Nat} (hd : decode cc pc = .ok (.if_icmp .eq off, 3)) (ht : (pc : Int) + off = (tgt : Int)) (kt : x = y → J l E R Y ws tgt lv st) (kf : ¬ x = y → J l E R Y ws (pc + 3) lv st) : J l E R Y ws pc lv (.int y :: .int x :: st) := fun H locs ls hP hD hS hl => lv_icmp_eq hB.1 hB.2.1 hd ht (fun h => kt h H locs ls hP hD hS hl) (fun h => kf h H locs ls hP hD hS hl)
theorem J_if_ne (hB : Cb E cc own R nL Y) {x : Int32} {off : Int} {tgt : Nat} (hd : decode cc pc = .ok (.ifCond .ne off, 3)) (ht : (pc : Int) + off = (tgt : Int)) (kt : ¬ x = 0 → J l E R Y ws tgt lv st) (kf : x = 0 → J l E R Y ws (pc + 3) lv st) : J l E R Y ws pc lv (.int x :: st) := fun H locs ls hP hD hS hl => lv_if_ne hB.1 hB.2.1 hd ht (fun h => kt h H locs ls hP hD hS hl) (fun h => kf h H locs ls hP hD hS hl)
theorem J_icmp_ne (hB : Cb E cc own R nL Y) {x y : Int32} {off : Int} {tgt : Nat} (hd : decode cc pc = .ok (.if_icmp .ne off, 3)) (ht : (pc : Int) + off = (tgt : Int)) (kt : ¬ x = y → J l E R Y ws tgt lv st) (kf : x = y → J l E R Y ws (pc + 3) lv st) : J l E R Y ws pc lv (.int y :: .int x :: st) := fun H locs ls hP hD hS hl => lv_icmp_ne hB.1 hB.2.1 hd ht (fun h => kt h H locs ls hP hD hS hl) (fun h => kf h H locs ls hP hD hS hl)
theorem J_if_lt (hB : Cb E cc own R nL Y) {x : Int32} {off : Int} {tgt : Nat} (hd : decode cc pc = .ok (.ifCond .lt off, 3)) (ht : (pc : Int) + off = (tgt : Int)) (kt : x < 0 → J l E R Y ws tgt lv st) (kf : ¬ x < 0 → J l E R Y ws (pc + 3) lv st) : J l E R Y ws pc lv (.int x :: st) := fun H locs ls hP hD hS hl => lv_if_lt hB.1 hB.2.1 hd ht (fun h => kt h H locs ls hP hD hS hl) (fun h => kf h H locs ls hP hD hS hl)
theorem J_icmp_lt (hB : Cb E cc own R nL Y) {x y : Int32} {off : Int} {tgt : Nat} (hd : decode cc pc = .ok (.if_icmp .lt off, 3)) (ht : (pc : Int) + off = (tgt : Int)) (kt : x < y → J l E R Y ws tgt lv st) (kf : ¬ x < y → J l E R Y ws (pc + 3) lv st) : J l E R Y ws pc lv (.int y :: .int x :: st) := fun H locs ls hP hD hS hl => lv_icmp_lt hB.1 hB.2.1 hd ht (fun h => kt h H locs ls hP hD hS hl) (fun h => kf h H locs ls hP hD hS hl)
theorem J_if_ge (hB : Cb E cc own R nL Y) {x : Int32} {off : Int} {tgt : Nat} (hd : decode cc pc = .ok (.ifCond .ge off, 3)) (ht : (pc : Int) + off = (tgt : Int)) (kt : 0 ≤ x → J l E R Y ws tgt lv st) (kf : ¬ 0 ≤ x → J l E R Y ws (pc + 3) lv st) : J l E R Y ws pc lv (.int x :: st) := fun H locs ls hP hD hS hl => lv_if_ge hB.1 hB.2.1 hd ht (fun h => kt h H locs ls hP hD hS hl) (fun h => kf h H locs ls hP hD hS hl)
theorem J_icmp_ge (hB : Cb E cc own R nL Y) {x y : Int32} {off : Int} {tgt : Nat} (hd : decode cc pc = .ok (.if_icmp .ge off, 3)) (ht : (pc : Int) + off = (tgt : Int)) (kt : y ≤ x → J l E R Y ws tgt lv st) (kf : ¬ y ≤ x → J l E R Y ws (pc + 3) lv st) : J l E R Y ws pc lv (.int y :: .int x :: st) := fun H locs ls hP hD hS hl => lv_icmp_ge hB.1 hB.2.1 hd ht (fun h => kt h H locs ls hP hD hS hl) (fun h => kf h H locs ls hP hD hS hl)
theorem J_if_gt (hB : Cb E cc own R nL Y) {x : Int32} {off : Int} {tgt : Nat} (hd : decode cc pc = .ok (.ifCond .gt off, 3)) (ht : (pc : Int) + off = (tgt : Int)) (kt : 0 < x → J l E R Y ws tgt lv st) (kf : ¬ 0 < x → J l E R Y ws (pc + 3) lv st) : J l E R Y ws pc lv (.int x :: st) := fun H locs ls hP hD hS hl => lv_if_gt hB.1 hB.2.1 hd ht (fun h => kt h H locs ls hP hD hS hl) (fun h => kf h H locs ls hP hD hS hl)
theorem J_icmp_gt (hB : Cb E cc own R nL Y) {x y : Int32} {off : Int} {tgt : Nat} (hd : decode cc pc = .ok (.if_icmp .gt off, 3)) (ht : (pc : Int) + off = (tgt : Int)) (kt : y < x → J l E R Y ws tgt lv st) (kf : ¬ y < x → J l E R Y ws (pc + 3) lv st) : J l E R Y ws pc lv (.int y :: .int x :: st) := fun H locs ls hP hD hS hl => lv_icmp_gt hB.1 hB.2.1 hd ht (fun h => kt h H locs ls hP hD hS hl) (fun h => kf h H locs ls hP hD hS hl)
theorem J_if_le (hB : Cb E cc own R nL Y) {x : Int32} {off : Int} {tgt : Nat} (hd : decode cc pc = .ok (.ifCond .le off, 3)) (ht : (pc : Int) + off = (tgt : Int)) (kt : x ≤ 0 → J l E R Y ws tgt lv st) (kf : ¬ x ≤ 0 → J l E R Y ws (pc + 3) lv st) : J l E R Y ws pc lv (.int x :: st) := fun H locs ls hP hD hS hl => lv_if_le hB.1 hB.2.1 hd ht (fun h => kt h H locs ls hP hD hS hl) (fun h => kf h H locs ls hP hD hS hl)
theorem J_icmp_le (hB : Cb E cc own R nL Y) {x y : Int32} {off : Int} {tgt : Nat} (hd : decode cc pc = .ok (.if_icmp .le off, 3)) (ht : (pc : Int) + off = (tgt : Int)) (kt : x ≤ y → J l E R Y ws tgt lv st) (kf : ¬ x ≤ y → J l E R Y ws (pc + 3) lv st) : J l E R Y ws pc lv (.int y :: .int x :: st) := fun H locs ls hP hD hS hl => lv_icmp_le hB.1 hB.2.1 hd ht (fun h => kt h H locs ls hP hD hS hl) (fun h => kf h H locs ls hP hD hS hl)
theorem J_goto (hB : Cb E cc own R nL Y) {off : Int} {tgt : Nat} (hd : decode cc pc = .ok (.goto off, 3)) (ht : (pc : Int) + off = (tgt : Int)) (k : J l E R Y ws tgt lv st) : J l E R Y ws pc lv st := fun H locs ls hP hD hS hl => lv_goto hB.1 hB.2.1 hd ht (k H locs ls hP hD hS hl)
theorem tsw_out {x : Int32} {n : Nat} (h : ∀ k : Nat, k < n → ¬ x = nI k) (hn : n < 2 ^ 31) : x.toInt < 0 ∨ (n : Int) - 1 < x.toInt := by
  rcases Int.lt_or_le x.toInt 0 with h0 | h0
  · exact Or.inl h0
  · rcases Int.lt_or_le ((n : Int) - 1) x.toInt with h1 | h1
    · exact Or.inr h1
    · refine absurd (?_ : x = nI x.toInt.toNat) (h x.toInt.toNat (by omega))
      apply Int32.toInt_inj.mp
      rw [nI_toInt (by omega)]
      omega
theorem J_tswIn (hB : Cb E cc own R nL Y) {dflt hi : Int} {offs : Array Int} {len : Nat} {x : Int32} {off : Int} {tgt : Nat} (n : Nat) (hx : x = nI n) (hn : n < 2 ^ 31) (hd : decode cc pc = .ok (.tableswitch dflt 0 hi offs, len)) (h2 : ¬ hi < (n : Int)) (ho : offs[n]? = some off) (ht : (pc : Int) + off = (tgt : Int)) (k : J l E R Y ws tgt lv st) : J l E R Y ws pc lv (.int x :: st) := fun H locs ls hP hD hS hl => by
  have e : x.toInt = (n : Int) := by rw [hx]; exact nI_toInt hn
  exact lv_tableIn hB.1 hB.2.1 hd (by omega) (by rw [e]; exact h2) (by rw [e]; simpa using ho) ht (k H locs ls hP hD hS hl)
theorem J_tswOut (hB : Cb E cc own R nL Y) {dflt hi : Int} {offs : Array Int} {len : Nat} {x : Int32} {tgt : Nat} (h : x.toInt < 0 ∨ hi < x.toInt) (hd : decode cc pc = .ok (.tableswitch dflt 0 hi offs, len)) (ht : (pc : Int) + dflt = (tgt : Int)) (k : J l E R Y ws tgt lv st) : J l E R Y ws pc lv (.int x :: st) := fun H locs ls hP hD hS hl => lv_tableOut hB.1 hB.2.1 hd h ht (k H locs ls hP hD hS hl)
theorem J_lsw (hB : Cb E cc own R nL Y) {dflt : Int} {ps : Array (Int × Int)} {len : Nat} {x : Int32} {off : Int} {tgt : Nat} (hd : decode cc pc = .ok (.lookupswitch dflt ps, len)) (hp : (ps.toList.zip (ps.toList.drop 1)).all (fun (a, next) => a.1 < next.1) = true) (ho : Op.lookupswitch.offset ps.toList dflt x.toInt = off) (ht : (pc : Int) + off = (tgt : Int)) (k : J l E R Y ws tgt lv st) : J l E R Y ws pc lv (.int x :: st) := fun H locs ls hP hD hS hl => lv_lookup hB.1 hB.2.1 hd hp ho ht (k H locs ls hP hD hS hl)
theorem J_get (hB : Cb E cc own R nL Y) {C : String} {T : u_T} {N ci index q : Nat} (hin : ∀ w ∈ u_ws C T N, w ∈ bigW) (q0 : Nat) {fs : List Value} (he : ws[q0]? = some (q, .inr (ci, fs))) (hc : vwCl[ci]? = some (C, T, N)) (k : Nat) (hk : k < N) (hlink : Cond.fieldLink own index (T k).1 (T k).2.1 (T k).2.2.1 ∈ bigW) {v : Value} (hv : fs[k]? = some v) (hd : decode cc pc = .ok (.getfield index, 3)) (kk : J l E R Y ws (pc + 3) lv (v :: st)) : J l E R Y ws pc lv (.ref q :: st) := fun H locs ls hP hD hS hl =>
  va_get hB.1 hB.2.1 hB.2.2.2.2.1 hin hB.2.2.2.1 hB.2.2.2.2.2.1 hP q0 he hc k hk (hB.2.2.2.2.1 _ hlink) (fun _ h => h) hv hd (kk H locs ls hP hD hS hl)
theorem J_getN (hB : Cb E cc own R nL Y) {C host : String} {T : u_T} {N ci index q : Nat} (hin : ∀ w ∈ u_ws C T N, w ∈ bigW) (q0 : Nat) {fs : List Value} (he : ws[q0]? = some (q, .inr (ci, fs))) (hc : vwCl[ci]? = some (C, T, N)) (k : Nat) (hk : k < N) (hlink : (own, index, (T k).1, (T k).2.1, (T k).2.2.1, host) ∈ nestF) {v : Value} (hv : fs[k]? = some v) (hd : decode cc pc = .ok (.getfield index, 3)) (kk : J l E R Y ws (pc + 3) lv (v :: st)) : J l E R Y ws pc lv (.ref q :: st) := fun H locs ls hP hD hS hl =>
  va_getN hB.1 hB.2.1 hB.2.2.2.2.1 hin hB.2.2.2.1 hB.2.2.2.2.2.1 hP q0 he hc k hk (va_Nw.use rfl (hB.2.2.2.2.2.2.1.1 _ hlink)) (fun _ h => h) hv hd (kk H locs ls hP hD hS hl)
theorem J_put (hB : Cb E cc own R nL Y) {C : String} {T : u_T} {N ci index q : Nat} (hin : ∀ w ∈ u_ws C T N, w ∈ bigW) (ty0 : Nat → FieldType) (hty : ∀ k, k < N → parseFieldDescriptor (T k).2.2.1 = some (ty0 k)) (hnm : ∀ a, a < N → ∀ b, b < N → a ≠ b → (T a).2.1 ≠ (T b).2.1) (q0 : Nat) {fs : List Value} (he : ws[q0]? = some (q, .inr (ci, fs))) (hc : vwCl[ci]? = some (C, T, N)) (k : Nat) (hk : k < N) (hlink : Cond.fieldLink own index (T k).1 (T k).2.1 (T k).2.2.1 ∈ bigW) (hfin : (T k).2.2.2 = false) {ty : FieldType} {v : Value} (hp : parseFieldDescriptor (T k).2.2.1 = some ty) (hn : narrow ty v = v) (hfit : fits ty v = true) (hl9 : k < fs.length) (hd : decode cc pc = .ok (.putfield index, 3)) (hw : ws.set q0 (q, .inr (ci, fs.set k v)) = ws') (kk : J l E R Y ws' (pc + 3) lv st) : J l E R Y ws pc lv (v :: .ref q :: st) := fun H locs ls hP hD hS hl => by
  subst hw
  exact va_put hB.1 hB.2.1 hB.2.2.2.2.1 hin ty0 hty hnm hB.2.2.2.1 hB.2.2.2.2.2.1 hP hD hS q0 he hc k hk (hB.2.2.2.2.1 _ hlink) (fun _ h => h) hfin hp hn hfit hl9 hd (fun H1 locs1 hP1 hD1 hS1 => kk H1 locs1 ls hP1 hD1 hS1 hl)
theorem J_putN (hB : Cb E cc own R nL Y) {C host : String} {T : u_T} {N ci index q : Nat} (hin : ∀ w ∈ u_ws C T N, w ∈ bigW) (ty0 : Nat → FieldType) (hty : ∀ k, k < N → parseFieldDescriptor (T k).2.2.1 = some (ty0 k)) (hnm : ∀ a, a < N → ∀ b, b < N → a ≠ b → (T a).2.1 ≠ (T b).2.1) (q0 : Nat) {fs : List Value} (he : ws[q0]? = some (q, .inr (ci, fs))) (hc : vwCl[ci]? = some (C, T, N)) (k : Nat) (hk : k < N) (hlink : (own, index, (T k).1, (T k).2.1, (T k).2.2.1, host) ∈ nestF) (hfin : (T k).2.2.2 = false) {ty : FieldType} {v : Value} (hp : parseFieldDescriptor (T k).2.2.1 = some ty) (hn : narrow ty v = v) (hfit : fits ty v = true) (hl9 : k < fs.length) (hd : decode cc pc = .ok (.putfield index, 3)) (hw : ws.set q0 (q, .inr (ci, fs.set k v)) = ws') (kk : J l E R Y ws' (pc + 3) lv st) : J l E R Y ws pc lv (v :: .ref q :: st) := fun H locs ls hP hD hS hl => by
  subst hw
  exact va_putN hB.1 hB.2.1 hB.2.2.2.2.1 hin ty0 hty hnm hB.2.2.2.1 hB.2.2.2.2.2.1 hP hD hS q0 he hc k hk (va_Nw.use rfl (hB.2.2.2.2.2.2.1.1 _ hlink)) (fun _ h => h) hfin hp hn hfit hl9 hd (fun H1 locs1 hP1 hD1 hS1 => kk H1 locs1 ls hP1 hD1 hS1 hl)
theorem J_iald (hB : Cb E cc own R nL Y) (q0 : Nat) {q n : Nat} {f : Nat → Int32} (ha : ws[q0]? = some (ia E q n f)) {i : Int32} {v : Int32} (hv : v = f i.toNatClampNeg) (hin : vp_in i n) (hd : decode cc pc = .ok (.iaload, 1)) (kk : J l E R Y ws (pc + 1) lv (.int v :: st)) : J l E R Y ws pc lv (.int i :: .ref q :: st) := fun H locs ls hP hD hS hl => by subst hv; exact va_iald hB.1 hB.2.1 hB.2.2.2.2.2.1 hP q0 0 ha rfl hin hd (kk H locs ls hP hD hS hl)
theorem J_bald (hB : Cb E cc own R nL Y) (q0 : Nat) {q n : Nat} {f : Nat → Int32} (ha : ws[q0]? = some (ba E q n f)) {i : Int32} {v : Int32} (hv : v = f i.toNatClampNeg) (hin : vp_in i n) (hd : decode cc pc = .ok (.baload, 1)) (kk : J l E R Y ws (pc + 1) lv (.int v :: st)) : J l E R Y ws pc lv (.int i :: .ref q :: st) := fun H locs ls hP hD hS hl => by subst hv; exact va_bald hB.1 hB.2.1 hB.2.2.2.2.2.1 hP q0 1 ha rfl hin hd (kk H locs ls hP hD hS hl)
theorem J_lald (hB : Cb E cc own R nL Y) (q0 : Nat) {q n : Nat} {f : Nat → Int64} (ha : ws[q0]? = some (ja E q n f)) {i : Int32} {v : Int64} (hv : v = f i.toNatClampNeg) (hin : vp_in i n) (hd : decode cc pc = .ok (.laload, 1)) (kk : J l E R Y ws (pc + 1) lv (.long v :: st)) : J l E R Y ws pc lv (.int i :: .ref q :: st) := fun H locs ls hP hD hS hl => by subst hv; exact va_lald hB.1 hB.2.1 hB.2.2.2.2.2.1 hP q0 2 ha rfl hin hd (kk H locs ls hP hD hS hl)
theorem J_iast (hB : Cb E cc own R nL Y) (q0 : Nat) {q n : Nat} {f f' : Nat → Int32} (ha : ws[q0]? = some (ia E q n f)) {i : Int32} {x : Int32} (hv : f' = upd f i.toNatClampNeg x) (hin : vp_in i n) (hd : decode cc pc = .ok (.iastore, 1)) (hw : ws.set q0 (ia E q n f') = ws') (kk : J l E R Y ws' (pc + 1) lv st) : J l E R Y ws pc lv (.int x :: .int i :: .ref q :: st) := fun H locs ls hP hD hS hl => by subst hv; subst hw; exact va_iast hB.1 hB.2.1 hB.2.2.2.2.2.1 hP hD hS q0 0 ha rfl hin hd (fun H1 locs1 hP1 hD1 hS1 => kk H1 locs1 ls hP1 hD1 hS1 hl)
theorem J_bast (hB : Cb E cc own R nL Y) (q0 : Nat) {q n : Nat} {f f' : Nat → Int32} (ha : ws[q0]? = some (ba E q n f)) {i : Int32} {x : Int32} (hv : f' = upd f i.toNatClampNeg (vp_nar .byte x)) (hin : vp_in i n) (hd : decode cc pc = .ok (.bastore, 1)) (hw : ws.set q0 (ba E q n f') = ws') (kk : J l E R Y ws' (pc + 1) lv st) : J l E R Y ws pc lv (.int x :: .int i :: .ref q :: st) := fun H locs ls hP hD hS hl => by subst hv; subst hw; exact va_bast hB.1 hB.2.1 hB.2.2.2.2.2.1 hP hD hS q0 1 ha rfl hin hd (fun H1 locs1 hP1 hD1 hS1 => kk H1 locs1 ls hP1 hD1 hS1 hl)
theorem J_last (hB : Cb E cc own R nL Y) (q0 : Nat) {q n : Nat} {f f' : Nat → Int64} (ha : ws[q0]? = some (ja E q n f)) {i : Int32} {x : Int64} (hv : f' = vp_updL f i.toNatClampNeg x) (hin : vp_in i n) (hd : decode cc pc = .ok (.lastore, 1)) (hw : ws.set q0 (ja E q n f') = ws') (kk : J l E R Y ws' (pc + 1) lv st) : J l E R Y ws pc lv (.long x :: .int i :: .ref q :: st) := fun H locs ls hP hD hS hl => by subst hv; subst hw; exact va_last hB.1 hB.2.1 hB.2.2.2.2.2.1 hP hD hS q0 2 ha rfl hin hd (fun H1 locs1 hP1 hD1 hS1 => kk H1 locs1 ls hP1 hD1 hS1 hl)
theorem J_alen (hB : Cb E cc own R nL Y) (q0 : Nat) {q n : Nat} {f : Nat → Int32} (ha : ws[q0]? = some (ia E q n f)) {v : Int32} (hv : Int32.ofNat n = v) (hd : decode cc pc = .ok (.arraylength, 1)) (kk : J l E R Y ws (pc + 1) lv (.int v :: st)) : J l E R Y ws pc lv (.ref q :: st) := fun H locs ls hP hD hS hl => va_alen hB.1 hB.2.1 hB.2.2.2.2.2.1 hP q0 0 ha rfl hv hd (kk H locs ls hP hD hS hl)
theorem Cr.qo {ret : Option FieldType} {r : Option Value} {w' : va_W} (hR : Cr E ret r w' Y) {H : Heap} {locs : List Loc} (hP : va_P E.1 vwCl w' H) (hD : va_D (yA Y) w') (hS : va_S (yA Y) (ys Y).heap H locs) (t : State) (ht : t.heap = H) : Qo E r w' (yA Y) (ya Y) (ys Y) (.returned r) t := ⟨rfl, by rw [ht]; exact hP, hD, hS.F ht⟩
theorem J_iret (hB : Cb E cc own R nL Y) {v : Int32} (hR : Cr E (some .int) (some (.int v)) ws Y) (hd : decode cc pc = .ok (.ireturn, 1)) : J l E R Y ws pc lv [.int v] := fun H locs ls hP hD hS hl => by
  obtain ⟨h1, h2, h3, h4, h5⟩ := id hR
  rw [h3, h4, h5]
  exact W.iret hB.1 hB.2.1 h1 (fun t ht _ => hR.qo hP hD hS t ht) hS.2.2 hd h2
theorem J_zret (hB : Cb E cc own R nL Y) {v : Int32} (hR : Cr E (some .boolean) (some (.int v)) ws Y) (hn : v = 0 ∨ v = 1) (hd : decode cc pc = .ok (.ireturn, 1)) : J l E R Y ws pc lv [.int v] := fun H locs ls hP hD hS hl => by
  obtain ⟨h1, h2, h3, h4, h5⟩ := id hR
  rw [h3, h4, h5]
  exact W.zret hB.1 hB.2.1 h1 (by rcases hn with rfl | rfl <;> decide +kernel) (fun t ht _ => hR.qo hP hD hS t ht) hS.2.2 hd h2
theorem J_lret (hB : Cb E cc own R nL Y) {v : Int64} (hR : Cr E (some .long) (some (.long v)) ws Y) (hd : decode cc pc = .ok (.lreturn, 1)) : J l E R Y ws pc lv [.long v] := fun H locs ls hP hD hS hl => by
  obtain ⟨h1, h2, h3, h4, h5⟩ := id hR
  rw [h3, h4, h5]
  exact W.lret hB.1 hB.2.1 h1 (fun t ht _ => hR.qo hP hD hS t ht) hS.2.2 hd h2
theorem J_vret (hB : Cb E cc own R nL Y) (hR : Cr E none none ws Y) (hd : decode cc pc = .ok (.return_, 1)) : J l E R Y ws pc lv [] := fun H locs ls hP hD hS hl => by
  obtain ⟨h1, h2, h3, h4, h5⟩ := id hR
  rw [h3, h4, h5]
  exact W.vret hB.1 hB.2.1 h1 (fun t ht _ => hR.qo hP hD hS t ht) hS.2.2 hd h2
/-- behind a call: what came back -/
theorem J_after {wc wc' : va_W} {r : Option Value} {st0 rest : List Value} {a : Array Value} {H : Heap} {locs : List Loc} {ls : Array Slot} (hF : ∀ q, va_A wc H.size q → yA Y q) (hPD : ∀ H1 : Heap, va_P E.1 vwCl wc' H1 → va_D (va_A wc H.size) wc' → (∀ q : Nat, q < H.size → ¬ va_A wc H.size q → H1[q]? = H[q]?) → va_P E.1 vwCl ws' H1 ∧ va_D (yA Y) ws')
    (hS : va_S (yA Y) (ys Y).heap H locs) (hl : lv_has ls (yN Y) lv)
    (hr : va_Run (yp Y) l (ye Y) R (ys Y) (ym Y) (ya Y) (yb Y) (yt Y) (yc Y) H locs (yk Y) (yn Y) 0 0 (F0 (ym Y) pc ls st0) rest (Qo E r wc' (va_A wc H.size) a) (va_A wc H.size))
    (k : J l E R Y ws' (pc + 3) lv (r.toList ++ rest)) : W (yp Y) l (ye Y) R (ys Y) (ym Y) (ya Y) (yb Y) (yt Y) (yc Y) H locs (yk Y) (yn Y) (yQ Y) (F0 (ym Y) pc ls st0) := by
  intro T hT X
  obtain ⟨v, st₀, t, T', L, h0, X', hL, e1, e2, ⟨hv, hP1, hD1, hz, hk⟩, stp⟩ := hr T hT X
  cases hv
  rw [h0] at hz hk
  rw [← e1] at hP1 hz hk
  obtain ⟨hP2, hD2⟩ := hPD _ hP1 hD1 hk
  obtain ⟨t2, a1, b1⟩ := k T'.heap (locs ++ L) ls hP2 hD2
    ⟨Nat.le_trans hS.1 hz, fun q h1 h2 => by rw [hk q (Nat.lt_of_lt_of_le h1 hS.1) (fun z => h2 (hF q z))]; exact hS.2.1 q h1 h2, fun q hq => by
      rcases List.mem_append.mp hq with h | h
      · exact hS.2.2 q h
      · exact hF _ (hL q h)⟩ hl T' rfl X'
  exact ⟨t2, stp t2 a1, b1⟩
/-- how a callee's world wc lies in the caller's ws, and what ws is when wc has become wc' -/
def Lies (E : En) (ws wc wc' ws' : va_W) : Prop :=
  (∀ {H : Heap}, va_P E.1 vwCl ws H → va_P E.1 vwCl wc H) ∧ (∀ {A : Nat → Prop}, va_D A ws → va_D A wc) ∧
  ∀ {A : Nat → Prop} {H H1 : Heap}, va_P E.1 vwCl ws H → va_D A ws → (∀ q, va_A wc H.size q → A q) → va_P E.1 vwCl wc' H1 → va_D (va_A wc H.size) wc' → (∀ q : Nat, q < H.size → ¬ va_A wc H.size q → H1[q]? = H[q]?) → va_P E.1 vwCl ws' H1 ∧ va_D A ws'
theorem Lies.same {wc wc' : va_W} : Lies E wc wc wc' wc' := ⟨fun h => h, fun h => h, fun _ _ hF hP1 hD1 _ => ⟨hP1, hD1.weaken (fun _ q _ h => hF q.1 h)⟩⟩
theorem Lies.none {ws : va_W} : Lies E ws [] [] ws := ⟨fun _ k q h => by simp at h, fun _ => ⟨fun i j p q h => by simp at h, fun k q h => by simp at h⟩, fun hP hD _ _ _ hk => ⟨fun k q hq => (hP k q hq).kept (hk q.1 (hP k q hq).lt (fun h => by
  rcases h with ⟨k, e, h⟩ | h
  · simp at h
  · have := (hP _ q hq).lt; omega)), hD⟩⟩
theorem Lies.part {wc wc' : va_W} (isC isR : List Nat) (hC : isC.map (fun i => ws[i]?) = wc.map some) (hnC : va_nd isC = true) (hC' : isC.map (fun i => ws'[i]?) = wc'.map some) (hR : isR.map (fun i => ws'[i]?) = isR.map (fun i => ws[i]?)) (n : Nat) (hlen : ws'.length = n) (hall : ∀ k, k < n → k ∈ isC ∨ k ∈ isR) (hdis : ∀ i ∈ isR, i ∉ isC) (hfst : ws'.map (fun q => q.1) = ws.map (fun q => q.1)) : Lies E ws wc wc' ws' := by
  have hs : isC.filterMap (fun i => ws[i]?) = wc := by
    have h := congrArg (fun z => z.filterMap id) hC
    simpa [List.filterMap_map] using h
  refine ⟨fun h => h.sub isC hs, fun h => h.sub isC hnC hC, fun {A H H1} hP hD hF hP1 hD1 hk => ⟨fun k q hq => ?_, ?_⟩⟩
  · have hkl : k < ws'.length := (List.getElem?_eq_some_iff.mp hq).1
    rcases hall k (by rw [← hlen]; exact hkl) with h | h
    · obtain ⟨i, hi⟩ := List.getElem?_of_mem h
      have h3 : (isC.map (fun i => ws'[i]?))[i]? = some (some q) := by rw [List.getElem?_map, hi]; simp [hq]
      rw [hC', List.getElem?_map] at h3
      cases hw : wc'[i]? with
      | none => rw [hw] at h3; simp at h3
      | some z =>
        rw [hw] at h3
        simp at h3
        exact hP1 i q (by rw [hw, h3])
    · obtain ⟨i, hi⟩ := List.getElem?_of_mem h
      have h3 : (isR.map (fun i => ws'[i]?))[i]? = (isR.map (fun i => ws[i]?))[i]? := by rw [hR]
      rw [List.getElem?_map, List.getElem?_map, hi] at h3
      simp at h3
      rw [hq] at h3
      have hq0 : ws[k]? = some q := h3.symm
      refine (hP k q hq0).kept (hk q.1 (hP k q hq0).lt (fun hz => ?_))
      rcases hz with ⟨j, e, hj⟩ | hz
      · have h4 : (isC.map (fun i => ws[i]?))[j]? = some (some (q.1, e)) := by rw [hC, List.getElem?_map, hj]; rfl
        rw [List.getElem?_map] at h4
        cases hw : isC[j]? with
        | none => rw [hw] at h4; simp at h4
        | some z =>
          rw [hw] at h4
          simp at h4
          have hzk := hD.1 z k _ _ h4 hq0 rfl
          subst hzk
          exact hdis z h (List.mem_of_getElem? hw)
      · have := (hP k q hq0).lt; omega
  · have hx : ∀ (k : Nat) (q : Nat × va_E), ws'[k]? = some q → ∃ q0, ws[k]? = some q0 ∧ q0.1 = q.1 := by
      intro k q hq
      have h3 : (ws'.map (fun q => q.1))[k]? = (ws.map (fun q => q.1))[k]? := by rw [hfst]
      rw [List.getElem?_map, List.getElem?_map, hq] at h3
      cases hw : ws[k]? with
      | none => rw [hw] at h3; simp at h3
      | some z => rw [hw] at h3; simp at h3; exact ⟨z, rfl, h3.symm⟩
    refine ⟨fun i j p q hp hq hpq => ?_, fun k q hq => ?_⟩
    · obtain ⟨p0, h1, h2⟩ := hx i p hp
      obtain ⟨q0, h3, h4⟩ := hx j q hq
      exact hD.1 i j p0 q0 h1 h3 (by rw [h2, h4, hpq])
    · obtain ⟨q0, h3, h4⟩ := hx k q hq
      rw [← h4]
      exact hD.2 k q0 h3
/-- which cells a mask takes -/
def slc : List Bool → va_W → va_W
  | true :: ms, q :: ws => q :: slc ms ws
  | false :: ms, _ :: ws => slc ms ws
  | _, _ => []
theorem slc_app : ∀ {m1 : List Bool} {w1 : va_W} {m2 : List Bool} {w2 : va_W}, m1.length = w1.length → slc (m1 ++ m2) (w1 ++ w2) = slc m1 w1 ++ slc m2 w2
  | [], [], _, _, _ => rfl
  | true :: m1, q :: w1, m2, w2, h => by
    show q :: slc (m1 ++ m2) (w1 ++ w2) = q :: (slc m1 w1 ++ slc m2 w2)
    rw [slc_app (by simpa using h)]
  | false :: m1, q :: w1, m2, w2, h => by
    show slc (m1 ++ m2) (w1 ++ w2) = slc m1 w1 ++ slc m2 w2
    rw [slc_app (by simpa using h)]
theorem slc_t : ∀ (w : va_W), slc (List.replicate w.length true) w = w
  | [] => rfl
  | q :: w => by
    show q :: slc (List.replicate w.length true) w = q :: w
    rw [slc_t w]
theorem slc_f : ∀ (w : va_W), slc (List.replicate w.length false) w = []
  | [] => rfl
  | q :: w => slc_f w
theorem slc_at : ∀ {ms : List Bool} {ws : va_W} {k : Nat} {q : Nat × va_E}, ms[k]? = some true → ws[k]? = some q → q ∈ slc ms ws
  | [], _, _, _, h, _ => by simp at h
  | _ :: _, [], _, _, _, h => by simp at h
  | true :: ms, p :: ws, 0, q, _, h => by simp at h; subst h; exact List.mem_cons_self
  | false :: ms, p :: ws, 0, q, h, _ => by simp at h
  | true :: ms, p :: ws, k + 1, q, h, h2 => List.mem_cons_of_mem _ (slc_at (by simpa using h) (by simpa using h2))
  | false :: ms, p :: ws, k + 1, q, h, h2 => by
    show q ∈ slc ms ws
    exact slc_at (k := k) (by simpa using h) (by simpa using h2)
theorem slc_of : ∀ {ms : List Bool} {ws : va_W} {q : Nat × va_E}, q ∈ slc ms ws → ∃ k : Nat, ms[k]? = some true ∧ ws[k]? = some q
  | [], _, _, h => by simp [slc] at h
  | true :: _, [], _, h => by simp [slc] at h
  | false :: _, [], _, h => by simp [slc] at h
  | true :: ms, p :: ws, q, h => by
    rcases List.mem_cons.mp (show q ∈ p :: slc ms ws from h) with rfl | h
    · exact ⟨0, rfl, rfl⟩
    · obtain ⟨k, h1, h2⟩ := slc_of h
      exact ⟨k + 1, by simpa using h1, by simpa using h2⟩
  | false :: ms, p :: ws, q, h => by
    obtain ⟨k, h1, h2⟩ := slc_of (show q ∈ slc ms ws from h)
    exact ⟨k + 1, by simpa using h1, by simpa using h2⟩
theorem slc_sub : ∀ (ms : List Bool) (ws : va_W), (slc ms ws).Sublist ws
  | [], _ => List.nil_sublist _
  | true :: _, [] => List.nil_sublist _
  | false :: _, [] => List.nil_sublist _
  | true :: ms, p :: ws => List.Sublist.cons_cons p (slc_sub ms ws)
  | false :: ms, p :: ws => List.Sublist.cons p (slc_sub ms ws)
theorem va_D.pw {A : Nat → Prop} {ws : va_W} : va_D A ws ↔ ws.Pairwise (fun p q => p.1 ≠ q.1) ∧ ∀ q ∈ ws, A q.1 := by
  constructor
  · intro h
    refine ⟨List.pairwise_iff_getElem.mpr (fun i j hi hj hij e => ?_), fun q hq => ?_⟩
    · have := h.1 i j ws[i] ws[j] (List.getElem?_eq_getElem hi) (List.getElem?_eq_getElem hj) e
      omega
    · obtain ⟨k, hk⟩ := List.getElem?_of_mem hq
      exact h.2 k q hk
  · intro h
    refine ⟨fun i j p q hp hq e => ?_, fun k q hk => h.2 q (List.mem_of_getElem? hk)⟩
    obtain ⟨hi, e1⟩ := List.getElem?_eq_some_iff.mp hp
    obtain ⟨hj, e2⟩ := List.getElem?_eq_some_iff.mp hq
    rcases Nat.lt_trichotomy i j with g | g | g
    · exact absurd (by rw [e1, e2]; exact e) (List.pairwise_iff_getElem.mp h.1 i j hi hj g)
    · exact g
    · exact absurd (by rw [e1, e2]; exact e.symm) (List.pairwise_iff_getElem.mp h.1 j i hj hi g)
def Lz (ws wc wc' ws' : va_W) : Prop := ∃ ms : List Bool, ms.length = ws.length ∧ ws'.length = ws.length ∧ slc ms ws = wc ∧ slc ms ws' = wc' ∧ slc (ms.map (!·)) ws' = slc (ms.map (!·)) ws ∧ ws'.map (fun q => q.1) = ws.map (fun q => q.1)
theorem Lz.here {w w' : va_W} (h1 : w'.length = w.length) (h2 : w'.map (fun q => q.1) = w.map (fun q => q.1)) : Lz w w w' w' :=
  ⟨List.replicate w.length true, by simp, h1, slc_t w, by rw [← h1]; exact slc_t w', by rw [List.map_replicate]; show slc (List.replicate w.length false) w' = slc (List.replicate w.length false) w; rw [slc_f w, ← h1, slc_f w'], h2⟩
theorem Lz.skip {w1 w2 c c' w2' : va_W} (h : Lz w2 c c' w2') : Lz (w1 ++ w2) c c' (w1 ++ w2') := by
  obtain ⟨ms, a1, a2, a3, a4, a5, a6⟩ := h
  have e : (List.replicate w1.length false).length = w1.length := by simp
  refine ⟨List.replicate w1.length false ++ ms, by simp [a1], by simp [a2], ?_, ?_, ?_, by simp [a6]⟩
  · rw [slc_app e, slc_f, a3]; rfl
  · rw [slc_app e, slc_f, a4]; rfl
  · rw [List.map_append, slc_app (by simp), slc_app (by simp), a5]
theorem Lz.pair {w1 w1' w2 c c' w2' : va_W} (h1 : w1'.length = w1.length) (h2 : w1'.map (fun q => q.1) = w1.map (fun q => q.1)) (h : Lz w2 c c' w2') : Lz (w1 ++ w2) (w1 ++ c) (w1' ++ c') (w1' ++ w2') := by
  obtain ⟨ms, a1, a2, a3, a4, a5, a6⟩ := h
  have e : (List.replicate w1.length true).length = w1.length := by simp
  have e' : (List.replicate w1.length true).length = w1'.length := by simp [h1]
  refine ⟨List.replicate w1.length true ++ ms, by simp [a1], by simp [a2, h1], ?_, ?_, ?_, by simp [a6, h2]⟩
  · rw [slc_app e, slc_t, a3]
  · rw [slc_app e', a4]
    conv => lhs; arg 1; rw [← h1]
    rw [slc_t]
  · rw [List.map_append, slc_app (by simp [h1]), slc_app (by simp), a5, List.map_replicate]
    show slc (List.replicate w1.length false) w1' ++ _ = slc (List.replicate w1.length false) w1 ++ _
    rw [slc_f w1]
    conv => lhs; arg 1; rw [← h1]
    rw [slc_f w1']
theorem Lz.take {w1 w1' w2 : va_W} (h1 : w1'.length = w1.length) (h2 : w1'.map (fun q => q.1) = w1.map (fun q => q.1)) : Lz (w1 ++ w2) w1 w1' (w1' ++ w2) := by
  have h : Lz w2 [] [] w2 := ⟨List.replicate w2.length false, by simp, rfl, slc_f w2, slc_f w2, rfl, rfl⟩
  have g := Lz.pair h1 h2 h
  rw [List.append_nil, List.append_nil] at g
  exact g
theorem Lz.lies {ws wc wc' ws' : va_W} (h : Lz ws wc wc' ws') : Lies E ws wc wc' ws' := by
  obtain ⟨ms, a1, a2, a3, a4, a5, a6⟩ := h
  refine ⟨fun {H} hP k q hk => ?_, fun {A} hD => ?_, fun {A H H1} hP hD hF hP1 hD1 hk => ⟨fun k q hq => ?_, ?_⟩⟩
  · have hm : q ∈ slc ms ws := by rw [a3]; exact List.mem_of_getElem? hk
    obtain ⟨j, -, hj⟩ := slc_of hm
    exact hP j q hj
  · have hp := va_D.pw.mp hD
    have hs := slc_sub ms ws
    rw [a3] at hs
    exact va_D.pw.mpr ⟨hp.1.sublist hs, fun q hq => hp.2 q (hs.subset hq)⟩
  · have hkl : k < ms.length := by rw [a1, ← a2]; exact (List.getElem?_eq_some_iff.mp hq).1
    cases hb : ms[k]? with
    | none => exact absurd (List.getElem?_eq_none_iff.mp hb) (by omega)
    | some b =>
      cases b with
      | true =>
        have hm : q ∈ wc' := by rw [← a4]; exact slc_at hb hq
        obtain ⟨j, hj⟩ := List.getElem?_of_mem hm
        exact hP1 j q hj
      | false =>
        have hm : q ∈ slc (ms.map (!·)) ws' := slc_at (k := k) (by rw [List.getElem?_map, hb]; rfl) hq
        rw [a5] at hm
        obtain ⟨j, hj1, hj2⟩ := slc_of hm
        refine (hP j q hj2).kept (hk q.1 (hP j q hj2).lt (fun hz => ?_))
        rcases hz with ⟨i, e, hi⟩ | hz
        · have hm2 : (q.1, e) ∈ slc ms ws := by rw [a3]; exact List.mem_of_getElem? hi
          obtain ⟨i2, h1, h2⟩ := slc_of hm2
          have hij := hD.1 i2 j _ _ h2 hj2 rfl
          subst hij
          rw [List.getElem?_map, h1] at hj1
          simp at hj1
        · have := (hP j q hj2).lt; omega
  · have hp := va_D.pw.mp hD
    refine va_D.pw.mpr ⟨?_, ?_⟩
    · have h3 : (ws.map (fun q => q.1)).Pairwise (· ≠ ·) := List.pairwise_map.mpr hp.1
      rw [← a6] at h3
      exact List.pairwise_map.mp h3
    · intro q hq
      have h3 : q.1 ∈ ws'.map (fun q => q.1) := List.mem_map.mpr ⟨q, hq, rfl⟩
      rw [a6] at h3
      obtain ⟨z, hz, e⟩ := List.mem_map.mp h3
      rw [← e]
      exact hp.2 z hz
theorem Lies.free {wc wc' : va_W} (hL : Lies E ws wc wc' ws') {H0 H : Heap} {locs : List Loc} {A : Nat → Prop} (hD : va_D A ws) (hS : va_S A H0 H locs) (hA : ∀ q : Nat, H0.size ≤ q → A q) : ∀ q, va_A wc H.size q → A q := fun q h => by
  rcases h with ⟨k, e, h⟩ | h
  · exact (hL.2.1 hD).2 k (q, e) h
  · exact hA q (Nat.le_trans hS.1 h)
theorem good_big {cd : Cond} (h : cd ∈ bigW) : GoodIn bigW (cd :: bigW) := fun w hw => by
  have hm : w ∈ bigW := by
    rcases List.mem_cons.mp hw with rfl | h2
    · exact h
    · exact h2
  exact ⟨hm, good_of_word (bigGood w hm)⟩
/-- of a method: its code is among the words, its class is ready, how many arguments it takes -/
def Mi (y : MethodName) (bytes : ByteArray) (maxL : Nat) (ret : Option FieldType) (n : Nat) : Prop := Cond.code y bytes maxL ret ∈ bigW ∧ Cond.initialized y.cls ∈ bigW ∧ (y.cls ≠ "java/lang/invoke/MethodHandle" ∧ y.cls ≠ "java/lang/invoke/VarHandle" ∧ (parseMethodDescriptor y.desc).map (fun d => d.parameters.length) = some n)
theorem J_pre {av : List Value} {wc wc' : va_W} {H : Heap} (hB : Cb E cc own R nL Y) (hP : va_P E.1 vwCl ws H) (hD : va_D (yA Y) ws) (hL : Lies E ws wc wc' ws') : ∀ U : State, U.heap = H → (ys Y).WarmedH U.vm → Pp E av wc H.size av.toArray U := fun U hU hW =>
  ⟨rfl, by rw [hU], by rw [hU]; exact hL.1 hP, va_K.moved hW.alike hB.2.2.2.2.2.1, (hL.2.1 hD).weaken (fun _ _ _ _ => trivial), hB.2.2.2.2.2.2.1.warm hW⟩
theorem J_callS (hB : Cb E cc own R nL Y) {y : MethodName} {bytes : ByteArray} {maxL n index : Nat} {ret : Option FieldType} {rmc : Room} {wc wc' : va_W} {r : Option Value} {As rest : List Value} (hM : Ct l y (.code y bytes maxL ret) rmc E As wc r wc') (hi : Mi y bytes maxL ret n) (hs : Cond.static y ∈ bigW) (hlink : Cond.methodLink own index y ∈ bigW) (hm : rmc.cells = 0 ∧ rmc.slots = 0 ∧ rmc.frames + 1 ≤ R.frames ∧ 8 + (maxL + 11) + rmc.locals ≤ R.locals) (hL : Lies E ws wc wc' ws') (hlen : As.length = n) (hst : st = As.reverse ++ rest) (hcat : (rest.map fun v => v.category).sum ≤ 8) (hd : decode cc pc = .ok (.invokestatic index, 3)) (k : J l E R Y ws' (pc + 3) lv (r.toList ++ rest)) : J l E R Y ws pc lv st := fun H locs ls hP hD hS hl => by
  subst hst
  have hF := hL.free hD hS hB.2.2.2.2.2.2.2.1
  refine J_after (a := As.toArray) hF (fun H1 a b c => hL.2.2 hP hD hF a b c) hS hl ?_ k
  exact va_runS (As := As) (rest := rest) (nL := yN Y) ⟨hB.1, hB.2.1, hB.2.2.1, hB.2.2.2.1, hB.2.2.2.2.1⟩ (hM H.size) ⟨callB_of n hB.2.2.2.2.1 (good_big hi.1) rfl hm.1 hm.2.1 (hB.2.2.2.2.1 _ hi.2.1) (hB.2.2.2.2.1 _ hlink) hi.2.2 hm.2.2, hB.2.2.2.2.1 _ hs⟩ ⟨Pp.blind, J_pre hB hP hD hL⟩ rfl hlen hl.1 rfl (lv_room hcat) hd ⟨hB.2.2.2.2.2.2.2.2.1.1, hB.2.2.2.2.2.2.2.2.1.2⟩
theorem J_callV (hB : Cb E cc own R nL Y) {y : MethodName} {bytes : ByteArray} {maxL n index : Nat} {ret : Option FieldType} {rmc : Room} {wc wc' : va_W} {r : Option Value} {As rest : List Value} {b : Nat} (hM : Ct l y (.code y bytes maxL ret) rmc E (.ref b :: As) wc r wc') (hi : Mi y bytes maxL ret n) (hs : Cond.instanceMethod y ∈ bigW ∧ Cond.selects y.cls y y ∈ bigW) (hlink : Cond.methodLink own index y ∈ bigW) (hm : rmc.cells = 0 ∧ rmc.slots = 0 ∧ rmc.frames + 1 ≤ R.frames ∧ 8 + (maxL + 11) + rmc.locals ≤ R.locals) (hL : Lies E ws wc wc' ws') (q0 : Nat) {ci : Nat} {fs : List Value} {T : u_T} {N : Nat} (he : ws[q0]? = some (b, .inr (ci, fs))) (hcl : vwCl[ci]? = some (y.cls, T, N)) (hlen : As.length = n) (hst : st = As.reverse ++ .ref b :: rest) (hcat : (rest.map fun v => v.category).sum ≤ 8) (hd : decode cc pc = .ok (.invokevirtual index, 3)) (k : J l E R Y ws' (pc + 3) lv (r.toList ++ rest)) : J l E R Y ws pc lv st := fun H locs ls hP hD hS hl => by
  subst hst
  have hF := hL.free hD hS hB.2.2.2.2.2.2.2.1
  refine J_after (a := (Value.ref b :: As).toArray) hF (fun H1 a b c => hL.2.2 hP hD hF a b c) hS hl ?_ k
  exact va_runV (C := y.cls) (As := As) (rest := rest) (nL := yN Y) ⟨hB.1, hB.2.1, hB.2.2.1, hB.2.2.2.1, hB.2.2.2.2.1⟩ (hM H.size) ⟨callB_of n hB.2.2.2.2.1 (good_big hi.1) rfl hm.1 hm.2.1 (hB.2.2.2.2.1 _ hi.2.1) (hB.2.2.2.2.1 _ hlink) hi.2.2 hm.2.2, hB.2.2.2.2.1 _ hs.1, hB.2.2.2.2.1 _ hs.2⟩ ⟨Pp.blind, va_recv (q := (y.cls, T, N)) hB.2.2.2.2.2.1 hP hcl he, J_pre hB hP hD hL⟩ rfl hlen hl.1 rfl (lv_room hcat) hd ⟨hB.2.2.2.2.2.2.2.2.1.1, hB.2.2.2.2.2.2.2.2.1.2⟩
theorem J_callVN (hB : Cb E cc own R nL Y) {y : MethodName} {bytes : ByteArray} {maxL n index : Nat} {ret : Option FieldType} {rmc : Room} {wc wc' : va_W} {r : Option Value} {As rest : List Value} {b : Nat} {host : String} (hM : Ct l y (.code y bytes maxL ret) rmc E (.ref b :: As) wc r wc') (hi : Mi y bytes maxL ret n) (hs : Cond.instanceMethod y ∈ bigW ∧ Cond.selects y.cls y y ∈ bigW) (hlink : (own, index, y, host) ∈ nestM) (hm : rmc.cells = 0 ∧ rmc.slots = 0 ∧ rmc.frames + 1 ≤ R.frames ∧ 8 + (maxL + 11) + rmc.locals ≤ R.locals) (hL : Lies E ws wc wc' ws') (q0 : Nat) {ci : Nat} {fs : List Value} {T : u_T} {N : Nat} (he : ws[q0]? = some (b, .inr (ci, fs))) (hcl : vwCl[ci]? = some (y.cls, T, N)) (hlen : As.length = n) (hst : st = As.reverse ++ .ref b :: rest) (hcat : (rest.map fun v => v.category).sum ≤ 8) (hd : decode cc pc = .ok (.invokevirtual index, 3)) (k : J l E R Y ws' (pc + 3) lv (r.toList ++ rest)) : J l E R Y ws pc lv st := fun H locs ls hP hD hS hl => by
  subst hst
  have hF := hL.free hD hS hB.2.2.2.2.2.2.2.1
  refine J_after (a := (Value.ref b :: As).toArray) hF (fun H1 a b c => hL.2.2 hP hD hF a b c) hS hl ?_ k
  exact va_runVN (C := y.cls) (As := As) (rest := rest) (nL := yN Y) ⟨hB.1, hB.2.1, hB.2.2.1, hB.2.2.2.1, hB.2.2.2.2.1⟩ (hM H.size) ⟨va_cnB n hB.2.2.2.2.1 (good_big hi.1) rfl hm.1 hm.2.1 (hB.2.2.2.2.2.2.1.2 _ hlink) (hB.2.2.2.2.1 _ hi.2.1) hi.2.2 hm.2.2, hB.2.2.2.2.1 _ hs.1, hB.2.2.2.2.1 _ hs.2⟩ ⟨Pp.blind, va_recv (q := (y.cls, T, N)) hB.2.2.2.2.2.1 hP hcl he, J_pre hB hP hD hL⟩ rfl hlen hl.1 rfl (lv_room hcat) hd ⟨hB.2.2.2.2.2.2.2.2.1.1, hB.2.2.2.2.2.2.2.2.1.2⟩
end LY
