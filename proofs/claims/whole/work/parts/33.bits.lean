/-! ===== Long.bitCount, the least bit ===== -/
def eB : List Nat → Nat
  | [] => 0
  | k :: r => k + 256 * eB r
def bmask (m : Nat) : Nat → Nat
  | 0 => 0
  | k + 1 => m + 256 * bmask m k
theorem and_split {p q r s : Nat} (hp : p < 256) (hr : r < 256) : (p + 256 * q) &&& (r + 256 * s) = (p &&& r) + 256 * (q &&& s) := by
  have h1 : ((p + 256 * q) &&& (r + 256 * s)) % 2 ^ 8 = (p + 256 * q) % 2 ^ 8 &&& (r + 256 * s) % 2 ^ 8 := Nat.and_mod_two_pow
  have h2 : ((p + 256 * q) &&& (r + 256 * s)) / 2 ^ 8 = (p + 256 * q) / 2 ^ 8 &&& (r + 256 * s) / 2 ^ 8 := Nat.and_div_two_pow
  rw [show (p + 256 * q) % 2 ^ 8 = p by omega, show (r + 256 * s) % 2 ^ 8 = r by omega] at h1
  rw [show (p + 256 * q) / 2 ^ 8 = q by omega, show (r + 256 * s) / 2 ^ 8 = s by omega] at h2
  omega
def lt8 (bs : List Nat) : Prop := ∀ b ∈ bs, b < 256
theorem lt8_tail {b : Nat} {bs : List Nat} (h : lt8 (b :: bs)) : lt8 bs := fun x hx => h x (List.mem_cons_of_mem _ hx)
theorem bc1 : ∀ b, b < 256 → ∀ c, c < 2 → (b / 2 + 128 * c) &&& 85 = b / 2 &&& 85 := by decide +kernel
theorem bc2 : ∀ b, b < 256 → ∀ c, c < 4 → (b / 4 + 64 * c) &&& 51 = b / 4 &&& 51 := by decide +kernel
theorem bc1le : ∀ b, b < 256 → (b / 2 &&& 85) ≤ b := by decide +kernel
def h1_ (b : Nat) : Nat := b - (b / 2 &&& 85)
def h2_ (b : Nat) : Nat := (b &&& 51) + (b / 4 &&& 51)
def h3_ (b : Nat) : Nat := (b + b / 16) &&& 15
theorem bs1 : ∀ {bs : List Nat}, lt8 bs → eB bs / 2 &&& bmask 85 bs.length = eB (bs.map (fun b => b / 2 &&& 85))
  | [], _ => by simp [eB, bmask]
  | b :: bs, h => by
    have hb := h b List.mem_cons_self
    show (b + 256 * eB bs) / 2 &&& (85 + 256 * bmask 85 bs.length) = (b / 2 &&& 85) + 256 * eB (bs.map _)
    rw [← bs1 (lt8_tail h), show (b + 256 * eB bs) / 2 = (b / 2 + 128 * (eB bs % 2)) + 256 * (eB bs / 2) by omega, and_split (by omega) (by decide), bc1 b hb _ (by omega)]
theorem bs2a : ∀ {bs : List Nat}, lt8 bs → eB bs &&& bmask 51 bs.length = eB (bs.map (fun b => b &&& 51))
  | [], _ => by simp [eB, bmask]
  | b :: bs, h => by
    show (b + 256 * eB bs) &&& (51 + 256 * bmask 51 bs.length) = (b &&& 51) + 256 * eB (bs.map _)
    rw [← bs2a (lt8_tail h), and_split (h b List.mem_cons_self) (by decide)]
theorem bs2b : ∀ {bs : List Nat}, lt8 bs → eB bs / 4 &&& bmask 51 bs.length = eB (bs.map (fun b => b / 4 &&& 51))
  | [], _ => by simp [eB, bmask]
  | b :: bs, h => by
    have hb := h b List.mem_cons_self
    show (b + 256 * eB bs) / 4 &&& (51 + 256 * bmask 51 bs.length) = (b / 4 &&& 51) + 256 * eB (bs.map _)
    rw [← bs2b (lt8_tail h), show (b + 256 * eB bs) / 4 = (b / 4 + 64 * (eB bs % 4)) + 256 * (eB bs / 4) by omega, and_split (by omega) (by decide), bc2 b hb _ (by omega)]
theorem eB_add (f g : Nat → Nat) : ∀ bs : List Nat, eB (bs.map f) + eB (bs.map g) = eB (bs.map (fun b => f b + g b))
  | [] => rfl
  | b :: bs => by
    show f b + 256 * eB (bs.map f) + (g b + 256 * eB (bs.map g)) = f b + g b + 256 * eB (bs.map _)
    rw [← eB_add f g bs]; omega
theorem eB_congr {f g : Nat → Nat} : ∀ {bs : List Nat}, (∀ b ∈ bs, f b = g b) → eB (bs.map f) = eB (bs.map g)
  | [], _ => rfl
  | b :: bs, h => by
    show f b + 256 * eB (bs.map f) = g b + 256 * eB (bs.map g)
    rw [h b List.mem_cons_self, eB_congr (fun x hx => h x (List.mem_cons_of_mem _ hx))]
theorem bc3 : ∀ d, d < 256 → d % 16 ≤ 4 → d / 16 ≤ 4 → ∀ c, c < 5 → (d + d / 16 + 16 * c) &&& 15 = (d + d / 16) &&& 15 := by decide +kernel
def nib (ds : List Nat) : Prop := ∀ d ∈ ds, d < 256 ∧ d % 16 ≤ 4 ∧ d / 16 ≤ 4
theorem nib_low : ∀ {ds : List Nat}, nib ds → eB ds % 16 ≤ 4
  | [], _ => by simp [eB]
  | d :: ds, h => by
    have := h d List.mem_cons_self
    show (d + 256 * eB ds) % 16 ≤ 4
    omega
theorem bs3 : ∀ {ds : List Nat}, nib ds → (eB ds + eB ds / 16) &&& bmask 15 ds.length = eB (ds.map h3_)
  | [], _ => by simp [eB, bmask]
  | d :: ds, h => by
    have hd := h d List.mem_cons_self
    have ht : nib ds := fun x hx => h x (List.mem_cons_of_mem _ hx)
    have hl := nib_low ht
    show (d + 256 * eB ds + (d + 256 * eB ds) / 16) &&& (15 + 256 * bmask 15 ds.length) = h3_ d + 256 * eB (ds.map h3_)
    rw [← bs3 ht, show d + 256 * eB ds + (d + 256 * eB ds) / 16 = (d + d / 16 + 16 * (eB ds % 16)) + 256 * (eB ds + eB ds / 16) by omega, and_split (by omega) (by decide), bc3 d hd.1 hd.2.1 hd.2.2 _ (by omega)]
    rfl
def pc8 (b : Nat) : Nat := ((List.range 8).filter (fun i => b.testBit i)).length
theorem bc4 : ∀ b, b < 256 → (h1_ b < 256 ∧ h2_ (h1_ b) < 256 ∧ h2_ (h1_ b) % 16 ≤ 4 ∧ h2_ (h1_ b) / 16 ≤ 4) ∧ h3_ (h2_ (h1_ b)) = pc8 b ∧ pc8 b ≤ 8 := by decide +kernel
def bitsOf (x : Nat) : List Nat := (List.range 64).filter (fun i => x.testBit i)
def pcs : List Nat → Nat
  | [] => 0
  | b :: bs => pc8 b + pcs bs
theorem bits_len : ∀ {bs : List Nat}, lt8 bs → ((List.range (8 * bs.length)).filter (fun i => (eB bs).testBit i)).length = pcs bs
  | [], _ => rfl
  | b :: bs, h => by
    have hb := h b List.mem_cons_self
    have e : 8 * (b :: bs).length = 8 + 8 * bs.length := by rw [List.length_cons]; omega
    rw [e, List.range_add, List.filter_append, List.length_append, List.filter_map, List.length_map]
    show _ + _ = pc8 b + pcs bs
    rw [← bits_len (lt8_tail h)]
    have hE : eB (b :: bs) = 2 ^ 8 * eB bs + b := by show b + 256 * eB bs = _; omega
    congr 1
    · unfold pc8
      congr 1
      apply List.filter_congr
      intro i hi
      rw [hE, Nat.testBit_two_pow_mul_add _ (by omega : b < 2 ^ 8), if_pos (List.mem_range.mp hi)]
    · congr 1
      apply List.filter_congr
      intro i hi
      show (eB (b :: bs)).testBit (8 + i) = _
      rw [hE, Nat.testBit_two_pow_mul_add _ (by omega : b < 2 ^ 8), if_neg (by omega)]
      congr 1; omega
theorem eB_lt : ∀ {bs : List Nat}, lt8 bs → eB bs < 256 ^ bs.length
  | [], _ => by decide
  | b :: bs, h => by
    have h1 := eB_lt (lt8_tail h)
    have h2 := h b List.mem_cons_self
    show b + 256 * eB bs < 256 ^ (bs.length + 1)
    rw [Nat.pow_succ]; omega
theorem bytes_of {x : Nat} (h : x < 2 ^ 64) : ∃ b0 b1 b2 b3 b4 b5 b6 b7, lt8 [b0, b1, b2, b3, b4, b5, b6, b7] ∧ x = eB [b0, b1, b2, b3, b4, b5, b6, b7] := by
  refine ⟨x % 256, x / 256 % 256, x / 65536 % 256, x / 16777216 % 256, x / 4294967296 % 256, x / 1099511627776 % 256, x / 281474976710656 % 256, x / 72057594037927936 % 256, ?_, ?_⟩
  · intro b hb
    simp only [List.mem_cons, List.not_mem_nil, or_false] at hb
    omega
  · simp only [eB]; omega
set_option maxHeartbeats 16000000 in
theorem bitCount_eq {x : Nat} (hx : x < 2 ^ 64) : f_J13_bitCount_95d88 (lN x) = some (nI (bitsOf x).length) := by
  obtain ⟨b0, b1, b2, b3, b4, b5, b6, b7, hb, rfl⟩ := bytes_of hx
  generalize hbs : [b0, b1, b2, b3, b4, b5, b6, b7] = bs at hb hx ⊢
  have hlen : bs.length = 8 := by rw [← hbs]; rfl
  unfold f_J13_bitCount_95d88
  simp only [nmv_d]
  rw [l_lit 6148914691236517205, l_lit 3689348814741910323, l_lit 1085102592571150095, n_lit 1, n_lit 2, n_lit 4, n_lit 8, n_lit 16, n_lit 32]
  have m85 : (6148914691236517205 : Nat) = bmask 85 bs.length := by rw [hlen]; decide +kernel
  have m51 : (3689348814741910323 : Nat) = bmask 51 bs.length := by rw [hlen]; decide +kernel
  have m15 : (1085102592571150095 : Nat) = bmask 15 bs.length := by rw [hlen]; decide +kernel
  have e1 : lN (eB bs) - ((UInt64.toInt64 (Int64.toUInt64 (lN (eB bs)) >>> (Int64.toUInt64 (Int32.toInt64 (nI 1)) &&& Int64.toUInt64 63))) &&& lN 6148914691236517205) = lN (eB (bs.map h1_)) := by
    rw [wb_shr hx (by decide), wb_and (Nat.lt_of_le_of_lt (Nat.div_le_self _ _) hx) (by decide), m85, show (2 : Nat) ^ 1 = 2 from rfl, bs1 hb]
    have h2 : eB (bs.map h1_) + eB (bs.map (fun b => b / 2 &&& 85)) = eB bs := by
      rw [eB_add]
      have h3 : eB (bs.map (fun b => h1_ b + (b / 2 &&& 85))) = eB (bs.map (fun b => b)) := eB_congr (fun b hm => by
        have h4 := bc1le b (hb b hm)
        unfold h1_; omega)
      rw [h3]; simp
    rw [lN_sub (by omega)]
    congr 1; omega
  rw [e1]
  have hc : lt8 (bs.map h1_) := fun c hc => by
    obtain ⟨b, hm, rfl⟩ := List.mem_map.mp hc
    exact (bc4 b (hb b hm)).1.1
  have hclen : (bs.map h1_).length = bs.length := List.length_map ..
  have hcx : eB (bs.map h1_) < 2 ^ 64 := by
    have := eB_lt hc
    rw [hclen, hlen] at this; exact this
  have e2 : (lN (eB (bs.map h1_)) &&& lN 3689348814741910323) + ((UInt64.toInt64 (Int64.toUInt64 (lN (eB (bs.map h1_))) >>> (Int64.toUInt64 (Int32.toInt64 (nI 2)) &&& Int64.toUInt64 63))) &&& lN 3689348814741910323) = lN (eB ((bs.map h1_).map h2_)) := by
    rw [wb_shr hcx (by decide), wb_and (Nat.lt_of_le_of_lt (Nat.div_le_self _ _) hcx) (by decide), wb_and hcx (by decide), m51, ← hclen, show (2 : Nat) ^ 2 = 4 from rfl, bs2a hc, bs2b hc, lN_add, eB_add]
    rfl
  rw [e2]
  have hd : nib ((bs.map h1_).map h2_) := fun d hd => by
    obtain ⟨c, hm, rfl⟩ := List.mem_map.mp hd
    obtain ⟨b, hm2, rfl⟩ := List.mem_map.mp hm
    exact (bc4 b (hb b hm2)).1.2
  have hdlen : ((bs.map h1_).map h2_).length = bs.length := by simp
  have hdx : eB ((bs.map h1_).map h2_) < 256 ^ 8 := by
    have := eB_lt (bs := (bs.map h1_).map h2_) (fun d h => (hd d h).1)
    rw [hdlen, hlen] at this; exact this
  have hdx2 : eB ((bs.map h1_).map h2_) + eB ((bs.map h1_).map h2_) / 16 < 2 ^ 64 := by
    have h7 : eB ((bs.map h1_).map h2_) / 72057594037927936 ≤ 68 := by
      rw [← hbs]
      rw [← hbs] at hd
      simp only [List.map, eB]
      have z0 := hd _ (List.mem_of_getElem? (i := 0) rfl)
      have z1 := hd _ (List.mem_of_getElem? (i := 1) rfl)
      have z2 := hd _ (List.mem_of_getElem? (i := 2) rfl)
      have z3 := hd _ (List.mem_of_getElem? (i := 3) rfl)
      have z4 := hd _ (List.mem_of_getElem? (i := 4) rfl)
      have z5 := hd _ (List.mem_of_getElem? (i := 5) rfl)
      have z6 := hd _ (List.mem_of_getElem? (i := 6) rfl)
      have z7 := hd _ (List.mem_of_getElem? (i := 7) rfl)
      omega
    omega
  have e3 : (lN (eB ((bs.map h1_).map h2_)) + (UInt64.toInt64 (Int64.toUInt64 (lN (eB ((bs.map h1_).map h2_))) >>> (Int64.toUInt64 (Int32.toInt64 (nI 4)) &&& Int64.toUInt64 63)))) &&& lN 1085102592571150095 = lN (eB (bs.map pc8)) := by
    rw [wb_shr (Nat.lt_of_lt_of_eq hdx (by decide)) (by decide), lN_add, show (2 : Nat) ^ 4 = 16 from rfl, wb_and hdx2 (by decide), m15, ← hdlen, bs3 hd, List.map_map, List.map_map]
    congr 1
    exact eB_congr (fun b hm => (bc4 b (hb b hm)).2.1)
  rw [e3]
  have hp : ∀ b ∈ bs, pc8 b ≤ 8 := fun b hm => (bc4 b (hb b hm)).2.2
  have hbl : (bitsOf (eB bs)).length = pcs bs := by
    have := bits_len hb
    rw [hlen] at this
    exact this
  rw [hbl]
  rw [← hbs]
  rw [← hbs] at hp
  have q0 := hp _ (List.mem_of_getElem? (i := 0) rfl)
  have q1 := hp _ (List.mem_of_getElem? (i := 1) rfl)
  have q2 := hp _ (List.mem_of_getElem? (i := 2) rfl)
  have q3 := hp _ (List.mem_of_getElem? (i := 3) rfl)
  have q4 := hp _ (List.mem_of_getElem? (i := 4) rfl)
  have q5 := hp _ (List.mem_of_getElem? (i := 5) rfl)
  have q6 := hp _ (List.mem_of_getElem? (i := 6) rfl)
  have q7 := hp _ (List.mem_of_getElem? (i := 7) rfl)
  simp only [List.map, eB, pcs]
  generalize pc8 b0 = p0 at *
  generalize pc8 b1 = p1 at *
  generalize pc8 b2 = p2 at *
  generalize pc8 b3 = p3 at *
  generalize pc8 b4 = p4 at *
  generalize pc8 b5 = p5 at *
  generalize pc8 b6 = p6 at *
  generalize pc8 b7 = p7 at *
  clear hp hbl e1 e2 e3 hd hdx hdx2 hc hcx hb hx hbs
  generalize hX : p0 + 256 * (p1 + 256 * (p2 + 256 * (p3 + 256 * (p4 + 256 * (p5 + 256 * (p6 + 256 * (p7 + 256 * 0))))))) = X
  have f8 : UInt64.toInt64 (Int64.toUInt64 (lN X) >>> (Int64.toUInt64 (Int32.toInt64 (nI 8)) &&& Int64.toUInt64 63)) = lN (X / 256) := wb_shr (by omega) (by decide)
  have g8 : X / 256 = p1 + 256 * (p2 + 256 * (p3 + 256 * (p4 + 256 * (p5 + 256 * (p6 + 256 * p7))))) := by omega
  rw [f8, lN_add, g8]
  have hX1 : X + (p1 + 256 * (p2 + 256 * (p3 + 256 * (p4 + 256 * (p5 + 256 * (p6 + 256 * p7)))))) = (p0 + p1) + 256 * ((p1 + p2) + 256 * ((p2 + p3) + 256 * ((p3 + p4) + 256 * ((p4 + p5) + 256 * ((p5 + p6) + 256 * ((p6 + p7) + 256 * p7)))))) := by omega
  rw [hX1]
  clear hX1 g8 f8 hX
  generalize hs0 : p0 + p1 = s0
  generalize hs1 : p1 + p2 = s1
  generalize hs2 : p2 + p3 = s2
  generalize hs3 : p3 + p4 = s3
  generalize hs4 : p4 + p5 = s4
  generalize hs5 : p5 + p6 = s5
  generalize hs6 : p6 + p7 = s6
  have hT : p0 + (p1 + (p2 + (p3 + (p4 + (p5 + s6))))) = s0 + s2 + s4 + s6 := by omega
  rw [hT]
  have i0 : s0 ≤ 16 := by omega
  have i1 : s1 ≤ 16 := by omega
  have i2 : s2 ≤ 16 := by omega
  have i3 : s3 ≤ 16 := by omega
  have i4 : s4 ≤ 16 := by omega
  have i5 : s5 ≤ 16 := by omega
  have i6 : s6 ≤ 16 := by omega
  clear hT hs0 hs1 hs2 hs3 hs4 hs5 hs6 q0 q1 q2 q3 q4 q5 q6
  generalize hX1 : s0 + 256 * (s1 + 256 * (s2 + 256 * (s3 + 256 * (s4 + 256 * (s5 + 256 * (s6 + 256 * p7)))))) = X1
  have f16 : UInt64.toInt64 (Int64.toUInt64 (lN X1) >>> (Int64.toUInt64 (Int32.toInt64 (nI 16)) &&& Int64.toUInt64 63)) = lN (X1 / 65536) := wb_shr (by omega) (by decide)
  have g16 : X1 / 65536 = s2 + 256 * (s3 + 256 * (s4 + 256 * (s5 + 256 * (s6 + 256 * p7)))) := by omega
  rw [f16, lN_add, g16]
  have hX2 : X1 + (s2 + 256 * (s3 + 256 * (s4 + 256 * (s5 + 256 * (s6 + 256 * p7))))) = (s0 + s2) + 256 * ((s1 + s3) + 256 * ((s2 + s4) + 256 * ((s3 + s5) + 256 * ((s4 + s6) + 256 * ((s5 + p7) + 256 * (s6 + 256 * p7)))))) := by omega
  rw [hX2]
  clear hX2 g16 f16 hX1
  generalize ht0 : s0 + s2 = t0
  generalize ht1 : s1 + s3 = t1
  generalize ht2 : s2 + s4 = t2
  generalize ht3 : s3 + s5 = t3
  generalize ht4 : s4 + s6 = t4
  generalize ht5 : s5 + p7 = t5
  have hT : t0 + s4 + s6 = t0 + t4 := by omega
  rw [hT]
  have k0 : t0 ≤ 32 := by omega
  have k1 : t1 ≤ 32 := by omega
  have k2 : t2 ≤ 32 := by omega
  have k3 : t3 ≤ 32 := by omega
  have k4 : t4 ≤ 32 := by omega
  have k5 : t5 ≤ 32 := by omega
  clear hT ht0 ht1 ht2 ht3 ht4 ht5 i0 i1 i2 i3 i4 i5
  generalize hX2 : t0 + 256 * (t1 + 256 * (t2 + 256 * (t3 + 256 * (t4 + 256 * (t5 + 256 * (s6 + 256 * p7)))))) = X2
  have f32 : UInt64.toInt64 (Int64.toUInt64 (lN X2) >>> (Int64.toUInt64 (Int32.toInt64 (nI 32)) &&& Int64.toUInt64 63)) = lN (X2 / 4294967296) := wb_shr (by omega) (by decide)
  have g32 : X2 / 4294967296 = t4 + 256 * (t5 + 256 * (s6 + 256 * p7)) := by omega
  rw [f32, lN_add, lN_i, g32]
  have hX3 : X2 + (t4 + 256 * (t5 + 256 * (s6 + 256 * p7))) = (t0 + t4) + 256 * ((t1 + t5) + 256 * ((t2 + s6) + 256 * ((t3 + p7) + 256 * (t4 + 256 * (t5 + 256 * (s6 + 256 * p7)))))) := by omega
  rw [hX3]
  generalize (t1 + t5) + 256 * ((t2 + s6) + 256 * ((t3 + p7) + 256 * (t4 + 256 * (t5 + 256 * (s6 + 256 * p7))))) = U
  have e9 : nI (t0 + t4 + 256 * U) = nI ((t0 + t4 + 256 * U) % 2 ^ 32) := by
    apply Int32.toBitVec_inj.1
    show BitVec.ofNat 32 _ = BitVec.ofNat 32 _
    apply BitVec.eq_of_toNat_eq
    simp
  rw [e9, pk_andN (Nat.mod_lt _ (by decide)) 7 (by decide +kernel)]
  congr 2
  omega
