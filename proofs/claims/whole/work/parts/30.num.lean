/-! ===== lN n to 2^64: shifts, and, or, masks, one bit ===== -/
theorem wb_tb (n : Nat) : (lN n).toBitVec = BitVec.ofNat 64 n := rfl
theorem wb_inj {a b : Int64} (h : a.toBitVec = b.toBitVec) : a = b := Int64.toBitVec_inj.mp h
theorem wb_tn {n : Nat} (h : n < 2 ^ 64) : (lN n).toBitVec.toNat = n := by rw [wb_tb, BitVec.toNat_ofNat, Nat.mod_eq_of_lt h]
theorem wb_of (x : Int64) : ∃ n, n < 2 ^ 64 ∧ x = lN n := ⟨x.toBitVec.toNat, x.toBitVec.isLt, wb_inj (by rw [wb_tb]; simp)⟩
theorem wb_of32 (x : Int32) : ∃ n, n < 2 ^ 32 ∧ x = nI n := ⟨x.toBitVec.toNat, x.toBitVec.isLt, Int32.toBitVec_inj.mp (by show _ = BitVec.ofNat 32 _; simp)⟩
theorem wb_c : ∀ k, k < 64 → ((nI k).toInt64 &&& 63) = lN k := by decide +kernel
theorem wb_cu : ∀ k, k < 64 → ((nI k).toInt64.toUInt64 &&& Int64.toUInt64 63) = UInt64.ofNat k := by decide +kernel
theorem wb_sm : ∀ k, k < 64 → (BitVec.ofNat 64 k).smod 64 = BitVec.ofNat 64 k := by decide +kernel
theorem wb_pw {a b : Nat} (h : a ≤ b) : 2 ^ b = 2 ^ a * 2 ^ (b - a) := by rw [← Nat.pow_add]; congr 1; omega
theorem wb_lt2 {a b : Nat} (h : a < b) : 2 ^ a < 2 ^ b := Nat.pow_lt_pow_right (by decide) h
theorem wb_mod (n : Nat) : lN n = lN (n % 2 ^ 64) := wb_inj (by rw [wb_tb, wb_tb]; apply BitVec.eq_of_toNat_eq; rw [BitVec.toNat_ofNat, BitVec.toNat_ofNat, Nat.mod_mod])
theorem wb_shr {n k : Nat} (hn : n < 2 ^ 64) (hk : k < 64) : ((lN n).toUInt64 >>> ((nI k).toInt64.toUInt64 &&& Int64.toUInt64 63)).toInt64 = lN (n / 2 ^ k) := by
  rw [wb_cu k hk]
  apply wb_inj
  apply BitVec.eq_of_toNat_eq
  show ((lN n).toUInt64 >>> UInt64.ofNat k).toNat = (BitVec.ofNat 64 _).toNat
  have h1 : (UInt64.ofNat k).toNat = k := by
    show (BitVec.ofNat 64 k).toNat = k
    rw [BitVec.toNat_ofNat, Nat.mod_eq_of_lt (by omega)]
  have h2 : (lN n).toUInt64.toNat = n := wb_tn hn
  rw [UInt64.toNat_shiftRight, h1, h2, Nat.mod_eq_of_lt hk, Nat.shiftRight_eq_div_pow, BitVec.toNat_ofNat, Nat.mod_eq_of_lt (Nat.lt_of_le_of_lt (Nat.div_le_self _ _) hn)]
theorem wb_shl (n : Nat) {k : Nat} (hk : k < 64) : lN n <<< ((nI k).toInt64 &&& 63) = lN (n * 2 ^ k) := by
  rw [wb_c k hk]
  apply wb_inj
  rw [Int64.toBitVec_shiftLeft, wb_tb, wb_tb, wb_tb, wb_sm k hk]
  apply BitVec.eq_of_toNat_eq
  rw [BitVec.shiftLeft_eq', BitVec.toNat_shiftLeft, BitVec.toNat_ofNat, BitVec.toNat_ofNat, BitVec.toNat_ofNat, Nat.mod_eq_of_lt (show k < 2 ^ 64 by omega), Nat.shiftLeft_eq, Nat.mul_mod, Nat.mod_mod, ← Nat.mul_mod]
theorem wb_and {a b : Nat} (ha : a < 2 ^ 64) (hb : b < 2 ^ 64) : lN a &&& lN b = lN (a &&& b) := by
  apply wb_inj
  rw [Int64.toBitVec_and, wb_tb, wb_tb, wb_tb]
  apply BitVec.eq_of_toNat_eq
  rw [BitVec.toNat_and, BitVec.toNat_ofNat, BitVec.toNat_ofNat, BitVec.toNat_ofNat, Nat.mod_eq_of_lt ha, Nat.mod_eq_of_lt hb, Nat.mod_eq_of_lt (Nat.and_lt_two_pow _ hb)]
theorem wb_or {a b : Nat} (ha : a < 2 ^ 64) (hb : b < 2 ^ 64) : lN a ||| lN b = lN (a ||| b) := by
  apply wb_inj
  rw [Int64.toBitVec_or, wb_tb, wb_tb, wb_tb]
  apply BitVec.eq_of_toNat_eq
  rw [BitVec.toNat_or, BitVec.toNat_ofNat, BitVec.toNat_ofNat, BitVec.toNat_ofNat, Nat.mod_eq_of_lt ha, Nat.mod_eq_of_lt hb, Nat.mod_eq_of_lt (Nat.or_lt_two_pow ha hb)]
theorem wb_mask {n k : Nat} (hn : n < 2 ^ 64) (hk : k < 64) : lN n &&& lN (2 ^ k - 1) = lN (n % 2 ^ k) := by
  rw [wb_and hn (by have := wb_lt2 hk; omega), Nat.and_two_pow_sub_one_eq_mod]
theorem wb_a1 {n : Nat} (hn : n < 2 ^ 64) : lN n &&& 1 = lN (n % 2) := wb_mask (k := 1) hn (by decide)
theorem wb_bit {n k : Nat} (hn : n < 2 ^ 64) (hk : k < 64) : ((lN n).toUInt64 >>> ((nI k).toInt64.toUInt64 &&& Int64.toUInt64 63)).toInt64 &&& 1 = lN (n / 2 ^ k % 2) := by
  rw [wb_shr hn hk, wb_a1 (Nat.lt_of_le_of_lt (Nat.div_le_self _ _) hn)]
theorem wb_xor {q k : Nat} (hk : k < 63) (h : 2 ^ k ≤ q) (h2 : q < 2 ^ (k + 1)) : lN q ^^^ lN (2 ^ k) = lN (q - 2 ^ k) := by
  obtain ⟨r, rfl⟩ : ∃ r, q = 2 ^ k + r := ⟨q - 2 ^ k, by omega⟩
  have hr : r < 2 ^ k := by rw [Nat.pow_succ] at h2; omega
  have hx : (2 ^ k + r) ^^^ 2 ^ k = r := by
    apply Nat.eq_of_testBit_eq
    intro i
    rw [Nat.testBit_xor, Nat.testBit_two_pow]
    rcases Nat.lt_trichotomy i k with h | h | h
    · rw [Nat.testBit_two_pow_add_gt h]
      simp [show ¬ k = i by omega]
    · subst h
      rw [Nat.testBit_two_pow_add_eq]
      simp
    · have a1 : 2 ^ (k + 1) ≤ 2 ^ i := Nat.pow_le_pow_right (by decide) h
      rw [Nat.testBit_lt_two_pow (show 2 ^ k + r < 2 ^ i by omega), Nat.testBit_lt_two_pow (show r < 2 ^ i by omega)]
      simp [show ¬ k = i by omega]
  have b1 := wb_lt2 (show k + 1 < 64 by omega)
  have b2 := wb_lt2 (show k < 64 by omega)
  apply wb_inj
  rw [Int64.toBitVec_xor, wb_tb, wb_tb, wb_tb]
  apply BitVec.eq_of_toNat_eq
  rw [BitVec.toNat_xor, BitVec.toNat_ofNat, BitVec.toNat_ofNat, BitVec.toNat_ofNat, Nat.mod_eq_of_lt (by omega : 2 ^ k + r < 2 ^ 64), Nat.mod_eq_of_lt b2, hx, Nat.add_sub_cancel_left, Nat.mod_eq_of_lt (by omega)]
theorem nx_and (a b : Nat) : nI a &&& nI b = nI (a &&& b) := by
  apply Int32.toBitVec_inj.1
  show BitVec.ofNat 32 a &&& BitVec.ofNat 32 b = BitVec.ofNat 32 (a &&& b)
  apply BitVec.eq_of_getLsbD_eq
  intro i hi
  simp [hi]
theorem nx_xor (a b : Nat) : nI a ^^^ nI b = nI (a ^^^ b) := by
  apply Int32.toBitVec_inj.1
  show BitVec.ofNat 32 a ^^^ BitVec.ofNat 32 b = BitVec.ofNat 32 (a ^^^ b)
  apply BitVec.eq_of_getLsbD_eq
  intro i hi
  simp [hi]
theorem nx_or (a b : Nat) : nI a ||| nI b = nI (a ||| b) := by
  apply Int32.toBitVec_inj.1
  show BitVec.ofNat 32 a ||| BitVec.ofNat 32 b = BitVec.ofNat 32 (a ||| b)
  apply BitVec.eq_of_getLsbD_eq
  intro i hi
  simp [hi]
theorem fuel_gt {n : Nat} (h : n < 1000000) : n < fuel := h
theorem n_lit (n : Nat) : (OfNat.ofNat n : Int32) = nI n := rfl
theorem l_lit (n : Nat) : (OfNat.ofNat n : Int64) = lN n := rfl
theorem ald_in {α β : Type} {n k : Nat} {f : Nat → α} {K : α → Option β} (h : k < n) (hn : n < 2 ^ 31) : ald n f (nI k) K = K (f k) := by
  unfold ald
  rw [if_neg (nI_in h hn), nI_clamp (by omega)]
theorem astI_in {β : Type} {n k : Nat} {f : Nat → Int32} {x : Int32} {K : (Nat → Int32) → Option β} (h : k < n) (hn : n < 2 ^ 31) : astI n f (nI k) x K = K (upd f k x) := by
  unfold astI
  rw [if_neg (nI_in h hn), nI_clamp (by omega)]
theorem astB_in {β : Type} {n k : Nat} {f : Nat → Int32} {x : Int32} {K : (Nat → Int32) → Option β} (h : k < n) (hn : n < 2 ^ 31) : astB n f (nI k) x K = K (upd f k (vp_nar .byte x)) := by
  unfold astB
  rw [if_neg (nI_in h hn), nI_clamp (by omega)]
theorem astL_in {β : Type} {n k : Nat} {f : Nat → Int64} {x : Int64} {K : (Nat → Int64) → Option β} (h : k < n) (hn : n < 2 ^ 31) : astL n f (nI k) x K = K (vp_updL f k x) := by
  unfold astL
  rw [if_neg (nI_in h hn), nI_clamp (by omega)]
theorem nI_m1 {p : Nat} (h : p < 2 ^ 31) : ¬ nI p = -1 := fun e => by
  have h2 := congrArg Int32.toInt e
  rw [nI_toInt h] at h2
  have h3 : (-1 : Int32).toInt = -1 := by decide +kernel
  rw [h3] at h2
  omega
theorem nI_lt0 {p : Nat} (h : p < 2 ^ 31) : (nI p < 0) = False := eq_false (nI_pos h)
theorem nI_eq0 {p : Nat} (h : p < 2 ^ 31) : nI p = 0 ↔ p = 0 := by rw [← nI_0]; exact nI_eq h (by decide)
theorem m1_lt0 : ((-1 : Int32) < 0) = True := by simp
theorem jn0_d {β : Type} (K : Option β) (B : Option β → Option β) : jn0 K B = B K := rfl
theorem nmv_d {α β : Type} (x : α) (k : α → Option β) : nmv x k = k x := rfl
theorem gz_in {β : Type} {x : Int32} {k : Unit → Option β} (h : x = 0 ∨ x = 1) : gz x k = k () := by unfold gz; rw [if_pos h]
theorem idiv_in {β : Type} {x y : Int32} {k : Int32 → Option β} (h : ¬ y = 0) : idivK x y k = k (x / y) := by unfold idivK; rw [if_neg h]
theorem irem_in {β : Type} {x y : Int32} {k : Int32 → Option β} (h : ¬ y = 0) : iremK x y k = k (x - x / y * y) := by unfold iremK; rw [if_neg h]
theorem ldiv_in {β : Type} {x y : Int64} {k : Int64 → Option β} (h : ¬ y = 0) : ldivK x y k = k (x / y) := by unfold ldivK; rw [if_neg h]
theorem lrem_in {β : Type} {x y : Int64} {k : Int64 → Option β} (h : ¬ y = 0) : lremK x y k = k (x - x / y * y) := by unfold lremK; rw [if_neg h]
theorem lp1_0_inv {β A1 : Type} {body : A1 → (A1 → Option β) → (Option β) → Option β} {k : Option β} (I : A1 → Prop) (μ : A1 → Nat) (R : Option β → Prop)
    (h : ∀ x1 (nx : A1 → Option β), I x1 → (∀ z1, I z1 → μ z1 < μ x1 → R (nx z1)) → R (body x1 nx k)) : ∀ (n : Nat) x1, I x1 → μ x1 < n → R (lp1_0 body k n x1) := by
  intro n
  induction n with
  | zero => intro x1 _ h0; exact absurd h0 (Nat.not_lt_zero _)
  | succ n ih => intro x1 hI hm; exact h x1 _ hI (fun z1 hz hlt => ih z1 hz (by omega))
theorem lp1_1_inv {β A1 B1 : Type} {body : A1 → (A1 → Option β) → (B1 → Option β) → Option β} {k : B1 → Option β} (I : A1 → Prop) (μ : A1 → Nat) (R : Option β → Prop)
    (h : ∀ x1 (nx : A1 → Option β), I x1 → (∀ z1, I z1 → μ z1 < μ x1 → R (nx z1)) → R (body x1 nx k)) : ∀ (n : Nat) x1, I x1 → μ x1 < n → R (lp1_1 body k n x1) := by
  intro n
  induction n with
  | zero => intro x1 _ h0; exact absurd h0 (Nat.not_lt_zero _)
  | succ n ih => intro x1 hI hm; exact h x1 _ hI (fun z1 hz hlt => ih z1 hz (by omega))
theorem lp2_0_inv {β A1 A2 : Type} {body : A1 → A2 → (A1 → A2 → Option β) → (Option β) → Option β} {k : Option β} (I : A1 → A2 → Prop) (μ : A1 → A2 → Nat) (R : Option β → Prop)
    (h : ∀ x1 x2 (nx : A1 → A2 → Option β), I x1 x2 → (∀ z1 z2, I z1 z2 → μ z1 z2 < μ x1 x2 → R (nx z1 z2)) → R (body x1 x2 nx k)) : ∀ (n : Nat) x1 x2, I x1 x2 → μ x1 x2 < n → R (lp2_0 body k n x1 x2) := by
  intro n
  induction n with
  | zero => intro x1 x2 _ h0; exact absurd h0 (Nat.not_lt_zero _)
  | succ n ih => intro x1 x2 hI hm; exact h x1 x2 _ hI (fun z1 z2 hz hlt => ih z1 z2 hz (by omega))
theorem lp2_1_inv {β A1 A2 B1 : Type} {body : A1 → A2 → (A1 → A2 → Option β) → (B1 → Option β) → Option β} {k : B1 → Option β} (I : A1 → A2 → Prop) (μ : A1 → A2 → Nat) (R : Option β → Prop)
    (h : ∀ x1 x2 (nx : A1 → A2 → Option β), I x1 x2 → (∀ z1 z2, I z1 z2 → μ z1 z2 < μ x1 x2 → R (nx z1 z2)) → R (body x1 x2 nx k)) : ∀ (n : Nat) x1 x2, I x1 x2 → μ x1 x2 < n → R (lp2_1 body k n x1 x2) := by
  intro n
  induction n with
  | zero => intro x1 x2 _ h0; exact absurd h0 (Nat.not_lt_zero _)
  | succ n ih => intro x1 x2 hI hm; exact h x1 x2 _ hI (fun z1 z2 hz hlt => ih z1 z2 hz (by omega))
theorem lp3_1_inv {β A1 A2 A3 B1 : Type} {body : A1 → A2 → A3 → (A1 → A2 → A3 → Option β) → (B1 → Option β) → Option β} {k : B1 → Option β} (I : A1 → A2 → A3 → Prop) (μ : A1 → A2 → A3 → Nat) (R : Option β → Prop)
    (h : ∀ x1 x2 x3 (nx : A1 → A2 → A3 → Option β), I x1 x2 x3 → (∀ z1 z2 z3, I z1 z2 z3 → μ z1 z2 z3 < μ x1 x2 x3 → R (nx z1 z2 z3)) → R (body x1 x2 x3 nx k)) : ∀ (n : Nat) x1 x2 x3, I x1 x2 x3 → μ x1 x2 x3 < n → R (lp3_1 body k n x1 x2 x3) := by
  intro n
  induction n with
  | zero => intro x1 x2 x3 _ h0; exact absurd h0 (Nat.not_lt_zero _)
  | succ n ih => intro x1 x2 x3 hI hm; exact h x1 x2 x3 _ hI (fun z1 z2 z3 hz hlt => ih z1 z2 z3 hz (by omega))
theorem lp3_2_inv {β A1 A2 A3 B1 B2 : Type} {body : A1 → A2 → A3 → (A1 → A2 → A3 → Option β) → (B1 → B2 → Option β) → Option β} {k : B1 → B2 → Option β} (I : A1 → A2 → A3 → Prop) (μ : A1 → A2 → A3 → Nat) (R : Option β → Prop)
    (h : ∀ x1 x2 x3 (nx : A1 → A2 → A3 → Option β), I x1 x2 x3 → (∀ z1 z2 z3, I z1 z2 z3 → μ z1 z2 z3 < μ x1 x2 x3 → R (nx z1 z2 z3)) → R (body x1 x2 x3 nx k)) : ∀ (n : Nat) x1 x2 x3, I x1 x2 x3 → μ x1 x2 x3 < n → R (lp3_2 body k n x1 x2 x3) := by
  intro n
  induction n with
  | zero => intro x1 x2 x3 _ h0; exact absurd h0 (Nat.not_lt_zero _)
  | succ n ih => intro x1 x2 x3 hI hm; exact h x1 x2 x3 _ hI (fun z1 z2 z3 hz hlt => ih z1 z2 z3 hz (by omega))
theorem lp4_3_inv {β A1 A2 A3 A4 B1 B2 B3 : Type} {body : A1 → A2 → A3 → A4 → (A1 → A2 → A3 → A4 → Option β) → (B1 → B2 → B3 → Option β) → Option β} {k : B1 → B2 → B3 → Option β} (I : A1 → A2 → A3 → A4 → Prop) (μ : A1 → A2 → A3 → A4 → Nat) (R : Option β → Prop)
    (h : ∀ x1 x2 x3 x4 (nx : A1 → A2 → A3 → A4 → Option β), I x1 x2 x3 x4 → (∀ z1 z2 z3 z4, I z1 z2 z3 z4 → μ z1 z2 z3 z4 < μ x1 x2 x3 x4 → R (nx z1 z2 z3 z4)) → R (body x1 x2 x3 x4 nx k)) : ∀ (n : Nat) x1 x2 x3 x4, I x1 x2 x3 x4 → μ x1 x2 x3 x4 < n → R (lp4_3 body k n x1 x2 x3 x4) := by
  intro n
  induction n with
  | zero => intro x1 x2 x3 x4 _ h0; exact absurd h0 (Nat.not_lt_zero _)
  | succ n ih => intro x1 x2 x3 x4 hI hm; exact h x1 x2 x3 x4 _ hI (fun z1 z2 z3 z4 hz hlt => ih z1 z2 z3 z4 hz (by omega))
theorem lp5_4_inv {β A1 A2 A3 A4 A5 B1 B2 B3 B4 : Type} {body : A1 → A2 → A3 → A4 → A5 → (A1 → A2 → A3 → A4 → A5 → Option β) → (B1 → B2 → B3 → B4 → Option β) → Option β} {k : B1 → B2 → B3 → B4 → Option β} (I : A1 → A2 → A3 → A4 → A5 → Prop) (μ : A1 → A2 → A3 → A4 → A5 → Nat) (R : Option β → Prop)
    (h : ∀ x1 x2 x3 x4 x5 (nx : A1 → A2 → A3 → A4 → A5 → Option β), I x1 x2 x3 x4 x5 → (∀ z1 z2 z3 z4 z5, I z1 z2 z3 z4 z5 → μ z1 z2 z3 z4 z5 < μ x1 x2 x3 x4 x5 → R (nx z1 z2 z3 z4 z5)) → R (body x1 x2 x3 x4 x5 nx k)) : ∀ (n : Nat) x1 x2 x3 x4 x5, I x1 x2 x3 x4 x5 → μ x1 x2 x3 x4 x5 < n → R (lp5_4 body k n x1 x2 x3 x4 x5) := by
  intro n
  induction n with
  | zero => intro x1 x2 x3 x4 x5 _ h0; exact absurd h0 (Nat.not_lt_zero _)
  | succ n ih => intro x1 x2 x3 x4 x5 hI hm; exact h x1 x2 x3 x4 x5 _ hI (fun z1 z2 z3 z4 z5 hz hlt => ih z1 z2 z3 z4 z5 hz (by omega))
theorem lp6_4_inv {β A1 A2 A3 A4 A5 A6 B1 B2 B3 B4 : Type} {body : A1 → A2 → A3 → A4 → A5 → A6 → (A1 → A2 → A3 → A4 → A5 → A6 → Option β) → (B1 → B2 → B3 → B4 → Option β) → Option β} {k : B1 → B2 → B3 → B4 → Option β} (I : A1 → A2 → A3 → A4 → A5 → A6 → Prop) (μ : A1 → A2 → A3 → A4 → A5 → A6 → Nat) (R : Option β → Prop)
    (h : ∀ x1 x2 x3 x4 x5 x6 (nx : A1 → A2 → A3 → A4 → A5 → A6 → Option β), I x1 x2 x3 x4 x5 x6 → (∀ z1 z2 z3 z4 z5 z6, I z1 z2 z3 z4 z5 z6 → μ z1 z2 z3 z4 z5 z6 < μ x1 x2 x3 x4 x5 x6 → R (nx z1 z2 z3 z4 z5 z6)) → R (body x1 x2 x3 x4 x5 x6 nx k)) : ∀ (n : Nat) x1 x2 x3 x4 x5 x6, I x1 x2 x3 x4 x5 x6 → μ x1 x2 x3 x4 x5 x6 < n → R (lp6_4 body k n x1 x2 x3 x4 x5 x6) := by
  intro n
  induction n with
  | zero => intro x1 x2 x3 x4 x5 x6 _ h0; exact absurd h0 (Nat.not_lt_zero _)
  | succ n ih => intro x1 x2 x3 x4 x5 x6 hI hm; exact h x1 x2 x3 x4 x5 x6 _ hI (fun z1 z2 z3 z4 z5 z6 hz hlt => ih z1 z2 z3 z4 z5 z6 hz (by omega))
theorem lp6_5_inv {β A1 A2 A3 A4 A5 A6 B1 B2 B3 B4 B5 : Type} {body : A1 → A2 → A3 → A4 → A5 → A6 → (A1 → A2 → A3 → A4 → A5 → A6 → Option β) → (B1 → B2 → B3 → B4 → B5 → Option β) → Option β} {k : B1 → B2 → B3 → B4 → B5 → Option β} (I : A1 → A2 → A3 → A4 → A5 → A6 → Prop) (μ : A1 → A2 → A3 → A4 → A5 → A6 → Nat) (R : Option β → Prop)
    (h : ∀ x1 x2 x3 x4 x5 x6 (nx : A1 → A2 → A3 → A4 → A5 → A6 → Option β), I x1 x2 x3 x4 x5 x6 → (∀ z1 z2 z3 z4 z5 z6, I z1 z2 z3 z4 z5 z6 → μ z1 z2 z3 z4 z5 z6 < μ x1 x2 x3 x4 x5 x6 → R (nx z1 z2 z3 z4 z5 z6)) → R (body x1 x2 x3 x4 x5 x6 nx k)) : ∀ (n : Nat) x1 x2 x3 x4 x5 x6, I x1 x2 x3 x4 x5 x6 → μ x1 x2 x3 x4 x5 x6 < n → R (lp6_5 body k n x1 x2 x3 x4 x5 x6) := by
  intro n
  induction n with
  | zero => intro x1 x2 x3 x4 x5 x6 _ h0; exact absurd h0 (Nat.not_lt_zero _)
  | succ n ih => intro x1 x2 x3 x4 x5 x6 hI hm; exact h x1 x2 x3 x4 x5 x6 _ hI (fun z1 z2 z3 z4 z5 z6 hz hlt => ih z1 z2 z3 z4 z5 z6 hz (by omega))
theorem lp7_5_inv {β A1 A2 A3 A4 A5 A6 A7 B1 B2 B3 B4 B5 : Type} {body : A1 → A2 → A3 → A4 → A5 → A6 → A7 → (A1 → A2 → A3 → A4 → A5 → A6 → A7 → Option β) → (B1 → B2 → B3 → B4 → B5 → Option β) → Option β} {k : B1 → B2 → B3 → B4 → B5 → Option β} (I : A1 → A2 → A3 → A4 → A5 → A6 → A7 → Prop) (μ : A1 → A2 → A3 → A4 → A5 → A6 → A7 → Nat) (R : Option β → Prop)
    (h : ∀ x1 x2 x3 x4 x5 x6 x7 (nx : A1 → A2 → A3 → A4 → A5 → A6 → A7 → Option β), I x1 x2 x3 x4 x5 x6 x7 → (∀ z1 z2 z3 z4 z5 z6 z7, I z1 z2 z3 z4 z5 z6 z7 → μ z1 z2 z3 z4 z5 z6 z7 < μ x1 x2 x3 x4 x5 x6 x7 → R (nx z1 z2 z3 z4 z5 z6 z7)) → R (body x1 x2 x3 x4 x5 x6 x7 nx k)) : ∀ (n : Nat) x1 x2 x3 x4 x5 x6 x7, I x1 x2 x3 x4 x5 x6 x7 → μ x1 x2 x3 x4 x5 x6 x7 < n → R (lp7_5 body k n x1 x2 x3 x4 x5 x6 x7) := by
  intro n
  induction n with
  | zero => intro x1 x2 x3 x4 x5 x6 x7 _ h0; exact absurd h0 (Nat.not_lt_zero _)
  | succ n ih => intro x1 x2 x3 x4 x5 x6 x7 hI hm; exact h x1 x2 x3 x4 x5 x6 x7 _ hI (fun z1 z2 z3 z4 z5 z6 z7 hz hlt => ih z1 z2 z3 z4 z5 z6 z7 hz (by omega))
theorem lp8_7_inv {β A1 A2 A3 A4 A5 A6 A7 A8 B1 B2 B3 B4 B5 B6 B7 : Type} {body : A1 → A2 → A3 → A4 → A5 → A6 → A7 → A8 → (A1 → A2 → A3 → A4 → A5 → A6 → A7 → A8 → Option β) → (B1 → B2 → B3 → B4 → B5 → B6 → B7 → Option β) → Option β} {k : B1 → B2 → B3 → B4 → B5 → B6 → B7 → Option β} (I : A1 → A2 → A3 → A4 → A5 → A6 → A7 → A8 → Prop) (μ : A1 → A2 → A3 → A4 → A5 → A6 → A7 → A8 → Nat) (R : Option β → Prop)
    (h : ∀ x1 x2 x3 x4 x5 x6 x7 x8 (nx : A1 → A2 → A3 → A4 → A5 → A6 → A7 → A8 → Option β), I x1 x2 x3 x4 x5 x6 x7 x8 → (∀ z1 z2 z3 z4 z5 z6 z7 z8, I z1 z2 z3 z4 z5 z6 z7 z8 → μ z1 z2 z3 z4 z5 z6 z7 z8 < μ x1 x2 x3 x4 x5 x6 x7 x8 → R (nx z1 z2 z3 z4 z5 z6 z7 z8)) → R (body x1 x2 x3 x4 x5 x6 x7 x8 nx k)) : ∀ (n : Nat) x1 x2 x3 x4 x5 x6 x7 x8, I x1 x2 x3 x4 x5 x6 x7 x8 → μ x1 x2 x3 x4 x5 x6 x7 x8 < n → R (lp8_7 body k n x1 x2 x3 x4 x5 x6 x7 x8) := by
  intro n
  induction n with
  | zero => intro x1 x2 x3 x4 x5 x6 x7 x8 _ h0; exact absurd h0 (Nat.not_lt_zero _)
  | succ n ih => intro x1 x2 x3 x4 x5 x6 x7 x8 hI hm; exact h x1 x2 x3 x4 x5 x6 x7 x8 _ hI (fun z1 z2 z3 z4 z5 z6 z7 z8 hz hlt => ih z1 z2 z3 z4 z5 z6 z7 z8 hz (by omega))
theorem lp9_8_inv {β A1 A2 A3 A4 A5 A6 A7 A8 A9 B1 B2 B3 B4 B5 B6 B7 B8 : Type} {body : A1 → A2 → A3 → A4 → A5 → A6 → A7 → A8 → A9 → (A1 → A2 → A3 → A4 → A5 → A6 → A7 → A8 → A9 → Option β) → (B1 → B2 → B3 → B4 → B5 → B6 → B7 → B8 → Option β) → Option β} {k : B1 → B2 → B3 → B4 → B5 → B6 → B7 → B8 → Option β} (I : A1 → A2 → A3 → A4 → A5 → A6 → A7 → A8 → A9 → Prop) (μ : A1 → A2 → A3 → A4 → A5 → A6 → A7 → A8 → A9 → Nat) (R : Option β → Prop)
    (h : ∀ x1 x2 x3 x4 x5 x6 x7 x8 x9 (nx : A1 → A2 → A3 → A4 → A5 → A6 → A7 → A8 → A9 → Option β), I x1 x2 x3 x4 x5 x6 x7 x8 x9 → (∀ z1 z2 z3 z4 z5 z6 z7 z8 z9, I z1 z2 z3 z4 z5 z6 z7 z8 z9 → μ z1 z2 z3 z4 z5 z6 z7 z8 z9 < μ x1 x2 x3 x4 x5 x6 x7 x8 x9 → R (nx z1 z2 z3 z4 z5 z6 z7 z8 z9)) → R (body x1 x2 x3 x4 x5 x6 x7 x8 x9 nx k)) : ∀ (n : Nat) x1 x2 x3 x4 x5 x6 x7 x8 x9, I x1 x2 x3 x4 x5 x6 x7 x8 x9 → μ x1 x2 x3 x4 x5 x6 x7 x8 x9 < n → R (lp9_8 body k n x1 x2 x3 x4 x5 x6 x7 x8 x9) := by
  intro n
  induction n with
  | zero => intro x1 x2 x3 x4 x5 x6 x7 x8 x9 _ h0; exact absurd h0 (Nat.not_lt_zero _)
  | succ n ih => intro x1 x2 x3 x4 x5 x6 x7 x8 x9 hI hm; exact h x1 x2 x3 x4 x5 x6 x7 x8 x9 _ hI (fun z1 z2 z3 z4 z5 z6 z7 z8 z9 hz hlt => ih z1 z2 z3 z4 z5 z6 z7 z8 z9 hz (by omega))
theorem lp10_8_inv {β A1 A2 A3 A4 A5 A6 A7 A8 A9 A10 B1 B2 B3 B4 B5 B6 B7 B8 : Type} {body : A1 → A2 → A3 → A4 → A5 → A6 → A7 → A8 → A9 → A10 → (A1 → A2 → A3 → A4 → A5 → A6 → A7 → A8 → A9 → A10 → Option β) → (B1 → B2 → B3 → B4 → B5 → B6 → B7 → B8 → Option β) → Option β} {k : B1 → B2 → B3 → B4 → B5 → B6 → B7 → B8 → Option β} (I : A1 → A2 → A3 → A4 → A5 → A6 → A7 → A8 → A9 → A10 → Prop) (μ : A1 → A2 → A3 → A4 → A5 → A6 → A7 → A8 → A9 → A10 → Nat) (R : Option β → Prop)
    (h : ∀ x1 x2 x3 x4 x5 x6 x7 x8 x9 x10 (nx : A1 → A2 → A3 → A4 → A5 → A6 → A7 → A8 → A9 → A10 → Option β), I x1 x2 x3 x4 x5 x6 x7 x8 x9 x10 → (∀ z1 z2 z3 z4 z5 z6 z7 z8 z9 z10, I z1 z2 z3 z4 z5 z6 z7 z8 z9 z10 → μ z1 z2 z3 z4 z5 z6 z7 z8 z9 z10 < μ x1 x2 x3 x4 x5 x6 x7 x8 x9 x10 → R (nx z1 z2 z3 z4 z5 z6 z7 z8 z9 z10)) → R (body x1 x2 x3 x4 x5 x6 x7 x8 x9 x10 nx k)) : ∀ (n : Nat) x1 x2 x3 x4 x5 x6 x7 x8 x9 x10, I x1 x2 x3 x4 x5 x6 x7 x8 x9 x10 → μ x1 x2 x3 x4 x5 x6 x7 x8 x9 x10 < n → R (lp10_8 body k n x1 x2 x3 x4 x5 x6 x7 x8 x9 x10) := by
  intro n
  induction n with
  | zero => intro x1 x2 x3 x4 x5 x6 x7 x8 x9 x10 _ h0; exact absurd h0 (Nat.not_lt_zero _)
  | succ n ih => intro x1 x2 x3 x4 x5 x6 x7 x8 x9 x10 hI hm; exact h x1 x2 x3 x4 x5 x6 x7 x8 x9 x10 _ hI (fun z1 z2 z3 z4 z5 z6 z7 z8 z9 z10 hz hlt => ih z1 z2 z3 z4 z5 z6 z7 z8 z9 z10 hz (by omega))
theorem lp10_9_inv {β A1 A2 A3 A4 A5 A6 A7 A8 A9 A10 B1 B2 B3 B4 B5 B6 B7 B8 B9 : Type} {body : A1 → A2 → A3 → A4 → A5 → A6 → A7 → A8 → A9 → A10 → (A1 → A2 → A3 → A4 → A5 → A6 → A7 → A8 → A9 → A10 → Option β) → (B1 → B2 → B3 → B4 → B5 → B6 → B7 → B8 → B9 → Option β) → Option β} {k : B1 → B2 → B3 → B4 → B5 → B6 → B7 → B8 → B9 → Option β} (I : A1 → A2 → A3 → A4 → A5 → A6 → A7 → A8 → A9 → A10 → Prop) (μ : A1 → A2 → A3 → A4 → A5 → A6 → A7 → A8 → A9 → A10 → Nat) (R : Option β → Prop)
    (h : ∀ x1 x2 x3 x4 x5 x6 x7 x8 x9 x10 (nx : A1 → A2 → A3 → A4 → A5 → A6 → A7 → A8 → A9 → A10 → Option β), I x1 x2 x3 x4 x5 x6 x7 x8 x9 x10 → (∀ z1 z2 z3 z4 z5 z6 z7 z8 z9 z10, I z1 z2 z3 z4 z5 z6 z7 z8 z9 z10 → μ z1 z2 z3 z4 z5 z6 z7 z8 z9 z10 < μ x1 x2 x3 x4 x5 x6 x7 x8 x9 x10 → R (nx z1 z2 z3 z4 z5 z6 z7 z8 z9 z10)) → R (body x1 x2 x3 x4 x5 x6 x7 x8 x9 x10 nx k)) : ∀ (n : Nat) x1 x2 x3 x4 x5 x6 x7 x8 x9 x10, I x1 x2 x3 x4 x5 x6 x7 x8 x9 x10 → μ x1 x2 x3 x4 x5 x6 x7 x8 x9 x10 < n → R (lp10_9 body k n x1 x2 x3 x4 x5 x6 x7 x8 x9 x10) := by
  intro n
  induction n with
  | zero => intro x1 x2 x3 x4 x5 x6 x7 x8 x9 x10 _ h0; exact absurd h0 (Nat.not_lt_zero _)
  | succ n ih => intro x1 x2 x3 x4 x5 x6 x7 x8 x9 x10 hI hm; exact h x1 x2 x3 x4 x5 x6 x7 x8 x9 x10 _ hI (fun z1 z2 z3 z4 z5 z6 z7 z8 z9 z10 hz hlt => ih z1 z2 z3 z4 z5 z6 z7 z8 z9 z10 hz (by omega))
theorem cl1_s {β A1 : Type} {x1 : A1} {k : A1 → Option β} : cl1 (some (x1)) k = k x1 := rfl
theorem cl2_s {β A1 A2 : Type} {x1 : A1} {x2 : A2} {k : A1 → A2 → Option β} : cl2 (some (x1, x2)) k = k x1 x2 := rfl
theorem cl3_s {β A1 A2 A3 : Type} {x1 : A1} {x2 : A2} {x3 : A3} {k : A1 → A2 → A3 → Option β} : cl3 (some (x1, x2, x3)) k = k x1 x2 x3 := rfl
theorem cl4_s {β A1 A2 A3 A4 : Type} {x1 : A1} {x2 : A2} {x3 : A3} {x4 : A4} {k : A1 → A2 → A3 → A4 → Option β} : cl4 (some (x1, x2, x3, x4)) k = k x1 x2 x3 x4 := rfl
theorem cl5_s {β A1 A2 A3 A4 A5 : Type} {x1 : A1} {x2 : A2} {x3 : A3} {x4 : A4} {x5 : A5} {k : A1 → A2 → A3 → A4 → A5 → Option β} : cl5 (some (x1, x2, x3, x4, x5)) k = k x1 x2 x3 x4 x5 := rfl
theorem cl6_s {β A1 A2 A3 A4 A5 A6 : Type} {x1 : A1} {x2 : A2} {x3 : A3} {x4 : A4} {x5 : A5} {x6 : A6} {k : A1 → A2 → A3 → A4 → A5 → A6 → Option β} : cl6 (some (x1, x2, x3, x4, x5, x6)) k = k x1 x2 x3 x4 x5 x6 := rfl
theorem cl7_s {β A1 A2 A3 A4 A5 A6 A7 : Type} {x1 : A1} {x2 : A2} {x3 : A3} {x4 : A4} {x5 : A5} {x6 : A6} {x7 : A7} {k : A1 → A2 → A3 → A4 → A5 → A6 → A7 → Option β} : cl7 (some (x1, x2, x3, x4, x5, x6, x7)) k = k x1 x2 x3 x4 x5 x6 x7 := rfl
theorem cl8_s {β A1 A2 A3 A4 A5 A6 A7 A8 : Type} {x1 : A1} {x2 : A2} {x3 : A3} {x4 : A4} {x5 : A5} {x6 : A6} {x7 : A7} {x8 : A8} {k : A1 → A2 → A3 → A4 → A5 → A6 → A7 → A8 → Option β} : cl8 (some (x1, x2, x3, x4, x5, x6, x7, x8)) k = k x1 x2 x3 x4 x5 x6 x7 x8 := rfl
theorem cl10_s {β A1 A2 A3 A4 A5 A6 A7 A8 A9 A10 : Type} {x1 : A1} {x2 : A2} {x3 : A3} {x4 : A4} {x5 : A5} {x6 : A6} {x7 : A7} {x8 : A8} {x9 : A9} {x10 : A10} {k : A1 → A2 → A3 → A4 → A5 → A6 → A7 → A8 → A9 → A10 → Option β} : cl10 (some (x1, x2, x3, x4, x5, x6, x7, x8, x9, x10)) k = k x1 x2 x3 x4 x5 x6 x7 x8 x9 x10 := rfl
theorem jn1_d {β A1 : Type} (K : A1 → Option β) (B : (A1 → Option β) → Option β) : jn1 K B = B K := rfl
theorem jn2_d {β A1 A2 : Type} (K : A1 → A2 → Option β) (B : (A1 → A2 → Option β) → Option β) : jn2 K B = B K := rfl
theorem jn3_d {β A1 A2 A3 : Type} (K : A1 → A2 → A3 → Option β) (B : (A1 → A2 → A3 → Option β) → Option β) : jn3 K B = B K := rfl
theorem jn4_d {β A1 A2 A3 A4 : Type} (K : A1 → A2 → A3 → A4 → Option β) (B : (A1 → A2 → A3 → A4 → Option β) → Option β) : jn4 K B = B K := rfl
theorem jn5_d {β A1 A2 A3 A4 A5 : Type} (K : A1 → A2 → A3 → A4 → A5 → Option β) (B : (A1 → A2 → A3 → A4 → A5 → Option β) → Option β) : jn5 K B = B K := rfl
theorem jn8_d {β A1 A2 A3 A4 A5 A6 A7 A8 : Type} (K : A1 → A2 → A3 → A4 → A5 → A6 → A7 → A8 → Option β) (B : (A1 → A2 → A3 → A4 → A5 → A6 → A7 → A8 → Option β) → Option β) : jn8 K B = B K := rfl
theorem jn9_d {β A1 A2 A3 A4 A5 A6 A7 A8 A9 : Type} (K : A1 → A2 → A3 → A4 → A5 → A6 → A7 → A8 → A9 → Option β) (B : (A1 → A2 → A3 → A4 → A5 → A6 → A7 → A8 → A9 → Option β) → Option β) : jn9 K B = B K := rfl
theorem jn10_d {β A1 A2 A3 A4 A5 A6 A7 A8 A9 A10 : Type} (K : A1 → A2 → A3 → A4 → A5 → A6 → A7 → A8 → A9 → A10 → Option β) (B : (A1 → A2 → A3 → A4 → A5 → A6 → A7 → A8 → A9 → A10 → Option β) → Option β) : jn10 K B = B K := rfl
