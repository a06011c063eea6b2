/-! ===== rows as lists; the class's number of a row: base eight ===== -/
def enc8 : List Nat → Nat
  | [] => 0
  | k :: r => k + 8 * enc8 r
def d8 (r : List Nat) : Prop := ∀ k ∈ r, k < 8
theorem d8_tail {k : Nat} {r : List Nat} (h : d8 (k :: r)) : d8 r := fun x hx => h x (List.mem_cons_of_mem _ hx)
theorem d8_getD {r : List Nat} (h : d8 r) (i : Nat) : r.getD i 0 < 8 := by
  rw [List.getD_eq_getElem?_getD]
  cases e : r[i]? with
  | none => simp
  | some x => exact h x (List.mem_of_getElem? e)
theorem enc8_lt : ∀ {r : List Nat}, d8 r → enc8 r < 8 ^ r.length
  | [], _ => by decide
  | k :: r, h => by
    have h1 := enc8_lt (d8_tail h)
    have h2 := h k List.mem_cons_self
    show k + 8 * enc8 r < 8 ^ (r.length + 1)
    rw [Nat.pow_succ]; omega
theorem enc8_at : ∀ {r : List Nat}, d8 r → ∀ i, enc8 r / 8 ^ i % 8 = r.getD i 0
  | [], _, i => by simp [enc8]
  | k :: r, h, 0 => by
    have := h k List.mem_cons_self
    show (k + 8 * enc8 r) / 1 % 8 = k
    omega
  | k :: r, h, i + 1 => by
    have h2 := h k List.mem_cons_self
    have h1 := enc8_at (d8_tail h) i
    show (k + 8 * enc8 r) / 8 ^ (i + 1) % 8 = _
    rw [Nat.pow_succ, Nat.mul_comm (8 ^ i) 8, ← Nat.div_div_eq_div_mul, show (k + 8 * enc8 r) / 8 = enc8 r by omega]
    simpa using h1
theorem enc8_inj : ∀ {r s : List Nat}, d8 r → d8 s → r.length = s.length → enc8 r = enc8 s → r = s
  | [], [], _, _, _, _ => rfl
  | a :: r, b :: s, h1, h2, hl, he => by
    have ha := h1 a List.mem_cons_self
    have hb := h2 b List.mem_cons_self
    have he : a + 8 * enc8 r = b + 8 * enc8 s := he
    have h3 : a = b := by omega
    have h4 : enc8 r = enc8 s := by omega
    rw [h3, enc8_inj (d8_tail h1) (d8_tail h2) (by simpa using hl) h4]
theorem xor_low {d k e : Nat} (hd : d < 8) (hk : k < 8) : (d + 8 * e) ^^^ k = (d ^^^ k) + 8 * e := by
  have h1 : ((d + 8 * e) ^^^ k) % 2 ^ 3 = (d + 8 * e) % 2 ^ 3 ^^^ k % 2 ^ 3 := Nat.xor_mod_two_pow
  have h2 : ((d + 8 * e) ^^^ k) / 2 ^ 3 = (d + 8 * e) / 2 ^ 3 ^^^ k / 2 ^ 3 := Nat.xor_div_two_pow
  have e1 : (d + 8 * e) % 2 ^ 3 = d := by omega
  have e2 : k % 2 ^ 3 = k := by omega
  have e3 : (d + 8 * e) / 2 ^ 3 = e := by omega
  have e4 : k / 2 ^ 3 = 0 := by omega
  rw [e1, e2] at h1
  rw [e3, e4, Nat.xor_zero] at h2
  omega
theorem xor_high {d k e : Nat} (hd : d < 8) : (d + 8 * e) ^^^ (8 * k) = d + 8 * (e ^^^ k) := by
  have h1 : ((d + 8 * e) ^^^ (8 * k)) % 2 ^ 3 = (d + 8 * e) % 2 ^ 3 ^^^ (8 * k) % 2 ^ 3 := Nat.xor_mod_two_pow
  have h2 : ((d + 8 * e) ^^^ (8 * k)) / 2 ^ 3 = (d + 8 * e) / 2 ^ 3 ^^^ (8 * k) / 2 ^ 3 := Nat.xor_div_two_pow
  have e1 : (d + 8 * e) % 2 ^ 3 = d := by omega
  have e2 : (8 * k) % 2 ^ 3 = 0 := by omega
  have e3 : (d + 8 * e) / 2 ^ 3 = e := by omega
  have e4 : (8 * k) / 2 ^ 3 = k := by omega
  rw [e1, e2, Nat.xor_zero] at h1
  rw [e3, e4] at h2
  omega
theorem enc8_xor : ∀ {r : List Nat}, d8 r → ∀ {i k : Nat}, i < r.length → k < 8 → enc8 r ^^^ (k * 8 ^ i) = enc8 (r.set i (r.getD i 0 ^^^ k))
  | [], _, _, _, hi, _ => absurd hi (Nat.not_lt_zero _)
  | d :: r, h, 0, k, _, hk => by
    show (d + 8 * enc8 r) ^^^ (k * 1) = (d ^^^ k) + 8 * enc8 r
    rw [Nat.mul_one]
    exact xor_low (h d List.mem_cons_self) hk
  | d :: r, h, i + 1, k, hi, hk => by
    have h1 := enc8_xor (d8_tail h) (i := i) (k := k) (by simpa using hi) hk
    show (d + 8 * enc8 r) ^^^ (k * 8 ^ (i + 1)) = d + 8 * enc8 (r.set i (r.getD i 0 ^^^ k))
    rw [← h1, Nat.pow_succ, show k * (8 ^ i * 8) = 8 * (k * 8 ^ i) by rw [← Nat.mul_assoc, Nat.mul_comm]]
    exact xor_high (h d List.mem_cons_self)
theorem d8_set {r : List Nat} (h : d8 r) {i k : Nat} (hk : k < 8) : d8 (r.set i k) := fun x hx => by
  rcases List.mem_or_eq_of_mem_set hx with h1 | h1
  · exact h x h1
  · rw [h1]; exact hk
/-- who stands on f goes to t -/
def mvd (r : List Nat) (f t : Nat) : List Nat := (r.set f 0).set t (r.getD f 0)
theorem mvd_len {r : List Nat} {f t : Nat} : (mvd r f t).length = r.length := by simp [mvd]
theorem mvd_d8 {r : List Nat} (h : d8 r) {f t : Nat} : d8 (mvd r f t) := d8_set (d8_set h (by decide)) (d8_getD h f)
theorem getD_set {r : List Nat} {i j k : Nat} (hi : i < r.length) : (r.set i k).getD j 0 = if j = i then k else r.getD j 0 := by
  rw [List.getD_eq_getElem?_getD, List.getD_eq_getElem?_getD, List.getElem?_set]
  by_cases h : i = j
  · subst h; simp [hi]
  · simp [h, Ne.symm h]
theorem mvd_at {r : List Nat} {f t j : Nat} (hf : f < r.length) (ht : t < r.length) : (mvd r f t).getD j 0 = if j = t then r.getD f 0 else if j = f then 0 else r.getD j 0 := by
  unfold mvd
  rw [getD_set (by simpa using ht), getD_set hf]
theorem sh31 : ∀ n, n < 32 → ((nI n &&& 31).toBitVec.smod 32).toNat = n := by decide +kernel
theorem pow8 (i : Nat) : 2 ^ (3 * i) = 8 ^ i := by rw [Nat.pow_mul]
theorem at_eq {w i : Nat} (hw : w < 2 ^ 31) (hi : i < 8) : f_X3_at (nI w) (nI i) = some (nI (w / 8 ^ i % 8)) := by
  unfold f_X3_at
  have e1 : (3 : Int32) * nI i = nI (3 * i) := by rw [n_lit 3]; exact pk_mul 3 i
  rw [e1, pk_shrN hw _ (3 * i) (sh31 _ (by omega)), pow8]
  have h3 : w / 8 ^ i < 2 ^ 32 := Nat.lt_of_le_of_lt (Nat.div_le_self _ _) (by omega)
  rw [pk_andN h3 3 (by decide +kernel)]
theorem at_row {r : List Nat} (h : d8 r) (hl : r.length ≤ 7) {i : Nat} (hi : i < 8) : f_X3_at (nI (enc8 r)) (nI i) = some (nI (r.getD i 0)) := by
  have h1 := enc8_lt h
  have h2 : 8 ^ r.length ≤ 8 ^ 7 := Nat.pow_le_pow_right (by decide) hl
  rw [at_eq (by omega) hi, enc8_at h]
theorem row_lt {r : List Nat} (h : d8 r) (hl : r.length ≤ 7) : enc8 r < 2097152 := by
  have h1 := enc8_lt h
  have h2 : 8 ^ r.length ≤ 8 ^ 7 := Nat.pow_le_pow_right (by decide) hl
  omega
theorem pow8_le {f : Nat} (hf : f < 7) : 8 ^ f ≤ 262144 := by
  have h2 : 8 ^ f ≤ 8 ^ 6 := Nat.pow_le_pow_right (by decide) (by omega)
  omega
theorem moved_row {r : List Nat} (h : d8 r) (hl : r.length ≤ 7) {f t : Nat} (hf : f < r.length) (ht : t < r.length) (hft : f ≠ t) (h0 : r.getD t 0 = 0) : f_X3_moved (nI (enc8 r)) (nI (8 * f + t)) = some (nI (enc8 (mvd r f t))) := by
  unfold f_X3_moved
  simp only [nmv_d]
  have hw := row_lt h hl
  have e1 : nI (8 * f + t) >>> ((3 : Int32) &&& 31) = nI f := by
    rw [n_lit 3, pk_shrN (by omega) _ 3 (sh31 3 (by decide))]
    congr 1; omega
  have e2 : nI (8 * f + t) &&& (7 : Int32) = nI t := by
    rw [pk_andN (by omega) 3 (by decide +kernel)]
    congr 1; omega
  have e3 : (3 : Int32) * nI f = nI (3 * f) := by rw [n_lit 3]; exact pk_mul 3 f
  have e4 : (3 : Int32) * nI t = nI (3 * t) := by rw [n_lit 3]; exact pk_mul 3 t
  rw [e1, e2, e3, e4]
  have e5 : (nI (enc8 r) >>> (nI (3 * f) &&& 31)) &&& (7 : Int32) = nI (r.getD f 0) := by
    rw [pk_shrN (by omega) _ (3 * f) (sh31 _ (by omega)), pow8]
    have h3 : enc8 r / 8 ^ f < 2 ^ 32 := Nat.lt_of_le_of_lt (Nat.div_le_self _ _) (by omega)
    rw [pk_andN h3 3 (by decide +kernel)]
    rw [show (2 : Nat) ^ 3 = 8 from rfl, enc8_at h]
  rw [e5]
  have hk := d8_getD h f
  have p1 := pow8_le (f := f) (by omega)
  have p2 := pow8_le (f := t) (by omega)
  have b1 : r.getD f 0 * 8 ^ f ≤ 8 * 262144 := Nat.mul_le_mul (by omega) p1
  have b2 : r.getD f 0 * 8 ^ t ≤ 8 * 262144 := Nat.mul_le_mul (by omega) p2
  rw [pk_shlN _ (3 * f) (sh31 _ (by omega)) (by rw [pow8]; omega), pk_shlN _ (3 * t) (sh31 _ (by omega)) (by rw [pow8]; omega), pow8, pow8, nx_xor, nx_xor]
  rw [enc8_xor h hf hk, Nat.xor_self, enc8_xor (d8_set h (by decide)) (by simpa using ht) hk, getD_set hf, if_neg (Ne.symm hft), h0, Nat.zero_xor]
  rfl
theorem or_low {a k m : Nat} (h : a < 2 ^ k) : (m * 2 ^ k) ||| a = m * 2 ^ k + a := by
  rw [Nat.mul_comm]; exact (Nat.two_pow_add_eq_or_of_lt h m).symm
theorem or_low' {a k m : Nat} (h : a < 2 ^ k) : a ||| (m * 2 ^ k) = a + m * 2 ^ k := by rw [Nat.or_comm, or_low h, Nat.add_comm]
theorem turned_row {r : List Nat} (h : d8 r) (hl : r.length ≤ 7) : f_X3_turned (nI (enc8 r)) (nI r.length) = some (nI (enc8 r.reverse)) := by
  unfold f_X3_turned
  refine lp2_1_inv (fun x2 x3 => ∃ j, j ≤ r.length ∧ x3 = nI j ∧ x2 = nI (enc8 (r.take j).reverse)) (fun _ x3 => r.length - x3.toNatClampNeg) (fun o => o = some (nI (enc8 r.reverse))) ?_ fuel 0 0 ⟨0, Nat.zero_le _, rfl, by simp [enc8]; rfl⟩ (fuel_gt (by omega))
  intro x2 x3 nx ⟨j, hj, e3, e2⟩ hn
  subst e3; subst e2
  by_cases hc : r.length ≤ j
  · rw [if_pos ((nI_leI (by omega) (by omega)).mpr hc)]
    have : r.take j = r := List.take_of_length_le hc
    rw [this]
  · rw [if_neg (fun q => hc ((nI_leI (by omega) (by omega)).mp q))]
    rw [at_row h hl (by omega)]
    show nx ((nI (enc8 (r.take j).reverse) <<< ((3 : Int32) &&& 31)) ||| nI (r.getD j 0)) (nI j + 1) = _
    have hd : d8 (r.take j).reverse := fun x hx => h x (List.mem_of_mem_take (List.mem_reverse.mp hx))
    have hw : enc8 (r.take j).reverse < 8 ^ j := by
      have := enc8_lt hd
      simpa [Nat.min_eq_left hj] using this
    have p6 := pow8_le (f := j) (by omega)
    have e4 : (nI (enc8 (r.take j).reverse) <<< ((3 : Int32) &&& 31)) ||| nI (r.getD j 0) = nI (enc8 (r.take (j + 1)).reverse) := by
      rw [n_lit 3, pk_shlN _ 3 (sh31 3 (by decide)) (by omega), nx_or, or_low (by have := d8_getD h j; omega)]
      congr 1
      have hlt : j < r.length := by omega
      have e6 : r.getD j 0 = r[j] := by simp [List.getD_eq_getElem?_getD, hlt]
      rw [List.take_succ_eq_append_getElem hlt, List.reverse_append, e6]
      show enc8 (r.take j).reverse * 8 + r[j] = r[j] + 8 * enc8 (r.take j).reverse
      omega
    rw [e4, nI_1]
    refine hn _ _ ⟨j + 1, by omega, rfl, rfl⟩ ?_
    rw [nI_clamp (by omega), nI_clamp (by omega)]
    omega
theorem enc8_app : ∀ (a b : List Nat), enc8 (a ++ b) = enc8 a + 8 ^ a.length * enc8 b
  | [], b => by simp [enc8]
  | k :: a, b => by
    show k + 8 * enc8 (a ++ b) = k + 8 * enc8 a + 8 ^ (a.length + 1) * enc8 b
    rw [enc8_app a b, Nat.pow_succ, Nat.mul_add, Nat.mul_comm (8 ^ a.length) 8, Nat.mul_assoc, Nat.add_assoc]
