theorem take_drop_enc (r : List Nat) (p : Nat) (hp : p ≤ r.length) : enc8 r = enc8 (r.take p) + 8 ^ p * enc8 (r.drop p) := by
  have h := enc8_app (r.take p) (r.drop p)
  rw [List.take_append_drop] at h
  rw [h, List.length_take, Nat.min_eq_left hp]
theorem d8_take {r : List Nat} (h : d8 r) (p : Nat) : d8 (r.take p) := fun x hx => h x (List.mem_of_mem_take hx)
theorem d8_drop {r : List Nat} (h : d8 r) (p : Nat) : d8 (r.drop p) := fun x hx => h x (List.mem_of_mem_drop hx)
/-- one free stone more -/
def wid (r : List Nat) (p : Nat) : List Nat := r.take p ++ 0 :: r.drop p
theorem wid_len {r : List Nat} {p : Nat} (hp : p ≤ r.length) : (wid r p).length = r.length + 1 := by simp [wid]; omega
theorem widened_row {r : List Nat} (h : d8 r) (hl : r.length ≤ 6) {p : Nat} (hp : p ≤ r.length) : f_X3_widened (nI (enc8 r)) (nI p) = some (nI (enc8 (wid r p))) := by
  unfold f_X3_widened
  simp only [nmv_d]
  have hw := row_lt h (by omega)
  have hA : enc8 (r.take p) < 8 ^ p := by
    have := enc8_lt (d8_take h p)
    rwa [List.length_take, Nat.min_eq_left hp] at this
  have p6 := pow8_le (f := p) (by omega)
  have pp : 0 < 8 ^ p := Nat.pow_pos (by decide)
  have hs := take_drop_enc r p hp
  have e1 : (3 : Int32) * nI p = nI (3 * p) := by rw [n_lit 3]; exact pk_mul 3 p
  have e2 : (1 : Int32) <<< (nI (3 * p) &&& 31) = nI (8 ^ p) := by
    rw [n_lit 1, pk_shlN _ (3 * p) (sh31 _ (by omega)) (by rw [pow8]; omega), pow8, Nat.one_mul]
  have e3 : nI (8 ^ p) - (1 : Int32) = nI (8 ^ p - 1) := by rw [n_lit 1]; exact pk_sub pp
  rw [e1, e2, e3]
  have e4 : nI (enc8 r) &&& nI (8 ^ p - 1) = nI (enc8 (r.take p)) := by
    rw [pk_andN (by omega) (3 * p) (by rw [pk_tn (by omega), pow8]), pow8]
    congr 1
    rw [hs, Nat.add_mul_mod_self_left, Nat.mod_eq_of_lt hA]
  rw [e4]
  have e5 : enc8 r ^^^ enc8 (r.take p) = 8 ^ p * enc8 (r.drop p) := by
    have hA2 : enc8 (r.take p) < 2 ^ (3 * p) := by rw [pow8]; exact hA
    rw [hs, ← pow8, Nat.add_comm, Nat.two_pow_add_eq_or_of_lt hA2]
    have hz : 2 ^ (3 * p) * enc8 (r.drop p) &&& enc8 (r.take p) = 0 := by
      apply Nat.eq_of_testBit_eq
      intro i
      rw [Nat.testBit_and, Nat.testBit_two_pow_mul, Nat.zero_testBit]
      by_cases hi : 3 * p ≤ i
      · rw [Nat.testBit_lt_two_pow (Nat.lt_of_lt_of_le hA2 (Nat.pow_le_pow_right (by decide) hi)), Bool.and_false]
      · simp [hi]
    apply Nat.eq_of_testBit_eq
    intro i
    have hzi := congrArg (fun z => z.testBit i) hz
    simp only [Nat.testBit_and, Nat.zero_testBit] at hzi
    rw [Nat.testBit_xor, Nat.testBit_or]
    cases h1 : (2 ^ (3 * p) * enc8 (r.drop p)).testBit i <;> cases h2 : (enc8 (r.take p)).testBit i <;> simp_all
  rw [nx_xor, e5]
  have hB : enc8 (r.drop p) < 8 ^ (r.length - p) := by
    have := enc8_lt (d8_drop h p)
    rwa [List.length_drop] at this
  have hBP : 8 ^ p * enc8 (r.drop p) ≤ enc8 r := by omega
  have e6 : nI (8 ^ p * enc8 (r.drop p)) <<< ((3 : Int32) &&& 31) = nI (8 ^ p * enc8 (r.drop p) * 2 ^ 3) := by
    rw [n_lit 3, pk_shlN _ 3 (sh31 3 (by decide)) (by omega)]
  rw [e6, nx_or]
  have e7 : 8 ^ p * enc8 (r.drop p) * 2 ^ 3 = (8 * enc8 (r.drop p)) * 2 ^ (3 * p) := by
    rw [pow8, Nat.mul_comm (8 ^ p), Nat.mul_assoc, Nat.mul_comm (8 ^ p), ← Nat.mul_assoc, Nat.mul_comm (enc8 _)]
  rw [e7, or_low' (by rw [pow8]; exact hA)]
  unfold wid
  rw [enc8_app, List.length_take, Nat.min_eq_left hp]
  show some (nI (enc8 (r.take p) + 8 * enc8 (r.drop p) * 2 ^ (3 * p))) = some (nI (enc8 (r.take p) + 8 ^ p * (0 + 8 * enc8 (r.drop p))))
  rw [pow8, Nat.zero_add, Nat.mul_comm (8 ^ p)]
theorem and_not (x m : Int32) : x &&& (m ^^^ (-1)) = x ^^^ (x &&& m) := by
  apply Int32.toBitVec_inj.1
  have h : (-1 : Int32).toBitVec = BitVec.allOnes 32 := by decide +kernel
  rw [Int32.toBitVec_and, Int32.toBitVec_xor, Int32.toBitVec_xor, Int32.toBitVec_and, h]
  apply BitVec.eq_of_getLsbD_eq
  intro i hi
  have h2 : (BitVec.allOnes 32).getLsbD i = true := by rw [BitVec.getLsbD_allOnes]; simp [hi]
  rw [BitVec.getLsbD_and, BitVec.getLsbD_xor, BitVec.getLsbD_xor, BitVec.getLsbD_and, h2]
  cases x.toBitVec.getLsbD i <;> cases m.toBitVec.getLsbD i <;> rfl
theorem and_low {d e : Nat} (hd : d < 8) : (d + 8 * e) &&& 7 = d := by
  have : (d + 8 * e) &&& 7 = (d + 8 * e) % 2 ^ 3 := Nat.and_two_pow_sub_one_eq_mod (d + 8 * e) 3
  rw [this]; omega
theorem and_high {d k e : Nat} (hd : d < 8) : (d + 8 * e) &&& (8 * k) = 8 * (e &&& k) := by
  have h1 : ((d + 8 * e) &&& (8 * k)) % 2 ^ 3 = (d + 8 * e) % 2 ^ 3 &&& (8 * k) % 2 ^ 3 := Nat.and_mod_two_pow
  have h2 : ((d + 8 * e) &&& (8 * k)) / 2 ^ 3 = (d + 8 * e) / 2 ^ 3 &&& (8 * k) / 2 ^ 3 := Nat.and_div_two_pow
  have e2 : (8 * k) % 2 ^ 3 = 0 := by omega
  have e3 : (d + 8 * e) / 2 ^ 3 = e := by omega
  have e4 : (8 * k) / 2 ^ 3 = k := by omega
  rw [e2, Nat.and_zero] at h1
  rw [e3, e4] at h2
  omega
theorem enc8_and7 : ∀ {r : List Nat}, d8 r → ∀ {i : Nat}, i < r.length → enc8 r &&& (7 * 8 ^ i) = r.getD i 0 * 8 ^ i
  | [], _, _, hi => absurd hi (Nat.not_lt_zero _)
  | d :: r, h, 0, _ => by
    show (d + 8 * enc8 r) &&& (7 * 1) = d * 1
    rw [Nat.mul_one, Nat.mul_one]
    exact and_low (h d List.mem_cons_self)
  | d :: r, h, i + 1, hi => by
    have h1 := enc8_and7 (d8_tail h) (i := i) (by simpa using hi)
    show (d + 8 * enc8 r) &&& (7 * 8 ^ (i + 1)) = r.getD i 0 * 8 ^ (i + 1)
    rw [Nat.pow_succ, show 7 * (8 ^ i * 8) = 8 * (7 * 8 ^ i) by omega, and_high (h d List.mem_cons_self), h1]
    rw [← Nat.mul_assoc, Nat.mul_comm 8, Nat.mul_assoc, Nat.mul_comm 8]
theorem without_row {r : List Nat} (h : d8 r) (hl : r.length ≤ 7) {i : Nat} (hi : i < r.length) : f_X3_without (nI (enc8 r)) (nI i) = some (nI (enc8 (r.set i 0))) := by
  unfold f_X3_without
  have hw := row_lt h hl
  have p6 := pow8_le (f := i) (by omega)
  have e1 : (3 : Int32) * nI i = nI (3 * i) := by rw [n_lit 3]; exact pk_mul 3 i
  have e2 : (7 : Int32) <<< (nI (3 * i) &&& 31) = nI (7 * 8 ^ i) := by
    rw [n_lit 7, pk_shlN _ (3 * i) (sh31 _ (by omega)) (by rw [pow8]; omega), pow8]
  rw [e1, e2, and_not, nx_and, enc8_and7 h hi, nx_xor, enc8_xor h hi (d8_getD h i), Nat.xor_self]
theorem freeStones_row {r : List Nat} (h : d8 r) (hl : r.length ≤ 7) : f_X3_freeStones (nI (enc8 r)) (nI r.length) = some (nI (r.count 0)) := by
  unfold f_X3_freeStones
  refine lp2_1_inv (fun x2 x3 => ∃ j, j ≤ r.length ∧ x3 = nI j ∧ x2 = nI ((r.take j).count 0)) (fun _ x3 => r.length - x3.toNatClampNeg) (fun o => o = some (nI (r.count 0))) ?_ fuel 0 0 ⟨0, Nat.zero_le _, rfl, by simp; rfl⟩ (fuel_gt (by omega))
  intro x2 x3 nx ⟨j, hj, e3, e2⟩ hn
  subst e3; subst e2
  by_cases hc : r.length ≤ j
  · rw [if_pos ((nI_leI (by omega) (by omega)).mpr hc)]
    have : r.take j = r := List.take_of_length_le hc
    rw [this]
  · rw [if_neg (fun q => hc ((nI_leI (by omega) (by omega)).mp q))]
    rw [at_row h hl (by omega)]
    have hlt : j < r.length := by omega
    have e6 : r.getD j 0 = r[j] := by simp [List.getD_eq_getElem?_getD, hlt]
    have hd := d8_getD h j
    have hm : r.length - (nI (j + 1)).toNatClampNeg < r.length - (nI j).toNatClampNeg := by rw [nI_clamp (by omega), nI_clamp (by omega)]; omega
    show (if nI (r.getD j 0) = 0 then nx (nI ((r.take j).count 0) + 1) (nI j + 1) else nx (nI ((r.take j).count 0)) (nI j + 1)) = _
    have hcnt : (r.take (j + 1)).count 0 = (r.take j).count 0 + if r.getD j 0 = 0 then 1 else 0 := by
      rw [List.take_succ_eq_append_getElem hlt, List.count_append, e6]
      by_cases hz : r[j] = 0 <;> simp [hz]
    rw [nI_1 j]
    by_cases hz : r.getD j 0 = 0
    · rw [if_pos ((nI_eq0 (by omega)).mpr hz), nI_1]
      exact hn _ _ ⟨j + 1, by omega, rfl, by rw [hcnt, if_pos hz]⟩ hm
    · rw [if_neg (fun q => hz ((nI_eq0 (by omega)).mp q))]
      exact hn _ _ ⟨j + 1, by omega, rfl, by rw [hcnt, if_neg hz, Nat.add_zero]⟩ hm
/-- the frogs' numbers and one more, from m + 1 on -/
def numb : Nat → List Nat → List Nat
  | _, [] => []
  | m, k :: r => if k = 0 then 0 :: numb m r else (m + 1) :: numb (m + 1) r
theorem numb_len : ∀ (m : Nat) (r : List Nat), (numb m r).length = r.length
  | _, [] => rfl
  | m, k :: r => by
    unfold numb
    by_cases h : k = 0 <;> simp [h, numb_len]
/-- how many frogs -/
def frogsIn (r : List Nat) : Nat := r.length - r.count 0
theorem count_le (r : List Nat) : r.count 0 ≤ r.length := List.count_le_length
theorem frogs_cons (k : Nat) (r : List Nat) : frogsIn (k :: r) = frogsIn r + if k = 0 then 0 else 1 := by
  unfold frogsIn
  have h1 := count_le r
  rw [List.length_cons, List.count_cons]
  by_cases h : k = 0 <;> simp [h] <;> omega
theorem frogs_app (a b : List Nat) : frogsIn (a ++ b) = frogsIn a + frogsIn b := by
  unfold frogsIn
  have h1 := count_le a
  have h2 := count_le b
  rw [List.length_append, List.count_append]; omega
theorem numb_at : ∀ (m : Nat) (r : List Nat) (j : Nat), (numb m r).getD j 0 = if r.getD j 0 = 0 then 0 else m + frogsIn (r.take j) + 1
  | m, [], j => by simp [numb]
  | m, k :: r, 0 => by
    unfold numb
    by_cases h : k = 0 <;> simp [h, frogsIn]
  | m, k :: r, j + 1 => by
    unfold numb
    have e : (k :: r).take (j + 1) = k :: r.take j := rfl
    rw [e, frogs_cons]
    by_cases h : k = 0
    · rw [if_pos h]
      show (numb m r).getD j 0 = if r.getD j 0 = 0 then 0 else _
      rw [numb_at m r j, if_pos h]; rfl
    · rw [if_neg h]
      show (numb (m + 1) r).getD j 0 = if r.getD j 0 = 0 then 0 else _
      rw [numb_at (m + 1) r j, if_neg h]
      by_cases hz : r.getD j 0 = 0
      · rw [if_pos hz, if_pos hz]
      · rw [if_neg hz, if_neg hz]; omega
theorem frogs_le (r : List Nat) : frogsIn r ≤ r.length := Nat.sub_le _ _
theorem numb_le {m : Nat} {r : List Nat} (j : Nat) : (numb m r).getD j 0 ≤ m + frogsIn r := by
  rw [numb_at]
  by_cases hz : r.getD j 0 = 0
  · rw [if_pos hz]; omega
  · rw [if_neg hz]
    have hj : j < r.length := by
      rcases Nat.lt_or_ge j r.length with q | q
      · exact q
      · exact absurd (by simp [List.getD_eq_getElem?_getD, List.getElem?_eq_none_iff.mpr q]) hz
    have e6 : r.getD j 0 = r[j] := by simp [List.getD_eq_getElem?_getD, hj]
    have h2 := frogs_app (r.take j) (r.drop j)
    rw [List.take_append_drop, List.drop_eq_getElem_cons hj, frogs_cons, if_neg (by rw [← e6]; exact hz)] at h2
    omega
theorem mem_getD {r : List Nat} {x : Nat} (h : x ∈ r) : ∃ j, j < r.length ∧ r.getD j 0 = x := by
  obtain ⟨j, hj⟩ := List.getElem?_of_mem h
  exact ⟨j, (List.getElem?_eq_some_iff.mp hj).1, by rw [List.getD_eq_getElem?_getD, hj]; rfl⟩
theorem numb_d8 {r : List Nat} (hl : r.length ≤ 7) : d8 (numb 0 r) := fun x hx => by
  obtain ⟨j, -, e⟩ := mem_getD hx
  have h1 := numb_le (m := 0) (r := r) j
  have h2 := frogs_le r
  omega
theorem take_getD (r : List Nat) (j : Nat) : ∀ h : j < r.length, r.take (j + 1) = r.take j ++ [r.getD j 0] := fun h => by
  rw [List.take_succ_eq_append_getElem h]
  simp [List.getD_eq_getElem?_getD, h]
theorem getD_out {r : List Nat} {j : Nat} (h : r.length ≤ j) : r.getD j 0 = 0 := by simp [List.getD_eq_getElem?_getD, List.getElem?_eq_none_iff.mpr h]
theorem numbered_row {r : List Nat} (h : d8 r) (hl : r.length ≤ 7) : f_X3_numbered (nI (enc8 r)) = some (nI (enc8 (numb 0 r))) := by
  unfold f_X3_numbered
  have hd8 := numb_d8 hl
  refine lp3_1_inv (fun x1 x2 x3 => ∃ j, j ≤ 7 ∧ x3 = nI j ∧ x1 = nI (enc8 ((numb 0 r).take j)) ∧ x2 = nI (frogsIn (r.take j))) (fun _ _ x3 => 7 - x3.toNatClampNeg) (fun o => o = some (nI (enc8 (numb 0 r)))) ?_ fuel 0 0 0 ⟨0, Nat.zero_le _, rfl, by simp [enc8]; rfl, by simp [frogsIn]; rfl⟩ (fuel_gt (by decide))
  intro x1 x2 x3 nx ⟨j, hj, e3, e1, e2⟩ hn
  subst e3; subst e2; subst e1
  by_cases hc : 7 ≤ j
  · rw [if_pos (by rw [n_lit 7]; exact (nI_leI (by decide) (by omega)).mpr hc)]
    have : (numb 0 r).take j = numb 0 r := List.take_of_length_le (by rw [numb_len]; omega)
    rw [this]
  · rw [if_neg (fun q => hc (by rw [n_lit 7] at q; exact (nI_leI (by decide) (by omega)).mp q))]
    rw [at_row h hl (by omega)]
    have hd := d8_getD h j
    have hm : 7 - (nI (j + 1)).toNatClampNeg < 7 - (nI j).toNatClampNeg := by rw [nI_clamp (by omega), nI_clamp (by omega)]; omega
    show (if nI (r.getD j 0) = 0 then nx (nI (enc8 ((numb 0 r).take j))) (nI (frogsIn (r.take j))) (nI j + 1) else nx (nI (enc8 ((numb 0 r).take j)) ||| ((nI (frogsIn (r.take j)) + 1) <<< (((3 : Int32) * nI j) &&& 31))) (nI (frogsIn (r.take j)) + 1) (nI j + 1)) = _
    rw [nI_1, nI_1]
    by_cases hz : r.getD j 0 = 0
    · rw [if_pos ((nI_eq0 (by omega)).mpr hz)]
      refine hn _ _ _ ⟨j + 1, by omega, rfl, ?_, ?_⟩ hm
      · rcases Nat.lt_or_ge j r.length with q | q
        · rw [take_getD _ j (by rw [numb_len]; exact q), enc8_app, numb_at, if_pos hz]
          simp [enc8]
        · rw [List.take_of_length_le (by rw [numb_len]; omega), List.take_of_length_le (by rw [numb_len]; omega)]
      · rcases Nat.lt_or_ge j r.length with q | q
        · rw [take_getD _ j q, frogs_app, hz]; rfl
        · rw [List.take_of_length_le (by omega), List.take_of_length_le (by omega)]
    · rw [if_neg (fun q => hz ((nI_eq0 (by omega)).mp q))]
      have q : j < r.length := by
        rcases Nat.lt_or_ge j r.length with q | q
        · exact q
        · exact absurd (getD_out q) hz
      have hf7 : frogsIn (r.take j) ≤ j := by
        have := frogs_le (r.take j)
        rw [List.length_take] at this; omega
      have e4 : (3 : Int32) * nI j = nI (3 * j) := by rw [n_lit 3]; exact pk_mul 3 j
      have p6 := pow8_le (f := j) (by omega)
      have b1 : (frogsIn (r.take j) + 1) * 8 ^ j ≤ 8 * 262144 := Nat.mul_le_mul (by omega) p6
      have hA : enc8 ((numb 0 r).take j) < 2 ^ (3 * j) := by
        have := enc8_lt (d8_take hd8 j)
        rwa [List.length_take, numb_len, Nat.min_eq_left (by omega), ← pow8] at this
      rw [e4, pk_shlN _ (3 * j) (sh31 _ (by omega)) (by rw [pow8]; omega), nx_or, or_low' hA, pow8]
      refine hn _ _ _ ⟨j + 1, by omega, rfl, ?_, ?_⟩ hm
      · rw [take_getD _ j (by rw [numb_len]; exact q), enc8_app, numb_at, if_neg hz, List.length_take, numb_len, Nat.min_eq_left (by omega)]
        show nI _ = nI (_ + 8 ^ j * (0 + frogsIn (r.take j) + 1 + 8 * 0))
        congr 1
        rw [Nat.mul_zero, Nat.add_zero, Nat.zero_add, Nat.mul_comm]
      · rw [take_getD _ j q, frogs_app, frogs_cons, if_neg hz]; rfl
