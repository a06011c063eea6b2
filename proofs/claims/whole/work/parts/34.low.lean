theorem bits_cons {x k : Nat} {ks : List Nat} (h : bitsOf x = k :: ks) : k < 64 ∧ x.testBit k = true ∧ (∀ i, i < k → x.testBit i = false) ∧ k ∉ ks := by
  have hm : k ∈ bitsOf x := by rw [h]; exact List.mem_cons_self
  obtain ⟨h1, h2⟩ := List.mem_filter.mp hm
  have hs : (bitsOf x).Pairwise (· < ·) := List.pairwise_lt_range.sublist List.filter_sublist
  rw [h] at hs
  have hp := List.pairwise_cons.mp hs
  refine ⟨List.mem_range.mp h1, h2, fun i hi => ?_, fun hk => absurd (hp.1 k hk) (Nat.lt_irrefl k)⟩
  cases hb : x.testBit i with
  | false => rfl
  | true =>
    have hm2 : i ∈ bitsOf x := List.mem_filter.mpr ⟨List.mem_range.mpr (by have := List.mem_range.mp h1; omega), hb⟩
    rw [h] at hm2
    rcases List.mem_cons.mp hm2 with e | e
    · omega
    · have := hp.1 i e; omega
theorem low_form {x k : Nat} (h1 : x.testBit k = true) (h2 : ∀ i, i < k → x.testBit i = false) : ∃ m, x = 2 ^ (k + 1) * m + 2 ^ k := by
  refine ⟨x / 2 ^ (k + 1), ?_⟩
  have h3 : x % 2 ^ (k + 1) = 2 ^ k := by
    apply Nat.eq_of_testBit_eq
    intro i
    rw [Nat.testBit_mod_two_pow, Nat.testBit_two_pow]
    rcases Nat.lt_trichotomy i k with g | g | g
    · rw [h2 i g]; simp; omega
    · subst g; rw [h1]; simp
    · have : ¬ i < k + 1 := by omega
      simp [this]; omega
  have h4 := Nat.div_add_mod x (2 ^ (k + 1))
  omega
theorem bit_x {m k i : Nat} : (2 ^ (k + 1) * m + 2 ^ k).testBit i = if i < k + 1 then decide (k = i) else m.testBit (i - (k + 1)) := by
  rw [Nat.testBit_two_pow_mul_add _ (Nat.pow_lt_pow_right (by decide) (by omega))]
  by_cases h : i < k + 1
  · rw [if_pos h, if_pos h, Nat.testBit_two_pow]
  · rw [if_neg h, if_neg h]
theorem bit_x1 {m k i : Nat} : (2 ^ (k + 1) * m + 2 ^ k - 1).testBit i = if i < k + 1 then decide (i < k) else m.testBit (i - (k + 1)) := by
  have hp : 0 < 2 ^ k := Nat.pow_pos (by decide)
  rw [show 2 ^ (k + 1) * m + 2 ^ k - 1 = 2 ^ (k + 1) * m + (2 ^ k - 1) by omega, Nat.testBit_two_pow_mul_add _ (by have : 2 ^ k < 2 ^ (k + 1) := Nat.pow_lt_pow_right (by decide) (by omega); omega)]
  by_cases h : i < k + 1
  · rw [if_pos h, if_pos h, Nat.testBit_two_pow_sub_one]
  · rw [if_neg h, if_neg h]
theorem and_clear {m k : Nat} : ∀ i, ((2 ^ (k + 1) * m + 2 ^ k) &&& (2 ^ (k + 1) * m + 2 ^ k - 1)).testBit i = ((2 ^ (k + 1) * m + 2 ^ k).testBit i && decide (i ≠ k)) := by
  intro i
  rw [Nat.testBit_and, bit_x, bit_x1]
  by_cases h : i < k + 1
  · rw [if_pos h, if_pos h]
    by_cases e : k = i
    · subst e; simp
    · simp [e]
  · rw [if_neg h, if_neg h]
    have : i ≠ k := by omega
    simp [this]
theorem and_neg {m k : Nat} (hx : 2 ^ (k + 1) * m + 2 ^ k < 2 ^ 64) (hk : k < 64) : (2 ^ (k + 1) * m + 2 ^ k) &&& (2 ^ 64 - (2 ^ (k + 1) * m + 2 ^ k)) = 2 ^ k := by
  have hp : 0 < 2 ^ k := Nat.pow_pos (by decide)
  apply Nat.eq_of_testBit_eq
  intro i
  rw [Nat.testBit_and, show 2 ^ 64 - (2 ^ (k + 1) * m + 2 ^ k) = 2 ^ 64 - ((2 ^ (k + 1) * m + 2 ^ k - 1) + 1) by omega, Nat.testBit_two_pow_sub_succ (by omega), bit_x, bit_x1, Nat.testBit_two_pow]
  by_cases h : i < k + 1
  · rw [if_pos h, if_pos h]
    by_cases e : k = i
    · subst e; simp [hk]
    · simp [e]
  · rw [if_neg h, if_neg h]
    have : ¬ k = i := by omega
    simp only [this, decide_false]
    cases m.testBit (i - (k + 1)) <;> simp
theorem lN_neg {x : Nat} (h : x ≤ 2 ^ 64) : -(lN x) = lN (2 ^ 64 - x) := by
  apply wb_inj
  show -(BitVec.ofNat 64 x) = BitVec.ofNat 64 (2 ^ 64 - x)
  apply BitVec.eq_of_toNat_eq
  rw [BitVec.toNat_neg, BitVec.toNat_ofNat, BitVec.toNat_ofNat]
  omega
theorem cnt_lt : ∀ k, k < 64 → ((List.range 64).filter (fun i => decide (i < k))).length = k := by decide +kernel
theorem low_eq {x k : Nat} {ks : List Nat} (hx : x < 2 ^ 64) (h : bitsOf x = k :: ks) : f_X3_lowestMove (lN x) = some (nI k) := by
  obtain ⟨hk, h1, h2, -⟩ := bits_cons h
  obtain ⟨m, rfl⟩ := low_form h1 h2
  have hp : 0 < 2 ^ k := Nat.pow_pos (by decide)
  have hp2 : 2 ^ k < 2 ^ 64 := Nat.pow_lt_pow_right (by decide) hk
  unfold f_X3_lowestMove
  rw [lN_neg (by omega), wb_and hx (by omega), and_neg hx hk, l_lit 1, lN_sub hp, bitCount_eq (by omega)]
  have e : (bitsOf (2 ^ k - 1)).length = k := by
    have : bitsOf (2 ^ k - 1) = (List.range 64).filter (fun i => decide (i < k)) := by
      unfold bitsOf
      apply List.filter_congr
      intro i _
      rw [Nat.testBit_two_pow_sub_one]
    rw [this, cnt_lt k hk]
  rw [e]
  show some (nI k &&& (63 : Int32)) = _
  rw [pk_andN (by omega) 6 (by decide +kernel)]
  congr 2; omega
theorem clear_eq {x k : Nat} {ks : List Nat} (hx : x < 2 ^ 64) (h : bitsOf x = k :: ks) : ∃ y, y < 2 ^ 64 ∧ lN x &&& (lN x - (1 : Int64)) = lN y ∧ bitsOf y = ks := by
  obtain ⟨hk, h1, h2, h3⟩ := bits_cons h
  obtain ⟨m, rfl⟩ := low_form h1 h2
  have hp : 0 < 2 ^ k := Nat.pow_pos (by decide)
  refine ⟨(2 ^ (k + 1) * m + 2 ^ k) &&& (2 ^ (k + 1) * m + 2 ^ k - 1), Nat.lt_of_le_of_lt Nat.and_le_left hx, ?_, ?_⟩
  · rw [l_lit 1, lN_sub (by omega), wb_and hx (by omega)]
  · have e : bitsOf ((2 ^ (k + 1) * m + 2 ^ k) &&& (2 ^ (k + 1) * m + 2 ^ k - 1)) = (bitsOf (2 ^ (k + 1) * m + 2 ^ k)).filter (fun i => decide (i ≠ k)) := by
      unfold bitsOf
      rw [List.filter_filter]
      apply List.filter_congr
      intro i _
      rw [and_clear, Bool.and_comm]
    rw [e, h, List.filter_cons_of_neg (by simp), List.filter_eq_self]
    intro i hi
    have : i ≠ k := fun q => h3 (q ▸ hi)
    simp [this]
theorem bits_0 : bitsOf 0 = [] := by decide +kernel
theorem bits_nil {x : Nat} (hx : x < 2 ^ 64) (h : bitsOf x = []) : x = 0 := by
  apply Nat.eq_of_testBit_eq
  intro i
  rw [Nat.zero_testBit]
  cases hb : x.testBit i with
  | false => rfl
  | true =>
    rcases Nat.lt_or_ge i 64 with q | q
    · have hm : i ∈ bitsOf x := List.mem_filter.mpr ⟨List.mem_range.mpr q, hb⟩
      rw [h] at hm
      simp at hm
    · rw [Nat.testBit_lt_two_pow (Nat.lt_of_lt_of_le hx (Nat.pow_le_pow_right (by decide) q))] at hb
      cases hb
