/-! ===== all moves of a row, in their order ===== -/
def may (n : Nat) (g : Fl) (r : List Nat) (sense : Bool) (f t : Nat) : Bool := (tgN n g r sense f).testBit t
theorem lmN_bit (o : Option Nat) (t : Nat) : (lmN o).testBit t = decide (o = some t) := by
  cases o with
  | none => simp [lmN]
  | some p =>
    show (2 ^ p).testBit t = _
    rw [Nat.testBit_two_pow]
    simp
theorem may_iff {n : Nat} {g : Fl} {r : List Nat} {sense : Bool} {f t : Nat} : may n g r sense f t = true ↔ r.getD f 0 ≠ 0 ∧ r.getD f 0 ≠ 3 ∧ (land n g r f (fwd (r.getD f 0) sense) = some t ∨ gB g = true ∧ land n g r f (!fwd (r.getD f 0) sense) = some t) := by
  unfold may tgN
  by_cases h : r.getD f 0 = 0 ∨ r.getD f 0 = 3
  · rw [if_pos h, Nat.zero_testBit]
    constructor
    · intro q; cases q
    · intro q; omega
  · rw [if_neg h, Nat.testBit_or, lmN_bit]
    cases hb : gB g with
    | false =>
      simp only [Bool.false_eq_true, if_false, Nat.zero_testBit, Bool.or_false, decide_eq_true_eq, false_and, or_false]
      constructor
      · intro q; exact ⟨fun z => h (Or.inl z), fun z => h (Or.inr z), q⟩
      · intro q; exact q.2.2
    | true =>
      rw [if_pos rfl, lmN_bit]
      simp only [Bool.or_eq_true, decide_eq_true_eq, true_and]
      constructor
      · intro q; exact ⟨fun z => h (Or.inl z), fun z => h (Or.inr z), q⟩
      · intro q; exact q.2.2
theorem may_to {n : Nat} {g : Fl} {r : List Nat} {sense : Bool} {f t : Nat} (hf : f < n) (h : may n g r sense f t = true) : t < n ∧ r.getD t 0 = 0 ∧ f ≠ t ∧ r.getD f 0 ≠ 0 := by
  obtain ⟨h0, h3, h4⟩ := may_iff.mp h
  have h5 : t < n ∧ r.getD t 0 = 0 := by
    rcases h4 with h4 | ⟨-, h4⟩
    · exact lnd_lt hf h4
    · exact lnd_lt hf h4
  exact ⟨h5.1, h5.2, fun e => h0 (by rw [e]; exact h5.2), h0⟩
theorem bit_dec {T t : Nat} : T / 2 ^ t % 2 = 1 ↔ T.testBit t = true := by rw [Nat.testBit_eq_decide_div_mod_eq]; simp
theorem allows_eq {n : Nat} {g : Fl} {r : List Nat} {f t : Nat} (hr : Rw n r) (hn : n ≤ 7) (hf : f < n) (ht : t < n) : f_X4_allows (nI n) (bI (gA g)) (bI (gB g)) (bI (gR g)) (bI (gT g)) (nI (enc8 r)) (nI f) (nI t) = some (bI (may n g r true f t)) := by
  unfold f_X4_allows
  have e1 : (1 : Int32) = dI true := rfl
  have h1 := targets_eq (g := g) (sense := true) hr hn hf
  have hlt := tgN_lt (g := g) (r := r) (sense := true) hf hn
  rw [e1, h1, ← e1]
  show (if (nI (tgN n g r true f) >>> (nI t &&& 31)) &&& (1 : Int32) = 1 then some 1 else some 0) = _
  rw [pk_shrN (by omega) _ t (sh31 t (by omega))]
  have h2 : tgN n g r true f / 2 ^ t < 2 ^ 32 := Nat.lt_of_le_of_lt (Nat.div_le_self _ _) (by omega)
  rw [pk_andN h2 1 (by decide +kernel)]
  unfold may
  by_cases hb : (tgN n g r true f).testBit t = true
  · rw [if_pos (show nI (tgN n g r true f / 2 ^ t % 2 ^ 1) = 1 by rw [Nat.pow_one, bit_dec.mpr hb]; rfl), hb]; rfl
  · have h3 : ¬ tgN n g r true f / 2 ^ t % 2 = 1 := fun q => hb (bit_dec.mp q)
    rw [if_neg (show ¬ nI (tgN n g r true f / 2 ^ t % 2 ^ 1) = 1 by
      rw [Nat.pow_one]
      intro q
      exact h3 ((nI_eq (a := tgN n g r true f / 2 ^ t % 2) (b := 1) (by omega) (by decide)).mp q))]
    have h4 : (tgN n g r true f).testBit t = false := by simpa using hb
    rw [h4]; rfl
def mask (n : Nat) (g : Fl) (r : List Nat) (sense : Bool) : Nat := eB ((List.range n).map (tgN n g r sense))
theorem eB_snoc : ∀ (xs : List Nat) (y : Nat), eB (xs ++ [y]) = eB xs + y * 256 ^ xs.length
  | [], y => by simp [eB]
  | x :: xs, y => by
    show x + 256 * eB (xs ++ [y]) = x + 256 * eB xs + y * 256 ^ (xs.length + 1)
    rw [eB_snoc xs y, Nat.pow_succ, Nat.mul_add, ← Nat.mul_assoc y, Nat.mul_comm 256 (y * _), Nat.add_assoc]
theorem pow256 (j : Nat) : 2 ^ (8 * j) = 256 ^ j := by rw [Nat.pow_mul]
theorem mask_lt8 {n : Nat} {g : Fl} {r : List Nat} {sense : Bool} (hn : n ≤ 7) : lt8 ((List.range n).map (tgN n g r sense)) := fun b hb => by
  obtain ⟨s, hs, rfl⟩ := List.mem_map.mp hb
  have := tgN_lt (g := g) (r := r) (sense := sense) (List.mem_range.mp hs) hn
  omega
theorem mask_lt {n : Nat} {g : Fl} {r : List Nat} {sense : Bool} (hn : n ≤ 7) : mask n g r sense < 2 ^ 64 := by
  have h := eB_lt (mask_lt8 (g := g) (r := r) (sense := sense) hn)
  rw [List.length_map, List.length_range] at h
  have h2 : 256 ^ n ≤ 256 ^ 7 := Nat.pow_le_pow_right (by decide) hn
  have h3 : 256 ^ 7 < 2 ^ 64 := by decide
  exact Nat.lt_of_lt_of_le h (by omega)
theorem allMoves_eq {n : Nat} {g : Fl} {r : List Nat} {sense : Bool} (hr : Rw n r) (hn : n ≤ 7) : f_X4_allMoves (nI n) (bI (gA g)) (bI (gB g)) (bI (gR g)) (bI (gT g)) (nI (enc8 r)) (dI sense) = some (lN (mask n g r sense)) := by
  unfold f_X4_allMoves
  refine lp2_1_inv (fun x3 x5 => ∃ j, j ≤ n ∧ x5 = nI j ∧ x3 = lN (eB ((List.range j).map (tgN n g r sense)))) (fun _ x5 => n - x5.toNatClampNeg) (fun o => o = some (lN (mask n g r sense))) ?_ fuel 0 0 ⟨0, Nat.zero_le _, rfl, rfl⟩ (fuel_gt (by omega))
  intro x3 x5 nx ⟨j, hj, e5, e3⟩ hnx
  subst e5; subst e3
  by_cases hc : n ≤ j
  · rw [if_pos ((nI_leI (by omega) (by omega)).mpr hc), show j = n by omega]; rfl
  · rw [if_neg (fun q => hc ((nI_leI (by omega) (by omega)).mp q)), targets_eq hr hn (by omega)]
    have hT := tgN_lt (g := g) (r := r) (sense := sense) (s := j) (by omega) hn
    have hL : lt8 ((List.range j).map (tgN n g r sense)) := fun b hb => by
      obtain ⟨s, hs, rfl⟩ := List.mem_map.mp hb
      have h9 := List.mem_range.mp hs
      have := tgN_lt (g := g) (r := r) (sense := sense) (s := s) (by omega) hn
      omega
    have hA := eB_lt hL
    rw [List.length_map, List.length_range] at hA
    have hp : 256 ^ j ≤ 256 ^ 6 := Nat.pow_le_pow_right (by decide) (by omega)
    have hB : tgN n g r sense j * 256 ^ j ≤ 2 ^ 7 * 256 ^ 6 := Nat.mul_le_mul (by omega) hp
    have e6 : (256 : Nat) ^ 6 = 281474976710656 := by decide
    show nx (lN (eB ((List.range j).map (tgN n g r sense))) ||| ((Int32.toInt64 (nI (tgN n g r sense j))) <<< (Int32.toInt64 ((8 : Int32) * nI j) &&& 63))) (nI j + 1) = _
    have e1 : (8 : Int32) * nI j = nI (8 * j) := by rw [n_lit 8]; exact pk_mul 8 j
    rw [e1, nI_l (by omega), wb_shl _ (by omega), pow256, wb_or (by omega) (by omega), ← pow256, or_low' (by rw [pow256]; exact hA), pow256, nI_1]
    refine hnx _ _ ⟨j + 1, by omega, rfl, ?_⟩ (by rw [nI_clamp (by omega), nI_clamp (by omega)]; omega)
    rw [List.range_succ, List.map_append]
    show _ = lN (eB (_ ++ [tgN n g r sense j]))
    rw [eB_snoc, List.length_map, List.length_range]
def bl : Nat → List Nat → List (Nat × Nat)
  | _, [] => []
  | s, b :: bs => ((List.range 8).filter (fun t => b.testBit t)).map (fun t => (s, t)) ++ bl (s + 1) bs
def mc (m : Nat × Nat) : Nat := 8 * m.1 + m.2
theorem bl_bits : ∀ {bs : List Nat} (s : Nat), lt8 bs → ((List.range (8 * bs.length)).filter (fun i => (eB bs).testBit i)).map (fun i => 8 * s + i) = (bl s bs).map mc
  | [], _, _ => rfl
  | b :: bs, s, h => by
    have hb := h b List.mem_cons_self
    have e : 8 * (b :: bs).length = 8 + 8 * bs.length := by rw [List.length_cons]; omega
    have hE : eB (b :: bs) = 2 ^ 8 * eB bs + b := by show b + 256 * eB bs = _; omega
    rw [e, List.range_add, List.filter_append, List.map_append, List.filter_map, List.map_map]
    show _ = (_ ++ bl (s + 1) bs).map mc
    rw [List.map_append, ← bl_bits (s + 1) (lt8_tail h), List.map_map]
    congr 1
    · have h1 : (List.range 8).filter (fun i => (eB (b :: bs)).testBit i) = (List.range 8).filter (fun t => b.testBit t) := by
        apply List.filter_congr
        intro i hi
        rw [hE, Nat.testBit_two_pow_mul_add _ (by omega : b < 2 ^ 8), if_pos (List.mem_range.mp hi)]
      rw [h1]; rfl
    · have h1 : (List.range (8 * bs.length)).filter ((fun i => (eB (b :: bs)).testBit i) ∘ fun x => 8 + x) = (List.range (8 * bs.length)).filter (fun i => (eB bs).testBit i) := by
        apply List.filter_congr
        intro i hi
        show (eB (b :: bs)).testBit (8 + i) = _
        rw [hE, Nat.testBit_two_pow_mul_add _ (by omega : b < 2 ^ 8), if_neg (by omega)]
        congr 1; omega
      rw [h1]
      apply List.map_congr_left
      intro i _
      show 8 * s + (8 + i) = 8 * (s + 1) + i
      omega
theorem bl_all {bs : List Nat} (h : lt8 bs) (hl : bs.length ≤ 8) : bitsOf (eB bs) = (bl 0 bs).map mc := by
  rw [← bl_bits 0 h]
  have e : (64 : Nat) = 8 * bs.length + (64 - 8 * bs.length) := by omega
  unfold bitsOf
  rw [e, List.range_add, List.filter_append]
  have h1 : ((List.range (64 - 8 * bs.length)).map (fun x => 8 * bs.length + x)).filter (fun i => (eB bs).testBit i) = [] := by
    rw [List.filter_eq_nil_iff]
    intro i hi
    obtain ⟨j, -, rfl⟩ := List.mem_map.mp hi
    have h2 := eB_lt h
    rw [← pow256] at h2
    rw [Nat.testBit_lt_two_pow (Nat.lt_of_lt_of_le h2 (Nat.pow_le_pow_right (by decide) (by omega)))]
    simp
  rw [h1, List.append_nil]
  simp
def mvs (n : Nat) (g : Fl) (r : List Nat) (sense : Bool) : List (Nat × Nat) := (List.range n).flatMap fun s => ((List.range 8).filter fun t => may n g r sense s t).map fun t => (s, t)
theorem bl_range (f : Nat → Nat) : ∀ (k s : Nat), bl s ((List.range' s k).map f) = (List.range' s k).flatMap fun s => ((List.range 8).filter fun t => (f s).testBit t).map fun t => (s, t)
  | 0, s => rfl
  | k + 1, s => by
    rw [List.range'_succ, List.map_cons, List.flatMap_cons]
    show _ ++ bl (s + 1) _ = _
    rw [bl_range f k (s + 1)]
theorem mask_bits {n : Nat} {g : Fl} {r : List Nat} {sense : Bool} (hn : n ≤ 7) : bitsOf (mask n g r sense) = (mvs n g r sense).map mc := by
  unfold mask
  rw [bl_all (mask_lt8 hn) (by rw [List.length_map, List.length_range]; omega)]
  rw [List.range_eq_range', bl_range, ← List.range_eq_range']
  rfl
theorem mem_mvs {n : Nat} {g : Fl} {r : List Nat} {sense : Bool} {m : Nat × Nat} (hn : n ≤ 7) : m ∈ mvs n g r sense ↔ m.1 < n ∧ may n g r sense m.1 m.2 = true := by
  unfold mvs
  rw [List.mem_flatMap]
  constructor
  · rintro ⟨s, hs, h⟩
    obtain ⟨t, ht, rfl⟩ := List.mem_map.mp h
    exact ⟨List.mem_range.mp hs, (List.mem_filter.mp ht).2⟩
  · rintro ⟨h1, h2⟩
    refine ⟨m.1, List.mem_range.mpr h1, List.mem_map.mpr ⟨m.2, List.mem_filter.mpr ⟨List.mem_range.mpr ?_, h2⟩, rfl⟩⟩
    have := (may_to h1 h2).1
    omega
theorem mvs_nodup {n : Nat} {g : Fl} {r : List Nat} {sense : Bool} (hn : n ≤ 7) : (mvs n g r sense).Nodup := by
  have h : ((mvs n g r sense).map mc).Nodup := by
    rw [← mask_bits hn]
    exact List.nodup_range.sublist List.filter_sublist
  exact List.Pairwise.of_map mc (fun a b hab e => hab (by rw [e])) h
