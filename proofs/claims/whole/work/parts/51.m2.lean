/-! ===== the reference: rows as numbers of base five ===== -/
def enc5 : List Nat → Nat
  | [] => 0
  | k :: r => k + 5 * enc5 r
def d5 (r : List Nat) : Prop := ∀ k ∈ r, k < 5
theorem d5_tail {k : Nat} {r : List Nat} (h : d5 (k :: r)) : d5 r := fun x hx => h x (List.mem_cons_of_mem _ hx)
theorem Rw.d5 {n : Nat} {r : List Nat} (h : Rw n r) : d5 r := fun k hk => Nat.lt_of_le_of_lt (h.2 k hk) (by decide)
theorem enc5_lt : ∀ {r : List Nat}, d5 r → enc5 r < 5 ^ r.length
  | [], _ => by decide
  | k :: r, h => by
    have h1 := enc5_lt (d5_tail h)
    have h2 := h k List.mem_cons_self
    show k + 5 * enc5 r < 5 ^ (r.length + 1)
    rw [Nat.pow_succ]; omega
theorem enc5_78 {n : Nat} {r : List Nat} (h : Rw n r) (hn : n ≤ 7) : enc5 r < 78125 := by
  have h1 := enc5_lt h.d5
  rw [h.1] at h1
  have h2 : 5 ^ n ≤ 5 ^ 7 := Nat.pow_le_pow_right (by decide) hn
  omega
theorem enc5_inj : ∀ {r s : List Nat}, d5 r → d5 s → r.length = s.length → enc5 r = enc5 s → r = s
  | [], [], _, _, _, _ => rfl
  | a :: r, b :: s, h1, h2, hl, he => by
    have ha := h1 a List.mem_cons_self
    have hb := h2 b List.mem_cons_self
    have he : a + 5 * enc5 r = b + 5 * enc5 s := he
    have h3 : a = b := by omega
    have h4 : enc5 r = enc5 s := by omega
    rw [h3, enc5_inj (d5_tail h1) (d5_tail h2) (by simpa using hl) h4]
theorem Rw.inj5 {n : Nat} {r s : List Nat} (hr : Rw n r) (hs : Rw n s) (e : enc5 r = enc5 s) : r = s := enc5_inj hr.d5 hs.d5 (by rw [hr.1, hs.1]) e
theorem enc5_set : ∀ {r : List Nat} {i k : Nat}, i < r.length → enc5 (r.set i k) + r.getD i 0 * 5 ^ i = enc5 r + k * 5 ^ i
  | [], _, _, h => absurd h (Nat.not_lt_zero _)
  | d :: r, 0, k, _ => by
    show k + 5 * enc5 r + d * 1 = d + 5 * enc5 r + k * 1
    omega
  | d :: r, i + 1, k, h => by
    have ih := enc5_set (r := r) (i := i) (k := k) (by simpa using h)
    show d + 5 * enc5 (r.set i k) + r.getD i 0 * 5 ^ (i + 1) = d + 5 * enc5 r + k * 5 ^ (i + 1)
    rw [Nat.pow_succ, ← Nat.mul_assoc, ← Nat.mul_assoc]
    omega
theorem enc5_mvd {r : List Nat} {f t : Nat} (hf : f < r.length) (ht : t < r.length) (hft : f ≠ t) (h0 : r.getD t 0 = 0) : enc5 (mvd r f t) + r.getD f 0 * 5 ^ f = enc5 r + r.getD f 0 * 5 ^ t := by
  have h1 := enc5_set (r := r) (i := f) (k := 0) hf
  have h2 := enc5_set (r := r.set f 0) (i := t) (k := r.getD f 0) (by simpa using ht)
  rw [getD_set hf, if_neg (Ne.symm hft), h0] at h2
  unfold mvd
  omega
theorem power_eq {p : Nat} (hp : p ≤ 7) : f_X8_power (nI p) = some (nI (5 ^ p)) := by
  unfold f_X8_power
  refine lp2_1_inv (fun x1 x2 => ∃ j, j ≤ p ∧ x2 = nI j ∧ x1 = nI (5 ^ j)) (fun _ x2 => p - x2.toNatClampNeg) (fun o => o = some (nI (5 ^ p))) ?_ fuel 1 0 ⟨0, Nat.zero_le _, rfl, rfl⟩ (fuel_gt (by omega))
  intro x1 x2 nx ⟨j, hj, e2, e1⟩ hnx
  subst e2; subst e1
  by_cases hc : p ≤ j
  · rw [if_pos (nI_le hc (by omega)), show j = p by omega]
  · rw [if_neg (fun q => hc ((nI_leI (by omega) (by omega)).mp q)), nmv_d, nmv_d, nI_1, n_lit 5, pk_mul]
    exact hnx _ _ ⟨j + 1, by omega, rfl, by rw [Nat.pow_succ]⟩ (by rw [nI_clamp (by omega), nI_clamp (by omega)]; omega)
theorem behind_eq {n : Nat} {r : Nd} {f t : Nat} (hr : Rw n r) (hn : n ≤ 7) (hf : f < n) (ht : t < n) (hft : f ≠ t) (h0 : r.getD t 0 = 0) : f_X8_behindMove (nI (enc5 r)) (nI (r.getD f 0)) (nI f) (nI t) = some (nI (enc5 (mvd r f t))) := by
  unfold f_X8_behindMove
  have h1 := enc5_mvd (r := r) (f := f) (t := t) (by rw [hr.1]; exact hf) (by rw [hr.1]; exact ht) hft h0
  rw [power_eq (by omega), cl1_s, power_eq (by omega), cl1_s, pk_mul, pk_mul]
  have h2 : r.getD f 0 * 5 ^ f ≤ enc5 r := by
    have := enc5_set (r := r) (i := f) (k := 0) (by rw [hr.1]; exact hf)
    omega
  rw [pk_sub h2, nI_add]
  congr 2; omega
theorem take_getD' (r : List Nat) (j : Nat) (h : j < r.length) : r.drop j = r.getD j 0 :: r.drop (j + 1) := by
  rw [List.drop_eq_getElem_cons h]
  simp [List.getD_eq_getElem?_getD, h]
theorem codeOf_eq {n : Nat} {m : A32} {r : Nd} (hm : rowAt m r) (hr : Rw n r) (hn : n ≤ 7) : f_X8_codeOf (nI n) m = some (nI (enc5 r)) := by
  unfold f_X8_codeOf
  rw [nmv_d]
  refine lp2_1_inv (fun x1 x2 => ∃ j, j ≤ n ∧ (x2 = nI j - 1) ∧ x1 = nI (enc5 (r.drop j))) (fun _ x2 => (x2 + 1).toNatClampNeg) (fun o => o = some (nI (enc5 r))) ?_ fuel 0 _ ⟨n, Nat.le_refl _, rfl, by rw [List.drop_of_length_le (by rw [hr.1]; exact Nat.le_refl _)]; rfl⟩ (fuel_gt (by rw [Int32.sub_add_cancel, nI_clamp (by omega)]; omega))
  intro x1 x2 nx ⟨j, hj, e2, e1⟩ hnx
  subst e2; subst e1
  cases j with
  | zero =>
    rw [if_pos (by decide)]
    rw [List.drop_zero]
  | succ j =>
    rw [nI_pred, if_neg (nI_pos (by omega)), ald_in (by omega) (by decide), nmv_d, nmv_d, hm j (by rw [hr.1]; omega)]
    have e : (5 : Int32) * nI (enc5 (r.drop (j + 1))) + nI (r.getD j 0) = nI (enc5 (r.drop j)) := by
      rw [n_lit 5, pk_mul, nI_add, take_getD' r j (by rw [hr.1]; omega)]
      show nI _ = nI (_ + 5 * _)
      congr 1; omega
    rw [e]
    refine hnx _ _ ⟨j, by omega, ?_, rfl⟩ ?_
    · rw [Int32.sub_eq_add_neg]
    · rw [Int32.sub_add_cancel, nI_clamp (by omega), show nI j + -1 + 1 = nI j from by rw [Int32.add_assoc]; simp, nI_clamp (by omega)]; omega
theorem turnedCode_eq {n : Nat} {m : A32} {r : Nd} (hm : rowAt m r) (hr : Rw n r) (hn : n ≤ 7) : f_X8_turnedCode (nI n) m = some (nI (enc5 r.reverse)) := by
  unfold f_X8_turnedCode
  refine lp2_1_inv (fun x1 x2 => ∃ j, j ≤ n ∧ x2 = nI j ∧ x1 = nI (enc5 (r.take j).reverse)) (fun _ x2 => n - x2.toNatClampNeg) (fun o => o = some (nI (enc5 r.reverse))) ?_ fuel 0 0 ⟨0, Nat.zero_le _, rfl, rfl⟩ (fuel_gt (by omega))
  intro x1 x2 nx ⟨j, hj, e2, e1⟩ hnx
  subst e2; subst e1
  by_cases hc : n ≤ j
  · rw [if_pos (nI_le hc (by omega)), List.take_of_length_le (by rw [hr.1]; exact hc)]
  · rw [if_neg (fun q => hc ((nI_leI (by omega) (by omega)).mp q)), ald_in (by omega) (by decide), nmv_d, nmv_d, hm j (by rw [hr.1]; omega), nI_1]
    refine hnx _ _ ⟨j + 1, by omega, rfl, ?_⟩ (by rw [nI_clamp (by omega), nI_clamp (by omega)]; omega)
    rw [n_lit 5, pk_mul, nI_add, take_getD r j (by rw [hr.1]; omega), List.reverse_append]
    show nI _ = nI (r.getD j 0 + 5 * enc5 (r.take j).reverse)
    congr 1; omega
theorem layRow_eq {n : Nat} {m : A32} {r : Nd} (hr : Rw n r) (hn : n ≤ 7) : ∃ m', f_X8_layRow (nI n) m (nI (enc5 r)) = some m' ∧ rowAt m' r := by
  unfold f_X8_layRow
  have h78 := enc5_78 hr hn
  refine lp3_1_inv (fun x2 x3 m1 => ∃ j, j ≤ n ∧ x3 = nI j ∧ x2 = nI (enc5 (r.drop j)) ∧ ∀ i, i < j → m1 i = nI (r.getD i 0)) (fun _ x3 _ => n - x3.toNatClampNeg) (fun o => ∃ m', o = some m' ∧ rowAt m' r) ?_ fuel _ 0 m ⟨0, Nat.zero_le _, rfl, rfl, fun i hi => absurd hi (Nat.not_lt_zero _)⟩ (fuel_gt (by omega))
  intro x2 x3 m1 nx ⟨j, hj, e3, e2, hm⟩ hnx
  subst e3; subst e2
  by_cases hc : n ≤ j
  · rw [if_pos (nI_le hc (by omega))]
    exact ⟨m1, rfl, fun i hi => hm i (by rw [hr.1] at hi; omega)⟩
  · have hj2 : j < r.length := by rw [hr.1]; omega
    have hd := take_getD' r j hj2
    have hle : enc5 (r.drop j) < 78125 := by
      have h1 := enc5_lt (r := r.drop j) (fun k hk => hr.d5 k (List.mem_of_mem_drop hk))
      rw [List.length_drop, hr.1] at h1
      have h2 : 5 ^ (n - j) ≤ 5 ^ 7 := Nat.pow_le_pow_right (by decide) (by omega)
      omega
    have e5 : enc5 (r.drop j) = r.getD j 0 + 5 * enc5 (r.drop (j + 1)) := by rw [hd]; rfl
    have hk := hr.at j
    rw [if_neg (fun q => hc ((nI_leI (by omega) (by omega)).mp q)), irem_in (by decide), astI_in (by omega) (by decide), idiv_in (by decide), nmv_d, nI_1, n_lit 5, pk_rem (by omega) (by decide) (by decide), pk_div (by omega) (by decide) (by decide)]
    refine hnx _ _ _ ⟨j + 1, by omega, rfl, by congr 1; omega, fun i hi => ?_⟩ (by rw [nI_clamp (by omega), nI_clamp (by omega)]; omega)
    unfold upd
    by_cases e : i = j
    · rw [if_pos e, e]; congr 1; omega
    · rw [if_neg e]; exact hm i (by omega)
theorem lay_copy {n : Nat} {src m : A32} {r : Nd} (hs : rowAt src r) (hr : r.length = n) (hn : n ≤ 7) : ∃ m', f_X8_layNow (nI n) src (nI 0) m = some (nI n, m') ∧ f_X8_layRead (nI n) src (nI 0) m = some (nI n, m') ∧ rowAt m' r := by
  have key : ∃ m', (lp2_1 (fun (x1_1 : Int32) (m_row_2 : Nat → Int32) nx10 ex10 => if nI n ≤ x1_1 then ex10 m_row_2 else ald 7 src x1_1 fun v_5 => astI 7 m_row_2 x1_1 v_5 fun m_row_7 => nmv (α := Int32) (x1_1 + 1) fun x1_9 => nx10 x1_9 m_row_7) (fun (m_row_3 : Nat → Int32) => some (nI n, m_row_3)) fuel 0 m) = some (nI n, m') ∧ rowAt m' r := by
    refine lp2_1_inv (fun x1 m1 => ∃ j, j ≤ n ∧ x1 = nI j ∧ ∀ i, i < j → m1 i = nI (r.getD i 0)) (fun x1 _ => n - x1.toNatClampNeg) (fun o => ∃ m', o = some (nI n, m') ∧ rowAt m' r) ?_ fuel 0 m ⟨0, Nat.zero_le _, rfl, fun i hi => absurd hi (Nat.not_lt_zero _)⟩ (fuel_gt (by omega))
    intro x1 m1 nx ⟨j, hj, e1, hm⟩ hnx
    subst e1
    by_cases hc : n ≤ j
    · rw [if_pos (nI_le hc (by omega))]
      exact ⟨m1, rfl, fun i hi => hm i (by omega)⟩
    · rw [if_neg (fun q => hc ((nI_leI (by omega) (by omega)).mp q)), ald_in (by omega) (by decide), astI_in (by omega) (by decide), nmv_d, nI_1, hs j (by omega)]
      refine hnx _ _ ⟨j + 1, by omega, rfl, fun i hi => ?_⟩ (by rw [nI_clamp (by omega), nI_clamp (by omega)]; omega)
      unfold upd
      by_cases e : i = j
      · rw [if_pos e, e]
      · rw [if_neg e]; exact hm i (by omega)
  obtain ⟨m', h1, h2⟩ := key
  exact ⟨m', h1, h1, h2⟩
theorem layNow_eq {n : Nat} {src m : A32} {r : Nd} {l0 : Int32} (hs : rowAt src r) (hr : r.length = n) (hn : n ≤ 7) : ∃ m', f_X8_layNow (nI n) src l0 m = some (nI n, m') ∧ rowAt m' r := by
  obtain ⟨m', h1, -, h2⟩ := lay_copy (m := m) hs hr hn
  exact ⟨m', h1, h2⟩
theorem layRead_eq {n : Nat} {src m : A32} {r : Nd} {l0 : Int32} (hs : rowAt src r) (hr : r.length = n) (hn : n ≤ 7) : ∃ m', f_X8_layRead (nI n) src l0 m = some (nI n, m') ∧ rowAt m' r := by
  obtain ⟨m', -, h1, h2⟩ := lay_copy (m := m) hs hr hn
  exact ⟨m', h1, h2⟩
theorem goal_eq {n : Nat} {src m : A32} {r : Nd} {l0 : Int32} (hs : rowAt src r) (hr : Rw n r) (hn : n ≤ 7) : ∃ m', f_X8_goal (nI n) src l0 m = some (nI (enc5 r.reverse), nI n, m') ∧ rowAt m' r := by
  obtain ⟨m', h1, h2⟩ := layRead_eq (m := m) (l0 := l0) hs hr.1 hn
  refine ⟨m', ?_, h2⟩
  unfold f_X8_goal
  rw [h1, cl2_s, turnedCode_eq h2 hr hn, cl1_s]
/-- the moves ahead of (f, t) -/
def mvp (n : Nat) (g : Fl) (r : Nd) (f t : Nat) : List (Nat × Nat) := ((List.range f).flatMap fun a => ((List.range n).filter fun b => may n g r true a b).map fun b => (a, b)) ++ ((List.range t).filter fun b => may n g r true f b).map fun b => (f, b)
theorem mvp_0 (n : Nat) (g : Fl) (r : Nd) : mvp n g r 0 0 = [] := rfl
theorem mvp_t {n : Nat} {g : Fl} {r : Nd} {f t : Nat} : mvp n g r f (t + 1) = mvp n g r f t ++ if may n g r true f t then [(f, t)] else [] := by
  unfold mvp
  rw [List.range_succ, List.filter_append, List.map_append, ← List.append_assoc]
  congr 1
  by_cases h : may n g r true f t = true
  · simp [h]
  · have h : may n g r true f t = false := by simpa using h
    simp [h]
theorem mvp_f {n : Nat} {g : Fl} {r : Nd} {f : Nat} : mvp n g r f n = mvp n g r (f + 1) 0 := by
  unfold mvp
  rw [List.range_succ, List.flatMap_append]
  simp
theorem filter_8 {n : Nat} {p : Nat → Bool} (hn : n ≤ 8) (h : ∀ t, n ≤ t → p t = false) : (List.range 8).filter p = (List.range n).filter p := by
  rw [show (8 : Nat) = n + (8 - n) by omega, List.range_add, List.filter_append]
  have : ((List.range (8 - n)).map (n + ·)).filter p = [] := by
    rw [List.filter_eq_nil_iff]
    intro t ht
    obtain ⟨j, -, rfl⟩ := List.mem_map.mp ht
    simp [h (n + j) (by omega)]
  rw [this, List.append_nil]
theorem mvp_all {n : Nat} {g : Fl} {r : Nd} (hn : n ≤ 7) : mvp n g r n 0 = mvs n g r true := by
  unfold mvp mvs
  rw [List.range_zero, List.filter_nil, List.map_nil, List.append_nil, List.flatMap_eq_foldl, List.flatMap_eq_foldl]
  rw [← List.flatMap_eq_foldl, ← List.flatMap_eq_foldl]
  have h : ∀ l : List Nat, (∀ a ∈ l, a < n) → (l.flatMap fun a => ((List.range n).filter fun b => may n g r true a b).map fun b => (a, b)) = l.flatMap fun s => ((List.range 8).filter fun t => may n g r true s t).map fun t => (s, t) := by
    intro l
    induction l with
    | nil => intro _; rfl
    | cons a l ih =>
      intro hl
      rw [List.flatMap_cons, List.flatMap_cons, ih (fun x hx => hl x (List.mem_cons_of_mem _ hx)), filter_8 (n := n) (by omega) (fun t ht => ?_)]
      cases hm : may n g r true a t with
      | false => rfl
      | true => have := (may_to (hl a List.mem_cons_self) hm).1; omega
  exact h _ (fun a ha => List.mem_range.mp ha)
theorem moveMany_eq {n : Nat} {g : Fl} {m : A32} {r : Nd} (hm : rowAt m r) (hr : Rw n r) (hn : n ≤ 7) : f_X8_moveMany (bI (gA g)) (bI (gB g)) (bI (gR g)) (bI (gT g)) (nI n) m = some (nI (mvs n g r true).length) := by
  unfold f_X8_moveMany
  refine lp2_1_inv (fun x1 x2 => ∃ f, f ≤ n ∧ x2 = nI f ∧ x1 = nI (mvp n g r f 0).length) (fun _ x2 => n - x2.toNatClampNeg) (fun o => o = some (nI (mvs n g r true).length)) ?_ fuel 0 0 ⟨0, Nat.zero_le _, rfl, rfl⟩ (fuel_gt (by omega))
  intro x1 x2 nx ⟨f, hf, e2, e1⟩ hnx
  subst e2; subst e1
  by_cases hc : n ≤ f
  · rw [if_pos (nI_le hc (by omega)), show f = n by omega, mvp_all hn]
  · rw [if_neg (fun q => hc ((nI_leI (by omega) (by omega)).mp q))]
    refine lp2_1_inv (fun x1 x3 => ∃ t, t ≤ n ∧ x3 = nI t ∧ x1 = nI (mvp n g r f t).length) (fun _ x3 => n - x3.toNatClampNeg) (fun o => o = some (nI (mvs n g r true).length)) ?_ fuel _ 0 ⟨0, Nat.zero_le _, rfl, rfl⟩ (fuel_gt (by omega))
    intro x1 x3 nx2 ⟨t, ht, e3, e1⟩ hnx2
    subst e3; subst e1
    by_cases hc2 : n ≤ t
    · rw [if_pos (nI_le hc2 (by omega))]
      show nx (nI (mvp n g r f t).length) (nI f + 1) = _
      rw [nI_1, show t = n by omega, mvp_f]
      exact hnx _ _ ⟨f + 1, by omega, rfl, rfl⟩ (by rw [nI_clamp (by omega), nI_clamp (by omega)]; omega)
    · rw [if_neg (fun q => hc2 ((nI_leI (by omega) (by omega)).mp q)), mayMove_eq hm hr hn (by omega) (by omega), cl1_s, jn1_d]
      have hnext : ∀ c : Nat, (mvp n g r f (t + 1)).length = (mvp n g r f t).length + c → (nmv (α := Int32) (nI (mvp n g r f t).length + nI c) fun x1_12 => nmv (α := Int32) (nI t + 1) fun x3_13 => nx2 x1_12 x3_13) = some (nI (mvs n g r true).length) := by
        intro c hcc
        rw [nmv_d, nmv_d, nI_1, nI_add, ← hcc]
        exact hnx2 _ _ ⟨t + 1, by omega, rfl, rfl⟩ (by rw [nI_clamp (by omega), nI_clamp (by omega)]; omega)
      cases hb : may n g r true f t with
      | false =>
        rw [if_pos (show bI false = 0 from rfl)]
        exact hnext 0 (by rw [mvp_t, hb]; simp)
      | true =>
        rw [if_neg (show ¬ bI true = 0 by decide)]
        exact hnext 1 (by rw [mvp_t, hb]; simp)
