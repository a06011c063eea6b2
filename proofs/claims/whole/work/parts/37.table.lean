/-! ===== the class's Table: rows met, looked up by open addressing ===== -/
theorem fill_eq {n : Nat} {f : Nat → Int32} {v : Int32} (hn : n < 1000000) : f_J7_fill_53178 n f v = some (fun j => if j < n then v else f j) := by
  unfold f_J7_fill_53178
  rw [nmv_d]
  refine lp2_1_inv (fun x2 g => ∃ j, j ≤ n ∧ x2 = nI j ∧ g = fun i => if i < j then v else f i) (fun x2 _ => n - x2.toNatClampNeg) (fun o => o = some (fun j => if j < n then v else f j)) ?_ fuel 0 f ⟨0, Nat.zero_le _, rfl, by funext i; simp⟩ (fuel_gt (by omega))
  intro x2 g nx ⟨j, hj, e2, eg⟩ hnx
  subst e2; subst eg
  have e0 : Int32.ofNat n = nI n := rfl
  rw [e0]
  by_cases hc : n ≤ j
  · rw [if_pos ((nI_leI (by omega) (by omega)).mpr hc), show j = n by omega]
  · rw [if_neg (fun q => hc ((nI_leI (by omega) (by omega)).mp q)), astI_in (by omega) (by omega), nmv_d, nI_1]
    refine hnx _ _ ⟨j + 1, by omega, rfl, ?_⟩ (by rw [nI_clamp (by omega), nI_clamp (by omega)]; omega)
    funext i
    unfold upd
    by_cases h1 : i = j
    · subst h1; simp
    · by_cases h2 : i < j
      · simp [h1, h2]; omega
      · have : ¬ i < j + 1 := by omega
        simp [h1, h2, this]
def hsh (w : Nat) : Nat := (UInt32.toInt32 (Int32.toUInt32 (nI w * (-1640531535 : Int32)) >>> (Int32.toUInt32 (22 : Int32) &&& Int32.toUInt32 31))).toBitVec.toNat % 2 ^ 10
def pr (h d : Nat) : Nat := (h + d) % 1024
def TIs (s : Nat → Nat) (slots rows : Nat → Int32) (L : List Nat) : Prop :=
  (∀ j, j < 1024 → slots j = nI (s j)) ∧ (∀ i, i < L.length → rows i = nI (L.getD i 0)) ∧ L.Nodup ∧ L.length ≤ 640 ∧ (∀ w ∈ L, w < 2 ^ 31) ∧ (∀ j, j < 1024 → s j ≤ L.length) ∧ ((List.range 1024).countP (fun j => s j != 0) = L.length) ∧ (∀ i, i < L.length → ∃ d, d < 1024 ∧ s (pr (hsh (L.getD i 0)) d) = i + 1 ∧ ∀ d', d' < d → s (pr (hsh (L.getD i 0)) d') ≠ 0)
/-- the table holds the rows L, in this order -/
def TI (slots rows : Nat → Int32) (L : List Nat) : Prop := ∃ s, TIs s slots rows L
theorem TI.nil {slots rows : Nat → Int32} (h : ∀ j, j < 1024 → slots j = 0) : TI slots rows [] := by
  refine ⟨fun _ => 0, fun j hj => by rw [h j hj]; rfl, fun i hi => absurd hi (Nat.not_lt_zero _), List.nodup_nil, by decide, fun w hw => by simp at hw, fun j _ => Nat.le_refl 0, ?_, fun i hi => absurd hi (Nat.not_lt_zero _)⟩
  simp
theorem clear_eq' {slots : Nat → Int32} {size : Int32} : f_X6_clear slots size = some (fun j => if j < 1024 then 0 else slots j, 0) := by
  unfold f_X6_clear
  rw [fill_eq (by decide)]
  rfl
theorem nodup_ix {L : List Nat} (h : L.Nodup) {i j : Nat} (hi : i < L.length) (hj : j < L.length) (e : L.getD i 0 = L.getD j 0) : i = j := by
  rw [List.getD_eq_getElem?_getD, List.getD_eq_getElem?_getD, List.getElem?_eq_getElem hi, List.getElem?_eq_getElem hj] at e
  exact (List.getElem_inj h).mp e
theorem slot_empty {s : Nat → Nat} (h : (List.range 1024).countP (fun j => s j != 0) < 1024) : ∃ j, j < 1024 ∧ s j = 0 := by
  apply Classical.byContradiction
  intro hn
  have h1 : ∀ j ∈ List.range 1024, (fun j => s j != 0) j = true := by
    intro j hj
    have h2 : s j ≠ 0 := fun e => hn ⟨j, List.mem_range.mp hj, e⟩
    simp [h2]
  have h3 := List.countP_eq_length.mpr h1
  rw [List.length_range] at h3
  omega
theorem slotOf_eq {s : Nat → Nat} {slots rows : Nat → Int32} {L : List Nat} {w : Nat} (hT : TIs s slots rows L) (hw : w < 2 ^ 31) : ∃ j, j < 1024 ∧ f_X6_slotOf slots rows (nI w) = some (nI j) ∧ ((∃ i, i < L.length ∧ L.getD i 0 = w ∧ s j = i + 1) ∨ (w ∉ L ∧ s j = 0 ∧ ∃ d, d < 1024 ∧ j = pr (hsh w) d ∧ ∀ d', d' < d → s (pr (hsh w) d') ≠ 0)) := by
  obtain ⟨h1, h2, h3, h4, h5, h6, h7, h8⟩ := hT
  unfold f_X6_slotOf
  rw [nmv_d, n_lit 1023]
  have e0 : (UInt32.toInt32 (Int32.toUInt32 (nI w * (-1640531535 : Int32)) >>> (Int32.toUInt32 (22 : Int32) &&& Int32.toUInt32 31))) &&& nI 1023 = nI (hsh w) := pk_and _ 10 (by decide +kernel)
  rw [e0]
  have hh : hsh w < 1024 := Nat.mod_lt _ (by decide)
  refine lp2_1_inv (fun x2 x3 => ∃ t, t ≤ 1024 ∧ x3 = nI t ∧ x2 = nI (pr (hsh w) t) ∧ ∀ d', d' < t → s (pr (hsh w) d') ≠ 0 ∧ L.getD (s (pr (hsh w) d') - 1) 0 ≠ w) (fun _ x3 => 1024 - x3.toNatClampNeg) (fun o => ∃ j, j < 1024 ∧ o = some (nI j) ∧ ((∃ i, i < L.length ∧ L.getD i 0 = w ∧ s j = i + 1) ∨ (w ∉ L ∧ s j = 0 ∧ ∃ d, d < 1024 ∧ j = pr (hsh w) d ∧ ∀ d', d' < d → s (pr (hsh w) d') ≠ 0))) ?_ fuel (nI (hsh w)) 0 ⟨0, by omega, rfl, by unfold pr; rw [Nat.add_zero, Nat.mod_eq_of_lt hh], fun d' h => absurd h (Nat.not_lt_zero _)⟩ (fuel_gt (by rw [nI_clamp (n := 0) (by decide) |> (fun h => (show (0 : Int32).toNatClampNeg = 0 from h))]; decide))
  intro x2 x3 nx ⟨t, ht, e3, e2, hd⟩ hnx
  subst e3; subst e2
  have hjt : pr (hsh w) t < 1024 := Nat.mod_lt _ (by decide)
  rw [n_lit 1024]
  by_cases hc : 1024 ≤ t
  · exfalso
    obtain ⟨j, hj, hz⟩ := slot_empty (s := s) (by omega)
    have := (hd ((j + 1024 - hsh w) % 1024) (by omega)).1
    have e : pr (hsh w) ((j + 1024 - hsh w) % 1024) = j := by unfold pr; omega
    rw [e] at this
    exact this hz
  · rw [if_neg (fun q => hc ((nI_leI (by decide) (by omega)).mp q)), ald_in hjt (by decide), nmv_d, h1 _ hjt]
    have hs6 := h6 _ hjt
    by_cases hz : s (pr (hsh w) t) = 0
    · have e : nI (s (pr (hsh w) t)) - (1 : Int32) < 0 := by rw [hz]; decide
      rw [if_pos e]
      refine ⟨_, hjt, rfl, Or.inr ⟨fun hm => ?_, hz, t, by omega, rfl, fun d' h => (hd d' h).1⟩⟩
      obtain ⟨i, hi, hiw⟩ := mem_getD hm
      obtain ⟨d, hd1, hd2, hd3⟩ := h8 i hi
      rw [hiw] at hd2 hd3
      rcases Nat.lt_trichotomy d t with q | q | q
      · have := (hd d q).2
        rw [hd2, Nat.add_sub_cancel, hiw] at this
        exact this rfl
      · rw [q, hz] at hd2; omega
      · exact hd3 t q hz
    · obtain ⟨u, hu⟩ : ∃ u, s (pr (hsh w) t) = u + 1 := ⟨s (pr (hsh w) t) - 1, by omega⟩
      have e : nI (s (pr (hsh w) t)) - (1 : Int32) = nI u := by rw [hu]; exact nI_pred u
      have hul : u < L.length := by omega
      rw [e, if_neg (nI_pos (by omega)), n_lit 640, if_neg (fun q => by have := (nI_leI (a := 640) (by decide) (by omega)).mp q; omega), ald_in (by omega) (by decide), h2 u hul]
      have hLu : L.getD u 0 < 2 ^ 31 := by
        have : L.getD u 0 ∈ L := by rw [List.getD_eq_getElem?_getD, List.getElem?_eq_getElem hul]; exact List.getElem_mem hul
        exact h5 _ this
      by_cases hm : L.getD u 0 = w
      · rw [if_pos (by rw [hm])]
        exact ⟨_, hjt, rfl, Or.inl ⟨u, hul, hm, hu⟩⟩
      · rw [if_neg (fun q => hm ((nI_eq hLu hw).mp q)), nmv_d, nmv_d, nI_1, nI_1]
        have e4 : nI (pr (hsh w) t + 1) &&& nI 1023 = nI (pr (hsh w) (t + 1)) := by
          have e5 : (pr (hsh w) t + 1) % 2 ^ 10 = pr (hsh w) (t + 1) := by unfold pr; omega
          rw [pk_andN (by omega) 10 (by decide +kernel), e5]
        rw [e4]
        refine hnx _ _ ⟨t + 1, by omega, rfl, rfl, fun d' h => ?_⟩ (by rw [nI_clamp (by omega), nI_clamp (by omega)]; omega)
        rcases Nat.lt_or_ge d' t with q | q
        · exact hd d' q
        · rw [show d' = t by omega]
          refine ⟨hz, ?_⟩
          rw [hu, Nat.add_sub_cancel]; exact hm
/-- the place of w in L -/
def plc (L : List Nat) (w : Nat) : Option Nat := if w ∈ L then some (L.idxOf w) else none
theorem plc_some {L : List Nat} {w i : Nat} (hn : L.Nodup) (hi : i < L.length) (e : L.getD i 0 = w) : plc L w = some i := by
  have e2 : L[i] = w := by rw [← e, List.getD_eq_getElem?_getD, List.getElem?_eq_getElem hi]; rfl
  have hm : w ∈ L := by rw [← e2]; exact List.getElem_mem hi
  unfold plc
  rw [if_pos hm, ← e2, hn.idxOf_getElem i hi]
theorem plc_none {L : List Nat} {w : Nat} (h : w ∉ L) : plc L w = none := by unfold plc; rw [if_neg h]
theorem find_eq {slots rows : Nat → Int32} {L : List Nat} {w : Nat} (hT : TI slots rows L) (hw : w < 2 ^ 31) : f_X6_find slots rows (nI w) = some (oI (plc L w)) := by
  obtain ⟨s, hT⟩ := hT
  obtain ⟨j, hj, hs, hc⟩ := slotOf_eq hT hw
  unfold f_X6_find
  rw [hs, cl1_s, ald_in hj (by decide), hT.1 j hj]
  rcases hc with ⟨i, hi, e, hsj⟩ | ⟨hn, hz, -⟩
  · rw [plc_some hT.2.2.1 hi e, hsj]
    show some (nI (i + 1) - 1) = some (nI i)
    rw [nI_pred]
  · rw [plc_none hn, hz]; rfl
theorem countP_upd {s : Nat → Nat} {j v : Nat} (hj : j < 1024) (hz : s j = 0) (hv : v ≠ 0) : (List.range 1024).countP (fun i => (if i = j then v else s i) != 0) = (List.range 1024).countP (fun i => s i != 0) + 1 := by
  have key : ∀ (n : Nat), (List.range n).countP (fun i => (if i = j then v else s i) != 0) = (List.range n).countP (fun i => s i != 0) + if j < n then 1 else 0 := by
    intro n
    induction n with
    | zero => simp
    | succ n ih =>
      rw [List.range_succ, List.countP_append, List.countP_append, ih]
      by_cases h : n = j
      · subst h
        simp [hz, hv]
      · have h2 : (j < n + 1) ↔ (j < n) := by omega
        simp only [List.countP_cons, List.countP_nil, h, if_false, h2]
        omega
  have := key 1024
  rw [if_pos hj] at this
  exact this
theorem meet_old {slots rows : Nat → Int32} {L : List Nat} {w i : Nat} (hT : TI slots rows L) (hi : i < L.length) (e : L.getD i 0 = w) (hw : w < 2 ^ 31) : f_X6_meet slots rows (nI L.length) (nI w) = some (nI i, slots, rows, nI L.length) := by
  obtain ⟨s, hT⟩ := hT
  obtain ⟨j, hj, hs, hc⟩ := slotOf_eq hT hw
  have hl := hT.2.2.2.1
  unfold f_X6_meet
  rw [hs, cl1_s, ald_in hj (by decide), hT.1 j hj]
  rcases hc with ⟨i2, hi2, e2, hsj⟩ | ⟨hn, -⟩
  · have : i2 = i := nodup_ix hT.2.2.1 hi2 hi (by rw [e, e2])
    subst this
    show (if nI (s j) = 0 then _ else _) = _
    rw [hsj, if_neg (nI_ne0 (by omega) (by omega)), ald_in hj (by decide), hT.1 j hj, hsj, nI_pred]
  · exfalso
    apply hn
    rw [← e, List.getD_eq_getElem?_getD, List.getElem?_eq_getElem hi]; exact List.getElem_mem hi
theorem meet_new {slots rows : Nat → Int32} {L : List Nat} {w : Nat} (hT : TI slots rows L) (hn : w ∉ L) (hl : L.length < 640) (hw : w < 2 ^ 31) : ∃ slots' rows', f_X6_meet slots rows (nI L.length) (nI w) = some (nI L.length, slots', rows', nI (L.length + 1)) ∧ TI slots' rows' (L ++ [w]) := by
  obtain ⟨s, hT⟩ := hT
  obtain ⟨j, hj, hs, hc⟩ := slotOf_eq hT hw
  obtain ⟨h1, h2, h3, h4, h5, h6, h7, h8⟩ := hT
  rcases hc with ⟨i2, hi2, e2, hsj⟩ | ⟨-, hz, d, hd, ed, hpr⟩
  · exfalso
    apply hn
    rw [← e2, List.getD_eq_getElem?_getD, List.getElem?_eq_getElem hi2]; exact List.getElem_mem hi2
  · refine ⟨upd slots j (nI (L.length + 1)), upd rows L.length (nI w), ?_, ?_⟩
    · unfold f_X6_meet
      rw [hs, cl1_s, ald_in hj (by decide), h1 j hj, hz]
      rw [jn3_d, if_pos nI_0, n_lit 640, if_pos (nI_lt hl (by decide)), astI_in hl (by decide), nmv_d, nI_1, astI_in hj (by decide)]
      show ald 1024 (upd slots j (nI (L.length + 1))) (nI j) _ = _
      rw [ald_in hj (by decide)]
      show some (upd slots j (nI (L.length + 1)) j - 1, _, _, _) = _
      rw [pk_us, nI_pred]
    · refine ⟨fun i => if i = j then L.length + 1 else s i, fun i hi => ?_, fun i hi => ?_, ?_, ?_, ?_, fun i hi => ?_, ?_, fun i hi => ?_⟩
      · unfold upd
        by_cases h : i = j
        · simp [h]
        · simp [h]; exact h1 i hi
      · rw [List.length_append, List.length_singleton] at hi
        unfold upd
        by_cases h : i = L.length
        · subst h
          simp [List.getD_eq_getElem?_getD]
        · have hi2 : i < L.length := by omega
          rw [if_neg h, h2 i hi2, List.getD_eq_getElem?_getD, List.getD_eq_getElem?_getD, List.getElem?_append_left hi2]
      · rw [List.nodup_append]
        exact ⟨h3, by simp, fun a ha b hb e => hn (by simp at hb; rw [← hb, ← e]; exact ha)⟩
      · rw [List.length_append, List.length_singleton]; omega
      · intro x hx
        rcases List.mem_append.mp hx with h | h
        · exact h5 x h
        · simp at h; rw [h]; exact hw
      · rw [List.length_append, List.length_singleton]
        show (if i = j then L.length + 1 else s i) ≤ _
        have := h6 i hi
        split <;> omega
      · rw [countP_upd hj hz (by omega), h7, List.length_append, List.length_singleton]
      · rw [List.length_append, List.length_singleton] at hi
        by_cases h : i = L.length
        · subst h
          have eg : (L ++ [w]).getD L.length 0 = w := by simp [List.getD_eq_getElem?_getD]
          rw [eg]
          refine ⟨d, hd, by show (if _ = j then _ else _) = _; rw [if_pos ed.symm], fun d' hd' => ?_⟩
          show (if _ = j then _ else _) ≠ 0
          split
          · omega
          · exact hpr d' hd'
        · have hi2 : i < L.length := by omega
          have eg : (L ++ [w]).getD i 0 = L.getD i 0 := by rw [List.getD_eq_getElem?_getD, List.getD_eq_getElem?_getD, List.getElem?_append_left hi2]
          rw [eg]
          obtain ⟨d2, q1, q2, q3⟩ := h8 i hi2
          refine ⟨d2, q1, ?_, fun d' hd' => ?_⟩
          · show (if _ = j then _ else _) = _
            rw [if_neg (fun e => by rw [e, hz] at q2; omega)]; exact q2
          · show (if _ = j then _ else _) ≠ 0
            split
            · omega
            · exact q3 d' hd'
