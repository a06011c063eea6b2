/-! ===== a move taken back; copies; the reference's position ===== -/
theorem mc_shr {m : Nat × Nat} (h1 : m.1 < 8) (h2 : m.2 < 8) : nI (mc m) >>> ((3 : Int32) &&& 31) = nI m.1 ∧ nI (mc m) &&& (7 : Int32) = nI m.2 := by
  have key : ∀ a, a < 8 → ∀ b, b < 8 → nI (8 * a + b) >>> ((3 : Int32) &&& 31) = nI a ∧ nI (8 * a + b) &&& (7 : Int32) = nI b := by decide +kernel
  exact key m.1 h1 m.2 h2
theorem takeBack_eq {n : Nat} {g : Fl} {rd : Nd} {m : Nat × Nat} {hs : List (Nat × Nat)} {made movers : A32} {row numbers size : Int32} (h : OkH n g rd (m :: hs)) (hr : noR rd (m :: hs) made movers row numbers size) :
    ∃ row' numbers', f_X2_takeBack made row numbers size = some (nI m.1, row', numbers', nI hs.length) ∧ noR rd hs made movers row' numbers' (nI hs.length) ∧ OkH n g rd hs := by
  obtain ⟨rfl, rfl, rfl, ha⟩ := hr
  have h60 := h.2.2.2
  rw [List.length_cons] at h60
  have hn := h.2.1
  have hlg := h.2.2.1
  obtain ⟨ht, h0, hft, -⟩ := may_to hlg.1 hlg.2.1
  have hf := hlg.1
  have hp := h.tl.pi
  have hp' := h.pi
  have h0' := (hp.2.2.1 m.2 ht).mp h0
  refine ⟨nI (enc8 (rowH rd hs)), nI (enc8 (numH rd hs)), ?_, ⟨rfl, rfl, rfl, ha.2.2⟩, h.tl⟩
  unfold f_X2_takeBack
  have hmc := mc_shr (m := m) (by omega) (by omega)
  have e0 : nI (hs.length + 1) - 1 = nI hs.length := by rw [n_lit 1]; exact (pk_sub (by omega)).trans rfl
  rw [List.length_cons, if_neg (nI_nle (by omega) (by omega)), if_pos (show nI (hs.length + 1) ≤ 60 from nI_le (b := 60) h60 (by decide)), nmv_d, e0, ald_in (by omega) (by decide), nmv_d, ald_in (by omega) (by decide), nmv_d, ha.1, hmc.1, hmc.2, mc_nI]
  have e1 : f_X3_moved (nI (enc8 (rowH rd (m :: hs)))) (nI (mc (m.2, m.1))) = some (nI (enc8 (mvd (rowH rd (m :: hs)) m.2 m.1))) := moved_row h.rw.d (by rw [h.rw.1]; exact hn) (by rw [h.rw.1]; exact ht) (by rw [h.rw.1]; exact hf) (Ne.symm hft) (by
    show (mvd (rowH rd hs) m.1 m.2).getD m.1 0 = 0
    rw [mvd_at (by rw [hp.1.1]; exact hf) (by rw [hp.1.1]; exact ht), if_neg hft, if_pos rfl])
  have e2 : f_X3_moved (nI (enc8 (numH rd (m :: hs)))) (nI (mc (m.2, m.1))) = some (nI (enc8 (mvd (numH rd (m :: hs)) m.2 m.1))) := moved_row h.nd (by rw [hp'.2.1]; exact hn) (by rw [hp'.2.1]; exact ht) (by rw [hp'.2.1]; exact hf) (Ne.symm hft) (by
    show (mvd (numH rd hs) m.1 m.2).getD m.1 0 = 0
    rw [mvd_at (by rw [hp.2.1]; exact hf) (by rw [hp.2.1]; exact ht), if_neg hft, if_pos rfl])
  rw [e1, cl1_s, e2, cl1_s]
  show some (nI m.1, nI (enc8 (mvd (mvd (rowH rd hs) m.1 m.2) m.2 m.1)), nI (enc8 (mvd (mvd (numH rd hs) m.1 m.2) m.2 m.1)), nI hs.length) = _
  rw [mvd_back hp.1.1 hf ht hft h0, mvd_back hp.2.1 hf ht hft h0']
theorem copy_eq {rd : Nd} {hs : List (Nat × Nat)} {made movers o_made o_movers : A32} {row numbers size o_row o_numbers o_size : Int32} (h60 : hs.length ≤ 60) (hr : noR rd hs o_made o_movers o_row o_numbers o_size) :
    ∃ made' movers', f_X2_copy_a made movers row numbers size o_made o_movers o_row o_numbers o_size = some (made', movers', o_row, o_numbers, o_size) ∧ noR rd hs made' movers' o_row o_numbers o_size := by
  unfold f_X2_copy_a
  have es := hr.2.2.1
  refine lp3_2_inv (fun (x2 : Int32) (m1 m2 : A32) => ∃ j, j ≤ hs.length ∧ x2 = nI j ∧ ∀ i, i < j → m1 i = o_made i ∧ m2 i = o_movers i) (fun x2 _ _ => 60 - x2.toNatClampNeg) (fun o => ∃ (made' movers' : A32), o = some (made', movers', o_row, o_numbers, o_size) ∧ noR rd hs made' movers' o_row o_numbers o_size) ?_ fuel 0 made movers ⟨0, Nat.zero_le _, rfl, fun i hi => absurd hi (Nat.not_lt_zero _)⟩ (fuel_gt (by omega))
  intro x2 m1 m2 nx ⟨j, hj, e2, hm⟩ hnx
  subst e2
  by_cases hc : hs.length ≤ j
  · rw [es, if_pos (nI_le hc (by omega))]
    refine ⟨m1, m2, rfl, hr.1, hr.2.1, rfl, AtH.cong hs (fun i hi => hm i (by omega)) hr.2.2.2⟩
  · rw [es, if_neg (fun q => hc ((nI_leI (by omega) (by omega)).mp q)), if_neg (show ¬ (60 : Int32) ≤ nI j from fun q => by have := (nI_leI (a := 60) (by decide) (by omega)).mp q; omega), ald_in (by omega) (by decide), astI_in (by omega) (by decide), ald_in (by omega) (by decide), astI_in (by omega) (by decide), nmv_d, nI_1]
    rw [es] at hnx
    refine hnx _ _ _ ⟨j + 1, by omega, rfl, ?_⟩ (by rw [nI_clamp (by omega), nI_clamp (by omega)]; omega)
    intro i hi
    show (if i = j then _ else _) = _ ∧ (if i = j then _ else _) = _
    by_cases q : i = j
    · rw [if_pos q, if_pos q, q]; exact ⟨rfl, rfl⟩
    · rw [if_neg q, if_neg q]; exact hm i (by omega)
theorem copy_b (o_made o_movers : A32) (o_row o_numbers o_size : Int32) (made movers : A32) (row numbers size : Int32) : f_X2_copy_b o_made o_movers o_row o_numbers o_size made movers row numbers size = f_X2_copy_a made movers row numbers size o_made o_movers o_row o_numbers o_size := rfl
def FtH (mf mt : A32) : List (Nat × Nat) → Prop
  | [] => True
  | m :: hs => mf hs.length = nI m.1 ∧ mt hs.length = nI m.2 ∧ FtH mf mt hs
theorem FtH.upd {mf mt : A32} {k : Nat} {x y : Int32} : ∀ (hs : List (Nat × Nat)), hs.length ≤ k → FtH mf mt hs → FtH (upd mf k x) (upd mt k y) hs
  | [], _, _ => trivial
  | m :: hs, hl, h => by
    rw [List.length_cons] at hl
    refine ⟨?_, ?_, FtH.upd hs (by omega) h.2.2⟩
    · show (if hs.length = k then _ else _) = _
      rw [if_neg (by omega)]; exact h.1
    · show (if hs.length = k then _ else _) = _
      rw [if_neg (by omega)]; exact h.2.1
theorem FtH.cong {mf mt mf' mt' : A32} : ∀ (hs : List (Nat × Nat)), (∀ i, i < hs.length → mf' i = mf i ∧ mt' i = mt i) → FtH mf mt hs → FtH mf' mt' hs
  | [], _, _ => trivial
  | m :: hs, hl, h => by
    have h1 := hl hs.length (by rw [List.length_cons]; omega)
    exact ⟨by rw [h1.1]; exact h.1, by rw [h1.2]; exact h.2.1, FtH.cong hs (fun i hi => hl i (by rw [List.length_cons]; omega)) h.2.2⟩
theorem FtH.at {mf mt : A32} : ∀ (hs : List (Nat × Nat)) (j : Nat), FtH mf mt hs → j < hs.length → ∃ m hs', hs.drop (hs.length - 1 - j) = m :: hs' ∧ hs'.length = j ∧ mf j = nI m.1 ∧ mt j = nI m.2
  | [], j, _, hj => absurd hj (Nat.not_lt_zero _)
  | m :: hs, j, h, hj => by
    rw [List.length_cons] at hj ⊢
    by_cases q : j = hs.length
    · subst q
      exact ⟨m, hs, by rw [Nat.add_sub_cancel, Nat.sub_self]; rfl, rfl, h.1, h.2.1⟩
    · obtain ⟨m', hs', e, r⟩ := FtH.at hs j h.2.2 (by omega)
      refine ⟨m', hs', ?_, r⟩
      rw [show hs.length + 1 - 1 - j = (hs.length - 1 - j) + 1 by omega]
      exact e
def moR (n : Nat) (rd : Nd) (hs : List (Nat × Nat)) (rowNow frogOn : A32) (moved : Int32) (mf mt : A32) : Prop := rowAt rowNow (rowH rd hs) ∧ (∀ i, i < n → frogOn i = nI ((numH rd hs).getD i 0) - 1) ∧ moved = nI hs.length ∧ FtH mf mt hs
theorem nIm1 {v f : Nat} (hv : v < 2 ^ 30) (hf : f < 2 ^ 30) : nI v - 1 = nI f ↔ v = f + 1 := by
  constructor
  · intro h
    have this : nI v - 1 + 1 = nI f + 1 := congrArg (· + 1) h
    rw [Int32.sub_add_cancel, nI_1] at this
    exact (nI_eq (by omega) (by omega)).mp this
  · intro h
    rw [h, ← nI_1, Int32.add_sub_cancel]
theorem stoneOfM_eq {n : Nat} {g : Fl} {rd : Nd} {hs : List (Nat × Nat)} {f : Nat} {frogOn : A32} (h : OkH n g rd hs) (hm : ∀ i, i < n → frogOn i = nI ((numH rd hs).getD i 0) - 1) (hf : f < frogsIn rd) : f_X8_stoneOf frogOn (nI f) = some (nI (stn (numH rd hs) f)) := by
  have hp := h.pi
  obtain ⟨h1, h2, h3⟩ := hp.stone hf
  have hn := h.2.1
  have hfr := h.fr
  unfold f_X8_stoneOf
  refine lp1_1_inv (fun x2 => ∃ j, j ≤ stn (numH rd hs) f ∧ x2 = nI j) (fun x2 => 8 - x2.toNatClampNeg) (fun o => o = some (nI (stn (numH rd hs) f))) ?_ fuel 0 ⟨0, Nat.zero_le _, rfl⟩ (fuel_gt (by omega))
  intro x2 nx ⟨j, hj, e⟩ hnx
  subst e
  have hd := d8_getD h.nd j
  rw [ald_in (by omega) (by decide), hm j (by omega)]
  by_cases hc : (numH rd hs).getD j 0 = f + 1
  · rw [if_pos ((nIm1 (by omega) (by omega)).mpr hc), (h3 j (by omega)).mp hc]
  · rw [if_neg (fun q => hc ((nIm1 (by omega) (by omega)).mp q)), nmv_d, nI_1]
    have : j ≠ stn (numH rd hs) f := fun q => hc ((h3 j (by omega)).mpr q)
    exact hnx _ ⟨j + 1, by omega, rfl⟩ (by rw [nI_clamp (by omega), nI_clamp (by omega)]; omega)
theorem stn_mv {n : Nat} {rd r nu : Nd} {a b f : Nat} (h : PI n rd r nu) (ha : a < n) (hb : b < n) (hab : a ≠ b) (h0 : r.getD b 0 = 0) (hf : f < frogsIn rd) : (nu.getD a 0 = f + 1 → stn (mvd nu a b) f = b ∧ stn nu f = a) ∧ (nu.getD a 0 ≠ f + 1 → stn (mvd nu a b) f = stn nu f ∧ stn nu f ≠ b) := by
  have hp := h.mv ha hb hab h0
  obtain ⟨h1, h2, h3⟩ := h.stone hf
  obtain ⟨q1, q2, q3⟩ := hp.stone hf
  have n0 : nu.getD b 0 = 0 := (h.2.2.1 b hb).mp h0
  have hnl := h.2.1
  have en : ∀ i, (mvd nu a b).getD i 0 = if i = b then nu.getD a 0 else if i = a then 0 else nu.getD i 0 := fun i => mvd_at (by omega) (by omega)
  constructor
  · intro he
    refine ⟨((q3 b hb).mp (by rw [en, if_pos rfl, he])).symm, ((h3 a ha).mp he).symm⟩
  · intro he
    have hsb : stn nu f ≠ b := fun q => by rw [q, n0] at h2; omega
    have hsa : stn nu f ≠ a := fun q => he (by rw [← q, h2])
    exact ⟨((q3 _ h1).mp (by rw [en, if_neg hsb, if_neg hsa, h2])).symm, hsb⟩
theorem movedMany_eq {n : Nat} {g : Fl} {rd : Nd} {hs : List (Nat × Nat)} {f : Nat} {rowNow frogOn mf mt : A32} {moved : Int32} (h : OkH n g rd hs) (hm : moR n rd hs rowNow frogOn moved mf mt) (hf : f < frogsIn rd) : f_X8_movedMany frogOn moved mf mt (nI f) = some (nI (tmv rd f hs)) := by
  obtain ⟨-, hfo, rfl, hft⟩ := hm
  have h60 := h.2.2.2
  unfold f_X8_movedMany
  rw [stoneOfM_eq h hfo hf, cl1_s, nmv_d]
  refine lp3_1_inv (fun x2 x3 x4 => ∃ j c hs', j ≤ hs.length ∧ hs.drop (hs.length - j) = hs' ∧ hs'.length = j ∧ x4 = nI j - 1 ∧ x2 = nI (stn (numH rd hs') f) ∧ x3 = nI c ∧ c + tmv rd f hs' = tmv rd f hs) (fun _ _ x4 => (x4 + 1).toNatClampNeg) (fun o => o = some (nI (tmv rd f hs))) ?_ fuel _ 0 _ ⟨hs.length, 0, hs, Nat.le_refl _, by rw [Nat.sub_self]; rfl, rfl, rfl, rfl, rfl, by omega⟩ (fuel_gt (by rw [Int32.sub_add_cancel, nI_clamp (by omega)]; omega))
  intro x2 x3 x4 nx ⟨j, c, hs', hj, ed, hl, e4, e2, e3, hc⟩ hnx
  subst e4; subst e2; subst e3
  have htl := tmv_le rd f hs
  cases j with
  | zero =>
    rw [if_pos (show nI 0 - 1 < 0 by decide)]
    have : hs' = [] := List.length_eq_zero_iff.mp hl
    subst this
    have : c = tmv rd f hs := hc
    rw [this]
  | succ j =>
    obtain ⟨m, hs2, ed', hl2, hmf, hmt⟩ := FtH.at hs j hft (by omega)
    have : hs' = m :: hs2 := by rw [← ed, ← ed']; congr 1; omega
    subst this
    have hlg : LgH n g rd (m :: hs2) := by rw [← ed']; exact LgH.drop _ hs h.2.2.1
    obtain ⟨ht, h0, hne, hnz⟩ := may_to hlg.1 hlg.2.1
    have hp2 := PIH h.1 hs2 hlg.2.2
    have hn := h.2.1
    have hst := stn_mv hp2 hlg.1 ht hne h0 hf
    have hs1 := (PIH h.1 (m :: hs2) hlg).stone hf
    have hs2' := hp2.stone hf
    have e0 : nI (j + 1) - 1 = nI j := by rw [← nI_1, Int32.add_sub_cancel]
    rw [e0, if_neg (nI_pos (by omega)), ald_in (by omega) (by decide), jn2_d, hmt]
    have em : nI j + (-1) = nI j - 1 := by rw [Int32.sub_eq_add_neg]
    have hmes : (nI j - 1 + 1).toNatClampNeg < (nI j + 1).toNatClampNeg := by rw [Int32.sub_add_cancel, nI_1, nI_clamp (by omega), nI_clamp (by omega)]; omega
    have htm : tmv rd f (m :: hs2) = tmv rd f hs2 + if (numH rd hs2).getD m.1 0 = f + 1 then 1 else 0 := rfl
    rw [e0] at hnx
    have htl2 := tmv_le rd f hs2
    by_cases q : (numH rd hs2).getD m.1 0 = f + 1
    · obtain ⟨a1, a2⟩ := hst.1 q
      have a1 : stn (numH rd (m :: hs2)) f = m.2 := a1
      rw [if_pos q] at htm
      rw [a1, if_pos rfl, nmv_d, ald_in (by omega) (by decide), hmf]
      dsimp only
      rw [nmv_d, nI_1, em]
      exact hnx _ _ _ ⟨j, c + 1, hs2, by omega, drop_drop1 (by omega) ed', hl2, rfl, by rw [a2], rfl, by omega⟩ hmes
    · obtain ⟨a1, a2⟩ := hst.2 q
      have a1 : stn (numH rd (m :: hs2)) f = stn (numH rd hs2) f := a1
      rw [if_neg q] at htm
      rw [a1, if_neg (fun w => a2 ((nI_eq (by omega) (by omega)).mp w).symm)]
      dsimp only
      rw [nmv_d, em]
      exact hnx _ _ _ ⟨j, c, hs2, by omega, drop_drop1 (by omega) ed', hl2, rfl, rfl, rfl, by omega⟩ hmes
