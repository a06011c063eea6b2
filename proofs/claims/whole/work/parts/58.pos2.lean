/-! ===== the class's Position ===== -/
def AtH (rd : Nd) (made movers : A32) : List (Nat × Nat) → Prop
  | [] => True
  | m :: hs => made hs.length = nI (mc m) ∧ movers hs.length = nI ((numH rd hs).getD m.1 0 - 1) ∧ AtH rd made movers hs
/-- what a brook and its moves keep to -/
def OkH (n : Nat) (g : Fl) (rd : Nd) (hs : List (Nat × Nat)) : Prop := Rw n rd ∧ n ≤ 7 ∧ LgH n g rd hs ∧ hs.length ≤ 60
def noR (rd : Nd) (hs : List (Nat × Nat)) (made movers : A32) (row numbers size : Int32) : Prop := row = nI (enc8 (rowH rd hs)) ∧ numbers = nI (enc8 (numH rd hs)) ∧ size = nI hs.length ∧ AtH rd made movers hs
theorem OkH.pi {n : Nat} {g : Fl} {rd : Nd} {hs : List (Nat × Nat)} (h : OkH n g rd hs) : PI n rd (rowH rd hs) (numH rd hs) := PIH h.1 hs h.2.2.1
theorem OkH.rw {n : Nat} {g : Fl} {rd : Nd} {hs : List (Nat × Nat)} (h : OkH n g rd hs) : Rw n (rowH rd hs) := h.pi.1
theorem OkH.nd {n : Nat} {g : Fl} {rd : Nd} {hs : List (Nat × Nat)} (h : OkH n g rd hs) : d8 (numH rd hs) := h.pi.d8 h.1.1 h.2.1
theorem OkH.tl {n : Nat} {g : Fl} {rd : Nd} {m : Nat × Nat} {hs : List (Nat × Nat)} (h : OkH n g rd (m :: hs)) : OkH n g rd hs := ⟨h.1, h.2.1, h.2.2.1.2.2, by have := h.2.2.2; rw [List.length_cons] at this; omega⟩
theorem OkH.fr {n : Nat} {g : Fl} {rd : Nd} {hs : List (Nat × Nat)} (h : OkH n g rd hs) : frogsIn rd ≤ n ∧ frogsIn rd ≤ 7 := by
  have := frogs_le rd
  have h1 := h.1.1
  have h2 := h.2.1
  omega
theorem AtH.upd {rd : Nd} {made movers : A32} {k : Nat} {x y : Int32} : ∀ (hs : List (Nat × Nat)), hs.length ≤ k → AtH rd made movers hs → AtH rd (upd made k x) (upd movers k y) hs
  | [], _, _ => trivial
  | m :: hs, hl, h => by
    rw [List.length_cons] at hl
    refine ⟨?_, ?_, AtH.upd hs (by omega) h.2.2⟩
    · show (if hs.length = k then _ else _) = _
      rw [if_neg (by omega)]; exact h.1
    · show (if hs.length = k then _ else _) = _
      rw [if_neg (by omega)]; exact h.2.1
theorem AtH.cong {rd : Nd} {made movers made' movers' : A32} : ∀ (hs : List (Nat × Nat)), (∀ i, i < hs.length → made' i = made i ∧ movers' i = movers i) → AtH rd made movers hs → AtH rd made' movers' hs
  | [], _, _ => trivial
  | m :: hs, hl, h => by
    have h1 := hl hs.length (by rw [List.length_cons]; omega)
    exact ⟨by rw [h1.1]; exact h.1, by rw [h1.2]; exact h.2.1, AtH.cong hs (fun i hi => hl i (by rw [List.length_cons]; omega)) h.2.2⟩
theorem stoneOf_eq {n : Nat} {g : Fl} {rd : Nd} {hs : List (Nat × Nat)} {f : Nat} (h : OkH n g rd hs) (hf : f < frogsIn rd) : f_X2_stoneOf (nI (enc8 (numH rd hs))) (nI f) = some (nI (stn (numH rd hs) f)) := by
  have hp := h.pi
  obtain ⟨h1, h2, h3⟩ := hp.stone hf
  have hn := h.2.1
  have hfr := h.fr
  unfold f_X2_stoneOf
  refine lp1_0_inv (fun x2 => ∃ j, j ≤ stn (numH rd hs) f ∧ x2 = nI j) (fun x2 => 8 - x2.toNatClampNeg) (fun o => o = some (nI (stn (numH rd hs) f))) ?_ fuel 0 ⟨0, Nat.zero_le _, rfl⟩ (fuel_gt (by omega))
  intro x2 nx ⟨j, hj, e⟩ hnx
  subst e
  rw [if_neg (show ¬ (7 : Int32) ≤ nI j from fun q => by have := (nI_leI (a := 7) (by decide) (by omega)).mp q; omega), at_row h.nd (by rw [hp.2.1]; exact hn) (by omega), cl1_s, nI_1]
  have hd := d8_getD h.nd j
  by_cases hc : (numH rd hs).getD j 0 = f + 1
  · rw [if_pos (by rw [hc]), (h3 j (by omega)).mp hc]
  · rw [if_neg (fun q => hc ((nI_eq (by omega) (by omega)).mp q)), nmv_d, nI_1]
    have : j ≠ stn (numH rd hs) f := fun q => hc ((h3 j (by omega)).mpr q)
    exact hnx _ ⟨j + 1, by omega, rfl⟩ (by rw [nI_clamp (by omega), nI_clamp (by omega)]; omega)
/-- how often a frog was moved -/
def tmv (rd : Nd) (f : Nat) : List (Nat × Nat) → Nat
  | [] => 0
  | m :: hs => tmv rd f hs + if (numH rd hs).getD m.1 0 = f + 1 then 1 else 0
theorem tmv_le (rd : Nd) (f : Nat) : ∀ hs, tmv rd f hs ≤ hs.length
  | [] => Nat.le_refl _
  | m :: hs => by
    have := tmv_le rd f hs
    rw [List.length_cons]
    show tmv rd f hs + (if _ then 1 else 0) ≤ _
    split <;> omega
theorem AtH.at {rd : Nd} {made movers : A32} : ∀ (hs : List (Nat × Nat)) (j : Nat), AtH rd made movers hs → j < hs.length → ∃ m hs', hs.drop (hs.length - 1 - j) = m :: hs' ∧ hs'.length = j ∧ made j = nI (mc m) ∧ movers j = nI ((numH rd hs').getD m.1 0 - 1)
  | [], j, _, hj => absurd hj (Nat.not_lt_zero _)
  | m :: hs, j, h, hj => by
    rw [List.length_cons] at hj ⊢
    by_cases q : j = hs.length
    · subst q
      exact ⟨m, hs, by rw [Nat.add_sub_cancel, Nat.sub_self]; rfl, rfl, h.1, h.2.1⟩
    · obtain ⟨m', hs', e, r⟩ := AtH.at hs j h.2.2 (by omega)
      refine ⟨m', hs', ?_, r⟩
      rw [show hs.length + 1 - 1 - j = (hs.length - 1 - j) + 1 by omega]
      exact e
theorem drop_drop1 {hs : List (Nat × Nat)} {j : Nat} {m : Nat × Nat} {hs' : List (Nat × Nat)} (hj : j < hs.length) (e : hs.drop (hs.length - 1 - j) = m :: hs') : hs.drop (hs.length - j) = hs' := by
  have : hs.drop (hs.length - 1 - j + 1) = (hs.drop (hs.length - 1 - j)).drop 1 := by rw [List.drop_drop]
  rw [e] at this
  rw [show hs.length - j = hs.length - 1 - j + 1 by omega, this]; rfl
theorem LgH.drop {n : Nat} {g : Fl} {rd : Nd} : ∀ (k : Nat) (hs : List (Nat × Nat)), LgH n g rd hs → LgH n g rd (hs.drop k)
  | 0, _, h => h
  | k + 1, [], _ => trivial
  | k + 1, _ :: hs, h => LgH.drop k hs h.2.2
theorem timesMoved_eq {n : Nat} {g : Fl} {rd : Nd} {hs : List (Nat × Nat)} {f : Nat} {made movers : A32} (h : OkH n g rd hs) (ha : AtH rd made movers hs) (hf : f < frogsIn rd) : f_X2_timesMoved movers (nI hs.length) (nI f) = some (nI (tmv rd f hs)) := by
  have h60 := h.2.2.2
  have hfr := h.fr
  unfold f_X2_timesMoved
  refine lp2_1_inv (fun x2 x3 => ∃ j, j ≤ hs.length ∧ x3 = nI j ∧ x2 = nI (tmv rd f (hs.drop (hs.length - j)))) (fun _ x3 => 60 - x3.toNatClampNeg) (fun o => o = some (nI (tmv rd f hs))) ?_ fuel 0 0 ⟨0, Nat.zero_le _, rfl, by rw [Nat.sub_zero, List.drop_of_length_le (Nat.le_refl _)]; rfl⟩ (fuel_gt (by omega))
  intro x2 x3 nx ⟨j, hj, e3, e2⟩ hnx
  subst e3; subst e2
  by_cases hc : hs.length ≤ j
  · rw [if_pos (nI_le hc (by omega)), show hs.length - j = 0 by omega]; rfl
  · obtain ⟨m, hs', ed, hl', -, hm⟩ := AtH.at hs j ha (by omega)
    have ed2 := drop_drop1 (by omega) ed
    have hlg := LgH.drop (hs.length - 1 - j) hs h.2.2.1
    rw [ed] at hlg
    have hpi := PIH h.1 hs' hlg.2.2
    have hd := d8_getD (hpi.d8 h.1.1 h.2.1) m.1
    have hnz : (numH rd hs').getD m.1 0 ≠ 0 := fun q => (may_to hlg.1 hlg.2.1).2.2.2 ((hpi.2.2.1 m.1 hlg.1).mpr q)
    rw [if_neg (fun q => hc ((nI_leI (by omega) (by omega)).mp q)), if_neg (show ¬ (60 : Int32) ≤ nI j from fun q => by have := (nI_leI (a := 60) (by decide) (by omega)).mp q; omega), ald_in (by omega) (by decide), jn1_d, hm, ed2, nmv_d]
    dsimp only
    rw [nmv_d, nmv_d]
    rw [nI_1, nI_1]
    have htl := tmv_le rd f hs'
    have hgo : ∀ v, v = tmv rd f (m :: hs') → nx (nI v) (nI (j + 1)) = some (nI (tmv rd f hs)) := by
      intro v hv
      refine hnx _ _ ⟨j + 1, by omega, rfl, ?_⟩ (by rw [nI_clamp (by omega), nI_clamp (by omega)]; omega)
      rw [show hs.length - (j + 1) = hs.length - 1 - j by omega, ed, hv]
    by_cases q : (numH rd hs').getD m.1 0 = f + 1
    · rw [if_pos (by rw [q, Nat.add_sub_cancel])]
      exact hgo _ (by show _ = tmv rd f hs' + (if _ then 1 else 0); rw [if_pos q])
    · rw [if_neg (fun w => q (by have := (nI_eq (by omega) (by omega)).mp w; omega))]
      exact hgo _ (by show _ = tmv rd f hs' + (if _ then 1 else 0); rw [if_neg q, Nat.add_zero])
theorem mc_nI (f t : Nat) : ((8 : Int32) * nI f) + nI t = nI (mc (f, t)) := by
  rw [n_lit 8, pk_mul, nI_add]; rfl
theorem go_eq {n : Nat} {g : Fl} {rd : Nd} {hs : List (Nat × Nat)} {made movers : A32} {row numbers size : Int32} {f t : Nat} (h : OkH n g rd hs) (hr : noR rd hs made movers row numbers size) (hl : hs.length < 60) (hf : f < n) (hm : may n g (rowH rd hs) true f t = true) :
    ∃ made' movers' row' numbers', f_X2_go made movers row numbers size (nI f) (nI t) = some (made', movers', row', numbers', nI (hs.length + 1)) ∧ noR rd ((f, t) :: hs) made' movers' row' numbers' (nI (hs.length + 1)) ∧ OkH n g rd ((f, t) :: hs) := by
  obtain ⟨rfl, rfl, rfl, ha⟩ := hr
  have hp := h.pi
  have hn := h.2.1
  obtain ⟨ht, h0, hft, -⟩ := may_to hf hm
  have h0' := (hp.2.2.1 t ht).mp h0
  have hok : OkH n g rd ((f, t) :: hs) := ⟨h.1, h.2.1, ⟨hf, hm, h.2.2.1⟩, by rw [List.length_cons]; omega⟩
  have hnz : (numH rd hs).getD f 0 ≠ 0 := fun q => (may_to hf hm).2.2.2 ((hp.2.2.1 f hf).mpr q)
  refine ⟨upd made hs.length (nI (mc (f, t))), upd movers hs.length (nI ((numH rd hs).getD f 0 - 1)), nI (enc8 (rowH rd ((f, t) :: hs))), nI (enc8 (numH rd ((f, t) :: hs))), ?_, ⟨rfl, rfl, rfl, ?_, ?_, AtH.upd hs (Nat.le_refl _) ha⟩, hok⟩
  · unfold f_X2_go
    rw [if_pos (show nI hs.length < 60 from nI_lt (b := 60) hl (by decide)), nmv_d, mc_nI, astI_in hl (by decide), at_row h.nd (by rw [hp.2.1]; exact hn) (by omega), cl1_s, astI_in hl (by decide), nmv_d, nI_1]
    have e1 : f_X3_moved (nI (enc8 (rowH rd hs))) (nI (mc (f, t))) = some (nI (enc8 (mvd (rowH rd hs) f t))) := moved_row h.rw.d (by rw [h.rw.1]; exact hn) (by rw [h.rw.1]; exact hf) (by rw [h.rw.1]; exact ht) hft h0
    have e2 : f_X3_moved (nI (enc8 (numH rd hs))) (nI (mc (f, t))) = some (nI (enc8 (mvd (numH rd hs) f t))) := moved_row h.nd (by rw [hp.2.1]; exact hn) (by rw [hp.2.1]; exact hf) (by rw [hp.2.1]; exact ht) hft h0'
    rw [e1, cl1_s, e2, cl1_s]
    have e3 : nI ((numH rd hs).getD f 0) - 1 = nI ((numH rd hs).getD f 0 - 1) := by
      rw [n_lit 1]
      exact (pk_sub (by omega)).trans rfl
    rw [e3]; rfl
  · show (if hs.length = hs.length then _ else _) = _
    rw [if_pos rfl]
  · show (if hs.length = hs.length then _ else _) = _
    rw [if_pos rfl]
