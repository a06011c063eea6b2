/-! ===== a position: moves made (the last one first), the row, who stands where ===== -/
def rowH (rd : Nd) : List (Nat × Nat) → Nd
  | [] => rd
  | m :: hs => mvd (rowH rd hs) m.1 m.2
def numH (rd : Nd) : List (Nat × Nat) → Nd
  | [] => numb 0 rd
  | m :: hs => mvd (numH rd hs) m.1 m.2
def LgH (n : Nat) (g : Fl) (rd : Nd) : List (Nat × Nat) → Prop
  | [] => True
  | m :: hs => m.1 < n ∧ may n g (rowH rd hs) true m.1 m.2 = true ∧ LgH n g rd hs
def fkd (rd : Nd) (f : Nat) : Nat := (rd.filter (fun k => k != 0)).getD f 0
def PI (n : Nat) (rd r nu : Nd) : Prop := Rw n r ∧ nu.length = n ∧ (∀ i, i < n → (r.getD i 0 = 0 ↔ nu.getD i 0 = 0)) ∧ (∀ i, i < n → nu.getD i 0 ≠ 0 → nu.getD i 0 ≤ frogsIn rd ∧ r.getD i 0 = fkd rd (nu.getD i 0 - 1)) ∧ (∀ i j, i < n → j < n → nu.getD i 0 = nu.getD j 0 → nu.getD i 0 ≠ 0 → i = j) ∧ (∀ f, f < frogsIn rd → ∃ i, i < n ∧ nu.getD i 0 = f + 1)
theorem fk_at : ∀ (r : Nd) (j : Nat), r.getD j 0 ≠ 0 → fkd r (frogsIn (r.take j)) = r.getD j 0
  | [], j, h => absurd rfl h
  | k :: r, 0, h => by
    have hk : k ≠ 0 := h
    show ((k :: r).filter (fun k => k != 0)).getD 0 0 = k
    rw [List.filter_cons_of_pos (by simp [hk])]; rfl
  | k :: r, j + 1, h => by
    have ih := fk_at r j h
    have e : (k :: r).take (j + 1) = k :: r.take j := rfl
    rw [e, frogs_cons]
    show _ = r.getD j 0
    rw [← ih]
    unfold fkd
    by_cases hk : k = 0
    · rw [if_pos hk, List.filter_cons_of_neg (by simp [hk]), Nat.add_zero]
    · rw [if_neg hk, List.filter_cons_of_pos (by simp [hk])]; rfl
theorem frogs_mono {r : Nd} {i j : Nat} (h : i ≤ j) : frogsIn (r.take i) ≤ frogsIn (r.take j) := by
  have : r.take j = r.take i ++ (r.drop i).take (j - i) := by
    rw [show j = i + (j - i) by omega, List.take_add]; simp
  rw [this, frogs_app]; omega
theorem frogs_at {r : Nd} {i : Nat} (h : i < r.length) (hz : r.getD i 0 ≠ 0) : frogsIn (r.take (i + 1)) = frogsIn (r.take i) + 1 := by
  rw [take_getD r i h, frogs_app]
  have : frogsIn [r.getD i 0] = 1 := by rw [frogs_cons, if_neg hz]; rfl
  omega
theorem numb_all : ∀ (m : Nat) (r : Nd) (f : Nat), f < frogsIn r → ∃ i, i < r.length ∧ (numb m r).getD i 0 = m + f + 1
  | m, [], f, h => absurd h (Nat.not_lt_zero _)
  | m, k :: r, f, h => by
    rw [frogs_cons] at h
    unfold numb
    by_cases hk : k = 0
    · rw [if_pos hk] at h ⊢
      obtain ⟨i, h1, h2⟩ := numb_all m r f h
      exact ⟨i + 1, by rw [List.length_cons]; omega, h2⟩
    · rw [if_neg hk] at h ⊢
      cases f with
      | zero => exact ⟨0, by rw [List.length_cons]; omega, rfl⟩
      | succ f =>
        obtain ⟨i, h1, h2⟩ := numb_all (m + 1) r f (by omega)
        exact ⟨i + 1, by rw [List.length_cons]; omega, by show (numb (m + 1) r).getD i 0 = _; rw [h2]; omega⟩
theorem PI.read {n : Nat} {rd : Nd} (h : Rw n rd) : PI n rd rd (numb 0 rd) := by
  refine ⟨h, by rw [numb_len]; exact h.1, ?_, ?_, ?_, ?_⟩
  · intro i hi
    rw [numb_at]
    by_cases hz : rd.getD i 0 = 0
    · rw [if_pos hz]; exact ⟨fun _ => rfl, fun _ => hz⟩
    · rw [if_neg hz]; exact ⟨fun q => absurd q hz, fun q => by omega⟩
  · intro i hi hnz
    refine ⟨by have := numb_le (m := 0) (r := rd) i; omega, ?_⟩
    rw [numb_at] at hnz ⊢
    by_cases hz : rd.getD i 0 = 0
    · rw [if_pos hz] at hnz; exact absurd rfl hnz
    · rw [if_neg hz, Nat.zero_add, Nat.add_sub_cancel, fk_at rd i hz]
  · have key : ∀ i j, i < j → j < n → (numb 0 rd).getD i 0 = (numb 0 rd).getD j 0 → (numb 0 rd).getD i 0 ≠ 0 → False := by
      intro i j hij hj he hnz
      have hnz' := hnz
      rw [he] at hnz'
      rw [numb_at] at hnz hnz' he
      rw [numb_at] at he
      by_cases h1 : rd.getD i 0 = 0
      · rw [if_pos h1] at hnz; exact hnz rfl
      · by_cases h2 : rd.getD j 0 = 0
        · rw [if_pos h2] at hnz'; exact hnz' rfl
        · rw [if_neg h1, if_neg h2] at he
          have h3 := frogs_at (r := rd) (i := i) (by rw [h.1]; omega) h1
          have h4 := frogs_mono (r := rd) (i := i + 1) (j := j) hij
          omega
    intro i j hi hj he hnz
    rcases Nat.lt_trichotomy i j with q | q | q
    · exact (key i j q hj he hnz).elim
    · exact q
    · exact (key j i q hi he.symm (by rw [← he]; exact hnz)).elim
  · intro f hf
    obtain ⟨i, h1, h2⟩ := numb_all 0 rd f hf
    exact ⟨i, by rw [← h.1]; exact h1, by rw [h2]; omega⟩
theorem PI.mv {n : Nat} {rd r nu : Nd} {f t : Nat} (h : PI n rd r nu) (hf : f < n) (ht : t < n) (hft : f ≠ t) (h0 : r.getD t 0 = 0) : PI n rd (mvd r f t) (mvd nu f t) := by
  obtain ⟨h1, h2, h3, h4, h5, h6⟩ := h
  have hrl := h1.1
  have n0 : nu.getD t 0 = 0 := (h3 t ht).mp h0
  have er : ∀ i, (mvd r f t).getD i 0 = if i = t then r.getD f 0 else if i = f then 0 else r.getD i 0 := fun i => mvd_at (by omega) (by omega)
  have en : ∀ i, (mvd nu f t).getD i 0 = if i = t then nu.getD f 0 else if i = f then 0 else nu.getD i 0 := fun i => mvd_at (by omega) (by omega)
  refine ⟨h1.mv, by rw [mvd_len]; exact h2, ?_, ?_, ?_, ?_⟩
  · intro i hi
    rw [er, en]
    by_cases q : i = t
    · rw [if_pos q, if_pos q]; exact h3 f hf
    · rw [if_neg q, if_neg q]
      by_cases q2 : i = f
      · rw [if_pos q2, if_pos q2]
      · rw [if_neg q2, if_neg q2]; exact h3 i hi
  · intro i hi
    rw [er, en]
    by_cases q : i = t
    · rw [if_pos q, if_pos q]; exact h4 f hf
    · rw [if_neg q, if_neg q]
      by_cases q2 : i = f
      · rw [if_pos q2, if_pos q2]; exact fun q => absurd rfl q
      · rw [if_neg q2, if_neg q2]; exact h4 i hi
  · intro i j hi hj
    rw [en, en]
    by_cases qi : i = t
    · rw [if_pos qi]
      by_cases qj : j = t
      · intro _ _; omega
      · rw [if_neg qj]
        by_cases qj2 : j = f
        · rw [if_pos qj2]; intro a b; exact absurd a b
        · rw [if_neg qj2]; intro a b; exact absurd (h5 f j hf hj a b).symm qj2
    · rw [if_neg qi]
      by_cases qi2 : i = f
      · rw [if_pos qi2]; intro _ b; exact absurd rfl b
      · rw [if_neg qi2]
        by_cases qj : j = t
        · rw [if_pos qj]; intro a b; exact absurd (h5 i f hi hf a b) qi2
        · rw [if_neg qj]
          by_cases qj2 : j = f
          · rw [if_pos qj2]; intro a b; exact absurd a b
          · rw [if_neg qj2]; exact h5 i j hi hj
  · intro x hx
    obtain ⟨i, hi, e⟩ := h6 x hx
    by_cases q : i = f
    · exact ⟨t, ht, by rw [en, if_pos rfl, ← q, e]⟩
    · refine ⟨i, hi, ?_⟩
      rw [en, if_neg (fun w => by rw [w, n0] at e; omega), if_neg q, e]
theorem PIH {n : Nat} {g : Fl} {rd : Nd} (h : Rw n rd) : ∀ hs, LgH n g rd hs → PI n rd (rowH rd hs) (numH rd hs)
  | [], _ => PI.read h
  | m :: hs, hl => by
    have hm := may_to hl.1 hl.2.1
    exact (PIH h hs hl.2.2).mv hl.1 hm.1 hm.2.2.1 hm.2.1
theorem PI.d8 {n : Nat} {rd r nu : Nd} (h : PI n rd r nu) (hr : rd.length = n) (hn : n ≤ 7) : d8 nu := fun x hx => by
  obtain ⟨j, hj, e⟩ := mem_getD hx
  have hf := frogs_le rd
  by_cases hz : nu.getD j 0 = 0
  · omega
  · have := (h.2.2.2.1 j (by rw [← h.2.1]; exact hj) hz).1
    omega
/-- the stone of a frog -/
def stn (nu : Nd) (f : Nat) : Nat := nu.idxOf (f + 1)
theorem PI.stone {n : Nat} {rd r nu : Nd} (h : PI n rd r nu) {f : Nat} (hf : f < frogsIn rd) : stn nu f < n ∧ nu.getD (stn nu f) 0 = f + 1 ∧ ∀ i, i < n → (nu.getD i 0 = f + 1 ↔ i = stn nu f) := by
  obtain ⟨i, hi, e⟩ := h.2.2.2.2.2 f hf
  have hm : f + 1 ∈ nu := by rw [← e]; exact getD_mem (by rw [h.2.1]; exact hi)
  have h1 : stn nu f < nu.length := List.idxOf_lt_length_of_mem hm
  have h2 : nu.getD (stn nu f) 0 = f + 1 := by
    rw [List.getD_eq_getElem?_getD, List.getElem?_eq_getElem h1]
    exact List.getElem_idxOf h1
  rw [h.2.1] at h1
  refine ⟨h1, h2, fun j hj => ⟨fun q => ?_, fun q => by rw [q, h2]⟩⟩
  exact h.2.2.2.2.1 j _ hj h1 (by rw [q, h2]) (by omega)
