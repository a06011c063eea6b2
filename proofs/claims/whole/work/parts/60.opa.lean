/-! ===== on, frog, about, as, may, moves: both answer alike ===== -/
theorem rng {n : Nat} (hn : n < 2 ^ 30) (p : Int32) : (∃ i, i < n ∧ p = nI i ∧ f_X8_within p 0 (nI n - 1) = some 1 ∧ ¬ p < 0 ∧ ¬ nI n ≤ p) ∨ (f_X8_within p 0 (nI n - 1) = some 0 ∧ (p < 0 ∨ ¬ p < 0 ∧ nI n ≤ p)) := by
  rw [within_eq]
  rcases pk_ix p (n := n) (by omega) with h | h | ⟨j, hj, e⟩
  · exact Or.inr ⟨by simp [h, bI], Or.inl h⟩
  · by_cases h0 : p < 0
    · exact Or.inr ⟨by simp [h0, bI], Or.inl h0⟩
    · refine Or.inr ⟨?_, Or.inr ⟨h0, h⟩⟩
      obtain ⟨j, hj, rfl⟩ := nI_of h0
      have hnj := (nI_leI (by omega) hj).mp h
      have : nI n - 1 < nI j := by
        cases n with
        | zero =>
          show nI 0 - 1 < nI j
          rw [show nI 0 - 1 = (-1 : Int32) from rfl]
          exact Int32.lt_iff_toInt_lt.mpr (by rw [nI_toInt hj]; show (-1 : Int) < _; omega)
        | succ n => rw [nI_pred]; exact nI_lt (by omega) hj
      simp [this, bI]
  · subst e
    refine Or.inl ⟨j, hj, rfl, ?_, nI_pos (by omega), fun q => by have := (nI_leI (by omega) (by omega)).mp q; omega⟩
    have h1 : ¬ nI n - 1 < nI j := by
      cases n with
      | zero => omega
      | succ n => rw [nI_pred]; exact nI_nlt (by omega) (by omega)
    have h2 : ¬ nI j < 0 := nI_pos (by omega)
    simp only [h1, h2, not_false_eq_true, decide_true, Bool.and_self]; rfl
theorem stone2 {n : Nat} (hn : n ≤ 7) (p : Int32) : (∃ i, i < n ∧ p = nI i ∧ f_X7_isStone (nI n) p = some 1 ∧ f_X8_isStone (nI n) p = some 1) ∨ (f_X7_isStone (nI n) p = some 0 ∧ f_X8_isStone (nI n) p = some 0) := by
  unfold f_X7_isStone f_X8_isStone
  rcases rng (n := n) (by omega) p with ⟨i, hi, e, h1, h2, h3⟩ | ⟨h1, h2⟩
  · refine Or.inl ⟨i, hi, e, by rw [if_neg h2, if_neg h3], by rw [h1, cl1_s, gz_in (Or.inr rfl)]⟩
  · refine Or.inr ⟨?_, by rw [h1, cl1_s, gz_in (Or.inl rfl)]⟩
    rcases h2 with h2 | ⟨h2, h3⟩
    · rw [if_pos h2]
    · rw [if_neg h2, if_pos h3]
theorem frog2 {F : Nat} (hF : F ≤ 7) (p : Int32) : (∃ i, i < F ∧ p = nI i ∧ f_X7_isFrog (nI F) p = some 1 ∧ f_X8_within p 0 (nI F - 1) = some 1) ∨ (f_X7_isFrog (nI F) p = some 0 ∧ f_X8_within p 0 (nI F - 1) = some 0) := by
  unfold f_X7_isFrog
  rcases rng (n := F) (by omega) p with ⟨i, hi, e, h1, h2, h3⟩ | ⟨h1, h2⟩
  · exact Or.inl ⟨i, hi, e, by rw [if_neg h2, if_neg h3], h1⟩
  · refine Or.inr ⟨?_, h1⟩
    rcases h2 with h2 | ⟨h2, h3⟩
    · rw [if_pos h2]
    · rw [if_neg h2, if_pos h3]
theorem i10 : ¬ (1 : Int32) = 0 := by decide
def kiR (rd : Nd) (kindOf : A32) (frogs : Int32) : Prop := frogs = nI (frogsIn rd) ∧ ∀ f, f < frogsIn rd → kindOf f = nI (fkd rd f)
section
variable {n : Nat} {g : Fl} {rd : Nd} {hs : List (Nat × Nat)} {made movers : A32} {row numbers size : Int32} {rowNow frogOn kindOf mf mt : A32} {moved frogs : Int32}
theorem on_2 (h : OkH n g rd hs) (hx : noR rd hs made movers row numbers size) (hm : moR n rd hs rowNow frogOn moved mf mt) (p : Int32) : ∃ v, f_X7_on (nI n) row p = some v ∧ f_X8_on (nI n) rowNow p = some v := by
  unfold f_X7_on f_X8_on
  have hn := h.2.1
  rcases stone2 hn p with ⟨i, hi, rfl, h1, h2⟩ | ⟨h1, h2⟩
  · rw [h1, h2, cl1_s, cl1_s, if_neg i10, if_neg i10, hx.1, at_row h.rw.d (by rw [h.rw.1]; exact hn) (by omega), cl1_s, ald_in (by omega) (by decide), ald_in (by omega) (by decide), hm.1 i (by rw [h.rw.1]; exact hi)]
    by_cases q : nI ((rowH rd hs).getD i 0) = 0
    · rw [if_pos q]; exact ⟨_, rfl, rfl⟩
    · rw [if_neg q]; exact ⟨_, rfl, rfl⟩
  · rw [h1, h2, cl1_s, cl1_s, if_pos rfl, if_pos rfl]; exact ⟨_, rfl, rfl⟩
theorem frog_2 (h : OkH n g rd hs) (hx : noR rd hs made movers row numbers size) (hm : moR n rd hs rowNow frogOn moved mf mt) (p : Int32) : ∃ v, f_X7_frog (nI n) numbers p = some v ∧ f_X8_frog (nI n) frogOn p = some v := by
  unfold f_X7_frog f_X8_frog
  have hn := h.2.1
  rcases stone2 hn p with ⟨i, hi, rfl, h1, h2⟩ | ⟨h1, h2⟩
  · rw [h1, h2, cl1_s, cl1_s, if_neg i10, if_neg i10, hx.2.1, at_row h.nd (by rw [h.pi.2.1]; exact hn) (by omega), cl1_s, ald_in (by omega) (by decide), hm.2.1 i hi]
    exact ⟨_, rfl, rfl⟩
  · rw [h1, h2, cl1_s, cl1_s, if_pos rfl, if_pos rfl]; exact ⟨_, rfl, rfl⟩
theorem kindF_eq (h : OkH n g rd hs) (hx : noR rd hs made movers row numbers size) {f : Nat} (hf : f < frogsIn rd) : f_X7_kindOfFrog row numbers (nI f) = some (nI (fkd rd f)) := by
  unfold f_X7_kindOfFrog
  have hn := h.2.1
  have hp := h.pi
  obtain ⟨h1, h2, -⟩ := hp.stone hf
  rw [hx.1, hx.2.1, stoneOf_eq h hf, cl1_s, at_row h.rw.d (by rw [h.rw.1]; exact hn) (by omega), cl1_s, (hp.2.2.2.1 _ h1 (by omega)).2, h2, Nat.add_sub_cancel]
theorem frogNow_eq (h : OkH n g rd hs) (hm : moR n rd hs rowNow frogOn moved mf mt) (hk : kiR rd kindOf frogs) {f : Nat} (hf : f < frogsIn rd) (p : Int32) : f_X8_frogNow frogOn kindOf moved mf mt (nI f) p = some (if p = 0 then nI (fkd rd f) else if p = 1 then nI (stn (numH rd hs) f) else nI (tmv rd f hs)) := by
  unfold f_X8_frogNow
  have hfr := h.fr
  by_cases h0 : p = 0
  · rw [if_pos h0, if_pos h0, ald_in (by omega) (by decide), hk.2 f hf]
  · rw [if_neg h0, if_neg h0]
    by_cases h1 : p = 1
    · rw [if_pos h1, if_pos h1, stoneOfM_eq h hm.2.1 hf, cl1_s]
    · rw [if_neg h1, if_neg h1, movedMany_eq h hm hf, cl1_s]
theorem lit_3 (p : Int32) : (p = 0 ∨ p = 1 ∨ p = 2) ∧ f_X8_within p 0 2 = some 1 ∨ (¬ p = 0 ∧ ¬ p = 1 ∧ ¬ p = 2) ∧ f_X8_within p 0 2 = some 0 := by
  have := rng (n := 3) (by decide) p
  rw [show nI 3 - 1 = 2 from rfl] at this
  rcases this with ⟨i, hi, e, h1, -⟩ | ⟨h1, h2⟩
  · left
    refine ⟨?_, h1⟩
    subst e
    rcases (show i = 0 ∨ i = 1 ∨ i = 2 by omega) with e | e | e <;> subst e
    · exact Or.inl rfl
    · exact Or.inr (Or.inl rfl)
    · exact Or.inr (Or.inr rfl)
  · right
    refine ⟨?_, h1⟩
    refine ⟨fun e => ?_, fun e => ?_, fun e => ?_⟩ <;> subst e <;> rcases h2 with h2 | h2
    · exact absurd h2 (by decide)
    · exact absurd h2.2 (by decide)
    · exact absurd h2 (by decide)
    · exact absurd h2.2 (by decide)
    · exact absurd h2 (by decide)
    · exact absurd h2.2 (by decide)
theorem aboutX_eq (h : OkH n g rd hs) (hx : noR rd hs made movers row numbers size) {f : Nat} (hf : f < frogsIn rd) (q : Int32) : f_X7_about movers row numbers size (nI (frogsIn rd)) (nI f) q = some (if q = 0 then nI (fkd rd f) else if q = 1 then nI (stn (numH rd hs) f) else if q = 2 then nI (tmv rd f hs) else -102) := by
  unfold f_X7_about
  rcases frog2 h.fr.2 (nI f) with ⟨i, hi, e, h1, h2⟩ | ⟨h1, h2⟩
  · rw [h1, cl1_s, if_neg i10]
    by_cases h0 : q = 0
    · rw [if_pos h0, if_pos h0, kindF_eq h hx hf, cl1_s]
    · rw [if_neg h0, if_neg h0]
      by_cases h3 : q = 1
      · rw [if_pos h3, if_pos h3, hx.2.1, stoneOf_eq h hf, cl1_s]
      · rw [if_neg h3, if_neg h3]
        by_cases h4 : q = 2
        · rw [if_pos h4, if_pos h4, hx.2.2.1, timesMoved_eq h hx.2.2.2 hf, cl1_s]
        · rw [if_neg h4, if_neg h4]
  · exfalso
    unfold f_X7_isFrog at h1
    have hfr := h.fr
    rw [if_neg (nI_pos (by omega)), if_neg (fun q => by have := (nI_leI (by omega) (by omega)).mp q; omega)] at h1
    cases h1
theorem about_2 (h : OkH n g rd hs) (hx : noR rd hs made movers row numbers size) (hm : moR n rd hs rowNow frogOn moved mf mt) (hk : kiR rd kindOf frogs) (p q : Int32) : ∃ v, f_X7_about movers row numbers size (nI (frogsIn rd)) p q = some v ∧ f_X8_about frogOn frogs kindOf moved mf mt p q = some v := by
  unfold f_X8_about
  rw [hk.1]
  rcases frog2 h.fr.2 p with ⟨i, hi, rfl, h1, h2⟩ | ⟨h1, h2⟩
  · rw [aboutX_eq h hx hi, h2, cl1_s, if_neg i10]
    rcases lit_3 q with ⟨h3, h4⟩ | ⟨⟨h3, h4, h5⟩, h6⟩
    · rw [h4, cl1_s, if_neg i10, frogNow_eq h hm hk hi, cl1_s]
      refine ⟨_, rfl, ?_⟩
      rcases h3 with e | e | e <;> subst e <;> rfl
    · rw [h6, cl1_s, if_pos rfl, if_neg h3, if_neg h4, if_neg h5]; exact ⟨_, rfl, rfl⟩
  · unfold f_X7_about
    rw [h1, h2, cl1_s, cl1_s, if_pos rfl, if_pos rfl]; exact ⟨_, rfl, rfl⟩
theorem as_2 (h : OkH n g rd hs) (hx : noR rd hs made movers row numbers size) (hk : kiR rd kindOf frogs) (p q : Int32) : ∃ v, f_X7_as row numbers (nI (frogsIn rd)) p q = some v ∧ f_X8_as frogs kindOf p q = some v := by
  unfold f_X7_as f_X8_as
  rw [hk.1]
  have hfr := h.fr
  rcases frog2 h.fr.2 p with ⟨i, hi, rfl, h1, h2⟩ | ⟨h1, h2⟩
  · rw [h1, h2, cl1_s, cl1_s, if_neg i10, if_neg i10]
    have h5 := rng (n := 5) (by decide) q
    rw [show nI 5 - 1 = 4 from rfl] at h5
    have hq4 : nI 5 ≤ q ↔ ¬ q ≤ 4 := by
      rw [Int32.le_iff_toInt_le, Int32.le_iff_toInt_le]
      show (5 : Int) ≤ _ ↔ ¬ _ ≤ (4 : Int)
      omega
    rcases h5 with ⟨k, hk5, -, h3, h4, h5⟩ | ⟨h3, h4⟩
    · rw [h3, cl1_s, if_neg i10, if_neg h4, if_pos (Classical.byContradiction (fun w => h5 (hq4.mpr w))), kindF_eq h hx hi, cl1_s, ald_in (by omega) (by decide), hk.2 i hi, jn1_d, jn0_d, jn0_d, jn0_d]
      dsimp only
      rw [if_neg i10, if_pos rfl]
      have ec : (nI (fkd rd i) = q) ↔ (q = nI (fkd rd i)) := eq_comm
      by_cases a1 : q = 0
      · rw [if_pos a1, if_pos a1]; exact ⟨_, rfl, rfl⟩
      · rw [if_neg a1, if_neg a1]
        by_cases a2 : q = nI (fkd rd i)
        · rw [if_pos a2, if_pos a2.symm]; exact ⟨_, rfl, rfl⟩
        · rw [if_neg a2, if_neg (show ¬ nI (fkd rd i) = q from fun w => a2 w.symm)]
          by_cases a3 : q = 1
          · first | rw [if_pos a3, if_pos a3] | rw [if_pos a3]
            by_cases a4 : nI (fkd rd i) = 4
            · first | rw [if_pos a4, if_pos a4] | rw [if_pos a4]; exact ⟨_, rfl, rfl⟩
            · first | rw [if_neg a4, if_neg a4] | rw [if_neg a4]; exact ⟨_, rfl, rfl⟩
          · first | rw [if_neg a3, if_neg a3] | rw [if_neg a3]; exact ⟨_, rfl, rfl⟩
    · rw [h3, cl1_s, if_pos rfl]
      rcases h4 with h4 | ⟨h4, h5⟩
      · rw [if_pos h4]; exact ⟨_, rfl, rfl⟩
      · rw [if_neg h4, if_neg (hq4.mp h5)]; exact ⟨_, rfl, rfl⟩
  · rw [h1, h2, cl1_s, cl1_s, if_pos rfl, if_pos rfl]; exact ⟨_, rfl, rfl⟩
theorem may_2 (h : OkH n g rd hs) (hx : noR rd hs made movers row numbers size) (hm : moR n rd hs rowNow frogOn moved mf mt) (l0 : Int32) (mrow : A32) (p q : Int32) : ∃ v l0' mrow', f_X7_may (nI n) (bI (gA g)) (bI (gB g)) (bI (gR g)) (bI (gT g)) row p q = some v ∧ f_X8_may (nI n) (bI (gA g)) (bI (gB g)) (bI (gR g)) (bI (gT g)) rowNow l0 mrow p q = some (v, l0', mrow') := by
  unfold f_X7_may f_X8_may
  have hn := h.2.1
  rcases stone2 hn p with ⟨i, hi, rfl, h1, h2⟩ | ⟨h1, h2⟩
  · rw [h1, h2, cl1_s, cl1_s, if_neg i10, if_neg i10]
    rcases stone2 hn q with ⟨j, hj, rfl, h3, h4⟩ | ⟨h3, h4⟩
    · obtain ⟨m', e1, e2⟩ := layNow_eq (m := mrow) (l0 := l0) hm.1 h.rw.1 hn
      rw [h3, h4, cl1_s, cl1_s, if_neg i10, if_neg i10, hx.1, allows_eq h.rw hn hi hj, cl1_s, e1, cl2_s, mayMove_eq e2 h.rw hn hi hj, cl1_s]
      cases may n g (rowH rd hs) true i j
      · exact ⟨_, _, _, rfl, rfl⟩
      · exact ⟨_, _, _, rfl, rfl⟩
    · rw [h3, h4, cl1_s, cl1_s, if_pos rfl, if_pos rfl]; exact ⟨_, _, _, rfl, rfl⟩
  · rw [h1, h2, cl1_s, cl1_s, if_pos rfl, if_pos rfl]; exact ⟨_, _, _, rfl, rfl⟩
theorem movesX_eq (h : OkH n g rd hs) (hx : noR rd hs made movers row numbers size) : f_X7_moves (nI n) (bI (gA g)) (bI (gB g)) (bI (gR g)) (bI (gT g)) row = some (nI (mvs n g (rowH rd hs) true).length) := by
  unfold f_X7_moves
  have hn := h.2.1
  rw [hx.1, show (1 : Int32) = dI true from rfl, allMoves_eq h.rw hn, cl1_s, bitCount_eq (mask_lt hn), cl1_s, mask_bits hn, List.length_map]
theorem moves_2 (h : OkH n g rd hs) (hx : noR rd hs made movers row numbers size) (hm : moR n rd hs rowNow frogOn moved mf mt) (l0 : Int32) (mrow : A32) : ∃ v l0' mrow', f_X7_moves (nI n) (bI (gA g)) (bI (gB g)) (bI (gR g)) (bI (gT g)) row = some v ∧ f_X8_moves (nI n) (bI (gA g)) (bI (gB g)) (bI (gR g)) (bI (gT g)) rowNow l0 mrow = some (v, l0', mrow') := by
  unfold f_X8_moves
  have hn := h.2.1
  obtain ⟨m', e1, e2⟩ := layNow_eq (m := mrow) (l0 := l0) hm.1 h.rw.1 hn
  rw [movesX_eq h hx, e1, cl2_s, moveMany_eq e2 h.rw hn, cl1_s]
  exact ⟨_, _, _, rfl, rfl⟩
theorem moveNow_eq (hl : rd.length = n) {r nu : Nd} (hrl : r.length = n) (hnl : nu.length = n) (hn : n ≤ 7) {f t : Nat} (hf : f < n) (ht : t < n) (hft : f ≠ t) (h1 : rowAt rowNow r) (h2 : ∀ i, i < n → frogOn i = nI (nu.getD i 0) - 1) : ∃ rowNow' frogOn', f_X8_moveNow rowNow frogOn (nI f) (nI t) = some (rowNow', frogOn') ∧ rowAt rowNow' (mvd r f t) ∧ ∀ i, i < n → frogOn' i = nI ((mvd nu f t).getD i 0) - 1 := by
  unfold f_X8_moveNow
  rw [ald_in (by omega) (by decide), astI_in (by omega) (by decide), astI_in (by omega) (by decide), ald_in (by omega) (by decide), astI_in (by omega) (by decide), astI_in (by omega) (by decide)]
  refine ⟨_, _, rfl, ?_, ?_⟩
  · intro i hi
    rw [mvd_len, hrl] at hi
    rw [mvd_at (by omega) (by omega)]
    show (if i = f then (0 : Int32) else if i = t then rowNow f else rowNow i) = _
    by_cases q : i = f
    · rw [if_pos q, if_neg (by omega), if_pos q]; rfl
    · rw [if_neg q]
      by_cases q2 : i = t
      · rw [if_pos q2, if_pos q2, h1 f (by omega)]
      · rw [if_neg q2, if_neg q2, if_neg q, h1 i (by omega)]
  · intro i hi
    rw [mvd_at (by omega) (by omega)]
    show (if i = f then (-1 : Int32) else if i = t then frogOn f else frogOn i) = _
    by_cases q : i = f
    · rw [if_pos q, if_neg (by omega), if_pos q]; rfl
    · rw [if_neg q]
      by_cases q2 : i = t
      · rw [if_pos q2, if_pos q2, h2 f (by omega)]
      · rw [if_neg q2, if_neg q2, if_neg q, h2 i (by omega)]
theorem move_2 (h : OkH n g rd hs) (hx : noR rd hs made movers row numbers size) (hm : moR n rd hs rowNow frogOn moved mf mt) (l0 : Int32) (mrow : A32) (p q : Int32) : ∃ v hs' made' movers' row' numbers' size' rowNow' frogOn' moved' mf' mt' l0' mrow', f_X7_move (nI n) (bI (gA g)) (bI (gB g)) (bI (gR g)) (bI (gT g)) made movers row numbers size p q = some (v, made', movers', row', numbers', size') ∧ f_X8_move (nI n) (bI (gA g)) (bI (gB g)) (bI (gR g)) (bI (gT g)) rowNow frogOn moved mf mt l0 mrow p q = some (v, rowNow', frogOn', moved', mf', mt', l0', mrow') ∧ OkH n g rd hs' ∧ noR rd hs' made' movers' row' numbers' size' ∧ moR n rd hs' rowNow' frogOn' moved' mf' mt' := by
  unfold f_X7_move f_X8_move
  have hn := h.2.1
  have h60 := h.2.2.2
  rcases stone2 hn p with ⟨i, hi, rfl, h1, h2⟩ | ⟨h1, h2⟩
  · rw [h1, h2, cl1_s, cl1_s, if_neg i10, if_neg i10]
    rcases stone2 hn q with ⟨j, hj, rfl, h3, h4⟩ | ⟨h3, h4⟩
    · obtain ⟨m', e1, e2⟩ := layNow_eq (m := mrow) (l0 := l0) hm.1 h.rw.1 hn
      have hal : f_X4_allows (nI n) (bI (gA g)) (bI (gB g)) (bI (gR g)) (bI (gT g)) row (nI i) (nI j) = some (bI (may n g (rowH rd hs) true i j)) := by rw [hx.1]; exact allows_eq h.rw hn hi hj
      rw [h3, h4, cl1_s, cl1_s, if_neg i10, if_neg i10, hal, cl1_s, e1, cl2_s, mayMove_eq e2 h.rw hn hi hj, cl1_s]
      cases hmay : may n g (rowH rd hs) true i j with
      | false => rw [if_pos (show bI false = 0 from rfl), if_pos (show bI false = 0 from rfl)]; exact ⟨_, hs, _, _, _, _, _, _, _, _, _, _, _, _, rfl, rfl, h, hx, hm⟩
      | true =>
        rw [if_neg (show ¬ bI true = 0 by decide), if_neg (show ¬ bI true = 0 by decide)]
        by_cases hl : hs.length < 60
        · obtain ⟨made', movers', row', numbers', g1, g2, g3⟩ := go_eq h hx hl hi hmay
          obtain ⟨ht, h0, hft, -⟩ := may_to hi hmay
          obtain ⟨rn', fo', w1, w2, w3⟩ := moveNow_eq h.1.1 h.rw.1 h.pi.2.1 hn hi hj hft hm.1 hm.2.1
          rw [if_pos (show size < 60 by rw [hx.2.2.1]; exact nI_lt (b := 60) hl (by decide)), g1, cl5_s, hm.2.2.1, if_neg (show ¬ nI hs.length = 60 from fun w => by have := (nI_eq (b := 60) (by omega) (by decide)).mp w; omega), w1, cl2_s, astI_in hl (by decide), astI_in hl (by decide), nmv_d, nI_1]
          refine ⟨_, (i, j) :: hs, _, _, _, _, _, _, _, _, _, _, _, _, rfl, rfl, g3, g2, w2, w3, rfl, ?_, ?_, FtH.upd hs (Nat.le_refl _) hm.2.2.2⟩
          · show (if hs.length = hs.length then _ else _) = _
            rw [if_pos rfl]
          · show (if hs.length = hs.length then _ else _) = _
            rw [if_pos rfl]
        · rw [if_neg (show ¬ size < 60 by rw [hx.2.2.1]; exact fun w => hl ((nI_ltI (b := 60) (by omega) (by decide)).mp w)), if_pos (show moved = 60 by rw [hm.2.2.1, show hs.length = 60 by omega]; rfl)]
          exact ⟨_, hs, _, _, _, _, _, _, _, _, _, _, _, _, rfl, rfl, h, hx, hm⟩
    · rw [h3, h4, cl1_s, cl1_s, if_pos rfl, if_pos rfl]; exact ⟨_, hs, _, _, _, _, _, _, _, _, _, _, _, _, rfl, rfl, h, hx, hm⟩
  · rw [h1, h2, cl1_s, cl1_s, if_pos rfl, if_pos rfl]; exact ⟨_, hs, _, _, _, _, _, _, _, _, _, _, _, _, rfl, rfl, h, hx, hm⟩
theorem back_2 (h : OkH n g rd hs) (hx : noR rd hs made movers row numbers size) (hm : moR n rd hs rowNow frogOn moved mf mt) : ∃ v hs' row' numbers' size' rowNow' frogOn' moved', f_X7_back made row numbers size = some (v, row', numbers', size') ∧ f_X8_back rowNow frogOn moved mf mt = some (v, rowNow', frogOn', moved') ∧ OkH n g rd hs' ∧ noR rd hs' made movers row' numbers' size' ∧ moR n rd hs' rowNow' frogOn' moved' mf mt := by
  unfold f_X7_back f_X8_back
  have hn := h.2.1
  have h60 := h.2.2.2
  cases hs with
  | nil =>
    rw [if_pos (show size = 0 from hx.2.2.1), if_pos (show moved = 0 from hm.2.2.1)]
    exact ⟨_, [], _, _, _, _, _, _, rfl, rfl, h, hx, hm⟩
  | cons m hs =>
    rw [List.length_cons] at h60
    obtain ⟨row', numbers', b1, b2, b3⟩ := takeBack_eq h hx
    have hlg := h.2.2.1
    obtain ⟨ht, h0, hft, -⟩ := may_to hlg.1 hlg.2.1
    have hp := h.tl.pi
    have h0' := (hp.2.2.1 m.2 ht).mp h0
    obtain ⟨rn', fo', w1, w2, w3⟩ := moveNow_eq h.1.1 h.rw.1 h.pi.2.1 hn ht hlg.1 (Ne.symm hft) hm.1 hm.2.1
    have w2 : rowAt rn' (mvd (mvd (rowH rd hs) m.1 m.2) m.2 m.1) := w2
    have w3 : ∀ i, i < n → fo' i = nI ((mvd (mvd (numH rd hs) m.1 m.2) m.2 m.1).getD i 0) - 1 := w3
    rw [mvd_back hp.1.1 hlg.1 ht hft h0] at w2
    rw [mvd_back hp.2.1 hlg.1 ht hft h0'] at w3
    have e2 : nI ((m :: hs).length) - 1 = nI hs.length := nI_pred hs.length
    rw [if_neg (show ¬ size = 0 by rw [hx.2.2.1, List.length_cons]; exact nI_ne0 (by omega) (by omega)), b1, cl4_s, if_neg (show ¬ moved = 0 by rw [hm.2.2.1, List.length_cons]; exact nI_ne0 (by omega) (by omega)), hm.2.2.1, nmv_d, e2, ald_in (by omega) (by decide), ald_in (by omega) (by decide), hm.2.2.2.1, hm.2.2.2.2.1, w1, cl2_s, ald_in (by omega) (by decide), hm.2.2.2.1]
    exact ⟨_, hs, _, _, _, _, _, _, rfl, rfl, b3, b2, w2, w3, rfl, hm.2.2.2.2.2⟩
end
