/-! ===== comes, more, off of both ===== -/
section
variable {n : Nat} {g : Fl} {rd r : Nd} {as ar : A32} {az : Int32} {ad aw : A32} {at' ao : Int32}
theorem turn_u (hn : n ≤ 7) (hr : Rw n r) : ∃ s1 s2 s3 s4 s5 s6 s7, f_X7_toTurnRound_u (nI n) (bI (gA g)) (bI (gB g)) (bI (gR g)) (bI (gT g)) as ar az ad aw at' ao (nI (enc8 r)) = some (oI (dOf (zf n g true r) r.reverse), s1, s2, s3, s4, s5, s6, s7) := by
  unfold f_X7_toTurnRound_u
  have et := turned_row hr.d (by rw [hr.1]; exact hn)
  rw [hr.1] at et
  obtain ⟨s1, s2, s3, s4, s5, s6, s7, e⟩ := spread_to (g := g) (sense := true) (slots := as) (rows := ar) (tsize := az) (depths := ad) (ways := aw) (st0 := at') (so0 := ao) hr (rw_rev hr) hn
  have e' : f_X5_spread (nI n) (bI (gA g)) (bI (gB g)) (bI (gR g)) (bI (gT g)) as ar az ad aw at' ao (nI (enc8 r)) 1 (nI (enc8 r.reverse)) = _ := e
  rw [et, cl1_s, e', cl8_s]
  exact ⟨_, _, _, _, _, _, _, rfl⟩
theorem turn_o (hn : n ≤ 7) (hr : Rw n r) : ∃ s1 s2 s3 s4 s5 s6 s7, f_X7_toTurnRound_o (nI n) (bI (gA g)) (bI (gB g)) (bI (gR g)) (bI (gT g)) as ar az ad aw at' ao (nI (enc8 r)) = some (oI (dOf (zf n g true r) r.reverse), s1, s2, s3, s4, s5, s6, s7) := turn_u hn hr
theorem moreX_eq {S : Nat} (h0 : 0 < n) (hn : n ≤ 6) (hS : S < 16) (hg : g = gf S) (hd : Rw n rd) {p : Int32} (hp : ¬ p < 0 ∧ p ≤ 1) (o1 o2 o3 o4 o5 o6 : Int32) : ∃ o1' o2' o3' o4' o5' o6' s1 s2 s3 s4 s5 s6 s7, f_X7_more (nI n) (nI S) o1 o2 o3 o4 o5 o6 as ar az ad aw at' ao (nI (enc8 rd)) p = some (bV (moB n g rd (n + 1)) p, o1', o2', o3', o4', o5', o6', s1, s2, s3, s4, s5, s6, s7) := by
  unfold f_X7_more
  rw [if_neg hp.1, if_pos hp.2, hasBrook_eq (by omega), cl1_s, if_neg (show ¬ bI (decide (0 < n)) = 0 by rw [decide_eq_true (by omega)]; decide), if_pos (show nI n < 7 from nI_lt (b := 7) (by omega) (by decide)), nI_1, set_eq hS, cl6_s, ← hg]
  refine lp10_9_inv (fun (x2 x3 x4 : Int32) (_ _ : A32) (_ : Int32) (_ _ : A32) (_ _ : Int32) => ∃ j, j ≤ n + 1 ∧ x4 = nI j ∧ x2 = b1 (moB n g rd j) ∧ x3 = b2 (moB n g rd j)) (fun _ _ x4 _ _ _ _ _ _ _ => 8 - x4.toNatClampNeg) (fun o => ∃ (o1' o2' o3' o4' o5' o6' : Int32) (s1 s2 : A32) (s3 : Int32) (s4 s5 : A32) (s6 s7 : Int32), o = some (bV (moB n g rd (n + 1)) p, o1', o2', o3', o4', o5', o6', s1, s2, s3, s4, s5, s6, s7)) ?_ fuel _ _ _ _ _ _ _ _ _ _ ⟨0, Nat.zero_le _, rfl, rfl, rfl⟩ (fuel_gt (by omega))
  intro x2 x3 x4 y1 y2 y3 y4 y5 y6 y7 nx ⟨j, hj, e4, e2, e3⟩ hnx
  subst e4; subst e2; subst e3
  by_cases hc : n < j
  · rw [if_pos (nI_lt hc (by omega))]
    have : j = n + 1 := by omega
    subst this
    dsimp only
    unfold bV
    by_cases q : p = 0
    · rw [if_pos q, if_pos q]; exact ⟨_, _, _, _, _, _, _, _, _, _, _, _, _, rfl⟩
    · rw [if_neg q, if_neg q]; exact ⟨_, _, _, _, _, _, _, _, _, _, _, _, _, rfl⟩
  · have hw := wid_rw hd (show j ≤ n by omega)
    obtain ⟨s1, s2, s3, s4, s5, s6, s7, e⟩ := turn_o (g := g) (as := y1) (ar := y2) (az := y3) (ad := y4) (aw := y5) (at' := y6) (ao := y7) (show n + 1 ≤ 7 by omega) hw
    rw [if_neg (fun q => hc ((nI_ltI (by omega) (by omega)).mp q)), widened_row hd.d (by rw [hd.1]; exact hn) (by rw [hd.1]; omega), cl1_s, e, cl8_s, isLess_eq (moB_ok hd hn j hj) (fun d hd' => dOf_lt hw (by omega) hd'), cl1_s, jn2_d]
    have hu1 := b1_up (moB n g rd j) j (dOf (zf (n + 1) g true (wid rd j)) (wid rd j).reverse)
    have hu2 := b2_up (moB n g rd j) j (dOf (zf (n + 1) g true (wid rd j)) (wid rd j).reverse)
    have hmes : 8 - (nI (j + 1)).toNatClampNeg < 8 - (nI j).toNatClampNeg := by rw [nI_clamp (by omega), nI_clamp (by omega)]; omega
    cases hl : lsB (dOf (zf (n + 1) g true (wid rd j)) (wid rd j).reverse) (moB n g rd j) with
    | false =>
      rw [hl, if_neg (by decide)] at hu1 hu2
      rw [if_pos (show bI false = 0 from rfl)]
      dsimp only
      rw [nmv_d, nI_1]
      exact hnx _ _ _ _ _ _ _ _ _ _ ⟨j + 1, by omega, rfl, hu1.symm, hu2.symm⟩ hmes
    | true =>
      rw [hl, if_pos rfl] at hu1 hu2
      rw [if_neg (show ¬ bI true = 0 by decide)]
      dsimp only
      rw [nmv_d, nI_1]
      exact hnx _ _ _ _ _ _ _ _ _ _ ⟨j + 1, by omega, rfl, hu1.symm, hu2.symm⟩ hmes
theorem offX_eq (h0 : 0 < n) (hn : n ≤ 7) (hd : Rw n rd) {p : Int32} (hp : ¬ p < 0 ∧ p ≤ 1) : ∃ s1 s2 s3 s4 s5 s6 s7, f_X7_off (nI n) (bI (gA g)) (bI (gB g)) (bI (gR g)) (bI (gT g)) as ar az ad aw at' ao (nI (enc8 rd)) p = some (bV (ofB n g rd n) p, s1, s2, s3, s4, s5, s6, s7) := by
  unfold f_X7_off
  have hdl : rd.length ≤ 7 := by rw [hd.1]; exact hn
  rw [if_neg hp.1, if_pos hp.2, hasBrook_eq hn, cl1_s, if_neg (show ¬ bI (decide (0 < n)) = 0 by rw [decide_eq_true (by omega)]; decide), numbered_row hd.d hdl, cl1_s]
  refine lp10_9_inv (fun (x2 x3 x4 : Int32) (_ _ : A32) (_ : Int32) (_ _ : A32) (_ _ : Int32) => ∃ j, j ≤ n ∧ x4 = nI j ∧ x2 = b1 (ofB n g rd j) ∧ x3 = b2 (ofB n g rd j)) (fun _ _ x4 _ _ _ _ _ _ _ => 8 - x4.toNatClampNeg) (fun o => ∃ (s1 s2 : A32) (s3 : Int32) (s4 s5 : A32) (s6 s7 : Int32), o = some (bV (ofB n g rd n) p, s1, s2, s3, s4, s5, s6, s7)) ?_ fuel _ _ _ _ _ _ _ _ _ _ ⟨0, Nat.zero_le _, rfl, rfl, rfl⟩ (fuel_gt (by omega))
  intro x2 x3 x4 y1 y2 y3 y4 y5 y6 y7 nx ⟨j, hj, e4, e2, e3⟩ hnx
  subst e4; subst e2; subst e3
  by_cases hc : n ≤ j
  · rw [if_pos (nI_le hc (by omega))]
    have : j = n := by omega
    subst this
    dsimp only
    unfold bV
    by_cases q : p = 0
    · rw [if_pos q, if_pos q]; exact ⟨_, _, _, _, _, _, _, rfl⟩
    · rw [if_neg q, if_neg q]; exact ⟨_, _, _, _, _, _, _, rfl⟩
  · have hmes : 8 - (nI (j + 1)).toNatClampNeg < 8 - (nI j).toNatClampNeg := by rw [nI_clamp (by omega), nI_clamp (by omega)]; omega
    rw [if_neg (fun q => hc ((nI_leI (by omega) (by omega)).mp q)), at_row (numb_d8 hdl) (by rw [numb_len]; exact hdl) (by omega), cl1_s, nmv_d, jn9_d, numb_at]
    have hfr : frogsIn (rd.take j) ≤ 7 := by
      have := frogs_le (rd.take j)
      rw [List.length_take] at this; omega
    have hof : ofB n g rd (j + 1) = if rd.getD j 0 = 0 then ofB n g rd j else upB (ofB n g rd j) (frogsIn (rd.take j)) (dOf (zf n g true (rd.set j 0)) (rd.set j 0).reverse) := rfl
    by_cases hz : rd.getD j 0 = 0
    · rw [if_pos hz] at hof
      rw [if_pos hz, if_pos (show nI 0 - 1 = -1 from rfl)]
      dsimp only
      rw [nmv_d, nI_1]
      exact hnx _ _ _ _ _ _ _ _ _ _ ⟨j + 1, by omega, rfl, by rw [hof], by rw [hof]⟩ hmes
    · rw [if_neg hz] at hof
      have hw := set_rw (j := j) hd
      obtain ⟨s1, s2, s3, s4, s5, s6, s7, e⟩ := turn_u (g := g) (as := y1) (ar := y2) (az := y3) (ad := y4) (aw := y5) (at' := y6) (ao := y7) hn hw
      rw [if_neg hz, Nat.zero_add, nI_pred, if_neg (nI_m1 (by omega)), without_row hd.d hdl (by rw [hd.1]; omega), cl1_s, e, cl8_s, isLess_eq (ofB_ok hd hn j hj) (fun d hd' => dOf_lt hw hn hd'), cl1_s]
      have hu1 := b1_up (ofB n g rd j) (frogsIn (rd.take j)) (dOf (zf n g true (rd.set j 0)) (rd.set j 0).reverse)
      have hu2 := b2_up (ofB n g rd j) (frogsIn (rd.take j)) (dOf (zf n g true (rd.set j 0)) (rd.set j 0).reverse)
      rw [← hof] at hu1 hu2
      cases hl : lsB (dOf (zf n g true (rd.set j 0)) (rd.set j 0).reverse) (ofB n g rd j) with
      | false =>
        rw [hl, if_neg (by decide)] at hu1 hu2
        rw [if_pos (show bI false = 0 from rfl)]
        dsimp only
        rw [nmv_d, nI_1]
        exact hnx _ _ _ _ _ _ _ _ _ _ ⟨j + 1, by omega, rfl, hu1.symm, hu2.symm⟩ hmes
      | true =>
        rw [hl, if_pos rfl] at hu1 hu2
        rw [if_neg (show ¬ bI true = 0 by decide)]
        dsimp only
        rw [nmv_d, nI_1]
        exact hnx _ _ _ _ _ _ _ _ _ _ ⟨j + 1, by omega, rfl, hu1.symm, hu2.symm⟩ hmes
theorem comesX_eq {pg : List Nat} {codes : A32} {size : Int32} (hp : pgR pg codes size) (h0 : 0 < n) (hn : n ≤ 7) (hr : Rw n r) : ∃ s1 s2 s3 s4 s5 s6 s7, f_X7_comes codes size (nI n) (bI (gA g)) (bI (gB g)) (bI (gR g)) (bI (gT g)) (nI (enc8 r)) as ar az ad aw at' ao = some (if pg.length = n ∧ ldP pg = n then oI (dOf (zf n g true r) (rowP pg)) else -103, s1, s2, s3, s4, s5, s6, s7) := by
  unfold f_X7_comes
  rw [hasBrook_eq hn, cl1_s, if_neg (show ¬ bI (decide (0 < n)) = 0 by rw [decide_eq_true (by omega)]; decide), tellsRow_eq hp hn, cl1_s]
  by_cases q : pg.length = n ∧ ldP pg = n
  · have hrp := rowP_rw pg
    rw [q.2] at hrp
    obtain ⟨s1, s2, s3, s4, s5, s6, s7, e⟩ := spread_to (g := g) (sense := true) (slots := as) (rows := ar) (tsize := az) (depths := ad) (ways := aw) (st0 := at') (so0 := ao) hr hrp hn
    have e' : f_X5_spread (nI n) (bI (gA g)) (bI (gB g)) (bI (gR g)) (bI (gT g)) as ar az ad aw at' ao (nI (enc8 r)) 1 (nI (enc8 (rowP pg))) = _ := e
    rw [decide_eq_true q.1, decide_eq_true q.2, if_neg (show ¬ bI (true && true) = 0 by decide), row_eq hp, cl1_s, e', cl8_s, if_pos q]
    exact ⟨_, _, _, _, _, _, _, rfl⟩
  · have : (decide (pg.length = n) && decide (ldP pg = n)) = false := by
      cases hd : (decide (pg.length = n) && decide (ldP pg = n)) with
      | false => rfl
      | true =>
        rw [Bool.and_eq_true, decide_eq_true_eq, decide_eq_true_eq] at hd
        exact absurd hd q
    rw [this, if_pos (show bI false = 0 from rfl), if_neg q]
    exact ⟨_, _, _, _, _, _, _, rfl⟩
end
