/-! ===== wrong, ends, soon, comes ===== -/
def rowK (rd : Nd) (hs : List (Nat × Nat)) (j : Nat) : Nd := rowH rd (hs.drop (hs.length - j))
def noG (n : Nat) (g : Fl) (rd go : Nd) (hs : List (Nat × Nat)) (i : Nat) : Bool := decide (dOf (zf n g true (rowK rd hs (i + 1))) go = none)
def wrV (n : Nat) (g : Fl) (rd go : Nd) (hs : List (Nat × Nat)) : Int32 := if dOf (zf n g true rd) go = none then -1 else match (List.range hs.length).find? (noG n g rd go hs) with
  | some i => nI (i + 1)
  | none => -1
theorem wr_hit {n : Nat} {g : Fl} {rd go : Nd} {hs : List (Nat × Nat)} {j : Nat} (h0 : dOf (zf n g true rd) go ≠ none) (hj : j < hs.length) (hno : ∀ i, i < j → noG n g rd go hs i = false) (hp : noG n g rd go hs j = true) : wrV n g rd go hs = nI (j + 1) := by
  unfold wrV
  rw [if_neg h0, List.find?_range_eq_some.mpr ⟨hp, List.mem_range.mpr hj, fun i hi => by rw [hno i hi]; rfl⟩]
theorem wr_no {n : Nat} {g : Fl} {rd go : Nd} {hs : List (Nat × Nat)} (hno : ∀ i, i < hs.length → noG n g rd go hs i = false) : wrV n g rd go hs = -1 := by
  unfold wrV
  rw [List.find?_range_eq_none.mpr (fun i hi => by rw [hno i hi]; rfl)]
  split <;> rfl
theorem rowK_0 (rd : Nd) (hs : List (Nat × Nat)) : rowK rd hs 0 = rd := by
  unfold rowK
  rw [Nat.sub_zero, List.drop_of_length_le (Nat.le_refl _)]; rfl
theorem rowK_s {rd : Nd} {hs : List (Nat × Nat)} {j : Nat} {m : Nat × Nat} {hs' : List (Nat × Nat)} (hj : j < hs.length) (e : hs.drop (hs.length - 1 - j) = m :: hs') : rowK rd hs (j + 1) = mvd (rowK rd hs j) m.1 m.2 ∧ rowK rd hs j = rowH rd hs' := by
  unfold rowK
  have := drop_drop1 hj e
  rw [this, show hs.length - (j + 1) = hs.length - 1 - j by omega, e]
  exact ⟨rfl, rfl⟩
theorem oI_none {o : Option Nat} (h : ∀ k, o = some k → k < 2 ^ 31) : oI o = -1 ↔ o = none := by
  cases o with
  | none => exact ⟨fun _ => rfl, fun _ => rfl⟩
  | some k => exact ⟨fun q => absurd q (nI_m1 (h k rfl)), fun q => by cases q⟩
theorem oI_neg {o : Option Nat} (h : ∀ k, o = some k → k < 2 ^ 31) : oI o < 0 ↔ o = none := by
  cases o with
  | none => exact ⟨fun _ => rfl, fun _ => by decide⟩
  | some k => exact ⟨fun q => absurd q (nI_pos (h k rfl)), fun q => by cases q⟩
section
variable {n : Nat} {g : Fl} {rd : Nd} {hs : List (Nat × Nat)} {ts tr : A32} {tz : Int32} {td tw : A32}
theorem rowK_rw (h : OkH n g rd hs) (j : Nat) : Rw n (rowK rd hs j) := (PIH h.1 _ (LgH.drop _ hs h.2.2.1)).1
theorem wrongX_eq (h3 : 3 ≤ n) (h : OkH n g rd hs) {made movers : A32} (ha : AtH rd made movers hs) {go : Nd} (hg : Rw n go) (hS : SR n go ts tr tz td tw (zf n g false go)) : f_X7_wrong (nI n) made (nI hs.length) ts tr td (nI (enc8 rd)) = some (wrV n g rd go hs) := by
  have hn := h.2.1
  have h60 := h.2.2.2
  unfold f_X7_wrong f_X7_firstWrong
  have hrd := h.1
  rw [hasBrook_eq hn, cl1_s, if_neg (show ¬ bI (decide (0 < n)) = 0 by rw [decide_eq_true (by omega)]; decide), (hS.depth hrd).1, cl1_s, rev_d h3 hn hrd hg]
  have hD := oI_none (o := dOf (zf n g true rd) go) (fun k hk => by have := dOf_lt hrd hn hk; omega)
  by_cases q0 : dOf (zf n g true rd) go = none
  · rw [if_pos (hD.mpr q0)]
    unfold wrV
    rw [if_pos q0]; rfl
  · rw [if_neg (fun q => q0 (hD.mp q))]
    refine lp2_0_inv (fun x1 x2 => ∃ j, j ≤ hs.length ∧ x2 = nI j ∧ x1 = nI (enc8 (rowK rd hs j)) ∧ ∀ i, i < j → noG n g rd go hs i = false) (fun _ x2 => 61 - x2.toNatClampNeg) (fun o => cl1 o (fun r_4 => some r_4) = some (wrV n g rd go hs)) ?_ fuel _ 0 ⟨0, Nat.zero_le _, rfl, by rw [rowK_0], fun i hi => absurd hi (Nat.not_lt_zero _)⟩ (fuel_gt (by omega))
    intro x1 x2 nx ⟨j, hj, e2, e1, hno⟩ hnx
    subst e2; subst e1
    by_cases hc : hs.length ≤ j
    · rw [if_pos (nI_le hc (by omega)), cl1_s, wr_no (fun i hi => hno i (by omega))]
    · obtain ⟨m, hs', ed, hl', hma, -⟩ := AtH.at hs j ha (by omega)
      obtain ⟨k1, k2⟩ := rowK_s (rd := rd) (by omega) ed
      have hlg := LgH.drop (hs.length - 1 - j) hs h.2.2.1
      rw [ed] at hlg
      obtain ⟨t1, t2, t3, t4⟩ := may_to hlg.1 hlg.2.1
      rw [← k2] at t2
      rw [if_neg (fun q => hc ((nI_leI (by omega) (by omega)).mp q)), if_neg (show ¬ (60 : Int32) ≤ nI j from fun q => by have := (nI_leI (a := 60) (by decide) (by omega)).mp q; omega), ald_in (by omega) (by decide), hma, moved_mc (rowK_rw h j) hn hlg.1 t1 t3 t2, cl1_s, ← k1, (hS.depth (rowK_rw h (j + 1))).1, cl1_s, rev_d h3 hn (rowK_rw h (j + 1)) hg, nmv_d, nI_1]
      have hD2 := oI_none (o := dOf (zf n g true (rowK rd hs (j + 1))) go) (fun k hk => by have := dOf_lt (rowK_rw h (j + 1)) hn hk; omega)
      by_cases q : dOf (zf n g true (rowK rd hs (j + 1))) go = none
      · rw [if_pos (hD2.mpr q), cl1_s, wr_hit q0 (by omega) hno (by unfold noG; exact decide_eq_true q)]
      · rw [if_neg (fun w => q (hD2.mp w))]
        refine hnx _ _ ⟨j + 1, by omega, rfl, rfl, fun i hi => ?_⟩ (by rw [nI_clamp (by omega), nI_clamp (by omega)]; omega)
        by_cases w : i = j
        · rw [w]; unfold noG; exact decide_eq_false q
        · exact hno i (by omega)
theorem wrongNow_eq (h : OkH n g rd hs) {rr mf mt mrow far : A32} {ways : A64} {queue : A32} {qe l0 : Int32} (h1 : rowAt rr rd) (hft : FtH mf mt hs) (hF : FI far ways queue qe) : ∃ m' f' w' q' e', f_X8_wrongNow (nI n) (bI (gA g)) (bI (gB g)) (bI (gR g)) (bI (gT g)) rr (nI hs.length) mf mt l0 mrow far ways queue qe = some (wrV n g rd rd.reverse hs, nI n, m', f', w', q', e') ∧ FI f' w' q' e' := by
  have hn := h.2.1
  have h60 := h.2.2.2
  have hrd := h.1
  have hg := rw_rev hrd
  unfold f_X8_wrongNow
  obtain ⟨m1, a1, a2⟩ := goal_eq (l0 := l0) (m := mrow) h1 hrd hn
  obtain ⟨m2, b1, b2⟩ := layRead_eq (l0 := nI n) (m := m1) h1 hrd.1 hn
  obtain ⟨m3, f3, w3, q3, e3, c1, c2, c3⟩ := farTo_eq (g := g) b2 hrd hn hF hg
  rw [a1, cl3_s, b1, cl2_s, c1, cl6_s, jn1_d]
  have hD := oI_neg (o := dOf (zf n g true rd) rd.reverse) (fun k hk => by have := dOf_lt hrd hn hk; omega)
  have key : ∀ b : Bool, (b = true → dOf (zf n g true rd) rd.reverse ≠ none) → (b = false → dOf (zf n g true rd) rd.reverse = none) → ∃ m' f' w' q' e', lp7_5 (fun (x2_16 : Int32) (x3_17 : Int32) (m_row_18 : Nat → Int32) (m_far_19 : Nat → Int32) (m_ways_20 : Nat → Int64) (m_queue_21 : Nat → Int32) (m_queueEnd_22 : Int32) nx25 ex25 =>
if nI hs.length ≤ x3_17 then (
ex25 m_row_18 m_far_19 m_ways_20 m_queue_21 m_queueEnd_22) else (
if x2_16 = 0 then (
ex25 m_row_18 m_far_19 m_ways_20 m_queue_21 m_queueEnd_22) else (
ald 60 mt x3_17 fun v_30 =>
ald 60 mf x3_17 fun v_32 =>
ald 7 m_row_18 v_32 fun v_34 =>
astI 7 m_row_18 v_30 v_34 fun m_row_36 =>
ald 60 mf x3_17 fun v_38 =>
astI 7 m_row_36 v_38 0 fun m_row_40 =>
cl6 (f_X8_farTo (bI (gA g)) (bI (gB g)) (bI (gR g)) (bI (gT g)) (nI n) m_row_40 m_far_19 m_ways_20 m_queue_21 m_queueEnd_22 (nI (enc5 rd.reverse))) fun r_42 m_row_43 m_far_44 m_ways_45 m_queue_46 m_queueEnd_47 =>
jn1 (fun (s_49 : Int32) =>
if s_49 = 0 then (
some (x3_17 + (1 : Int32), nI n, m_row_43, m_far_44, m_ways_45, m_queue_46, m_queueEnd_47)) else (
nmv (α := Int32) (x3_17 + 1) fun x3_51 =>
nx25 s_49 x3_51 m_row_43 m_far_44 m_ways_45 m_queue_46 m_queueEnd_47)) fun j84 =>
if r_42 < 0 then (
j84 0) else (
j84 1)))) (fun (m_row_23 : Nat → Int32) (m_far_24 : Nat → Int32) (m_ways_25 : Nat → Int64) (m_queue_26 : Nat → Int32) (m_queueEnd_27 : Int32) =>
some ((-1 : Int32), nI n, m_row_23, m_far_24, m_ways_25, m_queue_26, m_queueEnd_27)) fuel (bI b) 0 m3 f3 w3 q3 e3 = some (wrV n g rd rd.reverse hs, nI n, m', f', w', q', e') ∧ FI f' w' q' e' := by
    intro b hb1 hb2
    refine lp7_5_inv (fun (x2 x3 : Int32) (m1 f1 : A32) (w1 : A64) (q1 : A32) (e1 : Int32) => x2 = bI b ∧ ∃ j, j ≤ hs.length ∧ x3 = nI j ∧ rowAt m1 (rowK rd hs j) ∧ FI f1 w1 q1 e1 ∧ ∀ i, i < j → noG n g rd rd.reverse hs i = false) (fun _ x3 _ _ _ _ _ => 61 - x3.toNatClampNeg) (fun o => ∃ (m' f' : A32) (w' : A64) (q' : A32) (e' : Int32), o = some (wrV n g rd rd.reverse hs, nI n, m', f', w', q', e') ∧ FI f' w' q' e') ?_ fuel _ _ _ _ _ _ _ ⟨rfl, 0, Nat.zero_le _, rfl, by rw [rowK_0]; exact c2, c3.fi, fun i hi => absurd hi (Nat.not_lt_zero _)⟩ (fuel_gt (by omega))
    intro x2 x3 m1 f1 w1 q1 e1 nx ⟨e2, j, hj, e3, hm1, hF1, hno⟩ hnx
    subst e2; subst e3
    by_cases hc : hs.length ≤ j
    · rw [if_pos (nI_le hc (by omega)), wr_no (fun i hi => hno i (by omega))]
      exact ⟨_, _, _, _, _, rfl, hF1⟩
    · rw [if_neg (fun q => hc ((nI_leI (by omega) (by omega)).mp q))]
      cases b with
      | false =>
        rw [if_pos (show bI false = 0 from rfl)]
        have : wrV n g rd rd.reverse hs = -1 := by unfold wrV; rw [if_pos (hb2 rfl)]
        rw [this]
        exact ⟨_, _, _, _, _, rfl, hF1⟩
      | true =>
        obtain ⟨m, hs', ed, hl', hmf, hmt⟩ := FtH.at hs j hft (by omega)
        obtain ⟨k1, k2⟩ := rowK_s (rd := rd) (by omega) ed
        have hlg := LgH.drop (hs.length - 1 - j) hs h.2.2.1
        rw [ed] at hlg
        obtain ⟨t1, t2, t3, t4⟩ := may_to hlg.1 hlg.2.1
        have hm1lt := hlg.1
        have hrk := rowK_rw h j
        have hrk1 := rowK_rw h (j + 1)
        rw [if_neg (show ¬ bI true = 0 by decide), ald_in (by omega) (by decide), ald_in (by omega) (by decide), hmt, hmf, ald_in (by omega) (by decide), astI_in (by omega) (by decide), ald_in (by omega) (by decide), hmf, astI_in (by omega) (by decide)]
        have hm2 : rowAt (upd (upd m1 m.2 (m1 m.1)) m.1 0) (rowK rd hs (j + 1)) := by
          intro i hi
          rw [hrk1.1] at hi
          rw [k1, mvd_at (by rw [hrk.1]; exact hlg.1) (by rw [hrk.1]; exact t1)]
          show (if i = m.1 then (0 : Int32) else if i = m.2 then m1 m.1 else m1 i) = _
          by_cases q : i = m.1
          · rw [if_pos q, if_neg (by omega), if_pos q]; rfl
          · rw [if_neg q]
            by_cases q2 : i = m.2
            · rw [if_pos q2, if_pos q2, hm1 m.1 (by rw [hrk.1]; exact hlg.1)]
            · rw [if_neg q2, if_neg q2, if_neg q, hm1 i (by rw [hrk.1]; exact hi)]
        obtain ⟨m4, f4, w4, q4, e4, p1, p2, p3⟩ := farTo_eq (g := g) hm2 hrk1 hn hF1 hg
        rw [p1, cl6_s, jn1_d]
        have hD2 := oI_neg (o := dOf (zf n g true (rowK rd hs (j + 1))) rd.reverse) (fun k hk => by have := dOf_lt hrk1 hn hk; omega)
        by_cases q : dOf (zf n g true (rowK rd hs (j + 1))) rd.reverse = none
        · rw [if_pos (hD2.mpr q)]
          dsimp only
          rw [if_pos rfl, nI_1, wr_hit (hb1 rfl) (by omega) hno (by unfold noG; exact decide_eq_true q)]
          exact ⟨_, _, _, _, _, rfl, p3.fi⟩
        · rw [if_neg (fun w => q (hD2.mp w))]
          dsimp only
          rw [if_neg i10, nmv_d, nI_1]
          refine hnx _ _ _ _ _ _ _ ⟨rfl, j + 1, by omega, rfl, p2, p3.fi, fun i hi => ?_⟩ (by rw [nI_clamp (by omega), nI_clamp (by omega)]; omega)
          by_cases w : i = j
          · rw [w]; unfold noG; exact decide_eq_false q
          · exact hno i (by omega)
  by_cases q0 : dOf (zf n g true rd) rd.reverse = none
  · rw [if_pos (hD.mpr q0)]
    exact key false (fun q => by cases q) (fun _ => q0)
  · rw [if_neg (fun q => q0 (hD.mp q))]
    exact key true (fun _ => q0) (fun q => by cases q)
theorem stk_s {l : List (Nd × Nat)} {k : Nat} {e : Nd × Nat} (h : l[k]? = some e) : stkL n g true (l.take (k + 1)) = stkL n g true (l.take k) + (if isStk n g true e then 1 else 0) ∧ soonL n g true (l.take (k + 1)) = (soonL n g true (l.take k)).or (if isStk n g true e then some e.2 else none) := by
  have hk := (List.getElem?_eq_some_iff.mp h)
  obtain ⟨hk1, hk2⟩ := hk
  have : l.take (k + 1) = l.take k ++ [e] := by rw [List.take_succ_eq_append_getElem hk1, hk2]
  rw [this]
  unfold stkL soonL
  rw [List.countP_append, List.find?_append]
  constructor
  · rw [List.countP_cons, List.countP_nil, Nat.zero_add]
  · by_cases q : isStk n g true e = true
    · rw [if_pos q, List.find?_cons_of_pos q]
      cases (List.find? (isStk n g true) (l.take k)) <;> rfl
    · rw [if_neg q, List.find?_cons_of_neg q]
      cases (List.find? (isStk n g true) (l.take k)) <;> rfl
theorem stk_0 {l : List (Nd × Nat)} : stkL n g true l = 0 ↔ soonL n g true l = none := by
  unfold stkL soonL
  rw [List.countP_eq_zero, Option.map_eq_none_iff, List.find?_eq_none]
theorem layEnds_eq {r : Nd} {rn mrow far : A32} {ways : A64} {queue : A32} {qe l0 em es : Int32} (hn : n ≤ 7) (hr : Rw n r) (h2 : rowAt rn r) (hF : FI far ways queue qe) : ∃ m' f' w' q' e', f_X8_layEnds (nI n) (bI (gA g)) (bI (gB g)) (bI (gR g)) (bI (gT g)) rn l0 mrow far ways queue qe em es = some (nI n, m', f', w', q', e', nI (stkL n g true (zf n g true r).1), oI (soonL n g true (zf n g true r).1)) ∧ FI f' w' q' e' := by
  unfold f_X8_layEnds
  obtain ⟨m2, b1, b2⟩ := layNow_eq (l0 := l0) (m := mrow) h2 hr.1 hn
  obtain ⟨m3, f3, w3, q3, e3, c1, c2, c3⟩ := layFar_eq (g := g) b2 hr hn hF
  rw [b1, cl2_s, c1, cl5_s]
  have hlen := c3.len
  have hqe := c3.1
  subst hqe
  refine lp4_3_inv (fun (x1 : Int32) (m1 : A32) (x2 x3 : Int32) => ∃ j, j ≤ (zf n g true r).1.length ∧ x1 = nI j ∧ x2 = nI (stkL n g true ((zf n g true r).1.take j)) ∧ x3 = oI (soonL n g true ((zf n g true r).1.take j))) (fun x1 _ _ _ => 640 - x1.toNatClampNeg) (fun o => ∃ (m' f' : A32) (w' : A64) (q' : A32) (e' : Int32), o = some (nI n, m', f', w', q', e', nI (stkL n g true (zf n g true r).1), oI (soonL n g true (zf n g true r).1)) ∧ FI f' w' q' e') ?_ fuel _ _ _ _ ⟨0, Nat.zero_le _, rfl, rfl, rfl⟩ (fuel_gt (by omega))
  intro x1 m1 x2 x3 nx ⟨j, hj, e1, e2, e3⟩ hnx
  subst e1; subst e2; subst e3
  by_cases hc : (zf n g true r).1.length ≤ j
  · rw [if_pos (nI_le hc (by omega)), List.take_of_length_le hc]
    exact ⟨_, _, _, _, _, rfl, c3.fi⟩
  · obtain ⟨e, he⟩ : ∃ e, (zf n g true r).1[j]? = some e := ⟨_, List.getElem?_eq_getElem (by omega)⟩
    have hce := (c3.2.2.2.2.1 e (List.mem_of_getElem? he)).rw hr
    obtain ⟨d1, d2, d3⟩ := c3.2.1 j e he
    obtain ⟨m4, g1, g2⟩ := layRow_eq (m := m1) hce hn
    have h78 := enc5_78 hce hn
    rw [if_neg (fun q => hc ((nI_leI (by omega) (by omega)).mp q)), ald_in (by omega) (by decide), d1, g1, cl1_s, moveMany_eq g2 hce hn, cl1_s, jn2_d]
    obtain ⟨s1, s2⟩ := stk_s (n := n) (g := g) he
    have hml := mvs_len (g := g) (r := e.1) (sense := true) hn
    have hst : stkL n g true ((zf n g true r).1.take j) ≤ j := by
      unfold stkL
      have := List.countP_le_length (p := isStk n g true) (l := (zf n g true r).1.take j)
      rw [List.length_take] at this; omega
    have hmes : 640 - (nI (j + 1)).toNatClampNeg < 640 - (nI j).toNatClampNeg := by rw [nI_clamp (by omega), nI_clamp (by omega)]; omega
    by_cases q : isStk n g true e = true
    · rw [if_pos q] at s1 s2
      have hz : (mvs n g e.1 true).length = 0 := by
        unfold isStk at q
        rw [List.isEmpty_iff.mp q]; rfl
      rw [if_pos (show nI (mvs n g e.1 true).length = 0 by rw [hz]; rfl), jn1_d]
      dsimp only
      by_cases q2 : stkL n g true ((zf n g true r).1.take j) = 0
      · rw [if_pos (show nI (stkL n g true ((zf n g true r).1.take j)) = 0 by rw [q2]; rfl), ald_in (by omega) (by decide), d1, ald_in h78 (by decide), d2, nI_pred, nmv_d, nmv_d, nI_1, nI_1]
        exact hnx _ _ _ _ ⟨j + 1, by omega, rfl, by rw [s1], by rw [s2, stk_0.mp q2]; rfl⟩ hmes
      · rw [if_neg (nI_ne0 (by omega) (by omega)), nmv_d, nmv_d, nI_1, nI_1]
        refine hnx _ _ _ _ ⟨j + 1, by omega, rfl, by rw [s1], ?_⟩ hmes
        rw [s2]
        cases hso : soonL n g true ((zf n g true r).1.take j) with
        | none => exact absurd (stk_0.mpr hso) q2
        | some v => rfl
    · rw [if_neg q] at s1 s2
      have hz : (mvs n g e.1 true).length ≠ 0 := by
        intro w
        apply q
        unfold isStk
        rw [List.length_eq_zero_iff.mp w]; rfl
      rw [if_neg (nI_ne0 (by omega) (by omega))]
      dsimp only
      rw [nmv_d, nI_1]
      exact hnx _ _ _ _ ⟨j + 1, by omega, rfl, by rw [s1, Nat.add_zero], by rw [s2, Option.or_none]⟩ hmes
end
