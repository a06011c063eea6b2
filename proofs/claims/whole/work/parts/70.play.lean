/-! ===== play ===== -/
def sdN (v : Nat) : Nat := (1103515245 * v + 12345) % 2147483648
theorem sdN_lt (v : Nat) : sdN v < 2147483648 := Nat.mod_lt _ (by decide)
theorem sd_e {v : Nat} (h : v < 2147483648) : (((1103515245 : Int64) * lN v) + (12345 : Int64)) &&& (2147483647 : Int64) = lN (sdN v) := by
  have e : (2147483647 : Int64) = lN (2 ^ 31 - 1) := by decide
  rw [e, l_lit 1103515245, l_lit 12345, lN_mul, lN_add, wb_mask (by omega) (by decide)]
  rfl
theorem seedAfter_eq {v : Nat} (h : v < 2147483648) : f_X7_seedAfter (nI v) = some (nI (sdN v)) := by
  unfold f_X7_seedAfter
  rw [nI_l (by omega), sd_e h, lN_i]
theorem drawOf_eq {v c : Nat} (h : v < 2147483648) (h0 : 0 < c) (hc : c ≤ 64) : f_X7_drawOf (nI v) (nI c) = some (nI (v / 65536 % c)) := by
  unfold f_X7_drawOf
  rw [if_pos (show (0 : Int32) < nI c from nI_lt (a := 0) h0 (by omega)), idiv_in (by decide), irem_in (nI_ne0 (by omega) (by omega)), n_lit 65536, pk_div (by omega) (by decide) (by decide), pk_rem (by omega) (by omega) (by omega)]
theorem draw_eq {v c : Nat} (h : v < 2147483648) (h0 : 0 < c) (hc : c ≤ 64) : f_X8_draw (lN v) (nI c) = some (nI (sdN v / 65536 % c), lN (sdN v)) := by
  unfold f_X8_draw
  have hs := sdN_lt v
  have hn0 : ¬ lN c = 0 := fun q => by
    have := (lN_eq (a := c) (b := 0) (by omega) (by decide)).mp q
    omega
  rw [sd_e h, nmv_d, ldiv_in (by decide), nI_l (by omega), lrem_in hn0, l_lit 65536, pk_lDiv (by omega) (by decide) (by decide), pk_lRem (by omega) (by omega) (by omega), lN_i]
section
variable {n : Nat} {g : Fl} {r : Nd}
theorem moveOf_eq {k : Nat} (hn : n ≤ 7) (hk : k < (mvs n g r true).length) : f_X7_moveOfNumber (lN (mask n g r true)) (nI k) = some (nI (mc ((mvs n g r true).getD k (0, 0)))) := by
  unfold f_X7_moveOfNumber
  have hml := mvs_len (g := g) (r := r) (sense := true) hn
  refine lp2_1_inv (fun x3 x5 => ∃ j y, j ≤ k ∧ x5 = nI j ∧ x3 = lN y ∧ y < 2 ^ 64 ∧ bitsOf y = ((mvs n g r true).drop j).map mc) (fun _ x5 => 64 - x5.toNatClampNeg) (fun o => o = some (nI (mc ((mvs n g r true).getD k (0, 0))))) ?_ fuel _ 0 ⟨0, _, Nat.zero_le _, rfl, rfl, mask_lt hn, mask_bits hn⟩ (fuel_gt (by omega))
  intro x3 x5 nx ⟨j, y, hj, e5, e3, hy, hb⟩ hnx
  subst e5; subst e3
  have hdr : (mvs n g r true).drop j = (mvs n g r true).getD j (0, 0) :: (mvs n g r true).drop (j + 1) := by
    rw [List.drop_eq_getElem_cons (by omega)]
    simp [List.getD_eq_getElem?_getD, show j < (mvs n g r true).length by omega]
  rw [hdr, List.map_cons] at hb
  by_cases hc : k ≤ j
  · rw [if_pos (nI_le hc (by omega))]
    dsimp only
    rw [low_eq hy hb, cl1_s, show j = k by omega]
  · obtain ⟨y', hy', hcl, hb'⟩ := clear_eq hy hb
    rw [if_neg (fun q => hc ((nI_leI (by omega) (by omega)).mp q)), hcl, nmv_d, nmv_d, nI_1]
    exact hnx _ _ ⟨j + 1, y', by omega, rfl, rfl, hy', hb'⟩ (by rw [nI_clamp (by omega), nI_clamp (by omega)]; omega)
theorem goMove_eq {k : Nat} {m : A32} (hm : rowAt m r) (hr : Rw n r) (hn : n ≤ 7) (hk : k < (mvs n g r true).length) : ∃ m', f_X8_goMove (bI (gA g)) (bI (gB g)) (bI (gR g)) (bI (gT g)) (nI n) m (nI k) = some m' ∧ rowAt m' (mvd r ((mvs n g r true).getD k (0, 0)).1 ((mvs n g r true).getD k (0, 0)).2) := by
  unfold f_X8_goMove
  have hml := mvs_len (g := g) (r := r) (sense := true) hn
  refine lp2_0_inv (fun x2 x3 => ∃ f, f ≤ n ∧ x3 = nI f ∧ (mvp n g r f 0).length ≤ k ∧ x2 = nI (k - (mvp n g r f 0).length)) (fun _ x3 => 8 - x3.toNatClampNeg) (fun o => ∃ m', o = some m' ∧ rowAt m' (mvd r ((mvs n g r true).getD k (0, 0)).1 ((mvs n g r true).getD k (0, 0)).2)) ?_ fuel _ 0 ⟨0, Nat.zero_le _, rfl, Nat.zero_le _, rfl⟩ (fuel_gt (by omega))
  intro x2 x3 nx ⟨f, hf, e3, hle, e2⟩ hnx
  subst e3; subst e2
  by_cases hc : n ≤ f
  · have hfn : f = n := by omega
    subst hfn
    rw [mvp_all hn] at hle
    omega
  · rw [if_neg (fun q => hc ((nI_leI (by omega) (by omega)).mp q))]
    refine lp2_1_inv (fun x2 x4 => ∃ t, t ≤ n ∧ x4 = nI t ∧ (mvp n g r f t).length ≤ k ∧ x2 = nI (k - (mvp n g r f t).length)) (fun _ x4 => 8 - x4.toNatClampNeg) (fun o => ∃ m', o = some m' ∧ rowAt m' (mvd r ((mvs n g r true).getD k (0, 0)).1 ((mvs n g r true).getD k (0, 0)).2)) ?_ fuel _ 0 ⟨0, Nat.zero_le _, rfl, hle, rfl⟩ (fuel_gt (by omega))
    intro x2 x4 nx2 ⟨t, ht, e4, hle2, e2⟩ hnx2
    subst e4; subst e2
    by_cases hc2 : n ≤ t
    · rw [if_pos (nI_le hc2 (by omega))]
      have htn : t = n := by omega
      subst htn
      rw [mvp_f] at hle2 ⊢
      dsimp only
      rw [nmv_d, nI_1]
      exact hnx _ _ ⟨f + 1, by omega, rfl, hle2, rfl⟩ (by rw [nI_clamp (by omega), nI_clamp (by omega)]; omega)
    · rw [if_neg (fun q => hc2 ((nI_leI (by omega) (by omega)).mp q)), mayMove_eq hm hr hn (by omega) (by omega), cl1_s, jn1_d]
      have hmes : 8 - (nI (t + 1)).toNatClampNeg < 8 - (nI t).toNatClampNeg := by rw [nI_clamp (by omega), nI_clamp (by omega)]; omega
      cases hmay : may n g r true f t with
      | false =>
        rw [if_pos (show bI false = 0 from rfl)]
        dsimp only
        rw [nmv_d, nI_1]
        have e : mvp n g r f (t + 1) = mvp n g r f t := by rw [mvp_t, hmay]; simp
        exact hnx2 _ _ ⟨t + 1, by omega, rfl, by rw [e]; exact hle2, by rw [e]⟩ hmes
      | true =>
        have e : (mvp n g r f (t + 1)).length = (mvp n g r f t).length + 1 := by rw [mvp_t, hmay]; simp
        rw [if_neg (show ¬ bI true = 0 by decide)]
        obtain ⟨b, hb⟩ := mvp_pre (g := g) (r := r) (f := f) (t := t + 1) hn (by omega) (by omega)
        by_cases q : k - (mvp n g r f t).length = 0
        · rw [if_pos (by rw [q]; rfl)]
          have hke : k = (mvp n g r f t).length := by omega
          have hget : (mvs n g r true).getD k (0, 0) = (f, t) := by
            rw [hb, mvp_t, hmay, if_pos rfl, List.append_assoc, List.getD_eq_getElem?_getD, List.getElem?_append_right (by omega), hke, Nat.sub_self]; rfl
          obtain ⟨-, h0, hft, -⟩ := may_to (show f < n by omega) hmay
          rw [hget, ald_in (by omega) (by decide), astI_in (by omega) (by decide), astI_in (by omega) (by decide)]
          refine ⟨_, rfl, fun i hi => ?_⟩
          rw [mvd_len, hr.1] at hi
          rw [mvd_at (by rw [hr.1]; omega) (by rw [hr.1]; omega)]
          show (if i = f then (0 : Int32) else if i = t then m f else m i) = _
          by_cases q1 : i = f
          · rw [if_pos q1, if_neg (by omega), if_pos q1]; rfl
          · rw [if_neg q1]
            by_cases q2 : i = t
            · rw [if_pos q2, if_pos q2, hm f (by rw [hr.1]; omega)]
            · rw [if_neg q2, if_neg q2, if_neg q1, hm i (by rw [hr.1]; exact hi)]
        · rw [if_neg (nI_ne0 (by omega) (by omega)), nmv_d]
          dsimp only
          rw [nmv_d, nI_1]
          obtain ⟨u, hu⟩ : ∃ u, k - (mvp n g r f t).length = u + 1 := ⟨k - (mvp n g r f t).length - 1, by omega⟩
          rw [hu, show nI (u + 1) + (-1) = nI u from pk_m1 u]
          exact hnx2 _ _ ⟨t + 1, by omega, rfl, by omega, by congr 1; omega⟩ hmes
end
def pkM (n : Nat) (g : Fl) (r : Nd) (v : Nat) : Nat × Nat := (mvs n g r true).getD (v / 65536 % (mvs n g r true).length) (0, 0)
def plS (n : Nat) (g : Fl) : Nat → Nd → Nat → Nat → Nd × Nat × Nat
  | 0, r, v, c => (r, v, c)
  | k + 1, r, v, c => if (mvs n g r true).isEmpty then (r, v, c) else plS n g k (mvd r (pkM n g r (sdN v)).1 (pkM n g r (sdN v)).2) (sdN v) (c + 1)
def plV (z : Nd × Nat × Nat) (go : Nd) (w : Int32) : Int32 := if w = 0 then nI z.2.2 else if w = 2 then nI z.2.1 else if z.1 = go then 1 else 0
theorem plS_e {n : Nat} {g : Fl} {k : Nat} {r : Nd} {v c : Nat} (h : (mvs n g r true).isEmpty = true) : plS n g k r v c = (r, v, c) := by
  cases k with
  | zero => rfl
  | succ k => show (if _ then _ else _) = _; rw [if_pos h]
theorem pkm_lt {n : Nat} {g : Fl} {r : Nd} {v : Nat} (h : ¬ (mvs n g r true).isEmpty = true) : 0 < (mvs n g r true).length ∧ v / 65536 % (mvs n g r true).length < (mvs n g r true).length := by
  have : 0 < (mvs n g r true).length := List.length_pos_iff.mpr (fun q => h (by rw [q]; rfl))
  exact ⟨this, Nat.mod_lt _ this⟩
theorem pkm_mem {n : Nat} {g : Fl} {r : Nd} {v : Nat} (h : ¬ (mvs n g r true).isEmpty = true) : pkM n g r v ∈ mvs n g r true := by
  have := (pkm_lt (v := v) h).2
  unfold pkM
  rw [List.getD_eq_getElem?_getD, List.getElem?_eq_getElem this]
  exact List.getElem_mem this
section
variable {n : Nat} {g : Fl} {r rd go : Nd}
theorem playX_eq {T v : Nat} {w : Int32} (h0 : 0 < n) (hn : n ≤ 7) (hr : Rw n r) (hg : Rw n go) (h1 : 1 ≤ T) (h60 : T ≤ 60) (hv : v < 2147483648) (hw : ¬ w < 0 ∧ w ≤ 2) : f_X7_play (nI n) (bI (gA g)) (bI (gB g)) (bI (gR g)) (bI (gT g)) (nI (enc8 r)) (nI (enc8 go)) (nI T) (nI v) w = some (plV (plS n g T r v 0) go w) := by
  unfold f_X7_play
  rw [if_neg (show ¬ nI T < 1 from nI_nlt (b := 1) h1 (by omega)), if_neg (show ¬ 60 < nI T from nI_nlt (a := 60) h60 (by decide)), if_neg (nI_pos (by omega)), if_neg hw.1, if_pos hw.2, hasBrook_eq hn, cl1_s, if_neg (show ¬ bI (decide (0 < n)) = 0 by rw [decide_eq_true h0]; decide)]
  refine lp4_3_inv (fun x4 x5 x6 x7 => ∃ j r' v', j ≤ T ∧ x7 = nI j ∧ x6 = nI j ∧ x5 = nI v' ∧ x4 = nI (enc8 r') ∧ v' < 2147483648 ∧ Rw n r' ∧ plS n g (T - j) r' v' j = plS n g T r v 0) (fun _ _ _ x7 => 61 - x7.toNatClampNeg) (fun o => o = some (plV (plS n g T r v 0) go w)) ?_ fuel _ _ _ _ ⟨0, r, v, Nat.zero_le _, rfl, rfl, rfl, rfl, hv, hr, rfl⟩ (fuel_gt (by omega))
  intro x4 x5 x6 x7 nx ⟨j, r', v', hj, e7, e6, e5, e4, hv', hr', hpl⟩ hnx
  subst e7; subst e6; subst e5; subst e4
  have hfin : plS n g T r v 0 = (r', v', j) → (if w = 0 then some (nI j) else if w = 2 then some (nI v') else if nI (enc8 r') = nI (enc8 go) then some (1 : Int32) else some 0) = some (plV (plS n g T r v 0) go w) := by
    intro e
    rw [e]
    unfold plV
    by_cases q0 : w = 0
    · rw [if_pos q0, if_pos q0]
    · rw [if_neg q0, if_neg q0]
      by_cases q2 : w = 2
      · rw [if_pos q2, if_pos q2]
      · rw [if_neg q2, if_neg q2]
        have l1 : enc8 r' < 2097152 := row_lt hr'.d (by rw [hr'.1]; exact hn)
        have l2 : enc8 go < 2097152 := row_lt hg.d (by rw [hg.1]; exact hn)
        by_cases q : r' = go
        · rw [if_pos (by rw [q]), if_pos q]
        · rw [if_neg (fun e => q (enc8_inj hr'.d hg.d (by rw [hr'.1, hg.1]) ((nI_eq (by omega) (by omega)).mp e))), if_neg q]
  by_cases hc : T ≤ j
  · rw [if_pos (nI_le hc (by omega))]
    rw [show T - j = 0 by omega] at hpl
    exact hfin hpl.symm
  · have hml := mvs_len (g := g) (r := r') (sense := true) hn
    have ham : f_X4_allMoves (nI n) (bI (gA g)) (bI (gB g)) (bI (gR g)) (bI (gT g)) (nI (enc8 r')) 1 = some (lN (mask n g r' true)) := allMoves_eq (sense := true) hr' hn
    rw [if_neg (fun q => hc ((nI_leI (by omega) (by omega)).mp q)), ham, cl1_s]
    by_cases q : (mvs n g r' true).isEmpty = true
    · rw [if_pos ((mask_0 hn).mpr q)]
      rw [plS_e q] at hpl
      exact hfin hpl.symm
    · obtain ⟨p1, p2⟩ := pkm_lt (v := sdN v') q
      obtain ⟨m1, m2, m3, m4, m5⟩ := mv_ok hn (pkm_mem (v := sdN v') q)
      have hmo := moveOf_eq (g := g) (r := r') hn p2
      rw [if_neg (fun w => q ((mask_0 hn).mp w)), seedAfter_eq hv', cl1_s, bitCount_eq (mask_lt hn), cl1_s, mask_bits hn, List.length_map, drawOf_eq (sdN_lt v') p1 hml, cl1_s, hmo, cl1_s]
      have hmv : f_X3_moved (nI (enc8 r')) (nI (mc ((mvs n g r' true).getD (sdN v' / 65536 % (mvs n g r' true).length) (0, 0)))) = some (nI (enc8 (mvd r' (pkM n g r' (sdN v')).1 (pkM n g r' (sdN v')).2))) := moved_mc (m := pkM n g r' (sdN v')) hr' hn m1 m2 m3 m4
      rw [hmv, cl1_s, nmv_d, nmv_d, nI_1]
      refine hnx _ _ _ _ ⟨j + 1, _, _, by omega, rfl, rfl, rfl, rfl, sdN_lt v', hr'.mv, ?_⟩ (by rw [nI_clamp (by omega), nI_clamp (by omega)]; omega)
      rw [← hpl, show T - j = (T - (j + 1)) + 1 by omega]
      show _ = if _ then _ else _
      rw [if_neg q]
theorem playM_eq {T v : Nat} {w : Int32} {rr rn mrow : A32} {l0 : Int32} {sd : Int64} (hn : n ≤ 7) (hr : Rw n r) (hd : Rw n rd) (h1 : rowAt rr rd) (h2 : rowAt rn r) (h60 : T ≤ 60) (hv : v < 2147483648) : ∃ l' m' s', f_X8_playNow (nI n) (bI (gA g)) (bI (gB g)) (bI (gR g)) (bI (gT g)) rr rn l0 mrow sd (nI T) (nI v) w = some (plV (plS n g T r v 0) rd.reverse w, l', m', s') := by
  unfold f_X8_playNow
  obtain ⟨m1, a1, a2⟩ := goal_eq (l0 := l0) (m := mrow) h1 hd hn
  obtain ⟨m2, b1, b2⟩ := layNow_eq (l0 := nI n) (m := m1) h2 hr.1 hn
  rw [a1, cl3_s, b1, cl2_s, nmv_d, nI_l (by omega)]
  refine lp4_3_inv (fun (x5 x6 : Int32) (m : A32) (s : Int64) => ∃ (j : Nat) (r' : Nd) (v' : Nat) (b : Bool), j ≤ T ∧ x5 = nI j ∧ x6 = bI b ∧ s = lN v' ∧ rowAt m r' ∧ v' < 2147483648 ∧ Rw n r' ∧ plS n g (T - j) r' v' j = plS n g T r v 0 ∧ (b = false → (mvs n g r' true).isEmpty = true)) (fun x5 x6 _ _ => 2 * (61 - x5.toNatClampNeg) + x6.toNatClampNeg) (fun o => ∃ (l' : Int32) (m' : A32) (s' : Int64), o = some (plV (plS n g T r v 0) rd.reverse w, l', m', s')) ?_ fuel _ _ _ _ ⟨0, r, v, true, Nat.zero_le _, rfl, rfl, rfl, b2, hv, hr, rfl, fun q => by cases q⟩ (fuel_gt (by decide))
  intro x5 x6 m s nx ⟨j, r', v', b, hj, e5, e6, es, hm, hv', hr', hpl, hb⟩ hnx
  subst e5; subst e6; subst es
  have hfin : plS n g T r v 0 = (r', v', j) → ∃ (l' : Int32) (m' : A32) (s' : Int64), (if w = 0 then some (nI j, nI n, m, lN v') else if w = 2 then some (Int64.toInt32 (lN v'), nI n, m, lN v') else cl1 (f_X8_codeOf (nI n) m) fun r_34 => if r_34 = nI (enc5 rd.reverse) then some ((1 : Int32), nI n, m, lN v') else some (0, nI n, m, lN v')) = some (plV (plS n g T r v 0) rd.reverse w, l', m', s') := by
    intro e
    rw [e]
    unfold plV
    by_cases q0 : w = 0
    · rw [if_pos q0, if_pos q0]; exact ⟨_, _, _, rfl⟩
    · rw [if_neg q0, if_neg q0]
      by_cases q2 : w = 2
      · rw [if_pos q2, if_pos q2, lN_i]; exact ⟨_, _, _, rfl⟩
      · have l1 := enc5_78 hr' hn
        have l2 := enc5_78 (rw_rev hd) hn
        rw [if_neg q2, if_neg q2, codeOf_eq hm hr' hn, cl1_s]
        by_cases q : r' = rd.reverse
        · rw [if_pos (by rw [q]), if_pos q]; exact ⟨_, _, _, rfl⟩
        · rw [if_neg (fun e => q (hr'.inj5 (rw_rev hd) ((nI_eq (by omega) (by omega)).mp e))), if_neg q]; exact ⟨_, _, _, rfl⟩
  by_cases hc : T ≤ j
  · rw [if_pos (nI_le hc (by omega))]
    rw [show T - j = 0 by omega] at hpl
    exact hfin hpl.symm
  · rw [if_neg (fun q => hc ((nI_leI (by omega) (by omega)).mp q))]
    cases b with
    | false =>
      rw [if_pos (show bI false = 0 from rfl)]
      rw [plS_e (hb rfl)] at hpl
      exact hfin hpl.symm
    | true =>
      have hml := mvs_len (g := g) (r := r') (sense := true) hn
      rw [if_neg (show ¬ bI true = 0 by decide), moveMany_eq hm hr' hn, cl1_s, jn1_d]
      by_cases q : (mvs n g r' true).isEmpty = true
      · have hz : (mvs n g r' true).length = 0 := by rw [List.isEmpty_iff.mp q]; rfl
        rw [if_pos (show nI (mvs n g r' true).length ≤ 0 by rw [hz]; decide)]
        dsimp only
        rw [jn3_d, if_pos rfl]
        refine hnx _ _ _ _ ⟨j, r', v', false, hj, rfl, rfl, rfl, hm, hv', hr', hpl, fun _ => q⟩ ?_
        show 2 * (61 - (nI j).toNatClampNeg) + (0 : Int32).toNatClampNeg < 2 * (61 - (nI j).toNatClampNeg) + (1 : Int32).toNatClampNeg
        have : (0 : Int32).toNatClampNeg < (1 : Int32).toNatClampNeg := by decide
        omega
      · obtain ⟨p1, p2⟩ := pkm_lt (v := sdN v') q
        obtain ⟨m3, g1, g2⟩ := goMove_eq (g := g) hm hr' hn p2
        rw [if_neg (nI_nle (by omega) (by omega))]
        dsimp only
        rw [jn3_d, if_neg i10, draw_eq hv' p1 hml, cl2_s, g1, cl1_s, nmv_d]
        dsimp only
        rw [nI_1]
        refine hnx _ _ _ _ ⟨j + 1, _, _, true, by omega, rfl, rfl, rfl, g2, sdN_lt v', hr'.mv, ?_, fun q => by cases q⟩ ?_
        · rw [← hpl, show T - j = (T - (j + 1)) + 1 by omega]
          show _ = if _ then _ else _
          rw [if_neg q]; rfl
        · show 2 * (61 - (nI (j + 1)).toNatClampNeg) + (1 : Int32).toNatClampNeg < 2 * (61 - (nI j).toNatClampNeg) + (1 : Int32).toNatClampNeg
          rw [nI_clamp (by omega), nI_clamp (by omega)]; omega
end
