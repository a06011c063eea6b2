/-! ===== the reference's comes, more, off ===== -/
section
variable {n : Nat} {g : Fl} {r rd : Nd} {rr rn mrow far : A32} {ways : A64} {queue : A32} {qe l0 : Int32}
theorem comesM_eq {pg : List Nat} {page : A32} {plen : Int32} (hp : pgR pg page plen) (h0 : 0 < n) (hn : n ≤ 7) (hr : Rw n r) (h2 : rowAt rn r) (hF : FI far ways queue qe) (fa iw nm ns : Int32) (nr : A32) :
    ∃ fa' iw' nm' ns' nr' l' m' f' w' q' e', f_X8_comes (nI n) (bI (gA g)) (bI (gB g)) (bI (gR g)) (bI (gT g)) rn plen page fa iw nm ns nr l0 mrow far ways queue qe = some (if pg.length = n ∧ ldP pg = n then oI (dOf (zf n g true r) (rowP pg)) else -103, fa', iw', nm', ns', nr', l', m', f', w', q', e') ∧ FI f' w' q' e' := by
  unfold f_X8_comes
  obtain ⟨nr', e, hnr⟩ := readBrook_eq (fa := fa) (iw := iw) (nm := nm) (ns := ns) (nr := nr) hp
  have h14 := hp.2.2.1
  have hfl := flt_le pg
  have hld := ld_le pg
  rw [e, cl5_s, if_neg (nI_ne0 (by omega) (by omega)), hp.1]
  by_cases q : pg.length = n ∧ ldP pg = n
  · have hfe : flt pg = pg.length := by unfold flt; rw [if_pos (by omega)]
    have hrp := rowP_rw pg
    rw [q.2] at hrp
    rw [if_pos (show nI (flt pg) = nI pg.length by rw [hfe]), if_pos (show nI (ldP pg) = nI n by rw [q.2]), if_pos (show nI pg.length = nI n by rw [q.1]), nmv_d, if_pos q]
    refine lp2_1_inv (fun x1 x2 => ∃ j, j ≤ n ∧ x2 = nI j - 1 ∧ x1 = nI (enc5 ((rowP pg).drop j))) (fun _ x2 => (x2 + 1).toNatClampNeg) (fun o => ∃ (fa' iw' nm' ns' : Int32) (nr' : A32) (l' : Int32) (m' f' : A32) (w' : A64) (q' : A32) (e' : Int32), o = some (oI (dOf (zf n g true r) (rowP pg)), fa', iw', nm', ns', nr', l', m', f', w', q', e') ∧ FI f' w' q' e') ?_ fuel 0 _ ⟨n, Nat.le_refl _, rfl, by rw [List.drop_of_length_le (by rw [hrp.1]; exact Nat.le_refl _)]; rfl⟩ (fuel_gt (by rw [Int32.sub_add_cancel, nI_clamp (by omega)]; omega))
    intro x1 x2 nx ⟨j, hj, e2, e1⟩ hnx
    subst e2; subst e1
    cases j with
    | zero =>
      rw [if_pos (by decide), List.drop_zero]
      dsimp only
      obtain ⟨m2, b1, b2⟩ := layNow_eq (l0 := l0) (m := mrow) h2 hr.1 hn
      obtain ⟨m3, f3, w3, q3, e3, c1, c2, c3⟩ := farTo_eq (g := g) b2 hr hn hF hrp
      rw [b1, cl2_s, c1, cl6_s]
      exact ⟨_, _, _, _, _, _, _, _, _, _, _, rfl, c3.fi⟩
    | succ j =>
      rw [nI_pred, if_neg (nI_pos (by omega)), ald_in (by omega) (by decide), nmv_d, nmv_d, hnr j (by omega)]
      have e : (5 : Int32) * nI (enc5 ((rowP pg).drop (j + 1))) + nI ((rowP pg).getD j 0) = nI (enc5 ((rowP pg).drop j)) := by
        rw [n_lit 5, pk_mul, nI_add, take_getD' (rowP pg) j (by rw [hrp.1]; omega)]
        show nI _ = nI (_ + 5 * _)
        congr 1; omega
      rw [e]
      refine hnx _ _ ⟨j, by omega, ?_, rfl⟩ ?_
      · rw [Int32.sub_eq_add_neg]
      · rw [Int32.sub_add_cancel, nI_clamp (by omega), show nI j + -1 + 1 = nI j from by rw [Int32.add_assoc]; simp, nI_clamp (by omega)]; omega
  · rw [if_neg q]
    by_cases a : nI (flt pg) = nI pg.length
    · rw [if_pos a]
      by_cases b : nI (ldP pg) = nI n
      · rw [if_pos b]
        have b' := (nI_eq (by omega) (by omega)).mp b
        rw [if_neg (fun c => q ⟨(nI_eq (by omega) (by omega)).mp c, b'⟩)]
        exact ⟨_, _, _, _, _, _, _, _, _, _, _, rfl, hF⟩
      · rw [if_neg b]; exact ⟨_, _, _, _, _, _, _, _, _, _, _, rfl, hF⟩
    · rw [if_neg a]; exact ⟨_, _, _, _, _, _, _, _, _, _, _, rfl, hF⟩
theorem turnsM_eq {m : A32} (hm : rowAt m r) (hr : Rw n r) (hn : n ≤ 7) (hF : FI far ways queue qe) : ∃ m' f' w' q' e', f_X8_turns (bI (gA g)) (bI (gB g)) (bI (gR g)) (bI (gT g)) (nI n) m far ways queue qe = some (oI (dOf (zf n g true r) r.reverse), m', f', w', q', e') ∧ FI f' w' q' e' := by
  unfold f_X8_turns
  obtain ⟨m3, f3, w3, q3, e3, c1, c2, c3⟩ := farTo_eq (g := g) hm hr hn hF (rw_rev hr)
  rw [turnedCode_eq hm hr hn, cl1_s, c1, cl6_s]
  exact ⟨_, _, _, _, _, rfl, c3.fi⟩
theorem wid_at {rd : Nd} {p i : Nat} (hp : p ≤ rd.length) : (wid rd p).getD i 0 = if i = p then 0 else if p ≤ i then rd.getD (i - 1) 0 else rd.getD i 0 := by
  unfold wid
  rw [List.getD_eq_getElem?_getD]
  have hl : (rd.take p).length = p := by rw [List.length_take]; omega
  by_cases h1 : i = p
  · rw [if_pos h1, List.getElem?_append_right (by omega), hl, h1, Nat.sub_self]; rfl
  · rw [if_neg h1]
    by_cases h2 : p ≤ i
    · rw [if_pos h2, List.getElem?_append_right (by omega), hl, List.getD_eq_getElem?_getD]
      obtain ⟨k, rfl⟩ : ∃ k, i = p + k + 1 := ⟨i - p - 1, by omega⟩
      rw [show p + k + 1 - p = k + 1 by omega, List.getElem?_cons_succ, List.getElem?_drop, show p + k + 1 - 1 = p + k by omega]
    · rw [if_neg h2, List.getElem?_append_left (by omega), List.getElem?_take, if_pos (by omega), List.getD_eq_getElem?_getD]
theorem moreM_eq (h0 : 0 < n) (hn : n ≤ 6) (hd : Rw n rd) (h1 : rowAt rr rd) (hF : FI far ways queue qe) (p : Int32) : ∃ l' m' f' w' q' e', f_X8_moreNow (nI n) (bI (gA g)) (bI (gB g)) (bI (gR g)) (bI (gT g)) rr l0 mrow far ways queue qe p = some (bV (moB n g rd (n + 1)) p, l', m', f', w', q', e') ∧ FI f' w' q' e' := by
  unfold f_X8_moreNow
  refine lp9_8_inv (fun (x2 x3 x4 : Int32) (_ : Int32) (_ f1 : A32) (w1 : A64) (q1 : A32) (e1 : Int32) => FI f1 w1 q1 e1 ∧ ∃ j, j ≤ n + 1 ∧ x4 = nI j ∧ x2 = b1 (moB n g rd j) ∧ x3 = b3 (moB n g rd j)) (fun _ _ x4 _ _ _ _ _ _ => 8 - x4.toNatClampNeg) (fun o => ∃ (l' : Int32) (m' f' : A32) (w' : A64) (q' : A32) (e' : Int32), o = some (bV (moB n g rd (n + 1)) p, l', m', f', w', q', e') ∧ FI f' w' q' e') ?_ fuel _ _ _ _ _ _ _ _ _ ⟨hF, 0, Nat.zero_le _, rfl, rfl, rfl⟩ (fuel_gt (by omega))
  intro x2 x3 x4 y1 y2 y3 y4 y5 y6 nx ⟨hF1, j, hj, e4, e2, e3⟩ hnx
  subst e4; subst e2; subst e3
  by_cases hc : n < j
  · rw [if_pos (nI_lt hc (by omega))]
    have : j = n + 1 := by omega
    subst this
    dsimp only
    rw [jn0_d, bV_M (moB_ok hd hn _ hj) (fun x => some (x, y1, y2, y3, y4, y5, y6))]
    exact ⟨_, _, _, _, _, _, rfl, hF1⟩
  · have hw := wid_rw hd (show j ≤ n by omega)
    have hwl : (wid rd j).length = n + 1 := hw.1
    rw [if_neg (fun q => hc ((nI_ltI (by omega) (by omega)).mp q)), nmv_d, nI_1]
    refine lp2_1_inv (fun (x5 : Int32) (m1 : A32) => ∃ k, k ≤ n + 1 ∧ x5 = nI k ∧ ∀ i, i < k → m1 i = nI ((wid rd j).getD i 0)) (fun x5 _ => 8 - x5.toNatClampNeg) (fun o => ∃ (l' : Int32) (m' f' : A32) (w' : A64) (q' : A32) (e' : Int32), o = some (bV (moB n g rd (n + 1)) p, l', m', f', w', q', e') ∧ FI f' w' q' e') ?_ fuel 0 y2 ⟨0, Nat.zero_le _, rfl, fun i hi => absurd hi (Nat.not_lt_zero _)⟩ (fuel_gt (by omega))
    intro x5 m1 nx2 ⟨k, hk, e5, hm1⟩ hnx2
    subst e5
    by_cases hck : n + 1 ≤ k
    · rw [if_pos (nI_le hck (by omega))]
      obtain ⟨m', f', w', q', e', c1, c2⟩ := turnsM_eq (g := g) (m := m1) (r := wid rd j) (fun i hi => hm1 i (by omega)) hw (by omega) hF1
      dsimp only
      rw [c1, cl6_s, jn1_d, jn0_d]
      have hb := moB_ok (g := g) hd hn j hj
      have ho : ∀ d, dOf (zf (n + 1) g true (wid rd j)) (wid rd j).reverse = some d → d < 1000 := fun d hd' => dOf_lt hw (by omega) hd'
      rw [lessM hb ho]
      have hu1 := b1_up (moB n g rd j) j (dOf (zf (n + 1) g true (wid rd j)) (wid rd j).reverse)
      have hu3 := b3_up (moB n g rd j) j (dOf (zf (n + 1) g true (wid rd j)) (wid rd j).reverse)
      have hmes : 8 - (nI (j + 1)).toNatClampNeg < 8 - (nI j).toNatClampNeg := by rw [nI_clamp (by omega), nI_clamp (by omega)]; omega
      cases hl : lsB (dOf (zf (n + 1) g true (wid rd j)) (wid rd j).reverse) (moB n g rd j) with
      | false =>
        rw [hl, if_neg (by decide)] at hu1 hu3
        rw [if_neg (by decide)]
        dsimp only
        rw [jn1_d, jn0_d, lessM hb ho, hl, if_neg (by decide)]
        dsimp only
        rw [nmv_d, nI_1]
        exact hnx _ _ _ _ _ _ _ _ _ ⟨c2, j + 1, by omega, rfl, hu1.symm, hu3.symm⟩ hmes
      | true =>
        rw [hl, if_pos rfl] at hu1 hu3
        rw [if_pos rfl]
        dsimp only
        rw [jn1_d, jn0_d, lessM hb ho, hl, if_pos rfl]
        dsimp only
        rw [nmv_d, nI_1]
        exact hnx _ _ _ _ _ _ _ _ _ ⟨c2, j + 1, by omega, rfl, hu1.symm, hu3.symm⟩ hmes
    · have hmes : 8 - (nI (k + 1)).toNatClampNeg < 8 - (nI k).toNatClampNeg := by rw [nI_clamp (by omega), nI_clamp (by omega)]; omega
      rw [if_neg (fun q => hck ((nI_leI (by omega) (by omega)).mp q)), jn1_d]
      have hgo : ∀ v : Int32, v = nI ((wid rd j).getD k 0) → ∃ (l' : Int32) (m' f' : A32) (w' : A64) (q' : A32) (e' : Int32), (astI 7 m1 (nI k) v fun m_row_25 => nmv (α := Int32) (nI k + 1) fun x5_27 => nx2 x5_27 m_row_25) = some (bV (moB n g rd (n + 1)) p, l', m', f', w', q', e') ∧ FI f' w' q' e' := by
        intro v hv
        rw [astI_in (by omega) (by decide), nmv_d, nI_1]
        refine hnx2 _ _ ⟨k + 1, by omega, rfl, fun i hi => ?_⟩ hmes
        show (if i = k then _ else _) = _
        by_cases q : i = k
        · rw [if_pos q, q]; exact hv
        · rw [if_neg q]; exact hm1 i (by omega)
      have hwa := wid_at (rd := rd) (p := j) (i := k) (by rw [hd.1]; omega)
      by_cases q1 : k = j
      · rw [if_pos q1] at hwa
        rw [if_pos (by rw [q1])]
        exact hgo 0 (by rw [hwa]; rfl)
      · rw [if_neg q1] at hwa
        rw [if_neg (fun w => q1 ((nI_eq (by omega) (by omega)).mp w)), jn1_d]
        by_cases q2 : j ≤ k
        · rw [if_pos q2] at hwa
          obtain ⟨k', rfl⟩ : ∃ k', k = k' + 1 := ⟨k - 1, by omega⟩
          rw [if_pos (nI_le q2 (by omega)), nI_pred]
          dsimp only
          rw [ald_in (by omega) (by decide)]
          exact hgo _ (by rw [hwa, h1 k' (by rw [hd.1]; omega), Nat.add_sub_cancel])
        · rw [if_neg q2] at hwa
          rw [if_neg (fun w => q2 ((nI_leI (by omega) (by omega)).mp w))]
          dsimp only
          rw [ald_in (by omega) (by decide)]
          exact hgo _ (by rw [hwa, h1 k (by rw [hd.1]; omega)])
theorem offM_eq (h0 : 0 < n) (hn : n ≤ 7) (hd : Rw n rd) (h1 : rowAt rr rd) (hF : FI far ways queue qe) (p : Int32) : ∃ l' m' f' w' q' e', f_X8_offNow (nI n) (bI (gA g)) (bI (gB g)) (bI (gR g)) (bI (gT g)) rr l0 mrow far ways queue qe p = some (bV (ofB n g rd n) p, l', m', f', w', q', e') ∧ FI f' w' q' e' := by
  unfold f_X8_offNow
  refine lp10_8_inv (fun (x2 x3 x4 x5 : Int32) (_ : Int32) (_ f1 : A32) (w1 : A64) (q1 : A32) (e1 : Int32) => FI f1 w1 q1 e1 ∧ ∃ j, j ≤ n ∧ x5 = nI j ∧ x4 = nI (frogsIn (rd.take j)) ∧ x2 = b1 (ofB n g rd j) ∧ x3 = b3 (ofB n g rd j)) (fun _ _ _ x5 _ _ _ _ _ _ => 8 - x5.toNatClampNeg) (fun o => ∃ (l' : Int32) (m' f' : A32) (w' : A64) (q' : A32) (e' : Int32), o = some (bV (ofB n g rd n) p, l', m', f', w', q', e') ∧ FI f' w' q' e') ?_ fuel _ _ _ _ _ _ _ _ _ _ ⟨hF, 0, Nat.zero_le _, rfl, rfl, rfl, rfl⟩ (fuel_gt (by omega))
  intro x2 x3 x4 x5 y1 y2 y3 y4 y5 y6 nx ⟨hF1, j, hj, e5, e4, e2, e3⟩ hnx
  subst e5; subst e4; subst e2; subst e3
  by_cases hc : n ≤ j
  · rw [if_pos (nI_le hc (by omega))]
    have : j = n := by omega
    subst this
    dsimp only
    rw [jn0_d, bV_M (ofB_ok hd hn _ hj) (fun x => some (x, y1, y2, y3, y4, y5, y6))]
    exact ⟨_, _, _, _, _, _, rfl, hF1⟩
  · have hmes : 8 - (nI (j + 1)).toNatClampNeg < 8 - (nI j).toNatClampNeg := by rw [nI_clamp (by omega), nI_clamp (by omega)]; omega
    have hk4 := hd.at j
    rw [if_neg (fun q => hc ((nI_leI (by omega) (by omega)).mp q)), ald_in (by omega) (by decide), h1 j (by rw [hd.1]; omega), jn9_d]
    have hof : ofB n g rd (j + 1) = if rd.getD j 0 = 0 then ofB n g rd j else upB (ofB n g rd j) (frogsIn (rd.take j)) (dOf (zf n g true (rd.set j 0)) (rd.set j 0).reverse) := rfl
    by_cases hz : rd.getD j 0 = 0
    · rw [if_pos hz] at hof
      rw [if_pos (show nI (rd.getD j 0) ≤ 0 by rw [hz]; decide)]
      have hfz : frogsIn (rd.take (j + 1)) = frogsIn (rd.take j) := by
        rw [take_getD _ j (by rw [hd.1]; omega), frogs_app, hz]
        have : frogsIn [0] = 0 := rfl
        omega
      dsimp only
      rw [nmv_d, nI_1]
      exact hnx _ _ _ _ _ _ _ _ _ _ ⟨hF1, j + 1, by omega, rfl, by rw [hfz], by rw [hof], by rw [hof]⟩ hmes
    · rw [if_neg hz] at hof
      have hfz := frogs_at (r := rd) (i := j) (by rw [hd.1]; omega) hz
      have hw := set_rw (j := j) hd
      obtain ⟨m2, a1, a2⟩ := layRead_eq (l0 := y1) (m := y2) h1 hd.1 hn
      have hm3 : rowAt (upd m2 j 0) (rd.set j 0) := by
        intro i hi
        rw [List.length_set] at hi
        show (if i = j then (0 : Int32) else m2 i) = _
        rw [getD_set (by rw [hd.1]; omega)]
        by_cases q : i = j
        · rw [if_pos q, if_pos q]; rfl
        · rw [if_neg q, if_neg q]; exact a2 i hi
      obtain ⟨m', f', w', q', e', c1, c2⟩ := turnsM_eq (g := g) hm3 hw hn hF1
      rw [if_neg (nI_nle (by omega) (by omega)), a1, cl2_s, astI_in (by omega) (by decide), c1, cl6_s, jn1_d, jn0_d]
      have hb := ofB_ok (g := g) hd hn j hj
      have ho : ∀ d, dOf (zf n g true (rd.set j 0)) (rd.set j 0).reverse = some d → d < 1000 := fun d hd' => dOf_lt hw hn hd'
      rw [lessM hb ho]
      have hu1 := b1_up (ofB n g rd j) (frogsIn (rd.take j)) (dOf (zf n g true (rd.set j 0)) (rd.set j 0).reverse)
      have hu3 := b3_up (ofB n g rd j) (frogsIn (rd.take j)) (dOf (zf n g true (rd.set j 0)) (rd.set j 0).reverse)
      rw [← hof] at hu1 hu3
      cases hl : lsB (dOf (zf n g true (rd.set j 0)) (rd.set j 0).reverse) (ofB n g rd j) with
      | false =>
        rw [hl, if_neg (by decide)] at hu1 hu3
        rw [if_neg (by decide)]
        dsimp only
        rw [jn1_d, jn0_d, lessM hb ho, hl, if_neg (by decide)]
        dsimp only
        rw [nmv_d]
        rw [nmv_d, nI_1, nI_1]
        exact hnx _ _ _ _ _ _ _ _ _ _ ⟨c2, j + 1, by omega, rfl, by rw [hfz], hu1.symm, hu3.symm⟩ hmes
      | true =>
        rw [hl, if_pos rfl] at hu1 hu3
        rw [if_pos rfl]
        dsimp only
        rw [jn1_d, jn0_d, lessM hb ho, hl, if_pos rfl]
        dsimp only
        rw [nmv_d]
        rw [nmv_d, nI_1, nI_1]
        exact hnx _ _ _ _ _ _ _ _ _ _ ⟨c2, j + 1, by omega, rfl, by rw [hfz], hu1.symm, hu3.symm⟩ hmes
end
