/-! ===== the reference's fewest, ways ===== -/
theorem ald_0 {α β : Type} {n : Nat} {f : Nat → α} {K : α → Option β} (h : 0 < n) (hn : n < 2 ^ 31) : ald n f (0 : Int32) K = K (f 0) := ald_in (k := 0) h hn
theorem l2i_lN (w : Nat) : Int64.toInt32 (lN w) = nI w := by
  apply Int32.toBitVec_inj.mp
  apply BitVec.eq_of_getLsbD_eq
  intro j hj
  rw [to32_bit, wb_tb, BitVec.getLsbD_ofNat]
  show _ = (BitVec.ofNat 32 w).getLsbD j
  rw [BitVec.getLsbD_ofNat]
  simp [hj, show j < 64 by omega]
section
variable {n : Nat} {g : Fl} {r rd : Nd} {rr rn mrow far : A32} {ways : A64} {queue : A32} {qe l0 : Int32}
theorem rw_rev {n : Nat} {r : Nd} (h : Rw n r) : Rw n r.reverse := ⟨by rw [List.length_reverse]; exact h.1, fun k hk => h.2 k (List.mem_reverse.mp hk)⟩
theorem waysNow_eq (hn : n ≤ 7) (hr : Rw n r) (hd : Rw n rd) (h1 : rowAt rr rd) (h2 : rowAt rn r) (hF : FI far ways queue qe) : ∃ m' f' w' q' e', f_X8_waysNow (nI n) (bI (gA g)) (bI (gB g)) (bI (gR g)) (bI (gT g)) rr rn l0 mrow far ways queue qe = some (nI ((zf n g true r).2 rd.reverse), nI n, m', f', w', q', e') ∧ FI f' w' q' e' := by
  unfold f_X8_waysNow
  obtain ⟨m1, a1, a2⟩ := goal_eq (l0 := l0) (m := mrow) h1 hd hn
  obtain ⟨m2, b1, b2⟩ := layNow_eq (l0 := nI n) (m := m1) h2 hr.1 hn
  obtain ⟨m3, f3, w3, q3, e3, c1, c2, c3⟩ := layFar_eq (g := g) b2 hr hn hF
  obtain ⟨-, d2, d3⟩ := c3.at (rw_rev hd)
  rw [a1, cl3_s, b1, cl2_s, c1, cl5_s, ald_in d3 (by decide), d2, l2i_lN]
  exact ⟨_, _, _, _, _, rfl, c3.fi⟩
theorem fewestNow_eq (hn : n ≤ 7) (hr : Rw n r) (hd : Rw n rd) (h1 : rowAt rr rd) (h2 : rowAt rn r) (hF : FI far ways queue qe) {w : Nat} (hw : w < 3) : ∃ m' f' w' q' e', f_X8_fewestNow (nI n) (bI (gA g)) (bI (gB g)) (bI (gR g)) (bI (gT g)) rr rn l0 mrow far ways queue qe (nI w) = some (fewV n g r rd.reverse w, nI n, m', f', w', q', e') ∧ FI f' w' q' e' := by
  unfold f_X8_fewestNow fewV
  obtain ⟨m1, a1, a2⟩ := goal_eq (l0 := l0) (m := mrow) h1 hd hn
  obtain ⟨m2, b1, b2⟩ := layNow_eq (l0 := nI n) (m := m1) h2 hr.1 hn
  have hg := rw_rev hd
  obtain ⟨m3, f3, w3, q3, e3, c1, c2, c3⟩ := farTo_eq (g := g) b2 hr hn hF hg
  rw [a1, cl3_s, b1, cl2_s, c1, cl6_s, jn0_d]
  by_cases hw0 : w = 0
  · subst hw0
    rw [if_pos (show nI 0 = 0 from rfl), if_pos (show nI 0 = 0 from rfl), ite_self, if_pos rfl]
    exact ⟨_, _, _, _, _, rfl, c3.fi⟩
  · have hw0' : ¬ nI w = 0 := nI_ne0 (by omega) (by omega)
    rw [if_neg hw0', if_neg hw0', if_neg hw0]
    unfold fwM
    cases hD : dOf (zf n g true r) rd.reverse with
    | none => rw [if_pos (show oI none < 1 by decide)]; exact ⟨_, _, _, _, _, rfl, c3.fi⟩
    | some d =>
      have hdl := dOf_lt hr hn hD
      cases d with
      | zero => rw [if_pos (show oI (some 0) < 1 by decide)]; exact ⟨_, _, _, _, _, rfl, c3.fi⟩
      | succ d =>
        rw [if_neg (show ¬ oI (some (d + 1)) < 1 from nI_nlt (b := 1) (by omega) (by omega)), ald_0 (by decide) (by decide), (c3.2.1 0 _ (zf_0 n g true r)).1]
        dsimp only
        generalize hfm : (mvs n g r true).find? (fwP n g r rd.reverse d) = fm
        have hpt : ptO fm (decide (w = 1)) = ptO fm (decide (nI w = 1)) := by
          have : decide (w = 1) = decide (nI w = 1) := by rcases (show w = 1 ∨ w = 2 by omega) with q | q <;> subst q <;> rfl
          rw [this]
        rw [hpt]
        -- the loop over the first stone
        refine lp6_5_inv (fun (x5 : Int32) (m1 f1 : A32) (w1 : A64) (q1 : A32) (e1 : Int32) => ∃ f, f ≤ n ∧ x5 = nI f ∧ rowAt m1 r ∧ FI f1 w1 q1 e1 ∧ ∀ m ∈ mvp n g r f 0, fwP n g r rd.reverse d m = false) (fun x5 _ _ _ _ _ => 8 - x5.toNatClampNeg) (fun o => ∃ (m' f' : A32) (w' : A64) (q' : A32) (e' : Int32), o = some (ptO fm (decide (nI w = 1)), nI n, m', f', w', q', e') ∧ FI f' w' q' e') ?_ fuel _ _ _ _ _ _ ⟨0, Nat.zero_le _, rfl, c2, c3.fi, fun m hm => by simp [mvp] at hm⟩ (fuel_gt (by omega))
        intro x5 m1 f1 w1 q1 e1 nx ⟨f, hf, ex, hm1, hF1, hno⟩ hnx
        subst ex
        by_cases hc : n ≤ f
        · rw [if_pos (nI_le hc (by omega))]
          have hfn : f = n := by omega
          subst hfn
          rw [mvp_no hn hno] at hfm
          subst hfm
          exact ⟨_, _, _, _, _, rfl, hF1⟩
        · rw [if_neg (fun q => hc ((nI_leI (by omega) (by omega)).mp q))]
          refine lp6_5_inv (fun (x6 : Int32) (m1 f1 : A32) (w1 : A64) (q1 : A32) (e1 : Int32) => ∃ t, t ≤ n ∧ x6 = nI t ∧ rowAt m1 r ∧ FI f1 w1 q1 e1 ∧ ∀ m ∈ mvp n g r f t, fwP n g r rd.reverse d m = false) (fun x6 _ _ _ _ _ => 8 - x6.toNatClampNeg) (fun o => ∃ (m' f' : A32) (w' : A64) (q' : A32) (e' : Int32), o = some (ptO fm (decide (nI w = 1)), nI n, m', f', w', q', e') ∧ FI f' w' q' e') ?_ fuel _ _ _ _ _ _ ⟨0, Nat.zero_le _, rfl, hm1, hF1, hno⟩ (fuel_gt (by omega))
          intro x6 m2 f2 w2 q2 e2 nx2 ⟨t, ht, ex, hm2, hF2, hno2⟩ hnx2
          subst ex
          by_cases hc2 : n ≤ t
          · rw [if_pos (nI_le hc2 (by omega))]
            dsimp only
            rw [nmv_d, nI_1]
            have htn : t = n := by omega
            subst htn
            rw [mvp_f] at hno2
            exact hnx _ _ _ _ _ _ ⟨f + 1, by omega, rfl, hm2, hF2, hno2⟩ (by rw [nI_clamp (by omega), nI_clamp (by omega)]; omega)
          · rw [if_neg (fun q => hc2 ((nI_leI (by omega) (by omega)).mp q)), mayMove_eq hm2 hr hn (by omega) (by omega), cl1_s, jn5_d]
            cases hmay : may n g r true f t with
            | false =>
              rw [if_pos (show bI false = 0 from rfl)]
              dsimp only
              rw [nmv_d, nI_1]
              exact hnx2 _ _ _ _ _ _ ⟨t + 1, by omega, rfl, hm2, hF2, mvp_stay hno2 (fun q => by rw [hmay] at q; cases q)⟩ (by rw [nI_clamp (by omega), nI_clamp (by omega)]; omega)
            | true =>
              obtain ⟨-, h0, hft, -⟩ := may_to (show f < n by omega) hmay
              obtain ⟨m4, g1, g2⟩ := layRow_eq (m := m2) (hr.mv (f := f) (t := t)) hn
              obtain ⟨m5, f5, w5, q5, e5, k1, k2, k3⟩ := farTo_eq (g := g) g2 hr.mv hn hF2 hg
              rw [if_neg (show ¬ bI true = 0 by decide), ald_in (by omega) (by decide), hm2 f (by rw [hr.1]; omega), behind_eq hr hn (by omega) (by omega) hft h0, cl1_s, g1, cl1_s, k1, cl6_s, show oI (some (d + 1)) - 1 = oI (some d) from nI_pred d]
              have hiff := oI_inj (a := dOf (zf n g true (mvd r f t)) rd.reverse) (b := some d) (fun k hk => by have := dOf_lt hr.mv hn hk; omega) (fun k hk => by cases hk; omega)
              by_cases q : dOf (zf n g true (mvd r f t)) rd.reverse = some d
              · rw [if_pos (hiff.mpr q)]
                rw [mvp_hit hn (by omega) (by omega) hmay hno2 (by unfold fwP; exact decide_eq_true q)] at hfm
                subst hfm
                by_cases q1 : nI w = 1
                · rw [if_pos q1, decide_eq_true q1]; exact ⟨_, _, _, _, _, rfl, k3.fi⟩
                · rw [if_neg q1, decide_eq_false q1]; exact ⟨_, _, _, _, _, rfl, k3.fi⟩
              · obtain ⟨m6, l1, l2⟩ := layRow_eq (m := m5) hr hn
                rw [if_neg (fun w => q (hiff.mp w)), l1, cl1_s]
                dsimp only
                rw [nmv_d, nI_1]
                exact hnx2 _ _ _ _ _ _ ⟨t + 1, by omega, rfl, l2, k3.fi, mvp_stay hno2 (fun _ => by unfold fwP; exact decide_eq_false q)⟩ (by rw [nI_clamp (by omega), nI_clamp (by omega)]; omega)
end
