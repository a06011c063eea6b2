/-! ===== the reference's game ===== -/
def wonB (n : Nat) (g : Fl) (x : Nd) : Nat := (if Wn n g x false then 2 else 0) + (if Wn n g x true then 4 else 0)
theorem won_bit (n : Nat) (g : Fl) (x : Nd) (side : Bool) : ((nI (wonB n g x) >>> (((2 : Int32) - bI side) &&& 31)) &&& (1 : Int32)) = bI (Wn n g x (!side)) ∧ ((nI (wonB n g x) >>> (((1 : Int32) + bI side) &&& 31)) &&& (1 : Int32)) = bI (Wn n g x side) := by
  have key : ∀ a b : Bool, ((nI ((if a then 2 else 0) + (if b then 4 else 0)) >>> (((2 : Int32) - bI false) &&& 31)) &&& (1 : Int32)) = bI b ∧ ((nI ((if a then 2 else 0) + (if b then 4 else 0)) >>> (((1 : Int32) + bI false) &&& 31)) &&& (1 : Int32)) = bI a ∧ ((nI ((if a then 2 else 0) + (if b then 4 else 0)) >>> (((2 : Int32) - bI true) &&& 31)) &&& (1 : Int32)) = bI a ∧ ((nI ((if a then 2 else 0) + (if b then 4 else 0)) >>> (((1 : Int32) + bI true) &&& 31)) &&& (1 : Int32)) = bI b := by decide +kernel
  obtain ⟨k1, k2, k3, k4⟩ := key (Wn n g x false) (Wn n g x true)
  unfold wonB
  cases side with
  | false => exact ⟨k1, k2⟩
  | true => exact ⟨k3, k4⟩
theorem won_put (n : Nat) (g : Fl) (x : Nd) : vp_nar .byte (Int8.toInt32 (Int32.toInt8 ((if Wn n g x false then (2 : Int32) else 0) ||| (if Wn n g x true then (4 : Int32) else 0)))) = nI (wonB n g x) := by
  unfold wonB
  cases Wn n g x false <;> cases Wn n g x true <;> decide
theorem isOf_eq {k : Nat} (h : k ≤ 4) (side : Bool) : f_X8_isOf (nI k) (bI side) = some (bI (decide (col k = if side then 2 else 1))) := by
  rcases (show k = 0 ∨ k = 1 ∨ k = 2 ∨ k = 3 ∨ k = 4 by omega) with e | e | e | e | e <;> subst e <;> cases side <;> rfl
theorem isOf_own {n : Nat} {g : Fl} {x : Nd} {f t : Nat} {side : Bool} (hx : Rw n x) (hm : may n g x true f t = true) : decide (col (x.getD f 0) = if side then 2 else 1) = own x f side := by
  have h := may_iff.mp hm
  have hk := hx.at f
  unfold own
  rcases (show x.getD f 0 = 1 ∨ x.getD f 0 = 2 ∨ x.getD f 0 = 4 by omega) with e | e | e <;> rw [e] <;> cases side <;> rfl
/-- whether a move has it for sure -/
def gmP (n : Nat) (g : Fl) (x : Nd) (side : Bool) (m : Nat × Nat) : Bool := own x m.1 side && !Wn n g (mvd x m.1 m.2) (!side)
theorem byM_gm (n : Nat) (g : Fl) (x : Nd) (side : Bool) : byM n g x side = (mvs n g x true).find? (gmP n g x side) := rfl
section
variable {n : Nat} {g : Fl} {r : Nd} {rn mrow far : A32} {ways : A64} {queue : A32} {qe l0 : Int32} {won : A32}
theorem progress_eq {x : Nd} (hx : Rw n x) (hn : n ≤ 7) : f_X8_progress (nI n) (nI (enc5 x)) = some (nI (prog n x)) := by
  unfold f_X8_progress
  refine lp3_1_inv (fun x2 x3 x4 => ∃ j, j ≤ n ∧ x4 = nI j ∧ x2 = nI (enc5 (x.drop j)) ∧ x3 = nI ((List.range j).map (fun i => pv n i (x.getD i 0))).sum) (fun _ _ x4 => n - x4.toNatClampNeg) (fun o => o = some (nI (prog n x))) ?_ fuel _ 0 0 ⟨0, Nat.zero_le _, rfl, rfl, rfl⟩ (fuel_gt (by omega))
  intro x2 x3 x4 nx ⟨j, hj, e4, e2, e3⟩ hnx
  subst e4; subst e2; subst e3
  by_cases hc : n ≤ j
  · rw [if_pos (nI_le hc (by omega)), show j = n by omega]; rfl
  · have hj2 : j < x.length := by rw [hx.1]; omega
    have hd := take_getD' x j hj2
    have hle : enc5 (x.drop j) < 78125 := by
      have h1 := enc5_lt (r := x.drop j) (fun k hk => hx.d5 k (List.mem_of_mem_drop hk))
      rw [List.length_drop, hx.1] at h1
      have h2 : 5 ^ (n - j) ≤ 5 ^ 7 := Nat.pow_le_pow_right (by decide) (by omega)
      omega
    have e5 : enc5 (x.drop j) = x.getD j 0 + 5 * enc5 (x.drop (j + 1)) := by rw [hd]; rfl
    have hk := hx.at j
    have em : nI (enc5 (x.drop j)) - nI (enc5 (x.drop j)) / nI 5 * nI 5 = nI (x.getD j 0) := by
      rw [pk_rem (by omega) (by decide) (by decide)]; congr 1; omega
    have ed : nI (enc5 (x.drop j)) / nI 5 = nI (enc5 (x.drop (j + 1))) := by
      rw [pk_div (by omega) (by decide) (by decide)]; congr 1; omega
    rw [if_neg (fun q => hc ((nI_leI (by omega) (by omega)).mp q)), irem_in (by decide), n_lit 5, em, col_eq hk, cl1_s, jn1_d]
    have hsum : ((List.range (j + 1)).map (fun i => pv n i (x.getD i 0))).sum = ((List.range j).map (fun i => pv n i (x.getD i 0))).sum + pv n j (x.getD j 0) := by
      rw [List.range_succ, List.map_append, List.sum_append]; simp
    have hgo : ∀ s : Int32, s = nI (pv n j (x.getD j 0)) → (nmv (α := Int32) (nI ((List.range j).map (fun i => pv n i (x.getD i 0))).sum + s) fun x3_11 => idivK (nI (enc5 (x.drop j))) (nI 5) fun v_12 => nmv (α := Int32) (nI j + 1) fun x4_14 => nx v_12 x3_11 x4_14) = some (nI (prog n x)) := by
      intro s hs
      rw [hs, nmv_d, idiv_in (by decide), nmv_d, ed, nI_add, nI_1, ← hsum]
      exact hnx _ _ _ ⟨j + 1, by omega, rfl, rfl, rfl⟩ (by rw [nI_clamp (by omega), nI_clamp (by omega)]; omega)
    rcases (show x.getD j 0 = 0 ∨ x.getD j 0 = 1 ∨ x.getD j 0 = 2 ∨ x.getD j 0 = 3 ∨ x.getD j 0 = 4 by omega) with e | e | e | e | e
    · rw [if_neg (show ¬ nI (col (x.getD j 0)) = 1 by rw [e]; decide), if_neg (show ¬ nI (col (x.getD j 0)) = 2 by rw [e]; decide)]
      exact hgo 0 (by rw [e]; rfl)
    · rw [if_pos (show nI (col (x.getD j 0)) = 1 by rw [e]; rfl)]
      exact hgo _ (by rw [e]; rfl)
    · rw [if_neg (show ¬ nI (col (x.getD j 0)) = 1 by rw [e]; decide), if_pos (show nI (col (x.getD j 0)) = 2 by rw [e]; rfl)]
      refine hgo _ ?_
      rw [e, n_lit 1, show nI n - nI 1 = nI (n - 1) from pk_sub (by omega), pk_sub (by omega)]; rfl
    · rw [if_neg (show ¬ nI (col (x.getD j 0)) = 1 by rw [e]; decide), if_neg (show ¬ nI (col (x.getD j 0)) = 2 by rw [e]; decide)]
      exact hgo 0 (by rw [e]; rfl)
    · rw [if_pos (show nI (col (x.getD j 0)) = 1 by rw [e]; rfl)]
      exact hgo _ (by rw [e]; rfl)
theorem winsBy_eq {x : Nd} {m : A32} {side : Bool} (hx : Rw n x) (hn : n ≤ 7) (hw : ∀ y ∈ mvs n g x true, won (enc5 (mvd x y.1 y.2)) = nI (wonB n g (mvd x y.1 y.2))) : ∃ m', f_X8_winsBy (bI (gA g)) (bI (gB g)) (bI (gR g)) (bI (gT g)) (nI n) m won (nI (enc5 x)) (bI side) = some (bI (byM n g x side).isSome, m') := by
  unfold f_X8_winsBy
  obtain ⟨m2, g1, g2⟩ := layRow_eq (m := m) hx hn
  rw [g1, cl1_s, byM_gm]
  generalize hfm : (mvs n g x true).find? (gmP n g x side) = fm
  refine lp1_0_inv (fun x3 => ∃ f, f ≤ n ∧ x3 = nI f ∧ ∀ y ∈ mvp n g x f 0, gmP n g x side y = false) (fun x3 => 8 - x3.toNatClampNeg) (fun o => ∃ m', o = some (bI fm.isSome, m')) ?_ fuel _ ⟨0, Nat.zero_le _, rfl, fun y hy => by simp [mvp] at hy⟩ (fuel_gt (by omega))
  intro x3 nx ⟨f, hf, ex, hno⟩ hnx
  subst ex
  by_cases hc : n ≤ f
  · rw [if_pos (nI_le hc (by omega))]
    have hfn : f = n := by omega
    subst hfn
    rw [mvp_no hn hno] at hfm
    subst hfm
    exact ⟨_, rfl⟩
  · rw [if_neg (fun q => hc ((nI_leI (by omega) (by omega)).mp q))]
    refine lp1_0_inv (fun x4 => ∃ t, t ≤ n ∧ x4 = nI t ∧ ∀ y ∈ mvp n g x f t, gmP n g x side y = false) (fun x4 => 8 - x4.toNatClampNeg) (fun o => ∃ m', o = some (bI fm.isSome, m')) ?_ fuel _ ⟨0, Nat.zero_le _, rfl, hno⟩ (fuel_gt (by omega))
    intro x4 nx2 ⟨t, ht, ex, hno2⟩ hnx2
    subst ex
    by_cases hc2 : n ≤ t
    · rw [if_pos (nI_le hc2 (by omega)), nmv_d, nI_1]
      have htn : t = n := by omega
      subst htn
      rw [mvp_f] at hno2
      exact hnx _ ⟨f + 1, by omega, rfl, hno2⟩ (by rw [nI_clamp (by omega), nI_clamp (by omega)]; omega)
    · rw [if_neg (fun q => hc2 ((nI_leI (by omega) (by omega)).mp q)), ald_in (by omega) (by decide), g2 f (by rw [hx.1]; omega), isOf_eq (hx.at f) side, cl1_s, jn0_d, nmv_d, nI_1]
      have hstay : (may n g x true f t = true → gmP n g x side (f, t) = false) → ∃ m', nx2 (nI (t + 1)) = some (bI fm.isSome, m') := fun hs => hnx2 _ ⟨t + 1, by omega, rfl, mvp_stay hno2 hs⟩ (by rw [nI_clamp (by omega), nI_clamp (by omega)]; omega)
      cases ho : decide (col (x.getD f 0) = if side then 2 else 1) with
      | false =>
        rw [if_pos (show bI false = 0 from rfl)]
        refine hstay (fun q => ?_)
        rw [isOf_own hx q] at ho
        unfold gmP
        rw [ho]; rfl
      | true =>
        rw [if_neg (show ¬ bI true = 0 by decide), mayMove_eq g2 hx hn (by omega) (by omega), cl1_s]
        cases hmay : may n g x true f t with
        | false =>
          rw [if_pos (show bI false = 0 from rfl)]
          exact hstay (fun q => by rw [hmay] at q; cases q)
        | true =>
          obtain ⟨-, h0, hft, -⟩ := may_to (show f < n by omega) hmay
          have h78 := enc5_78 (hx.mv (f := f) (t := t)) hn
          have hmm : (f, t) ∈ mvs n g x true := (mem_mvs hn).mpr ⟨by omega, hmay⟩
          rw [if_neg (show ¬ bI true = 0 by decide), ald_in (by omega) (by decide), g2 f (by rw [hx.1]; omega), behind_eq hx hn (by omega) (by omega) hft h0, cl1_s, ald_in h78 (by decide), hw _ hmm, (won_bit n g (mvd x f t) side).1]
          rw [isOf_own hx hmay] at ho
          cases hW : Wn n g (mvd x f t) (!side) with
          | false =>
            rw [if_pos (show bI false = 0 from rfl)]
            rw [mvp_hit hn (by omega) (by omega) hmay hno2 (by unfold gmP; rw [ho, hW]; rfl)] at hfm
            subst hfm
            exact ⟨_, rfl⟩
          | true =>
            rw [if_neg (show ¬ bI true = 0 by decide)]
            exact hstay (fun _ => by unfold gmP; rw [hW]; simp)
theorem zf_next {s : Nd} {e : Nd × Nat} {f t : Nat} (hs : Rw n s) (hn : n ≤ 7) (he : e ∈ (zf n g true s).1) (hf : f < n) (hm : may n g e.1 true f t = true) : ∃ d, (mvd e.1 f t, d) ∈ (zf n g true s).1 := by
  have hI := zf_inv (g := g) (sense := true) hs hn
  have h1 := (bfs_depth hI (x := e.1) (d := e.2) he).1
  obtain ⟨d, -, h2⟩ := bfs_reach hI (e.2 + 1) (mvd e.1 f t) (by
    show mvd e.1 f t ∈ (wl (nxt n g true) e.2 s).flatMap (nxt n g true)
    exact List.mem_flatMap.mpr ⟨e.1, h1, (mem_nxt hn).mpr ⟨f, t, hf, hm, rfl⟩⟩)
  exact ⟨d, h2⟩
theorem layGame_eq (hB : gB g = false) (hR : gR g = false) (hn : n ≤ 7) (hr : Rw n r) (h2 : rowAt rn r) (hF : FI far ways queue qe) : ∃ m' f' w' q' e' won', f_X8_layGame (nI n) (bI (gA g)) (bI (gB g)) (bI (gR g)) (bI (gT g)) rn l0 mrow far ways queue qe won = some (nI n, m', f', w', q', e', won') ∧ rowAt m' r ∧ FI f' w' q' e' ∧ ∀ e ∈ (zf n g true r).1, won' (enc5 e.1) = nI (wonB n g e.1) := by
  unfold f_X8_layGame
  obtain ⟨m2, b1, b2⟩ := layNow_eq (l0 := l0) (m := mrow) h2 hr.1 hn
  obtain ⟨m3, f3, w3, q3, e3, c1, c2, c3⟩ := layFar_eq (g := g) b2 hr hn hF
  rw [b1, cl2_s, c1, cl5_s, ald_0 (by decide) (by decide), (c3.2.1 0 _ (zf_0 n g true r)).1]
  have hlen := c3.len
  have hqe := c3.1
  subst hqe
  have h42 : (42 : Int32) = nI 43 - 1 := by decide
  rw [h42]
  dsimp only
  refine lp3_2_inv (fun (x2 : Int32) (_ wo : A32) => ∃ k, k ≤ 43 ∧ x2 = nI k - 1 ∧ ∀ e ∈ (zf n g true r).1, k ≤ prog n e.1 → wo (enc5 e.1) = nI (wonB n g e.1)) (fun x2 _ _ => (x2 + 1).toNatClampNeg) (fun o => ∃ (m' f' : A32) (w' : A64) (q' : A32) (e' : Int32) (won' : A32), o = some (nI n, m', f', w', q', e', won') ∧ rowAt m' r ∧ FI f' w' q' e' ∧ ∀ e ∈ (zf n g true r).1, won' (enc5 e.1) = nI (wonB n g e.1)) ?_ fuel _ _ _ ⟨43, Nat.le_refl _, rfl, fun e _ h => by have := prog_le (n := n) e.1 hn; omega⟩ (fuel_gt (by decide))
  intro x2 m1 wo nx ⟨k, hk, e2, hwo⟩ hnx
  subst e2
  cases k with
  | zero =>
    rw [if_pos (show nI 0 - 1 < 0 by decide)]
    obtain ⟨m5, g1, g2⟩ := layRow_eq (m := m1) hr hn
    dsimp only
    rw [g1, cl1_s]
    exact ⟨_, _, _, _, _, _, rfl, g2, c3.fi, fun e he => hwo e he (Nat.zero_le _)⟩
  | succ c =>
    rw [nI_pred] at hnx ⊢
    rw [if_neg (nI_pos (by omega))]
    refine lp3_2_inv (fun (x3 : Int32) (_ wo : A32) => ∃ i, i ≤ (zf n g true r).1.length ∧ x3 = nI i ∧ ∀ (j : Nat) (e : Nd × Nat), (zf n g true r).1[j]? = some e → (c + 1 ≤ prog n e.1 ∨ prog n e.1 = c ∧ j < i) → wo (enc5 e.1) = nI (wonB n g e.1)) (fun x3 _ _ => 640 - x3.toNatClampNeg) (fun o => ∃ (m' f' : A32) (w' : A64) (q' : A32) (e' : Int32) (won' : A32), o = some (nI n, m', f', w', q', e', won') ∧ rowAt m' r ∧ FI f' w' q' e' ∧ ∀ e ∈ (zf n g true r).1, won' (enc5 e.1) = nI (wonB n g e.1)) ?_ fuel _ _ _ ⟨0, Nat.zero_le _, rfl, fun j e he h => hwo e (List.mem_of_getElem? he) (by omega)⟩ (fuel_gt (by omega))
    intro x3 m4 wo4 nx3 ⟨i, hi, e3, hwo4⟩ hnx3
    subst e3
    by_cases hc : (zf n g true r).1.length ≤ i
    · rw [if_pos (nI_le hc (by omega))]
      dsimp only
      rw [nmv_d]
      refine hnx _ _ _ ⟨c, by omega, by rw [Int32.sub_eq_add_neg], fun e he h => ?_⟩ (by rw [show nI c + -1 + 1 = nI c from by rw [Int32.add_assoc]; simp, nI_1, nI_clamp (by omega), nI_clamp (by omega)]; omega)
      obtain ⟨j, hj⟩ := List.getElem?_of_mem he
      have hjl := (List.getElem?_eq_some_iff.mp hj).1
      exact hwo4 j e hj (by omega)
    · obtain ⟨e, he⟩ : ∃ e, (zf n g true r).1[i]? = some e := ⟨_, List.getElem?_eq_getElem (by omega)⟩
      have hem := List.mem_of_getElem? he
      have hce := (c3.2.2.2.2.1 e hem).rw hr
      obtain ⟨d1, d2, d3⟩ := c3.2.1 i e he
      have h78 := enc5_78 hce hn
      have hp42 := prog_le (n := n) e.1 hn
      have hmes : 640 - (nI (i + 1)).toNatClampNeg < 640 - (nI i).toNatClampNeg := by rw [nI_clamp (by omega), nI_clamp (by omega)]; omega
      rw [if_neg (fun q => hc ((nI_leI (by omega) (by omega)).mp q)), ald_in (by omega) (by decide), d1, progress_eq hce hn, cl1_s, jn2_d]
      by_cases q : prog n e.1 = c
      · have hw : ∀ y ∈ mvs n g e.1 true, wo4 (enc5 (mvd e.1 y.1 y.2)) = nI (wonB n g (mvd e.1 y.1 y.2)) := by
          intro y hy
          obtain ⟨y1, y2⟩ := (mem_mvs hn).mp hy
          have hup := prog_up hce hB hR y1 y2
          obtain ⟨d, hd⟩ := zf_next hr hn hem y1 y2
          obtain ⟨j, hj⟩ := List.getElem?_of_mem hd
          exact hwo4 j _ hj (Or.inl (by show c + 1 ≤ prog n (mvd e.1 y.1 y.2); omega))
        obtain ⟨m5, s1⟩ := winsBy_eq (m := m4) (side := false) hce hn hw
        obtain ⟨m6, s2⟩ := winsBy_eq (m := m5) (side := true) hce hn hw
        have s1' : f_X8_winsBy (bI (gA g)) (bI (gB g)) (bI (gR g)) (bI (gT g)) (nI n) m4 wo4 (nI (enc5 e.1)) 0 = _ := s1
        have s2' : f_X8_winsBy (bI (gA g)) (bI (gB g)) (bI (gR g)) (bI (gT g)) (nI n) m5 wo4 (nI (enc5 e.1)) 1 = _ := s2
        rw [← Wn_by hn hB hR hce] at s1' s2'
        rw [if_pos (by rw [q]), s1', cl2_s, jn1_d]
        have hlast : ∀ s : Int32, s = (if Wn n g e.1 true then (4 : Int32) else 0) → ∃ (m' f' : A32) (w' : A64) (q' : A32) (e' : Int32) (won' : A32), (nmv (α := Int32) ((if Wn n g e.1 false then (2 : Int32) else 0) ||| s) fun x5_40 => astB 78125 wo4 (nI (enc5 e.1)) (Int8.toInt32 (Int32.toInt8 x5_40)) fun m_won_41 => nmv (α := Int32) (nI i + 1) fun x3_30 => nx3 x3_30 m6 m_won_41) = some (nI n, m', f', w', q', e', won') ∧ rowAt m' r ∧ FI f' w' q' e' ∧ ∀ e ∈ (zf n g true r).1, won' (enc5 e.1) = nI (wonB n g e.1) := by
          intro s hs
          rw [hs, nmv_d, astB_in h78 (by decide), nmv_d, nI_1, won_put]
          refine hnx3 _ _ _ ⟨i + 1, by omega, rfl, fun j e' he' h => ?_⟩ hmes
          show (if enc5 e'.1 = enc5 e.1 then _ else _) = _
          by_cases w : enc5 e'.1 = enc5 e.1
          · rw [if_pos w]
            have hce' := (c3.2.2.2.2.1 e' (List.mem_of_getElem? he')).rw hr
            rw [hce'.inj5 hce w]
          · rw [if_neg w]
            refine hwo4 j e' he' ?_
            rcases h with h | ⟨h, h'⟩
            · exact Or.inl h
            · refine Or.inr ⟨h, ?_⟩
              by_cases ji : j = i
              · rw [ji, he] at he'; cases he'; exact absurd rfl w
              · omega
        have hfin : ∀ s : Int32, s = (if Wn n g e.1 false then (2 : Int32) else 0) → ∃ (m' f' : A32) (w' : A64) (q' : A32) (e' : Int32) (won' : A32), (cl2 (f_X8_winsBy (bI (gA g)) (bI (gB g)) (bI (gR g)) (bI (gT g)) (nI n) m5 wo4 (nI (enc5 e.1)) 1) fun r_36 m_row_37 => jn1 (fun (s_39 : Int32) => nmv (α := Int32) (s ||| s_39) fun x5_40 => astB 78125 wo4 (nI (enc5 e.1)) (Int8.toInt32 (Int32.toInt8 x5_40)) fun m_won_41 => nmv (α := Int32) (nI i + 1) fun x3_30 => nx3 x3_30 m_row_37 m_won_41) fun j84 => if r_36 = 0 then j84 0 else j84 4) = some (nI n, m', f', w', q', e', won') ∧ rowAt m' r ∧ FI f' w' q' e' ∧ ∀ e ∈ (zf n g true r).1, won' (enc5 e.1) = nI (wonB n g e.1) := by
          intro s hs
          rw [hs, s2', cl2_s, jn1_d]
          cases hWt : Wn n g e.1 true with
          | false =>
            rw [if_pos (show bI false = 0 from rfl)]
            exact hlast 0 (by rw [hWt]; rfl)
          | true =>
            rw [if_neg (show ¬ bI true = 0 by decide)]
            exact hlast 4 (by rw [hWt]; rfl)
        cases hWf : Wn n g e.1 false with
        | false =>
          rw [if_pos (show bI false = 0 from rfl)]
          exact hfin 0 (by rw [hWf]; rfl)
        | true =>
          rw [if_neg (show ¬ bI true = 0 by decide)]
          exact hfin 2 (by rw [hWf]; rfl)
      · rw [if_neg (fun w => q ((nI_eq (by omega) (by omega)).mp w))]
        dsimp only
        rw [nmv_d, nI_1]
        refine hnx3 _ _ _ ⟨i + 1, by omega, rfl, fun j e' he' h => ?_⟩ hmes
        refine hwo4 j e' he' ?_
        rcases h with h | ⟨h, h'⟩
        · exact Or.inl h
        · refine Or.inr ⟨h, ?_⟩
          by_cases ji : j = i
          · rw [ji, he] at he'; cases he'; exact absurd h q
          · omega
theorem winsNow_eq {side : Bool} (hB : gB g = false) (hR : gR g = false) (hn : n ≤ 7) (hr : Rw n r) (h2 : rowAt rn r) (hF : FI far ways queue qe) : ∃ m' f' w' q' e' won', f_X8_winsNow (nI n) (bI (gA g)) (bI (gB g)) (bI (gR g)) (bI (gT g)) rn l0 mrow far ways queue qe won (bI side) = some (bI (Wn n g r side), nI n, m', f', w', q', e', won') ∧ FI f' w' q' e' := by
  unfold f_X8_winsNow
  obtain ⟨m', f', w', q', e', won', a1, a2, a3, a4⟩ := layGame_eq (l0 := l0) (mrow := mrow) (won := won) hB hR hn hr h2 hF
  rw [a1, cl7_s, codeOf_eq a2 hr hn, cl1_s, ald_in (enc5_78 hr hn) (by decide), a4 _ (List.mem_of_getElem? (zf_0 n g true r)), (won_bit n g r side).2]
  exact ⟨_, _, _, _, _, _, rfl, a3⟩
theorem byNow_eq {side : Bool} (hB : gB g = false) (hR : gR g = false) (hn : n ≤ 7) (hr : Rw n r) (h2 : rowAt rn r) (hF : FI far ways queue qe) (p : Int32) : ∃ m' f' w' q' e' won', f_X8_byNow (nI n) (bI (gA g)) (bI (gB g)) (bI (gR g)) (bI (gT g)) rn l0 mrow far ways queue qe won (bI side) p = some (ptO (byM n g r side) (decide (p = 0)), nI n, m', f', w', q', e', won') ∧ FI f' w' q' e' := by
  unfold f_X8_byNow
  obtain ⟨m2, f2, w2, q2, e2, won2, a1, a2, a3, a4⟩ := layGame_eq (l0 := l0) (mrow := mrow) (won := won) hB hR hn hr h2 hF
  rw [a1, cl7_s, codeOf_eq a2 hr hn, cl1_s, byM_gm]
  have hr0 := List.mem_of_getElem? (zf_0 n g true r)
  generalize hfm : (mvs n g r true).find? (gmP n g r side) = fm
  refine lp1_0_inv (fun x3 => ∃ f, f ≤ n ∧ x3 = nI f ∧ ∀ y ∈ mvp n g r f 0, gmP n g r side y = false) (fun x3 => 8 - x3.toNatClampNeg) (fun o => ∃ (m' f' : A32) (w' : A64) (q' : A32) (e' : Int32) (won' : A32), o = some (ptO fm (decide (p = 0)), nI n, m', f', w', q', e', won') ∧ FI f' w' q' e') ?_ fuel _ ⟨0, Nat.zero_le _, rfl, fun y hy => by simp [mvp] at hy⟩ (fuel_gt (by omega))
  intro x3 nx ⟨f, hf, ex, hno⟩ hnx
  subst ex
  by_cases hc : n ≤ f
  · rw [if_pos (nI_le hc (by omega))]
    have hfn : f = n := by omega
    subst hfn
    rw [mvp_no hn hno] at hfm
    subst hfm
    exact ⟨_, _, _, _, _, _, rfl, a3⟩
  · rw [if_neg (fun q => hc ((nI_leI (by omega) (by omega)).mp q))]
    refine lp1_0_inv (fun x4 => ∃ t, t ≤ n ∧ x4 = nI t ∧ ∀ y ∈ mvp n g r f t, gmP n g r side y = false) (fun x4 => 8 - x4.toNatClampNeg) (fun o => ∃ (m' f' : A32) (w' : A64) (q' : A32) (e' : Int32) (won' : A32), o = some (ptO fm (decide (p = 0)), nI n, m', f', w', q', e', won') ∧ FI f' w' q' e') ?_ fuel _ ⟨0, Nat.zero_le _, rfl, hno⟩ (fuel_gt (by omega))
    intro x4 nx2 ⟨t, ht, ex, hno2⟩ hnx2
    subst ex
    by_cases hc2 : n ≤ t
    · rw [if_pos (nI_le hc2 (by omega)), nmv_d, nI_1]
      have htn : t = n := by omega
      subst htn
      rw [mvp_f] at hno2
      exact hnx _ ⟨f + 1, by omega, rfl, hno2⟩ (by rw [nI_clamp (by omega), nI_clamp (by omega)]; omega)
    · rw [if_neg (fun q => hc2 ((nI_leI (by omega) (by omega)).mp q)), ald_in (by omega) (by decide), a2 f (by rw [hr.1]; omega), isOf_eq (hr.at f) side, cl1_s, jn0_d, nmv_d, nI_1]
      have hstay : (may n g r true f t = true → gmP n g r side (f, t) = false) → ∃ (m' f' : A32) (w' : A64) (q' : A32) (e' : Int32) (won' : A32), nx2 (nI (t + 1)) = some (ptO fm (decide (p = 0)), nI n, m', f', w', q', e', won') ∧ FI f' w' q' e' := fun hs => hnx2 _ ⟨t + 1, by omega, rfl, mvp_stay hno2 hs⟩ (by rw [nI_clamp (by omega), nI_clamp (by omega)]; omega)
      cases ho : decide (col (r.getD f 0) = if side then 2 else 1) with
      | false =>
        rw [if_pos (show bI false = 0 from rfl)]
        refine hstay (fun q => ?_)
        rw [isOf_own hr q] at ho
        unfold gmP
        rw [ho]; rfl
      | true =>
        rw [if_neg (show ¬ bI true = 0 by decide), mayMove_eq a2 hr hn (by omega) (by omega), cl1_s]
        cases hmay : may n g r true f t with
        | false =>
          rw [if_pos (show bI false = 0 from rfl)]
          exact hstay (fun q => by rw [hmay] at q; cases q)
        | true =>
          obtain ⟨-, h0, hft, -⟩ := may_to (show f < n by omega) hmay
          have h78 := enc5_78 (hr.mv (f := f) (t := t)) hn
          obtain ⟨d, hd⟩ := zf_next (g := g) hr hn hr0 (show f < n by omega) hmay
          have hwm : won2 (enc5 (mvd r f t)) = nI (wonB n g (mvd r f t)) := a4 _ hd
          rw [if_neg (show ¬ bI true = 0 by decide), ald_in (by omega) (by decide), a2 f (by rw [hr.1]; omega), behind_eq hr hn (by omega) (by omega) hft h0, cl1_s, ald_in h78 (by decide), hwm, (won_bit n g (mvd r f t) side).1]
          rw [isOf_own hr hmay] at ho
          cases hW : Wn n g (mvd r f t) (!side) with
          | false =>
            rw [if_pos (show bI false = 0 from rfl)]
            rw [mvp_hit hn (by omega) (by omega) hmay hno2 (by unfold gmP; rw [ho, hW]; rfl)] at hfm
            subst hfm
            by_cases q1 : p = 0
            · rw [if_pos q1, decide_eq_true q1]; exact ⟨_, _, _, _, _, _, rfl, a3⟩
            · rw [if_neg q1, decide_eq_false q1]; exact ⟨_, _, _, _, _, _, rfl, a3⟩
          | true =>
            rw [if_neg (show ¬ bI true = 0 by decide)]
            exact hstay (fun _ => by unfold gmP; rw [hW]; simp)
end
/-! ===== the class's game ===== -/
theorem cls_H {n : Nat} {g : Fl} {rd : Nd} (h : Rw n rd) : ∀ hs, LgH n g rd hs → Cls rd (rowH rd hs)
  | [], _ => Cls.refl h
  | m :: hs, hl => (cls_H h hs hl.2.2).mv (PIH h hs hl.2.2).1 hl.1 hl.2.1
def isGm (n : Nat) (g : Fl) : Bool := decide (0 < n) && (!gB g && !gR g)
theorem hasGame_eq {n : Nat} {g : Fl} (hn : n ≤ 7) : f_X7_hasGame (nI n) (bI (gB g)) (bI (gR g)) = some (bI (isGm n g)) ∧ f_X8_isGame (nI n) (bI (gB g)) (bI (gR g)) = some (bI (isGm n g)) := by
  unfold f_X7_hasGame f_X8_isGame isGm
  rw [hasBrook_eq hn, cl1_s]
  cases n with
  | zero => exact ⟨rfl, rfl⟩
  | succ n =>
    rw [if_neg (nI_nle (by omega) (by omega)), decide_eq_true (Nat.succ_pos n)]
    cases gB g <;> cases gR g <;> exact ⟨rfl, rfl⟩
section
variable {n : Nat} {g : Fl} {rd r : Nd} {Lx : List Nd} {slots rows : A32} {tsize : Int32} {known : A32}
theorem winsX_eq {side : Bool} (hG : isGm n g = true) (hn : n ≤ 7) (hd : Rw n rd) (hc : Cls rd r) (hI : GI n g rd Lx slots rows tsize known) : ∃ Lx' s' r' t' k', f_X7_wins (nI n) (bI (gA g)) (bI (gB g)) (bI (gR g)) (bI (gT g)) (nI (enc8 r)) slots rows tsize known (bI side) = some (bI (Wn n g r side), s', r', t', k') ∧ GI n g rd Lx' s' r' t' k' := by
  unfold f_X7_wins
  have hg := hG
  unfold isGm at hg
  simp only [Bool.and_eq_true, Bool.not_eq_true', decide_eq_true_eq] at hg
  obtain ⟨h0, hB, hR⟩ := hg
  rw [if_neg (show ¬ bI side < 0 by cases side <;> decide), if_pos (show bI side ≤ 1 by cases side <;> decide), (hasGame_eq hn).1, cl1_s, hG, if_neg (show ¬ bI true = 0 by decide)]
  obtain ⟨N, s', r', t', k', e1, e2⟩ := has_eq hd hn hB hR gfuel r side 0 Lx slots rows tsize known hc (by unfold gfuel; omega) (Nat.zero_le _) hI
  have e1' : f_X0_hasIt gfuel (nI n) (bI (gA g)) (bI (gB g)) (bI (gR g)) (bI (gT g)) slots rows tsize known (nI (enc8 r)) (bI side) 0 = _ := e1
  rw [e1', cl5_s]
  cases Wn n g r side
  · exact ⟨_, _, _, _, _, rfl, e2⟩
  · exact ⟨_, _, _, _, _, rfl, e2⟩
theorem byX_eq {side : Bool} (hG : isGm n g = true) (hn : n ≤ 7) (hd : Rw n rd) (hc : Cls rd r) (hI : GI n g rd Lx slots rows tsize known) {p : Int32} (hp : ¬ p < 0 ∧ p ≤ 1) : ∃ Lx' s' r' t' k', f_X7_by (nI n) (bI (gA g)) (bI (gB g)) (bI (gR g)) (bI (gT g)) (nI (enc8 r)) slots rows tsize known (bI side) p = some (ptO (byM n g r side) (decide (p = 0)), s', r', t', k') ∧ GI n g rd Lx' s' r' t' k' := by
  unfold f_X7_by
  have hg := hG
  unfold isGm at hg
  simp only [Bool.and_eq_true, Bool.not_eq_true', decide_eq_true_eq] at hg
  obtain ⟨h0, hB, hR⟩ := hg
  rw [if_neg (show ¬ bI side < 0 by cases side <;> decide), if_neg (show ¬ 1 < bI side by cases side <;> decide), if_neg hp.1, if_pos hp.2, (hasGame_eq hn).1, cl1_s, hG, if_neg (show ¬ bI true = 0 by decide)]
  obtain ⟨N, s', r', t', k', e1, e2⟩ := win_eq (side := side) (dep := 0) hd hn hB hR (has_eq hd hn hB hR gfuel) hc (by unfold gfuel; omega) (Nat.zero_le _) hI
  have e1' : f_X0_winningMove (f_X0_hasIt gfuel) (nI n) (bI (gA g)) (bI (gB g)) (bI (gR g)) (bI (gT g)) slots rows tsize known (nI (enc8 r)) (bI side) 0 = _ := e1
  rw [e1', cl5_s, partOf_eq hn (fun m hm => (mc_lt hn hm).2), cl1_s]
  exact ⟨_, _, _, _, _, rfl, e2⟩
end
