/-! ===== the reference's digest ===== -/
section
variable {n S br : Nat} {g : Fl} {rd : Nd} {pg : List Nat} {hs : List (Nat × Nat)} {rowNow frogOn kindOf mf mt : A32} {moved frogs : Int32} {rr mrow far : A32} {ways : A64} {queue : A32} {qe l0 em es : Int32} {won : A32}
theorem dg4_ne (h0 : n ≠ 0) : dg4 n g rd hs = mx (mx (mx (mx (itr (fun w h => mx h (fewV n g (rowH rd hs) rd.reverse w)) 3 (dg3 n g rd hs)) (nI ((zf n g true (rowH rd hs)).2 rd.reverse))) (wrV n g rd rd.reverse hs)) (nI (stkL n g true (zf n g true (rowH rd hs)).1))) (oI (soonL n g true (zf n g true (rowH rd hs)).1)) := if_neg h0
theorem dg5_f (hg : isGm n g = false) : dg5 n g rd hs = dg4 n g rd hs := by unfold dg5; rw [hg, if_neg (by decide)]
theorem dg5_t (hg : isGm n g = true) : dg5 n g rd hs = mx (mx (dg4 n g rd hs) (bI (Wn n g (rowH rd hs) false))) (bI (Wn n g (rowH rd hs) true)) := by unfold dg5; rw [hg, if_pos rfl]
theorem mixBrook_eq (h : OkH n g rd hs) (h0 : n ≠ 0) (hm : moR n rd hs rowNow frogOn moved mf mt) (h1 : rowAt rr rd) (hF : FI far ways queue qe) : ∃ l' m' f' w' q' e' em' es' won', f_X8_mixBrook (nI n) (bI (gA g)) (bI (gB g)) (bI (gR g)) (bI (gT g)) rr rowNow moved mf mt l0 mrow far ways queue qe em es won (dg3 n g rd hs) = some (l', m', f', w', q', e', em', es', won', dg5 n g rd hs) ∧ FI f' w' q' e' := by
  have hn := h.2.1
  have hrw := h.rw
  have hrn := hm.1
  unfold f_X8_mixBrook
  refine lp8_7_inv (fun (x1 _ : Int32) (_ f1 : A32) (w1 : A64) (q1 : A32) (e1 : Int32) (hh : Int64) => FI f1 w1 q1 e1 ∧ ∃ w, w ≤ 3 ∧ x1 = nI w ∧ hh = itr (fun w h => mx h (fewV n g (rowH rd hs) rd.reverse w)) w (dg3 n g rd hs)) (fun x1 _ _ _ _ _ _ _ => 4 - x1.toNatClampNeg) (fun o => ∃ (l' : Int32) (m' f' : A32) (w' : A64) (q' : A32) (e' em' es' : Int32) (won' : A32), o = some (l', m', f', w', q', e', em', es', won', dg5 n g rd hs) ∧ FI f' w' q' e') ?_ fuel _ _ _ _ _ _ _ _ ⟨hF, 0, Nat.zero_le _, rfl, rfl⟩ (fuel_gt (by omega))
  intro x1 y1 y2 y3 y4 y5 y6 hh nx ⟨hF1, w, hw, e1, eh⟩ hnx
  subst e1; subst eh
  by_cases hc : 3 ≤ w
  · have : w = 3 := by omega
    subst this
    rw [if_pos (show (3 : Int32) ≤ nI 3 by decide)]
    obtain ⟨m2, f2, w2, q2, e2, a1, a2⟩ := waysNow_eq (g := g) (l0 := y1) (mrow := y2) hn hrw h.1 h1 hrn hF1
    obtain ⟨m3, f3, w3, q3, e3, b1, b2⟩ := wrongNow_eq (l0 := nI n) (mrow := m2) h h1 hm.2.2.2 a2
    obtain ⟨m4, f4, w4, q4, e4, c1, c2⟩ := layEnds_eq (g := g) (l0 := nI n) (mrow := m3) (em := em) (es := es) hn hrw hrn b2
    try dsimp only
    rw [a1, cl7_s, mix_eq, cl1_s, hm.2.2.1, b1, cl7_s, mix_eq, cl1_s, c1, cl8_s, mix_eq, cl1_s, mix_eq, cl1_s, (hasGame_eq hn).2, cl1_s]
    cases hgm : isGm n g with
    | false =>
      rw [if_pos (show bI false = 0 from rfl)]
      rw [dg5_f hgm, dg4_ne h0]
      exact ⟨_, _, _, _, _, _, _, _, _, rfl, c2⟩
    | true =>
      have hg := hgm
      unfold isGm at hg
      simp only [Bool.and_eq_true, Bool.not_eq_true', decide_eq_true_eq] at hg
      obtain ⟨-, hB, hR⟩ := hg
      obtain ⟨m5, f5, w5, q5, e5, won5, d1, d2⟩ := winsNow_eq (side := false) (l0 := nI n) (mrow := m4) (won := won) hB hR hn hrw hrn c2
      obtain ⟨m6, f6, w6, q6, e6, won6, k1, k2⟩ := winsNow_eq (side := true) (l0 := nI n) (mrow := m5) (won := won5) hB hR hn hrw hrn d2
      have d1' : f_X8_winsNow (nI n) (bI (gA g)) (bI (gB g)) (bI (gR g)) (bI (gT g)) rowNow (nI n) m4 f4 w4 q4 e4 won 0 = _ := d1
      have k1' : f_X8_winsNow (nI n) (bI (gA g)) (bI (gB g)) (bI (gR g)) (bI (gT g)) rowNow (nI n) m5 f5 w5 q5 e5 won5 1 = _ := k1
      rw [if_neg (show ¬ bI true = 0 by decide), d1', cl8_s, mix_eq, cl1_s, k1', cl8_s, mix_eq, cl1_s]
      rw [dg5_t hgm, dg4_ne h0]
      exact ⟨_, _, _, _, _, _, _, _, _, rfl, k2⟩
  · obtain ⟨m2, f2, w2, q2, e2, a1, a2⟩ := fewestNow_eq (g := g) (l0 := y1) (mrow := y2) hn hrw h.1 h1 hrn hF1 (show w < 3 by omega)
    rw [if_neg (show ¬ (3 : Int32) ≤ nI w from fun q => hc ((nI_leI (a := 3) (by decide) (by omega)).mp q)), a1, cl7_s, mix_eq, cl1_s, nmv_d, nI_1]
    exact hnx _ _ _ _ _ _ _ _ ⟨a2, w + 1, by omega, rfl, rfl⟩ (by rw [nI_clamp (by omega), nI_clamp (by omega)]; omega)
theorem digestM_eq {hh : Int64} (h : OkH n (gf S) rd hs) (hS16 : S < 16) (hm : moR n rd hs rowNow frogOn moved mf mt) (hk : kiR rd kindOf frogs) (h1 : rowAt rr rd) {page : A32} {plen : Int32} (hp : pgR pg page plen) (hF : FI far ways queue qe) : ∃ l' m' f' w' q' e' em' es' won' h', f_X8_digest (nI n) (bI (gA (gf S))) (bI (gB (gf S))) (bI (gR (gf S))) (bI (gT (gf S))) (nI br) rr rowNow frogOn frogs kindOf moved mf mt plen page l0 mrow far ways queue qe em es won hh = some (dg7 n S rd pg hs br, l', m', f', w', q', e', em', es', won', h') ∧ FI f' w' q' e' := by
  have hn := h.2.1
  have hfr := h.fr
  have h60 := h.2.2.2
  have hp14 := hp.2.2.1
  have hrw := h.rw
  have hrn := hm.1
  unfold f_X8_digest
  let R : Option (Int64 × Int32 × A32 × A32 × A64 × A32 × Int32 × Int32 × Int32 × A32 × Int64) → Prop := fun o => ∃ l' m' f' w' q' e' em' es' won' h', o = some (dg7 n S rd pg hs br, l', m', f', w', q', e', em', es', won', h') ∧ FI f' w' q' e'
  refine lpB R (fun i h => mx (mx h (onV rd hs i)) (frV rd hs i)) n (by omega) 613 ?_ ?_ ?_
  · intro j h' nx hj
    rw [if_neg (nlt_lit hj (by omega)), (on_val h hj).2 hrn, cl1_s, mix_eq, cl1_s, ald_in (by omega) (by decide), hm.2.1 j hj, mix_eq, cl1_s, nmv_d, nI_1]; rfl
  · intro h' nx
    rw [if_pos (nI_le (Nat.le_refl _) (by omega))]
  rw [hk.1]
  refine lpB R (fun f h => itr (fun w h => mx h (abV rd hs f w)) 3 h) (frogsIn rd) (by omega) (dg1 n rd hs) ?_ ?_ ?_
  · intro f h' nx hf
    rw [if_neg (nlt_lit hf (by omega))]
    refine lpB (fun o => o = nx (nI (f + 1)) (itr (fun w h => mx h (abV rd hs f w)) 3 h')) (fun w h => mx h (abV rd hs f w)) 3 (by decide) h' ?_ ?_ ?_
    · intro w h'' nx2 hw
      rw [if_neg (show ¬ (3 : Int32) ≤ nI w from fun q => by have := (nI_leI (a := 3) (by decide) (by omega)).mp q; omega), frogNow_eq h hm hk hf, cl1_s, mix_eq, cl1_s, nmv_d, nI_1]
      rcases (show w = 0 ∨ w = 1 ∨ w = 2 by omega) with e | e | e <;> subst e <;> rfl
    · intro h'' nx2
      rw [if_pos (show (3 : Int32) ≤ nI 3 by decide)]
    · rw [nmv_d, nI_1]
  · intro h' nx
    rw [if_pos (nI_le (Nat.le_refl _) (by omega))]
  obtain ⟨m2, b1, b2⟩ := layNow_eq (l0 := l0) (m := mrow) hrn hrw.1 hn
  rw [b1, cl2_s, moveMany_eq b2 hrw hn, cl1_s, mix_eq, cl1_s]
  refine jn10_u R (fun f' w' q' e' x10 => x10 = dg5 n (gf S) rd hs ∧ FI f' w' q' e') ?_ ?_
  · intro x1 x2 x3 x4 x5 x6 x7 x8 x9 x10 ⟨e10, hF1⟩
    subst e10
    try dsimp only
    rw [hp.1]
    refine lpB R (fun i h => mx h (nI (pg.getD i 0))) pg.length (by omega) (dg5 n (gf S) rd hs) ?_ ?_ ?_
    · intro j h' nx hj
      rw [if_neg (nlt_lit hj (by omega)), ald_in (by omega) (by decide), hp.2.1 j hj, mix_eq, cl1_s, nmv_d, nI_1]
    · intro h' nx
      rw [if_pos (nI_le (Nat.le_refl _) (by omega))]
    refine lpB R (fun w h => mx h (cnV n S rd pg hs br w)) 10 (by decide) (dg6 n (gf S) rd pg hs) ?_ ?_ ?_
    · intro w h' nx hw
      obtain ⟨v, v1, -, v3⟩ := count_2 (n := n) (S := S) (g := gf S) (st := nI n) (si := nI S) (an := bI (gA (gf S))) (ba := bI (gB (gf S))) (ri := bI (gR (gf S))) (tw := bI (gT (gf S))) (ps := nI pg.length) (ns := nI hs.length) (fr := nI (frogsIn rd)) (ti := nI br) ⟨rfl, rfl, rfl, rfl, rfl, rfl, hS16, rfl⟩ rfl rfl rfl rfl (nI w)
      have ev : cnV n S rd pg hs br w = v := by unfold cnV; rw [v1]; rfl
      rw [if_neg (show ¬ (10 : Int32) ≤ nI w from fun q => by have := (nI_leI (a := 10) (by decide) (by omega)).mp q; omega), hm.2.2.1, v3, cl1_s, mix_eq, cl1_s, nmv_d, nI_1, ev]
    · intro h' nx
      rw [if_pos (show (10 : Int32) ≤ nI 10 by decide)]
    exact ⟨_, _, _, _, _, _, _, _, _, _, rfl, hF1⟩
  · intro j hj
    by_cases h0 : n = 0
    · rw [if_pos (show nI n ≤ 0 by rw [h0]; decide)]
      refine hj _ _ _ _ _ _ _ _ _ _ ⟨?_, hF⟩
      have : isGm n (gf S) = false := by unfold isGm; rw [h0]; rfl
      unfold dg5
      rw [this, if_neg (by decide)]
      unfold dg4
      rw [if_pos h0]; rfl
    · obtain ⟨l3, m3, f3, w3, q3, e3, em3, es3, won3, c1, c2⟩ := mixBrook_eq (l0 := nI n) (mrow := m2) (em := em) (es := es) (won := won) h h0 hm h1 hF
      have c1' : f_X8_mixBrook (nI n) (bI (gA (gf S))) (bI (gB (gf S))) (bI (gR (gf S))) (bI (gT (gf S))) rr rowNow moved mf mt (nI n) m2 far ways queue qe em es won (mx (dg2 n rd hs) (nI (mvs n (gf S) (rowH rd hs) true).length)) = _ := c1
      have c2' := c1'
      unfold dg2 at c2'
      rw [if_neg (nI_nle (by omega) (by omega)), c2', cl10_s]
      exact hj _ _ _ _ _ _ _ _ _ _ ⟨rfl, c2⟩
end
