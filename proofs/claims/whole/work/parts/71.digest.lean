/-! ===== digest ===== -/
def mx (h : Int64) (v : Int32) : Int64 := ((31 : Int64) * h) + Int32.toInt64 v
def itr (F : Nat → Int64 → Int64) : Nat → Int64 → Int64
  | 0, h => h
  | k + 1, h => F k (itr F k h)
theorem lpA {β : Type} {body : Int64 → Int32 → (Int64 → Int32 → Option β) → (Int64 → Option β) → Option β} {k : Int64 → Option β} (R : Option β → Prop) (F : Nat → Int64 → Int64) (N : Nat) (hN : N < 1000) (h0 : Int64) (hs : ∀ (j : Nat) (h : Int64) (nx : Int64 → Int32 → Option β), j < N → body h (nI j) nx k = nx (F j h) (nI (j + 1))) (he : ∀ (h : Int64) (nx : Int64 → Int32 → Option β), body h (nI N) nx k = k h) (hR : R (k (itr F N h0))) : R (lp2_1 body k fuel h0 0) := by
  refine lp2_1_inv (fun x1 x3 => ∃ j, j ≤ N ∧ x3 = nI j ∧ x1 = itr F j h0) (fun _ x3 => 1000 - x3.toNatClampNeg) R ?_ fuel _ _ ⟨0, Nat.zero_le _, rfl, rfl⟩ (fuel_gt (by omega))
  intro x1 x3 nx ⟨j, hj, e3, e1⟩ hnx
  subst e3; subst e1
  by_cases hc : j = N
  · rw [hc, he]; exact hR
  · rw [hs j _ _ (by omega)]
    exact hnx _ _ ⟨j + 1, by omega, rfl, rfl⟩ (by rw [nI_clamp (by omega), nI_clamp (by omega)]; omega)
theorem lpB {β : Type} {body : Int32 → Int64 → (Int32 → Int64 → Option β) → (Int64 → Option β) → Option β} {k : Int64 → Option β} (R : Option β → Prop) (F : Nat → Int64 → Int64) (N : Nat) (hN : N < 1000) (h0 : Int64) (hs : ∀ (j : Nat) (h : Int64) (nx : Int32 → Int64 → Option β), j < N → body (nI j) h nx k = nx (nI (j + 1)) (F j h)) (he : ∀ (h : Int64) (nx : Int32 → Int64 → Option β), body (nI N) h nx k = k h) (hR : R (k (itr F N h0))) : R (lp2_1 body k fuel 0 h0) := by
  refine lp2_1_inv (fun x3 x1 => ∃ j, j ≤ N ∧ x3 = nI j ∧ x1 = itr F j h0) (fun x3 _ => 1000 - x3.toNatClampNeg) R ?_ fuel _ _ ⟨0, Nat.zero_le _, rfl, rfl⟩ (fuel_gt (by omega))
  intro x3 x1 nx ⟨j, hj, e3, e1⟩ hnx
  subst e3; subst e1
  by_cases hc : j = N
  · rw [hc, he]; exact hR
  · rw [hs j _ _ (by omega)]
    exact hnx _ _ ⟨j + 1, by omega, rfl, rfl⟩ (by rw [nI_clamp (by omega), nI_clamp (by omega)]; omega)
theorem jn8_u {β A1 A2 A3 A4 A5 A6 A7 A8 : Type} {K : A1 → A2 → A3 → A4 → A5 → A6 → A7 → A8 → Option β} {B : (A1 → A2 → A3 → A4 → A5 → A6 → A7 → A8 → Option β) → Option β} (R : Option β → Prop) (P : A1 → Prop) (hK : ∀ x1 x2 x3 x4 x5 x6 x7 x8, P x1 → R (K x1 x2 x3 x4 x5 x6 x7 x8)) (hB : ∀ j : A1 → A2 → A3 → A4 → A5 → A6 → A7 → A8 → Option β, (∀ x1 x2 x3 x4 x5 x6 x7 x8, P x1 → R (j x1 x2 x3 x4 x5 x6 x7 x8)) → R (B j)) : R (jn8 K B) := hB K hK
theorem jn5_u {β A1 A2 A3 A4 A5 : Type} {K : A1 → A2 → A3 → A4 → A5 → Option β} {B : (A1 → A2 → A3 → A4 → A5 → Option β) → Option β} (R : Option β → Prop) (P : A1 → A2 → A3 → A4 → A5 → Prop) (hK : ∀ x1 x2 x3 x4 x5, P x1 x2 x3 x4 x5 → R (K x1 x2 x3 x4 x5)) (hB : ∀ j : A1 → A2 → A3 → A4 → A5 → Option β, (∀ x1 x2 x3 x4 x5, P x1 x2 x3 x4 x5 → R (j x1 x2 x3 x4 x5)) → R (B j)) : R (jn5 K B) := hB K hK
theorem jn10_u {β A1 A2 A3 A4 A5 A6 A7 A8 A9 A10 : Type} {K : A1 → A2 → A3 → A4 → A5 → A6 → A7 → A8 → A9 → A10 → Option β} {B : (A1 → A2 → A3 → A4 → A5 → A6 → A7 → A8 → A9 → A10 → Option β) → Option β} (R : Option β → Prop) (P : A3 → A4 → A5 → A6 → A10 → Prop) (hK : ∀ x1 x2 x3 x4 x5 x6 x7 x8 x9 x10, P x3 x4 x5 x6 x10 → R (K x1 x2 x3 x4 x5 x6 x7 x8 x9 x10)) (hB : ∀ j : A1 → A2 → A3 → A4 → A5 → A6 → A7 → A8 → A9 → A10 → Option β, (∀ x1 x2 x3 x4 x5 x6 x7 x8 x9 x10, P x3 x4 x5 x6 x10 → R (j x1 x2 x3 x4 x5 x6 x7 x8 x9 x10)) → R (B j)) : R (jn10 K B) := hB K hK
theorem mix_eq (h : Int64) (v : Int32) : f_X8_mix h (Int32.toInt64 v) = some (mx h v) := rfl
theorem isSt {n i : Nat} (hn : n ≤ 7) (hi : i < n) : f_X7_isStone (nI n) (nI i) = some 1 ∧ f_X8_isStone (nI n) (nI i) = some 1 := by
  rcases stone2 hn (nI i) with ⟨j, hj, e, h1, h2⟩ | ⟨h1, h2⟩
  · exact ⟨h1, h2⟩
  · exfalso
    unfold f_X7_isStone at h1
    rw [if_neg (nI_pos (by omega)), if_neg (fun q => by have := (nI_leI (by omega) (by omega)).mp q; omega)] at h1
    cases h1
def onV (rd : Nd) (hs : List (Nat × Nat)) (i : Nat) : Int32 := if nI ((rowH rd hs).getD i 0) = 0 then -1 else nI ((rowH rd hs).getD i 0)
def frV (rd : Nd) (hs : List (Nat × Nat)) (i : Nat) : Int32 := nI ((numH rd hs).getD i 0) - 1
def abV (rd : Nd) (hs : List (Nat × Nat)) (f w : Nat) : Int32 := if w = 0 then nI (fkd rd f) else if w = 1 then nI (stn (numH rd hs) f) else nI (tmv rd f hs)
def cnV (n S : Nat) (rd : Nd) (pg : List Nat) (hs : List (Nat × Nat)) (br w : Nat) : Int32 := (f_X7_count (nI pg.length) (nI n) (nI S) (nI hs.length) (nI (frogsIn rd)) (nI br) (nI w)).getD 0
def dg1 (n : Nat) (rd : Nd) (hs : List (Nat × Nat)) : Int64 := itr (fun i h => mx (mx h (onV rd hs i)) (frV rd hs i)) n 613
def dg2 (n : Nat) (rd : Nd) (hs : List (Nat × Nat)) : Int64 := itr (fun f h => itr (fun w h => mx h (abV rd hs f w)) 3 h) (frogsIn rd) (dg1 n rd hs)
def dg3 (n : Nat) (g : Fl) (rd : Nd) (hs : List (Nat × Nat)) : Int64 := mx (dg2 n rd hs) (nI (mvs n g (rowH rd hs) true).length)
def dg4 (n : Nat) (g : Fl) (rd : Nd) (hs : List (Nat × Nat)) : Int64 := if n = 0 then dg3 n g rd hs else mx (mx (mx (mx (itr (fun w h => mx h (fewV n g (rowH rd hs) rd.reverse w)) 3 (dg3 n g rd hs)) (nI ((zf n g true (rowH rd hs)).2 rd.reverse))) (wrV n g rd rd.reverse hs)) (nI (stkL n g true (zf n g true (rowH rd hs)).1))) (oI (soonL n g true (zf n g true (rowH rd hs)).1))
def dg5 (n : Nat) (g : Fl) (rd : Nd) (hs : List (Nat × Nat)) : Int64 := if isGm n g then mx (mx (dg4 n g rd hs) (bI (Wn n g (rowH rd hs) false))) (bI (Wn n g (rowH rd hs) true)) else dg4 n g rd hs
def dg6 (n : Nat) (g : Fl) (rd : Nd) (pg : List Nat) (hs : List (Nat × Nat)) : Int64 := itr (fun i h => mx h (nI (pg.getD i 0))) pg.length (dg5 n g rd hs)
def dg7 (n S : Nat) (rd : Nd) (pg : List Nat) (hs : List (Nat × Nat)) (br : Nat) : Int64 := itr (fun w h => mx h (cnV n S rd pg hs br w)) 10 (dg6 n (gf S) rd pg hs)
section
variable {n S br : Nat} {rd : Nd} {pg : List Nat} {hs : List (Nat × Nat)} {made movers : A32} {row numbers size : Int32} {rowNow frogOn kindOf mf mt : A32} {moved frogs : Int32}
theorem on_val {g : Fl} {i : Nat} (h : OkH n g rd hs) (hi : i < n) : f_X7_on (nI n) (nI (enc8 (rowH rd hs))) (nI i) = some (onV rd hs i) ∧ (rowAt rowNow (rowH rd hs) → f_X8_on (nI n) rowNow (nI i) = some (onV rd hs i)) := by
  have hn := h.2.1
  obtain ⟨h1, h2⟩ := isSt hn hi
  unfold onV
  constructor
  · unfold f_X7_on
    rw [h1, cl1_s, if_neg i10, at_row h.rw.d (by rw [h.rw.1]; exact hn) (by omega), cl1_s]
    by_cases q : nI ((rowH rd hs).getD i 0) = 0
    · rw [if_pos q, if_pos q]
    · rw [if_neg q, if_neg q]
  · intro hm
    unfold f_X8_on
    rw [h2, cl1_s, if_neg i10, ald_in (by omega) (by decide), ald_in (by omega) (by decide), hm i (by rw [h.rw.1]; exact hi)]
    by_cases q : nI ((rowH rd hs).getD i 0) = 0
    · rw [if_pos q, if_pos q]
    · rw [if_neg q, if_neg q]
theorem frog_val {g : Fl} {i : Nat} (h : OkH n g rd hs) (hi : i < n) : f_X7_frog (nI n) (nI (enc8 (numH rd hs))) (nI i) = some (frV rd hs i) := by
  have hn := h.2.1
  unfold frV f_X7_frog
  rw [(isSt hn hi).1, cl1_s, if_neg i10, at_row h.nd (by rw [h.pi.2.1]; exact hn) (by omega), cl1_s]
theorem nlt_lit {j N : Nat} (h : j < N) (hN : N < 1000) : ¬ nI N ≤ nI j := fun q => by have := (nI_leI (by omega) (by omega)).mp q; omega
theorem digestX_eq (h : OkH n (gf S) rd hs) (hS16 : S < 16) (h3 : n = 0 ∨ 3 ≤ n) {codes : A32} {psize st si an ba ri tw nsize : Int32} (hp : pgR pg codes psize) (hr : ruR n S (gf S) st si an ba ri tw) (hx : noR rd hs made movers row numbers size)
    {ts tr : A32} {tz : Int32} {td tw' as ar : A32} {az : Int32} {ad aw : A32} {at' ao : Int32} {gs gr : A32} {gz : Int32} {gk : A32} {rr fr ti : Int32} (hSR : n ≠ 0 → SR n rd.reverse ts tr tz td tw' (zf n (gf S) false rd.reverse)) (hG : n ≠ 0 → ∃ Lx, GI n (gf S) rd Lx gs gr gz gk) (hrr : rr = nI (enc8 rd)) (hfr : fr = nI (frogsIn rd)) (hti : ti = nI br) :
    ∃ a1 a2 a3 a4 a5 a6 a7 g1 g2 g3 g4, f_X7_digest codes psize st si an ba ri tw made movers row numbers size ts tr td tw' as ar az ad aw at' ao gs gr gz gk rr fr ti = some (dg7 n S rd pg hs br, a1, a2, a3, a4, a5, a6, a7, g1, g2, g3, g4) ∧ (n ≠ 0 → ∃ Lx, GI n (gf S) rd Lx g1 g2 g3 g4) := by
  obtain ⟨rfl, rfl, rfl, rfl, rfl, rfl, -, -⟩ := hr
  obtain ⟨rfl, rfl, rfl, ha⟩ := id hx
  subst hrr; subst hfr; subst hti
  have hn := h.2.1
  have hfr := h.fr
  have h60 := h.2.2.2
  have hp14 := hp.2.2.1
  have hrw := h.rw
  unfold f_X7_digest
  let R : Option (Int64 × A32 × A32 × Int32 × A32 × A32 × Int32 × Int32 × A32 × A32 × Int32 × A32) → Prop := fun o => ∃ a1 a2 a3 a4 a5 a6 a7 g1 g2 g3 g4, o = some (dg7 n S rd pg hs br, a1, a2, a3, a4, a5, a6, a7, g1, g2, g3, g4) ∧ (n ≠ 0 → ∃ Lx, GI n (gf S) rd Lx g1 g2 g3 g4)
  refine lpA R (fun i h => mx (mx h (onV rd hs i)) (frV rd hs i)) n (by omega) 613 ?_ ?_ ?_
  · intro j h' nx hj
    rw [if_neg (nlt_lit hj (by omega)), (on_val (rowNow := fun _ => 0) h hj).1, cl1_s, nmv_d, frog_val h hj, cl1_s, nmv_d, nmv_d, nI_1]; rfl
  · intro h' nx
    rw [if_pos (nI_le (Nat.le_refl _) (by omega))]
  refine lpA R (fun f h => itr (fun w h => mx h (abV rd hs f w)) 3 h) (frogsIn rd) (by omega) (dg1 n rd hs) ?_ ?_ ?_
  · intro f h' nx hf
    rw [if_neg (nlt_lit hf (by omega))]
    refine lpA (fun o => o = nx (itr (fun w h => mx h (abV rd hs f w)) 3 h') (nI (f + 1))) (fun w h => mx h (abV rd hs f w)) 3 (by decide) h' ?_ ?_ ?_
    · intro w h'' nx2 hw
      rw [if_neg (show ¬ (2 : Int32) < nI w from fun q => by have := (nI_ltI (a := 2) (by decide) (by omega)).mp q; omega), aboutX_eq h hx hf, cl1_s, nmv_d, nmv_d, nI_1]
      rcases (show w = 0 ∨ w = 1 ∨ w = 2 by omega) with e | e | e <;> subst e <;> rfl
    · intro h'' nx2
      rw [if_pos (show (2 : Int32) < nI 3 by decide)]
    · rw [nmv_d, nI_1]
  · intro h' nx
    rw [if_pos (nI_le (Nat.le_refl _) (by omega))]
  rw [movesX_eq h hx, cl1_s, nmv_d, hasBrook_eq hn, cl1_s]
  refine jn8_u R (fun x1 => x1 = dg4 n (gf S) rd hs) ?_ ?_
  · intro x1 s1 s2 s3 s4 s5 s6 s7 e1
    subst e1
    try dsimp only
    rw [(hasGame_eq hn).1, cl1_s]
    refine jn5_u R (fun x1 g1 g2 g3 g4 => x1 = dg5 n (gf S) rd hs ∧ (n ≠ 0 → ∃ Lx, GI n (gf S) rd Lx g1 g2 g3 g4)) ?_ ?_
    · intro x1 g1 g2 g3 g4 ⟨e1, hG1⟩
      subst e1
      try dsimp only
      rw [hp.1]
      refine lpA R (fun i h => mx h (nI (pg.getD i 0))) pg.length (by omega) (dg5 n (gf S) rd hs) ?_ ?_ ?_
      · intro j h' nx hj
        rw [if_neg (nlt_lit hj (by omega)), if_neg (show ¬ (14 : Int32) ≤ nI j from fun q => by have := (nI_leI (a := 14) (by decide) (by omega)).mp q; omega), ald_in (by omega) (by decide), hp.2.1 j hj, nmv_d, nmv_d, nI_1]; rfl
      · intro h' nx
        rw [if_pos (nI_le (Nat.le_refl _) (by omega))]
      refine lpA R (fun w h => mx h (cnV n S rd pg hs br w)) 10 (by decide) (dg6 n (gf S) rd pg hs) ?_ ?_ ?_
      · intro w h' nx hw
        obtain ⟨v, v1, -, -⟩ := count_2 (n := n) (S := S) (g := gf S) (st := nI n) (si := nI S) (an := bI (gA (gf S))) (ba := bI (gB (gf S))) (ri := bI (gR (gf S))) (tw := bI (gT (gf S))) (ps := nI pg.length) (ns := nI hs.length) (fr := nI (frogsIn rd)) (ti := nI br) ⟨rfl, rfl, rfl, rfl, rfl, rfl, hS16, rfl⟩ rfl rfl rfl rfl (nI w)
        have ev : cnV n S rd pg hs br w = v := by unfold cnV; rw [v1]; rfl
        rw [if_neg (show ¬ (9 : Int32) < nI w from fun q => by have := (nI_ltI (a := 9) (by decide) (by omega)).mp q; omega), v1, cl1_s, nmv_d, nmv_d, nI_1, ev]; rfl
      · intro h' nx
        rw [if_pos (show (9 : Int32) < nI 10 by decide)]
      exact ⟨_, _, _, _, _, _, _, _, _, _, _, rfl, hG1⟩
    · intro j hj
      cases hgm : isGm n (gf S) with
      | false =>
        rw [if_pos (show bI false = 0 from rfl)]
        refine hj _ _ _ _ _ ⟨?_, hG⟩
        unfold dg5
        rw [hgm, if_neg (by decide)]
      | true =>
        have h0 : n ≠ 0 := by
          intro q
          unfold isGm at hgm
          rw [q] at hgm
          simp at hgm
        obtain ⟨Lx, hGI⟩ := hG h0
        have hc := cls_H h.1 hs h.2.2.1
        obtain ⟨L1, s1', r1', t1', k1', w1, w2⟩ := winsX_eq (side := false) hgm hn h.1 hc hGI
        obtain ⟨L2, s2', r2', t2', k2', w3, w4⟩ := winsX_eq (side := true) hgm hn h.1 hc w2
        have w1' : f_X7_wins (nI n) (bI (gA (gf S))) (bI (gB (gf S))) (bI (gR (gf S))) (bI (gT (gf S))) (nI (enc8 (rowH rd hs))) gs gr gz gk 0 = _ := w1
        have w3' : f_X7_wins (nI n) (bI (gA (gf S))) (bI (gB (gf S))) (bI (gR (gf S))) (bI (gT (gf S))) (nI (enc8 (rowH rd hs))) s1' r1' t1' k1' 1 = _ := w3
        rw [if_neg (show ¬ bI true = 0 by decide), w1', cl5_s, nmv_d, w3', cl5_s, nmv_d]
        refine hj _ _ _ _ _ ⟨?_, fun _ => ⟨_, w4⟩⟩
        unfold dg5
        rw [hgm, if_pos rfl]; rfl
  · intro j hj
    by_cases h0 : n = 0
    · rw [if_pos (show bI (decide (0 < n)) = 0 by rw [h0]; rfl)]
      refine hj _ _ _ _ _ _ _ _ ?_
      unfold dg4
      rw [if_pos h0]; rfl
    · have hb3 : 3 ≤ n := by omega
      have hSR' := hSR h0
      have hg := rw_rev h.1
      rw [if_neg (show ¬ bI (decide (0 < n)) = 0 by rw [decide_eq_true (by omega)]; decide)]
      refine lpA R (fun w h => mx h (fewV n (gf S) (rowH rd hs) rd.reverse w)) 3 (by decide) (dg3 n (gf S) rd hs) ?_ ?_ ?_
      · intro w h' nx hw
        rw [if_neg (show ¬ (2 : Int32) < nI w from fun q => by have := (nI_ltI (a := 2) (by decide) (by omega)).mp q; omega), fewestX_eq hb3 hn hrw hg hSR' hw, cl1_s, nmv_d, nmv_d, nI_1]; rfl
      · intro h' nx
        rw [if_pos (show (2 : Int32) < nI 3 by decide)]
      try dsimp only
      rw [waysX_eq hb3 hn hrw hg hSR', cl1_s, nmv_d, wrongX_eq hb3 h ha hg hSR', cl1_s, nmv_d]
      unfold f_X7_ends f_X7_soon
      obtain ⟨b1, b2, b3, b4, b5, e1, -⟩ := spread_all (g := gf S) (sense := true) (slots := as) (rows := ar) (tsize := az) (depths := ad) (ways := aw) (st0 := at') (so0 := ao) hrw hn
      have e1' : f_X5_spread (nI n) (bI (gA (gf S))) (bI (gB (gf S))) (bI (gR (gf S))) (bI (gT (gf S))) as ar az ad aw at' ao (nI (enc8 (rowH rd hs))) 1 (-1) = _ := e1
      obtain ⟨c1, c2, c3, c4, c5, e2, -⟩ := spread_all (g := gf S) (sense := true) (slots := b1) (rows := b2) (tsize := b3) (depths := b4) (ways := b5) (st0 := nI (stkL n (gf S) true (zf n (gf S) true (rowH rd hs)).1)) (so0 := oI (soonL n (gf S) true (zf n (gf S) true (rowH rd hs)).1)) hrw hn
      have e2' : f_X5_spread (nI n) (bI (gA (gf S))) (bI (gB (gf S))) (bI (gR (gf S))) (bI (gT (gf S))) b1 b2 b3 b4 b5 (nI (stkL n (gf S) true (zf n (gf S) true (rowH rd hs)).1)) (oI (soonL n (gf S) true (zf n (gf S) true (rowH rd hs)).1)) (nI (enc8 (rowH rd hs))) 1 (-1) = _ := e2
      rw [hasBrook_eq hn, cl1_s, if_neg (show ¬ bI (decide (0 < n)) = 0 by rw [decide_eq_true (by omega)]; decide), e1', cl8_s, cl8_s, nmv_d, cl1_s, if_neg (show ¬ bI (decide (0 < n)) = 0 by rw [decide_eq_true (by omega)]; decide), e2', cl8_s, cl8_s, nmv_d]
      refine hj _ _ _ _ _ _ _ _ ?_
      unfold dg4
      rw [if_neg h0]; rfl
end
