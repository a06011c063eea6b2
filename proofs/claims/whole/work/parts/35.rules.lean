/-! ===== who may go where: the abstract rule, and the class's Rules ===== -/
abbrev Fl : Type := Bool × Bool × Bool × Bool
/-- ANY, BACK, RING, TWO -/
abbrev gA (g : Fl) : Bool := g.1
abbrev gB (g : Fl) : Bool := g.2.1
abbrev gR (g : Fl) : Bool := g.2.2.1
abbrev gT (g : Fl) : Bool := g.2.2.2
def bI (b : Bool) : Int32 := if b then 1 else 0
def dI (d : Bool) : Int32 := if d then 1 else -1
def oI (o : Option Nat) : Int32 := match o with
  | none => -1
  | some p => nI p
theorem bI_0 {b : Bool} : bI b = 0 ↔ b = false := by cases b <;> decide
def Rw (n : Nat) (r : List Nat) : Prop := r.length = n ∧ ∀ k ∈ r, k ≤ 4
theorem Rw.d {n : Nat} {r : List Nat} (h : Rw n r) : d8 r := fun k hk => Nat.lt_of_le_of_lt (h.2 k hk) (by decide)
theorem Rw.at {n : Nat} {r : List Nat} (h : Rw n r) (i : Nat) : r.getD i 0 ≤ 4 := by
  rw [List.getD_eq_getElem?_getD]
  cases e : r[i]? with
  | none => simp
  | some x => exact h.2 x (List.mem_of_getElem? e)
def bes (n : Nat) (ring : Bool) (s : Nat) (d : Bool) : Option Nat :=
  if d then (if s + 1 < n then some (s + 1) else if ring then some 0 else none)
  else (if 0 < s then some (s - 1) else if ring then some (n - 1) else none)
theorem bes_lt {n s p : Nat} {ring d : Bool} (hs : s < n) (h : bes n ring s d = some p) : p < n := by
  unfold bes at h
  cases d <;> simp only [Bool.false_eq_true, if_false, if_true] at h
  · split at h
    · cases h; omega
    · split at h
      · cases h; omega
      · cases h
  · split at h
    · cases h; omega
    · split at h
      · cases h; omega
      · cases h
theorem beside_eq {n s : Nat} {ring d : Bool} (hs : s < n) (hn : n ≤ 8) : f_X4_beside (nI n) (bI ring) (nI s) (dI d) = some (oI (bes n ring s d)) := by
  unfold f_X4_beside
  rw [nmv_d]
  show (if nI s + dI d < 0 then _ else _) = _
  cases d with
  | true =>
    have e : nI s + dI true = nI (s + 1) := nI_1 s
    rw [e, if_neg (nI_pos (by omega))]
    by_cases hc : n ≤ s + 1
    · rw [if_pos ((nI_leI (by omega) (by omega)).mpr hc)]
      have h1 : ¬ s + 1 < n := by omega
      cases ring with
      | false => simp [bI, bes, oI, h1]
      | true =>
        have h0 : (0 : Int32) ≤ nI (s + 1) := nI_pos' (by omega)
        simp [bI, bes, oI, h0, h1]
        rfl
    · rw [if_neg (fun q => hc ((nI_leI (by omega) (by omega)).mp q))]
      simp [bes, oI]
      rw [if_pos (by omega)]
  | false =>
    by_cases hz : s = 0
    · subst hz
      have e : nI 0 + dI false = -1 := by decide +kernel
      rw [e, if_pos (by decide)]
      cases ring with
      | false => simp [bI, bes, oI]
      | true =>
        have h0 : ¬ (0 : Int32) ≤ -1 := by decide
        simp [bI, bes, oI, h0]
        exact pk_sub (b := 1) (by omega)
    · obtain ⟨u, rfl⟩ : ∃ u, s = u + 1 := ⟨s - 1, by omega⟩
      have e : nI (u + 1) + dI false = nI u := pk_m1 u
      rw [e, if_neg (nI_pos (by omega)), if_neg (fun q => by have := (nI_leI (by omega) (by omega)).mp q; omega)]
      simp [bes, oI]
def col (k : Nat) : Nat := if k = 1 ∨ k = 4 then 1 else if k = 2 then 2 else 0
def ovr (any : Bool) (k o : Nat) : Bool := decide (o ≠ 0) && (any || (decide (col o ≠ 0) && decide (col o ≠ col k)))
theorem leaps_eq (any : Bool) (k : Nat) (hk : k < 5) (o : Nat) (ho : o < 5) (h0 : k ≠ 0) (h3 : k ≠ 3) (hz : o ≠ 0) : f_X4_leapsOver (bI any) (nI k) (nI o) = some (bI (ovr any k o)) := by
  rcases (show k = 1 ∨ k = 2 ∨ k = 4 by omega) with rfl | rfl | rfl <;> rcases (show o = 1 ∨ o = 2 ∨ o = 3 ∨ o = 4 by omega) with rfl | rfl | rfl | rfl <;> cases any <;> rfl
/-- where who is of kind k lands, going one way from p, over c others at most -/
def lnd (n : Nat) (any ring : Bool) (r : List Nat) (k : Nat) (d : Bool) : Nat → Nat → Option Nat
  | 0, p => match bes n ring p d with
    | none => none
    | some q => if r.getD q 0 = 0 then some q else none
  | c + 1, p => match bes n ring p d with
    | none => none
    | some q => if r.getD q 0 = 0 then some q else if ovr any k (r.getD q 0) then lnd n any ring r k d c q else none
def mover (g : Fl) (k : Nat) : Nat := if k = 4 then 0 else if gT g then 2 else 1
def land (n : Nat) (g : Fl) (r : List Nat) (s : Nat) (d : Bool) : Option Nat := lnd n (gA g) (gR g) r (r.getD s 0) d (mover g (r.getD s 0)) s
def lmN (o : Option Nat) : Nat := match o with
  | none => 0
  | some p => 2 ^ p
theorem landing_eq {n : Nat} {g : Fl} {r : List Nat} {s : Nat} {d : Bool} (hr : Rw n r) (hn : n ≤ 7) (hs : s < n) (h0 : r.getD s 0 ≠ 0) (h3 : r.getD s 0 ≠ 3) : f_X4_landing (nI n) (bI (gA g)) (bI (gR g)) (bI (gT g)) (nI (enc8 r)) (nI s) (dI d) = some (nI (lmN (land n g r s d))) := by
  have hl : r.length ≤ 7 := by rw [hr.1]; exact hn
  have hk := hr.at s
  unfold f_X4_landing
  rw [at_row hr.d hl (by omega)]
  show (if nI (r.getD s 0) = 4 then _ else _) = _
  have key : ∀ m, m = mover g (r.getD s 0) → lp2_0 (fun (x6_4 : Int32) (x7_5 : Int32) nx37 ex37 => if nI m < x7_5 then ex37 else cl1 (f_X4_beside (nI n) (bI (gR g)) x6_4 (dI d)) fun r_7 => if r_7 = ((-1)) then some 0 else cl1 (f_X3_at (nI (enc8 r)) r_7) fun r_10 => if r_10 = 0 then some ((1 : Int32) <<< (r_7 &&& 31)) else cl1 (f_X4_leapsOver (bI (gA g)) (nI (r.getD s 0)) r_10) fun r_13 => if r_13 = 0 then some 0 else nmv (α := Int32) (x7_5 + 1) fun x7_16 => nx37 r_7 x7_16) (some 0) fuel (nI s) 0 = some (nI (lmN (land n g r s d))) := by
    intro m hm
    have hm2 : m ≤ 2 := by
      rw [hm]; unfold mover
      split
      · omega
      · split <;> omega
    refine lp2_0_inv (fun x6 x7 => ∃ p j, p < n ∧ j ≤ m + 1 ∧ x6 = nI p ∧ x7 = nI j ∧ land n g r s d = if j = m + 1 then none else lnd n (gA g) (gR g) r (r.getD s 0) d (m - j) p) (fun _ x7 => 4 - x7.toNatClampNeg) (fun o => o = some (nI (lmN (land n g r s d)))) ?_ fuel (nI s) 0 ⟨s, 0, hs, Nat.zero_le _, rfl, rfl, by rw [if_neg (by omega), Nat.sub_zero, hm]; rfl⟩ (fuel_gt (by omega))
    intro x6 x7 nx ⟨p, j, hp, hj, e6, e7, hfin⟩ hnx
    subst e6; subst e7
    by_cases hc : m < j
    · rw [if_pos (nI_lt hc (by omega)), hfin, if_pos (by omega)]; rfl
    · rw [if_neg (fun q => hc ((nI_ltI (by omega) (by omega)).mp q)), beside_eq hp (by omega)]
      rw [if_neg (by omega)] at hfin
      show (if oI (bes n (gR g) p d) = -1 then _ else _) = _
      cases hb : bes n (gR g) p d with
      | none =>
        have e : lnd n (gA g) (gR g) r (r.getD s 0) d (m - j) p = none := by cases m - j <;> simp [lnd, hb]
        rw [hfin, e]; simp [oI, lmN, nI_0]
      | some q =>
        have hq := bes_lt hp hb
        have eo : oI (some q) = nI q := rfl
        rw [eo, if_neg (nI_m1 (by omega)), at_row hr.d hl (by omega)]
        show (if nI (r.getD q 0) = 0 then _ else _) = _
        have hkq := hr.at q
        by_cases hz : r.getD q 0 = 0
        · rw [if_pos ((nI_eq0 (by omega)).mpr hz)]
          have e : lnd n (gA g) (gR g) r (r.getD s 0) d (m - j) p = some q := by cases m - j <;> simp only [lnd, hb, hz, if_true]
          rw [hfin, e]
          have hpw : 1 * 2 ^ q < 2 ^ 32 := by rw [Nat.one_mul]; exact Nat.pow_lt_pow_right (by decide) (by omega)
          rw [n_lit 1, pk_shlN _ q (sh31 q (by omega)) hpw, Nat.one_mul]
          rfl
        · rw [if_neg (fun z => hz ((nI_eq0 (by omega)).mp z)), leaps_eq (gA g) _ (by omega) _ (by omega) h0 h3 hz]
          show (if bI (ovr (gA g) (r.getD s 0) (r.getD q 0)) = 0 then _ else _) = _
          cases ho : ovr (gA g) (r.getD s 0) (r.getD q 0) with
          | false =>
            have e : lnd n (gA g) (gR g) r (r.getD s 0) d (m - j) p = none := by cases m - j <;> simp only [lnd, hb, hz, ho, if_false, Bool.false_eq_true]
            rw [hfin, e]; simp [bI, lmN, nI_0]
          | true =>
            rw [if_neg (by decide), nmv_d, nI_1]
            refine hnx _ _ ⟨q, j + 1, hq, by omega, rfl, rfl, ?_⟩ (by rw [nI_clamp (by omega), nI_clamp (by omega)]; omega)
            rw [hfin]
            by_cases hjm : j = m
            · rw [if_pos (by omega), show m - j = 0 by omega]
              simp only [lnd, hb, hz, if_false]
            · rw [if_neg (by omega)]
              obtain ⟨c, hcm⟩ : ∃ c, m - j = c + 1 := ⟨m - j - 1, by omega⟩
              rw [hcm, show m - (j + 1) = c by omega]
              simp only [lnd, hb, hz, if_false, ho, if_true]
  by_cases h4 : r.getD s 0 = 4
  · rw [if_pos (by rw [h4]; rfl)]
    exact key 0 (by unfold mover; rw [if_pos h4])
  · rw [if_neg (show ¬ nI (r.getD s 0) = 4 from fun q => h4 ((nI_eq (by omega) (by decide)).mp q))]
    cases ht : gT g with
    | false =>
      rw [if_pos (by decide)]
      have := key 1 (by unfold mover; rw [if_neg h4, ht]; rfl)
      exact this
    | true =>
      rw [if_neg (by decide)]
      have := key 2 (by unfold mover; rw [if_neg h4, ht]; rfl)
      exact this
/-- which way a kind goes -/
def fwd (k : Nat) (sense : Bool) : Bool := if k = 2 then !sense else sense
def tgN (n : Nat) (g : Fl) (r : List Nat) (sense : Bool) (s : Nat) : Nat :=
  if r.getD s 0 = 0 ∨ r.getD s 0 = 3 then 0 else lmN (land n g r s (fwd (r.getD s 0) sense)) ||| if gB g then lmN (land n g r s (!fwd (r.getD s 0) sense)) else 0
theorem lnd_lt {n : Nat} {any ring : Bool} {r : List Nat} {k : Nat} {d : Bool} : ∀ {c p q : Nat}, p < n → lnd n any ring r k d c p = some q → q < n ∧ r.getD q 0 = 0
  | 0, p, q, hp, h => by
    unfold lnd at h
    cases hb : bes n ring p d with
    | none => rw [hb] at h; cases h
    | some z =>
      rw [hb] at h
      dsimp only at h
      split at h
      · rename_i hz; cases h; exact ⟨bes_lt hp hb, hz⟩
      · cases h
  | c + 1, p, q, hp, h => by
    unfold lnd at h
    cases hb : bes n ring p d with
    | none => rw [hb] at h; cases h
    | some z =>
      rw [hb] at h
      dsimp only at h
      split at h
      · rename_i hz; cases h; exact ⟨bes_lt hp hb, hz⟩
      · split at h
        · exact lnd_lt (bes_lt hp hb) h
        · cases h
theorem lmN_lt {n : Nat} {g : Fl} {r : List Nat} {s : Nat} {d : Bool} (hs : s < n) (hn : n ≤ 7) : lmN (land n g r s d) < 2 ^ 7 := by
  cases h : land n g r s d with
  | none => decide
  | some q =>
    have := (lnd_lt hs h).1
    exact Nat.pow_lt_pow_right (by decide) (by omega)
theorem tgN_lt {n : Nat} {g : Fl} {r : List Nat} {sense : Bool} {s : Nat} (hs : s < n) (hn : n ≤ 7) : tgN n g r sense s < 2 ^ 7 := by
  unfold tgN
  split
  · decide
  · apply Nat.or_lt_two_pow (lmN_lt hs hn)
    split
    · exact lmN_lt hs hn
    · decide
theorem dI_neg (d : Bool) : -dI d = dI (!d) := by cases d <;> decide
theorem targets_eq {n : Nat} {g : Fl} {r : List Nat} {s : Nat} {sense : Bool} (hr : Rw n r) (hn : n ≤ 7) (hs : s < n) : f_X4_targets (nI n) (bI (gA g)) (bI (gB g)) (bI (gR g)) (bI (gT g)) (nI (enc8 r)) (nI s) (dI sense) = some (nI (tgN n g r sense s)) := by
  have hl : r.length ≤ 7 := by rw [hr.1]; exact hn
  have hk := hr.at s
  unfold f_X4_targets
  rw [at_row hr.d hl (by omega)]
  show (if nI (r.getD s 0) = 0 then _ else _) = _
  unfold tgN
  by_cases h0 : r.getD s 0 = 0
  · rw [if_pos ((nI_eq0 (by omega)).mpr h0), if_pos (Or.inl h0)]; rfl
  · rw [if_neg (fun z => h0 ((nI_eq0 (by omega)).mp z))]
    by_cases h3 : r.getD s 0 = 3
    · rw [if_pos (by rw [h3]; rfl), if_pos (Or.inr h3)]; rfl
    · rw [if_neg (show ¬ nI (r.getD s 0) = 3 from fun z => h3 ((nI_eq (by omega) (by decide)).mp z)), if_neg (by omega)]
      have key : ∀ d, d = fwd (r.getD s 0) sense → (cl1 (f_X4_landing (nI n) (bI (gA g)) (bI (gR g)) (bI (gT g)) (nI (enc8 r)) (nI s) (dI d)) fun r_6 => if bI (gB g) = 0 then some r_6 else cl1 (f_X4_landing (nI n) (bI (gA g)) (bI (gR g)) (bI (gT g)) (nI (enc8 r)) (nI s) (-dI d)) fun r_9 => nmv (α := Int32) (r_6 ||| r_9) fun x6_11 => some x6_11) = some (nI (lmN (land n g r s (fwd (r.getD s 0) sense)) ||| if gB g then lmN (land n g r s (!fwd (r.getD s 0) sense)) else 0)) := by
        intro d hd
        rw [landing_eq hr hn hs h0 h3, dI_neg, landing_eq hr hn hs h0 h3, ← hd]
        show (if bI (gB g) = 0 then some (nI (lmN (land n g r s d))) else some (nI (lmN (land n g r s d)) ||| nI (lmN (land n g r s (!d))))) = _
        cases hb : gB g with
        | false => simp [bI]
        | true => rw [if_neg (by decide), if_pos rfl, nx_or]
      by_cases h2 : r.getD s 0 = 2
      · show (if nI (r.getD s 0) = 2 then _ else _) = _
        rw [if_pos (show nI (r.getD s 0) = 2 by rw [h2]; rfl), dI_neg]
        exact key (!sense) (by unfold fwd; rw [if_pos h2])
      · show (if nI (r.getD s 0) = 2 then _ else _) = _
        rw [if_neg (show ¬ nI (r.getD s 0) = 2 from fun z => h2 ((nI_eq (by omega) (by decide)).mp z))]
        exact key sense (by unfold fwd; rw [if_neg h2])
