/-! ===== the game: who has it for sure; the class's Game ===== -/
def own (r : Nd) (f : Nat) (side : Bool) : Bool := decide (r.getD f 0 = 2) == side
def gw (n : Nat) (g : Fl) : Nat → Nd → Bool → Bool
  | 0, _, _ => false
  | k + 1, r, side => (mvs n g r true).any (fun m => own r m.1 side && !gw n g k (mvd r m.1 m.2) (!side))
def Wn (n : Nat) (g : Fl) (r : Nd) (side : Bool) : Bool := gw n g 43 r side
def pv (n i k : Nat) : Nat := if col k = 1 then i else if col k = 2 then n - 1 - i else 0
def prog (n : Nat) (r : Nd) : Nat := ((List.range n).map (fun i => pv n i (r.getD i 0))).sum
theorem sum_le {F : Nat → Nat} {c : Nat} : ∀ n, (∀ i, i < n → F i ≤ c) → ((List.range n).map F).sum ≤ n * c
  | 0, _ => by simp
  | n + 1, h => by
    have := sum_le n (fun i hi => h i (by omega))
    have h2 := h n (by omega)
    rw [List.range_succ, List.map_append, List.sum_append, Nat.succ_mul]
    simp; omega
theorem sum_upd {F G : Nat → Nat} {f : Nat} : ∀ n, f < n → (∀ i, i ≠ f → G i = F i) → ((List.range n).map G).sum + F f = ((List.range n).map F).sum + G f
  | 0, h, _ => absurd h (Nat.not_lt_zero _)
  | n + 1, h, e => by
    rw [List.range_succ, List.map_append, List.sum_append, List.map_append, List.sum_append]
    simp only [List.map_cons, List.map_nil, List.sum_cons, List.sum_nil]
    by_cases hf : f = n
    · subst hf
      have : (List.range f).map G = (List.range f).map F := List.map_congr_left (fun i hi => e i (by have := List.mem_range.mp hi; omega))
      rw [this]; omega
    · have := sum_upd n (by omega) e
      rw [e n (fun q => hf q.symm)]; omega
theorem prog_le {n : Nat} (r : Nd) (hn : n ≤ 7) : prog n r ≤ 42 := by
  have h : prog n r ≤ n * (n - 1) := sum_le n (fun i hi => by
    unfold pv
    split
    · omega
    · split <;> omega)
  have : n * (n - 1) ≤ 7 * 6 := Nat.mul_le_mul hn (by omega)
  omega
theorem prog_mv {n : Nat} {r : Nd} {f t : Nat} (hr : r.length = n) (hf : f < n) (ht : t < n) (hft : f ≠ t) (hz : r.getD t 0 = 0) : prog n (mvd r f t) + pv n f (r.getD f 0) = prog n r + pv n t (r.getD f 0) := by
  unfold prog
  have h1 := sum_upd (F := fun i => pv n i (r.getD i 0)) (G := fun i => pv n i (if i = f then 0 else r.getD i 0)) n hf (fun i hi => by simp [hi])
  have h2 := sum_upd (F := fun i => pv n i (if i = f then 0 else r.getD i 0)) (G := fun i => pv n i ((mvd r f t).getD i 0)) n ht (fun i hi => by
    simp only [mvd_at (r := r) (f := f) (t := t) (j := i) (by omega) (by omega), if_neg hi])
  simp only [mvd_at (r := r) (f := f) (t := t) (j := t) (by omega) (by omega), if_true, if_neg (Ne.symm hft), hz] at h1 h2
  have e0 : ∀ i, pv n i 0 = 0 := fun i => rfl
  rw [e0] at h1 h2
  omega
theorem bes_dir {n s p : Nat} {d : Bool} (h : bes n false s d = some p) : if d then s < p else p < s := by
  unfold bes at h
  cases d <;> simp only [Bool.false_eq_true, if_false, if_true] at h ⊢
  · split at h
    · cases h; omega
    · cases h
  · split at h
    · cases h; omega
    · cases h
theorem lnd_dir {n : Nat} {any : Bool} {r : List Nat} {k : Nat} {d : Bool} : ∀ {c p q : Nat}, lnd n any false r k d c p = some q → if d then p < q else q < p
  | 0, p, q, h => by
    unfold lnd at h
    cases hb : bes n false p d with
    | none => rw [hb] at h; cases h
    | some z =>
      rw [hb] at h
      dsimp only at h
      split at h
      · cases h; exact bes_dir hb
      · cases h
  | c + 1, p, q, h => by
    unfold lnd at h
    cases hb : bes n false p d with
    | none => rw [hb] at h; cases h
    | some z =>
      rw [hb] at h
      dsimp only at h
      have hz := bes_dir hb
      split at h
      · cases h; exact hz
      · split at h
        · have := lnd_dir h
          cases d <;> simp only [Bool.false_eq_true, if_false, if_true] at this hz ⊢ <;> omega
        · cases h
/-- in a game each move goes on -/
theorem prog_up {n : Nat} {g : Fl} {r : Nd} {f t : Nat} (hr : Rw n r) (hB : gB g = false) (hR : gR g = false) (hf : f < n) (h : may n g r true f t = true) : prog n r + 1 ≤ prog n (mvd r f t) := by
  obtain ⟨ht, hz, hft, -⟩ := may_to hf h
  obtain ⟨h0, h3, h4⟩ := may_iff.mp h
  have h5 : land n g r f (fwd (r.getD f 0) true) = some t := by
    rcases h4 with q | ⟨q, -⟩
    · exact q
    · rw [hB] at q; cases q
  unfold land at h5
  rw [hR] at h5
  have hd := lnd_dir h5
  have hp := prog_mv hr.1 hf ht hft hz
  have hk := hr.at f
  have : pv n f (r.getD f 0) + 1 ≤ pv n t (r.getD f 0) := by
    unfold fwd at hd
    unfold pv col
    rcases (show r.getD f 0 = 1 ∨ r.getD f 0 = 2 ∨ r.getD f 0 = 4 by omega) with e | e | e <;> rw [e] at hd ⊢ <;> simp at hd ⊢ <;> omega
  omega
theorem any_congr {l : List (Nat × Nat)} {p q : Nat × Nat → Bool} (h : ∀ m ∈ l, p m = q m) : l.any p = l.any q := by
  induction l with
  | nil => rfl
  | cons a l ih => rw [List.any_cons, List.any_cons, h a List.mem_cons_self, ih (fun m hm => h m (List.mem_cons_of_mem _ hm))]
theorem gw_st {n : Nat} {g : Fl} (hn : n ≤ 7) (hB : gB g = false) (hR : gR g = false) : ∀ (k : Nat) (r : Nd) (side : Bool), Rw n r → 43 ≤ prog n r + k → gw n g k r side = gw n g (k + 1) r side
  | 0, r, side, hr, h => by have := prog_le (n := n) r hn; omega
  | k + 1, r, side, hr, h => by
    show (mvs n g r true).any _ = (mvs n g r true).any _
    apply any_congr
    intro m hm
    obtain ⟨h1, h2⟩ := (mem_mvs hn).mp hm
    have h3 := prog_up hr hB hR h1 h2
    rw [gw_st hn hB hR k _ _ hr.mv (by omega)]
theorem Wn_un {n : Nat} {g : Fl} {r : Nd} {side : Bool} (hn : n ≤ 7) (hB : gB g = false) (hR : gR g = false) (hr : Rw n r) : Wn n g r side = (mvs n g r true).any (fun m => own r m.1 side && !Wn n g (mvd r m.1 m.2) (!side)) := by
  show (mvs n g r true).any _ = _
  apply any_congr
  intro m hm
  obtain ⟨h1, h2⟩ := (mem_mvs hn).mp hm
  have h3 := prog_up hr hB hR h1 h2
  rw [gw_st hn hB hR 42 _ _ hr.mv (by omega)]
  rfl
def byM (n : Nat) (g : Fl) (r : Nd) (side : Bool) : Option (Nat × Nat) := (mvs n g r true).find? (fun m => own r m.1 side && !Wn n g (mvd r m.1 m.2) (!side))
theorem Wn_by {n : Nat} {g : Fl} {r : Nd} {side : Bool} (hn : n ≤ 7) (hB : gB g = false) (hR : gR g = false) (hr : Rw n r) : Wn n g r side = (byM n g r side).isSome := by
  rw [Wn_un hn hB hR hr]
  unfold byM
  cases h : (mvs n g r true).find? (fun m => own r m.1 side && !Wn n g (mvd r m.1 m.2) (!side)) with
  | none =>
    cases h2 : (mvs n g r true).any (fun m => own r m.1 side && !Wn n g (mvd r m.1 m.2) (!side)) with
    | false => rfl
    | true =>
      obtain ⟨m, hm, hp⟩ := List.any_eq_true.mp h2
      exact absurd hp (List.find?_eq_none.mp h m hm)
  | some m =>
    have hp := List.find?_some h
    exact List.any_eq_true.mpr ⟨m, List.mem_of_find?_eq_some h, hp⟩
/-- what is known of a row: two bits a side -/
def kn (n : Nat) (g : Fl) (x : Nd) (v : Int32) : Prop := ∃ a b, v = nI (a + 4 * b) ∧ a ≤ 2 ∧ b ≤ 2 ∧ (a ≠ 0 → a = if Wn n g x false then 2 else 1) ∧ (b ≠ 0 → b = if Wn n g x true then 2 else 1)
def GI (n : Nat) (g : Fl) (r0 : Nd) (Lx : List Nd) (slots rows : A32) (tsize : Int32) (known : A32) : Prop :=
  TI slots rows (Lx.map enc8) ∧ tsize = nI Lx.length ∧ Lx.Nodup ∧ (∀ x ∈ Lx, Cls r0 x) ∧ (∀ (i : Nat) (x : Nd), Lx[i]? = some x → kn n g x (known i)) ∧ (∀ i, Lx.length ≤ i → i < 640 → known i = 0)
theorem kn_0 (n : Nat) (g : Fl) (x : Nd) : kn n g x 0 := ⟨0, 0, rfl, by omega, by omega, fun h => absurd rfl h, fun h => absurd rfl h⟩
theorem kf_f : ∀ a, a < 3 → ∀ b, b < 3 → ((nI (a + 4 * b) >>> (((2 : Int32) * bI false) &&& 31)) &&& (3 : Int32)) = nI a := by decide +kernel
theorem kf_t : ∀ a, a < 3 → ∀ b, b < 3 → ((nI (a + 4 * b) >>> (((2 : Int32) * bI true) &&& 31)) &&& (3 : Int32)) = nI b := by decide +kernel
theorem ko_f : ∀ v, v < 3 → ∀ b, b < 3 → (nI (0 + 4 * b) ||| (nI v <<< (((2 : Int32) * bI false) &&& 31))) = nI (v + 4 * b) ∧ (nI (v + 4 * b) ||| (nI v <<< (((2 : Int32) * bI false) &&& 31))) = nI (v + 4 * b) := by decide +kernel
theorem ko_t : ∀ v, v < 3 → ∀ a, a < 3 → (nI (a + 4 * 0) ||| (nI v <<< (((2 : Int32) * bI true) &&& 31))) = nI (a + 4 * v) ∧ (nI (a + 4 * v) ||| (nI v <<< (((2 : Int32) * bI true) &&& 31))) = nI (a + 4 * v) := by decide +kernel
theorem kn_read {n : Nat} {g : Fl} {x : Nd} {v : Int32} {side : Bool} (h : kn n g x v) : ∃ c, c ≤ 2 ∧ ((v >>> (((2 : Int32) * bI side) &&& 31)) &&& (3 : Int32)) = nI c ∧ (c ≠ 0 → c = if Wn n g x side then 2 else 1) := by
  obtain ⟨a, b, rfl, ha, hb, h1, h2⟩ := h
  cases side with
  | false => exact ⟨a, ha, kf_f a (by omega) b (by omega), h1⟩
  | true => exact ⟨b, hb, kf_t a (by omega) b (by omega), h2⟩
theorem kn_set {n : Nat} {g : Fl} {x : Nd} {v : Int32} {side : Bool} (h : kn n g x v) : kn n g x (v ||| (nI (if Wn n g x side then 2 else 1) <<< (((2 : Int32) * bI side) &&& 31))) := by
  obtain ⟨a, b, rfl, ha, hb, h1, h2⟩ := h
  cases side with
  | false =>
    generalize hw : (if Wn n g x false then 2 else 1) = w at h1 ⊢
    have hw3 : w ≤ 2 ∧ w ≠ 0 := by rw [← hw]; split <;> omega
    by_cases hz : a = 0
    · subst hz
      exact ⟨w, b, (ko_f w (by omega) b (by omega)).1, hw3.1, hb, fun _ => hw.symm, h2⟩
    · rw [h1 hz]
      exact ⟨w, b, (ko_f w (by omega) b (by omega)).2, hw3.1, hb, fun _ => hw.symm, h2⟩
  | true =>
    generalize hw : (if Wn n g x true then 2 else 1) = w at h2 ⊢
    have hw3 : w ≤ 2 ∧ w ≠ 0 := by rw [← hw]; split <;> omega
    by_cases hz : b = 0
    · subst hz
      exact ⟨a, w, (ko_t w (by omega) a (by omega)).1, ha, hw3.1, h1, fun _ => hw.symm⟩
    · rw [h2 hz]
      exact ⟨a, w, (ko_t w (by omega) a (by omega)).2, ha, hw3.1, h1, fun _ => hw.symm⟩
theorem own_j {β : Type} (F : Int32 → Option β) {k : Nat} (hk : k ≤ 4) (side : Bool) : (jn1 (fun (s_21 : Int32) => jn1 (fun (s_22 : Int32) => jn1 F fun j76 => if s_21 = s_22 then j76 1 else j76 0) fun j68 => if bI side = 1 then j68 1 else j68 0) fun j58 => if nI k = 2 then j58 1 else j58 0) = F (bI (decide (k = 2) == side)) := by
  simp only [jn1_d]
  by_cases h : k = 2
  · subst h
    rw [if_pos (show nI 2 = 2 from rfl)]
    cases side <;> simp [bI]
  · rw [if_neg (show ¬ nI k = 2 from fun q => h ((nI_eq (by omega) (by decide)).mp q))]
    cases side <;> simp [bI, h]
abbrev HT : Type := Int32 → Int32 → Int32 → Int32 → Int32 → A32 → A32 → Int32 → A32 → Int32 → Int32 → Int32 → Option (Int32 × A32 × A32 × Int32 × A32)
def HOk (n : Nat) (g : Fl) (r0 : Nd) (d : Nat) (hI : HT) : Prop := ∀ (r : Nd) (side : Bool) (dep : Nat) (Lx : List Nd) (slots rows : A32) (tsize : Int32) (known : A32), Cls r0 r → 43 ≤ prog n r + d → dep ≤ prog n r → GI n g r0 Lx slots rows tsize known → ∃ N slots' rows' tsize' known', hI (nI n) (bI (gA g)) (bI (gB g)) (bI (gR g)) (bI (gT g)) slots rows tsize known (nI (enc8 r)) (bI side) (nI dep) = some (bI (Wn n g r side), slots', rows', tsize', known') ∧ GI n g r0 (Lx ++ N) slots' rows' tsize' known'
theorem win_eq {n : Nat} {Lx : List Nd} {g : Fl} {r0 r : Nd} {d : Nat} {hI : HT} {side : Bool} {dep : Nat} {slots rows : A32} {tsize : Int32} {known : A32} (h0 : Rw n r0) (hn : n ≤ 7) (hB : gB g = false) (hR : gR g = false) (hI1 : HOk n g r0 d hI) (hc : Cls r0 r) (hd : 42 ≤ prog n r + d) (hdep : dep ≤ prog n r) (hG : GI n g r0 Lx slots rows tsize known) :
    ∃ N slots' rows' tsize' known', f_X0_winningMove hI (nI n) (bI (gA g)) (bI (gB g)) (bI (gR g)) (bI (gT g)) slots rows tsize known (nI (enc8 r)) (bI side) (nI dep) = some (oI ((byM n g r side).map mc), slots', rows', tsize', known') ∧ GI n g r0 (Lx ++ N) slots' rows' tsize' known' := by
  have hr := hc.rw h0
  have hp42 := prog_le (n := n) r hn
  unfold f_X0_winningMove
  rw [show (1 : Int32) = dI true from rfl, allMoves_eq hr hn, cl1_s, show dI true = (1 : Int32) from rfl, bitCount_eq (mask_lt hn), cl1_s, mask_bits hn, List.length_map]
  have hmlen : (mvs n g r true).length ≤ 64 := by
    have h1 : (bitsOf (mask n g r true)).length ≤ 64 := by
      unfold bitsOf
      have := List.length_filter_le (fun i => (mask n g r true).testBit i) (List.range 64)
      rwa [List.length_range] at this
    rwa [mask_bits hn, List.length_map] at h1
  refine lp6_4_inv (fun x5 x8 s1 r1 t1 k1 => ∃ dn rs y, mvs n g r true = dn ++ rs ∧ x8 = nI dn.length ∧ x5 = lN y ∧ y < 2 ^ 64 ∧ bitsOf y = rs.map mc ∧ (∃ N, GI n g r0 (Lx ++ N) s1 r1 t1 k1) ∧ byM n g r side = rs.find? (fun m => own r m.1 side && !Wn n g (mvd r m.1 m.2) (!side))) (fun _ x8 _ _ _ _ => 64 - x8.toNatClampNeg) (fun o => ∃ N slots' rows' tsize' known', o = some (oI ((byM n g r side).map mc), slots', rows', tsize', known') ∧ GI n g r0 (Lx ++ N) slots' rows' tsize' known') ?_ fuel _ _ _ _ _ _ ⟨[], mvs n g r true, _, rfl, rfl, rfl, mask_lt hn, mask_bits hn, ⟨[], by rw [List.append_nil]; exact hG⟩, rfl⟩ (fuel_gt (by omega))
  intro x5 x8 s1 r1 t1 k1 nx ⟨dn, rs, y, e1, e8, e5, hy, hbits, ⟨N1, hG1⟩, hby⟩ hnx
  subst e8; subst e5
  have hl2 : (mvs n g r true).length = dn.length + rs.length := by rw [e1, List.length_append]
  cases rs with
  | nil =>
    rw [if_pos (nI_le (by rw [hl2]; simp) (by omega))]
    refine ⟨N1, s1, r1, t1, k1, ?_, hG1⟩
    rw [hby]; rfl
  | cons m rs =>
    rw [List.length_cons] at hl2
    rw [List.map_cons] at hbits
    have hmm : m ∈ mvs n g r true := by rw [e1]; exact List.mem_append_right _ List.mem_cons_self
    obtain ⟨hm1, hm2⟩ := (mem_mvs hn).mp hmm
    have hto := may_to hm1 hm2
    obtain ⟨y', hy', hcl, hb'⟩ := clear_eq hy hbits
    have hcx : Cls r0 (mvd r m.1 m.2) := hc.mv hr hm1 hm2
    have hup := prog_up hr hB hR hm1 hm2
    have em : mc m = 8 * m.1 + m.2 := rfl
    have esh : nI (mc m) >>> ((3 : Int32) &&& 31) = nI m.1 := by
      rw [em, n_lit 3, pk_shrN (by omega) _ 3 (sh31 3 (by decide))]
      congr 1; omega
    rw [if_neg (fun q => by have := (nI_leI (by omega) (by omega)).mp q; omega), low_eq hy hbits, cl1_s, nmv_d, hcl, esh, at_row hr.d (by rw [hr.1]; exact hn) (by omega), cl1_s, own_j _ (hr.at m.1) side]
    have hown : (decide (r.getD m.1 0 = 2) == side) = own r m.1 side := rfl
    rw [hown, jn4_d]
    have hnext : ∀ N2 s2 r2 t2 k2, GI n g r0 (Lx ++ N2) s2 r2 t2 k2 → byM n g r side = rs.find? (fun m => own r m.1 side && !Wn n g (mvd r m.1 m.2) (!side)) → ∃ N slots' rows' tsize' known', (nmv (α := Int32) (nI dn.length + 1) fun x8_28 => nx (lN y') x8_28 s2 r2 t2 k2) = some (oI ((byM n g r side).map mc), slots', rows', tsize', known') ∧ GI n g r0 (Lx ++ N) slots' rows' tsize' known' := by
      intro N2 s2 r2 t2 k2 hG2 hby2
      rw [nmv_d, nI_1]
      exact hnx _ _ _ _ _ _ ⟨dn ++ [m], rs, y', by rw [e1]; simp, by simp, rfl, hy', hb', ⟨N2, hG2⟩, hby2⟩ (by rw [nI_clamp (by omega), nI_clamp (by omega)]; omega)
    cases ho : own r m.1 side with
    | false =>
      rw [if_pos (show bI false = 0 from rfl)]
      refine hnext _ _ _ _ _ hG1 ?_
      rw [hby, List.find?_cons_of_neg (by simp [ho])]
    | true =>
      rw [if_neg (show ¬ bI true = 0 by decide), em, moved_row hr.d (by rw [hr.1]; exact hn) (by rw [hr.1]; exact hm1) (by rw [hr.1]; exact hto.1) hto.2.2.1 hto.2.1, cl1_s, nI_1]
      have es : (1 : Int32) - bI side = bI (!side) := by cases side <;> decide
      obtain ⟨N2, s2, r2, t2, k2, hh, hG2⟩ := hI1 (mvd r m.1 m.2) (!side) (dep + 1) (Lx ++ N1) s1 r1 t1 k1 hcx (by omega) (by omega) hG1
      rw [es, hh, cl5_s]
      cases hw : Wn n g (mvd r m.1 m.2) (!side) with
      | false =>
        rw [if_pos (show bI false = 0 from rfl)]
        refine ⟨N1 ++ N2, s2, r2, t2, k2, ?_, by rw [← List.append_assoc]; exact hG2⟩
        rw [hby, List.find?_cons_of_pos (by simp [ho, hw])]
        rfl
      | true =>
        rw [if_neg (show ¬ bI true = 0 by decide)]
        refine hnext (N1 ++ N2) _ _ _ _ (by rw [← List.append_assoc]; exact hG2) ?_
        rw [hby, List.find?_cons_of_neg (by simp [ho, hw])]
theorem mc_lt {n : Nat} {g : Fl} {r : Nd} {side : Bool} {m : Nat × Nat} (hn : n ≤ 7) (h : byM n g r side = some m) : mc m < 64 ∧ m.1 < n ∧ m.2 < n := by
  have hm := List.mem_of_find?_eq_some h
  obtain ⟨h1, h2⟩ := (mem_mvs hn).mp hm
  have := may_to h1 h2
  unfold mc
  omega
theorem has_eq {n : Nat} {g : Fl} {r0 : Nd} (h0 : Rw n r0) (hn : n ≤ 7) (hB : gB g = false) (hR : gR g = false) : ∀ d, HOk n g r0 d (f_X0_hasIt d)
  | 0 => fun r side dep Lx slots rows tsize known hc h1 => by have := prog_le (n := n) r hn; omega
  | d + 1 => fun r side dep Lx slots rows tsize known hc h1 h2 hG => by
    have ih := has_eq h0 hn hB hR d
    have hr := hc.rw h0
    have hp42 := prog_le (n := n) r hn
    obtain ⟨g1, g2, g3, g4, g5, g6⟩ := hG
    have hrw : enc8 r < 2097152 := row_lt hr.d (by rw [hr.1]; exact hn)
    have hL6 := card_le h0 hn g3 g4
    -- the table with the row in it
    have hmeet : ∃ (slots' rows' : A32) (i : Nat) (N : List Nd) (Ly : List Nd), Ly = Lx ++ N ∧ f_X6_meet slots rows tsize (nI (enc8 r)) = some (nI i, slots', rows', nI Ly.length) ∧ TI slots' rows' (Ly.map enc8) ∧ Ly.Nodup ∧ (∀ x ∈ Ly, Cls r0 x) ∧ Ly[i]? = some r ∧ (∀ (i : Nat) (x : Nd), Ly[i]? = some x → kn n g x (known i)) ∧ (∀ i, Ly.length ≤ i → i < 640 → known i = 0) := by
      subst g2
      by_cases hm : r ∈ Lx
      · obtain ⟨i, hi⟩ := List.getElem?_of_mem hm
        have hil := (List.getElem?_eq_some_iff.mp hi).1
        have := meet_old (i := i) (w := enc8 r) g1 (by simpa using hil) (by rw [List.getD_eq_getElem?_getD, List.getElem?_map, hi]; rfl) (by omega)
        rw [List.length_map] at this
        exact ⟨slots, rows, i, [], Lx, by rw [List.append_nil], this, g1, g3, g4, hi, g5, g6⟩
      · have hnc : enc8 r ∉ Lx.map enc8 := fun q => hm (by
          obtain ⟨x, hx, ex⟩ := List.mem_map.mp q
          have hxr := (g4 x hx).rw h0
          rw [← enc8_inj hxr.d hr.d (by rw [hxr.1, hr.1]) ex]; exact hx)
        obtain ⟨slots', rows', hme, hT⟩ := meet_new g1 hnc (by rw [List.length_map]; omega) (by omega)
        rw [List.length_map] at hme
        refine ⟨slots', rows', Lx.length, [r], Lx ++ [r], rfl, by rw [List.length_append]; exact hme, by rw [List.map_append]; exact hT, ?_, ?_, by simp, ?_, ?_⟩
        · rw [List.nodup_append]
          exact ⟨g3, by simp, fun a ha b hb e => hm (by simp at hb; rw [← hb, ← e]; exact ha)⟩
        · intro x hx
          rcases List.mem_append.mp hx with q | q
          · exact g4 x q
          · simp at q; rw [q]; exact hc
        · intro i x hx
          rcases Nat.lt_or_ge i Lx.length with q | q
          · rw [List.getElem?_append_left q] at hx; exact g5 i x hx
          · have hi2 := (List.getElem?_eq_some_iff.mp hx).1
            rw [List.length_append, List.length_singleton] at hi2
            rw [g6 i q (by omega)]
            exact kn_0 n g x
        · intro i hi
          rw [List.length_append] at hi
          exact g6 i (by omega)
    obtain ⟨slots1, rows1, i, N0, Ly, eLy, hme, hT, hnd, hcl, hi, hkn, hz⟩ := hmeet
    have hL6 := card_le h0 hn hnd hcl
    have hil := (List.getElem?_eq_some_iff.mp hi).1
    unfold f_X0_hasIt
    rw [hme, cl4_s, if_neg (show ¬ (64 : Int32) < nI dep from fun q => by have := (nI_ltI (a := 64) (by decide) (by omega)).mp q; omega), if_neg (nI_pos (by omega)), if_pos (show nI i < 640 from nI_lt (b := 640) (by omega) (by decide)), ald_in (by omega) (by decide), nmv_d]
    obtain ⟨c, hc2, hcr, hcw⟩ := kn_read (side := side) (hkn i r hi)
    rw [hcr]
    have hG1 : GI n g r0 Ly slots1 rows1 (nI Ly.length) known := ⟨hT, rfl, hnd, hcl, hkn, hz⟩
    by_cases hc0 : c = 0
    · rw [if_pos ((nI_eq0 (by omega)).mpr hc0)]
      obtain ⟨N2, s2, r2, t2, k2, hw, hG2⟩ := win_eq (side := side) h0 hn hB hR ih hc (by omega) h2 hG1
      rw [hw, cl5_s]
      obtain ⟨q1, q2, q3, q4, q5, q6⟩ := hG2
      have hi2 : (Ly ++ N2)[i]? = some r := by rw [List.getElem?_append_left hil]; exact hi
      have hWb := Wn_by (side := side) hn hB hR hr
      have hfin : ∀ b : Bool, b = Wn n g r side → ∃ N slots' rows' tsize' known', (ald 640 k2 (nI i) fun v_20 => jn1 (fun (s_22 : Int32) => astI 640 k2 (nI i) (v_20 ||| (s_22 <<< (((2 : Int32) * bI side) &&& 31))) fun known_23 => gz (bI b) fun _ => some (bI b, s2, r2, t2, known_23)) fun j102 => if bI b = 0 then j102 1 else j102 2) = some (bI (Wn n g r side), slots', rows', tsize', known') ∧ GI n g r0 (Lx ++ N) slots' rows' tsize' known' := by
        intro b hb
        have hse := kn_set (side := side) (q5 i r hi2)
        rw [ald_in (by omega) (by decide), jn1_d]
        have e3 : ∀ (F : Int32 → Option (Int32 × A32 × A32 × Int32 × A32)), (if bI b = 0 then F 1 else F 2) = F (nI (if Wn n g r side then 2 else 1)) := by
          intro F
          rw [← hb]
          cases b <;> rfl
        rw [e3 (fun s_22 => astI 640 k2 (nI i) (k2 i ||| (s_22 <<< (((2 : Int32) * bI side) &&& 31))) fun known_23 => gz (bI b) fun _ => some (bI b, s2, r2, t2, known_23)), astI_in (by omega) (by decide), gz_in (by cases b <;> simp [bI]), hb]
        refine ⟨N0 ++ N2, _, _, _, _, rfl, ?_⟩
        rw [← List.append_assoc, ← eLy]
        refine ⟨q1, q2, q3, q4, fun i2 x2 hx2 => ?_, fun i2 h3 h4 => ?_⟩
        · unfold upd
          by_cases e : i2 = i
          · rw [if_pos e]
            rw [e, hi2] at hx2
            cases hx2
            exact hse
          · rw [if_neg e]; exact q5 i2 x2 hx2
        · unfold upd
          rw [if_neg (by rw [List.length_append] at h3; omega)]
          exact q6 i2 h3 h4
      rw [jn1_d]
      cases hb : byM n g r side with
      | none =>
        rw [hb] at hWb
        rw [if_pos (show oI (Option.map mc none) = -1 from rfl)]
        exact hfin false (by rw [hWb]; rfl)
      | some m =>
        rw [hb] at hWb
        have := mc_lt hn hb
        rw [if_neg (show ¬ oI (Option.map mc (some m)) = -1 from nI_m1 (by omega))]
        exact hfin true (by rw [hWb]; rfl)
    · rw [if_neg (fun q => hc0 ((nI_eq0 (by omega)).mp q))]
      have hcc := hcw hc0
      cases hW : Wn n g r side with
      | false =>
        rw [hW, if_neg (by decide)] at hcc
        rw [hcc, if_neg (show ¬ nI 1 = 2 by decide)]
        exact ⟨N0, _, _, _, _, rfl, by rw [← eLy]; exact hG1⟩
      | true =>
        rw [hW, if_pos rfl] at hcc
        rw [hcc, if_pos (show nI 2 = 2 from rfl)]
        exact ⟨N0, _, _, _, _, rfl, by rw [← eLy]; exact hG1⟩
