/-! ===== fewest, ways ===== -/
theorem zf_0 (n : Nat) (g : Fl) (sense : Bool) (s : Nd) : (zf n g sense s).1[0]? = some (s, 0) := by
  obtain ⟨N, h⟩ := bz_pre (nxt n g sense) s 0 640
  unfold zf
  rw [Nat.zero_add] at h
  rw [h]; rfl
theorem mvp_pt {n : Nat} {g : Fl} {r : Nd} {f t : Nat} : ∀ s, t ≤ s → ∃ b, mvp n g r f s = mvp n g r f t ++ b
  | 0, h => ⟨[], by rw [show t = 0 by omega, List.append_nil]⟩
  | s + 1, h => by
    by_cases q : t = s + 1
    · exact ⟨[], by rw [q, List.append_nil]⟩
    · obtain ⟨b, e⟩ := mvp_pt (n := n) (g := g) (r := r) (f := f) (t := t) s (by omega)
      rw [mvp_t, e]
      exact ⟨_, List.append_assoc _ _ _⟩
theorem mvp_pf {n : Nat} {g : Fl} {r : Nd} {f : Nat} : ∀ e, f ≤ e → ∃ b, mvp n g r e 0 = mvp n g r f 0 ++ b
  | 0, h => ⟨[], by rw [show f = 0 by omega, List.append_nil]⟩
  | e + 1, h => by
    by_cases q : f = e + 1
    · exact ⟨[], by rw [q, List.append_nil]⟩
    · obtain ⟨b, h1⟩ := mvp_pf (n := n) (g := g) (r := r) (f := f) e (by omega)
      obtain ⟨c, h2⟩ := mvp_pt (n := n) (g := g) (r := r) (f := e) (t := 0) n (Nat.zero_le _)
      rw [← mvp_f, h2, h1, List.append_assoc]
      exact ⟨_, rfl⟩
theorem mvp_pre {n : Nat} {g : Fl} {r : Nd} {f t : Nat} (hn : n ≤ 7) (hf : f < n) (ht : t ≤ n) : ∃ b, mvs n g r true = mvp n g r f t ++ b := by
  obtain ⟨a, h1⟩ := mvp_pt (n := n) (g := g) (r := r) (f := f) (t := t) n ht
  obtain ⟨b, h2⟩ := mvp_pf (n := n) (g := g) (r := r) (f := f + 1) n hf
  rw [← mvp_all hn, h2, ← mvp_f, h1, List.append_assoc]
  exact ⟨_, rfl⟩
/-- the first move that tells, when it is come to in the reference's order -/
theorem mvp_hit {n : Nat} {g : Fl} {r : Nd} {f t : Nat} {p : Nat × Nat → Bool} (hn : n ≤ 7) (hf : f < n) (ht : t < n) (hm : may n g r true f t = true) (hno : ∀ m ∈ mvp n g r f t, p m = false) (hp : p (f, t) = true) : (mvs n g r true).find? p = some (f, t) := by
  obtain ⟨b, h⟩ := mvp_pre (g := g) (r := r) (f := f) (t := t + 1) hn hf ht
  rw [h, mvp_t, if_pos hm, List.append_assoc, List.find?_append]
  have : (mvp n g r f t).find? p = none := List.find?_eq_none.mpr (fun x hx => by rw [hno x hx]; decide)
  rw [this]
  show (([(f, t)] ++ b).find? p) = _
  show ((f, t) :: b).find? p = _
  rw [List.find?_cons_of_pos hp]
theorem mvp_no {n : Nat} {g : Fl} {r : Nd} {p : Nat × Nat → Bool} (hn : n ≤ 7) (hno : ∀ m ∈ mvp n g r n 0, p m = false) : (mvs n g r true).find? p = none := by
  rw [← mvp_all hn]
  exact List.find?_eq_none.mpr (fun x hx => by rw [hno x hx]; decide)
theorem mvp_stay {n : Nat} {g : Fl} {r : Nd} {f t : Nat} {p : Nat × Nat → Bool} (hno : ∀ m ∈ mvp n g r f t, p m = false) (h : may n g r true f t = true → p (f, t) = false) : ∀ m ∈ mvp n g r f (t + 1), p m = false := by
  intro m hm
  rw [mvp_t] at hm
  rcases List.mem_append.mp hm with q | q
  · exact hno m q
  · by_cases w : may n g r true f t = true
    · rw [if_pos w] at q
      rw [List.mem_singleton.mp q]; exact h w
    · rw [if_neg w] at q; simp at q
/-- the first of the fewest moves -/
def fwP (n : Nat) (g : Fl) (r go : Nd) (d : Nat) (m : Nat × Nat) : Bool := decide (dOf (zf n g true (mvd r m.1 m.2)) go = some d)
def fwM (n : Nat) (g : Fl) (r go : Nd) : Option (Nat × Nat) := match dOf (zf n g true r) go with
  | some (d + 1) => (mvs n g r true).find? (fwP n g r go d)
  | _ => none
def ptO (o : Option (Nat × Nat)) (b : Bool) : Int32 := match o with
  | some m => if b then nI m.1 else nI m.2
  | none => -1
def fewV (n : Nat) (g : Fl) (r go : Nd) (w : Nat) : Int32 := if w = 0 then oI (dOf (zf n g true r) go) else ptO (fwM n g r go) (decide (w = 1))
theorem oI_inj {a b : Option Nat} (ha : ∀ k, a = some k → k < 2 ^ 31) (hb : ∀ k, b = some k → k < 2 ^ 31) : oI a = oI b ↔ a = b := by
  constructor
  · intro h
    cases a with
    | none =>
      cases b with
      | none => rfl
      | some k => exact absurd h.symm (nI_m1 (hb k rfl))
    | some j =>
      cases b with
      | none => exact absurd h (nI_m1 (ha j rfl))
      | some k => rw [(nI_eq (ha j rfl) (hb k rfl)).mp h]
  · intro h; rw [h]
theorem dOf_lt {n : Nat} {g : Fl} {sense : Bool} {s x : Nd} {d : Nat} (hs : Rw n s) (hn : n ≤ 7) (h : dOf (zf n g sense s) x = some d) : d < 1000 := by
  obtain ⟨i, hi⟩ := List.getElem?_of_mem ((dOf_some zf_nd).mp h)
  have h1 := bz_len (g := g) (sense := sense) hs hn 640
  have h2 : i < (zf n g sense s).1.length := (List.getElem?_eq_some_iff.mp hi).1
  have h3 : ∃ (slots rows : A32) (tsize : Int32) (depths ways : A32), SR n s slots rows tsize depths ways (zf n g sense s) := by
    obtain ⟨a, b, c, e, f, -, h⟩ := spread_all (g := g) (sense := sense) (slots := fun _ => 0) (rows := fun _ => 0) (tsize := 0) (depths := fun _ => 0) (ways := fun _ => 0) (st0 := 0) (so0 := 0) hs hn
    exact ⟨_, _, _, _, _, h⟩
  obtain ⟨_, _, _, _, _, h4⟩ := h3
  have := h4.2.2.2.2.2.2.1 i _ hi
  have h5 : (zf n g sense s).1.length ≤ 630 := h1
  have h6 : d ≤ i := this
  omega
theorem mvs_len {n : Nat} {g : Fl} {r : Nd} {sense : Bool} (hn : n ≤ 7) : (mvs n g r sense).length ≤ 64 := by
  have h1 : (bitsOf (mask n g r sense)).length ≤ 64 := by
    unfold bitsOf
    have := List.length_filter_le (fun i => (mask n g r sense).testBit i) (List.range 64)
    rwa [List.length_range] at this
  rwa [mask_bits hn, List.length_map] at h1
theorem mv_ok {n : Nat} {g : Fl} {r : Nd} {m : Nat × Nat} (hn : n ≤ 7) (hm : m ∈ mvs n g r true) : m.1 < n ∧ m.2 < n ∧ m.1 ≠ m.2 ∧ r.getD m.2 0 = 0 ∧ may n g r true m.1 m.2 = true := by
  obtain ⟨h1, h2⟩ := (mem_mvs hn).mp hm
  have h3 := may_to h1 h2
  exact ⟨h1, h3.1, h3.2.2.1, h3.2.1, h2⟩
theorem moved_mc {n : Nat} {r : Nd} {m : Nat × Nat} (hr : Rw n r) (hn : n ≤ 7) (h1 : m.1 < n) (h2 : m.2 < n) (h3 : m.1 ≠ m.2) (h4 : r.getD m.2 0 = 0) : f_X3_moved (nI (enc8 r)) (nI (mc m)) = some (nI (enc8 (mvd r m.1 m.2))) := moved_row hr.d (by rw [hr.1]; exact hn) (by rw [hr.1]; exact h1) (by rw [hr.1]; exact h2) h3 h4
theorem partOf_eq {n : Nat} (hn : n ≤ 7) {o : Option (Nat × Nat)} (ho : ∀ m, o = some m → m.1 < n ∧ m.2 < n) {q : Int32} : f_X7_partOfMove (oI (o.map mc)) q = some (ptO o (decide (q = 0))) := by
  unfold f_X7_partOfMove
  cases o with
  | none => rw [if_pos (show oI (Option.map mc none) = -1 from rfl)]; rfl
  | some m =>
    have h := ho m rfl
    have hmc : mc m < 64 := by show 8 * m.1 + m.2 < 64; omega
    have e := mc_shr (m := m) (by omega) (by omega)
    rw [if_neg (show ¬ oI (Option.map mc (some m)) = -1 from nI_m1 (by omega)), show oI (Option.map mc (some m)) = nI (mc m) from rfl, e.1, e.2]
    by_cases q0 : q = 0
    · rw [if_pos q0, decide_eq_true q0]; rfl
    · rw [if_neg q0, decide_eq_false q0]; rfl
section
variable {n : Nat} {g : Fl} {r go : Nd} {ts tr : A32} {tz : Int32} {td tw : A32}
theorem firstF_eq (h3 : 3 ≤ n) (hn : n ≤ 7) (hr : Rw n r) (hg : Rw n go) (hS : SR n go ts tr tz td tw (zf n g false go)) : f_X7_firstOfFewest (nI n) (bI (gA g)) (bI (gB g)) (bI (gR g)) (bI (gT g)) (nI (enc8 r)) ts tr td = some (oI ((fwM n g r go).map mc)) := by
  unfold f_X7_firstOfFewest fwM
  rw [(hS.depth hr).1, cl1_s, rev_d h3 hn hr hg]
  cases hD : dOf (zf n g true r) go with
  | none => rw [if_neg (show ¬ (0 : Int32) < oI none by decide)]; rfl
  | some d =>
    have hd := dOf_lt hr hn hD
    cases d with
    | zero => rw [if_neg (show ¬ (0 : Int32) < oI (some 0) by decide)]; rfl
    | succ d =>
      rw [if_pos (show (0 : Int32) < oI (some (d + 1)) from nI_lt (a := 0) (by omega) (by omega)), show (1 : Int32) = dI true from rfl, allMoves_eq hr hn, cl1_s, show dI true = (1 : Int32) from rfl, bitCount_eq (mask_lt hn), cl1_s, mask_bits hn, List.length_map]
      dsimp only
      have hml := mvs_len (g := g) (r := r) (sense := true) hn
      refine lp2_0_inv (fun x5 x8 => ∃ dn rs y, mvs n g r true = dn ++ rs ∧ x8 = nI dn.length ∧ x5 = lN y ∧ y < 2 ^ 64 ∧ bitsOf y = rs.map mc ∧ (mvs n g r true).find? (fwP n g r go d) = rs.find? (fwP n g r go d)) (fun _ x8 => 64 - x8.toNatClampNeg) (fun o => o = some (oI (((mvs n g r true).find? (fwP n g r go d)).map mc))) ?_ fuel _ _ ⟨[], mvs n g r true, _, rfl, rfl, rfl, mask_lt hn, mask_bits hn, rfl⟩ (fuel_gt (by omega))
      intro x5 x8 nx ⟨dn, rs, y, e1, e8, e5, hy, hbits, hby⟩ hnx
      subst e8; subst e5
      have hl2 : (mvs n g r true).length = dn.length + rs.length := by rw [e1, List.length_append]
      cases rs with
      | nil =>
        rw [if_pos (nI_le (by rw [hl2]; simp) (by omega)), hby]; rfl
      | cons m rs =>
        rw [List.length_cons] at hl2
        rw [List.map_cons] at hbits
        obtain ⟨m1, m2, m3, m4, m5⟩ := mv_ok hn (show m ∈ mvs n g r true by rw [e1]; exact List.mem_append_right _ List.mem_cons_self)
        obtain ⟨y', hy', hcl, hb'⟩ := clear_eq hy hbits
        rw [if_neg (fun q => by have := (nI_leI (by omega) (by omega)).mp q; omega), low_eq hy hbits, cl1_s, nmv_d, hcl, moved_mc hr hn m1 m2 m3 m4, cl1_s, (hS.depth (hr.mv (f := m.1) (t := m.2))).1, cl1_s, rev_d h3 hn hr.mv hg, show oI (some (d + 1)) - 1 = oI (some d) from nI_pred d]
        have hiff := oI_inj (a := dOf (zf n g true (mvd r m.1 m.2)) go) (b := some d) (fun k hk => by have := dOf_lt hr.mv hn hk; omega) (fun k hk => by cases hk; omega)
        by_cases q : dOf (zf n g true (mvd r m.1 m.2)) go = some d
        · rw [if_pos (hiff.mpr q), hby, List.find?_cons_of_pos (by unfold fwP; exact decide_eq_true q)]; rfl
        · rw [if_neg (fun w => q (hiff.mp w)), nmv_d, nI_1]
          rw [List.find?_cons_of_neg (by unfold fwP; rw [decide_eq_false q]; decide)] at hby
          exact hnx _ _ ⟨dn ++ [m], rs, y', by rw [e1]; simp, by simp, rfl, hy', hb', hby⟩ (by rw [nI_clamp (by omega), nI_clamp (by omega)]; omega)
theorem fwM_ok (hn : n ≤ 7) {m : Nat × Nat} (h : fwM n g r go = some m) : m.1 < n ∧ m.2 < n := by
  unfold fwM at h
  split at h
  · have := mv_ok hn (List.mem_of_find?_eq_some h)
    exact ⟨this.1, this.2.1⟩
  · cases h
theorem fewestX_eq (h3 : 3 ≤ n) (hn : n ≤ 7) (hr : Rw n r) (hg : Rw n go) (hS : SR n go ts tr tz td tw (zf n g false go)) {w : Nat} (hw : w < 3) : f_X7_fewest (nI n) (bI (gA g)) (bI (gB g)) (bI (gR g)) (bI (gT g)) (nI (enc8 r)) ts tr td (nI w) = some (fewV n g r go w) := by
  unfold f_X7_fewest fewV
  rw [if_neg (nI_pos (by omega)), if_pos (show nI w ≤ 2 from nI_le (b := 2) (by omega) (by decide)), hasBrook_eq hn, cl1_s, if_neg (show ¬ bI (decide (0 < n)) = 0 by rw [decide_eq_true (by omega)]; decide)]
  cases w with
  | zero => rw [if_pos (show nI 0 = 0 from rfl), if_pos rfl, (hS.depth hr).1, cl1_s, rev_d h3 hn hr hg]
  | succ w =>
    rw [if_neg (nI_ne0 (by omega) (by omega)), if_neg (by omega), firstF_eq h3 hn hr hg hS, cl1_s, nI_pred, partOf_eq hn (fun m hm => fwM_ok hn hm), cl1_s]
    have : decide (nI w = 0) = decide (w + 1 = 1) := by
      by_cases q : w = 0
      · rw [q]; rfl
      · rw [decide_eq_false (nI_ne0 (by omega) (by omega)), decide_eq_false (by omega)]
    rw [this]
theorem waysX_eq (h3 : 3 ≤ n) (hn : n ≤ 7) (hr : Rw n r) (hg : Rw n go) (hS : SR n go ts tr tz td tw (zf n g false go)) : f_X7_ways (nI n) (nI (enc8 r)) ts tr tw = some (nI ((zf n g true r).2 go)) := by
  unfold f_X7_ways
  rw [hasBrook_eq hn, cl1_s, if_neg (show ¬ bI (decide (0 < n)) = 0 by rw [decide_eq_true (by omega)]; decide), (hS.depth hr).2, cl1_s, rev_w h3 hn hr hg]
end
