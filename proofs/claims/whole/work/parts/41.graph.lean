/-! ===== walks from the other end; how many rows there are ===== -/
theorem wl_first (S : Nd → List Nd) : ∀ (k : Nat) (a : Nd), wl S (k + 1) a = (S a).flatMap (wl S k)
  | 0, a => by
    show [a].flatMap S = (S a).flatMap (fun x => [x])
    simp
  | k + 1, a => by
    show (wl S (k + 1) a).flatMap S = _
    rw [wl_first S k a, List.flatMap_assoc]
    rfl
theorem count_flat {f : Nd → List Nd} {b : Nd} : ∀ (l : List Nd), (l.flatMap f).count b = (l.map (fun x => (f x).count b)).sum
  | [] => rfl
  | y :: l => by rw [List.flatMap_cons, List.count_append, count_flat l]; rfl
theorem sum_add (f h : Nd → Nat) : ∀ (l : List Nd), (l.map (fun x => f x + h x)).sum = (l.map f).sum + (l.map h).sum
  | [] => rfl
  | y :: l => by
    rw [List.map_cons, List.sum_cons, sum_add f h l, List.map_cons, List.sum_cons, List.map_cons, List.sum_cons]; omega
theorem sum_ind (y : Nd) : ∀ (A : List Nd), (A.map (fun x => if y = x then 1 else 0)).sum = A.count y
  | [] => rfl
  | a :: A => by
    rw [List.map_cons, List.sum_cons, sum_ind y A, List.count_cons]
    by_cases h : y = a
    · simp [h]; omega
    · have h2 : ¬ a = y := fun e => h e.symm
      simp [h, h2]
theorem dbl_count (A : List Nd) : ∀ (L : List Nd), (A.map (fun x => L.count x)).sum = (L.map (fun y => A.count y)).sum
  | [] => by
    show (A.map (fun _ => 0)).sum = 0
    apply sum_zero
    intro v hv
    obtain ⟨q, -, rfl⟩ := List.mem_map.mp hv
    rfl
  | y :: L => by
    rw [List.map_cons, List.sum_cons, ← dbl_count A L, ← sum_ind y A, Nat.add_comm, ← sum_add]
    congr 1
    apply List.map_congr_left
    intro x _
    rw [List.count_cons]
    by_cases h : y = x <;> simp [h]
theorem wl_rev {S P : Nd → List Nd} {V : Nd → Prop} (hS : ∀ a, V a → ∀ x ∈ S a, V x) (hP : ∀ a, V a → ∀ x ∈ P a, V x) (hc : ∀ a b, V a → V b → (S a).count b = (P b).count a) : ∀ (k : Nat) (a b : Nd), V a → V b → (wl S k a).count b = (wl P k b).count a := by
  have hV : ∀ (k : Nat) (b : Nd), V b → ∀ y ∈ wl P k b, V y := by
    intro k
    induction k with
    | zero => intro b hb y hy; simp [wl] at hy; rw [hy]; exact hb
    | succ k ih =>
      intro b hb y hy
      obtain ⟨z, hz, hy2⟩ := List.mem_flatMap.mp (show y ∈ (wl P k b).flatMap P from hy)
      exact hP z (ih b hb z hz) y hy2
  intro k
  induction k with
  | zero =>
    intro a b _ _
    show [a].count b = [b].count a
    by_cases h : a = b
    · subst h; rfl
    · have h2 : ¬ b = a := fun e => h e.symm
      simp [h, h2]
  | succ k ih =>
    intro a b ha hb
    rw [wl_first, count_flat]
    have e1 : (S a).map (fun x => (wl S k x).count b) = (S a).map (fun x => (wl P k b).count x) := by
      apply List.map_congr_left
      intro x hx
      exact ih x b (hS a ha x hx) hb
    rw [e1, dbl_count]
    show _ = ((wl P k b).flatMap P).count a
    rw [count_flat]
    congr 1
    apply List.map_congr_left
    intro y hy
    exact hc a y ha (hV k b hb y hy)
def nxt (n : Nat) (g : Fl) (sense : Bool) (r : Nd) : List Nd := (mvs n g r sense).map (fun m => mvd r m.1 m.2)
theorem Rw.mv {n : Nat} {r : List Nat} (h : Rw n r) {f t : Nat} : Rw n (mvd r f t) := by
  refine ⟨by rw [mvd_len]; exact h.1, fun k hk => ?_⟩
  rcases List.mem_or_eq_of_mem_set hk with h1 | h1
  · rcases List.mem_or_eq_of_mem_set h1 with h2 | h2
    · exact h.2 k h2
    · omega
  · rw [h1]; exact h.at f
theorem bes_rev {n s p : Nat} {ring d : Bool} (hn : 3 ≤ n) (hs : s < n) (h : bes n ring s d = some p) : bes n ring p (!d) = some s := by
  unfold bes at h ⊢
  cases d <;> simp only [Bool.not_true, Bool.not_false, Bool.false_eq_true, if_false, if_true] at h ⊢
  · split at h
    · cases h; rw [if_pos (by omega)]; congr 1; omega
    · split at h
      · rename_i hr; cases h; rw [if_neg (by omega), hr]; simp; omega
      · cases h
  · split at h
    · cases h; rw [if_pos (by omega)]; congr 1
    · split at h
      · rename_i hr; cases h; rw [if_neg (by omega), hr]; simp; omega
      · cases h
theorem bes_ne {n s p : Nat} {ring d : Bool} (hn : 3 ≤ n) (hs : s < n) (h : bes n ring s d = some p) : p ≠ s := by
  unfold bes at h
  cases d <;> simp only [Bool.false_eq_true, if_false, if_true] at h
  · split at h
    · cases h; omega
    · split at h
      · cases h; omega
      · cases h
  · split at h
    · cases h; omega
    · split at h
      · cases h; omega
      · cases h
theorem bes_ne2 {n s p q : Nat} {ring d : Bool} (hn : 3 ≤ n) (hs : s < n) (h : bes n ring s d = some p) (h2 : bes n ring p d = some q) : q ≠ s := by
  unfold bes at h h2
  cases d <;> simp only [Bool.false_eq_true, if_false, if_true] at h h2
  · split at h
    · cases h
      split at h2
      · cases h2; omega
      · split at h2
        · cases h2; omega
        · cases h2
    · split at h
      · cases h
        rw [if_pos (by omega)] at h2
        cases h2; omega
      · cases h
  · split at h
    · cases h
      split at h2
      · cases h2; omega
      · split at h2
        · cases h2; omega
        · cases h2
    · split at h
      · cases h
        rw [if_pos (by omega)] at h2
        cases h2; omega
      · cases h
/-- a move undone passes the same stones the other way -/
theorem land_rev {n : Nat} {g : Fl} {r : List Nat} {f t : Nat} {d : Bool} (hr : Rw n r) (hn : 3 ≤ n) (hf : f < n) (h0 : r.getD f 0 ≠ 0) (h : land n g r f d = some t) : land n g (mvd r f t) t (!d) = some f := by
  have hlt := lnd_lt hf h
  have hfl : f < r.length := by rw [hr.1]; exact hf
  have htl : t < r.length := by rw [hr.1]; exact hlt.1
  have hft : f ≠ t := fun e => h0 (by rw [e]; exact hlt.2)
  have at1 : ∀ j, (mvd r f t).getD j 0 = if j = t then r.getD f 0 else if j = f then 0 else r.getD j 0 := fun j => mvd_at hfl htl
  unfold land at h ⊢
  have ek : (mvd r f t).getD t 0 = r.getD f 0 := by rw [at1, if_pos rfl]
  have ef : (mvd r f t).getD f 0 = 0 := by rw [at1, if_neg hft, if_pos rfl]
  rw [ek]
  generalize hk : r.getD f 0 = k at h h0 ⊢
  have hm2 : mover g k ≤ 2 := by
    unfold mover
    split
    · omega
    · split <;> omega
  generalize mover g k = c at h hm2 ⊢
  have one : ∀ {c q}, bes n (gR g) q (!d) = some f → lnd n (gA g) (gR g) (mvd r f t) k (!d) c q = some f := by
    intro c q hb
    cases c <;> simp only [lnd, hb, ef, if_true]
  have step : ∀ {c q q'}, bes n (gR g) q (!d) = some q' → (mvd r f t).getD q' 0 ≠ 0 → ovr (gA g) k ((mvd r f t).getD q' 0) = true → lnd n (gA g) (gR g) (mvd r f t) k (!d) (c + 1) q = lnd n (gA g) (gR g) (mvd r f t) k (!d) c q' := by
    intro c q q' hb h1 h2
    show (match bes n (gR g) q (!d) with | none => none | some q => _) = _
    rw [hb]
    dsimp only
    rw [if_neg h1, if_pos h2]
  cases hb1 : bes n (gR g) f d with
  | none => cases c <;> simp [lnd, hb1] at h
  | some p1 =>
    have hp1 := bes_lt hf hb1
    have b1 := bes_rev hn hf hb1
    have n1 := bes_ne hn hf hb1
    by_cases hz1 : r.getD p1 0 = 0
    · have : t = p1 := by cases c <;> simp only [lnd, hb1, hz1, if_true] at h <;> cases h <;> rfl
      rw [this] at one ⊢
      exact one b1
    · cases c with
      | zero => simp only [lnd, hb1, hz1, if_false] at h; cases h
      | succ c =>
        simp only [lnd, hb1, hz1, if_false] at h
        split at h
        · rename_i ho1
          have e1 : (mvd r f t).getD p1 0 = r.getD p1 0 := by
            rw [at1, if_neg (fun e => hz1 (by rw [e]; exact hlt.2)), if_neg n1]
          cases hb2 : bes n (gR g) p1 d with
          | none => cases c <;> simp [lnd, hb2] at h
          | some p2 =>
            have hp2 := bes_lt hp1 hb2
            have b2 := bes_rev hn hp1 hb2
            have n2 := bes_ne2 hn hf hb1 hb2
            by_cases hz2 : r.getD p2 0 = 0
            · have : t = p2 := by cases c <;> simp only [lnd, hb2, hz2, if_true] at h <;> cases h <;> rfl
              rw [this] at step one e1 ⊢
              rw [step b2 (by rw [e1]; exact hz1) (by rw [e1]; exact ho1)]
              exact one b1
            · cases c with
              | zero => simp only [lnd, hb2, hz2, if_false] at h; cases h
              | succ c =>
                simp only [lnd, hb2, hz2, if_false] at h
                split at h
                · rename_i ho2
                  have e2 : (mvd r f t).getD p2 0 = r.getD p2 0 := by
                    rw [at1, if_neg (fun e => hz2 (by rw [e]; exact hlt.2)), if_neg n2]
                  have hc0 : c = 0 := by omega
                  subst hc0
                  cases hb3 : bes n (gR g) p2 d with
                  | none => simp [lnd, hb3] at h
                  | some p3 =>
                    have b3 := bes_rev hn hp2 hb3
                    by_cases hz3 : r.getD p3 0 = 0
                    · have : t = p3 := by simp only [lnd, hb3, hz3, if_true] at h; cases h; rfl
                      rw [this] at step one e1 e2 ⊢
                      rw [step b3 (by rw [e2]; exact hz2) (by rw [e2]; exact ho2), step b2 (by rw [e1]; exact hz1) (by rw [e1]; exact ho1)]
                      exact one b1
                    · simp only [lnd, hb3, hz3, if_false] at h; cases h
                · cases h
        · cases h
theorem mvd_back {n : Nat} {r : List Nat} {f t : Nat} (hr : r.length = n) (hf : f < n) (ht : t < n) (hft : f ≠ t) (h0 : r.getD t 0 = 0) : mvd (mvd r f t) t f = r := by
  have hfl : f < r.length := by omega
  have htl : t < r.length := by omega
  apply List.ext_getElem?
  intro i
  have hl : (mvd (mvd r f t) t f).length = r.length := by rw [mvd_len, mvd_len]
  rcases Nat.lt_or_ge i r.length with q | q
  · have h1 : (mvd (mvd r f t) t f).getD i 0 = r.getD i 0 := by
      rw [mvd_at (by rw [mvd_len]; exact htl) (by rw [mvd_len]; exact hfl), mvd_at hfl htl, mvd_at hfl htl, if_pos rfl]
      by_cases e1 : i = f
      · rw [if_pos e1, e1]
      · rw [if_neg e1]
        by_cases e2 : i = t
        · rw [if_pos e2, e2, h0]
        · rw [if_neg e2, if_neg e2, if_neg e1]
    rw [List.getD_eq_getElem?_getD, List.getD_eq_getElem?_getD, List.getElem?_eq_getElem (by omega), List.getElem?_eq_getElem q] at h1
    rw [List.getElem?_eq_getElem (by omega), List.getElem?_eq_getElem q]
    exact congrArg some h1
  · rw [List.getElem?_eq_none_iff.mpr (by omega), List.getElem?_eq_none_iff.mpr q]
theorem may_rev {n : Nat} {g : Fl} {r : List Nat} {f t : Nat} {sense : Bool} (hr : Rw n r) (hn : 3 ≤ n) (hf : f < n) (h : may n g r sense f t = true) : may n g (mvd r f t) (!sense) t f = true := by
  obtain ⟨ht, hz, hft, -⟩ := may_to hf h
  obtain ⟨h0, h3, h4⟩ := may_iff.mp h
  have ek : (mvd r f t).getD t 0 = r.getD f 0 := by rw [mvd_at (by rw [hr.1]; exact hf) (by rw [hr.1]; exact ht), if_pos rfl]
  apply may_iff.mpr
  rw [ek]
  refine ⟨h0, h3, ?_⟩
  have e : fwd (r.getD f 0) (!sense) = !fwd (r.getD f 0) sense := by unfold fwd; split <;> simp
  rw [e, Bool.not_not]
  rcases h4 with h4 | ⟨hb, h4⟩
  · exact Or.inl (land_rev hr hn hf h0 h4)
  · refine Or.inr ⟨hb, ?_⟩
    have := land_rev hr hn hf h0 h4
    rw [Bool.not_not] at this; exact this
theorem mem_nxt {n : Nat} {g : Fl} {sense : Bool} {r x : Nd} (hn : n ≤ 7) : x ∈ nxt n g sense r ↔ ∃ f t, f < n ∧ may n g r sense f t = true ∧ x = mvd r f t := by
  unfold nxt
  rw [List.mem_map]
  constructor
  · rintro ⟨m, hm, rfl⟩
    have := (mem_mvs hn).mp hm
    exact ⟨m.1, m.2, this.1, this.2, rfl⟩
  · rintro ⟨f, t, h1, h2, rfl⟩
    exact ⟨(f, t), (mem_mvs hn).mpr ⟨h1, h2⟩, rfl⟩
theorem mvd_inj {n : Nat} {r : List Nat} {f t f' t' : Nat} (hr : r.length = n) (hf : f < n) (ht : t < n) (hf' : f' < n) (ht' : t' < n) (h0 : r.getD f 0 ≠ 0) (h1 : r.getD t 0 = 0) (h0' : r.getD f' 0 ≠ 0) (h1' : r.getD t' 0 = 0) (e : mvd r f t = mvd r f' t') : f = f' ∧ t = t' := by
  have a1 := fun j => mvd_at (r := r) (f := f) (t := t) (j := j) (by omega) (by omega)
  have a2 := fun j => mvd_at (r := r) (f := f') (t := t') (j := j) (by omega) (by omega)
  have hft : f ≠ t := fun q => h0 (by rw [q]; exact h1)
  have hft' : f' ≠ t' := fun q => h0' (by rw [q]; exact h1')
  constructor
  · apply Classical.byContradiction
    intro hne
    have h := a1 f
    rw [e, a2 f, if_neg (fun q => h0 (by rw [q]; exact h1')), if_neg hne, if_neg hft, if_pos rfl] at h
    exact h0 h
  · apply Classical.byContradiction
    intro hne
    have h := a1 t
    rw [e, a2 t, if_neg hne, if_neg (fun q => h0' (by rw [← q]; exact h1)), if_pos rfl] at h
    exact h0 (by rw [← h]; exact h1)
theorem nxt_nodup {n : Nat} {g : Fl} {sense : Bool} {r : Nd} (hr : Rw n r) (hn : n ≤ 7) : (nxt n g sense r).Nodup := by
  unfold nxt
  have h := mvs_nodup (g := g) (r := r) (sense := sense) hn
  have h2 : (mvs n g r sense).Pairwise (fun a b => mvd r a.1 a.2 ≠ mvd r b.1 b.2) := by
    refine List.Pairwise.imp_of_mem (fun {a b} ha hb hab e => hab ?_) h
    have ma := (mem_mvs hn).mp ha
    have mb := (mem_mvs hn).mp hb
    have ta := may_to ma.1 ma.2
    have tb := may_to mb.1 mb.2
    obtain ⟨q1, q2⟩ := mvd_inj hr.1 ma.1 ta.1 mb.1 tb.1 ta.2.2.2 ta.2.1 tb.2.2.2 tb.2.1 e
    exact Prod.ext q1 q2
  exact List.pairwise_map.mpr h2
theorem nxt_rw {n : Nat} {g : Fl} {sense : Bool} {r x : Nd} (hr : Rw n r) (hn : n ≤ 7) (h : x ∈ nxt n g sense r) : Rw n x := by
  obtain ⟨f, t, -, -, rfl⟩ := (mem_nxt hn).mp h
  exact hr.mv
theorem nxt_mem_rev {n : Nat} {g : Fl} {sense : Bool} {a b : Nd} (ha : Rw n a) (h3 : 3 ≤ n) (hn : n ≤ 7) (h : b ∈ nxt n g sense a) : a ∈ nxt n g (!sense) b := by
  obtain ⟨f, t, hf, hm, rfl⟩ := (mem_nxt hn).mp h
  have ht := may_to hf hm
  exact (mem_nxt hn).mpr ⟨t, f, ht.1, may_rev ha h3 hf hm, (mvd_back ha.1 hf ht.1 ht.2.2.1 ht.2.1).symm⟩
theorem nxt_count {n : Nat} {g : Fl} (h3 : 3 ≤ n) (hn : n ≤ 7) (sense : Bool) (a b : Nd) (ha : Rw n a) (hb : Rw n b) : (nxt n g sense a).count b = (nxt n g (!sense) b).count a := by
  by_cases h : b ∈ nxt n g sense a
  · rw [(nxt_nodup ha hn).count, if_pos h, (nxt_nodup hb hn).count, if_pos (nxt_mem_rev ha h3 hn h)]
  · have h2 : a ∉ nxt n g (!sense) b := fun q => h (by
      have := nxt_mem_rev hb h3 hn q
      rw [Bool.not_not] at this; exact this)
    rw [List.count_eq_zero.mpr h, List.count_eq_zero.mpr h2]
theorem walks_rev {n : Nat} {g : Fl} (h3 : 3 ≤ n) (hn : n ≤ 7) (sense : Bool) (k : Nat) (a b : Nd) (ha : Rw n a) (hb : Rw n b) : (wl (nxt n g sense) k a).count b = (wl (nxt n g (!sense)) k b).count a :=
  wl_rev (V := Rw n) (fun a ha x hx => nxt_rw ha hn hx) (fun a ha x hx => nxt_rw ha hn hx) (fun a b ha hb => nxt_count h3 hn sense a b ha hb) k a b ha hb
