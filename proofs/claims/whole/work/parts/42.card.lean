/-! ===== how many rows the frogs of one brook can stand in ===== -/
def NN : Nat → Nat → Nat → Nat → Nat → Nat
  | 0, _, _, _, _ => 1
  | m + 1, a, b, c, d => (if 0 < a then NN m (a - 1) b c d else 0) + ((if 0 < b then NN m a (b - 1) c d else 0) + ((if 0 < c then NN m a b (c - 1) d else 0) + (if 0 < d then NN m a b c (d - 1) else 0)))
theorem NN_all : (List.range 8).all (fun a => (List.range (8 - a)).all (fun b => (List.range (8 - a - b)).all (fun c => (List.range (8 - a - b - c)).all (fun d => decide (NN (a + b + c + d) a b c d ≤ 630))))) = true := by decide +kernel
theorem NN_le {a b c d : Nat} (h : a + b + c + d ≤ 7) : NN (a + b + c + d) a b c d ≤ 630 := by
  have h0 := NN_all
  rw [List.all_eq_true] at h0
  have h1 := h0 a (List.mem_range.mpr (by omega))
  rw [List.all_eq_true] at h1
  have h2 := h1 b (List.mem_range.mpr (by omega))
  rw [List.all_eq_true] at h2
  have h3 := h2 c (List.mem_range.mpr (by omega))
  rw [List.all_eq_true] at h3
  have h4 := h3 d (List.mem_range.mpr (by omega))
  exact of_decide_eq_true h4
def enR : List Nat → Nat → Nat → Nat → Nat → List Nd
  | [], _, _, _, _ => [[]]
  | k :: r, a, b, c, d => if k = 3 then (enR r a b c d).map (fun x => 3 :: x) else
    (if 0 < a then (enR r (a - 1) b c d).map (fun x => 0 :: x) else []) ++ ((if 0 < b then (enR r a (b - 1) c d).map (fun x => 1 :: x) else []) ++ ((if 0 < c then (enR r a b (c - 1) d).map (fun x => 2 :: x) else []) ++ (if 0 < d then (enR r a b c (d - 1)).map (fun x => 4 :: x) else [])))
theorem enR_len : ∀ (r : List Nat) (a b c d : Nat), (enR r a b c d).length ≤ NN (r.countP (· != 3)) a b c d
  | [], _, _, _, _ => Nat.le_refl _
  | k :: r, a, b, c, d => by
    by_cases h : k = 3
    · subst h
      unfold enR
      rw [if_pos rfl, List.length_map, List.countP_cons_of_neg (by decide)]
      exact enR_len r a b c d
    · unfold enR
      rw [if_neg h, List.countP_cons_of_pos (by simpa using h), List.length_append, List.length_append, List.length_append]
      show _ ≤ (if 0 < a then _ else 0) + ((if 0 < b then _ else 0) + ((if 0 < c then _ else 0) + (if 0 < d then _ else 0)))
      have g : ∀ {p : Prop} [Decidable p] {X : List Nd} {Y : Nat}, (p → X.length ≤ Y) → (if p then X else []).length ≤ if p then Y else 0 := by
        intro p _ X Y hp
        by_cases q : p
        · rw [if_pos q, if_pos q]; exact hp q
        · rw [if_neg q, if_neg q]; exact Nat.le_refl _
      refine Nat.add_le_add (g fun _ => ?_) (Nat.add_le_add (g fun _ => ?_) (Nat.add_le_add (g fun _ => ?_) (g fun _ => ?_))) <;> rw [List.length_map] <;> exact enR_len _ _ _ _ _
/-- x stands as r may come to stand: the toads where they were, of each kind as many -/
def Cls (r x : Nd) : Prop := x.length = r.length ∧ (∀ k ∈ x, k ≤ 4) ∧ (∀ i : Nat, x[i]? = some 3 ↔ r[i]? = some 3) ∧ x.count 0 = r.count 0 ∧ x.count 1 = r.count 1 ∧ x.count 2 = r.count 2 ∧ x.count 4 = r.count 4
theorem enR_mem : ∀ (r x : List Nat), x.length = r.length → (∀ k ∈ x, k ≤ 4) → (∀ i : Nat, x[i]? = some 3 ↔ r[i]? = some 3) → x ∈ enR r (x.count 0) (x.count 1) (x.count 2) (x.count 4)
  | [], [], _, _, _ => List.mem_cons_self
  | [], _ :: _, h, _, _ => by simp at h
  | _ :: _, [], h, _, _ => by simp at h
  | k :: r, y :: x, h, h4, h3 => by
    have ih := enR_mem r x (by simpa using h) (fun z hz => h4 z (List.mem_cons_of_mem _ hz)) (fun i => by simpa using h3 (i + 1))
    have hy := h4 y List.mem_cons_self
    have h30 := h3 0
    simp at h30
    unfold enR
    by_cases hk : k = 3
    · have hy3 : y = 3 := h30.mpr hk
      subst hy3
      rw [if_pos hk, List.count_cons_of_ne (by decide), List.count_cons_of_ne (by decide), List.count_cons_of_ne (by decide), List.count_cons_of_ne (by decide)]
      exact List.mem_map.mpr ⟨x, ih, rfl⟩
    · have hy3 : y ≠ 3 := fun e => hk (h30.mp e)
      rw [if_neg hk]
      rcases (show y = 0 ∨ y = 1 ∨ y = 2 ∨ y = 4 by omega) with e | e | e | e <;> subst e
      · rw [List.count_cons_self, List.count_cons_of_ne (by decide), List.count_cons_of_ne (by decide), List.count_cons_of_ne (by decide), if_pos (Nat.succ_pos _)]
        exact List.mem_append_left _ (List.mem_map.mpr ⟨x, ih, rfl⟩)
      · rw [List.count_cons_self, List.count_cons_of_ne (by decide), List.count_cons_of_ne (by decide), List.count_cons_of_ne (by decide), if_pos (Nat.succ_pos (List.count 1 x))]
        exact List.mem_append_right _ (List.mem_append_left _ (List.mem_map.mpr ⟨x, ih, rfl⟩))
      · rw [List.count_cons_self, List.count_cons_of_ne (by decide), List.count_cons_of_ne (by decide), List.count_cons_of_ne (by decide), if_pos (Nat.succ_pos (List.count 2 x))]
        exact List.mem_append_right _ (List.mem_append_right _ (List.mem_append_left _ (List.mem_map.mpr ⟨x, ih, rfl⟩)))
      · rw [List.count_cons_self, List.count_cons_of_ne (by decide), List.count_cons_of_ne (by decide), List.count_cons_of_ne (by decide), if_pos (Nat.succ_pos (List.count 4 x))]
        exact List.mem_append_right _ (List.mem_append_right _ (List.mem_append_right _ (List.mem_map.mpr ⟨x, ih, rfl⟩)))
theorem nodup_sub : ∀ {L E : List Nd}, L.Nodup → (∀ x ∈ L, x ∈ E) → L.length ≤ E.length
  | [], _, _, _ => Nat.zero_le _
  | a :: L, E, hn, hs => by
    rw [List.nodup_cons] at hn
    have ha := hs a List.mem_cons_self
    have h := nodup_sub (E := E.erase a) hn.2 (fun x hx => by
      have hxa : x ≠ a := fun e => hn.1 (by rw [← e]; exact hx)
      exact (List.mem_erase_of_ne hxa).mpr (hs x (List.mem_cons_of_mem _ hx)))
    rw [List.length_erase_of_mem ha] at h
    have hp : 0 < E.length := List.length_pos_of_mem ha
    rw [List.length_cons]; omega
theorem cnt_sum : ∀ (r : List Nat), (∀ k ∈ r, k ≤ 4) → r.count 0 + r.count 1 + r.count 2 + r.count 4 = r.countP (· != 3)
  | [], _ => rfl
  | k :: r, h => by
    have ih := cnt_sum r (fun z hz => h z (List.mem_cons_of_mem _ hz))
    have hk := h k List.mem_cons_self
    rcases (show k = 0 ∨ k = 1 ∨ k = 2 ∨ k = 3 ∨ k = 4 by omega) with e | e | e | e | e <;> subst e <;> simp [List.count_cons, List.countP_cons] <;> omega
theorem card_le {n : Nat} {r : Nd} (hr : Rw n r) (hn : n ≤ 7) {L : List Nd} (hL : L.Nodup) (hc : ∀ x ∈ L, Cls r x) : L.length ≤ 630 := by
  have h1 : L.length ≤ (enR r (r.count 0) (r.count 1) (r.count 2) (r.count 4)).length := by
    apply nodup_sub hL
    intro x hx
    obtain ⟨c1, c2, c3, c4, c5, c6, c7⟩ := hc x hx
    have := enR_mem r x c1 c2 c3
    rw [c4, c5, c6, c7] at this
    exact this
  have h2 := enR_len r (r.count 0) (r.count 1) (r.count 2) (r.count 4)
  have h3 := cnt_sum r hr.2
  have h4 : r.countP (· != 3) ≤ r.length := List.countP_le_length
  rw [hr.1] at h4
  rw [← h3] at h2 h4
  have h5 := NN_le (Nat.le_trans h4 hn)
  omega
theorem Cls.refl {n : Nat} {r : Nd} (h : Rw n r) : Cls r r := ⟨rfl, h.2, fun _ => Iff.rfl, rfl, rfl, rfl, rfl⟩
theorem mvd_count {r : List Nat} {f t : Nat} (hf : f < r.length) (ht : t < r.length) (hft : f ≠ t) (h0 : r.getD t 0 = 0) (v : Nat) : (mvd r f t).count v = r.count v := by
  unfold mvd
  have hf1 : r.getD f 0 = r[f] := by simp [List.getD_eq_getElem?_getD, hf]
  have ht1 : r.getD t 0 = r[t] := by simp [List.getD_eq_getElem?_getD, ht]
  rw [List.count_set (by simpa using ht), List.count_set hf, List.getElem_set_ne hft]
  rw [hf1]
  rw [ht1] at h0
  rw [h0]
  have hm1 : (if r[f] == v then 1 else 0) ≤ r.count v := by
    split
    · rename_i e
      have : v ∈ r := by rw [← (by simpa using e : r[f] = v)]; exact List.getElem_mem hf
      exact List.count_pos_iff.mpr this
    · exact Nat.zero_le _
  generalize (if r[f] == v then 1 else 0) = A at hm1 ⊢
  generalize (if (0 : Nat) == v then 1 else 0) = B
  omega
theorem Cls.mv {n : Nat} {g : Fl} {sense : Bool} {r x : Nd} {f t : Nat} (h : Cls r x) (hx : Rw n x) (hf : f < n) (hm : may n g x sense f t = true) : Cls r (mvd x f t) := by
  obtain ⟨c1, c2, c3, c4, c5, c6, c7⟩ := h
  obtain ⟨ht, hz, hft, h0⟩ := may_to hf hm
  have h3 := (may_iff.mp hm).2.1
  have hfl : f < x.length := by rw [hx.1]; exact hf
  have htl : t < x.length := by rw [hx.1]; exact ht
  have hc := mvd_count hfl htl hft hz
  refine ⟨by rw [mvd_len]; exact c1, (hx.mv).2, fun i => ?_, by rw [hc, c4], by rw [hc, c5], by rw [hc, c6], by rw [hc, c7]⟩
  rw [← c3 i]
  have e : ∀ (l : List Nat) (i : Nat), l[i]? = some 3 ↔ l.getD i 0 = 3 := by
    intro l i
    rw [List.getD_eq_getElem?_getD]
    cases l[i]? with
    | none => simp
    | some z => simp
  rw [e, e, mvd_at hfl htl]
  by_cases e1 : i = t
  · rw [if_pos e1, e1, hz]
    constructor
    · intro q; exact absurd q h3
    · intro q; omega
  · rw [if_neg e1]
    by_cases e2 : i = f
    · rw [if_pos e2, e2]
      constructor
      · intro q; omega
      · intro q; exact absurd q h3
    · rw [if_neg e2]
theorem Cls.nxt {n : Nat} {g : Fl} {sense : Bool} {r x y : Nd} (h : Cls r x) (hx : Rw n x) (hn : n ≤ 7) (hy : y ∈ nxt n g sense x) : Cls r y := by
  obtain ⟨f, t, hf, hm, rfl⟩ := (mem_nxt hn).mp hy
  exact h.mv hx hf hm
theorem Cls.rw {n : Nat} {r x : Nd} (h : Cls r x) (hr : Rw n r) : Rw n x := ⟨by rw [h.1]; exact hr.1, h.2.1⟩
