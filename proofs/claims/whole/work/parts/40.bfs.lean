/-! ===== searching in width, with the number of ways ===== -/
abbrev Nd : Type := List Nat
abbrev Bz : Type := List (Nd × Nat) × (Nd → Nat)
def vis (d w : Nat) (z : Bz) (x : Nd) : Bz :=
  let S' := if x ∈ z.1.map Prod.fst then z.1 else z.1 ++ [(x, d)]
  (S', if (x, d) ∈ S' then (fun y => if y = x then z.2 y + w else z.2 y) else z.2)
def viss (d w : Nat) (z : Bz) (ys : List Nd) : Bz := ys.foldl (vis d w) z
def wl (succ : Nd → List Nd) : Nat → Nd → List Nd
  | 0, s => [s]
  | k + 1, s => (wl succ k s).flatMap succ
theorem vis_S (d w : Nat) (z : Bz) (x : Nd) : (vis d w z x).1 = if x ∈ z.1.map Prod.fst then z.1 else z.1 ++ [(x, d)] := rfl
theorem vis_W (d w : Nat) (z : Bz) (x y : Nd) : (vis d w z x).2 y = z.2 y + if y = x ∧ (x, d) ∈ (vis d w z x).1 then w else 0 := by
  show (if (x, d) ∈ (vis d w z x).1 then (fun y => if y = x then z.2 y + w else z.2 y) else z.2) y = _
  by_cases h : (x, d) ∈ (vis d w z x).1
  · rw [if_pos h]
    by_cases e : y = x
    · simp [e, h]
    · simp [e]
  · rw [if_neg h]
    simp [h]
theorem viss_cons (d w : Nat) (z : Bz) (y : Nd) (ys : List Nd) : viss d w z (y :: ys) = viss d w (vis d w z y) ys := rfl
theorem viss_S : ∀ {ys : List Nd} {d w : Nat} {z : Bz}, ∃ N, (viss d w z ys).1 = z.1 ++ N ∧ (∀ e ∈ N, e.2 = d ∧ e.1 ∈ ys ∧ e.1 ∉ z.1.map Prod.fst) ∧ (N.map Prod.fst).Nodup ∧ ∀ y ∈ ys, y ∈ (viss d w z ys).1.map Prod.fst
  | [], d, w, z => ⟨[], by simp [viss], by simp, by simp, by simp⟩
  | y :: ys, d, w, z => by
    obtain ⟨N, h1, h2, h3, h4⟩ := viss_S (ys := ys) (d := d) (w := w) (z := vis d w z y)
    rw [viss_cons]
    by_cases hy : y ∈ z.1.map Prod.fst
    · have e : (vis d w z y).1 = z.1 := by rw [vis_S, if_pos hy]
      rw [e] at h1 h2
      refine ⟨N, h1, fun x hx => ⟨(h2 x hx).1, List.mem_cons_of_mem _ (h2 x hx).2.1, (h2 x hx).2.2⟩, h3, fun x hx => ?_⟩
      rcases List.mem_cons.mp hx with q | q
      · rw [h1, q, List.map_append]; exact List.mem_append_left _ hy
      · exact h4 x q
    · have e : (vis d w z y).1 = z.1 ++ [(y, d)] := by rw [vis_S, if_neg hy]
      rw [e] at h1 h2
      refine ⟨(y, d) :: N, by rw [h1]; simp, fun x hx => ?_, ?_, fun x hx => ?_⟩
      · rcases List.mem_cons.mp hx with q | q
        · rw [q]; exact ⟨rfl, List.mem_cons_self, hy⟩
        · have := h2 x q
          refine ⟨this.1, List.mem_cons_of_mem _ this.2.1, fun hz => this.2.2 ?_⟩
          rw [List.map_append]; exact List.mem_append_left _ hz
      · rw [List.map_cons, List.nodup_cons]
        refine ⟨fun hm => ?_, h3⟩
        obtain ⟨x, hx, ex⟩ := List.mem_map.mp hm
        apply (h2 x hx).2.2
        rw [ex, List.map_append]
        exact List.mem_append_right _ (by simp)
      · rcases List.mem_cons.mp hx with q | q
        · rw [h1, q]; simp
        · exact h4 x q
theorem nd_uni {S : List (Nd × Nat)} (h : (S.map Prod.fst).Nodup) {x : Nd} {a b : Nat} (h1 : (x, a) ∈ S) (h2 : (x, b) ∈ S) : a = b := by
  induction S with
  | nil => simp at h1
  | cons e S ih =>
    rw [List.map_cons, List.nodup_cons] at h
    rcases List.mem_cons.mp h1 with q1 | q1 <;> rcases List.mem_cons.mp h2 with q2 | q2
    · rw [← q1] at q2; injection q2 with _ q; exact q.symm
    · exact absurd (List.mem_map.mpr ⟨_, q2, by rw [← q1]⟩) h.1
    · exact absurd (List.mem_map.mpr ⟨_, q1, by rw [← q2]⟩) h.1
    · exact ih h.2 q1 q2
theorem viss_nd {ys : List Nd} {d w : Nat} {z : Bz} (h : (z.1.map Prod.fst).Nodup) : ((viss d w z ys).1.map Prod.fst).Nodup := by
  obtain ⟨N, h1, h2, h3, -⟩ := viss_S (ys := ys) (d := d) (w := w) (z := z)
  rw [h1, List.map_append, List.nodup_append]
  refine ⟨h, h3, fun a ha b hb e => ?_⟩
  obtain ⟨x, hx, ex⟩ := List.mem_map.mp hb
  apply (h2 x hx).2.2
  rw [ex, ← e]; exact ha
theorem vis_nd {x : Nd} {d w : Nat} {z : Bz} (h : (z.1.map Prod.fst).Nodup) : ((vis d w z x).1.map Prod.fst).Nodup := viss_nd (ys := [x]) h
theorem viss_W : ∀ {ys : List Nd} {d w : Nat} {z : Bz}, (z.1.map Prod.fst).Nodup → ∀ x, (viss d w z ys).2 x = z.2 x + if (x, d) ∈ (viss d w z ys).1 then ys.count x * w else 0
  | [], d, w, z, _, x => by simp [viss]
  | y :: ys, d, w, z, h, x => by
    rw [viss_cons, viss_W (ys := ys) (vis_nd h) x, vis_W]
    obtain ⟨N, h1, h2, -, -⟩ := viss_S (ys := ys) (d := d) (w := w) (z := vis d w z y)
    have hy : y ∈ (vis d w z y).1.map Prod.fst := by
      rw [vis_S]
      split
      · assumption
      · simp
    have key : (y, d) ∈ (vis d w z y).1 ↔ (y, d) ∈ (viss d w (vis d w z y) ys).1 := by
      rw [h1]
      constructor
      · exact fun q => List.mem_append_left _ q
      · intro q
        rcases List.mem_append.mp q with q | q
        · exact q
        · exact absurd hy (h2 _ q).2.2
    rw [List.count_cons]
    by_cases e : x = y
    · subst e
      by_cases hd : (x, d) ∈ (viss d w (vis d w z x) ys).1
      · rw [if_pos ⟨rfl, key.mpr hd⟩, if_pos hd, if_pos hd]
        simp [Nat.add_mul]; omega
      · rw [if_neg (fun q => hd (key.mp q.2)), if_neg hd, if_neg hd]
    · have e2 : ¬ y = x := fun q => e q.symm
      rw [if_neg (fun q => e q.1)]
      simp [e2]
def bstep (succ : Nd → List Nd) (z : Bz) (i : Nat) : Bz := match z.1[i]? with
  | none => z
  | some e => viss (e.2 + 1) (z.2 e.1) z (succ e.1)
def bsum (succ : Nd → List Nd) (ω : Nd → Nat) (x : Nd) (k : Nat) (l : List (Nd × Nat)) : Nat := (l.map (fun q => if q.2 = k then (succ q.1).count x * ω q.1 else 0)).sum
/-- what holds when the first i of the rows met have been gone on from -/
def BInv (succ : Nd → List Nd) (s : Nd) (i : Nat) (z : Bz) : Prop :=
  (z.1.map Prod.fst).Nodup ∧ z.1[0]? = some (s, 0) ∧ z.1.Pairwise (fun a b => a.2 ≤ b.2) ∧ (∀ e, z.1[i]? = some e → ∀ q ∈ z.1, q.2 ≤ e.2 + 1) ∧ (∀ e ∈ z.1, e.1 ∈ wl succ e.2 s) ∧ (∀ j e, j < i → z.1[j]? = some e → ∀ x ∈ succ e.1, ∃ k, k ≤ e.2 + 1 ∧ (x, k) ∈ z.1) ∧ z.2 s = 1 ∧ (∀ x k, (x, k + 1) ∈ z.1 → z.2 x = bsum succ z.2 x k (z.1.take i)) ∧ i ≤ z.1.length ∧ ∀ x, x ∉ z.1.map Prod.fst → z.2 x = 0
theorem BInv_0 (succ : Nd → List Nd) (s : Nd) : BInv succ s 0 ([(s, 0)], fun y => if y = s then 1 else 0) := by
  refine ⟨by simp, rfl, by simp, fun e he q hq => ?_, fun e he => ?_, fun j e hj => absurd hj (Nat.not_lt_zero _), by simp, fun x k hx => ?_, Nat.zero_le _, fun x hx => ?_⟩
  · simp at he hq; rw [hq, ← he]; simp
  · simp at he; rw [he]; simp [wl]
  · simp at hx
  · simp at hx; simp [hx]
theorem bsum_congr {succ : Nd → List Nd} {ω ω' : Nd → Nat} {x : Nd} {k : Nat} {l : List (Nd × Nat)} (h : ∀ q ∈ l, q.2 = k → ω q.1 = ω' q.1) : bsum succ ω x k l = bsum succ ω' x k l := by
  unfold bsum
  congr 1
  apply List.map_congr_left
  intro q hq
  by_cases e : q.2 = k
  · rw [if_pos e, if_pos e, h q hq e]
  · rw [if_neg e, if_neg e]
theorem sum_zero {l : List Nat} (h : ∀ x ∈ l, x = 0) : l.sum = 0 := by
  induction l with
  | nil => rfl
  | cons a l ih => rw [List.sum_cons, h a List.mem_cons_self, ih (fun x hx => h x (List.mem_cons_of_mem _ hx))]
theorem BInv_step {succ : Nd → List Nd} {s : Nd} {i : Nat} {z : Bz} (h : BInv succ s i z) (hi : i < z.1.length) : BInv succ s (i + 1) (bstep succ z i) := by
  obtain ⟨h1, h2, h3, h4, h5, h6, h7, h8, h9, h9z⟩ := h
  obtain ⟨⟨p, d⟩, hpe'⟩ : ∃ e, e = z.1[i] := ⟨_, rfl⟩
  have hpe := hpe'.symm
  have hp : z.1[i]? = some (p, d) := by rw [List.getElem?_eq_getElem hi, hpe]
  have hpm : (p, d) ∈ z.1 := List.mem_of_getElem? hp
  have hb : bstep succ z i = viss (d + 1) (z.2 p) z (succ p) := by unfold bstep; rw [hp]
  rw [hb]
  obtain ⟨N, e1, e2, e3, e4⟩ := viss_S (ys := succ p) (d := d + 1) (w := z.2 p) (z := z)
  have hnd := viss_nd (ys := succ p) (d := d + 1) (w := z.2 p) h1
  have hW := viss_W (ys := succ p) (d := d + 1) (w := z.2 p) h1
  have hd4 : ∀ q ∈ z.1, q.2 ≤ d + 1 := h4 _ hp
  have hall : ∀ q ∈ (viss (d + 1) (z.2 p) z (succ p)).1, q.2 ≤ d + 1 := by
    intro q hq
    rw [e1] at hq
    rcases List.mem_append.mp hq with q1 | q1
    · exact hd4 q q1
    · rw [(e2 q q1).1]; exact Nat.le_refl _
  -- what stands ahead, with depth at most d, keeps its ways
  have hle : ∀ j e, j ≤ i → z.1[j]? = some e → e.2 ≤ d := by
    intro j e hj he
    rcases Nat.lt_or_ge j i with q | q
    · obtain ⟨hjl, ej⟩ := List.getElem?_eq_some_iff.mp he
      have := List.pairwise_iff_getElem.mp h3 j i hjl hi q
      rw [ej, hpe] at this
      exact this
    · rw [show j = i by omega, hp] at he; cases he; exact Nat.le_refl _
  have hkeep : ∀ x k, (x, k) ∈ (viss (d + 1) (z.2 p) z (succ p)).1 → k ≤ d → (viss (d + 1) (z.2 p) z (succ p)).2 x = z.2 x := by
    intro x k hx hk
    rw [hW x, if_neg (fun q => by have := nd_uni hnd hx q; omega), Nat.add_zero]
  have hsub : ∀ q ∈ z.1, q ∈ (viss (d + 1) (z.2 p) z (succ p)).1 := fun q hq => by rw [e1]; exact List.mem_append_left _ hq
  have hs0 : (s, 0) ∈ z.1 := List.mem_of_getElem? h2
  have htk : (viss (d + 1) (z.2 p) z (succ p)).1.take (i + 1) = z.1.take i ++ [(p, d)] := by
    rw [e1, List.take_append_of_le_length (by omega), List.take_succ_eq_append_getElem hi, hpe]
  refine ⟨hnd, ?_, ?_, ?_, ?_, ?_, ?_, ?_, ?_, ?_⟩
  · rw [e1, List.getElem?_append_left (by omega)]; exact h2
  · rw [e1, List.pairwise_append]
    refine ⟨h3, ?_, fun a ha b hb => ?_⟩
    · refine List.pairwise_of_forall_mem_list ?_
      intro a ha b hb
      rw [(e2 a ha).1, (e2 b hb).1]; exact Nat.le_refl _
    · rw [(e2 b hb).1]; exact hd4 a ha
  · intro e he q hq
    have h10 := hall q hq
    have hde : d ≤ e.2 := by
      rw [e1] at he
      rcases Nat.lt_or_ge (i + 1) z.1.length with g | g
      · rw [List.getElem?_append_left g] at he
        obtain ⟨hjl, ej⟩ := List.getElem?_eq_some_iff.mp he
        have := List.pairwise_iff_getElem.mp h3 i (i + 1) hi hjl (by omega)
        rw [ej, hpe] at this
        exact this
      · rw [List.getElem?_append_right g] at he
        rw [(e2 e (List.mem_of_getElem? he)).1]; omega
    omega
  · intro e he
    rw [e1] at he
    rcases List.mem_append.mp he with q | q
    · exact h5 e q
    · have h10 := e2 e q
      rw [h10.1]
      show e.1 ∈ (wl succ d s).flatMap succ
      exact List.mem_flatMap.mpr ⟨p, h5 _ hpm, h10.2.1⟩
  · intro j e hj he x hx
    rcases Nat.lt_or_ge j i with g | g
    · rw [e1, List.getElem?_append_left (by omega)] at he
      obtain ⟨k, hk1, hk2⟩ := h6 j e g he x hx
      exact ⟨k, hk1, hsub _ hk2⟩
    · have : j = i := by omega
      subst this
      rw [e1, List.getElem?_append_left hi, hp] at he
      cases he
      obtain ⟨q, hq, eq⟩ := List.mem_map.mp (e4 x hx)
      refine ⟨q.2, hall q hq, ?_⟩
      rw [← eq]; exact hq
  · rw [hkeep s 0 (hsub _ hs0) (Nat.zero_le _)]; exact h7
  · intro x k hx
    rw [htk]
    have hsum : ∀ ω, bsum succ ω x k (z.1.take i ++ [(p, d)]) = bsum succ ω x k (z.1.take i) + if d = k then (succ p).count x * ω p else 0 := by
      intro ω; unfold bsum; rw [List.map_append, List.sum_append]; simp
    rw [hsum]
    have hc : bsum succ (viss (d + 1) (z.2 p) z (succ p)).2 x k (z.1.take i) = bsum succ z.2 x k (z.1.take i) := by
      apply bsum_congr
      intro q hq _
      obtain ⟨j, hj⟩ := List.getElem?_of_mem hq
      have hji : j < i := by
        have := (List.getElem?_eq_some_iff.mp hj).1
        rw [List.length_take] at this; omega
      rw [List.getElem?_take_of_lt hji] at hj
      exact hkeep q.1 q.2 (hsub q (List.mem_of_getElem? hj)) (hle j q (by omega) hj)
    rw [hc, hkeep p d (hsub _ hpm) (Nat.le_refl _), hW x]
    have h10 := hall _ hx
    have hbase : z.2 x = bsum succ z.2 x k (z.1.take i) ∨ (x ∉ z.1.map Prod.fst) := by
      by_cases hm : (x, k + 1) ∈ z.1
      · exact Or.inl (h8 x k hm)
      · refine Or.inr (fun hz => hm ?_)
        obtain ⟨q, hq, eq⟩ := List.mem_map.mp hz
        have h11 : (x, q.2) ∈ z.1 := by rw [← eq]; exact hq
        have := nd_uni hnd hx (hsub _ h11)
        have h12 : q.2 = k + 1 := this.symm
        rw [h12] at h11; exact h11
    have hmain : z.2 x = bsum succ z.2 x k (z.1.take i) := by
      rcases hbase with q | q
      · exact q
      · rw [h9z x q]
        symm
        apply sum_zero
        intro v hv
        obtain ⟨e, he, rfl⟩ := List.mem_map.mp hv
        obtain ⟨j, hj⟩ := List.getElem?_of_mem he
        have hji : j < i := by
          have := (List.getElem?_eq_some_iff.mp hj).1
          rw [List.length_take] at this; omega
        rw [List.getElem?_take_of_lt hji] at hj
        have hnx : x ∉ succ e.1 := fun hm => by
          obtain ⟨k', -, hk2⟩ := h6 j e hji hj x hm
          exact q (List.mem_map.mpr ⟨_, hk2, rfl⟩)
        by_cases hk : e.2 = k
        · rw [if_pos hk, List.count_eq_zero.mpr hnx, Nat.zero_mul]
        · rw [if_neg hk]
    rw [← hmain]
    by_cases hdk : d = k
    · subst hdk; rw [if_pos rfl, if_pos hx]
    · rw [if_neg hdk, if_neg (fun q => hdk (by have := nd_uni hnd hx q; omega))]
  · rw [e1, List.length_append]; omega
  · intro x hx
    rw [hW x]
    have hx1 : x ∉ z.1.map Prod.fst := fun q => hx (by
      rw [e1, List.map_append]; exact List.mem_append_left _ q)
    rw [h9z x hx1, if_neg (fun q => hx (List.mem_map.mpr ⟨_, q, rfl⟩))]
theorem bfs_reach {succ : Nd → List Nd} {s : Nd} {z : Bz} (h : BInv succ s z.1.length z) : ∀ (k : Nat) (x : Nd), x ∈ wl succ k s → ∃ d, d ≤ k ∧ (x, d) ∈ z.1 := by
  obtain ⟨h1, h2, h3, h4, h5, h6, h7, h8, h9, h9z⟩ := h
  intro k
  induction k with
  | zero =>
    intro x hx
    simp [wl] at hx
    rw [hx]
    exact ⟨0, Nat.le_refl _, List.mem_of_getElem? h2⟩
  | succ k ih =>
    intro x hx
    obtain ⟨y, hy, hxy⟩ := List.mem_flatMap.mp (show x ∈ (wl succ k s).flatMap succ from hx)
    obtain ⟨d, hd, hm⟩ := ih y hy
    obtain ⟨j, hj⟩ := List.getElem?_of_mem hm
    obtain ⟨k', hk1, hk2⟩ := h6 j (y, d) ((List.getElem?_eq_some_iff.mp hj).1) hj x hxy
    exact ⟨k', by have : k' ≤ d + 1 := hk1; omega, hk2⟩
theorem bfs_depth {succ : Nd → List Nd} {s : Nd} {z : Bz} (h : BInv succ s z.1.length z) {x : Nd} {d : Nat} (hx : (x, d) ∈ z.1) : x ∈ wl succ d s ∧ ∀ k, k < d → x ∉ wl succ k s := by
  refine ⟨h.2.2.2.2.1 _ hx, fun k hk hm => ?_⟩
  obtain ⟨d', h1, h2⟩ := bfs_reach h k x hm
  have := nd_uni h.1 hx h2
  omega
theorem sum_flat {succ : Nd → List Nd} {x : Nd} : ∀ (l : List Nd), (l.flatMap succ).count x = (l.map (fun y => (succ y).count x)).sum
  | [] => rfl
  | y :: l => by rw [List.flatMap_cons, List.count_append, sum_flat l]; rfl
/-- a sum over a list, by the different ones in it -/
theorem sum_group {f : Nd → Nat} : ∀ {S : List (Nd × Nat)} (l : List Nd), (S.map Prod.fst).Nodup → (∀ y ∈ l, y ∈ S.map Prod.fst) → (l.map f).sum = (S.map (fun q => l.count q.1 * f q.1)).sum
  | S, [], _, _ => by
    symm; apply sum_zero
    intro v hv
    obtain ⟨q, -, rfl⟩ := List.mem_map.mp hv
    simp
  | S, y :: l, hn, hl => by
    rw [List.map_cons, List.sum_cons, sum_group l hn (fun x hx => hl x (List.mem_cons_of_mem _ hx))]
    have hy := hl y List.mem_cons_self
    clear hl
    induction S with
    | nil => simp at hy
    | cons e S ih =>
      rw [List.map_cons, List.nodup_cons] at hn
      rw [List.map_cons, List.sum_cons, List.map_cons, List.sum_cons]
      by_cases he : e.1 = y
      · have h1 : S.map (fun q => (y :: l).count q.1 * f q.1) = S.map (fun q => l.count q.1 * f q.1) := by
          apply List.map_congr_left
          intro q hq
          have : ¬ y = q.1 := fun e2 => hn.1 (List.mem_map.mpr ⟨q, hq, by rw [← e2, he]⟩)
          rw [List.count_cons_of_ne this]
        rw [h1, he, List.count_cons_self, Nat.add_mul, Nat.one_mul]
        omega
      · have hy2 : y ∈ S.map Prod.fst := by
          rcases List.mem_cons.mp hy with q | q
          · exact absurd q.symm he
          · exact q
        have := ih hn.2 hy2
        rw [List.count_cons_of_ne (fun q => he q.symm)]
        omega
theorem bfs_ways {succ : Nd → List Nd} {s : Nd} {z : Bz} (h : BInv succ s z.1.length z) : ∀ (d : Nat) (x : Nd), (x, d) ∈ z.1 → z.2 x = (wl succ d s).count x := by
  have hr := bfs_reach h
  have hdp := fun {x d} hx => bfs_depth h (x := x) (d := d) hx
  obtain ⟨h1, h2, h3, h4, h5, h6, h7, h8, h9, h9z⟩ := h
  intro d
  induction d with
  | zero =>
    intro x hx
    have := h5 _ hx
    simp [wl] at this
    rw [this, h7]; simp [wl]
  | succ k ih =>
    intro x hx
    rw [h8 x k hx, List.take_length]
    show _ = ((wl succ k s).flatMap succ).count x
    rw [sum_flat, sum_group (S := z.1) _ h1 (fun y hy => by
      obtain ⟨d, -, hm⟩ := hr k y hy
      exact List.mem_map.mpr ⟨_, hm, rfl⟩)]
    unfold bsum
    congr 1
    apply List.map_congr_left
    intro q hq
    by_cases e : q.2 = k
    · rw [if_pos e, ih q.1 (by rw [← e]; exact hq), Nat.mul_comm]
    · rw [if_neg e]
      symm
      rcases Nat.lt_or_ge q.2 k with g | g
      · have : x ∉ succ q.1 := fun hm => by
          obtain ⟨j, hj⟩ := List.getElem?_of_mem hq
          obtain ⟨k', hk1, hk2⟩ := h6 j q ((List.getElem?_eq_some_iff.mp hj).1) hj x hm
          have := nd_uni h1 hx hk2
          omega
        rw [List.count_eq_zero.mpr this, Nat.mul_zero]
      · have : q.1 ∉ wl succ k s := (hdp (x := q.1) (d := q.2) hq).2 k (by omega)
        rw [List.count_eq_zero.mpr this, Nat.zero_mul]
