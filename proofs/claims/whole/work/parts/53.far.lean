/-! ===== how far it is, in how many ways; seen from either end ===== -/
def dOf (z : Bz) (x : Nd) : Option Nat := (z.1.find? (fun e => decide (e.1 = x))).map Prod.snd
theorem dOf_some {z : Bz} (hn : (z.1.map Prod.fst).Nodup) {x : Nd} {d : Nat} : dOf z x = some d ↔ (x, d) ∈ z.1 := by
  unfold dOf
  constructor
  · intro h
    cases hf : z.1.find? (fun e => decide (e.1 = x)) with
    | none => rw [hf] at h; cases h
    | some e =>
      rw [hf] at h
      have h1 : e.1 = x := by have := List.find?_some hf; simpa using this
      have h2 : e.2 = d := by simpa using h
      rw [← h1, ← h2]; exact List.mem_of_find?_eq_some hf
  · intro h
    cases hf : z.1.find? (fun e => decide (e.1 = x)) with
    | none =>
      have := List.find?_eq_none.mp hf (x, d) h
      simp at this
    | some e =>
      have h1 : e.1 = x := by have := List.find?_some hf; simpa using this
      have hm := List.mem_of_find?_eq_some hf
      have : (x, e.2) ∈ z.1 := by rw [← h1]; exact hm
      rw [nd_uni hn h this]; rfl
theorem dOf_none {z : Bz} {x : Nd} : dOf z x = none ↔ x ∉ z.1.map Prod.fst := by
  unfold dOf
  rw [Option.map_eq_none_iff, List.find?_eq_none]
  constructor
  · intro h hm
    obtain ⟨e, he, rfl⟩ := List.mem_map.mp hm
    have := h e he
    simp at this
  · intro h e he
    simp only [decide_eq_true_eq]
    intro q
    exact h (List.mem_map.mpr ⟨e, he, q⟩)
theorem zf_nd {n : Nat} {g : Fl} {sense : Bool} {s : Nd} : ((zf n g sense s).1.map Prod.fst).Nodup := bz_nd 640
theorem zf_dep {n : Nat} {g : Fl} {sense : Bool} {s x : Nd} {d : Nat} (hs : Rw n s) (hn : n ≤ 7) : dOf (zf n g sense s) x = some d ↔ (x ∈ wl (nxt n g sense) d s ∧ ∀ k, k < d → x ∉ wl (nxt n g sense) k s) := by
  have hI := zf_inv (g := g) (sense := sense) hs hn
  rw [dOf_some zf_nd]
  constructor
  · exact fun h => bfs_depth hI h
  · rintro ⟨h1, h2⟩
    obtain ⟨d', hd, hm⟩ := bfs_reach hI d x h1
    have h3 := bfs_depth hI hm
    have : d' = d := by
      rcases Nat.lt_or_ge d' d with q | q
      · exact absurd h3.1 (h2 d' q)
      · omega
    rw [← this]; exact hm
theorem mem_count {l : List Nd} {x : Nd} : x ∈ l ↔ 0 < l.count x := List.count_pos_iff.symm
theorem rev_d {n : Nat} {g : Fl} {a b : Nd} (h3 : 3 ≤ n) (hn : n ≤ 7) (ha : Rw n a) (hb : Rw n b) : dOf (zf n g false b) a = dOf (zf n g true a) b := by
  have key : ∀ d, dOf (zf n g false b) a = some d ↔ dOf (zf n g true a) b = some d := by
    intro d
    rw [zf_dep hb hn, zf_dep ha hn]
    have hr : ∀ k, a ∈ wl (nxt n g false) k b ↔ b ∈ wl (nxt n g true) k a := fun k => by
      rw [mem_count, mem_count, walks_rev h3 hn true k a b ha hb]; rfl
    rw [hr]
    constructor
    · exact fun h => ⟨h.1, fun k hk q => h.2 k hk ((hr k).mpr q)⟩
    · exact fun h => ⟨h.1, fun k hk q => h.2 k hk ((hr k).mp q)⟩
  cases h1 : dOf (zf n g false b) a with
  | some d => rw [(key d).mp h1]
  | none =>
    cases h2 : dOf (zf n g true a) b with
    | none => rfl
    | some d => rw [(key d).mpr h2] at h1; cases h1
theorem rev_w {n : Nat} {g : Fl} {a b : Nd} (h3 : 3 ≤ n) (hn : n ≤ 7) (ha : Rw n a) (hb : Rw n b) : (zf n g false b).2 a = (zf n g true a).2 b := by
  have e := rev_d (g := g) h3 hn ha hb
  have hI1 := zf_inv (g := g) (sense := false) hb hn
  have hI2 := zf_inv (g := g) (sense := true) ha hn
  cases h1 : dOf (zf n g true a) b with
  | none =>
    rw [h1] at e
    rw [hI1.2.2.2.2.2.2.2.2.2 a (dOf_none.mp e), hI2.2.2.2.2.2.2.2.2.2 b (dOf_none.mp h1)]
  | some d =>
    rw [h1] at e
    rw [bfs_ways hI1 d a ((dOf_some zf_nd).mp e), bfs_ways hI2 d b ((dOf_some zf_nd).mp h1), walks_rev h3 hn true d a b ha hb]; rfl
/-- what the reference has of z: the far, the ways of any row -/
theorem MR.at {n : Nat} {r0 : Nd} {far : A32} {ways : A64} {queue : A32} {qe : Int32} {z : Bz} (h : MR n r0 far ways queue qe z) {x : Nd} (hx : Rw n x) : far (enc5 x) - 1 = oI (dOf z x) ∧ ways (enc5 x) = lN (z.2 x) ∧ enc5 x < 78125 := by
  have hlen := h.len
  obtain ⟨h1, h2, h3, h4, h5, h6, h7, h8, h9⟩ := h
  have h78 := enc5_78 hx h9
  cases hd : dOf z x with
  | some d =>
    have hm := (dOf_some h4).mp hd
    obtain ⟨i, hi⟩ := List.getElem?_of_mem hm
    have g := h2 i _ hi
    refine ⟨?_, g.2.2, h78⟩
    show far (enc5 x) - 1 = nI d
    rw [g.2.1]; exact nI_pred d
  | none =>
    have hm := dOf_none.mp hd
    have g := h3 _ h78 (fun e he q => hm (by
      rw [← ((h5 e he).rw h8).inj5 hx q]; exact List.mem_map.mpr ⟨e, he, rfl⟩))
    refine ⟨by rw [g.1]; rfl, ?_, h78⟩
    rw [g.2, h6 x hm]; rfl
theorem farTo_eq {n : Nat} {g : Fl} {m : A32} {r x : Nd} {far : A32} {ways : A64} {queue : A32} {qe : Int32} (hm : rowAt m r) (hr : Rw n r) (hn : n ≤ 7) (hF : FI far ways queue qe) (hx : Rw n x) :
    ∃ m' far' ways' queue' qe', f_X8_farTo (bI (gA g)) (bI (gB g)) (bI (gR g)) (bI (gT g)) (nI n) m far ways queue qe (nI (enc5 x)) = some (oI (dOf (zf n g true r) x), m', far', ways', queue', qe') ∧ rowAt m' r ∧ MR n r far' ways' queue' qe' (zf n g true r) := by
  obtain ⟨m', f', w', q', t', h1, h2, h3⟩ := layFar_eq (g := g) hm hr hn hF
  have ha := h3.at hx
  refine ⟨m', f', w', q', t', ?_, h2, h3⟩
  unfold f_X8_farTo
  rw [h1, cl5_s, ald_in ha.2.2 (by decide), ha.1]
/-- the class: by its table -/
theorem SR.depth {n : Nat} {r0 : Nd} {slots rows : A32} {tsize : Int32} {depths ways : A32} {z : Bz} (h : SR n r0 slots rows tsize depths ways z) {x : Nd} (hx : Rw n x) : f_X5_depthOf slots rows depths (nI (enc8 x)) = some (oI (dOf z x)) ∧ f_X5_waysOf slots rows ways (nI (enc8 x)) = some (nI (z.2 x)) := by
  have hlen := h.len
  obtain ⟨h1, h2, h3, h4, h5, h6, h7, h8, h9⟩ := h
  have hxw : enc8 x < 2097152 := row_lt hx.d (by rw [hx.1]; exact h9)
  have hfind := find_eq (w := enc8 x) h1 (by omega)
  unfold f_X5_depthOf f_X5_waysOf
  rw [hfind, cl1_s, cl1_s, jn0_d, jn0_d]
  cases hd : dOf z x with
  | some d =>
    have hm := (dOf_some h4).mp hd
    obtain ⟨i, hi⟩ := List.getElem?_of_mem hm
    have hil := (List.getElem?_eq_some_iff.mp hi).1
    have hca := codes_at hi
    obtain ⟨s, hTs⟩ := h1
    have hp := plc_some hTs.2.2.1 hca.1 hca.2
    have g := h3 i _ hi
    have ep : oI (plc (codes z) (enc8 x)) = nI i := by
      have e2 : plc (codes z) (enc8 x) = some i := hp
      rw [e2]; rfl
    rw [ep, if_neg (nI_pos (by omega)), if_pos (show nI i < 640 from nI_lt (b := 640) (by omega) (by decide)), ald_in (by omega) (by decide), if_neg (nI_pos (by omega)), if_pos (show nI i < 640 from nI_lt (b := 640) (by omega) (by decide)), ald_in (by omega) (by decide), g.1, g.2]
    exact ⟨rfl, rfl⟩
  | none =>
    have hm := dOf_none.mp hd
    have hn2 : enc8 x ∉ codes z := fun q => hm ((codes_mem h8 h5 hx).mp q)
    rw [plc_none hn2, if_pos (show oI none < 0 by decide), if_pos (show oI none < 0 by decide), h6 x hm]
    exact ⟨rfl, rfl⟩
