/-! ===== the class's Search goes on as the abstract one ===== -/
abbrev A32 : Type := Nat → Int32
def codes (z : Bz) : List Nat := z.1.map (fun e => enc8 e.1)
/-- what the arrays of a Search hold of z -/
def SR (n : Nat) (r0 : Nd) (slots rows : A32) (tsize : Int32) (depths ways : A32) (z : Bz) : Prop :=
  TI slots rows (codes z) ∧ tsize = nI z.1.length ∧ (∀ (i : Nat) (e : Nd × Nat), z.1[i]? = some e → depths i = nI e.2 ∧ ways i = nI (z.2 e.1)) ∧ (z.1.map Prod.fst).Nodup ∧ (∀ e ∈ z.1, Cls r0 e.1) ∧ (∀ x, x ∉ z.1.map Prod.fst → z.2 x = 0) ∧ (∀ (i : Nat) (e : Nd × Nat), z.1[i]? = some e → e.2 ≤ i) ∧ Rw n r0 ∧ n ≤ 7
theorem SR.len {n : Nat} {r0 : Nd} {slots rows : A32} {tsize : Int32} {depths ways : A32} {z : Bz} (h : SR n r0 slots rows tsize depths ways z) : z.1.length ≤ 630 := by
  obtain ⟨h1, h2, h3, h4, h5, h6, h7, h8, h9⟩ := h
  have := card_le h8 h9 h4 (fun x hx => by
    obtain ⟨e, he, rfl⟩ := List.mem_map.mp hx
    exact h5 e he)
  rwa [List.length_map] at this
theorem codes_len (z : Bz) : (codes z).length = z.1.length := by simp [codes]
theorem codes_at {z : Bz} {i : Nat} {e : Nd × Nat} (h : z.1[i]? = some e) : i < (codes z).length ∧ (codes z).getD i 0 = enc8 e.1 := by
  have hi := (List.getElem?_eq_some_iff.mp h).1
  refine ⟨by rw [codes_len]; exact hi, ?_⟩
  rw [List.getD_eq_getElem?_getD]
  unfold codes
  rw [List.getElem?_map, h]; rfl
theorem codes_mem {n : Nat} {r0 : Nd} {z : Bz} {x : Nd} (hr : Rw n r0) (hc : ∀ e ∈ z.1, Cls r0 e.1) (hx : Rw n x) : enc8 x ∈ codes z ↔ x ∈ z.1.map Prod.fst := by
  unfold codes
  constructor
  · intro h
    obtain ⟨e, he, ee⟩ := List.mem_map.mp h
    have hw := (hc e he).rw hr
    have := enc8_inj hw.d hx.d (by rw [hw.1, hx.1]) ee
    rw [← this]; exact List.mem_map.mpr ⟨e, he, rfl⟩
  · intro h
    obtain ⟨e, he, ee⟩ := List.mem_map.mp h
    exact List.mem_map.mpr ⟨e, he, by rw [ee]⟩
theorem goOn_one {β : Type} {n : Nat} {r0 : Nd} {slots rows : A32} {tsize : Int32} {depths ways : A32} {z : Bz} {i : Nat} {p x : Nd} {d w : Nat} (h : SR n r0 slots rows tsize depths ways z) (hp : z.1[i]? = some (p, d)) (hw : w = z.2 p) (hx : Cls r0 x) :
    ∃ slots' rows' tsize' depths' ways', SR n r0 slots' rows' tsize' depths' ways' (vis (d + 1) w z x) ∧ ∀ K : A32 → A32 → Int32 → A32 → A32 → Option β,
      (cl4 (f_X6_meet slots rows tsize (nI (enc8 x))) fun r_28 table_slots_29 table_rows_30 table_size_31 =>
jn2 (fun (depths_33 : Nat → Int32) (ways_34 : Nat → Int32) => K table_slots_29 table_rows_30 table_size_31 depths_33 ways_34) fun j166 =>
if r_28 < 0 then (
j166 depths ways) else (
if r_28 < 640 then (
if r_28 = tsize then (
astI 640 depths r_28 (nI (d + 1)) fun depths_48 =>
ald 640 ways (nI i) fun v_50 =>
astI 640 ways r_28 v_50 fun ways_52 =>
j166 depths_48 ways_52) else (
ald 640 depths r_28 fun v_39 =>
if v_39 = nI (d + 1) then (
ald 640 ways r_28 fun v_42 =>
ald 640 ways (nI i) fun v_44 =>
astI 640 ways r_28 (v_42 + v_44) fun ways_46 =>
j166 depths ways_46) else (
j166 depths ways))) else (
j166 depths ways))) = K slots' rows' tsize' depths' ways' := by
  have hlen := h.len
  obtain ⟨h1, h2, h3, h4, h5, h6, h7, h8, h9⟩ := h
  have hxr := hx.rw h8
  have hxw : enc8 x < 2097152 := row_lt hxr.d (by rw [hxr.1]; exact h9)
  have hi := (List.getElem?_eq_some_iff.mp hp).1
  have hdi := h7 i _ hp
  subst h2
  by_cases hm : x ∈ z.1.map Prod.fst
  · obtain ⟨e, he, rfl⟩ := List.mem_map.mp hm
    obtain ⟨j, hj⟩ := List.getElem?_of_mem he
    have hjl := (List.getElem?_eq_some_iff.mp hj).1
    have hca := codes_at hj
    have hmeet := meet_old h1 hca.1 hca.2 (by omega : enc8 e.1 < 2 ^ 31)
    rw [codes_len] at hmeet
    have hej := h7 j e hj
    have h3j := h3 j e hj
    have h3i := h3 i _ hp
    have hS : (vis (d + 1) w z e.1).1 = z.1 := by rw [vis_S, if_pos hm]
    by_cases hdep : e.2 = d + 1
    · have hmem : (e.1, d + 1) ∈ (vis (d + 1) w z e.1).1 := by rw [hS, ← hdep]; exact he
      refine ⟨slots, rows, nI z.1.length, depths, upd ways j (ways j + ways i), ⟨?_, ?_, ?_, ?_, ?_, ?_, ?_, h8, h9⟩, ?_⟩
      · unfold codes; rw [hS]; exact h1
      · rw [hS]
      · intro i2 e2 he2
        rw [hS] at he2
        have h3i2 := h3 i2 e2 he2
        refine ⟨h3i2.1, ?_⟩
        rw [vis_W]
        unfold upd
        by_cases hij : i2 = j
        · rw [if_pos hij]
          rw [hij, hj] at he2
          cases he2
          rw [if_pos ⟨rfl, hmem⟩, h3j.2, h3i.2, nI_add, hw]
        · rw [if_neg hij, if_neg (fun q => hij ?_), Nat.add_zero]
          · exact h3i2.2
          · have hi2l := (List.getElem?_eq_some_iff.mp he2).1
            have g1 : (z.1.map Prod.fst)[i2]'(by simpa using hi2l) = (z.1.map Prod.fst)[j]'(by simpa using hjl) := by
              rw [List.getElem_map, List.getElem_map, (List.getElem?_eq_some_iff.mp he2).2, (List.getElem?_eq_some_iff.mp hj).2]
              exact q.1
            exact (List.getElem_inj h4).mp g1
      · rw [hS]; exact h4
      · rw [hS]; exact h5
      · intro y hy
        rw [hS] at hy
        rw [vis_W, if_neg (fun q => hy (by rw [q.1]; exact hm)), Nat.add_zero]
        exact h6 y hy
      · rw [hS]; exact h7
      · intro K
        rw [hmeet, cl4_s, jn2_d, if_neg (nI_pos (by omega)), n_lit 640, if_pos (nI_lt (by omega) (by decide)), if_neg (fun q => by have := (nI_eq (a := j) (b := z.1.length) (by omega) (by omega)).mp q; omega), ald_in (by omega) (by decide), h3j.1, hdep, if_pos rfl, ald_in (by omega) (by decide), ald_in (by omega) (by decide), astI_in (by omega) (by decide)]
    · have hmem : (e.1, d + 1) ∉ (vis (d + 1) w z e.1).1 := by
        rw [hS]
        intro q
        exact hdep (nd_uni h4 he q)
      have hV : ∀ y, (vis (d + 1) w z e.1).2 y = z.2 y := fun y => by rw [vis_W, if_neg (fun q => hmem q.2), Nat.add_zero]
      refine ⟨slots, rows, nI z.1.length, depths, ways, ⟨?_, ?_, ?_, ?_, ?_, ?_, ?_, h8, h9⟩, ?_⟩
      · unfold codes; rw [hS]; exact h1
      · rw [hS]
      · intro i2 e2 he2
        rw [hS] at he2
        rw [hV]
        exact h3 i2 e2 he2
      · rw [hS]; exact h4
      · rw [hS]; exact h5
      · intro y hy
        rw [hS] at hy
        rw [hV]; exact h6 y hy
      · rw [hS]; exact h7
      · intro K
        rw [hmeet, cl4_s, jn2_d, if_neg (nI_pos (by omega)), n_lit 640, if_pos (nI_lt (by omega) (by decide)), if_neg (fun q => by have := (nI_eq (a := j) (b := z.1.length) (by omega) (by omega)).mp q; omega), ald_in (by omega) (by decide), h3j.1, if_neg (fun q => hdep ((nI_eq (by omega) (by omega)).mp q))]
  · have hnc : enc8 x ∉ codes z := fun q => hm ((codes_mem h8 h5 hxr).mp q)
    obtain ⟨slots', rows', hmeet, hTI⟩ := meet_new h1 hnc (by rw [codes_len]; omega) (by omega)
    rw [codes_len] at hmeet
    have hS : (vis (d + 1) w z x).1 = z.1 ++ [(x, d + 1)] := by rw [vis_S, if_neg hm]
    have hmem : (x, d + 1) ∈ (vis (d + 1) w z x).1 := by rw [hS]; simp
    have h3i := h3 i _ hp
    refine ⟨slots', rows', nI (z.1.length + 1), upd depths z.1.length (nI (d + 1)), upd ways z.1.length (ways i), ⟨?_, ?_, ?_, ?_, ?_, ?_, ?_, h8, h9⟩, ?_⟩
    · unfold codes; rw [hS, List.map_append]; exact hTI
    · rw [hS]; simp
    · intro i2 e2 he2
      rw [hS] at he2
      rw [vis_W]
      unfold upd
      by_cases hij : i2 = z.1.length
      · rw [hij, List.getElem?_append_right (Nat.le_refl _), Nat.sub_self] at he2
        simp at he2
        subst he2
        rw [if_pos hij, if_pos hij, if_pos ⟨rfl, hmem⟩, h6 x hm, Nat.zero_add, h3i.2, hw]
        exact ⟨rfl, rfl⟩
      · have hi2 : i2 < z.1.length := by
          have := (List.getElem?_eq_some_iff.mp he2).1
          rw [List.length_append, List.length_singleton] at this; omega
        rw [List.getElem?_append_left hi2] at he2
        rw [if_neg hij, if_neg hij, if_neg (fun q => hm (by rw [← q.1]; exact List.mem_map.mpr ⟨e2, List.mem_of_getElem? he2, rfl⟩)), Nat.add_zero]
        exact h3 i2 e2 he2
    · exact vis_nd h4
    · intro e2 he2
      rw [hS] at he2
      rcases List.mem_append.mp he2 with q | q
      · exact h5 e2 q
      · simp at q; rw [q]; exact hx
    · intro y hy
      rw [hS, List.map_append] at hy
      have hy1 : y ∉ z.1.map Prod.fst := fun q => hy (List.mem_append_left _ q)
      have hy2 : y ≠ x := fun q => hy (List.mem_append_right _ (by simp [q]))
      rw [vis_W, if_neg (fun q => hy2 q.1), Nat.add_zero]
      exact h6 y hy1
    · intro i2 e2 he2
      rw [hS] at he2
      by_cases hij : i2 = z.1.length
      · rw [hij, List.getElem?_append_right (Nat.le_refl _), Nat.sub_self] at he2
        simp at he2
        subst he2
        show d + 1 ≤ i2
        have : d ≤ i := hdi
        omega
      · have hi2 : i2 < z.1.length := by
          have := (List.getElem?_eq_some_iff.mp he2).1
          rw [List.length_append, List.length_singleton] at this; omega
        rw [List.getElem?_append_left hi2] at he2
        exact h7 i2 e2 he2
    · intro K
      rw [hmeet, cl4_s, jn2_d, if_neg (nI_pos (by omega)), n_lit 640, if_pos (nI_lt (by omega) (by decide)), if_pos rfl, astI_in (by omega) (by decide), ald_in (by omega) (by decide), astI_in (by omega) (by decide)]
theorem vis_keep {d w : Nat} {z : Bz} {x p : Nd} {d0 : Nat} (hn : (z.1.map Prod.fst).Nodup) (hp : (p, d0) ∈ z.1) (hd : d0 ≠ d) : (vis d w z x).2 p = z.2 p := by
  rw [vis_W]
  by_cases h : p = x ∧ (x, d) ∈ (vis d w z x).1
  · exfalso
    have hpx : (p, d) ∈ (vis d w z x).1 := by rw [h.1]; exact h.2
    have hm : x ∈ z.1.map Prod.fst := by rw [← h.1]; exact List.mem_map.mpr ⟨_, hp, rfl⟩
    rw [vis_S, if_pos hm] at hpx
    exact hd (nd_uni hn hp hpx)
  · rw [if_neg h, Nat.add_zero]
theorem vis_at {d w : Nat} {z : Bz} {x : Nd} {i : Nat} {e : Nd × Nat} (h : z.1[i]? = some e) : (vis d w z x).1[i]? = some e := by
  rw [vis_S]
  split
  · exact h
  · rw [List.getElem?_append_left (List.getElem?_eq_some_iff.mp h).1]; exact h
theorem goOn_eq {n : Nat} {g : Fl} {sense : Bool} {r0 : Nd} {slots rows : A32} {tsize : Int32} {depths ways : A32} {z : Bz} {i : Nat} {p : Nd} {d : Nat} (h : SR n r0 slots rows tsize depths ways z) (hp : z.1[i]? = some (p, d)) :
    ∃ slots' rows' tsize' depths' ways', SR n r0 slots' rows' tsize' depths' ways' (bstep (nxt n g sense) z i) ∧ f_X5_goOn slots rows tsize depths ways (nI i) (lN (mask n g p sense)) = some (slots', rows', tsize', depths', ways') := by
  have hlen := h.len
  have hi := (List.getElem?_eq_some_iff.mp hp).1
  have hn := h.2.2.2.2.2.2.2.2
  have hcp := h.2.2.2.2.1 _ (List.mem_of_getElem? hp)
  have hpr := hcp.rw h.2.2.2.2.2.2.2.1
  have hdi := h.2.2.2.2.2.2.1 i _ hp
  have hb : bstep (nxt n g sense) z i = viss (d + 1) (z.2 p) z (nxt n g sense p) := by unfold bstep; rw [hp]
  rw [hb]
  unfold f_X5_goOn
  rw [if_neg (nI_pos (by omega)), if_pos (show nI i < 640 from nI_lt (b := 640) (by omega) (by decide)), ald_in (by omega) (by decide), nmv_d, show depths i = nI d from (h.2.2.1 i _ hp).1, nI_1, bitCount_eq (mask_lt hn), cl1_s, mask_bits hn, List.length_map]
  have hmlen : (mvs n g p sense).length ≤ 64 := by
    have h1 : (bitsOf (mask n g p sense)).length ≤ 64 := by
      unfold bitsOf
      have := List.length_filter_le (fun i => (mask n g p sense).testBit i) (List.range 64)
      rwa [List.length_range] at this
    rwa [mask_bits hn, List.length_map] at h1
  show ∃ slots' rows' tsize' depths' ways', _ ∧ _
  refine lp7_5_inv (fun x5 x8 s1 r1 t1 d1 w1 => ∃ dn rs y, mvs n g p sense = dn ++ rs ∧ x8 = nI dn.length ∧ x5 = lN y ∧ y < 2 ^ 64 ∧ bitsOf y = rs.map mc ∧ SR n r0 s1 r1 t1 d1 w1 (viss (d + 1) (z.2 p) z (dn.map (fun m => mvd p m.1 m.2))) ∧ (viss (d + 1) (z.2 p) z (dn.map (fun m => mvd p m.1 m.2))).1[i]? = some (p, d) ∧ (viss (d + 1) (z.2 p) z (dn.map (fun m => mvd p m.1 m.2))).2 p = z.2 p) (fun _ x8 _ _ _ _ _ => 64 - x8.toNatClampNeg) (fun o => ∃ slots' rows' tsize' depths' ways', SR n r0 slots' rows' tsize' depths' ways' (viss (d + 1) (z.2 p) z (nxt n g sense p)) ∧ o = some (slots', rows', tsize', depths', ways')) ?_ fuel _ _ _ _ _ _ _ ⟨[], mvs n g p sense, _, rfl, rfl, rfl, mask_lt hn, mask_bits hn, h, hp, rfl⟩ (fuel_gt (by omega))
  intro x5 x8 s1 r1 t1 d1 w1 nx ⟨dn, rs, y, e1, e8, e5, hy, hbits, hSR, hpi, hpw⟩ hnx
  subst e8; subst e5
  have hl2 : (mvs n g p sense).length = dn.length + rs.length := by rw [e1, List.length_append]
  cases rs with
  | nil =>
    rw [if_pos (nI_le (by rw [hl2]; simp) (by omega))]
    refine ⟨s1, r1, t1, d1, w1, ?_, rfl⟩
    have : dn = mvs n g p sense := by rw [e1, List.append_nil]
    rw [this] at hSR
    exact hSR
  | cons m rs =>
    rw [List.length_cons] at hl2
    rw [List.map_cons] at hbits
    have hmm : m ∈ mvs n g p sense := by rw [e1]; exact List.mem_append_right _ List.mem_cons_self
    obtain ⟨hm1, hm2⟩ := (mem_mvs hn).mp hmm
    have hto := may_to hm1 hm2
    obtain ⟨y', hy', hcl, hb'⟩ := clear_eq hy hbits
    have hlen2 := hSR.len
    have hil : i < (viss (d + 1) (z.2 p) z (dn.map (fun m => mvd p m.1 m.2))).1.length := (List.getElem?_eq_some_iff.mp hpi).1
    have hTr := hSR.1
    obtain ⟨sT, hTs⟩ := hTr
    have hrow : r1 i = nI (enc8 p) := by
      have hca := codes_at hpi
      rw [hTs.2.1 i hca.1, hca.2]
    rw [if_neg (fun q => by have := (nI_leI (by omega) (by omega)).mp q; omega), low_eq hy hbits, cl1_s, nmv_d, hcl, ald_in (by omega) (by decide), hrow, show mc m = 8 * m.1 + m.2 from rfl, moved_row hpr.d (by rw [hpr.1]; exact hn) (by rw [hpr.1]; exact hm1) (by rw [hpr.1]; exact hto.1) hto.2.2.1 hto.2.1, cl1_s]
    have hcx : Cls r0 (mvd p m.1 m.2) := hcp.mv hpr hm1 hm2
    obtain ⟨s2, r2, t2, d2, w2, hSR2, hK⟩ := goOn_one (β := A32 × A32 × Int32 × A32 × A32) hSR hpi hpw.symm hcx
    rw [hK (fun a b c d e => nmv (α := Int32) (nI dn.length + 1) fun x8_35 => nx (lN y') x8_35 a b c d e), nmv_d, nI_1]
    have ev : viss (d + 1) (z.2 p) z ((dn ++ [m]).map (fun m => mvd p m.1 m.2)) = vis (d + 1) (z.2 p) (viss (d + 1) (z.2 p) z (dn.map (fun m => mvd p m.1 m.2))) (mvd p m.1 m.2) := by
      unfold viss
      rw [List.map_append, List.foldl_append]; rfl
    refine hnx _ _ _ _ _ _ _ ⟨dn ++ [m], rs, y', by rw [e1]; simp, by simp, rfl, hy', hb', by rw [ev]; exact hSR2, by rw [ev]; exact vis_at hpi, ?_⟩ (by rw [nI_clamp (by omega), nI_clamp (by omega)]; omega)
    rw [ev, vis_keep hSR.2.2.2.1 (List.mem_of_getElem? hpi) (by omega), hpw]
