/-! ===== the reference: all rows that can be come to ===== -/
abbrev A64 : Type := Nat → Int64
def FI (far : A32) (ways : A64) (queue : A32) (qe : Int32) : Prop := ∃ q : List Nat, qe = nI q.length ∧ q.length ≤ 630 ∧ (∀ i, i < q.length → queue i = nI (q.getD i 0)) ∧ (∀ c ∈ q, c < 78125) ∧ ∀ c, c < 78125 → c ∉ q → far c = 0 ∧ ways c = 0
def MR (n : Nat) (r0 : Nd) (far : A32) (ways : A64) (queue : A32) (qe : Int32) (z : Bz) : Prop :=
  qe = nI z.1.length ∧ (∀ (i : Nat) (e : Nd × Nat), z.1[i]? = some e → queue i = nI (enc5 e.1) ∧ far (enc5 e.1) = nI (e.2 + 1) ∧ ways (enc5 e.1) = lN (z.2 e.1)) ∧ (∀ c, c < 78125 → (∀ e ∈ z.1, enc5 e.1 ≠ c) → far c = 0 ∧ ways c = 0) ∧ (z.1.map Prod.fst).Nodup ∧ (∀ e ∈ z.1, Cls r0 e.1) ∧ (∀ x, x ∉ z.1.map Prod.fst → z.2 x = 0) ∧ (∀ (i : Nat) (e : Nd × Nat), z.1[i]? = some e → e.2 ≤ i) ∧ Rw n r0 ∧ n ≤ 7
theorem MR.len {n : Nat} {r0 : Nd} {far : A32} {ways : A64} {queue : A32} {qe : Int32} {z : Bz} (h : MR n r0 far ways queue qe z) : z.1.length ≤ 630 := by
  obtain ⟨h1, h2, h3, h4, h5, h6, h7, h8, h9⟩ := h
  have := card_le h8 h9 h4 (fun x hx => by
    obtain ⟨e, he, rfl⟩ := List.mem_map.mp hx
    exact h5 e he)
  rwa [List.length_map] at this
theorem MR.fi {n : Nat} {r0 : Nd} {far : A32} {ways : A64} {queue : A32} {qe : Int32} {z : Bz} (h : MR n r0 far ways queue qe z) : FI far ways queue qe := by
  have hl := h.len
  obtain ⟨h1, h2, h3, h4, h5, h6, h7, h8, h9⟩ := h
  refine ⟨z.1.map (fun e => enc5 e.1), by rw [List.length_map]; exact h1, by rw [List.length_map]; exact hl, fun i hi => ?_, fun c hc => ?_, fun c hc hn => ?_⟩
  · rw [List.length_map] at hi
    have := (h2 i _ (List.getElem?_eq_getElem hi)).1
    rw [this, List.getD_eq_getElem?_getD, List.getElem?_map, List.getElem?_eq_getElem hi]; rfl
  · obtain ⟨e, he, rfl⟩ := List.mem_map.mp hc
    exact enc5_78 ((h5 e he).rw h8) h9
  · exact h3 c hc (fun e he q => hn (List.mem_map.mpr ⟨e, he, q⟩))
theorem come_one {n : Nat} {r0 : Nd} {far : A32} {ways : A64} {queue : A32} {qe : Int32} {z : Bz} {i : Nat} {p x : Nd} {d w : Nat} (h : MR n r0 far ways queue qe z) (hp : z.1[i]? = some (p, d)) (hw : w = z.2 p) (hx : Cls r0 x) :
    ∃ far' ways' queue' qe', f_X8_come far ways queue qe (nI (enc5 x)) (nI (enc5 p)) = some (far', ways', queue', qe') ∧ MR n r0 far' ways' queue' qe' (vis (d + 1) w z x) := by
  have hlen := h.len
  obtain ⟨h1, h2, h3, h4, h5, h6, h7, h8, h9⟩ := h
  have hxr := hx.rw h8
  have hx78 := enc5_78 hxr h9
  have hpm := List.mem_of_getElem? hp
  have hpc : Cls r0 p := h5 (p, d) hpm
  have hpr := hpc.rw h8
  have hp78 := enc5_78 hpr h9
  have hi := (List.getElem?_eq_some_iff.mp hp).1
  have hdi : d ≤ i := h7 i _ hp
  have h2i : queue i = nI (enc5 p) ∧ far (enc5 p) = nI (d + 1) ∧ ways (enc5 p) = lN (z.2 p) := h2 i _ hp
  have inj : ∀ y : Nd, Cls r0 y → enc5 y = enc5 x → y = x := fun y hy e => (hy.rw h8).inj5 hxr e
  subst h1
  unfold f_X8_come
  rw [ald_in hx78 (by decide), jn3_d]
  by_cases hm : x ∈ z.1.map Prod.fst
  · obtain ⟨e, he, rfl⟩ := List.mem_map.mp hm
    obtain ⟨j, hj⟩ := List.getElem?_of_mem he
    have hjl := (List.getElem?_eq_some_iff.mp hj).1
    have hej := h7 j e hj
    have h2j := h2 j e hj
    have hS : (vis (d + 1) w z e.1).1 = z.1 := by rw [vis_S, if_pos hm]
    rw [h2j.2.1, if_neg (nI_ne0 (by omega) (by omega))]
    dsimp only
    rw [ald_in hx78 (by decide), jn1_d, if_neg (nI_m1 (by omega)), ald_in hx78 (by decide), ald_in hp78 (by decide), h2i.2.1, h2j.2.1, nI_1]
    have hmr : ∀ (s : Int64) (v : Nat), s = lN v → (∀ y, (vis (d + 1) w z e.1).2 y = if y = e.1 then z.2 e.1 + v else z.2 y) → ∃ far' ways' queue' qe', (astL 78125 ways (nI (enc5 e.1)) (ways (enc5 e.1) + s) fun m_ways_9 => some (far, m_ways_9, queue, nI z.1.length)) = some (far', ways', queue', qe') ∧ MR n r0 far' ways' queue' qe' (vis (d + 1) w z e.1) := by
      intro s v hs hV
      rw [astL_in hx78 (by decide)]
      refine ⟨_, _, _, _, rfl, by rw [hS], fun i2 e2 he2 => ?_, fun c hc hn => ?_, by rw [hS]; exact h4, by rw [hS]; exact h5, fun y hy => ?_, by rw [hS]; exact h7, h8, h9⟩
      · rw [hS] at he2
        have g := h2 i2 e2 he2
        refine ⟨g.1, g.2.1, ?_⟩
        unfold vp_updL
        rw [hV]
        by_cases q : e2.1 = e.1
        · rw [if_pos (by rw [q]), if_pos q, h2j.2.2, hs, lN_add]
        · rw [if_neg (fun z => q (inj e2.1 (h5 e2 (List.mem_of_getElem? he2)) z)), if_neg q]; exact g.2.2
      · rw [hS] at hn
        have g := h3 c hc hn
        refine ⟨g.1, ?_⟩
        unfold vp_updL
        rw [if_neg (fun q => hn e he q.symm)]; exact g.2
      · rw [hS] at hy
        rw [hV, if_neg (fun q => hy (by rw [q]; exact hm))]
        exact h6 y hy
    by_cases hdep : e.2 = d + 1
    · rw [if_pos (show nI (e.2 + 1) = nI (d + 1 + 1) by rw [hdep]), ald_in hp78 (by decide), h2i.2.2]
      refine hmr _ (z.2 p) rfl (fun y => ?_)
      have hmem : (e.1, d + 1) ∈ (vis (d + 1) w z e.1).1 := by rw [hS, ← hdep]; exact he
      rw [vis_W]
      by_cases q : y = e.1
      · rw [if_pos ⟨q, hmem⟩, if_pos q, q, hw]
      · rw [if_neg (fun z => q z.1), if_neg q, Nat.add_zero]
    · rw [if_neg (fun q => hdep (by have := (nI_eq (by omega) (by omega)).mp q; omega))]
      refine hmr _ 0 rfl (fun y => ?_)
      have hmem : (e.1, d + 1) ∉ (vis (d + 1) w z e.1).1 := by rw [hS]; intro q; exact hdep (nd_uni h4 he q)
      rw [vis_W, if_neg (fun q => hmem q.2), Nat.add_zero, Nat.add_zero]
      by_cases q : y = e.1
      · rw [if_pos q, q]
      · rw [if_neg q]
  · have hpx : enc5 p ≠ enc5 x := fun q => hm (by rw [← inj p hpc q]; exact List.mem_map.mpr ⟨_, hpm, rfl⟩)
    have hne : ∀ e ∈ z.1, enc5 e.1 ≠ enc5 x := fun e he q => hm (by rw [← inj e.1 (h5 e he) q]; exact List.mem_map.mpr ⟨e, he, rfl⟩)
    have h0 := h3 _ hx78 hne
    have hS : (vis (d + 1) w z x).1 = z.1 ++ [(x, d + 1)] := by rw [vis_S, if_neg hm]
    have hmem : (x, d + 1) ∈ (vis (d + 1) w z x).1 := by rw [hS]; simp
    rw [h0.1, if_pos rfl, jn1_d, if_neg (nI_m1 (by omega)), ald_in hp78 (by decide), h2i.2.1, nI_1]
    dsimp only
    rw [astI_in hx78 (by decide), astI_in (by omega) (by decide), nmv_d, nI_1]
    have u1 : upd far (enc5 x) (nI (d + 1 + 1)) (enc5 x) = nI (d + 1 + 1) := pk_us
    have u2 : upd far (enc5 x) (nI (d + 1 + 1)) (enc5 p) = nI (d + 1) := by rw [pk_un hpx]; exact h2i.2.1
    refine ⟨upd far (enc5 x) (nI (d + 1 + 1)), vp_updL ways (enc5 x) (lN (z.2 p)), upd queue z.1.length (nI (enc5 x)), nI (z.1.length + 1), ?_, ?_⟩
    · show (ald 78125 ways (nI (enc5 x)) _) = _
      rw [ald_in hx78 (by decide), jn1_d, if_neg (nI_m1 (by omega)), ald_in hx78 (by decide), ald_in hp78 (by decide), u1, u2, nI_1, if_pos rfl, ald_in hp78 (by decide), h2i.2.2, h0.2]
      show astL 78125 ways (nI (enc5 x)) (0 + lN (z.2 p)) _ = _
      rw [astL_in hx78 (by decide), show (0 : Int64) + lN (z.2 p) = lN (z.2 p) from Int64.zero_add _]
    · refine ⟨by rw [hS]; simp, fun i2 e2 he2 => ?_, fun c hc hn => ?_, vis_nd h4, fun e2 he2 => ?_, fun y hy => ?_, fun i2 e2 he2 => ?_, h8, h9⟩
      · rw [hS] at he2
        rw [vis_W]
        by_cases hij : i2 = z.1.length
        · rw [hij, List.getElem?_append_right (Nat.le_refl _), Nat.sub_self] at he2
          simp at he2
          subst he2
          rw [if_pos ⟨rfl, hmem⟩, h6 x hm, Nat.zero_add, hij]
          exact ⟨pk_us, pk_us, by rw [hw]; exact pk_uLs⟩
        · have hi2 : i2 < z.1.length := by
            have := (List.getElem?_eq_some_iff.mp he2).1
            rw [List.length_append, List.length_singleton] at this; omega
          rw [List.getElem?_append_left hi2] at he2
          have g := h2 i2 e2 he2
          have g2 := hne e2 (List.mem_of_getElem? he2)
          rw [pk_un hij, pk_un g2, pk_uLn g2, if_neg (fun q => hm (by rw [← q.1]; exact List.mem_map.mpr ⟨e2, List.mem_of_getElem? he2, rfl⟩)), Nat.add_zero]
          exact g
      · rw [hS] at hn
        have g := h3 c hc (fun e he => hn e (List.mem_append_left _ he))
        have g2 : c ≠ enc5 x := fun q => hn (x, d + 1) (List.mem_append_right _ (by simp)) q.symm
        rw [pk_un g2, pk_uLn g2]
        exact g
      · rw [hS] at he2
        rcases List.mem_append.mp he2 with q | q
        · exact h5 e2 q
        · simp at q; rw [q]; exact hx
      · rw [hS, List.map_append] at hy
        have hy1 : y ∉ z.1.map Prod.fst := fun q => hy (List.mem_append_left _ q)
        have hy2 : y ≠ x := fun q => hy (List.mem_append_right _ (by simp [q]))
        rw [vis_W, if_neg (fun q => hy2 q.1), Nat.add_zero]
        exact h6 y hy1
      · rw [hS] at he2
        by_cases hij : i2 = z.1.length
        · rw [hij, List.getElem?_append_right (Nat.le_refl _), Nat.sub_self] at he2
          simp at he2
          subst he2
          show d + 1 ≤ i2
          omega
        · have hi2 : i2 < z.1.length := by
            have := (List.getElem?_eq_some_iff.mp he2).1
            rw [List.length_append, List.length_singleton] at this; omega
          rw [List.getElem?_append_left hi2] at he2
          exact h7 i2 e2 he2
theorem come_first {n : Nat} {r : Nd} {far : A32} {ways : A64} {queue : A32} {succ : Nd → List Nd} (hr : Rw n r) (hn : n ≤ 7) (h0 : ∀ c, c < 78125 → far c = 0 ∧ ways c = 0) :
    ∃ far' ways' queue' qe', f_X8_come far ways queue 0 (nI (enc5 r)) (-1) = some (far', ways', queue', qe') ∧ MR n r far' ways' queue' qe' (bz succ r 0) := by
  have hx78 := enc5_78 hr hn
  have h1 := h0 _ hx78
  refine ⟨upd far (enc5 r) (nI 1), vp_updL ways (enc5 r) (lN 1), upd queue 0 (nI (enc5 r)), nI 1, ?_, ?_⟩
  · unfold f_X8_come
    rw [ald_in hx78 (by decide), jn3_d, h1.1, if_pos rfl, jn1_d, if_pos rfl]
    dsimp only
    rw [astI_in hx78 (by decide)]
    rw [show (0 : Int32) = nI 0 from rfl, astI_in (by decide) (by decide), nmv_d]
    show (ald 78125 ways (nI (enc5 r)) _) = _
    rw [ald_in hx78 (by decide), jn1_d, if_pos rfl, h1.2]
    show astL 78125 ways (nI (enc5 r)) (0 + 1) _ = _
    rw [astL_in hx78 (by decide)]
    rfl
  · have hone : ∀ (i : Nat) (e : Nd × Nat), (bz succ r 0).1[i]? = some e → i = 0 ∧ e = (r, 0) := by
      intro i e he
      have h1 := (List.getElem?_eq_some_iff.mp he).1
      have h2 : i = 0 := by simpa [bz] using h1
      subst h2
      exact ⟨rfl, by simpa [bz] using he.symm⟩
    refine ⟨rfl, fun i e he => ?_, fun c hc hne => ?_, by simp [bz], fun e he => ?_, fun x hx => ?_, fun i e he => ?_, hr, hn⟩
    · obtain ⟨rfl, rfl⟩ := hone i e he
      refine ⟨pk_us, pk_us, ?_⟩
      show vp_updL ways (enc5 r) (lN 1) (enc5 r) = lN (if r = r then 1 else 0)
      rw [pk_uLs, if_pos rfl]
    · have g2 : c ≠ enc5 r := fun q => hne (r, 0) (by simp [bz]) q.symm
      rw [pk_un g2, pk_uLn g2]; exact h0 c hc
    · have : e = (r, 0) := by simpa [bz] using he
      rw [this]; exact Cls.refl hr
    · have : x ≠ r := by simpa [bz] using hx
      show (if x = r then 1 else 0) = 0
      rw [if_neg this]
    · rw [(hone i e he).2]; exact Nat.zero_le _
theorem layFar_eq {n : Nat} {g : Fl} {m : A32} {r : Nd} {far : A32} {ways : A64} {queue : A32} {qe : Int32} (hm : rowAt m r) (hr : Rw n r) (hn : n ≤ 7) (hF : FI far ways queue qe) :
    ∃ m' far' ways' queue' qe', f_X8_layFar (bI (gA g)) (bI (gB g)) (bI (gR g)) (bI (gT g)) (nI n) m far ways queue qe = some (m', far', ways', queue', qe') ∧ rowAt m' r ∧ MR n r far' ways' queue' qe' (zf n g true r) := by
  obtain ⟨q, hqe, hql, hq1, hq2, hq3⟩ := hF
  subst hqe
  unfold f_X8_layFar
  refine lp3_2_inv (fun (x1 : Int32) (f1 : A32) (w1 : A64) => ∃ k, k ≤ q.length ∧ x1 = nI k ∧ ∀ c, c < 78125 → c ∉ q.drop k → f1 c = 0 ∧ w1 c = 0) (fun x1 _ _ => q.length - x1.toNatClampNeg) (fun o => ∃ m' far' ways' queue' qe', o = some (m', far', ways', queue', qe') ∧ rowAt m' r ∧ MR n r far' ways' queue' qe' (zf n g true r)) ?_ fuel 0 far ways ⟨0, Nat.zero_le _, rfl, hq3⟩ (fuel_gt (by omega))
  intro x1 f1 w1 nx ⟨k, hk, e1, hcl⟩ hnx
  subst e1
  by_cases hc : q.length ≤ k
  · rw [if_pos (nI_le hc (by omega))]
    rw [List.drop_of_length_le hc] at hcl
    have hcl : ∀ c, c < 78125 → f1 c = 0 ∧ w1 c = 0 := fun c h => hcl c h (by simp)
    clear hnx nx
    obtain ⟨f2, w2, q2, t2, hco, hMR⟩ := come_first (queue := queue) (succ := nxt n g true) hr hn hcl
    show ∃ m' far' ways' queue' qe', (cl1 (f_X8_codeOf (nI n) m) _) = _ ∧ _
    rw [codeOf_eq hm hr hn, cl1_s, hco, cl4_s]
    refine lp6_5_inv (fun x1 m1 f1 w1 q1 t1 => ∃ i, x1 = nI i ∧ MR n r f1 w1 q1 t1 (bz (nxt n g true) r i) ∧ ∀ j, j < i → j < (bz (nxt n g true) r j).1.length) (fun x1 _ _ _ _ _ => 640 - x1.toNatClampNeg) (fun o => ∃ m' far' ways' queue' qe', o = some (m', far', ways', queue', qe') ∧ rowAt m' r ∧ MR n r far' ways' queue' qe' (zf n g true r)) ?_ fuel 0 m f2 w2 q2 t2 ⟨0, rfl, hMR, fun j hj => absurd hj (Nat.not_lt_zero _)⟩ (fuel_gt (by omega))
    intro x1 m1 f1 w1 q1 t1 nx ⟨i, e1, hMR, hpr⟩ hnx
    subst e1
    have hlen := hMR.len
    have hile := (bz_inv i hpr).2.2.2.2.2.2.2.2.1
    have hts := hMR.1
    rw [hts]
    by_cases hc : (bz (nxt n g true) r i).1.length ≤ i
    · rw [if_pos (nI_le hc (by omega))]
      have hz : zf n g true r = bz (nxt n g true) r i := by
        have := bz_stop (succ := nxt n g true) (s := r) (N := i) hc (640 - i)
        rw [show i + (640 - i) = 640 by omega] at this
        exact this
      have h0 := (bz_inv i hpr).2.1
      have hq0 := (hMR.2.1 0 _ h0).1
      obtain ⟨m2, hl, hm2⟩ := layRow_eq (m := m1) hr hn
      refine ⟨m2, f1, w1, q1, nI (bz (nxt n g true) r i).1.length, ?_, hm2, ?_⟩
      · show (ald 78125 q1 0 _) = _
        rw [show (0 : Int32) = nI 0 from rfl, ald_in (by decide) (by decide), hq0, hl, cl1_s]
      · rw [hz, ← hts]; exact hMR
    · have hil : i < (bz (nxt n g true) r i).1.length := by omega
      rw [if_neg (fun q => hc ((nI_leI (by omega) (by omega)).mp q)), ald_in (by omega) (by decide)]
      obtain ⟨⟨p, d⟩, hpe⟩ : ∃ e, (bz (nxt n g true) r i).1[i]? = some e := ⟨_, List.getElem?_eq_getElem hil⟩
      have hpm := List.mem_of_getElem? hpe
      have hcp : Cls r p := hMR.2.2.2.2.1 (p, d) hpm
      have hpw := hcp.rw hr
      have hqi : q1 i = nI (enc5 p) := (hMR.2.1 i _ hpe).1
      obtain ⟨m2, hl, hm2⟩ := layRow_eq (m := m1) hpw hn
      rw [hqi, hl, cl1_s]
      -- the two loops over from and to
      have hb : bz (nxt n g true) r (i + 1) = viss (d + 1) ((bz (nxt n g true) r i).2 p) (bz (nxt n g true) r i) (nxt n g true p) := by
        show bstep _ _ _ = _
        unfold bstep; rw [hpe]
      have hgo : ∀ l, ∀ f1 w1 q1 t1, l = (mvp n g p n 0) → MR n r f1 w1 q1 t1 (viss (d + 1) ((bz (nxt n g true) r i).2 p) (bz (nxt n g true) r i) (l.map (fun m => mvd p m.1 m.2))) → ∃ m' far' ways' queue' qe', (nmv (α := Int32) (nI i + 1) fun x1_77 => nx x1_77 m2 f1 w1 q1 t1) = some (m', far', ways', queue', qe') ∧ rowAt m' r ∧ MR n r far' ways' queue' qe' (zf n g true r) := by
        intro l f1 w1 q1 t1 hl hM
        rw [nmv_d, nI_1]
        rw [hl, mvp_all hn] at hM
        refine hnx _ _ _ _ _ _ ⟨i + 1, rfl, by rw [hb]; exact hM, fun j hj => ?_⟩ (by rw [nI_clamp (by omega), nI_clamp (by omega)]; omega)
        rcases Nat.lt_or_ge j i with q | q
        · exact hpr j q
        · rw [show j = i by omega]; exact hil
      rw [← hts]
      refine lp5_4_inv (fun x3 f1 w1 q1 t1 => ∃ f, f ≤ n ∧ x3 = nI f ∧ MR n r f1 w1 q1 t1 (viss (d + 1) ((bz (nxt n g true) r i).2 p) (bz (nxt n g true) r i) ((mvp n g p f 0).map (fun m => mvd p m.1 m.2))) ∧ (viss (d + 1) ((bz (nxt n g true) r i).2 p) (bz (nxt n g true) r i) ((mvp n g p f 0).map (fun m => mvd p m.1 m.2))).1[i]? = some (p, d) ∧ (viss (d + 1) ((bz (nxt n g true) r i).2 p) (bz (nxt n g true) r i) ((mvp n g p f 0).map (fun m => mvd p m.1 m.2))).2 p = (bz (nxt n g true) r i).2 p) (fun x3 _ _ _ _ => n - x3.toNatClampNeg) (fun o => ∃ m' far' ways' queue' qe', o = some (m', far', ways', queue', qe') ∧ rowAt m' r ∧ MR n r far' ways' queue' qe' (zf n g true r)) ?_ fuel 0 f1 w1 q1 t1 ⟨0, Nat.zero_le _, rfl, hMR, hpe, rfl⟩ (fuel_gt (by omega))
      intro x3 f1 w1 q1 t1 nx3 ⟨f, hf, e3, hM1, hp1, hw1⟩ hnx3
      subst e3
      by_cases hcf : n ≤ f
      · rw [if_pos (nI_le hcf (by omega))]
        have : f = n := by omega
        subst this
        exact hgo _ _ _ _ _ rfl hM1
      · rw [if_neg (fun q => hcf ((nI_leI (by omega) (by omega)).mp q))]
        refine lp5_4_inv (fun x4 f1 w1 q1 t1 => ∃ t, t ≤ n ∧ x4 = nI t ∧ MR n r f1 w1 q1 t1 (viss (d + 1) ((bz (nxt n g true) r i).2 p) (bz (nxt n g true) r i) ((mvp n g p f t).map (fun m => mvd p m.1 m.2))) ∧ (viss (d + 1) ((bz (nxt n g true) r i).2 p) (bz (nxt n g true) r i) ((mvp n g p f t).map (fun m => mvd p m.1 m.2))).1[i]? = some (p, d) ∧ (viss (d + 1) ((bz (nxt n g true) r i).2 p) (bz (nxt n g true) r i) ((mvp n g p f t).map (fun m => mvd p m.1 m.2))).2 p = (bz (nxt n g true) r i).2 p) (fun x4 _ _ _ _ => n - x4.toNatClampNeg) (fun o => ∃ m' far' ways' queue' qe', o = some (m', far', ways', queue', qe') ∧ rowAt m' r ∧ MR n r far' ways' queue' qe' (zf n g true r)) ?_ fuel 0 f1 w1 q1 t1 ⟨0, Nat.zero_le _, rfl, hM1, hp1, hw1⟩ (fuel_gt (by omega))
        intro x4 f1 w1 q1 t1 nx4 ⟨t, ht, e4, hM2, hp2, hw2⟩ hnx4
        subst e4
        by_cases hct : n ≤ t
        · rw [if_pos (nI_le hct (by omega))]
          have : t = n := by omega
          subst this
          rw [mvp_f] at hM2 hp2 hw2
          show ∃ m' far' ways' queue' qe', (nx3 (nI f + 1) f1 w1 q1 t1) = _ ∧ _
          rw [nI_1]
          exact hnx3 _ _ _ _ _ ⟨f + 1, by omega, rfl, hM2, hp2, hw2⟩ (by rw [nI_clamp (by omega), nI_clamp (by omega)]; omega)
        · rw [if_neg (fun q => hct ((nI_leI (by omega) (by omega)).mp q)), mayMove_eq hm2 hpw hn (by omega) (by omega), cl1_s, jn4_d]
          have hnext : ∀ f2 w2 q2 t2, MR n r f2 w2 q2 t2 (viss (d + 1) ((bz (nxt n g true) r i).2 p) (bz (nxt n g true) r i) ((mvp n g p f (t + 1)).map (fun m => mvd p m.1 m.2))) → (viss (d + 1) ((bz (nxt n g true) r i).2 p) (bz (nxt n g true) r i) ((mvp n g p f (t + 1)).map (fun m => mvd p m.1 m.2))).1[i]? = some (p, d) → (viss (d + 1) ((bz (nxt n g true) r i).2 p) (bz (nxt n g true) r i) ((mvp n g p f (t + 1)).map (fun m => mvd p m.1 m.2))).2 p = (bz (nxt n g true) r i).2 p → ∃ m' far' ways' queue' qe', (nmv (α := Int32) (nI t + 1) fun x4_65 => nx4 x4_65 f2 w2 q2 t2) = some (m', far', ways', queue', qe') ∧ rowAt m' r ∧ MR n r far' ways' queue' qe' (zf n g true r) := by
            intro f2 w2 q2 t2 a1 a2 a3
            rw [nmv_d, nI_1]
            exact hnx4 _ _ _ _ _ ⟨t + 1, by omega, rfl, a1, a2, a3⟩ (by rw [nI_clamp (by omega), nI_clamp (by omega)]; omega)
          cases hb : may n g p true f t with
          | false =>
            rw [if_pos (show bI false = 0 from rfl)]
            have e : mvp n g p f (t + 1) = mvp n g p f t := by rw [mvp_t, hb]; simp
            refine hnext _ _ _ _ ?_ ?_ ?_ <;> rw [e]
            · exact hM2
            · exact hp2
            · exact hw2
          | true =>
            have hto := may_to (by omega : f < n) hb
            rw [if_neg (show ¬ bI true = 0 by decide), ald_in (by omega) (by decide), hm2 f (by rw [hpw.1]; omega), behind_eq hpw hn (by omega) hto.1 hto.2.2.1 hto.2.1, cl1_s]
            have ev : viss (d + 1) ((bz (nxt n g true) r i).2 p) (bz (nxt n g true) r i) ((mvp n g p f (t + 1)).map (fun m => mvd p m.1 m.2)) = vis (d + 1) ((bz (nxt n g true) r i).2 p) (viss (d + 1) ((bz (nxt n g true) r i).2 p) (bz (nxt n g true) r i) ((mvp n g p f t).map (fun m => mvd p m.1 m.2))) (mvd p f t) := by
              rw [mvp_t, hb, if_pos rfl]
              unfold viss
              rw [List.map_append, List.foldl_append]; rfl
            obtain ⟨f2, w2, q2, t2, hco2, hM3⟩ := come_one hM2 hp2 hw2.symm (hcp.mv hpw (by omega : f < n) hb)
            rw [hco2, cl4_s]
            refine hnext _ _ _ _ ?_ ?_ ?_ <;> rw [ev]
            · exact hM3
            · exact vis_at hp2
            · rw [vis_keep hM2.2.2.2.1 (List.mem_of_getElem? hp2) (by omega), hw2]
  · have hk2 : k < q.length := by omega
    have hqk : q.getD k 0 ∈ q := by rw [List.getD_eq_getElem?_getD, List.getElem?_eq_getElem hk2]; exact List.getElem_mem hk2
    have h78 := hq2 _ hqk
    rw [if_neg (fun q => hc ((nI_leI (by omega) (by omega)).mp q)), ald_in (by omega) (by decide), hq1 k hk2, astI_in h78 (by decide), ald_in (by omega) (by decide), hq1 k hk2, astL_in h78 (by decide), nmv_d, nI_1]
    refine hnx _ _ _ ⟨k + 1, by omega, rfl, fun c hc78 hcn => ?_⟩ (by rw [nI_clamp (by omega), nI_clamp (by omega)]; omega)
    by_cases e : c = q.getD k 0
    · rw [e]; exact ⟨pk_us, pk_uLs⟩
    · rw [pk_un e, pk_uLn e]
      apply hcl c hc78
      rw [take_getD' q k hk2]
      intro hmem
      rcases List.mem_cons.mp hmem with z | z
      · exact e z
      · exact hcn z
