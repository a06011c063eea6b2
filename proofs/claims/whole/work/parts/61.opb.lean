/-! ===== blank, fault, brook, image, restore, count ===== -/
def gf (S : Nat) : Fl := (S % 2 == 1, S / 2 % 2 == 1, S / 4 % 2 == 1, S / 8 == 1)
theorem has_eqs : ∀ S, S < 16 → f_X4_has (nI S) 0 = some (bI (gA (gf S))) ∧ f_X4_has (nI S) 1 = some (bI (gB (gf S))) ∧ f_X4_has (nI S) 2 = some (bI (gR (gf S))) ∧ f_X4_has (nI S) 3 = some (bI (gT (gf S))) := by
  intro S hS
  have key : ∀ S, S < 16 → ((((nI S) >>> ((0 : Int32) &&& 31)) &&& (1 : Int32)) = 1 ↔ gA (gf S) = true) ∧ ((((nI S) >>> ((1 : Int32) &&& 31)) &&& (1 : Int32)) = 1 ↔ gB (gf S) = true) ∧ ((((nI S) >>> ((2 : Int32) &&& 31)) &&& (1 : Int32)) = 1 ↔ gR (gf S) = true) ∧ ((((nI S) >>> ((3 : Int32) &&& 31)) &&& (1 : Int32)) = 1 ↔ gT (gf S) = true) := by decide +kernel
  have fin : ∀ (P : Prop) [Decidable P] (b : Bool), (P ↔ b = true) → (if P then some (1 : Int32) else some 0) = some (bI b) := by
    intro P _ b h
    cases b with
    | true => rw [if_pos (h.mpr rfl)]; rfl
    | false => rw [if_neg (fun q => by have := h.mp q; cases this)]; rfl
  obtain ⟨k1, k2, k3, k4⟩ := key S hS
  exact ⟨fin _ _ k1, fin _ _ k2, fin _ _ k3, fin _ _ k4⟩
theorem bI01 (b : Bool) : bI b = 0 ∨ bI b = 1 := by cases b; exact Or.inl rfl; exact Or.inr rfl
theorem set_eq {S : Nat} (hS : S < 16) (a b c d e f p : Int32) : f_X4_set a b c d e f p (nI S) = some (p, nI S, bI (gA (gf S)), bI (gB (gf S)), bI (gR (gf S)), bI (gT (gf S))) := by
  unfold f_X4_set
  obtain ⟨h1, h2, h3, h4⟩ := has_eqs S hS
  rw [h1, cl1_s, gz_in (bI01 _), h2, cl1_s, gz_in (bI01 _), h3, cl1_s, gz_in (bI01 _), h4, cl1_s, gz_in (bI01 _)]
def ruR (n S : Nat) (g : Fl) (st si an ba ri tw : Int32) : Prop := st = nI n ∧ si = nI S ∧ an = bI (gA g) ∧ ba = bI (gB g) ∧ ri = bI (gR g) ∧ tw = bI (gT g) ∧ S < 16 ∧ g = gf S
theorem count_2 {n S : Nat} {g : Fl} {st si an ba ri tw ps ns fr ti pl fr' mo br : Int32} (h : ruR n S g st si an ba ri tw) (h1 : ps = pl) (h2 : ns = mo) (h3 : fr = fr') (h4 : ti = br) (p : Int32) : ∃ v, f_X7_count ps st si ns fr ti p = some v ∧ f_X8_count (nI n) (bI (gA g)) (bI (gB g)) (bI (gR g)) (bI (gT g)) br fr' mo pl p = some v ∧ f_X8_howMany (nI n) (bI (gA g)) (bI (gB g)) (bI (gR g)) (bI (gT g)) br fr' mo pl p = some v := by
  obtain ⟨rfl, rfl, rfl, rfl, rfl, rfl, hS, hg⟩ := h
  subst h1; subst h2; subst h3; subst h4
  have hone : ∀ b : Bool, f_X8_one (bI b) = some (bI b) := by intro b; cases b <;> rfl
  have hone' : ∀ b : Bool, (if bI b = 0 then some (0 : Int32) else some 1) = some (bI b) := by intro b; cases b <;> rfl
  obtain ⟨k1, k2, k3, k4⟩ := has_eqs S hS
  rw [← hg] at k1 k2 k3 k4
  have key : ∃ v, f_X7_count ps (nI n) (nI S) ns fr ti p = some v ∧ f_X8_howMany (nI n) (bI (gA g)) (bI (gB g)) (bI (gR g)) (bI (gT g)) ti fr ns ps p = some v := by
    unfold f_X7_count f_X8_howMany
    rw [jn0_d, hone, hone, hone, hone, cl1_s, cl1_s, cl1_s, cl1_s]
    by_cases a0 : p = 0
    · subst a0; exact ⟨_, rfl, rfl⟩
    by_cases a1 : p = 1
    · subst a1; exact ⟨_, rfl, rfl⟩
    by_cases a2 : p = 2
    · subst a2; exact ⟨_, rfl, rfl⟩
    by_cases a3 : p = 3
    · subst a3; exact ⟨_, rfl, rfl⟩
    by_cases a4 : p = 4
    · subst a4; refine ⟨bI (gA g), ?_, rfl⟩
      show (cl1 (f_X4_has (nI S) 0) fun r_1 => if r_1 = 0 then some (0 : Int32) else some 1) = _
      rw [k1, cl1_s, hone']
    by_cases a5 : p = 5
    · subst a5; refine ⟨bI (gB g), ?_, rfl⟩
      show (cl1 (f_X4_has (nI S) 1) fun r_1 => if r_1 = 0 then some (0 : Int32) else some 1) = _
      rw [k2, cl1_s, hone']
    by_cases a6 : p = 6
    · subst a6; refine ⟨bI (gR g), ?_, rfl⟩
      show (cl1 (f_X4_has (nI S) 2) fun r_1 => if r_1 = 0 then some (0 : Int32) else some 1) = _
      rw [k3, cl1_s, hone']
    by_cases a7 : p = 7
    · subst a7; refine ⟨bI (gT g), ?_, rfl⟩
      show (cl1 (f_X4_has (nI S) 3) fun r_1 => if r_1 = 0 then some (0 : Int32) else some 1) = _
      rw [k4, cl1_s, hone']
    by_cases a8 : p = 8
    · subst a8; exact ⟨_, rfl, rfl⟩
    by_cases a9 : p = 9
    · subst a9; exact ⟨_, rfl, rfl⟩
    simp only [a0, a1, a2, a3, a4, a5, a6, a7, a8, a9, if_false]
    exact ⟨_, rfl, rfl⟩
  obtain ⟨v, v1, v2⟩ := key
  refine ⟨v, v1, ?_, v2⟩
  unfold f_X8_count
  rw [v2, cl1_s]
theorem fault_2 {pg : List Nat} {codes page : A32} {size plen : Int32} (h1 : pgR pg codes size) (h2 : pgR pg page plen) (fa iw nm ns : Int32) (nr : A32) : ∃ v fa' iw' nm' ns' nr', f_X7_fault codes size = some v ∧ f_X8_fault plen page fa iw nm ns nr = some (v, fa', iw', nm', ns', nr') := by
  unfold f_X7_fault f_X8_fault
  obtain ⟨nr', e, -⟩ := readBrook_eq (fa := fa) (iw := iw) (nm := nm) (ns := ns) (nr := nr) h2
  rw [fault_eq h1, cl1_s, e, cl5_s]
  exact ⟨_, _, _, _, _, _, rfl, rfl⟩
theorem forget_eq {n : Nat} {g : Fl} {rd : Nd} (slots : A32) (size : Int32) (known : A32) : ∃ slots' size' known', f_X0_forget slots size known = some (slots', size', known') ∧ ∀ rows, GI n g rd [] slots' rows size' known' := by
  unfold f_X0_forget
  rw [clear_eq', cl2_s, fill_eq (by decide), cl1_s]
  refine ⟨_, _, _, rfl, fun rows => ⟨TI.nil (fun j hj => if_pos hj), rfl, List.nodup_nil, fun x hx => by simp at hx, fun i x hx => by simp at hx, fun i _ hi => if_pos hi⟩⟩
theorem spread_all {n : Nat} {g : Fl} {sense : Bool} {s : Nd} {slots rows : A32} {tsize : Int32} {depths ways : A32} {st0 so0 : Int32} (hs : Rw n s) (hn : n ≤ 7) :
    ∃ slots' rows' tsize' depths' ways', f_X5_spread (nI n) (bI (gA g)) (bI (gB g)) (bI (gR g)) (bI (gT g)) slots rows tsize depths ways st0 so0 (nI (enc8 s)) (dI sense) (-1) = some (-1, slots', rows', tsize', depths', ways', nI (stkL n g sense (zf n g sense s).1), oI (soonL n g sense (zf n g sense s).1)) ∧ SR n s slots' rows' tsize' depths' ways' (zf n g sense s) := by
  obtain ⟨res, a, b, c, d, e, st, so, h1, h2⟩ := spread_eq (g := g) (sense := sense) (slots := slots) (rows := rows) (tsize := tsize) (depths := depths) (ways := ways) (st0 := st0) (so0 := so0) (p3 := -1) hs hn
  rcases h2 with ⟨x, d', hx, e1, -⟩ | ⟨-, h3, h4, h5, h6⟩
  · have hc := (zf_cls hs hn _ hx).rw hs
    have hlt : enc8 x < 2097152 := row_lt hc.d (by rw [hc.1]; exact hn)
    exact absurd e1 (nI_m1 (by omega))
  · rw [h3, h5, h6] at h1
    exact ⟨_, _, _, _, _, h1, h4⟩
theorem brookM_eq {pg : List Nat} {page : A32} {plen : Int32} (hp : pgR pg page plen) (hb : isBr pg = true) (ms ma mb mr mw br : Int32) (rr rn fo : A32) (fr : Int32) (ki : A32) (mo fa iw nm ns : Int32) (nr : A32) :
    ∃ rr' rn' fo' ki' fa' iw' ns' nr', f_X8_brook ms ma mb mr mw br rr rn fo fr ki mo plen page fa iw nm ns nr = some (nI (ldP pg), nI (ldP pg), bI (gA (gf (sgP pg))), bI (gB (gf (sgP pg))), bI (gR (gf (sgP pg))), bI (gT (gf (sgP pg))), br + 1, rr', rn', fo', nI (frogsIn (rowP pg)), ki', 0, 0, fa', iw', nI (ldP pg), ns', nr') ∧ rowAt rr' (rowP pg) ∧ rowAt rn' (rowP pg) ∧ (∀ i, i < ldP pg → fo' i = nI ((numb 0 (rowP pg)).getD i 0) - 1) ∧ ∀ f, f < frogsIn (rowP pg) → ki' f = nI (fkd (rowP pg) f) := by
  obtain ⟨nr', e, hnr⟩ := readBrook_eq (fa := fa) (iw := iw) (nm := nm) (ns := ns) (nr := nr) hp
  have hall := br_all hb
  have hle := ld_le pg
  have hsl := sgP_lt pg
  have hsg : (if phB pg then sgP pg else 0) = sgP pg := by
    by_cases q : phB pg = true
    · rw [if_pos q]
    · rw [if_neg q]
      rcases hall.2.1 with w | w
      · unfold sgP; rw [List.drop_of_length_le (by omega)]; rfl
      · exact absurd (by unfold phB; simp only [Bool.and_eq_true, decide_eq_true_eq]; exact ⟨⟨by omega, hall.1⟩, w.2⟩) q
  rw [hsg, hb] at e
  unfold f_X8_brook
  rw [e, cl5_s, if_neg (show ¬ bI true = 0 by decide)]
  have kA : ∀ S, S < 16 → nI S - nI S / 2 * 2 = bI (gA (gf S)) ∧ nI S / 2 - nI S / 2 / 2 * 2 = bI (gB (gf S)) ∧ nI S / 4 - nI S / 4 / 2 * 2 = bI (gR (gf S)) ∧ nI S / 8 = bI (gT (gf S)) := by decide +kernel
  obtain ⟨k1, k2, k3, k4⟩ := kA _ hsl
  have hj : ∀ {β : Type} (b : Bool) (K : Int32 → Option β), jn1 K (fun j => if bI b = 1 then j 1 else j 0) = K (bI b) := by intro β b K; cases b <;> rfl
  rw [irem_in (by decide), k1, hj, gz_in (bI01 _), idiv_in (by decide), irem_in (by decide), k2, hj, gz_in (bI01 _), idiv_in (by decide), irem_in (by decide), k3, hj, gz_in (bI01 _), idiv_in (by decide), k4, hj, gz_in (bI01 _)]
  have hlen := rowP_len pg
  refine lp6_5_inv (fun (x1 : Int32) (r1 r2 r3 : A32) (f1 : Int32) (k1 : A32) => ∃ j, j ≤ ldP pg ∧ x1 = nI j ∧ (∀ i, i < j → r1 i = nI ((rowP pg).getD i 0)) ∧ (∀ i, i < j → r2 i = nI ((rowP pg).getD i 0)) ∧ (∀ i, i < j → r3 i = nI ((numb 0 (rowP pg)).getD i 0) - 1) ∧ f1 = nI (frogsIn ((rowP pg).take j)) ∧ ∀ f, f < frogsIn ((rowP pg).take j) → k1 f = nI (fkd (rowP pg) f)) (fun x1 _ _ _ _ _ => 7 - x1.toNatClampNeg) (fun o => ∃ (rr' rn' fo' ki' : A32) (fa' iw' ns' : Int32) (nr' : A32), o = some (nI (ldP pg), nI (ldP pg), bI (gA (gf (sgP pg))), bI (gB (gf (sgP pg))), bI (gR (gf (sgP pg))), bI (gT (gf (sgP pg))), br + 1, rr', rn', fo', nI (frogsIn (rowP pg)), ki', 0, 0, fa', iw', nI (ldP pg), ns', nr') ∧ rowAt rr' (rowP pg) ∧ rowAt rn' (rowP pg) ∧ (∀ i, i < ldP pg → fo' i = nI ((numb 0 (rowP pg)).getD i 0) - 1) ∧ ∀ f, f < frogsIn (rowP pg) → ki' f = nI (fkd (rowP pg) f)) ?_ fuel 0 rr rn fo 0 ki ⟨0, Nat.zero_le _, rfl, fun i hi => absurd hi (Nat.not_lt_zero _), fun i hi => absurd hi (Nat.not_lt_zero _), fun i hi => absurd hi (Nat.not_lt_zero _), rfl, fun i hi => absurd hi (Nat.not_lt_zero _)⟩ (fuel_gt (by omega))
  intro x1 r1 r2 r3 f1 kk nx ⟨j, hj', e1, a1, a2, a3, a4, a5⟩ hnx
  subst e1; subst a4
  by_cases hc : ldP pg ≤ j
  · rw [if_pos (nI_le hc (by omega)), List.take_of_length_le (by rw [hlen]; exact hc)]
    rw [List.take_of_length_le (by rw [hlen]; exact hc)] at a5
    exact ⟨_, _, _, _, _, _, _, _, rfl, fun i hi => a1 i (by omega), fun i hi => a2 i (by omega), fun i hi => a3 i (by omega), a5⟩
  · have hk4 := (rowP_rw pg).at j
    have hfj : frogsIn ((rowP pg).take j) ≤ j := by
      have := frogs_le ((rowP pg).take j)
      rw [List.length_take] at this; omega
    rw [if_neg (fun q => hc ((nI_leI (by omega) (by omega)).mp q)), ald_in (by omega) (by decide), astI_in (by omega) (by decide), ald_in (by omega) (by decide), astI_in (by omega) (by decide), astI_in (by omega) (by decide), ald_in (by omega) (by decide), jn3_d, hnr j (by omega)]
    have up1 : ∀ (r : A32), (∀ i, i < j → r i = nI ((rowP pg).getD i 0)) → ∀ i, i < j + 1 → upd r j (nI ((rowP pg).getD j 0)) i = nI ((rowP pg).getD i 0) := by
      intro r hr i hi
      show (if i = j then _ else _) = _
      by_cases q : i = j
      · rw [if_pos q, q]
      · rw [if_neg q]; exact hr i (by omega)
    by_cases hz : (rowP pg).getD j 0 = 0
    · rw [if_pos (show nI ((rowP pg).getD j 0) ≤ 0 by rw [hz]; decide)]
      dsimp only
      rw [nmv_d, nI_1]
      have hfz : frogsIn ((rowP pg).take (j + 1)) = frogsIn ((rowP pg).take j) := by
        rw [take_getD _ j (by rw [hlen]; omega), frogs_app, hz]
        have : frogsIn [0] = 0 := rfl
        omega
      refine hnx _ _ _ _ _ _ ⟨j + 1, by omega, rfl, up1 _ a1, up1 _ a2, ?_, by rw [hfz], by rw [hfz]; exact a5⟩ (by rw [nI_clamp (by omega), nI_clamp (by omega)]; omega)
      intro i hi
      show (if i = j then _ else _) = _
      by_cases q : i = j
      · rw [if_pos q, q, numb_at, if_pos hz]; rfl
      · rw [if_neg q]; exact a3 i (by omega)
    · rw [if_neg (nI_nle (by omega) (by omega)), ald_in (by omega) (by decide), astI_in (by omega) (by decide), astI_in (by omega) (by decide), nmv_d]
      dsimp only
      rw [nmv_d, nI_1, nI_1, hnr j (by omega)]
      have hfz := frogs_at (r := rowP pg) (i := j) (by rw [hlen]; omega) hz
      refine hnx _ _ _ _ _ _ ⟨j + 1, by omega, rfl, up1 _ a1, up1 _ a2, ?_, by rw [hfz], ?_⟩ (by rw [nI_clamp (by omega), nI_clamp (by omega)]; omega)
      · intro i hi
        show (if i = j then _ else if i = j then _ else _) = _
        by_cases q : i = j
        · rw [if_pos q, q, numb_at, if_neg hz, Nat.zero_add, nI_pred]
        · rw [if_neg q, if_neg q]; exact a3 i (by omega)
      · intro f hf
        rw [hfz] at hf
        show (if f = frogsIn ((rowP pg).take j) then _ else _) = _
        by_cases q : f = frogsIn ((rowP pg).take j)
        · rw [if_pos q, q, fk_at _ j hz]
        · rw [if_neg q]; exact a5 f (by omega)
