/-! ===== every call: both answer alike, what is known stays known ===== -/
theorem rg (N : Nat) (hN : N < 1000) (p : Int32) : (∃ i, i ≤ N ∧ p = nI i ∧ f_X8_within p 0 (nI N) = some 1 ∧ ¬ p < 0 ∧ p ≤ nI N) ∨ (f_X8_within p 0 (nI N) = some 0 ∧ (p < 0 ∨ ¬ p < 0 ∧ ¬ p ≤ nI N)) := by
  have hq : nI (N + 1) ≤ p ↔ ¬ p ≤ nI N := by
    rw [Int32.le_iff_toInt_le, Int32.le_iff_toInt_le, nI_toInt (by omega), nI_toInt (by omega)]
    omega
  have h := rng (n := N + 1) (by omega) p
  rw [nI_pred] at h
  rcases h with ⟨i, hi, e, h1, h2, h3⟩ | ⟨h1, h2⟩
  · exact Or.inl ⟨i, by omega, e, h1, h2, Classical.byContradiction (fun w => h3 (hq.mpr w))⟩
  · refine Or.inr ⟨h1, ?_⟩
    rcases h2 with h2 | ⟨h2, h3⟩
    · exact Or.inl h2
    · exact Or.inr ⟨h2, hq.mp h3⟩
section
variable {n : Nat} {g : Fl} {rd : Nd} {hs : List (Nat × Nat)} {made movers : A32} {row numbers size : Int32} {rowNow frogOn mf mt : A32} {moved : Int32} {ts tr : A32} {tz : Int32} {td tw : A32} {rr far : A32} {ways : A64} {queue : A32} {qe : Int32}
theorem noBrook (h0 : n = 0) : f_X7_hasBrook (nI n) = some 0 := by rw [h0]; rfl
theorem yesBrook (h0 : n ≠ 0) (hn : n ≤ 7) : f_X7_hasBrook (nI n) = some 1 := by rw [hasBrook_eq hn, decide_eq_true (by omega)]; rfl
theorem z0 (h0 : n = 0) : nI n = 0 := by rw [h0]; rfl
theorem fewest_2 (h : OkH n g rd hs) (h3 : n = 0 ∨ 3 ≤ n) (hno : noR rd hs made movers row numbers size) (hmo : moR n rd hs rowNow frogOn moved mf mt) (hSR : n ≠ 0 → SR n rd.reverse ts tr tz td tw (zf n g false rd.reverse)) (hrr : rowAt rr rd) (hF : FI far ways queue qe) (l0 : Int32) (mrow : A32) (p : Int32) : ∃ v l' m' f' w' q' e', f_X7_fewest (nI n) (bI (gA g)) (bI (gB g)) (bI (gR g)) (bI (gT g)) row ts tr td p = some v ∧ f_X8_fewest (nI n) (bI (gA g)) (bI (gB g)) (bI (gR g)) (bI (gT g)) rr rowNow l0 mrow far ways queue qe p = some (v, l', m', f', w', q', e') ∧ FI f' w' q' e' := by
  have hn := h.2.1
  rcases rg 2 (by decide) p with ⟨i, hi, e, h1, h2, h4⟩ | ⟨h1, h2⟩
  · have h1' : f_X8_within p 0 2 = some 1 := h1
    by_cases h0 : n = 0
    · unfold f_X7_fewest f_X8_fewest
      rw [if_neg h2, if_pos (show p ≤ 2 from h4), noBrook h0, cl1_s, if_pos rfl, h1', cl1_s, if_neg i10, if_pos (z0 h0)]
      exact ⟨_, _, _, _, _, _, _, rfl, rfl, hF⟩
    · obtain ⟨m', f', w', q', e', a1, a2⟩ := fewestNow_eq (g := g) (l0 := l0) (mrow := mrow) hn h.rw h.1 hrr hmo.1 hF (show i < 3 by omega)
      have b1 := fewestX_eq (g := g) (show 3 ≤ n by omega) hn h.rw (rw_rev h.1) (hSR h0) (show i < 3 by omega)
      subst e
      rw [hno.1, b1]
      unfold f_X8_fewest
      rw [h1', cl1_s, if_neg i10, if_neg (nI_ne0 (by omega) (by omega)), a1, cl7_s]
      exact ⟨_, _, _, _, _, _, _, rfl, rfl, a2⟩
  · have h1' : f_X8_within p 0 2 = some 0 := h1
    unfold f_X7_fewest f_X8_fewest
    rw [h1', cl1_s, if_pos rfl]
    rcases h2 with h2 | ⟨h2, h4⟩
    · rw [if_pos h2]; exact ⟨_, _, _, _, _, _, _, rfl, rfl, hF⟩
    · rw [if_neg h2, if_neg (show ¬ p ≤ 2 from h4)]; exact ⟨_, _, _, _, _, _, _, rfl, rfl, hF⟩
theorem ways_2 (h : OkH n g rd hs) (h3 : n = 0 ∨ 3 ≤ n) (hno : noR rd hs made movers row numbers size) (hmo : moR n rd hs rowNow frogOn moved mf mt) (hSR : n ≠ 0 → SR n rd.reverse ts tr tz td tw (zf n g false rd.reverse)) (hrr : rowAt rr rd) (hF : FI far ways queue qe) (l0 : Int32) (mrow : A32) : ∃ v l' m' f' w' q' e', f_X7_ways (nI n) row ts tr tw = some v ∧ f_X8_ways (nI n) (bI (gA g)) (bI (gB g)) (bI (gR g)) (bI (gT g)) rr rowNow l0 mrow far ways queue qe = some (v, l', m', f', w', q', e') ∧ FI f' w' q' e' := by
  have hn := h.2.1
  by_cases h0 : n = 0
  · unfold f_X7_ways f_X8_ways
    rw [noBrook h0, cl1_s, if_pos rfl, if_pos (z0 h0)]
    exact ⟨_, _, _, _, _, _, _, rfl, rfl, hF⟩
  · obtain ⟨m', f', w', q', e', a1, a2⟩ := waysNow_eq (g := g) (l0 := l0) (mrow := mrow) hn h.rw h.1 hrr hmo.1 hF
    rw [hno.1, waysX_eq (show 3 ≤ n by omega) hn h.rw (rw_rev h.1) (hSR h0)]
    unfold f_X8_ways
    rw [if_neg (nI_ne0 (by omega) (by omega)), a1, cl7_s]
    exact ⟨_, _, _, _, _, _, _, rfl, rfl, a2⟩
theorem wrong_2 (h : OkH n g rd hs) (h3 : n = 0 ∨ 3 ≤ n) (hno : noR rd hs made movers row numbers size) (hmo : moR n rd hs rowNow frogOn moved mf mt) (hSR : n ≠ 0 → SR n rd.reverse ts tr tz td tw (zf n g false rd.reverse)) (hrr : rowAt rr rd) (hF : FI far ways queue qe) (l0 : Int32) (mrow : A32) : ∃ v l' m' f' w' q' e', f_X7_wrong (nI n) made size ts tr td (nI (enc8 rd)) = some v ∧ f_X8_wrong (nI n) (bI (gA g)) (bI (gB g)) (bI (gR g)) (bI (gT g)) rr moved mf mt l0 mrow far ways queue qe = some (v, l', m', f', w', q', e') ∧ FI f' w' q' e' := by
  have hn := h.2.1
  by_cases h0 : n = 0
  · unfold f_X7_wrong f_X8_wrong
    rw [noBrook h0, cl1_s, if_pos rfl, if_pos (z0 h0)]
    exact ⟨_, _, _, _, _, _, _, rfl, rfl, hF⟩
  · obtain ⟨m', f', w', q', e', a1, a2⟩ := wrongNow_eq (l0 := l0) (mrow := mrow) h hrr hmo.2.2.2 hF
    rw [hno.2.2.1, wrongX_eq (show 3 ≤ n by omega) h hno.2.2.2 (rw_rev h.1) (hSR h0), hmo.2.2.1]
    unfold f_X8_wrong
    rw [if_neg (nI_ne0 (by omega) (by omega)), a1, cl7_s]
    exact ⟨_, _, _, _, _, _, _, rfl, rfl, a2⟩
theorem ends_2 (h : OkH n g rd hs) (hno : noR rd hs made movers row numbers size) (hmo : moR n rd hs rowNow frogOn moved mf mt) (hF : FI far ways queue qe) (l0 : Int32) (mrow : A32) (em es : Int32) (as ar : A32) (az : Int32) (ad aw : A32) (at' ao : Int32) : ∃ v s1 s2 s3 s4 s5 s6 s7 l' m' f' w' q' e' em' es', f_X7_ends (nI n) (bI (gA g)) (bI (gB g)) (bI (gR g)) (bI (gT g)) row as ar az ad aw at' ao = some (v, s1, s2, s3, s4, s5, s6, s7) ∧ f_X8_ends (nI n) (bI (gA g)) (bI (gB g)) (bI (gR g)) (bI (gT g)) rowNow l0 mrow far ways queue qe em es = some (v, l', m', f', w', q', e', em', es') ∧ FI f' w' q' e' := by
  have hn := h.2.1
  unfold f_X7_ends f_X8_ends
  by_cases h0 : n = 0
  · rw [noBrook h0, cl1_s, if_pos rfl, if_pos (z0 h0)]
    exact ⟨_, _, _, _, _, _, _, _, _, _, _, _, _, _, _, _, rfl, rfl, hF⟩
  · obtain ⟨m', f', w', q', e', a1, a2⟩ := layEnds_eq (g := g) (l0 := l0) (mrow := mrow) (em := em) (es := es) hn h.rw hmo.1 hF
    obtain ⟨b1, b2, b3, b4, b5, e1, -⟩ := spread_all (g := g) (sense := true) (slots := as) (rows := ar) (tsize := az) (depths := ad) (ways := aw) (st0 := at') (so0 := ao) h.rw hn
    have e1' : f_X5_spread (nI n) (bI (gA g)) (bI (gB g)) (bI (gR g)) (bI (gT g)) as ar az ad aw at' ao (nI (enc8 (rowH rd hs))) 1 (-1) = _ := e1
    rw [hno.1, yesBrook h0 hn, cl1_s, if_neg i10, e1', cl8_s, if_neg (nI_ne0 (by omega) (by omega)), a1, cl8_s]
    exact ⟨_, _, _, _, _, _, _, _, _, _, _, _, _, _, _, _, rfl, rfl, a2⟩
theorem soon_2 (h : OkH n g rd hs) (hno : noR rd hs made movers row numbers size) (hmo : moR n rd hs rowNow frogOn moved mf mt) (hF : FI far ways queue qe) (l0 : Int32) (mrow : A32) (em es : Int32) (as ar : A32) (az : Int32) (ad aw : A32) (at' ao : Int32) : ∃ v s1 s2 s3 s4 s5 s6 s7 l' m' f' w' q' e' em' es', f_X7_soon (nI n) (bI (gA g)) (bI (gB g)) (bI (gR g)) (bI (gT g)) row as ar az ad aw at' ao = some (v, s1, s2, s3, s4, s5, s6, s7) ∧ f_X8_soon (nI n) (bI (gA g)) (bI (gB g)) (bI (gR g)) (bI (gT g)) rowNow l0 mrow far ways queue qe em es = some (v, l', m', f', w', q', e', em', es') ∧ FI f' w' q' e' := by
  have hn := h.2.1
  unfold f_X7_soon f_X8_soon
  by_cases h0 : n = 0
  · rw [noBrook h0, cl1_s, if_pos rfl, if_pos (z0 h0)]
    exact ⟨_, _, _, _, _, _, _, _, _, _, _, _, _, _, _, _, rfl, rfl, hF⟩
  · obtain ⟨m', f', w', q', e', a1, a2⟩ := layEnds_eq (g := g) (l0 := l0) (mrow := mrow) (em := em) (es := es) hn h.rw hmo.1 hF
    obtain ⟨b1, b2, b3, b4, b5, e1, -⟩ := spread_all (g := g) (sense := true) (slots := as) (rows := ar) (tsize := az) (depths := ad) (ways := aw) (st0 := at') (so0 := ao) h.rw hn
    have e1' : f_X5_spread (nI n) (bI (gA g)) (bI (gB g)) (bI (gR g)) (bI (gT g)) as ar az ad aw at' ao (nI (enc8 (rowH rd hs))) 1 (-1) = _ := e1
    rw [hno.1, yesBrook h0 hn, cl1_s, if_neg i10, e1', cl8_s, if_neg (nI_ne0 (by omega) (by omega)), a1, cl8_s]
    exact ⟨_, _, _, _, _, _, _, _, _, _, _, _, _, _, _, _, rfl, rfl, a2⟩
theorem comes_2 {pg : List Nat} {codes page : A32} {psize plen : Int32} (h : OkH n g rd hs) (hno : noR rd hs made movers row numbers size) (hmo : moR n rd hs rowNow frogOn moved mf mt) (hp : pgR pg codes psize) (hq : pgR pg page plen) (hF : FI far ways queue qe) (l0 : Int32) (mrow : A32) (fa iw nm ns : Int32) (nr : A32) (as ar : A32) (az : Int32) (ad aw : A32) (at' ao : Int32) : ∃ v s1 s2 s3 s4 s5 s6 s7 fa' iw' nm' ns' nr' l' m' f' w' q' e', f_X7_comes codes psize (nI n) (bI (gA g)) (bI (gB g)) (bI (gR g)) (bI (gT g)) row as ar az ad aw at' ao = some (v, s1, s2, s3, s4, s5, s6, s7) ∧ f_X8_comes (nI n) (bI (gA g)) (bI (gB g)) (bI (gR g)) (bI (gT g)) rowNow plen page fa iw nm ns nr l0 mrow far ways queue qe = some (v, fa', iw', nm', ns', nr', l', m', f', w', q', e') ∧ FI f' w' q' e' := by
  have hn := h.2.1
  by_cases h0 : n = 0
  · unfold f_X7_comes f_X8_comes
    obtain ⟨nr', e, -⟩ := readBrook_eq (fa := fa) (iw := iw) (nm := nm) (ns := ns) (nr := nr) hq
    rw [noBrook h0, cl1_s, if_pos rfl, e, cl5_s, if_pos (z0 h0)]
    exact ⟨_, _, _, _, _, _, _, _, _, _, _, _, _, _, _, _, _, _, _, rfl, rfl, hF⟩
  · obtain ⟨s1, s2, s3, s4, s5, s6, s7, a1⟩ := comesX_eq (g := g) (as := as) (ar := ar) (az := az) (ad := ad) (aw := aw) (at' := at') (ao := ao) hp (show 0 < n by omega) hn h.rw
    obtain ⟨fa', iw', nm', ns', nr', l', m', f', w', q', e', b1, b2⟩ := comesM_eq (g := g) (l0 := l0) (mrow := mrow) hq (show 0 < n by omega) hn h.rw hmo.1 hF fa iw nm ns nr
    rw [hno.1]
    exact ⟨_, _, _, _, _, _, _, _, _, _, _, _, _, _, _, _, _, _, _, a1, b1, b2⟩
theorem more_2 {S : Nat} (h : OkH n g rd hs) (h3 : n = 0 ∨ 3 ≤ n) (hS : S < 16) (hg : g = gf S) (hrr : rowAt rr rd) (hF : FI far ways queue qe) (l0 : Int32) (mrow : A32) (o1 o2 o3 o4 o5 o6 : Int32) (as ar : A32) (az : Int32) (ad aw : A32) (at' ao : Int32) (p : Int32) : ∃ v o1' o2' o3' o4' o5' o6' s1 s2 s3 s4 s5 s6 s7 l' m' f' w' q' e', f_X7_more (nI n) (nI S) o1 o2 o3 o4 o5 o6 as ar az ad aw at' ao (nI (enc8 rd)) p = some (v, o1', o2', o3', o4', o5', o6', s1, s2, s3, s4, s5, s6, s7) ∧ f_X8_more (nI n) (bI (gA g)) (bI (gB g)) (bI (gR g)) (bI (gT g)) rr l0 mrow far ways queue qe p = some (v, l', m', f', w', q', e') ∧ FI f' w' q' e' := by
  have hn := h.2.1
  rcases rg 1 (by decide) p with ⟨i, hi, e, h1, h2, h4⟩ | ⟨h1, h2⟩
  · have h1' : f_X8_within p 0 1 = some 1 := h1
    by_cases h0 : n = 0
    · unfold f_X7_more f_X8_more
      rw [if_neg h2, if_pos (show p ≤ 1 from h4), noBrook h0, cl1_s, if_pos rfl, h1', cl1_s, if_neg i10, jn0_d, if_pos (z0 h0)]
      exact ⟨_, _, _, _, _, _, _, _, _, _, _, _, _, _, _, _, _, _, _, _, rfl, rfl, hF⟩
    · by_cases h7 : n = 7
      · unfold f_X7_more f_X8_more
        rw [if_neg h2, if_pos (show p ≤ 1 from h4), yesBrook h0 hn, cl1_s, if_neg i10, if_neg (show ¬ nI n < 7 by rw [h7]; decide), h1', cl1_s, if_neg i10, jn0_d, if_neg (nI_ne0 (by omega) (by omega)), if_pos (show nI n = 7 by rw [h7]; rfl)]
        exact ⟨_, _, _, _, _, _, _, _, _, _, _, _, _, _, _, _, _, _, _, _, rfl, rfl, hF⟩
      · obtain ⟨o1', o2', o3', o4', o5', o6', s1, s2, s3, s4, s5, s6, s7, a1⟩ := moreX_eq (as := as) (ar := ar) (az := az) (ad := ad) (aw := aw) (at' := at') (ao := ao) (show 0 < n by omega) (show n ≤ 6 by omega) hS hg h.1 (p := p) ⟨h2, h4⟩ o1 o2 o3 o4 o5 o6
        obtain ⟨l', m', f', w', q', e', b1, b2⟩ := moreM_eq (g := g) (l0 := l0) (mrow := mrow) (show 0 < n by omega) (show n ≤ 6 by omega) h.1 hrr hF p
        rw [a1]
        unfold f_X8_more
        rw [h1', cl1_s, if_neg i10, jn0_d, if_neg (nI_ne0 (by omega) (by omega)), if_neg (show ¬ nI n = 7 from fun q => h7 ((nI_eq (b := 7) (by omega) (by decide)).mp q)), b1, cl7_s]
        exact ⟨_, _, _, _, _, _, _, _, _, _, _, _, _, _, _, _, _, _, _, _, rfl, rfl, b2⟩
  · have h1' : f_X8_within p 0 1 = some 0 := h1
    unfold f_X7_more f_X8_more
    rw [h1', cl1_s, if_pos rfl]
    rcases h2 with h2 | ⟨h2, h4⟩
    · rw [if_pos h2]; exact ⟨_, _, _, _, _, _, _, _, _, _, _, _, _, _, _, _, _, _, _, _, rfl, rfl, hF⟩
    · rw [if_neg h2, if_neg (show ¬ p ≤ 1 from h4)]; exact ⟨_, _, _, _, _, _, _, _, _, _, _, _, _, _, _, _, _, _, _, _, rfl, rfl, hF⟩
theorem off_2 (h : OkH n g rd hs) (hrr : rowAt rr rd) (hF : FI far ways queue qe) (l0 : Int32) (mrow : A32) (as ar : A32) (az : Int32) (ad aw : A32) (at' ao : Int32) (p : Int32) : ∃ v s1 s2 s3 s4 s5 s6 s7 l' m' f' w' q' e', f_X7_off (nI n) (bI (gA g)) (bI (gB g)) (bI (gR g)) (bI (gT g)) as ar az ad aw at' ao (nI (enc8 rd)) p = some (v, s1, s2, s3, s4, s5, s6, s7) ∧ f_X8_off (nI n) (bI (gA g)) (bI (gB g)) (bI (gR g)) (bI (gT g)) rr l0 mrow far ways queue qe p = some (v, l', m', f', w', q', e') ∧ FI f' w' q' e' := by
  have hn := h.2.1
  rcases rg 1 (by decide) p with ⟨i, hi, e, h1, h2, h4⟩ | ⟨h1, h2⟩
  · have h1' : f_X8_within p 0 1 = some 1 := h1
    by_cases h0 : n = 0
    · unfold f_X7_off f_X8_off
      rw [if_neg h2, if_pos (show p ≤ 1 from h4), noBrook h0, cl1_s, if_pos rfl, h1', cl1_s, if_neg i10, if_pos (z0 h0)]
      exact ⟨_, _, _, _, _, _, _, _, _, _, _, _, _, _, rfl, rfl, hF⟩
    · obtain ⟨s1, s2, s3, s4, s5, s6, s7, a1⟩ := offX_eq (g := g) (as := as) (ar := ar) (az := az) (ad := ad) (aw := aw) (at' := at') (ao := ao) (show 0 < n by omega) hn h.1 (p := p) ⟨h2, h4⟩
      obtain ⟨l', m', f', w', q', e', b1, b2⟩ := offM_eq (g := g) (l0 := l0) (mrow := mrow) (show 0 < n by omega) hn h.1 hrr hF p
      rw [a1]
      unfold f_X8_off
      rw [h1', cl1_s, if_neg i10, if_neg (nI_ne0 (by omega) (by omega)), b1, cl7_s]
      exact ⟨_, _, _, _, _, _, _, _, _, _, _, _, _, _, rfl, rfl, b2⟩
  · have h1' : f_X8_within p 0 1 = some 0 := h1
    unfold f_X7_off f_X8_off
    rw [h1', cl1_s, if_pos rfl]
    rcases h2 with h2 | ⟨h2, h4⟩
    · rw [if_pos h2]; exact ⟨_, _, _, _, _, _, _, _, _, _, _, _, _, _, rfl, rfl, hF⟩
    · rw [if_neg h2, if_neg (show ¬ p ≤ 1 from h4)]; exact ⟨_, _, _, _, _, _, _, _, _, _, _, _, _, _, rfl, rfl, hF⟩
theorem sd01 {i : Nat} (h : i ≤ 1) : ∃ b : Bool, nI i = bI b := by
  rcases (show i = 0 ∨ i = 1 by omega) with e | e <;> subst e
  · exact ⟨false, rfl⟩
  · exact ⟨true, rfl⟩
theorem gm_pos (h : isGm n g = true) : n ≠ 0 ∧ gB g = false ∧ gR g = false := by
  unfold isGm at h
  simp only [Bool.and_eq_true, Bool.not_eq_true', decide_eq_true_eq] at h
  exact ⟨by omega, h.2.1, h.2.2⟩
theorem wins_2 {gs gr : A32} {gz : Int32} {gk : A32} (h : OkH n g rd hs) (hno : noR rd hs made movers row numbers size) (hmo : moR n rd hs rowNow frogOn moved mf mt) (hG : n ≠ 0 → ∃ Lx, GI n g rd Lx gs gr gz gk) (hF : FI far ways queue qe) (l0 : Int32) (mrow won : A32) (p : Int32) : ∃ v g1 g2 g3 g4 l' m' f' w' q' e' won', f_X7_wins (nI n) (bI (gA g)) (bI (gB g)) (bI (gR g)) (bI (gT g)) row gs gr gz gk p = some (v, g1, g2, g3, g4) ∧ f_X8_wins (nI n) (bI (gA g)) (bI (gB g)) (bI (gR g)) (bI (gT g)) rowNow l0 mrow far ways queue qe won p = some (v, l', m', f', w', q', e', won') ∧ FI f' w' q' e' ∧ (n ≠ 0 → ∃ Lx, GI n g rd Lx g1 g2 g3 g4) := by
  have hn := h.2.1
  rcases rg 1 (by decide) p with ⟨i, hi, e, h1, h2, h4⟩ | ⟨h1, h2⟩
  · have h1' : f_X8_within p 0 1 = some 1 := h1
    cases hgm : isGm n g with
    | false =>
      unfold f_X7_wins f_X8_wins
      rw [if_neg h2, if_pos (show p ≤ 1 from h4), (hasGame_eq hn).1, cl1_s, hgm, if_pos (show bI false = 0 from rfl), h1', cl1_s, if_neg i10, (hasGame_eq hn).2, cl1_s, hgm, if_pos (show bI false = 0 from rfl)]
      exact ⟨_, _, _, _, _, _, _, _, _, _, _, _, rfl, rfl, hF, hG⟩
    | true =>
      obtain ⟨h0, hB, hR⟩ := gm_pos hgm
      obtain ⟨b, hb⟩ := sd01 hi
      subst e
      rw [hb] at h1' h2 h4 ⊢
      obtain ⟨Lx, hGI⟩ := hG h0
      obtain ⟨L1, s1', r1', t1', k1', w1, w2⟩ := winsX_eq (side := b) hgm hn h.1 (cls_H h.1 hs h.2.2.1) hGI
      obtain ⟨m', f', w', q', e', won', a1, a2⟩ := winsNow_eq (side := b) (l0 := l0) (mrow := mrow) (won := won) hB hR hn h.rw hmo.1 hF
      rw [hno.1, w1]
      unfold f_X8_wins
      rw [h1', cl1_s, if_neg i10, (hasGame_eq hn).2, cl1_s, hgm, if_neg (show ¬ bI true = 0 by decide), a1, cl8_s]
      exact ⟨_, _, _, _, _, _, _, _, _, _, _, _, rfl, rfl, a2, fun _ => ⟨_, w2⟩⟩
  · have h1' : f_X8_within p 0 1 = some 0 := h1
    unfold f_X7_wins f_X8_wins
    rw [h1', cl1_s, if_pos rfl]
    rcases h2 with h2 | ⟨h2, h4⟩
    · rw [if_pos h2]; exact ⟨_, _, _, _, _, _, _, _, _, _, _, _, rfl, rfl, hF, hG⟩
    · rw [if_neg h2, if_neg (show ¬ p ≤ 1 from h4)]; exact ⟨_, _, _, _, _, _, _, _, _, _, _, _, rfl, rfl, hF, hG⟩
theorem gt1 {p : Int32} : 1 < p ↔ ¬ p ≤ nI 1 := by
  rw [Int32.lt_iff_toInt_lt, Int32.le_iff_toInt_le]
  show (1 : Int) < _ ↔ ¬ _ ≤ (1 : Int)
  omega
theorem by_2 {gs gr : A32} {gz : Int32} {gk : A32} (h : OkH n g rd hs) (hno : noR rd hs made movers row numbers size) (hmo : moR n rd hs rowNow frogOn moved mf mt) (hG : n ≠ 0 → ∃ Lx, GI n g rd Lx gs gr gz gk) (hF : FI far ways queue qe) (l0 : Int32) (mrow won : A32) (p r : Int32) : ∃ v g1 g2 g3 g4 l' m' f' w' q' e' won', f_X7_by (nI n) (bI (gA g)) (bI (gB g)) (bI (gR g)) (bI (gT g)) row gs gr gz gk p r = some (v, g1, g2, g3, g4) ∧ f_X8_by (nI n) (bI (gA g)) (bI (gB g)) (bI (gR g)) (bI (gT g)) rowNow l0 mrow far ways queue qe won p r = some (v, l', m', f', w', q', e', won') ∧ FI f' w' q' e' ∧ (n ≠ 0 → ∃ Lx, GI n g rd Lx g1 g2 g3 g4) := by
  have hn := h.2.1
  rcases rg 1 (by decide) p with ⟨i, hi, e, h1, h2, h4⟩ | ⟨h1, h2⟩
  · have h1' : f_X8_within p 0 1 = some 1 := h1
    rcases rg 1 (by decide) r with ⟨i', hi', e', k1, k2, k4⟩ | ⟨k1, k2⟩
    · have k1' : f_X8_within r 0 1 = some 1 := k1
      cases hgm : isGm n g with
      | false =>
        unfold f_X7_by f_X8_by
        rw [if_neg h2, if_neg (fun w => gt1.mp w h4), if_neg k2, if_pos (show r ≤ 1 from k4), (hasGame_eq hn).1, cl1_s, hgm, if_pos (show bI false = 0 from rfl), h1', cl1_s, if_neg i10, k1', cl1_s, if_neg i10, (hasGame_eq hn).2, cl1_s, hgm, if_pos (show bI false = 0 from rfl)]
        exact ⟨_, _, _, _, _, _, _, _, _, _, _, _, rfl, rfl, hF, hG⟩
      | true =>
        obtain ⟨h0, hB, hR⟩ := gm_pos hgm
        obtain ⟨b, hb⟩ := sd01 hi
        subst e
        rw [hb] at h1' h2 h4 ⊢
        obtain ⟨Lx, hGI⟩ := hG h0
        obtain ⟨L1, s1', r1', t1', k1'', w1, w2⟩ := byX_eq (side := b) hgm hn h.1 (cls_H h.1 hs h.2.2.1) hGI (p := r) ⟨k2, k4⟩
        obtain ⟨m', f', w', q', e', won', a1, a2⟩ := byNow_eq (side := b) (l0 := l0) (mrow := mrow) (won := won) hB hR hn h.rw hmo.1 hF r
        rw [hno.1, w1]
        unfold f_X8_by
        rw [h1', cl1_s, if_neg i10, k1', cl1_s, if_neg i10, (hasGame_eq hn).2, cl1_s, hgm, if_neg (show ¬ bI true = 0 by decide), a1, cl8_s]
        exact ⟨_, _, _, _, _, _, _, _, _, _, _, _, rfl, rfl, a2, fun _ => ⟨_, w2⟩⟩
    · have k1' : f_X8_within r 0 1 = some 0 := k1
      unfold f_X7_by f_X8_by
      rw [if_neg h2, if_neg (fun w => gt1.mp w h4), h1', cl1_s, if_neg i10, k1', cl1_s, if_pos rfl]
      rcases k2 with k2 | ⟨k2, k4⟩
      · rw [if_pos k2]; exact ⟨_, _, _, _, _, _, _, _, _, _, _, _, rfl, rfl, hF, hG⟩
      · rw [if_neg k2, if_neg (show ¬ r ≤ 1 from k4)]; exact ⟨_, _, _, _, _, _, _, _, _, _, _, _, rfl, rfl, hF, hG⟩
  · have h1' : f_X8_within p 0 1 = some 0 := h1
    unfold f_X7_by f_X8_by
    rw [h1', cl1_s, if_pos rfl]
    rcases h2 with h2 | ⟨h2, h4⟩
    · rw [if_pos h2]; exact ⟨_, _, _, _, _, _, _, _, _, _, _, _, rfl, rfl, hF, hG⟩
    · rw [if_neg h2, if_pos (gt1.mpr h4)]; exact ⟨_, _, _, _, _, _, _, _, _, _, _, _, rfl, rfl, hF, hG⟩
theorem play_2 (h : OkH n g rd hs) (hno : noR rd hs made movers row numbers size) (hmo : moR n rd hs rowNow frogOn moved mf mt) (hrr : rowAt rr rd) (l0 : Int32) (mrow : A32) (sd : Int64) (p q r : Int32) : ∃ v l' m' s', f_X7_play (nI n) (bI (gA g)) (bI (gB g)) (bI (gR g)) (bI (gT g)) row (nI (enc8 rd.reverse)) p q r = some v ∧ f_X8_play (nI n) (bI (gA g)) (bI (gB g)) (bI (gR g)) (bI (gT g)) rr rowNow l0 mrow sd p q r = some (v, l', m', s') := by
  have hn := h.2.1
  have hw60 : f_X8_within p 1 60 = some (bI (decide (¬ p < 1) && decide (¬ 60 < p))) := within_eq
  by_cases a1 : p < 1
  · unfold f_X7_play f_X8_play
    rw [if_pos a1, hw60, cl1_s, if_pos (show bI (decide (¬ p < 1) && decide (¬ 60 < p)) = 0 by rw [decide_eq_false (fun w => w a1)]; rfl)]
    exact ⟨_, _, _, _, rfl, rfl⟩
  by_cases a2 : 60 < p
  · unfold f_X7_play f_X8_play
    rw [if_neg a1, if_pos a2, hw60, cl1_s, if_pos (show bI (decide (¬ p < 1) && decide (¬ 60 < p)) = 0 by rw [decide_eq_false (show ¬ ¬ (60 : Int32) < p from fun w => w a2), Bool.and_false]; rfl)]
    exact ⟨_, _, _, _, rfl, rfl⟩
  have hw1 : f_X8_within p 1 60 = some 1 := by rw [hw60, decide_eq_true a1, decide_eq_true a2]; rfl
  by_cases a3 : q < 0
  · unfold f_X7_play f_X8_play
    rw [if_neg a1, if_neg a2, if_pos a3, hw1, cl1_s, if_neg i10, if_pos a3]
    exact ⟨_, _, _, _, rfl, rfl⟩
  rcases rg 2 (by decide) r with ⟨i, hi, e, h1, h2, h4⟩ | ⟨h1, h2⟩
  · have h1' : f_X8_within r 0 2 = some 1 := h1
    by_cases h0 : n = 0
    · unfold f_X7_play f_X8_play
      rw [if_neg a1, if_neg a2, if_neg a3, if_neg h2, if_pos (show r ≤ 2 from h4), noBrook h0, cl1_s, if_pos rfl, hw1, cl1_s, if_neg i10, if_neg a3, h1', cl1_s, if_neg i10, if_pos (z0 h0)]
      exact ⟨_, _, _, _, rfl, rfl⟩
    · obtain ⟨v, hv, rfl⟩ := nI_of a3
      have hp0 : ¬ p < 0 := fun w => a1 (by
        rw [Int32.lt_iff_toInt_lt] at w ⊢
        have e0 : (0 : Int32).toInt = 0 := by decide
        have e1 : (1 : Int32).toInt = 1 := by decide
        rw [e0] at w
        rw [e1]; omega)
      obtain ⟨T, hT, rfl⟩ := nI_of hp0
      have hT1 : 1 ≤ T := by
        rcases Nat.lt_or_ge T 1 with w | w
        · exact absurd (nI_lt (b := 1) w (by decide)) a1
        · exact w
      have hT60 : T ≤ 60 := by
        rcases Nat.lt_or_ge 60 T with w | w
        · exact absurd (nI_lt (a := 60) w hT) a2
        · exact w
      obtain ⟨l', m', s', b1⟩ := playM_eq (g := g) (w := r) (l0 := l0) (mrow := mrow) (sd := sd) hn h.rw h.1 hrr hmo.1 hT60 (show v < 2147483648 by omega)
      rw [hno.1, playX_eq (show 0 < n by omega) hn h.rw (rw_rev h.1) hT1 hT60 (show v < 2147483648 by omega) ⟨h2, h4⟩]
      unfold f_X8_play
      rw [hw1, cl1_s, if_neg i10, if_neg a3, h1', cl1_s, if_neg i10, if_neg (nI_ne0 (by omega) (by omega)), b1, cl4_s]
      exact ⟨_, _, _, _, rfl, rfl⟩
  · have h1' : f_X8_within r 0 2 = some 0 := h1
    unfold f_X7_play f_X8_play
    rw [if_neg a1, if_neg a2, if_neg a3, hw1, cl1_s, if_neg i10, if_neg a3, h1', cl1_s, if_pos rfl]
    rcases h2 with h2 | ⟨h2, h4⟩
    · rw [if_pos h2]; exact ⟨_, _, _, _, rfl, rfl⟩
    · rw [if_neg h2, if_neg (show ¬ r ≤ 2 from h4)]; exact ⟨_, _, _, _, rfl, rfl⟩
end
