/-! ===== letters: what a word of eight bytes tells ===== -/
def by8 (w : Int64) (i : Nat) : Nat := w.toBitVec.toNat / 2 ^ (8 * i) % 2 ^ 8
theorem by8_lt (w : Int64) (i : Nat) : by8 w i < 256 := Nat.mod_lt _ (by decide)
theorem sh8a : ∀ i, i < 8 → (8 : Int32) * nI i = nI (8 * i) := by decide +kernel
theorem sh8 {i : Nat} (h : i < 8) : (8 : Int32) * nI i = nI (8 * i) := sh8a i h
theorem by8_bit (w : Int64) (i j : Nat) : (nI (by8 w i)).toBitVec.getLsbD j = (decide (j < 8) && w.toBitVec.getLsbD (8 * i + j)) := by
  show (BitVec.ofNat 32 (by8 w i)).getLsbD j = _
  rw [BitVec.getLsbD_ofNat]
  unfold by8
  rw [Nat.testBit_mod_two_pow, Nat.testBit_div_two_pow, BitVec.testBit_toNat]
  by_cases h : j < 8
  · simp [h, show j < 32 by omega, Nat.add_comm]
  · simp [h]
theorem l255_bit (j : Nat) : (255 : Int64).toBitVec.getLsbD j = decide (j < 8) := by
  show (BitVec.ofNat 64 255).getLsbD j = _
  rw [BitVec.getLsbD_ofNat, show (255 : Nat) = 2 ^ 8 - 1 from rfl, Nat.testBit_two_pow_sub_one]
  by_cases h : j < 8
  · simp [h, show j < 64 by omega]
  · simp [h]
theorem i255_bit (j : Nat) : (255 : Int32).toBitVec.getLsbD j = decide (j < 8) := by
  show (BitVec.ofNat 32 255).getLsbD j = _
  rw [BitVec.getLsbD_ofNat, show (255 : Nat) = 2 ^ 8 - 1 from rfl, Nat.testBit_two_pow_sub_one]
  by_cases h : j < 8
  · simp [h, show j < 32 by omega]
  · simp [h]
theorem to32_bit (x : Int64) (j : Nat) : x.toInt32.toBitVec.getLsbD j = (decide (j < 32) && x.toBitVec.getLsbD j) := by
  show (x.toBitVec.signExtend 32).getLsbD j = _
  rw [BitVec.getLsbD_signExtend]
  by_cases h : j < 32
  · simp [h, show j < 64 by omega]
  · simp [h]
theorem sar_bit (w : Int64) {i : Nat} (hi : i < 8) (j : Nat) (hj : j < 8) : (w >>> ((nI (8 * i)).toInt64 &&& 63)).toBitVec.getLsbD j = w.toBitVec.getLsbD (8 * i + j) := by
  rw [wb_c (8 * i) (by omega), Int64.toBitVec_shiftRight, wb_tb, wb_sm _ (by omega)]
  show (w.toBitVec.sshiftRight (BitVec.ofNat 64 (8 * i)).toNat).getLsbD j = _
  rw [BitVec.toNat_ofNat, Nat.mod_eq_of_lt (by omega), BitVec.getLsbD_sshiftRight]
  simp [show j < 64 by omega, show 8 * i + j < 64 by omega]
theorem codeIn_eq (w : Int64) {i : Nat} (hi : i < 8) : f_X1_codeIn w (nI i) = some (nI (by8 w i)) := by
  unfold f_X1_codeIn
  rw [sh8 hi]
  obtain ⟨n, hn, rfl⟩ := wb_of w
  rw [wb_shr hn (by omega)]
  congr 1
  apply Int32.toBitVec_inj.mp
  apply BitVec.eq_of_getLsbD_eq
  intro j hj
  rw [Int32.toBitVec_and, BitVec.getLsbD_and, to32_bit, i255_bit, by8_bit, wb_tb, wb_tb, BitVec.getLsbD_ofNat, BitVec.getLsbD_ofNat, Nat.testBit_div_two_pow]
  by_cases h : j < 8
  · simp [h, hj, show j < 64 by omega, show 8 * i + j < 64 by omega, Nat.add_comm]
    intro _; omega
  · simp [h]
theorem mcode_eq (w : Int64) {i : Nat} (hi : i < 8) : Int64.toInt32 ((w >>> (Int32.toInt64 ((8 : Int32) * nI i) &&& 63)) &&& (255 : Int64)) = nI (by8 w i) := by
  rw [sh8 hi]
  apply Int32.toBitVec_inj.mp
  apply BitVec.eq_of_getLsbD_eq
  intro j hj
  rw [to32_bit, Int64.toBitVec_and, BitVec.getLsbD_and, l255_bit, by8_bit]
  by_cases h : j < 8
  · rw [sar_bit w hi j h]; simp [h, hj]
  · simp [h]
theorem mbyte_eq (w : Int64) {i : Nat} (hi : i < 8) (h : by8 w i < 127) : vp_nar .byte (Int8.toInt32 (Int32.toInt8 (Int64.toInt32 (w >>> (Int32.toInt64 ((8 : Int32) * nI i) &&& 63))))) = nI (by8 w i) := by
  have key : Int32.toInt8 (Int64.toInt32 (w >>> (Int32.toInt64 ((8 : Int32) * nI i) &&& 63))) = Int32.toInt8 (nI (by8 w i)) := by
    rw [sh8 hi]
    apply Int8.toBitVec_inj.mp
    apply BitVec.eq_of_getLsbD_eq
    intro j hj
    show ((Int64.toInt32 (w >>> ((nI (8 * i)).toInt64 &&& 63))).toBitVec.signExtend 8).getLsbD j = ((nI (by8 w i)).toBitVec.signExtend 8).getLsbD j
    rw [BitVec.getLsbD_signExtend, BitVec.getLsbD_signExtend, to32_bit, sar_bit w hi j hj, by8_bit]
    simp [hj, show j < 32 by omega]
  rw [key]
  have all : ∀ n, n < 127 → vp_nar .byte (Int8.toInt32 (Int32.toInt8 (nI n))) = nI n := by decide +kernel
  exact all _ h
def dig (w : Int64) : List Nat := (List.range 8).map (by8 w)
theorem dig_len (w : Int64) : (dig w).length = 8 := by simp [dig]
theorem dig_at (w : Int64) {i : Nat} (h : i < 8) : (dig w).getD i 0 = by8 w i := by
  unfold dig
  rw [List.getD_eq_getElem?_getD, List.getElem?_map, List.getElem?_range h]; rfl
/-- how many letters stand there: none where the word is refused -/
def lcn : Bool → List Nat → Option Nat
  | _, [] => some 0
  | b, d :: ds => if 126 < d then none else if d = 0 then lcn true ds else if b then none else (lcn false ds).map (· + 1)
theorem lcn_cons (b : Bool) (d : Nat) (ds : List Nat) : lcn b (d :: ds) = if 126 < d then none else if d = 0 then lcn true ds else if b then none else (lcn false ds).map (· + 1) := rfl
theorem lcn_true : ∀ (ds : List Nat) (c : Nat), lcn true ds = some c → c = 0
  | [], c, h => by cases h; rfl
  | d :: ds, c, h => by
    unfold lcn at h
    split at h
    · cases h
    · split at h
      · exact lcn_true ds c h
      · cases h
theorem lcn_ok : ∀ (ds : List Nat) (c : Nat), lcn false ds = some c → c ≤ ds.length ∧ ∀ i, i < c → ds.getD i 0 < 127
  | [], c, h => by cases h; exact ⟨Nat.le_refl _, fun i hi => absurd hi (Nat.not_lt_zero _)⟩
  | d :: ds, c, h => by
    unfold lcn at h
    split at h
    · cases h
    · split at h
      · have := lcn_true ds c h
        subst this
        exact ⟨Nat.zero_le _, fun i hi => absurd hi (Nat.not_lt_zero _)⟩
      · rename_i h1 h2
        cases hr : lcn false ds with
        | none => rw [hr] at h; cases h
        | some c' =>
          rw [hr] at h
          have ih := lcn_ok ds c' hr
          have hc : c' + 1 = c := by simpa using h
          refine ⟨by rw [List.length_cons]; omega, fun i hi => ?_⟩
          cases i with
          | zero => show d < 127; omega
          | succ i => exact ih.2 i (by omega)
theorem lettersIn_eq (w : Int64) : f_X1_lettersIn w = some (oI (lcn false (dig w))) := by
  unfold f_X1_lettersIn
  refine lp3_1_inv (fun x2 x3 x4 => ∃ j c b, j ≤ 8 ∧ x4 = nI j ∧ x3 = bI b ∧ x2 = nI c ∧ c ≤ j ∧ lcn false (dig w) = (lcn b ((dig w).drop j)).map (c + ·)) (fun _ _ x4 => 8 - x4.toNatClampNeg) (fun o => o = some (oI (lcn false (dig w)))) ?_ fuel 0 0 0 ⟨0, 0, false, by omega, rfl, rfl, rfl, by omega, by rw [List.drop_zero]; cases lcn false (dig w) <;> simp⟩ (fuel_gt (by omega))
  intro x2 x3 x4 nx ⟨j, c, b, hj, e4, e3, e2, hcj, hl⟩ hnx
  subst e4; subst e3; subst e2
  by_cases h8 : 8 ≤ j
  · rw [if_pos (show (8 : Int32) ≤ nI j from nI_le (a := 8) h8 (by omega)), hl, List.drop_of_length_le (by rw [dig_len]; exact h8)]
    show some (nI c) = some (oI ((lcn b []).map (c + ·)))
    rfl
  · rw [if_neg (show ¬ (8 : Int32) ≤ nI j from fun q => h8 ((nI_leI (a := 8) (by decide) (by omega)).mp q)), codeIn_eq w (by omega), cl1_s]
    have hb := by8_lt w j
    rw [take_getD' (dig w) j (by rw [dig_len]; omega), dig_at w (by omega), lcn_cons] at hl
    by_cases h126 : 126 < by8 w j
    · rw [if_pos h126] at hl
      rw [if_pos (show (126 : Int32) < nI (by8 w j) from nI_lt (a := 126) h126 (by omega)), hl]; rfl
    · rw [if_neg h126] at hl
      rw [if_neg (show ¬ (126 : Int32) < nI (by8 w j) from fun q => h126 ((nI_ltI (a := 126) (by decide) (by omega)).mp q)), jn0_d, jn2_d]
      by_cases h0 : by8 w j = 0
      · rw [if_pos h0] at hl
        rw [h0]
        have : (if bI b = 0 then (if nI 0 = 0 then nmv (nI j + 1) fun x4_11 => nx (nI c) 1 x4_11 else nmv (nI c + 1) fun x2_13 => nmv (nI j + 1) fun x4_11 => nx x2_13 (bI b) x4_11) else if nI 0 = 0 then (if nI 0 = 0 then nmv (nI j + 1) fun x4_11 => nx (nI c) 1 x4_11 else nmv (nI c + 1) fun x2_13 => nmv (nI j + 1) fun x4_11 => nx x2_13 (bI b) x4_11) else some (-1)) = nx (nI c) 1 (nI (j + 1)) := by
          rw [← nI_1]
          cases b <;> rfl
        refine this.trans ?_
        exact hnx _ _ _ ⟨j + 1, c, true, by omega, rfl, rfl, rfl, by omega, hl⟩ (by rw [nI_clamp (by omega), nI_clamp (by omega)]; omega)
      · rw [if_neg h0] at hl
        have hz : ¬ nI (by8 w j) = 0 := fun q => h0 ((nI_eq0 (by omega)).mp q)
        cases b with
        | true =>
          rw [if_pos rfl] at hl
          rw [if_neg (show ¬ bI true = 0 by decide), if_neg hz, hl]; rfl
        | false =>
          rw [if_neg (by decide)] at hl
          rw [if_pos (show bI false = 0 from rfl), if_neg hz, nmv_d]
          dsimp only
          rw [nmv_d, nI_1, nI_1]
          refine hnx _ _ _ ⟨j + 1, c + 1, false, by omega, rfl, rfl, rfl, by omega, ?_⟩ (by rw [nI_clamp (by omega), nI_clamp (by omega)]; omega)
          rw [hl]
          cases lcn false ((dig w).drop (j + 1)) with
          | none => rfl
          | some v => show some (c + (v + 1)) = some (c + 1 + v); rw [show c + (v + 1) = c + 1 + v by omega]
theorem pgR_snoc {pg : List Nat} {codes : A32} {d : Nat} {v : Int32} (h : pgR pg codes (nI pg.length)) (h14 : pg.length < 14) (hd : d < 127) (hv : v = nI d) : pgR (pg ++ [d]) (upd codes pg.length v) (nI (pg ++ [d]).length) := by
  obtain ⟨-, h2, h3, h4⟩ := h
  refine ⟨rfl, ?_, by rw [List.length_append]; show _ + 1 ≤ _; omega, ?_⟩
  · intro i hi
    rw [List.length_append] at hi
    have hi : i < pg.length + 1 := hi
    show (if i = pg.length then v else codes i) = _
    by_cases q : i = pg.length
    · rw [if_pos q, hv, q, List.getD_eq_getElem?_getD, List.getElem?_append_right (Nat.le_refl _), Nat.sub_self]; rfl
    · rw [if_neg q, h2 i (by omega), List.getD_eq_getElem?_getD, List.getD_eq_getElem?_getD, List.getElem?_append_left (by omega)]
  · intro c hc
    rcases List.mem_append.mp hc with q | q
    · exact h4 c q
    · rw [List.mem_singleton.mp q]; exact hd
theorem take_snoc {l : List Nat} {j : Nat} (h : j < l.length) (pg : List Nat) : pg ++ l.take (j + 1) = pg ++ l.take j ++ [l.getD j 0] := by rw [take_getD l j h, List.append_assoc]
theorem append_eq {pg : List Nat} {codes : A32} {size : Int32} (w : Int64) {c : Nat} (h : pgR pg codes size) (hc : lcn false (dig w) = some c) (hl : pg.length + c ≤ 14) : ∃ codes', f_X1_append codes size w (nI c) = some (codes', nI (pg.length + c)) ∧ pgR (pg ++ (dig w).take c) codes' (nI (pg.length + c)) := by
  have hk := lcn_ok _ _ hc
  rw [dig_len] at hk
  have hlen : ∀ j, j ≤ c → (pg ++ (dig w).take j).length = pg.length + j := fun j hj => by rw [List.length_append, List.length_take, dig_len]; omega
  unfold f_X1_append
  refine lp3_2_inv (fun (x4 : Int32) (cd : A32) (sz : Int32) => ∃ j, j ≤ c ∧ x4 = nI j ∧ sz = nI (pg.length + j) ∧ pgR (pg ++ (dig w).take j) cd (nI (pg.length + j))) (fun x4 _ _ => 8 - x4.toNatClampNeg) (fun o => ∃ codes' : A32, o = some (codes', nI (pg.length + c)) ∧ pgR (pg ++ (dig w).take c) codes' (nI (pg.length + c))) ?_ fuel 0 codes size ⟨0, by omega, rfl, h.1, by
    rw [List.take_zero, List.append_nil, Nat.add_zero]
    have := h
    rw [h.1] at this
    exact this⟩ (fuel_gt (by omega))
  intro x4 cd sz nx ⟨j, hj, e4, es, hp⟩ hnx
  subst e4; subst es
  by_cases hcj : c ≤ j
  · rw [if_pos (nI_le hcj (by omega))]
    have : j = c := by omega
    subst this
    exact ⟨cd, rfl, hp⟩
  · rw [if_neg (fun q => hcj ((nI_leI (by omega) (by omega)).mp q)), if_neg (show ¬ (14 : Int32) ≤ nI (pg.length + j) from fun q => by have := (nI_leI (a := 14) (by decide) (by omega)).mp q; omega), codeIn_eq w (by omega), cl1_s, astI_in (by omega) (by decide), nmv_d, nmv_d, nI_1, nI_1]
    refine hnx _ _ _ ⟨j + 1, by omega, rfl, rfl, ?_⟩ (by rw [nI_clamp (by omega), nI_clamp (by omega)]; omega)
    have hd := hk.2 j (by omega)
    rw [take_snoc (by rw [dig_len]; omega)]
    rw [← hlen j (by omega)] at hp
    have := pgR_snoc hp (by rw [hlen j (by omega)]; omega) hd (v := nI (by8 w j)) (by rw [dig_at w (by omega)])
    rw [List.length_append (as := pg ++ List.take j (dig w)), hlen j (by omega)] at this
    exact this
def ltrs (w : Int64) (pg : List Nat) : Int32 × List Nat := match lcn false (dig w) with
  | none => (-102, pg)
  | some c => if pg.length + c ≤ 14 then (nI (pg.length + c), pg ++ (dig w).take c) else (-104, pg)
theorem letters_eq {pg : List Nat} {codes : A32} {size : Int32} (w : Int64) (h : pgR pg codes size) : ∃ codes' size', f_X7_letters codes size w = some ((ltrs w pg).1, codes', size') ∧ pgR (ltrs w pg).2 codes' size' := by
  unfold f_X7_letters ltrs
  rw [lettersIn_eq, cl1_s]
  have h3 := h.2.2.1
  cases hc : lcn false (dig w) with
  | none =>
    rw [if_pos (show oI none = -1 from rfl)]
    exact ⟨codes, size, rfl, h⟩
  | some c =>
    have hk := (lcn_ok _ _ hc).1
    rw [dig_len] at hk
    rw [if_neg (show ¬ oI (some c) = -1 from nI_m1 (by omega)), h.1, show oI (some c) = nI c from rfl, nI_add]
    dsimp only
    by_cases hl : pg.length + c ≤ 14
    · rw [if_pos (show nI (pg.length + c) ≤ 14 from nI_le (b := 14) hl (by decide)), if_pos hl]
      have hp := h
      rw [h.1] at hp
      obtain ⟨codes', e, hp'⟩ := append_eq w hp hc hl
      rw [e, cl2_s]
      exact ⟨codes', _, rfl, hp'⟩
    · rw [if_neg (show ¬ nI (pg.length + c) ≤ 14 from fun q => hl ((nI_leI (b := 14) (by omega) (by decide)).mp q)), if_neg hl]
      exact ⟨codes, _, rfl, by rw [← h.1]; exact h⟩
theorem lettersM_eq {pg : List Nat} {page : A32} {plen : Int32} (w : Int64) (h : pgR pg page plen) : ∃ plen' page', f_X8_letters plen page w = some ((ltrs w pg).1, plen', page') ∧ pgR (ltrs w pg).2 page' plen' := by
  unfold f_X8_letters
  have h3 := h.2.2.1
  have hlast : ∀ c, lcn false (dig w) = some c → ∃ plen' page', (if (plen + nI c) ≤ 14 then (lp2_1 (fun (x5_18 : Int32) (m_page_19 : Nat → Int32) nx102 ex102 => if nI c ≤ x5_18 then (ex102 m_page_19) else (astB 14 m_page_19 (plen + x5_18) (Int8.toInt32 (Int32.toInt8 (Int64.toInt32 (w >>> (Int32.toInt64 ((8 : Int32) * x5_18) &&& 63))))) fun m_page_22 => nmv (α := Int32) (x5_18 + 1) fun x5_24 => nx102 x5_24 m_page_22)) (fun (m_page_20 : Nat → Int32) => nmv (α := Int32) (plen + nI c) fun m_pageLength_25 => some (m_pageLength_25, m_pageLength_25, m_page_20)) fuel 0 page) else (some ((-104), plen, page))) = some ((ltrs w pg).1, plen', page') ∧ pgR (ltrs w pg).2 page' plen' := by
    intro c hc
    have hk := lcn_ok _ _ hc
    rw [dig_len] at hk
    have hlen : ∀ j, j ≤ c → (pg ++ (dig w).take j).length = pg.length + j := fun j hj => by rw [List.length_append, List.length_take, dig_len]; omega
    unfold ltrs
    rw [hc]
    dsimp only
    have hp0 := h
    rw [h.1] at hp0 ⊢
    rw [nI_add]
    by_cases hl : pg.length + c ≤ 14
    · rw [if_pos (show nI (pg.length + c) ≤ 14 from nI_le (b := 14) hl (by decide)), if_pos hl]
      refine lp2_1_inv (fun (x5 : Int32) (cd : A32) => ∃ j, j ≤ c ∧ x5 = nI j ∧ pgR (pg ++ (dig w).take j) cd (nI (pg.length + j))) (fun x5 _ => 8 - x5.toNatClampNeg) (fun o => ∃ (plen' : Int32) (page' : A32), o = some (nI (pg.length + c), plen', page') ∧ pgR (pg ++ (dig w).take c) page' plen') ?_ fuel 0 page ⟨0, by omega, rfl, by
        rw [List.take_zero, List.append_nil, Nat.add_zero]; exact hp0⟩ (fuel_gt (by omega))
      intro x5 cd nx ⟨j, hj, e5, hp⟩ hnx
      subst e5
      by_cases hcj : c ≤ j
      · rw [if_pos (nI_le hcj (by omega))]
        have : j = c := by omega
        subst this
        exact ⟨_, cd, rfl, hp⟩
      · have hd := hk.2 j (by omega)
        have hd' := hd
        rw [dig_at w (by omega)] at hd'
        rw [if_neg (fun q => hcj ((nI_leI (by omega) (by omega)).mp q)), nI_add, astB_in (by omega) (by decide), nmv_d, nI_1, mbyte_eq w (by omega) hd']
        refine hnx _ _ ⟨j + 1, by omega, rfl, ?_⟩ (by rw [nI_clamp (by omega), nI_clamp (by omega)]; omega)
        rw [take_snoc (by rw [dig_len]; omega)]
        rw [← hlen j (by omega)] at hp
        have := pgR_snoc hp (by rw [hlen j (by omega)]; omega) hd (v := nI (by8 w j)) (by rw [dig_at w (by omega)])
        rw [List.length_append (as := pg ++ List.take j (dig w)), hlen j (by omega)] at this
        exact this
    · rw [if_neg (show ¬ nI (pg.length + c) ≤ 14 from fun q => hl ((nI_leI (b := 14) (by omega) (by decide)).mp q)), if_neg hl]
      exact ⟨_, page, rfl, hp0⟩
  have hnone : lcn false (dig w) = none → ∃ plen' page', some ((-102 : Int32), plen, page) = some ((ltrs w pg).1, plen', page') ∧ pgR (ltrs w pg).2 page' plen' := by
    intro hc
    unfold ltrs
    rw [hc]
    exact ⟨_, _, rfl, h⟩
  refine lp3_1_inv (fun x2 x3 x4 => ∃ j c b, j ≤ 8 ∧ x4 = nI j ∧ x3 = bI b ∧ x2 = nI c ∧ c ≤ j ∧ lcn false (dig w) = (lcn b ((dig w).drop j)).map (c + ·)) (fun _ _ x4 => 8 - x4.toNatClampNeg) (fun o => ∃ (plen' : Int32) (page' : A32), o = some ((ltrs w pg).1, plen', page') ∧ pgR (ltrs w pg).2 page' plen') ?_ fuel 0 0 0 ⟨0, 0, false, by omega, rfl, rfl, rfl, by omega, by rw [List.drop_zero]; cases lcn false (dig w) <;> simp⟩ (fuel_gt (by omega))
  intro x2 x3 x4 nx ⟨j, c, b, hj, e4, e3, e2, hcj, hl⟩ hnx
  subst e4; subst e3; subst e2
  by_cases h8 : 8 ≤ j
  · rw [if_pos (show (8 : Int32) ≤ nI j from nI_le (a := 8) h8 (by omega))]
    rw [List.drop_of_length_le (by rw [dig_len]; exact h8)] at hl
    exact hlast c hl
  · rw [if_neg (show ¬ (8 : Int32) ≤ nI j from fun q => h8 ((nI_leI (a := 8) (by decide) (by omega)).mp q)), nmv_d, mcode_eq w (by omega)]
    have hb := by8_lt w j
    rw [take_getD' (dig w) j (by rw [dig_len]; omega), dig_at w (by omega), lcn_cons] at hl
    by_cases h126 : 126 < by8 w j
    · rw [if_pos h126] at hl
      rw [if_pos (show (126 : Int32) < nI (by8 w j) from nI_lt (a := 126) h126 (by omega))]
      exact hnone hl
    · rw [if_neg h126] at hl
      rw [if_neg (show ¬ (126 : Int32) < nI (by8 w j) from fun q => h126 ((nI_ltI (a := 126) (by decide) (by omega)).mp q))]
      simp only [jn0_d, jn1_d]
      by_cases h0 : by8 w j = 0
      · rw [if_pos h0] at hl
        rw [h0]
        have hz : nI 0 = 0 := rfl
        simp only [hz, if_true, if_false, nmv_d, ite_self]
        rw [show nI c + 0 = nI c from by rw [show (0 : Int32) = nI 0 from rfl, nI_add, Nat.add_zero], nI_1]
        exact hnx _ _ _ ⟨j + 1, c, true, by omega, rfl, rfl, rfl, by omega, hl⟩ (by rw [nI_clamp (by omega), nI_clamp (by omega)]; omega)
      · rw [if_neg h0] at hl
        have hz : ¬ nI (by8 w j) = 0 := fun q => h0 ((nI_eq0 (by omega)).mp q)
        cases b with
        | true =>
          rw [if_pos rfl] at hl
          rw [if_neg (show ¬ bI true = 0 by decide), if_neg hz]
          exact hnone hl
        | false =>
          rw [if_neg (by decide)] at hl
          simp only [show bI false = 0 from rfl, hz, if_true, if_false, nmv_d]
          rw [nI_1, nI_1]
          refine hnx _ _ _ ⟨j + 1, c + 1, false, by omega, rfl, rfl, rfl, by omega, ?_⟩ (by rw [nI_clamp (by omega), nI_clamp (by omega)]; omega)
          rw [hl]
          cases lcn false ((dig w).drop (j + 1)) with
          | none => rfl
          | some v => show some (c + (v + 1)) = some (c + 1 + v); rw [show c + (v + 1) = c + 1 + v by omega]
