def isBr (pg : List Nat) : Bool := decide (3 ≤ ldP pg) && (decide (pg.length = ldP pg) || decide (ldP pg + 1 < pg.length)) && decide (flt pg = pg.length) && decide (enc8 (rowP pg) ≠ 0)
theorem flt_le (pg : List Nat) : flt pg ≤ pg.length := by
  unfold flt
  have := ld_le pg
  split
  · exact Nat.le_refl _
  · split
    · omega
    · have h := scn_le 0 (pg.drop (ldP pg + 1))
      rw [List.length_drop] at h
      omega
theorem tellsBrook_eq {pg : List Nat} {codes : A32} {size : Int32} (h : pgR pg codes size) : f_X1_tellsBrook codes size = some (bI (isBr pg)) := by
  have hl := leading_eq h
  have hf := fault_eq h
  have hr := row_eq h
  have hle := ld_le pg
  have hfl := flt_le pg
  have hrl := row_lt (rowP_rw pg).d (by rw [rowP_len]; exact hle.1)
  obtain ⟨rfl, h2, h3, h4⟩ := h
  unfold f_X1_tellsBrook
  rw [hl, cl1_s, jn1_d, jn0_d]
  have key : ∀ b : Bool, b = (decide (pg.length = ldP pg) || decide (ldP pg + 1 < pg.length)) → (if nI (ldP pg) < 3 then some 0 else if bI b = 0 then some 0 else cl1 (f_X1_firstFault codes (nI pg.length)) fun r_6 => if r_6 = nI pg.length then cl1 (f_X1_row codes (nI pg.length)) fun r_9 => if r_9 = 0 then some 0 else some 1 else some 0) = some (bI (isBr pg)) := by
    intro b hb
    unfold isBr
    rw [← hb]
    by_cases h1 : ldP pg < 3
    · rw [if_pos (show nI (ldP pg) < 3 from nI_lt (b := 3) h1 (by decide))]
      have : ¬ 3 ≤ ldP pg := by omega
      simp [this, bI]
    · rw [if_neg (show ¬ nI (ldP pg) < 3 from fun q => h1 ((nI_ltI (b := 3) (by omega) (by decide)).mp q))]
      have h1' : 3 ≤ ldP pg := by omega
      cases b with
      | false => simp [bI]
      | true =>
        rw [if_neg (show ¬ bI true = 0 by decide), hf, cl1_s]
        by_cases h5 : flt pg = pg.length
        · rw [if_pos (by rw [h5]), hr, cl1_s]
          by_cases h6 : enc8 (rowP pg) = 0
          · rw [if_pos (by rw [h6]; rfl)]; simp [h6, bI]
          · rw [if_neg (fun q => h6 ((nI_eq0 (by omega)).mp q))]; simp [h1', h5, h6, bI]
        · rw [if_neg (fun q => h5 ((nI_eq (by omega) (by omega)).mp q))]; simp [h5, bI]
  by_cases h1 : pg.length = ldP pg
  · rw [if_pos (by rw [h1])]
    exact key true (by simp [h1])
  · rw [if_neg (fun q => h1 ((nI_eq (by omega) (by omega)).mp q)), nI_1]
    by_cases h2 : pg.length ≤ ldP pg + 1
    · rw [if_pos (nI_le h2 (by omega))]
      have : ¬ ldP pg + 1 < pg.length := by omega
      exact key false (by simp [h1, this])
    · rw [if_neg (fun q => h2 ((nI_leI (by omega) (by omega)).mp q))]
      have : ldP pg + 1 < pg.length := by omega
      exact key true (by simp [this])
theorem tellsRow_eq {pg : List Nat} {codes : A32} {size : Int32} {n : Nat} (h : pgR pg codes size) (hn : n ≤ 7) : f_X1_tellsRow codes size (nI n) = some (bI (decide (pg.length = n) && decide (ldP pg = n))) := by
  have hl := leading_eq h
  have hle := ld_le pg
  obtain ⟨rfl, h2, h3, h4⟩ := h
  unfold f_X1_tellsRow
  by_cases h1 : pg.length = n
  · rw [if_pos (by rw [h1]), hl, cl1_s]
    by_cases h5 : ldP pg = n
    · rw [if_pos (by rw [h5])]; simp [h1, h5, bI]
    · rw [if_neg (fun q => h5 ((nI_eq (by omega) (by omega)).mp q))]; simp [h5, bI]
  · rw [if_neg (fun q => h1 ((nI_eq (by omega) (by omega)).mp q))]; simp [h1, bI]
theorem scn_sum_lt : ∀ (l : Nat) (cs : List Nat), l ≤ 4 → (scn l cs).2 + 2 ^ l ≤ 16 ∧ 1 ≤ 2 ^ l
  | l, [], h => by
    have h2 : 2 ^ l ≤ 2 ^ 4 := Nat.pow_le_pow_right (by decide) h
    have h3 : 0 < 2 ^ l := Nat.pow_pos (by decide)
    exact ⟨by show 0 + 2 ^ l ≤ 16; omega, h3⟩
  | l, c :: cs, h => by
    have h2 : 2 ^ l ≤ 2 ^ 4 := Nat.pow_le_pow_right (by decide) h
    have h3 : 0 < 2 ^ l := Nat.pow_pos (by decide)
    refine ⟨?_, h3⟩
    rw [scn_cons]
    cases hs : sg c with
    | none => show 0 + 2 ^ l ≤ 16; omega
    | some s =>
      dsimp only
      split
      · rename_i hls
        have hs3 := sg_le hs
        have ih := (scn_sum_lt (s + 1) cs (by omega)).1
        rw [Nat.pow_succ] at ih
        have h4 : 2 ^ l ≤ 2 ^ s := Nat.pow_le_pow_right (by decide) hls
        show (scn (s + 1) cs).2 + 2 ^ s + 2 ^ l ≤ 16
        omega
      · show 0 + 2 ^ l ≤ 16; omega
theorem sgP_lt (pg : List Nat) : sgP pg < 16 := by
  have := (scn_sum_lt 0 (pg.drop (ldP pg + 1)) (by omega)).1
  unfold sgP; omega
theorem br_all {pg : List Nat} (h : isBr pg = true) : 3 ≤ ldP pg ∧ (pg.length = ldP pg ∨ (ldP pg + 1 < pg.length ∧ pg.getD (ldP pg) 0 = 59)) ∧ (scn 0 (pg.drop (ldP pg + 1))).1 = (pg.drop (ldP pg + 1)).length ∧ enc8 (rowP pg) ≠ 0 := by
  unfold isBr at h
  simp only [Bool.and_eq_true, Bool.or_eq_true, decide_eq_true_eq] at h
  obtain ⟨⟨⟨h1, h2⟩, h3⟩, h4⟩ := h
  have hle := ld_le pg
  rcases h2 with h2 | h2
  · refine ⟨h1, Or.inl h2, ?_, h4⟩
    rw [List.drop_of_length_le (by omega)]; rfl
  · unfold flt at h3
    rw [if_neg (by omega)] at h3
    by_cases h5 : ldP pg < 3 ∨ pg.getD (ldP pg) 0 ≠ 59
    · rw [if_pos h5] at h3; omega
    · rw [if_neg h5] at h3
      refine ⟨h1, Or.inr ⟨h2, ?_⟩, by rw [List.length_drop]; omega, h4⟩
      exact Classical.byContradiction (fun q => h5 (Or.inr q))
theorem signs_eq {pg : List Nat} {codes : A32} {size : Int32} (h : pgR pg codes size) (hb : isBr pg = true) : f_X1_signs codes size = some (nI (sgP pg)) := by
  have hl := leading_eq h
  have hle := ld_le pg
  obtain ⟨-, -, hall, -⟩ := br_all hb
  have hsl := sgP_lt pg
  obtain ⟨rfl, h2, h3, h4⟩ := h
  unfold f_X1_signs
  rw [hl, cl1_s, nmv_d, nI_1]
  refine lp2_1_inv (fun x1 x2 => ∃ l j S, l ≤ 4 ∧ x2 = nI (ldP pg + 1 + j) ∧ x1 = nI S ∧ S < 2 ^ l ∧ sgP pg = S + (scn l (pg.drop (ldP pg + 1 + j))).2 ∧ (scn l (pg.drop (ldP pg + 1 + j))).1 = (pg.drop (ldP pg + 1 + j)).length ∧ ldP pg + 1 + j ≤ 15) (fun _ x2 => 15 - x2.toNatClampNeg) (fun o => o = some (nI (sgP pg))) ?_ fuel 0 _ ⟨0, 0, 0, by omega, rfl, rfl, by decide, by rw [Nat.zero_add]; rfl, hall, by omega⟩ (fuel_gt (by omega))
  intro x1 x2 nx ⟨l, j, S, hl4, e2, e1, hS, hsg, hcn, hb⟩ hnx
  subst e2; subst e1
  by_cases hc : pg.length ≤ ldP pg + 1 + j
  · rw [if_pos (nI_le hc (by omega)), hsg, List.drop_of_length_le hc]; rfl
  · rw [if_neg (fun q => hc ((nI_leI (by omega) (by omega)).mp q)), if_neg (show ¬ (14 : Int32) ≤ nI (ldP pg + 1 + j) from fun q => by have := (nI_leI (a := 14) (by decide) (by omega)).mp q; omega), ald_in (by omega) (by decide), h2 _ (by omega), signOf_eq (h4 _ (getD_mem (by omega))), cl1_s, jn1_d]
    rw [take_getD' pg (ldP pg + 1 + j) (by omega), scn_cons] at hsg hcn
    cases hs : sg (pg.getD (ldP pg + 1 + j) 0) with
    | none => rw [hs] at hcn; simp at hcn
    | some s =>
      have hs3 := sg_le hs
      rw [hs] at hsg hcn
      dsimp only at hsg hcn
      by_cases hls : l ≤ s
      · rw [if_pos hls] at hsg hcn
        rw [if_neg (show ¬ oI (some s) = -1 from nI_m1 (by omega)), nmv_d, show oI (some s) = nI s from rfl]
        have hpw : 1 * 2 ^ s < 2 ^ 32 := by rw [Nat.one_mul]; exact Nat.pow_lt_pow_right (by decide) (by omega)
        have h2s : 2 ^ l ≤ 2 ^ s := Nat.pow_le_pow_right (by decide) hls
        have hor := or_low' (m := 1) (Nat.lt_of_lt_of_le hS h2s)
        rw [n_lit 1, pk_shlN _ s (sh31 s (by omega)) hpw, nx_or, hor, Nat.one_mul]
        show nx (nI (S + 2 ^ s)) (nI (ldP pg + 1 + j) + 1) = _
        rw [nI_1]
        refine hnx _ _ ⟨s + 1, j + 1, S + 2 ^ s, by omega, rfl, rfl, by rw [Nat.pow_succ]; omega, ?_, ?_, by omega⟩ (by rw [nI_clamp (by omega), nI_clamp (by omega)]; omega)
        · rw [hsg]
          show S + ((scn (s + 1) (pg.drop (ldP pg + 1 + j + 1))).2 + 2 ^ s) = _
          rw [show ldP pg + 1 + (j + 1) = ldP pg + 1 + j + 1 by omega]; omega
        · rw [show ldP pg + 1 + (j + 1) = ldP pg + 1 + j + 1 by omega]
          rw [List.length_cons] at hcn
          have hcn : (scn (s + 1) (pg.drop (ldP pg + 1 + j + 1))).1 + 1 = _ := hcn
          omega
      · rw [if_neg hls] at hcn; simp at hcn
def phB (pg : List Nat) : Bool := decide (ldP pg < pg.length) && decide (3 ≤ ldP pg) && decide (pg.getD (ldP pg) 0 = 59)
theorem row_nz {n : Nat} {r : Nd} (h : Rw n r) : enc8 r ≠ 0 ↔ 0 < r.sum := by
  have key : ∀ l : List Nat, enc8 l = 0 ↔ l.sum = 0 := by
    intro l
    induction l with
    | nil => exact Iff.rfl
    | cons a l ih =>
      show a + 8 * enc8 l = 0 ↔ (a :: l).sum = 0
      rw [List.sum_cons]
      omega
  have := key r
  omega
theorem sum_take {r : List Nat} {j : Nat} (h : j < r.length) : (r.take (j + 1)).sum = (r.take j).sum + r.getD j 0 := by rw [take_getD r j h, List.sum_append]; simp
theorem scn_pos {pg : List Nat} (h1 : ldP pg + 1 < pg.length) (h2 : (scn 0 (pg.drop (ldP pg + 1))).1 = (pg.drop (ldP pg + 1)).length) : 0 < sgP pg := by
  unfold sgP
  rw [take_getD' pg (ldP pg + 1) h1, scn_cons] at h2 ⊢
  cases hs : sg (pg.getD (ldP pg + 1) 0) with
  | none => rw [hs] at h2; simp at h2
  | some s =>
    dsimp only
    rw [if_pos (Nat.zero_le _)]
    have : 0 < 2 ^ s := Nat.pow_pos (by decide)
    show 0 < (scn (s + 1) _).2 + 2 ^ s
    omega
theorem isBr_iff (pg : List Nat) : isBr pg = true ↔ flt pg = pg.length ∧ 3 ≤ ldP pg ∧ 0 < (rowP pg).sum ∧ (phB pg = true → 0 < sgP pg) := by
  have hle := ld_le pg
  have hz := row_nz (rowP_rw pg)
  constructor
  · intro h
    obtain ⟨a1, a2, a3, a4⟩ := br_all h
    have hf : flt pg = pg.length := by
      unfold isBr at h
      simp only [Bool.and_eq_true, decide_eq_true_eq] at h
      exact h.1.2
    refine ⟨hf, a1, hz.mp a4, fun hp => ?_⟩
    unfold phB at hp
    simp only [Bool.and_eq_true, decide_eq_true_eq] at hp
    rcases a2 with q | q
    · omega
    · exact scn_pos q.1 a3
  · rintro ⟨a1, a2, a3, a4⟩
    unfold isBr
    simp only [Bool.and_eq_true, Bool.or_eq_true, decide_eq_true_eq]
    refine ⟨⟨⟨a2, ?_⟩, a1⟩, hz.mpr a3⟩
    by_cases q : pg.length = ldP pg
    · exact Or.inl q
    · right
      apply Classical.byContradiction
      intro hn
      have hl1 : pg.length = ldP pg + 1 := by omega
      unfold flt at a1
      rw [if_neg (by omega)] at a1
      by_cases h5 : ldP pg < 3 ∨ pg.getD (ldP pg) 0 ≠ 59
      · rw [if_pos h5] at a1; omega
      · have h59 : pg.getD (ldP pg) 0 = 59 := Classical.byContradiction (fun q => h5 (Or.inr q))
        have hp : phB pg = true := by
          unfold phB
          simp only [Bool.and_eq_true, decide_eq_true_eq]
          exact ⟨⟨by omega, a2⟩, h59⟩
        have := a4 hp
        unfold sgP at this
        rw [List.drop_of_length_le (by omega)] at this
        simp [scn] at this
theorem readBrook_eq {pg : List Nat} {page : A32} {plen fa iw nm ns : Int32} {nr : A32} (h : pgR pg page plen) : ∃ nr', f_X8_readBrook plen page fa iw nm ns nr = some (nI (flt pg), bI (isBr pg), nI (ldP pg), nI (if phB pg then sgP pg else 0), nr') ∧ ∀ i, i < ldP pg → nr' i = nI ((rowP pg).getD i 0) := by
  have hle := ld_le pg
  have hsl := sgP_lt pg
  have hfl := flt_le pg
  obtain ⟨rfl, h2, h3, h4⟩ := h
  unfold f_X8_readBrook
  have hkd : ∀ j, j < ldP pg → ∃ v, kd (pg.getD j 0) = some v ∧ (rowP pg).getD j 0 = v := by
    intro j hj
    obtain ⟨v, hv⟩ := Option.isSome_iff_exists.mp (lead_kd 7 pg j hj)
    exact ⟨v, hv, by rw [rowP_at hj, hv]; rfl⟩
  have hstop : ldP pg < pg.length → ldP pg < 7 → kd (pg.getD (ldP pg) 0) = none := by
    have key : ∀ (k : Nat) (l : List Nat), lead k l < l.length → lead k l < k → kd (l.getD (lead k l) 0) = none := by
      intro k
      induction k with
      | zero => intro l _ h; exact absurd h (Nat.not_lt_zero _)
      | succ k ih =>
        intro l h5 h6
        cases l with
        | nil => exact absurd h5 (Nat.not_lt_zero _)
        | cons c cs =>
          unfold lead at h5 h6 ⊢
          by_cases hc : (kd c).isSome = true
          · rw [if_pos hc] at h5 h6 ⊢
            rw [List.length_cons] at h5
            exact ih cs (by omega) (by omega)
          · rw [if_neg hc]
            show kd c = none
            cases hk : kd c with
            | none => rfl
            | some v => rw [hk] at hc; exact absurd rfl hc
    exact key 7 pg
  refine lp6_5_inv (fun (x1 x2 x3 : Int32) (m1 s1 : Int32) (r1 : A32) =>
      (x1 = 0 ∧ x3 = 1 ∧ s1 = 0 ∧ ∃ j, j ≤ ldP pg ∧ x2 = nI j ∧ m1 = nI j ∧ ∀ i, i < j → r1 i = nI ((rowP pg).getD i 0)) ∨
      (x1 = 1 ∧ x3 = 1 ∧ m1 = nI (ldP pg) ∧ phB pg = true ∧ (∀ i, i < ldP pg → r1 i = nI ((rowP pg).getD i 0)) ∧ ∃ j l S, l ≤ 4 ∧ ldP pg + 1 + j ≤ pg.length ∧ x2 = nI (ldP pg + 1 + j) ∧ s1 = nI S ∧ S < 2 ^ l ∧ (0 < l → 2 ^ (l - 1) ≤ S) ∧ flt pg = ldP pg + 1 + j + (scn l (pg.drop (ldP pg + 1 + j))).1 ∧ sgP pg = S + (scn l (pg.drop (ldP pg + 1 + j))).2) ∨
      (x3 = 0 ∧ x1 = bI (phB pg) ∧ x2 = nI (flt pg) ∧ m1 = nI (ldP pg) ∧ s1 = nI (if phB pg then sgP pg else 0) ∧ ∀ i, i < ldP pg → r1 i = nI ((rowP pg).getD i 0)))
    (fun (x1 x2 x3 : Int32) (_ _ : Int32) (_ : A32) => if x3 = 0 then 0 else 16 - x2.toNatClampNeg) (fun o => ∃ nr' : A32, o = some (nI (flt pg), bI (isBr pg), nI (ldP pg), nI (if phB pg then sgP pg else 0), nr') ∧ ∀ i, i < ldP pg → nr' i = nI ((rowP pg).getD i 0)) ?_ fuel 0 0 1 0 0 nr (Or.inl ⟨rfl, rfl, rfl, 0, Nat.zero_le _, rfl, rfl, fun i hi => absurd hi (Nat.not_lt_zero _)⟩) (fuel_gt (by rw [if_neg (by decide)]; omega))
  intro x1 x2 x3 m1 s1 r1 nx hI hnx
  -- the end
  have hend : ∀ (r1 : A32), (∀ i, i < ldP pg → r1 i = nI ((rowP pg).getD i 0)) → ∃ nr', (lp2_1 (fun (x4_47 : Int32) (x5_48 : Int32) nx181 ex181 => if nI (ldP pg) ≤ x5_48 then (ex181 x4_47) else (ald 7 r1 x5_48 fun v_51 => nmv (α := Int32) (x4_47 + v_51) fun x4_53 => nmv (α := Int32) (x5_48 + 1) fun x5_54 => nx181 x4_53 x5_54)) (fun (x4_49 : Int32) => jn1 (fun (s_55 : Int32) => gz s_55 fun _ => some (nI (flt pg), s_55, nI (ldP pg), nI (if phB pg then sgP pg else 0), r1)) fun j246 => jn0 (j246 0) fun j245 => if nI (flt pg) = nI pg.length then (if nI (ldP pg) ≤ 2 then (j245) else (if x4_49 ≤ 0 then (j245) else (jn0 (j246 1) fun j241 => if bI (phB pg) = 0 then (j241) else (if nI (if phB pg then sgP pg else 0) ≤ 0 then (j245) else (j241))))) else (j245)) fuel 0 0) = some (nI (flt pg), bI (isBr pg), nI (ldP pg), nI (if phB pg then sgP pg else 0), nr') ∧ ∀ i, i < ldP pg → nr' i = nI ((rowP pg).getD i 0) := by
    intro r1 hr1
    refine ⟨r1, ?_, hr1⟩
    have hsum : (rowP pg).sum ≤ 28 := by
      have h1 : ∀ l : List Nat, (∀ k ∈ l, k ≤ 4) → l.sum ≤ 4 * l.length := by
        intro l
        induction l with
        | nil => intro _; exact Nat.le_refl _
        | cons a l ih =>
          intro h
          have := ih (fun k hk => h k (List.mem_cons_of_mem _ hk))
          have h2 := h a List.mem_cons_self
          rw [List.sum_cons, List.length_cons]; omega
      have := h1 _ (rowP_rw pg).2
      rw [rowP_len] at this; omega
    refine lp2_1_inv (fun x4 x5 => ∃ j, j ≤ ldP pg ∧ x5 = nI j ∧ x4 = nI ((rowP pg).take j).sum) (fun _ x5 => 7 - x5.toNatClampNeg) (fun o => o = some (nI (flt pg), bI (isBr pg), nI (ldP pg), nI (if phB pg then sgP pg else 0), r1)) ?_ fuel 0 0 ⟨0, Nat.zero_le _, rfl, rfl⟩ (fuel_gt (by omega))
    intro x4 x5 nx ⟨j, hj, e5, e4⟩ hnx
    subst e5; subst e4
    by_cases hc : ldP pg ≤ j
    · rw [if_pos (nI_le hc (by omega)), List.take_of_length_le (by rw [rowP_len]; exact hc)]
      dsimp only
      rw [jn1_d, jn0_d, jn0_d]
      have hiff := isBr_iff pg
      have f0 : gz (0 : Int32) (fun _ => some (nI (flt pg), (0 : Int32), nI (ldP pg), nI (if phB pg then sgP pg else 0), r1)) = some (nI (flt pg), bI false, nI (ldP pg), nI (if phB pg then sgP pg else 0), r1) := gz_in (Or.inl rfl)
      have f1 : gz (1 : Int32) (fun _ => some (nI (flt pg), (1 : Int32), nI (ldP pg), nI (if phB pg then sgP pg else 0), r1)) = some (nI (flt pg), bI true, nI (ldP pg), nI (if phB pg then sgP pg else 0), r1) := gz_in (Or.inr rfl)
      have no : isBr pg = false → gz (0 : Int32) (fun _ => some (nI (flt pg), (0 : Int32), nI (ldP pg), nI (if phB pg then sgP pg else 0), r1)) = some (nI (flt pg), bI (isBr pg), nI (ldP pg), nI (if phB pg then sgP pg else 0), r1) := fun e => by rw [e, f0]
      have yes : isBr pg = true → gz (1 : Int32) (fun _ => some (nI (flt pg), (1 : Int32), nI (ldP pg), nI (if phB pg then sgP pg else 0), r1)) = some (nI (flt pg), bI (isBr pg), nI (ldP pg), nI (if phB pg then sgP pg else 0), r1) := fun e => by rw [e, f1]
      have nb : ∀ {P : Prop}, (isBr pg = true → P) → ¬ P → isBr pg = false := fun h1 h2 => by
        cases e : isBr pg with
        | false => rfl
        | true => exact absurd (h1 e) h2
      by_cases c1 : flt pg = pg.length
      · rw [if_pos (by rw [c1])]
        by_cases c2 : ldP pg ≤ 2
        · rw [if_pos (show nI (ldP pg) ≤ 2 from nI_le (b := 2) c2 (by decide))]
          exact no (nb (fun e => (hiff.mp e).2.1) (by omega))
        · rw [if_neg (show ¬ nI (ldP pg) ≤ 2 from fun q => c2 ((nI_leI (b := 2) (by omega) (by decide)).mp q))]
          by_cases c3 : (rowP pg).sum = 0
          · rw [if_pos (show nI (rowP pg).sum ≤ 0 by rw [c3]; decide)]
            exact no (nb (fun e => (hiff.mp e).2.2.1) (by omega))
          · rw [if_neg (nI_nle (by omega) (by omega))]
            cases c4 : phB pg with
            | false =>
              rw [c4] at yes
              rw [if_pos (show bI false = 0 from rfl)]
              exact yes (hiff.mpr ⟨c1, by omega, by omega, fun q => by rw [c4] at q; cases q⟩)
            | true =>
              rw [c4] at yes no
              rw [if_neg (show ¬ bI true = 0 by decide), if_pos rfl]
              rw [if_pos rfl] at yes no
              by_cases c5 : sgP pg = 0
              · rw [if_pos (show nI (sgP pg) ≤ 0 by rw [c5]; decide)]
                exact no (nb (fun e => (hiff.mp e).2.2.2 c4) (by omega))
              · rw [if_neg (nI_nle (by omega) (by omega))]
                exact yes (hiff.mpr ⟨c1, by omega, by omega, fun _ => by omega⟩)
      · rw [if_neg (fun q => c1 ((nI_eq (by omega) (by omega)).mp q))]
        exact no (nb (fun e => (hiff.mp e).1) c1)
    · rw [if_neg (fun q => hc ((nI_leI (by omega) (by omega)).mp q)), ald_in (by omega) (by decide), nmv_d, nmv_d, hr1 j (by omega), nI_1, nI_add]
      exact hnx _ _ ⟨j + 1, by omega, rfl, by rw [sum_take (by rw [rowP_len]; omega)]⟩ (by rw [nI_clamp (by omega), nI_clamp (by omega)]; omega)
  have hgo : ∀ (x : Int32), x = 0 ∨ x = 1 → True := fun _ _ => trivial
  have hcd : ∀ j, j < pg.length → pg.getD j 0 < 127 := fun j hj => h4 _ (getD_mem hj)
  rcases hI with ⟨e1, e3, es, j, hj, e2, em, hr1⟩ | ⟨e1, e3, em, hph, hr1, j, l, S, hl4, hjl, e2, es, hS, hS2, hfe, hse⟩ | ⟨e3, e1, e2, em, es, hr1⟩
  · subst e1; subst e3; subst es; subst e2; subst em
    by_cases hc : pg.length ≤ j
    · rw [if_pos (nI_le hc (by omega))]
      have hld : ldP pg = j := by omega
      have hf : flt pg = j := by unfold flt; rw [if_pos (by omega)]; omega
      have hp : phB pg = false := by unfold phB; rw [decide_eq_false (by omega)]; rfl
      have := hend r1 (by rw [hld]; exact hr1)
      rw [hp, hf, hld] at this
      rw [hp, hf, hld]
      exact this
    · rw [if_neg (fun q => hc ((nI_leI (by omega) (by omega)).mp q)), if_neg (by decide), ald_in (by omega) (by decide), h2 j (by omega), jn5_d, if_pos rfl]
      simp only [jn0_d, jn1_d, if_neg (show ¬ (1 : Int32) = 0 by decide), if_pos (show (0 : Int32) = 0 from rfl), nmv_d]
      -- what comes with no new phase
      have hgen : ¬ (pg.getD j 0 = 59 ∧ 3 ≤ j) → ∃ nr', (cl1 (f_X8_kindBy (nI (pg.getD j 0))) fun r_25 => if r_25 = -1 then nx 0 (nI j + 0) 0 (nI j) 0 r1 else if 7 ≤ nI j then nx 0 (nI j + 0) 0 (nI j) 0 r1 else cl1 (f_X8_kindBy (nI (pg.getD j 0))) fun r_29 => astI 7 r1 (nI j) r_29 fun m_newRow_31 => nx 0 (nI j + 1) 1 (nI j + 1) 0 m_newRow_31) = some (nI (flt pg), bI (isBr pg), nI (ldP pg), nI (if phB pg then sgP pg else 0), nr') ∧ ∀ i, i < ldP pg → nr' i = nI ((rowP pg).getD i 0) := by
        intro hno
        rw [kindBy_eq (hcd j (by omega)), cl1_s]
        have hstay : j = ldP pg → ∃ nr', nx 0 (nI j + 0) 0 (nI j) 0 r1 = some (nI (flt pg), bI (isBr pg), nI (ldP pg), nI (if phB pg then sgP pg else 0), nr') ∧ ∀ i, i < ldP pg → nr' i = nI ((rowP pg).getD i 0) := by
          intro hjl
          have hp : phB pg = false := by
            unfold phB
            rw [← hjl]
            by_cases h59 : pg.getD j 0 = 59
            · rw [decide_eq_false (p := 3 ≤ j) (fun q => hno ⟨h59, q⟩), Bool.and_false]; rfl
            · rw [decide_eq_false h59, Bool.and_false]
          have hf : flt pg = j := by
            unfold flt
            rw [if_neg (by omega), if_pos]
            · exact hjl.symm
            · rw [← hjl]
              by_cases h59 : pg.getD j 0 = 59
              · exact Or.inl (by
                  have : ¬ 3 ≤ j := fun q => hno ⟨h59, q⟩
                  omega)
              · exact Or.inr h59
          rw [show nI j + 0 = nI j from by rw [show (0 : Int32) = nI 0 from rfl, nI_add, Nat.add_zero]]
          refine hnx _ _ _ _ _ _ (Or.inr (Or.inr ⟨rfl, by rw [hp]; rfl, by rw [hf], by rw [hjl], by rw [hp]; rfl, by rw [← hjl]; exact hr1⟩)) ?_
          rw [if_pos rfl, if_neg (by decide), nI_clamp (by omega)]; omega
        cases hk : kd (pg.getD j 0) with
        | none =>
          rw [if_pos (show oI none = -1 from rfl)]
          apply hstay
          apply Classical.byContradiction
          intro q
          obtain ⟨v, hv, -⟩ := hkd j (by omega)
          rw [hk] at hv; cases hv
        | some v =>
          have hv4 := kd_le hk
          rw [if_neg (show ¬ oI (some v) = -1 from nI_m1 (by omega))]
          by_cases h7 : 7 ≤ j
          · rw [if_pos (show (7 : Int32) ≤ nI j from nI_le (a := 7) h7 (by omega))]
            exact hstay (by omega)
          · rw [if_neg (show ¬ (7 : Int32) ≤ nI j from fun q => h7 ((nI_leI (a := 7) (by decide) (by omega)).mp q)), cl1_s, astI_in (by omega) (by decide), nI_1]
            have hjl : j < ldP pg := by
              apply Classical.byContradiction
              intro q
              have : j = ldP pg := by omega
              have := hstop (by omega) (by omega)
              rw [show ldP pg = j by omega, hk] at this
              cases this
            refine hnx _ _ _ _ _ _ (Or.inl ⟨rfl, rfl, rfl, j + 1, by omega, rfl, rfl, ?_⟩) ?_
            · intro i hi
              show (if i = j then _ else _) = _
              by_cases hij : i = j
              · rw [if_pos hij, hij]
                obtain ⟨v', hv, hv2⟩ := hkd j hjl
                rw [hk] at hv
                rw [hv2]
                cases hv; rfl
              · rw [if_neg hij]; exact hr1 i (by omega)
            · rw [if_neg (by decide), if_neg (by decide), nI_clamp (by omega), nI_clamp (by omega)]; omega
      by_cases h59 : pg.getD j 0 = 59
      · rw [if_pos (show nI (pg.getD j 0) = 59 by rw [h59]; rfl)]
        by_cases h3s : j ≤ 2
        · rw [if_pos (show nI j ≤ 2 from nI_le (b := 2) h3s (by decide))]
          exact hgen (by omega)
        · rw [if_neg (show ¬ nI j ≤ 2 from fun q => h3s ((nI_leI (b := 2) (by omega) (by decide)).mp q)), nI_1]
          have hjl : j = ldP pg := by
            apply Classical.byContradiction
            intro q
            obtain ⟨v, hv, -⟩ := hkd j (by omega)
            rw [h59] at hv; cases hv
          have hp : phB pg = true := by
            unfold phB
            rw [← hjl]
            simp only [Bool.and_eq_true, decide_eq_true_eq]
            exact ⟨⟨by omega, by omega⟩, h59⟩
          refine hnx _ _ _ _ _ _ (Or.inr (Or.inl ⟨rfl, rfl, by rw [hjl], hp, by rw [← hjl]; exact hr1, 0, 0, 0, by omega, by omega, by rw [hjl], rfl, by decide, fun q => absurd q (Nat.lt_irrefl _), ?_, by rw [Nat.zero_add]; rfl⟩)) ?_
          · unfold flt
            rw [if_neg (by omega), if_neg]
            · rw [← hjl]
              rintro (q | q)
              · omega
              · exact q h59
          · rw [if_neg (by decide), if_neg (by decide), nI_clamp (by omega), nI_clamp (by omega)]; omega
      · rw [if_neg (show ¬ nI (pg.getD j 0) = 59 from fun q => h59 ((nI_eq (b := 59) (by have := hcd j (by omega); omega) (by decide)).mp q))]
        exact hgen (fun q => h59 q.1)
  · subst e1; subst e3; subst es; subst e2; subst em
    have hS16 : 2 ^ l ≤ 2 ^ 4 := Nat.pow_le_pow_right (by decide) hl4
    by_cases hc : pg.length ≤ ldP pg + 1 + j
    · rw [if_pos (nI_le hc (by omega))]
      rw [List.drop_of_length_le hc] at hfe hse
      have hf : flt pg = ldP pg + 1 + j := hfe
      have hs' : sgP pg = S := hse
      have := hend r1 hr1
      rw [hph, if_pos rfl, hs', hf] at this
      rw [hph, if_pos rfl, hs', hf]
      exact this
    · rw [if_neg (fun q => hc ((nI_leI (by omega) (by omega)).mp q)), if_neg (by decide), ald_in (by omega) (by decide), h2 _ (by omega), jn5_d, if_neg (by decide)]
      simp only [jn0_d, jn1_d]
      rw [signBy_eq (hcd _ (by omega)), cl1_s]
      rw [take_getD' pg (ldP pg + 1 + j) (by omega), scn_cons] at hfe hse
      have hstay : flt pg = ldP pg + 1 + j → sgP pg = S → ∃ nr', nx 1 (nI (ldP pg + 1 + j) + 0) 0 (nI (ldP pg)) (nI S + 0) r1 = some (nI (flt pg), bI (isBr pg), nI (ldP pg), nI (if phB pg then sgP pg else 0), nr') ∧ ∀ i, i < ldP pg → nr' i = nI ((rowP pg).getD i 0) := by
        intro hf hs'
        rw [show nI (ldP pg + 1 + j) + 0 = nI (ldP pg + 1 + j) from by rw [show (0 : Int32) = nI 0 from rfl, nI_add, Nat.add_zero], show nI S + 0 = nI S from by rw [show (0 : Int32) = nI 0 from rfl, nI_add, Nat.add_zero]]
        refine hnx _ _ _ _ _ _ (Or.inr (Or.inr ⟨rfl, by rw [hph]; rfl, by rw [hf], rfl, by rw [hph, if_pos rfl, hs'], hr1⟩)) ?_
        rw [if_pos rfl, if_neg (by decide), nI_clamp (by omega)]; omega
      cases hs : sg (pg.getD (ldP pg + 1 + j) 0) with
      | none =>
        rw [hs] at hfe hse
        rw [if_pos (show nI (lmN none) ≤ nI S from nI_le (a := 0) (Nat.zero_le _) (by omega)), if_pos trivial, nmv_d, if_pos trivial, nmv_d]
        exact hstay hfe hse
      | some s =>
        have hs3 := sg_le hs
        rw [hs] at hfe hse
        dsimp only at hfe hse
        have hs16 : 2 ^ s ≤ 2 ^ 3 := Nat.pow_le_pow_right (by decide) hs3
        by_cases hls : l ≤ s
        · have h2s : 2 ^ l ≤ 2 ^ s := Nat.pow_le_pow_right (by decide) hls
          rw [if_pos hls] at hfe hse
          rw [if_neg (show ¬ nI (lmN (some s)) ≤ nI S from fun q => by
            have := (nI_leI (a := 2 ^ s) (by omega) (by omega)).mp q
            omega), if_neg (by decide), cl1_s, nmv_d, if_neg (by decide), nmv_d, nI_1, show lmN (some s) = 2 ^ s from rfl, nI_add]
          refine hnx _ _ _ _ _ _ (Or.inr (Or.inl ⟨rfl, rfl, rfl, hph, hr1, j + 1, s + 1, S + 2 ^ s, by omega, by omega, rfl, rfl, by rw [Nat.pow_succ]; omega, fun _ => by rw [Nat.add_sub_cancel]; omega, ?_, ?_⟩)) ?_
          · rw [hfe]
            show ldP pg + 1 + j + ((scn (s + 1) (pg.drop (ldP pg + 1 + j + 1))).1 + 1) = _
            rw [show ldP pg + 1 + (j + 1) = ldP pg + 1 + j + 1 by omega]; omega
          · rw [hse]
            show S + ((scn (s + 1) (pg.drop (ldP pg + 1 + j + 1))).2 + 2 ^ s) = _
            rw [show ldP pg + 1 + (j + 1) = ldP pg + 1 + j + 1 by omega]; omega
          · rw [if_neg (by decide), if_neg (by decide), nI_clamp (by omega), nI_clamp (by omega)]; omega
        · have h2s : 2 ^ s ≤ 2 ^ (l - 1) := Nat.pow_le_pow_right (by decide) (by omega)
          have := hS2 (by omega)
          rw [if_neg hls] at hfe hse
          rw [if_pos (show nI (lmN (some s)) ≤ nI S from nI_le (a := 2 ^ s) (by omega) (by omega)), if_pos trivial, nmv_d, if_pos trivial, nmv_d]
          exact hstay hfe hse
  · subst e1; subst e3; subst es; subst e2; subst em
    rw [if_pos rfl]
    by_cases hc : nI pg.length ≤ nI (flt pg)
    · rw [if_pos hc]; exact hend r1 hr1
    · rw [if_neg hc]; exact hend r1 hr1
