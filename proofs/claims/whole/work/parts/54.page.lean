/-! ===== the page: what is read there; the class's Page ===== -/
def kd (c : Nat) : Option Nat := if c = 46 then some 0 else if c = 60 then some 2 else if c = 62 then some 1 else if c = 103 then some 4 else if c = 111 then some 3 else none
def sg (c : Nat) : Option Nat := if c = 97 then some 0 else if c = 98 then some 1 else if c = 114 then some 2 else if c = 116 then some 3 else none
theorem nI_lit {c k : Nat} (hc : c < 2 ^ 31) (hk : k < 2 ^ 31) : (nI c = OfNat.ofNat k) ↔ c = k := nI_eq hc hk
theorem kindOf_eq {c : Nat} (hc : c < 127) : f_X1_kindOf (nI c) = some (oI (kd c)) := by
  unfold f_X1_kindOf kd
  have e46 : nI c = 46 ↔ c = 46 := nI_eq (b := 46) (by omega) (by decide)
  have e60 : nI c = 60 ↔ c = 60 := nI_eq (b := 60) (by omega) (by decide)
  have e62 : nI c = 62 ↔ c = 62 := nI_eq (b := 62) (by omega) (by decide)
  have e103 : nI c = 103 ↔ c = 103 := nI_eq (b := 103) (by omega) (by decide)
  have e111 : nI c = 111 ↔ c = 111 := nI_eq (b := 111) (by omega) (by decide)
  simp only [e46, e60, e62, e103, e111]
  repeat (first | rfl | split)
theorem kindBy_eq {c : Nat} (hc : c < 127) : f_X8_kindBy (nI c) = some (oI (kd c)) := by
  unfold f_X8_kindBy kd
  have e46 : nI c = 46 ↔ c = 46 := nI_eq (b := 46) (by omega) (by decide)
  have e60 : nI c = 60 ↔ c = 60 := nI_eq (b := 60) (by omega) (by decide)
  have e62 : nI c = 62 ↔ c = 62 := nI_eq (b := 62) (by omega) (by decide)
  have e103 : nI c = 103 ↔ c = 103 := nI_eq (b := 103) (by omega) (by decide)
  have e111 : nI c = 111 ↔ c = 111 := nI_eq (b := 111) (by omega) (by decide)
  simp only [e46, e60, e62, e103, e111]
  by_cases h1 : c = 46
  · simp [h1]; rfl
  · by_cases h2 : c = 62
    · simp [h2]; rfl
    · simp only [h1, h2, if_false]
      repeat (first | rfl | split)
theorem signOf_eq {c : Nat} (hc : c < 127) : f_X1_signOf (nI c) = some (oI (sg c)) := by
  unfold f_X1_signOf sg
  have e1 : nI c = 97 ↔ c = 97 := nI_eq (b := 97) (by omega) (by decide)
  have e2 : nI c = 98 ↔ c = 98 := nI_eq (b := 98) (by omega) (by decide)
  have e3 : nI c = 114 ↔ c = 114 := nI_eq (b := 114) (by omega) (by decide)
  have e4 : nI c = 116 ↔ c = 116 := nI_eq (b := 116) (by omega) (by decide)
  simp only [e1, e2, e3, e4]
  repeat (first | rfl | split)
theorem signBy_eq {c : Nat} (hc : c < 127) : f_X8_signBy (nI c) = some (nI (lmN (sg c))) := by
  unfold f_X8_signBy sg
  have e1 : nI c = 97 ↔ c = 97 := nI_eq (b := 97) (by omega) (by decide)
  have e2 : nI c = 98 ↔ c = 98 := nI_eq (b := 98) (by omega) (by decide)
  have e3 : nI c = 114 ↔ c = 114 := nI_eq (b := 114) (by omega) (by decide)
  have e4 : nI c = 116 ↔ c = 116 := nI_eq (b := 116) (by omega) (by decide)
  simp only [e1, e2, e3, e4]
  repeat (first | rfl | split)
theorem kd_le {c k : Nat} (h : kd c = some k) : k ≤ 4 := by
  unfold kd at h
  repeat (first | (cases h <;> omega) | split at h)
theorem sg_le {c k : Nat} (h : sg c = some k) : k ≤ 3 := by
  unfold sg at h
  repeat (first | (cases h <;> omega) | split at h)
theorem kd_59 : kd 59 = none := rfl
def lead : Nat → List Nat → Nat
  | 0, _ => 0
  | _ + 1, [] => 0
  | k + 1, c :: cs => if (kd c).isSome then lead k cs + 1 else 0
/-- how many stones stand at the page's head, seven at most -/
def ldP (pg : List Nat) : Nat := lead 7 pg
/-- the signs from a place on, as far as they rise: how many, their sum -/
def scn : Nat → List Nat → Nat × Nat
  | _, [] => (0, 0)
  | l, c :: cs => match sg c with
    | some s => if l ≤ s then ((scn (s + 1) cs).1 + 1, (scn (s + 1) cs).2 + 2 ^ s) else (0, 0)
    | none => (0, 0)
theorem scn_cons (l c : Nat) (cs : List Nat) : scn l (c :: cs) = match sg c with
    | some s => if l ≤ s then ((scn (s + 1) cs).1 + 1, (scn (s + 1) cs).2 + 2 ^ s) else (0, 0)
    | none => (0, 0) := rfl
def flt (pg : List Nat) : Nat := if pg.length ≤ ldP pg then pg.length else if ldP pg < 3 ∨ pg.getD (ldP pg) 0 ≠ 59 then ldP pg else ldP pg + 1 + (scn 0 (pg.drop (ldP pg + 1))).1
def rowP (pg : List Nat) : Nd := (pg.take (ldP pg)).map (fun c => (kd c).getD 0)
def sgP (pg : List Nat) : Nat := (scn 0 (pg.drop (ldP pg + 1))).2
def pgOk (pg : List Nat) : Prop := pg.length ≤ 14 ∧ ∀ c ∈ pg, c < 127
def pgR (pg : List Nat) (codes : A32) (size : Int32) : Prop := size = nI pg.length ∧ (∀ i, i < pg.length → codes i = nI (pg.getD i 0)) ∧ pgOk pg
theorem lead_le : ∀ (k : Nat) (l : List Nat), lead k l ≤ k ∧ lead k l ≤ l.length
  | 0, _ => ⟨Nat.le_refl _, Nat.zero_le _⟩
  | _ + 1, [] => ⟨Nat.zero_le _, Nat.le_refl _⟩
  | k + 1, c :: cs => by
    have := lead_le k cs
    unfold lead
    split
    · rw [List.length_cons]; omega
    · omega
theorem ld_le (pg : List Nat) : ldP pg ≤ 7 ∧ ldP pg ≤ pg.length := lead_le 7 pg
theorem lead_kd : ∀ (k : Nat) (l : List Nat) (i : Nat), i < lead k l → (kd (l.getD i 0)).isSome = true
  | 0, _, i, h => absurd h (Nat.not_lt_zero _)
  | _ + 1, [], i, h => absurd h (Nat.not_lt_zero _)
  | k + 1, c :: cs, i, h => by
    unfold lead at h
    by_cases hk : (kd c).isSome = true
    · rw [if_pos hk] at h
      cases i with
      | zero => exact hk
      | succ i => exact lead_kd k cs i (by omega)
    · rw [if_neg hk] at h; exact absurd h (Nat.not_lt_zero _)
theorem getD_mem {l : List Nat} {i : Nat} (h : i < l.length) : l.getD i 0 ∈ l := by rw [List.getD_eq_getElem?_getD, List.getElem?_eq_getElem h]; exact List.getElem_mem h
theorem leading_eq {pg : List Nat} {codes : A32} {size : Int32} (h : pgR pg codes size) : f_X1_leadingStones codes size = some (nI (ldP pg)) := by
  obtain ⟨rfl, h2, h3, h4⟩ := h
  unfold f_X1_leadingStones
  refine lp1_1_inv (fun x1 => ∃ j, j ≤ 7 ∧ j ≤ pg.length ∧ x1 = nI j ∧ ldP pg = j + lead (7 - j) (pg.drop j)) (fun x1 => 7 - x1.toNatClampNeg) (fun o => o = some (nI (ldP pg))) ?_ fuel 0 ⟨0, by omega, Nat.zero_le _, rfl, by rw [Nat.zero_add]; rfl⟩ (fuel_gt (by omega))
  intro x1 nx ⟨j, hj7, hjl, e1, hld⟩ hnx
  subst e1
  by_cases hc : pg.length ≤ j
  · rw [if_pos (nI_le hc (by omega)), hld, List.drop_of_length_le hc]
    have : lead (7 - j) [] = 0 := by cases 7 - j <;> rfl
    rw [this]; rfl
  · rw [if_neg (fun q => hc ((nI_leI (by omega) (by omega)).mp q))]
    by_cases h7 : 7 ≤ j
    · rw [if_pos (show (7 : Int32) ≤ nI j from nI_le (a := 7) h7 (by omega)), hld, show 7 - j = 0 by omega]; rfl
    · rw [if_neg (show ¬ (7 : Int32) ≤ nI j from fun q => h7 ((nI_leI (a := 7) (by decide) (by omega)).mp q)), ald_in (by omega) (by decide), h2 j (by omega), kindOf_eq (h4 _ (getD_mem (by omega))), cl1_s]
      obtain ⟨u, hu⟩ : ∃ u, 7 - j = u + 1 := ⟨6 - j, by omega⟩
      rw [take_getD' pg j (by omega), hu] at hld
      unfold lead at hld
      cases hk : kd (pg.getD j 0) with
      | none =>
        rw [hk] at hld
        rw [if_pos (show oI none = -1 from rfl), hld]
        rfl
      | some v =>
        have := kd_le hk
        rw [hk] at hld
        rw [if_neg (show ¬ oI (some v) = -1 from nI_m1 (by omega)), nmv_d, nI_1]
        refine hnx _ ⟨j + 1, by omega, by omega, rfl, ?_⟩ (by rw [nI_clamp (by omega), nI_clamp (by omega)]; omega)
        rw [hld, if_pos (show (some v).isSome = true from rfl), show 7 - (j + 1) = u by omega]; omega
theorem scn_le : ∀ (l : Nat) (cs : List Nat), (scn l cs).1 ≤ cs.length
  | _, [] => Nat.le_refl _
  | l, c :: cs => by
    unfold scn
    cases sg c with
    | none => exact Nat.zero_le _
    | some s =>
      dsimp only
      split
      · have := scn_le (s + 1) cs
        rw [List.length_cons]
        show (scn (s + 1) cs).1 + 1 ≤ _
        omega
      · exact Nat.zero_le _
theorem fault_eq {pg : List Nat} {codes : A32} {size : Int32} (h : pgR pg codes size) : f_X1_firstFault codes size = some (nI (flt pg)) := by
  have hl := leading_eq h
  have hle := ld_le pg
  obtain ⟨rfl, h2, h3, h4⟩ := h
  unfold f_X1_firstFault flt
  rw [hl, cl1_s]
  by_cases hc : pg.length ≤ ldP pg
  · rw [if_neg (fun q => by have := (nI_ltI (by omega) (by omega)).mp q; omega), if_pos hc]
  · rw [if_pos (nI_lt (by omega) (by omega)), if_neg hc]
    by_cases h3s : ldP pg < 3
    · rw [if_pos (show nI (ldP pg) < 3 from nI_lt (b := 3) h3s (by decide)), if_pos (Or.inl h3s)]
    · rw [if_neg (show ¬ nI (ldP pg) < 3 from fun q => h3s ((nI_ltI (b := 3) (by omega) (by decide)).mp q)), ald_in (by omega) (by decide), h2 _ (by omega)]
      have hcl := h4 _ (getD_mem (l := pg) (i := ldP pg) (by omega))
      by_cases h59 : pg.getD (ldP pg) 0 = 59
      · rw [if_pos (show nI (pg.getD (ldP pg) 0) = 59 by rw [h59]; rfl), if_neg (by omega), nmv_d, nI_1]
        refine lp2_0_inv (fun x2 x3 => ∃ l j, ldP pg + 1 + j ≤ pg.length ∧ l ≤ 4 ∧ x3 = nI (ldP pg + 1 + j) ∧ x2 = nI l - 1 ∧ (scn 0 (pg.drop (ldP pg + 1))).1 = j + (scn l (pg.drop (ldP pg + 1 + j))).1) (fun _ x3 => 15 - x3.toNatClampNeg) (fun o => o = some (nI (ldP pg + 1 + (scn 0 (pg.drop (ldP pg + 1))).1))) ?_ fuel _ _ ⟨0, 0, by omega, by omega, rfl, rfl, by rw [Nat.zero_add]⟩ (fuel_gt (by omega))
        intro x2 x3 nx ⟨l, j, hj, hl4, e3, e2, hsc⟩ hnx
        subst e3; subst e2
        by_cases hc2 : pg.length ≤ ldP pg + 1 + j
        · rw [if_pos (nI_le hc2 (by omega)), hsc, List.drop_of_length_le hc2]
          show some (nI pg.length) = some (nI (ldP pg + 1 + (j + 0)))
          congr 2; omega
        · rw [if_neg (fun q => hc2 ((nI_leI (by omega) (by omega)).mp q)), if_neg (show ¬ (14 : Int32) ≤ nI (ldP pg + 1 + j) from fun q => by have := (nI_leI (a := 14) (by decide) (by omega)).mp q; omega), ald_in (by omega) (by decide), h2 _ (by omega), signOf_eq (h4 _ (getD_mem (by omega))), cl1_s]
          rw [take_getD' pg (ldP pg + 1 + j) (by omega)] at hsc
          rw [scn_cons] at hsc
          have hcmp : ∀ s, s < 100 → (nI l - 1 < nI s ↔ l ≤ s) := by
            intro s hs
            rw [Int32.lt_iff_toInt_lt, nI_toInt (by omega)]
            have : (nI l - 1).toInt = (l : Int) - 1 := pk_sub_toInt (b := 1) (by omega) (by decide)
            rw [this]; omega
          cases hs : sg (pg.getD (ldP pg + 1 + j) 0) with
          | none =>
            rw [hs] at hsc
            dsimp only at hsc
            rw [if_neg (show ¬ nI l - 1 < oI none from fun q => by
              rw [Int32.lt_iff_toInt_lt] at q
              have h9 : (nI l - 1).toInt = (l : Int) - 1 := pk_sub_toInt (b := 1) (by omega) (by decide)
              have h8 : (oI none).toInt = -1 := by decide +kernel
              rw [h9, h8] at q
              omega), hsc]
            rfl
          | some s =>
            have hs3 := sg_le hs
            rw [hs] at hsc
            dsimp only at hsc
            by_cases hls : l ≤ s
            · rw [if_pos hls] at hsc
              rw [if_pos (show nI l - 1 < oI (some s) from (hcmp s (by omega)).mpr hls), nmv_d, nI_1]
              refine hnx _ _ ⟨s + 1, j + 1, by omega, by omega, rfl, (nI_pred s).symm, ?_⟩ (by rw [nI_clamp (by omega), nI_clamp (by omega)]; omega)
              rw [hsc]
              show j + ((scn (s + 1) (pg.drop (ldP pg + 1 + j + 1))).1 + 1) = j + 1 + _
              rw [show ldP pg + 1 + (j + 1) = ldP pg + 1 + j + 1 by omega]; omega
            · rw [if_neg hls] at hsc
              rw [if_neg (show ¬ nI l - 1 < oI (some s) from fun q => hls ((hcmp s (by omega)).mp q)), hsc]
              rfl
      · rw [if_neg (show ¬ nI (pg.getD (ldP pg) 0) = 59 from fun q => h59 ((nI_eq (b := 59) (by omega) (by decide)).mp q)), if_pos (Or.inr h59)]
theorem rowP_len (pg : List Nat) : (rowP pg).length = ldP pg := by
  unfold rowP
  have := ld_le pg
  rw [List.length_map, List.length_take]; omega
theorem rowP_at {pg : List Nat} {i : Nat} (h : i < ldP pg) : (rowP pg).getD i 0 = (kd (pg.getD i 0)).getD 0 := by
  unfold rowP
  have := ld_le pg
  rw [List.getD_eq_getElem?_getD, List.getElem?_map, List.getElem?_take_of_lt h, List.getElem?_eq_getElem (by omega), List.getD_eq_getElem?_getD, List.getElem?_eq_getElem (by omega)]
  rfl
theorem rowP_rw (pg : List Nat) : Rw (ldP pg) (rowP pg) := by
  refine ⟨rowP_len pg, fun k hk => ?_⟩
  obtain ⟨c, -, rfl⟩ := List.mem_map.mp hk
  cases h : kd c with
  | none => exact Nat.zero_le _
  | some v => exact kd_le h
theorem row_eq {pg : List Nat} {codes : A32} {size : Int32} (h : pgR pg codes size) : f_X1_row codes size = some (nI (enc8 (rowP pg))) := by
  have hl := leading_eq h
  have hle := ld_le pg
  have hrw := rowP_rw pg
  obtain ⟨rfl, h2, h3, h4⟩ := h
  unfold f_X1_row
  rw [hl, cl1_s]
  refine lp2_1_inv (fun x2 x3 => ∃ j, j ≤ ldP pg ∧ x3 = nI j ∧ x2 = nI (enc8 ((rowP pg).take j))) (fun _ x3 => 7 - x3.toNatClampNeg) (fun o => o = some (nI (enc8 (rowP pg)))) ?_ fuel 0 0 ⟨0, Nat.zero_le _, rfl, rfl⟩ (fuel_gt (by omega))
  intro x2 x3 nx ⟨j, hj, e3, e2⟩ hnx
  subst e3; subst e2
  by_cases hc : ldP pg ≤ j
  · rw [if_pos (nI_le hc (by omega)), List.take_of_length_le (by rw [rowP_len]; exact hc)]
  · rw [if_neg (fun q => hc ((nI_leI (by omega) (by omega)).mp q)), if_neg (show ¬ (7 : Int32) ≤ nI j from fun q => by have := (nI_leI (a := 7) (by decide) (by omega)).mp q; omega), ald_in (by omega) (by decide), h2 j (by omega), kindOf_eq (h4 _ (getD_mem (by omega))), cl1_s, nmv_d, nmv_d, nI_1]
    have hk := lead_kd 7 pg j (by unfold ldP at hc; omega)
    obtain ⟨v, hv⟩ := Option.isSome_iff_exists.mp hk
    have hv4 := kd_le hv
    have hrj : (rowP pg).getD j 0 = v := by rw [rowP_at (by omega), hv]; rfl
    refine hnx _ _ ⟨j + 1, by omega, rfl, ?_⟩ (by rw [nI_clamp (by omega), nI_clamp (by omega)]; omega)
    have e4 : (3 : Int32) * nI j = nI (3 * j) := by rw [n_lit 3]; exact pk_mul 3 j
    have p6 := pow8_le (f := j) (by omega)
    have b1 : v * 8 ^ j ≤ 4 * 262144 := Nat.mul_le_mul hv4 p6
    have hA : enc8 ((rowP pg).take j) < 2 ^ (3 * j) := by
      have := enc8_lt (d8_take hrw.d j)
      rwa [List.length_take, rowP_len, Nat.min_eq_left hj, ← pow8] at this
    rw [hv, e4, show oI (some v) = nI v from rfl, pk_shlN _ (3 * j) (sh31 _ (by omega)) (by rw [pow8]; omega), nx_or, or_low' hA, pow8, take_getD _ j (by rw [rowP_len]; omega), enc8_app, hrj, List.length_take, rowP_len, Nat.min_eq_left hj]
    show nI _ = nI (_ + 8 ^ j * (v + 8 * 0))
    congr 1
    rw [Nat.mul_zero, Nat.add_zero, Nat.mul_comm]
