/-! ===== the class's brook; image, restore ===== -/
theorem brookX_eq {pg : List Nat} {codes : A32} {size : Int32} (hp : pgR pg codes size) (hb : isBr pg = true) (a1 a2 a3 a4 a5 a6 b1 b2 b3 : Int32) (ts tr : A32) (tz : Int32) (td tw : A32) (tst tso : Int32) (gs : A32) (gz : Int32) (gk : A32) (rr gr fr ti hi : Int32) :
    ∃ ts' tr' tz' td' tw' tst' tso' gs' gz' gk', f_X7_brook codes size a1 a2 a3 a4 a5 a6 b1 b2 b3 ts tr tz td tw tst tso gs gz gk rr gr fr ti hi = some (nI (ldP pg), 0, nI (ldP pg), nI (sgP pg), bI (gA (gf (sgP pg))), bI (gB (gf (sgP pg))), bI (gR (gf (sgP pg))), bI (gT (gf (sgP pg))), nI (enc8 (rowP pg)), nI (enc8 (numb 0 (rowP pg))), 0, ts', tr', tz', td', tw', tst', tso', gs', gz', gk', nI (enc8 (rowP pg)), nI (enc8 (rowP pg).reverse), nI (frogsIn (rowP pg)), ti + 1, 0) ∧ SR (ldP pg) (rowP pg).reverse ts' tr' tz' td' tw' (zf (ldP pg) (gf (sgP pg)) false (rowP pg).reverse) ∧ ∀ rows, GI (ldP pg) (gf (sgP pg)) (rowP pg) [] gs' rows gz' gk' := by
  have hle := ld_le pg
  have hrw := rowP_rw pg
  have hrr : Rw (ldP pg) (rowP pg).reverse := ⟨by rw [List.length_reverse]; exact hrw.1, fun k hk => hrw.2 k (List.mem_reverse.mp hk)⟩
  have hl7 : (rowP pg).length ≤ 7 := by rw [hrw.1]; exact hle.1
  obtain ⟨ts', tr', tz', td', tw', e1, e2⟩ := spread_all (g := gf (sgP pg)) (sense := false) (slots := ts) (rows := tr) (tsize := tz) (depths := td) (ways := tw) (st0 := tst) (so0 := tso) hrr hle.1
  obtain ⟨gs', gz', gk', e3, e4⟩ := forget_eq (n := ldP pg) (g := gf (sgP pg)) (rd := rowP pg) gs gz gk
  unfold f_X7_brook
  have et := turned_row hrw.d hl7
  have ef := freeStones_row hrw.d hl7
  rw [hrw.1] at et ef
  have hc := count_le (rowP pg)
  rw [hrw.1] at hc
  have efr : nI (ldP pg) - nI ((rowP pg).count 0) = nI (frogsIn (rowP pg)) := by rw [pk_sub hc]; unfold frogsIn; rw [hrw.1]
  rw [tellsBrook_eq hp, cl1_s, hb, if_neg (show ¬ bI true = 0 by decide), leading_eq hp, cl1_s, signs_eq hp hb, cl1_s, set_eq (sgP_lt pg), cl6_s, row_eq hp, cl1_s, et, cl1_s, ef, cl1_s, nmv_d, efr, numbered_row hrw.d hl7, cl1_s]
  unfold f_X2_begin
  rw [cl3_s]
  have e1' : f_X5_spread (nI (ldP pg)) (bI (gA (gf (sgP pg)))) (bI (gB (gf (sgP pg)))) (bI (gR (gf (sgP pg)))) (bI (gT (gf (sgP pg)))) ts tr tz td tw tst tso (nI (enc8 (rowP pg).reverse)) (-1) (-1) = _ := e1
  rw [e1', cl8_s, e3, cl3_s, nmv_d]
  exact ⟨_, _, _, _, _, _, _, _, _, _, rfl, e2, e4⟩
theorem copy7 {rn fo kr kf : A32} {β : Type} {K : A32 → A32 → Option β} {P : Option β → Prop} (h : ∀ kr' kf', (∀ i, i < 7 → kr' i = rn i ∧ kf' i = fo i) → P (K kr' kf')) : P (lp3_2 (fun (x1_2 : Int32) (m_keptRow_3 : Nat → Int32) (m_keptFrog_4 : Nat → Int32) nx33 ex33 => if 7 ≤ x1_2 then (ex33 m_keptRow_3 m_keptFrog_4) else (ald 7 rn x1_2 fun v_8 => astI 7 m_keptRow_3 x1_2 v_8 fun m_keptRow_10 => ald 7 fo x1_2 fun v_12 => astI 7 m_keptFrog_4 x1_2 v_12 fun m_keptFrog_14 => nmv (α := Int32) (x1_2 + 1) fun x1_16 => nx33 x1_16 m_keptRow_10 m_keptFrog_14)) K fuel 0 kr kf) := by
  refine lp3_2_inv (fun (x1 : Int32) (r1 r2 : A32) => ∃ j, j ≤ 7 ∧ x1 = nI j ∧ ∀ i, i < j → r1 i = rn i ∧ r2 i = fo i) (fun x1 _ _ => 7 - x1.toNatClampNeg) P ?_ fuel 0 kr kf ⟨0, Nat.zero_le _, rfl, fun i hi => absurd hi (Nat.not_lt_zero _)⟩ (fuel_gt (by omega))
  intro x1 r1 r2 nx ⟨j, hj, e1, hr⟩ hnx
  subst e1
  by_cases hc : 7 ≤ j
  · rw [if_pos (show (7 : Int32) ≤ nI j from nI_le (a := 7) hc (by omega))]
    exact h _ _ (fun i hi => hr i (by omega))
  · rw [if_neg (show ¬ (7 : Int32) ≤ nI j from fun q => hc ((nI_leI (a := 7) (by decide) (by omega)).mp q)), ald_in (by omega) (by decide), astI_in (by omega) (by decide), ald_in (by omega) (by decide), astI_in (by omega) (by decide), nmv_d, nI_1]
    refine hnx _ _ _ ⟨j + 1, by omega, rfl, ?_⟩ (by rw [nI_clamp (by omega), nI_clamp (by omega)]; omega)
    intro i hi
    show (if i = j then _ else _) = _ ∧ (if i = j then _ else _) = _
    by_cases q : i = j
    · rw [if_pos q, if_pos q, q]; exact ⟨rfl, rfl⟩
    · rw [if_neg q, if_neg q]; exact hr i (by omega)
theorem copy60 {rn fo kr kf : A32} {β : Type} {K : A32 → A32 → Option β} {P : Option β → Prop} (h : ∀ kr' kf', (∀ i, i < 60 → kr' i = rn i ∧ kf' i = fo i) → P (K kr' kf')) : P (lp3_2 (fun (x1_2 : Int32) (m_keptRow_3 : Nat → Int32) (m_keptFrog_4 : Nat → Int32) nx33 ex33 => if 60 ≤ x1_2 then (ex33 m_keptRow_3 m_keptFrog_4) else (ald 60 rn x1_2 fun v_8 => astI 60 m_keptRow_3 x1_2 v_8 fun m_keptRow_10 => ald 60 fo x1_2 fun v_12 => astI 60 m_keptFrog_4 x1_2 v_12 fun m_keptFrog_14 => nmv (α := Int32) (x1_2 + 1) fun x1_16 => nx33 x1_16 m_keptRow_10 m_keptFrog_14)) K fuel 0 kr kf) := by
  refine lp3_2_inv (fun (x1 : Int32) (r1 r2 : A32) => ∃ j, j ≤ 60 ∧ x1 = nI j ∧ ∀ i, i < j → r1 i = rn i ∧ r2 i = fo i) (fun x1 _ _ => 60 - x1.toNatClampNeg) P ?_ fuel 0 kr kf ⟨0, Nat.zero_le _, rfl, fun i hi => absurd hi (Nat.not_lt_zero _)⟩ (fuel_gt (by omega))
  intro x1 r1 r2 nx ⟨j, hj, e1, hr⟩ hnx
  subst e1
  by_cases hc : 60 ≤ j
  · rw [if_pos (show (60 : Int32) ≤ nI j from nI_le (a := 60) hc (by omega))]
    exact h _ _ (fun i hi => hr i (by omega))
  · rw [if_neg (show ¬ (60 : Int32) ≤ nI j from fun q => hc ((nI_leI (a := 60) (by decide) (by omega)).mp q)), ald_in (by omega) (by decide), astI_in (by omega) (by decide), ald_in (by omega) (by decide), astI_in (by omega) (by decide), nmv_d, nI_1]
    refine hnx _ _ _ ⟨j + 1, by omega, rfl, ?_⟩ (by rw [nI_clamp (by omega), nI_clamp (by omega)]; omega)
    intro i hi
    show (if i = j then _ else _) = _ ∧ (if i = j then _ else _) = _
    by_cases q : i = j
    · rw [if_pos q, if_pos q, q]; exact ⟨rfl, rfl⟩
    · rw [if_neg q, if_neg q]; exact hr i (by omega)
theorem moR.cp {n : Nat} {rd : Nd} {hs : List (Nat × Nat)} {rn fo mf mt rn' fo' mf' mt' : A32} {mo : Int32} (h : moR n rd hs rn fo mo mf mt) (hl : (rowH rd hs).length = n) (hn : n ≤ 7) (h60 : hs.length ≤ 60) (h1 : ∀ i, i < 7 → rn' i = rn i ∧ fo' i = fo i) (h2 : ∀ i, i < 60 → mf' i = mf i ∧ mt' i = mt i) : moR n rd hs rn' fo' mo mf' mt' :=
  ⟨fun i hi => by rw [(h1 i (by omega)).1]; exact h.1 i hi, fun i hi => by rw [(h1 i (by omega)).2]; exact h.2.1 i hi, h.2.2.1, FtH.cong hs (fun i hi => h2 i (by omega)) h.2.2.2⟩
theorem hasBrook_eq {n : Nat} (hn : n ≤ 7) : f_X7_hasBrook (nI n) = some (bI (decide (0 < n))) := by
  unfold f_X7_hasBrook
  cases n with
  | zero => rfl
  | succ n => rw [if_neg (nI_nle (by omega) (by omega)), decide_eq_true (Nat.succ_pos n)]; rfl
/-- what is kept -/
def kpR (rd : Nd) (im : Option (List (Nat × Nat))) (ma mo : A32) (ro nu si hi : Int32) : Prop := hi = bI im.isSome ∧ ∀ hs, im = some hs → noR rd hs ma mo ro nu si
def kqR (n : Nat) (rd : Nd) (im : Option (List (Nat × Nat))) (br : Nat) (ik kb km : Int32) (kr kf kF kT : A32) : Prop := (im = none → ik = 0 ∨ ∃ b, b < br ∧ kb = nI b) ∧ ∀ hs, im = some hs → ¬ ik = 0 ∧ kb = nI br ∧ moR n rd hs kr kf km kF kT
section
variable {n : Nat} {g : Fl} {rd : Nd} {hs : List (Nat × Nat)} {made movers : A32} {row numbers size : Int32} {rowNow frogOn mf mt : A32} {moved : Int32}
theorem image_2 (h : OkH n g rd hs) (hx : noR rd hs made movers row numbers size) (hm : moR n rd hs rowNow frogOn moved mf mt) {im : Option (List (Nat × Nat))} {br : Nat} {ma mo : A32} {ro nu si hi ik kb km : Int32} {kr kf kF kT : A32} (hk : kpR rd im ma mo ro nu si hi) (hq : kqR n rd im br ik kb km kr kf kF kT) :
    ∃ v ma' mo' ro' nu' si' hi' ik' kb' km' kr' kf' kF' kT', f_X7_image (nI n) made movers row numbers size ma mo ro nu si hi = some (v, ma', mo', ro', nu', si', hi') ∧ f_X8_image (nI n) (nI br) rowNow frogOn moved mf mt ik kb km kr kf kF kT = some (v, ik', kb', km', kr', kf', kF', kT') ∧ kpR rd (if n = 0 then im else some hs) ma' mo' ro' nu' si' hi' ∧ kqR n rd (if n = 0 then im else some hs) br ik' kb' km' kr' kf' kF' kT' := by
  unfold f_X7_image f_X8_image
  have hn := h.2.1
  rw [hasBrook_eq hn, cl1_s]
  by_cases h0 : n = 0
  · rw [if_pos (show bI (decide (0 < n)) = 0 by rw [h0]; rfl), if_pos (show nI n = 0 by rw [h0]; rfl), if_pos h0]
    exact ⟨_, _, _, _, _, _, _, _, _, _, _, _, _, _, rfl, rfl, hk, hq⟩
  · rw [if_neg (show ¬ bI (decide (0 < n)) = 0 by rw [decide_eq_true (by omega)]; decide), if_neg (nI_ne0 (by omega) (by omega)), if_neg h0, copy_b]
    obtain ⟨ma', mo', e1, e2⟩ := copy_eq (made := ma) (movers := mo) (row := ro) (numbers := nu) (size := si) h.2.2.2 hx
    rw [e1, cl5_s]
    refine copy7 (P := fun o => ∃ v ma' mo' ro' nu' si' hi' ik' kb' km' kr' kf' kF' kT', _ = some (v, ma', mo', ro', nu', si', hi') ∧ o = some (v, ik', kb', km', kr', kf', kF', kT') ∧ kpR rd (some hs) ma' mo' ro' nu' si' hi' ∧ kqR n rd (some hs) br ik' kb' km' kr' kf' kF' kT') ?_
    intro kr' kf' c1
    refine copy60 (P := fun o => ∃ v ma' mo' ro' nu' si' hi' ik' kb' km' kr' kf' kF' kT', _ = some (v, ma', mo', ro', nu', si', hi') ∧ o = some (v, ik', kb', km', kr', kf', kF', kT') ∧ kpR rd (some hs) ma' mo' ro' nu' si' hi' ∧ kqR n rd (some hs) br ik' kb' km' kr' kf' kF' kT') ?_
    intro kF' kT' c2
    refine ⟨moved, ma', mo', row, numbers, size, 1, 1, nI br, moved, kr', kf', kF', kT', by rw [hx.2.2.1, hm.2.2.1], rfl, ⟨rfl, fun hs' e => by cases e; exact e2⟩, fun e => by (cases e), fun hs' e => ?_⟩
    cases e
    exact ⟨i10, rfl, hm.cp h.rw.1 hn h.2.2.2 c1 c2⟩
theorem restore_2 (h : OkH n g rd hs) (hx : noR rd hs made movers row numbers size) (hm : moR n rd hs rowNow frogOn moved mf mt) {im : Option (List (Nat × Nat))} {br : Nat} {ma mo : A32} {ro nu si hi ik kb km : Int32} {kr kf kF kT : A32} (hbr : br < 2 ^ 31) (hok : ∀ hs', im = some hs' → OkH n g rd hs') (hk : kpR rd im ma mo ro nu si hi) (hq : kqR n rd im br ik kb km kr kf kF kT) :
    ∃ v hs' ma' mo' ro' nu' si' rn' fo' mo2' mf' mt', f_X7_restore made movers row numbers size ma mo ro nu si hi = some (v, ma', mo', ro', nu', si') ∧ f_X8_restore (nI br) rowNow frogOn moved mf mt ik kb km kr kf kF kT = some (v, rn', fo', mo2', mf', mt') ∧ OkH n g rd hs' ∧ noR rd hs' ma' mo' ro' nu' si' ∧ moR n rd hs' rn' fo' mo2' mf' mt' := by
  unfold f_X7_restore f_X8_restore
  have hn := h.2.1
  cases im with
  | none =>
    have e0 : (if ik = 0 then some (-103, rowNow, frogOn, moved, mf, mt) else if kb = nI br then lp3_2 (fun (x1_3 : Int32) (m_rowNow_4 : Nat → Int32) (m_frogOn_5 : Nat → Int32) nx31 ex31 => if 7 ≤ x1_3 then (ex31 m_rowNow_4 m_frogOn_5) else (ald 7 kr x1_3 fun v_9 => astI 7 m_rowNow_4 x1_3 v_9 fun m_rowNow_11 => ald 7 kf x1_3 fun v_13 => astI 7 m_frogOn_5 x1_3 v_13 fun m_frogOn_15 => nmv (α := Int32) (x1_3 + 1) fun x1_17 => nx31 x1_17 m_rowNow_11 m_frogOn_15)) (fun (m_rowNow_6 : Nat → Int32) (m_frogOn_7 : Nat → Int32) => lp3_2 (fun (x1_18 : Int32) (m_movedFrom_19 : Nat → Int32) (m_movedTo_20 : Nat → Int32) nx69 ex69 => if 60 ≤ x1_18 then (ex69 m_movedFrom_19 m_movedTo_20) else (ald 60 kF x1_18 fun v_24 => astI 60 m_movedFrom_19 x1_18 v_24 fun m_movedFrom_26 => ald 60 kT x1_18 fun v_28 => astI 60 m_movedTo_20 x1_18 v_28 fun m_movedTo_30 => nmv (α := Int32) (x1_18 + 1) fun x1_32 => nx69 x1_32 m_movedFrom_26 m_movedTo_30)) (fun (m_movedFrom_21 : Nat → Int32) (m_movedTo_22 : Nat → Int32) => some (km, m_rowNow_6, m_frogOn_7, km, m_movedFrom_21, m_movedTo_22)) fuel 0 mf mt) fuel 0 rowNow frogOn else some (-103, rowNow, frogOn, moved, mf, mt)) = some (-103, rowNow, frogOn, moved, mf, mt) := by
      rcases hq.1 rfl with e | ⟨b, hb, e⟩
      · rw [if_pos e]
      · by_cases q : ik = 0
        · rw [if_pos q]
        · rw [if_neg q, if_neg (fun w => by rw [e] at w; have := (nI_eq (by omega) (by omega)).mp w; omega)]
    rw [if_pos (show hi = 0 from hk.1)]
    refine ⟨_, hs, _, _, _, _, _, _, _, _, _, _, rfl, e0, h, hx, hm⟩
  | some hs' =>
    obtain ⟨q1, q2, q3⟩ := hq.2 hs' rfl
    have hk' := hk.2 hs' rfl
    have hok' := hok hs' rfl
    rw [if_neg (show ¬ hi = 0 by rw [hk.1]; exact (show ¬ bI true = 0 by decide)), if_neg q1, if_pos q2]
    obtain ⟨ma', mo', e1, e2⟩ := copy_eq (made := made) (movers := movers) (row := row) (numbers := numbers) (size := size) hok'.2.2.2 hk'
    rw [e1, cl5_s]
    refine copy7 (P := fun o => ∃ v hs' ma' mo' ro' nu' si' rn' fo' mo2' mf' mt', _ = some (v, ma', mo', ro', nu', si') ∧ o = some (v, rn', fo', mo2', mf', mt') ∧ OkH n g rd hs' ∧ noR rd hs' ma' mo' ro' nu' si' ∧ moR n rd hs' rn' fo' mo2' mf' mt') ?_
    intro kr' kf' c1
    refine copy60 (P := fun o => ∃ v hs' ma' mo' ro' nu' si' rn' fo' mo2' mf' mt', _ = some (v, ma', mo', ro', nu', si') ∧ o = some (v, rn', fo', mo2', mf', mt') ∧ OkH n g rd hs' ∧ noR rd hs' ma' mo' ro' nu' si' ∧ moR n rd hs' rn' fo' mo2' mf' mt') ?_
    intro kF' kT' c2
    exact ⟨km, hs', ma', mo', ro, nu, si, kr', kf', km, kF', kT', by rw [hk'.2.2.1, q3.2.2.1], rfl, hok', e2, q3.cp hok'.rw.1 hn hok'.2.2.2 c1 c2⟩
end
