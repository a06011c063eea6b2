def bz (succ : Nd → List Nd) (s : Nd) : Nat → Bz
  | 0 => ([(s, 0)], fun y => if y = s then 1 else 0)
  | i + 1 => bstep succ (bz succ s i) i
theorem bstep_pre (succ : Nd → List Nd) (z : Bz) (i : Nat) : ∃ N, (bstep succ z i).1 = z.1 ++ N := by
  unfold bstep
  cases z.1[i]? with
  | none => exact ⟨[], by simp⟩
  | some e =>
    obtain ⟨N, h, -⟩ := viss_S (ys := succ e.1) (d := e.2 + 1) (w := z.2 e.1) (z := z)
    exact ⟨N, h⟩
theorem bz_pre (succ : Nd → List Nd) (s : Nd) (i : Nat) : ∀ k, ∃ N, (bz succ s (i + k)).1 = (bz succ s i).1 ++ N
  | 0 => ⟨[], by simp⟩
  | k + 1 => by
    obtain ⟨N, h⟩ := bz_pre succ s i k
    obtain ⟨N2, h2⟩ := bstep_pre succ (bz succ s (i + k)) (i + k)
    exact ⟨N ++ N2, by show (bstep succ (bz succ s (i + k)) (i + k)).1 = _; rw [h2, h, List.append_assoc]⟩
theorem bz_stop {succ : Nd → List Nd} {s : Nd} {N : Nat} (h : (bz succ s N).1.length ≤ N) : ∀ k, bz succ s (N + k) = bz succ s N
  | 0 => rfl
  | k + 1 => by
    have ih := bz_stop h k
    show bstep succ (bz succ s (N + k)) (N + k) = _
    rw [ih]
    unfold bstep
    rw [List.getElem?_eq_none_iff.mpr (by omega)]
theorem bz_inv {succ : Nd → List Nd} {s : Nd} : ∀ i, (∀ j, j < i → j < (bz succ s j).1.length) → BInv succ s i (bz succ s i)
  | 0, _ => BInv_0 succ s
  | i + 1, h => BInv_step (bz_inv i (fun j hj => h j (by omega))) (h i (by omega))
theorem bz_cls {n : Nat} {g : Fl} {sense : Bool} {s : Nd} (hs : Rw n s) (hn : n ≤ 7) : ∀ i, ∀ e ∈ (bz (nxt n g sense) s i).1, Cls s e.1
  | 0, e, he => by
    have : e = (s, 0) := by simpa [bz] using he
    rw [this]; exact Cls.refl hs
  | i + 1, e, he => by
    have ih := bz_cls (g := g) (sense := sense) hs hn i
    change e ∈ (bstep (nxt n g sense) (bz (nxt n g sense) s i) i).1 at he
    unfold bstep at he
    cases hz : (bz (nxt n g sense) s i).1[i]? with
    | none => rw [hz] at he; exact ih e he
    | some q =>
      rw [hz] at he
      dsimp only at he
      obtain ⟨N, h1, h2, -⟩ := viss_S (ys := nxt n g sense q.1) (d := q.2 + 1) (w := (bz (nxt n g sense) s i).2 q.1) (z := bz (nxt n g sense) s i)
      rw [h1] at he
      have hq := ih q (List.mem_of_getElem? hz)
      rcases List.mem_append.mp he with h | h
      · exact ih e h
      · exact hq.nxt (hq.rw hs) hn (h2 e h).2.1
theorem bz_nd {succ : Nd → List Nd} {s : Nd} : ∀ i, ((bz succ s i).1.map Prod.fst).Nodup
  | 0 => by simp [bz]
  | i + 1 => by
    have ih := bz_nd (succ := succ) (s := s) i
    show ((bstep succ (bz succ s i) i).1.map Prod.fst).Nodup
    unfold bstep
    cases (bz succ s i).1[i]? with
    | none => exact ih
    | some q => exact viss_nd ih
theorem bz_len {n : Nat} {g : Fl} {sense : Bool} {s : Nd} (hs : Rw n s) (hn : n ≤ 7) (i : Nat) : (bz (nxt n g sense) s i).1.length ≤ 630 := by
  have := card_le hs hn (bz_nd (succ := nxt n g sense) (s := s) i) (fun x hx => by
    obtain ⟨e, he, rfl⟩ := List.mem_map.mp hx
    exact bz_cls hs hn i e he)
  rwa [List.length_map] at this
/-- the search when it is through -/
def zf (n : Nat) (g : Fl) (sense : Bool) (s : Nd) : Bz := bz (nxt n g sense) s 640
theorem bz_fin {n : Nat} {g : Fl} {sense : Bool} {s : Nd} (hs : Rw n s) (hn : n ≤ 7) : ∃ N, N ≤ 630 ∧ zf n g sense s = bz (nxt n g sense) s N ∧ N = (bz (nxt n g sense) s N).1.length ∧ ∀ j, j < N → j < (bz (nxt n g sense) s j).1.length := by
  have hex : ∃ N, ¬ N < (bz (nxt n g sense) s N).1.length := ⟨631, by have := bz_len (g := g) (sense := sense) hs hn 631; omega⟩
  obtain ⟨N, h1, h2⟩ := pk_least _ hex
  have h3 : ∀ j, j < N → j < (bz (nxt n g sense) s j).1.length := fun j hj => Classical.byContradiction (h2 j hj)
  have h4 := (bz_inv N h3).2.2.2.2.2.2.2.2.1
  have h5 := bz_len (g := g) (sense := sense) hs hn N
  refine ⟨N, by omega, ?_, by omega, h3⟩
  have := bz_stop (succ := nxt n g sense) (s := s) (N := N) (by omega) (640 - N)
  rw [show N + (640 - N) = 640 by omega] at this
  exact this
theorem zf_inv {n : Nat} {g : Fl} {sense : Bool} {s : Nd} (hs : Rw n s) (hn : n ≤ 7) : BInv (nxt n g sense) s (zf n g sense s).1.length (zf n g sense s) := by
  obtain ⟨N, -, h2, h3, h4⟩ := bz_fin (g := g) (sense := sense) hs hn
  rw [h2, ← h3]
  exact bz_inv N h4
theorem zf_mem {n : Nat} {g : Fl} {sense : Bool} {s : Nd} {i : Nat} {e : Nd × Nat} (hi : i ≤ 640) (he : e ∈ (bz (nxt n g sense) s i).1) : e ∈ (zf n g sense s).1 := by
  obtain ⟨N, h⟩ := bz_pre (nxt n g sense) s i (640 - i)
  unfold zf
  rw [show 640 = i + (640 - i) by omega, h]
  exact List.mem_append_left _ he
theorem zf_cls {n : Nat} {g : Fl} {sense : Bool} {s : Nd} (hs : Rw n s) (hn : n ≤ 7) : ∀ e ∈ (zf n g sense s).1, Cls s e.1 := bz_cls hs hn 640
def isStk (n : Nat) (g : Fl) (sense : Bool) (e : Nd × Nat) : Bool := (mvs n g e.1 sense).isEmpty
def stkL (n : Nat) (g : Fl) (sense : Bool) (l : List (Nd × Nat)) : Nat := l.countP (isStk n g sense)
def soonL (n : Nat) (g : Fl) (sense : Bool) (l : List (Nd × Nat)) : Option Nat := (l.find? (isStk n g sense)).map Prod.snd
theorem mask_0 {n : Nat} {g : Fl} {sense : Bool} {r : Nd} (hn : n ≤ 7) : lg_cmp (lN (mask n g r sense)) 0 = 0 ↔ (mvs n g r sense).isEmpty = true := by
  rw [lg_cmp_eq]
  have h1 := mask_bits (g := g) (r := r) (sense := sense) hn
  have h2 := mask_lt (g := g) (r := r) (sense := sense) hn
  constructor
  · intro h
    have h3 : mask n g r sense = 0 := by
      have e := congrArg (fun z : Int64 => z.toBitVec.toNat) h
      have e2 : (lN (mask n g r sense)).toBitVec.toNat = mask n g r sense := wb_tn h2
      rw [← e2]; exact e
    rw [h3, bits_0] at h1
    cases hm : mvs n g r sense with
    | nil => rfl
    | cons a l => rw [hm] at h1; simp at h1
  · intro h
    have h3 : mvs n g r sense = [] := List.isEmpty_iff.mp h
    rw [h3] at h1
    have := bits_nil h2 h1
    rw [this]; rfl
theorem astI_0 {β : Type} {n : Nat} {f : Nat → Int32} {x : Int32} {K : (Nat → Int32) → Option β} (h : 0 < n) (hn : n < 2 ^ 31) : astI n f 0 x K = K (upd f 0 x) := astI_in (k := 0) h hn
theorem SR_0 {n : Nat} {s : Nd} {slots rows : A32} {depths ways : A32} {succ : Nd → List Nd} (hs : Rw n s) (hn : n ≤ 7) (hT : TI slots rows [enc8 s]) : SR n s slots rows (nI 1) (upd depths 0 0) (upd ways 0 1) (bz succ s 0) := by
  refine ⟨hT, rfl, fun i e he => ?_, by simp [bz], fun e he => ?_, fun x hx => ?_, fun i e he => ?_, hs, hn⟩
  · have hi : i = 0 ∧ e = (s, 0) := by
      have h1 := (List.getElem?_eq_some_iff.mp he).1
      have h2 : i = 0 := by simpa [bz] using h1
      subst h2
      refine ⟨rfl, ?_⟩
      simpa [bz] using he.symm
    obtain ⟨rfl, rfl⟩ := hi
    constructor
    · rfl
    · show upd ways 0 1 0 = nI (if s = s then 1 else 0)
      rw [if_pos rfl, pk_us]; rfl
  · have : e = (s, 0) := by simpa [bz] using he
    rw [this]; exact Cls.refl hs
  · have : x ≠ s := by simpa [bz] using hx
    show (if x = s then 1 else 0) = 0
    rw [if_neg this]
  · have h2 : e = (s, 0) := by simpa [bz] using List.mem_of_getElem? he
    rw [h2]; exact Nat.zero_le _
theorem spread_eq {n : Nat} {g : Fl} {sense : Bool} {s : Nd} {slots rows : A32} {tsize : Int32} {depths ways : A32} {st0 so0 p3 : Int32} (hs : Rw n s) (hn : n ≤ 7) :
    ∃ res slots' rows' tsize' depths' ways' st so, f_X5_spread (nI n) (bI (gA g)) (bI (gB g)) (bI (gR g)) (bI (gT g)) slots rows tsize depths ways st0 so0 (nI (enc8 s)) (dI sense) p3 = some (res, slots', rows', tsize', depths', ways', st, so) ∧
      ((∃ x d, (x, d) ∈ (zf n g sense s).1 ∧ nI (enc8 x) = p3 ∧ res = nI d) ∨ ((∀ e ∈ (zf n g sense s).1, nI (enc8 e.1) ≠ p3) ∧ res = -1 ∧ SR n s slots' rows' tsize' depths' ways' (zf n g sense s) ∧ st = nI (stkL n g sense (zf n g sense s).1) ∧ so = oI (soonL n g sense (zf n g sense s).1))) := by
  have hsw : enc8 s < 2097152 := row_lt hs.d (by rw [hs.1]; exact hn)
  unfold f_X5_spread
  rw [clear_eq', cl2_s]
  obtain ⟨slots1, rows1, hmeet, hTI⟩ := meet_new (w := enc8 s) (TI.nil (slots := fun j => if j < 1024 then 0 else slots j) (rows := rows) (fun j hj => if_pos hj)) (by simp) (by decide) (by omega)
  have hmeet : f_X6_meet (fun j => if j < 1024 then 0 else slots j) rows 0 (nI (enc8 s)) = some (nI 0, slots1, rows1, nI 1) := hmeet
  rw [hmeet, cl4_s, if_pos nI_0, astI_0 (by decide) (by decide), astI_0 (by decide) (by decide)]
  refine lp8_7_inv (fun x6 s1 r1 t1 d1 w1 k1 o1 => ∃ i, x6 = nI i ∧ SR n s s1 r1 t1 d1 w1 (bz (nxt n g sense) s i) ∧ (∀ j, j < i → j < (bz (nxt n g sense) s j).1.length) ∧ k1 = nI (stkL n g sense ((bz (nxt n g sense) s i).1.take i)) ∧ o1 = oI (soonL n g sense ((bz (nxt n g sense) s i).1.take i)) ∧ ∀ e ∈ (bz (nxt n g sense) s i).1.take i, nI (enc8 e.1) ≠ p3) (fun x6 _ _ _ _ _ _ _ => 640 - x6.toNatClampNeg) (fun o => ∃ res slots' rows' tsize' depths' ways' st so, o = some (res, slots', rows', tsize', depths', ways', st, so) ∧
      ((∃ x d, (x, d) ∈ (zf n g sense s).1 ∧ nI (enc8 x) = p3 ∧ res = nI d) ∨ ((∀ e ∈ (zf n g sense s).1, nI (enc8 e.1) ≠ p3) ∧ res = -1 ∧ SR n s slots' rows' tsize' depths' ways' (zf n g sense s) ∧ st = nI (stkL n g sense (zf n g sense s).1) ∧ so = oI (soonL n g sense (zf n g sense s).1)))) ?_ fuel _ _ _ _ _ _ _ _ ⟨0, rfl, SR_0 hs hn hTI, fun j hj => absurd hj (Nat.not_lt_zero _), rfl, rfl, fun e he => by simp at he⟩ (fuel_gt (by omega))
  intro x6 s1 r1 t1 d1 w1 k1 o1 nx ⟨i, e6, hSR, hpr, ek, eo, hne⟩ hnx
  subst e6; subst ek; subst eo
  have hlen := hSR.len
  have hile := (bz_inv i hpr).2.2.2.2.2.2.2.2.1
  have hts := hSR.2.1
  rw [hts]
  by_cases hc : (bz (nxt n g sense) s i).1.length ≤ i
  · rw [if_pos (nI_le hc (by omega))]
    have hz : zf n g sense s = bz (nxt n g sense) s i := by
      have := bz_stop (succ := nxt n g sense) (s := s) (N := i) hc (640 - i)
      rw [show i + (640 - i) = 640 by omega] at this
      exact this
    have htk : (bz (nxt n g sense) s i).1.take i = (bz (nxt n g sense) s i).1 := List.take_of_length_le hc
    rw [htk] at hne
    refine ⟨_, _, _, _, _, _, _, _, rfl, Or.inr ⟨by rw [hz]; exact hne, rfl, by rw [hz, ← hts]; exact hSR, by rw [hz, htk], by rw [hz, htk]⟩⟩
  · have hil : i < (bz (nxt n g sense) s i).1.length := by omega
    rw [if_neg (fun q => hc ((nI_leI (by omega) (by omega)).mp q)), if_neg (show ¬ (640 : Int32) ≤ nI i from fun q => by have := (nI_leI (a := 640) (by decide) (by omega)).mp q; omega), ald_in (by omega) (by decide)]
    obtain ⟨⟨p, d⟩, hpe⟩ : ∃ e, (bz (nxt n g sense) s i).1[i]? = some e := ⟨_, List.getElem?_eq_getElem hil⟩
    obtain ⟨sT, hTs⟩ := hSR.1
    have hrow : r1 i = nI (enc8 p) := by
      have hca := codes_at hpe
      rw [hTs.2.1 i hca.1, hca.2]
    have hdep := (hSR.2.2.1 i _ hpe).1
    rw [hrow]
    have hpm := List.mem_of_getElem? hpe
    by_cases hw : nI (enc8 p) = p3
    · rw [if_pos hw, ald_in (by omega) (by decide), hdep]
      exact ⟨_, _, _, _, _, _, _, _, rfl, Or.inl ⟨p, d, zf_mem (by omega) hpm, hw, rfl⟩⟩
    · have hcp := hSR.2.2.2.2.1 _ hpm
      have hpw := hcp.rw hs
      obtain ⟨s2, r2, t2, d2, w2, hSR2, hgo⟩ := goOn_eq (g := g) (sense := sense) hSR hpe
      rw [if_neg hw, allMoves_eq hpw hn, cl1_s, jn2_d]
      have hnext : ∀ (k2 o2 : Int32), k2 = nI (stkL n g sense ((bz (nxt n g sense) s (i + 1)).1.take (i + 1))) → o2 = oI (soonL n g sense ((bz (nxt n g sense) s (i + 1)).1.take (i + 1))) → ∃ res slots' rows' tsize' depths' ways' st so, (cl5 (f_X5_goOn s1 r1 (nI (bz (nxt n g sense) s i).1.length) d1 w1 (nI i) (lN (mask n g p sense))) fun table_slots_38 table_rows_39 table_size_40 depths_41 ways_42 => nmv (α := Int32) (nI i + 1) fun x6_44 => nx x6_44 table_slots_38 table_rows_39 table_size_40 depths_41 ways_42 k2 o2) = some (res, slots', rows', tsize', depths', ways', st, so) ∧
      ((∃ x d, (x, d) ∈ (zf n g sense s).1 ∧ nI (enc8 x) = p3 ∧ res = nI d) ∨ ((∀ e ∈ (zf n g sense s).1, nI (enc8 e.1) ≠ p3) ∧ res = -1 ∧ SR n s slots' rows' tsize' depths' ways' (zf n g sense s) ∧ st = nI (stkL n g sense (zf n g sense s).1) ∧ so = oI (soonL n g sense (zf n g sense s).1))) := by
        intro k2 o2 hk2 ho2
        rw [← hts, hgo, cl5_s, nmv_d, nI_1]
        refine hnx _ _ _ _ _ _ _ _ ⟨i + 1, rfl, hSR2, fun j hj => ?_, hk2, ho2, ?_⟩ (by rw [nI_clamp (by omega), nI_clamp (by omega)]; omega)
        · rcases Nat.lt_or_ge j i with q | q
          · exact hpr j q
          · rw [show j = i by omega]; exact hil
        · intro e he
          obtain ⟨N, hN⟩ := bstep_pre (nxt n g sense) (bz (nxt n g sense) s i) i
          have he : e ∈ (bstep (nxt n g sense) (bz (nxt n g sense) s i) i).1.take (i + 1) := he
          rw [hN, List.take_append_of_le_length (by omega), List.take_succ_eq_append_getElem hil] at he
          rcases List.mem_append.mp he with q | q
          · exact hne e q
          · have : e = (p, d) := by
              rw [List.getElem?_eq_getElem hil] at hpe
              simp at q
              rw [q]; exact Option.some.inj hpe
            rw [this]; exact hw
      have htk : (bz (nxt n g sense) s (i + 1)).1.take (i + 1) = (bz (nxt n g sense) s i).1.take i ++ [(p, d)] := by
        obtain ⟨N, hN⟩ := bstep_pre (nxt n g sense) (bz (nxt n g sense) s i) i
        show (bstep (nxt n g sense) (bz (nxt n g sense) s i) i).1.take (i + 1) = _
        rw [hN, List.take_append_of_le_length (by omega), List.take_succ_eq_append_getElem hil]
        congr 2
        rw [List.getElem?_eq_getElem hil] at hpe
        exact Option.some.inj hpe
      have hst : ∀ b, isStk n g sense (p, d) = b → stkL n g sense ((bz (nxt n g sense) s (i + 1)).1.take (i + 1)) = stkL n g sense ((bz (nxt n g sense) s i).1.take i) + (if b then 1 else 0) := by
        intro b hb
        unfold stkL
        rw [htk, List.countP_append, List.countP_singleton, hb]
      have hso : soonL n g sense ((bz (nxt n g sense) s (i + 1)).1.take (i + 1)) = (soonL n g sense ((bz (nxt n g sense) s i).1.take i)).or (if isStk n g sense (p, d) then some d else none) := by
        unfold soonL
        rw [htk, List.find?_append]
        cases hf : ((bz (nxt n g sense) s i).1.take i).find? (isStk n g sense) with
        | none =>
          by_cases hb : isStk n g sense (p, d) = true
          · simp [List.find?, hb]
          · have hb : isStk n g sense (p, d) = false := by simpa using hb
            simp [List.find?, hb]
        | some q => simp
      by_cases hb : (mvs n g p sense).isEmpty = true
      · rw [if_pos ((mask_0 hn).mpr hb), ald_in (by omega) (by decide), hdep]
        have hsk : isStk n g sense (p, d) = true := hb
        unfold f_X5_noteStuck
        rw [nmv_d, nI_1 (stkL n g sense ((bz (nxt n g sense) s i).1.take i))]
        rw [hsk, if_pos rfl] at hso
        cases hq : soonL n g sense ((bz (nxt n g sense) s i).1.take i) with
        | none =>
          rw [if_pos (show oI none = -1 from rfl), cl2_s]
          refine hnext _ _ (by rw [hst true hsk]; rfl) ?_
          rw [hso, hq]; rfl
        | some u =>
          have hul : u < 2 ^ 31 := by
            unfold soonL at hq
            cases hf : ((bz (nxt n g sense) s i).1.take i).find? (isStk n g sense) with
            | none => rw [hf] at hq; simp at hq
            | some q =>
              rw [hf] at hq
              simp at hq
              have hm := List.mem_of_mem_take (List.mem_of_find?_eq_some hf)
              obtain ⟨j, hj⟩ := List.getElem?_of_mem hm
              have h1 := hSR.2.2.2.2.2.2.1 j q hj
              have h2 := (List.getElem?_eq_some_iff.mp hj).1
              omega
          rw [if_neg (show ¬ oI (some u) = -1 from nI_m1 hul), cl2_s]
          refine hnext _ _ (by rw [hst true hsk]; rfl) ?_
          rw [hso, hq]; rfl
      · rw [if_neg (fun q => hb ((mask_0 hn).mp q))]
        have hsk : isStk n g sense (p, d) = false := by
          unfold isStk
          simpa using hb
        refine hnext _ _ (by rw [hst false hsk]; rfl) ?_
        rw [hso, hsk]
        simp
