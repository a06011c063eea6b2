/-! ===== the reference: who may be moved ===== -/
/-- an array of the reference that holds a row -/
def rowAt (m : A32) (r : Nd) : Prop := ∀ i, i < r.length → m i = nI (r.getD i 0)
theorem col_eq {k : Nat} (h : k ≤ 4) : f_X8_colour (nI k) = some (nI (col k)) := by
  rcases (show k = 0 ∨ k = 1 ∨ k = 2 ∨ k = 3 ∨ k = 4 by omega) with e | e | e | e | e <;> subst e <;> rfl
theorem over_eq {any : Bool} {k o : Nat} (hk : k ≤ 4) (ho : o ≤ 4) : f_X8_mayOver (bI any) (nI k) (nI o) = some (bI (ovr any k o)) := by
  rcases (show k = 0 ∨ k = 1 ∨ k = 2 ∨ k = 3 ∨ k = 4 by omega) with e | e | e | e | e <;> subst e <;> rcases (show o = 0 ∨ o = 1 ∨ o = 2 ∨ o = 3 ∨ o = 4 by omega) with e | e | e | e | e <;> subst e <;> cases any <;> rfl
theorem within_eq {x a b : Int32} : f_X8_within x a b = some (bI (decide (¬ x < a) && decide (¬ b < x))) := by
  unfold f_X8_within
  by_cases h1 : x < a
  · rw [if_pos h1]; simp [h1, bI]
  · rw [if_neg h1]
    by_cases h2 : b < x
    · rw [if_pos h2]; simp [h1, h2, bI]
    · rw [if_neg h2]; simp [h1, h2, bI]
theorem besides_eq {n s : Nat} {ring d : Bool} (hs : s < n) (hn : n ≤ 7) : f_X8_besides (bI ring) (nI n) (nI s) (dI d) = some (oI (bes n ring s d)) := by
  unfold f_X8_besides
  rw [nmv_d]
  have en1 : nI n - (1 : Int32) = nI (n - 1) := by rw [n_lit 1]; exact pk_sub (by omega)
  cases ring with
  | false =>
    rw [if_pos (by decide), within_eq, cl1_s, en1]
    cases d with
    | true =>
      have e : nI s + dI true = nI (s + 1) := nI_1 s
      rw [e]
      have h1 : ¬ nI (s + 1) < 0 := nI_pos (by omega)
      by_cases hc : s + 1 < n
      · have h2 : ¬ nI (n - 1) < nI (s + 1) := fun q => by have := (nI_ltI (by omega) (by omega)).mp q; omega
        simp [h1, h2, bI, bes, hc, oI]
      · have h2 : nI (n - 1) < nI (s + 1) := nI_lt (by omega) (by omega)
        simp [h1, h2, bI, bes, hc, oI]
    | false =>
      by_cases hz : s = 0
      · subst hz
        have e : nI 0 + dI false = -1 := by decide +kernel
        rw [e]
        simp [bI, bes, oI]
      · obtain ⟨u, rfl⟩ : ∃ u, s = u + 1 := ⟨s - 1, by omega⟩
        have e : nI (u + 1) + dI false = nI u := pk_m1 u
        rw [e]
        have h1 : ¬ nI u < 0 := nI_pos (by omega)
        have h2 : ¬ nI (n - 1) < nI u := fun q => by have := (nI_ltI (by omega) (by omega)).mp q; omega
        simp [h1, h2, bI, bes, oI]
  | true =>
    rw [if_neg (by decide), irem_in (nI_ne0 (by omega) (by omega))]
    cases d with
    | true =>
      have e : nI s + dI true = nI (s + 1) := nI_1 s
      rw [e, nI_add, pk_rem (by omega) (by omega) (by omega)]
      by_cases hc : s + 1 < n
      · rw [show (s + 1 + n) % n = s + 1 by rw [Nat.add_mod_right]; exact Nat.mod_eq_of_lt hc]
        simp [bes, hc, oI]
      · rw [show s + 1 = n by omega, show (n + n) % n = 0 by rw [Nat.add_mod_right, Nat.mod_self]]
        simp [bes, hc, oI]
    | false =>
      by_cases hz : s = 0
      · subst hz
        have e : nI 0 + dI false = -1 := by decide +kernel
        have e2 : (-1 : Int32) + nI n = nI (n - 1) := by
          rw [Int32.add_comm]
          have := pk_m1 (n - 1)
          rwa [show n - 1 + 1 = n by omega] at this
        rw [e, e2, pk_rem (by omega) (by omega) (by omega), Nat.mod_eq_of_lt (by omega)]
        simp [bes, oI]
      · obtain ⟨u, rfl⟩ : ∃ u, s = u + 1 := ⟨s - 1, by omega⟩
        have e : nI (u + 1) + dI false = nI u := pk_m1 u
        rw [e, nI_add, pk_rem (by omega) (by omega) (by omega), Nat.add_mod_right, Nat.mod_eq_of_lt (by omega)]
        simp [bes, oI]
theorem oI_eq {o : Option Nat} {t n : Nat} (hn : n ≤ 7) (ho : ∀ q, o = some q → q < n) (ht : t < n) : oI o = nI t ↔ o = some t := by
  cases o with
  | none =>
    constructor
    · intro h; exact absurd h.symm (nI_m1 (by omega))
    · intro h; cases h
  | some q =>
    have := ho q rfl
    show nI q = nI t ↔ _
    rw [nI_eq (by omega) (by omega)]
    constructor
    · intro h; rw [h]
    · intro h; cases h; rfl
theorem way_eq {n : Nat} {g : Fl} {m : A32} {r : Nd} {f t : Nat} {d : Bool} (hm : rowAt m r) (hr : Rw n r) (hn : n ≤ 7) (hf : f < n) (ht : t < n) : f_X8_mayWay (bI (gA g)) (bI (gR g)) (bI (gT g)) (nI n) m (nI f) (nI t) (dI d) = some (bI (decide (land n g r f d = some t))) := by
  have hat : ∀ i, i < n → m i = nI (r.getD i 0) := fun i hi => hm i (by rw [hr.1]; exact hi)
  have hle := fun i => hr.at i
  unfold f_X8_mayWay
  rw [ald_in (by omega) (by decide), hat f hf, besides_eq hf hn, cl1_s]
  have occ : ∀ o, o = land n g r f d → r.getD t 0 ≠ 0 → o ≠ some t := fun o ho h e => by
    rw [ho] at e
    exact h (lnd_lt hf e).2
  have fin : ∀ c, (c = true ↔ land n g r f d = some t) → some (bI c) = some (bI (decide (land n g r f d = some t))) := fun c hc => by
    congr 2
    cases c with
    | true => simp [hc.mp rfl]
    | false =>
      symm
      apply decide_eq_false
      intro e; have := hc.mpr e; cases this
  have ends : ∀ {b : Bool}, (if nI (r.getD t 0) = 0 then some (1 : Int32) else some 0) = some (bI (decide (r.getD t 0 = 0))) := fun {b} => by
    have := hle t
    by_cases hz : r.getD t 0 = 0
    · rw [if_pos ((nI_eq0 (by omega)).mpr hz)]; simp only [hz, decide_true]; rfl
    · rw [if_neg (fun q => hz ((nI_eq0 (by omega)).mp q))]; simp only [hz, decide_false]; rfl
  rw [jn0_d]
  cases hb1 : bes n (gR g) f d with
  | none =>
    have hl : land n g r f d = none := by unfold land; cases mover g (r.getD f 0) <;> simp [lnd, hb1]
    rw [if_pos (show oI none = -1 from rfl), if_neg (show ¬ oI none = nI t from fun q => nI_m1 (by omega) q.symm)]
    exact fin false (by rw [hl]; simp)
  | some p1 =>
    have hp1 := bes_lt hf hb1
    have e1 : oI (some p1) = nI p1 := rfl
    rw [e1, if_neg (nI_m1 (by omega))]
    by_cases h1t : p1 = t
    · subst h1t
      rw [if_pos rfl, if_pos rfl, ald_in (by omega) (by decide), hat p1 hp1, ends (b := true)]
      apply fin
      rw [decide_eq_true_eq]
      constructor
      · intro hz
        unfold land
        cases mover g (r.getD f 0) <;> simp only [lnd, hb1, hz, if_true]
      · intro h; exact (lnd_lt hf h).2
    · have hne : ¬ nI p1 = nI t := fun q => h1t ((nI_eq (by omega) (by omega)).mp q)
      rw [if_neg hne]
      by_cases h4 : r.getD f 0 = 4
      · rw [if_pos (by rw [h4]; rfl)]
        refine fin false ⟨(fun q => by cases q), fun h => ?_⟩
        unfold land mover at h
        rw [if_pos h4] at h
        simp only [lnd, hb1] at h
        split at h
        · cases h; exact absurd rfl h1t
        · cases h
      · have hk4 := hle f
        rw [if_neg (show ¬ nI (r.getD f 0) = 4 from fun q => h4 ((nI_eq (by omega) (by decide)).mp q)), ald_in (by omega) (by decide), hat p1 hp1, over_eq (hle f) (hle p1), cl1_s]
        have hmv : ∃ c, mover g (r.getD f 0) = c + 1 ∧ c = if gT g then 1 else 0 := by
          unfold mover
          rw [if_neg h4]
          cases gT g
          · exact ⟨0, rfl, rfl⟩
          · exact ⟨1, rfl, rfl⟩
        obtain ⟨c, hmc, hcT⟩ := hmv
        have hl1 : land n g r f d = if r.getD p1 0 = 0 then some p1 else if ovr (gA g) (r.getD f 0) (r.getD p1 0) then lnd n (gA g) (gR g) r (r.getD f 0) d c p1 else none := by
          unfold land
          rw [hmc]
          simp only [lnd, hb1]
        cases ho1 : ovr (gA g) (r.getD f 0) (r.getD p1 0) with
        | false =>
          rw [if_pos (show bI false = 0 from rfl)]
          refine fin false ⟨(fun q => by cases q), fun h => ?_⟩
          rw [hl1, ho1] at h
          split at h
          · cases h; exact absurd rfl h1t
          · simp at h
        | true =>
          rw [if_neg (show ¬ bI true = 0 by decide), besides_eq hp1 hn, cl1_s]
          have hz1 : r.getD p1 0 ≠ 0 := by
            intro q
            unfold ovr at ho1
            rw [q] at ho1
            simp at ho1
          rw [ho1, if_neg hz1, if_pos rfl] at hl1
          rw [jn0_d]
          cases hb2 : bes n (gR g) p1 d with
          | none =>
            have hl : land n g r f d = none := by rw [hl1]; cases c <;> simp [lnd, hb2]
            rw [if_pos (show oI none = -1 from rfl), if_neg (show ¬ oI none = nI t from fun q => nI_m1 (by omega) q.symm)]
            exact fin false (by rw [hl]; simp)
          | some p2 =>
            have hp2 := bes_lt hp1 hb2
            have e2 : oI (some p2) = nI p2 := rfl
            rw [e2, if_neg (nI_m1 (by omega))]
            by_cases h2t : p2 = t
            · subst h2t
              rw [if_pos rfl, if_pos rfl, ald_in (by omega) (by decide), hat p2 hp2, ends (b := true)]
              apply fin
              rw [decide_eq_true_eq]
              constructor
              · intro hz
                rw [hl1]
                cases c <;> simp only [lnd, hb2, hz, if_true]
              · intro h; exact (lnd_lt hf h).2
            · have hne2 : ¬ nI p2 = nI t := fun q => h2t ((nI_eq (by omega) (by omega)).mp q)
              rw [if_neg hne2, besides_eq hp2 hn, cl1_s]
              cases hT : gT g with
              | false =>
                rw [hT] at hcT
                rw [if_pos (show bI false = 0 from rfl)]
                refine fin false ⟨(fun q => by cases q), fun h => ?_⟩
                rw [hl1, hcT] at h
                simp only [lnd, hb2, Bool.false_eq_true, if_false] at h
                split at h
                · cases h; exact absurd rfl h2t
                · cases h
              | true =>
                rw [hT] at hcT
                rw [if_neg (show ¬ bI true = 0 by decide), ald_in (by omega) (by decide), hat p2 hp2, over_eq (hle f) (hle p2), cl1_s]
                have hl2 : land n g r f d = if r.getD p2 0 = 0 then some p2 else if ovr (gA g) (r.getD f 0) (r.getD p2 0) then lnd n (gA g) (gR g) r (r.getD f 0) d 0 p2 else none := by
                  rw [hl1, hcT]
                  simp only [lnd, hb2, if_true]
                cases ho2 : ovr (gA g) (r.getD f 0) (r.getD p2 0) with
                | false =>
                  rw [if_pos (show bI false = 0 from rfl)]
                  refine fin false ⟨(fun q => by cases q), fun h => ?_⟩
                  rw [hl2, ho2] at h
                  split at h
                  · cases h; exact absurd rfl h2t
                  · simp at h
                | true =>
                  have hz2 : r.getD p2 0 ≠ 0 := by
                    intro q
                    unfold ovr at ho2
                    rw [q] at ho2
                    simp at ho2
                  rw [ho2, if_neg hz2, if_pos rfl] at hl2
                  rw [if_neg (show ¬ bI true = 0 by decide)]
                  by_cases h3 : bes n (gR g) p2 d = some t
                  · rw [if_pos ((oI_eq hn (fun q hq => bes_lt hp2 hq) ht).mpr h3), ald_in (by omega) (by decide), hat t ht, ends (b := true)]
                    apply fin
                    rw [decide_eq_true_eq]
                    constructor
                    · intro hz
                      rw [hl2]
                      simp only [lnd, h3, hz, if_true]
                    · intro h; exact (lnd_lt hf h).2
                  · rw [if_neg (fun q => h3 ((oI_eq hn (fun q hq => bes_lt hp2 hq) ht).mp q))]
                    refine fin false ⟨(fun q => by cases q), fun h => ?_⟩
                    rw [hl2] at h
                    simp only [lnd] at h
                    cases hb3 : bes n (gR g) p2 d with
                    | none => rw [hb3] at h; cases h
                    | some p3 =>
                      rw [hb3] at h
                      dsimp only at h
                      split at h
                      · cases h; exact absurd hb3 h3
                      · cases h
theorem mayMove_eq {n : Nat} {g : Fl} {m : A32} {r : Nd} {f t : Nat} (hm : rowAt m r) (hr : Rw n r) (hn : n ≤ 7) (hf : f < n) (ht : t < n) : f_X8_mayMove (bI (gA g)) (bI (gB g)) (bI (gR g)) (bI (gT g)) (nI n) m (nI f) (nI t) = some (bI (may n g r true f t)) := by
  have hk := hr.at f
  unfold f_X8_mayMove
  rw [ald_in (by omega) (by decide), hm f (by rw [hr.1]; exact hf)]
  by_cases h0 : r.getD f 0 = 0
  · rw [if_pos ((nI_eq0 (by omega)).mpr h0)]
    have : may n g r true f t = false := by
      cases h : may n g r true f t with
      | false => rfl
      | true => exact absurd h0 (may_iff.mp h).1
    rw [this]; rfl
  · rw [if_neg (fun q => h0 ((nI_eq0 (by omega)).mp q))]
    by_cases h3 : r.getD f 0 = 3
    · rw [if_pos (by rw [h3]; rfl)]
      have : may n g r true f t = false := by
        cases h : may n g r true f t with
        | false => rfl
        | true => exact absurd h3 (may_iff.mp h).2.1
      rw [this]; rfl
    · rw [if_neg (show ¬ nI (r.getD f 0) = 3 from fun q => h3 ((nI_eq (by omega) (by decide)).mp q))]
      by_cases hft : f = t
      · subst hft
        rw [if_pos rfl]
        have : may n g r true f f = false := by
          cases h : may n g r true f f with
          | false => rfl
          | true => exact absurd rfl (may_to hf h).2.2.1
        rw [this]; rfl
      · rw [if_neg (fun q => hft ((nI_eq (by omega) (by omega)).mp q)), col_eq hk, cl1_s, jn1_d]
        have key : ∀ d, d = fwd (r.getD f 0) true → (cl1 (f_X8_mayWay (bI (gA g)) (bI (gR g)) (bI (gT g)) (nI n) m (nI f) (nI t) (dI d)) fun r_9 => jn0 (some 1) fun j68 => if r_9 = 0 then (if bI (gB g) = 0 then some 0 else (cl1 (f_X8_mayWay (bI (gA g)) (bI (gR g)) (bI (gT g)) (nI n) m (nI f) (nI t) (-dI d)) fun r_13 => if r_13 = 0 then some 0 else j68)) else j68) = some (bI (may n g r true f t)) := by
          intro d hd
          rw [dI_neg, way_eq hm hr hn hf ht, way_eq hm hr hn hf ht, cl1_s, jn0_d, cl1_s]
          have hmi := may_iff (n := n) (g := g) (r := r) (sense := true) (f := f) (t := t)
          rw [← hd] at hmi
          by_cases h1 : land n g r f d = some t
          · rw [if_neg (show ¬ bI (decide (land n g r f d = some t)) = 0 by simp [h1, bI]), hmi.mpr ⟨h0, h3, Or.inl h1⟩]; rfl
          · rw [if_pos (show bI (decide (land n g r f d = some t)) = 0 by simp [h1, bI])]
            cases hb : gB g with
            | false =>
              rw [if_pos (show bI false = 0 from rfl)]
              have : may n g r true f t = false := by
                cases h : may n g r true f t with
                | false => rfl
                | true =>
                  rcases (hmi.mp h).2.2 with q | ⟨q, -⟩
                  · exact absurd q h1
                  · rw [hb] at q; cases q
              rw [this]; rfl
            | true =>
              rw [if_neg (show ¬ bI true = 0 by decide)]
              by_cases h2 : land n g r f (!d) = some t
              · rw [if_neg (show ¬ bI (decide (land n g r f (!d) = some t)) = 0 by simp [h2, bI]), hmi.mpr ⟨h0, h3, Or.inr ⟨hb, h2⟩⟩]; rfl
              · rw [if_pos (show bI (decide (land n g r f (!d) = some t)) = 0 by simp [h2, bI])]
                have : may n g r true f t = false := by
                  cases h : may n g r true f t with
                  | false => rfl
                  | true =>
                    rcases (hmi.mp h).2.2 with q | ⟨-, q⟩
                    · exact absurd q h1
                    · exact absurd q h2
                rw [this]; rfl
        rcases (show r.getD f 0 = 1 ∨ r.getD f 0 = 2 ∨ r.getD f 0 = 4 by omega) with e | e | e
        · rw [if_pos (show nI (col (r.getD f 0)) = 1 by rw [e]; rfl)]
          exact key true (by rw [e]; rfl)
        · rw [if_neg (show ¬ nI (col (r.getD f 0)) = 1 by rw [e]; decide)]
          exact key false (by rw [e]; rfl)
        · rw [if_pos (show nI (col (r.getD f 0)) = 1 by rw [e]; rfl)]
          exact key true (by rw [e]; rfl)
