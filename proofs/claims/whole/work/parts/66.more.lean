/-! ===== comes; more and off: the best of some candidates ===== -/
theorem spread_to {n : Nat} {g : Fl} {sense : Bool} {s go : Nd} {slots rows : A32} {tsize : Int32} {depths ways : A32} {st0 so0 : Int32} (hs : Rw n s) (hg : Rw n go) (hn : n ≤ 7) :
    ∃ slots' rows' tsize' depths' ways' st so, f_X5_spread (nI n) (bI (gA g)) (bI (gB g)) (bI (gR g)) (bI (gT g)) slots rows tsize depths ways st0 so0 (nI (enc8 s)) (dI sense) (nI (enc8 go)) = some (oI (dOf (zf n g sense s) go), slots', rows', tsize', depths', ways', st, so) := by
  obtain ⟨res, a, b, c, d, e, st, so, h1, h2⟩ := spread_eq (g := g) (sense := sense) (slots := slots) (rows := rows) (tsize := tsize) (depths := depths) (ways := ways) (st0 := st0) (so0 := so0) (p3 := nI (enc8 go)) hs hn
  have hgl : enc8 go < 2097152 := row_lt hg.d (by rw [hg.1]; exact hn)
  rcases h2 with ⟨x, d', hx, e1, e2⟩ | ⟨h3, h4, -⟩
  · have hc : Rw n x := (zf_cls hs hn _ hx).rw hs
    have hlt : enc8 x < 2097152 := row_lt hc.d (by rw [hc.1]; exact hn)
    have := enc8_inj hc.d hg.d (by rw [hc.1, hg.1]) ((nI_eq (by omega) (by omega)).mp e1)
    subst this
    rw [(dOf_some zf_nd).mpr hx]
    rw [e2] at h1
    exact ⟨_, _, _, _, _, _, _, h1⟩
  · have : dOf (zf n g sense s) go = none := dOf_none.mpr (fun hm => by
      obtain ⟨e, he, e2⟩ := List.mem_map.mp hm
      exact h3 e he (by rw [e2]))
    rw [this]
    rw [h4] at h1
    exact ⟨_, _, _, _, _, _, _, h1⟩
def lsB (o : Option Nat) (b : Option (Nat × Nat)) : Bool := match o, b with
  | none, _ => false
  | some _, none => true
  | some d, some v => decide (d < v.2)
def upB (b : Option (Nat × Nat)) (lab : Nat) (o : Option Nat) : Option (Nat × Nat) := if lsB o b then some (lab, o.getD 0) else b
def okB (b : Option (Nat × Nat)) : Prop := ∀ v, b = some v → v.1 < 100 ∧ v.2 < 1000
theorem okB_up {b : Option (Nat × Nat)} {lab : Nat} {o : Option Nat} (h : okB b) (hl : lab < 100) (ho : ∀ d, o = some d → d < 1000) : okB (upB b lab o) := by
  intro v hv
  unfold upB at hv
  by_cases q : lsB o b = true
  · rw [if_pos q] at hv
    cases hv
    refine ⟨hl, ?_⟩
    cases o with
    | none => show 0 < 1000; omega
    | some d => exact ho d rfl
  · rw [if_neg q] at hv; exact h v hv
def b1 (b : Option (Nat × Nat)) : Int32 := oI (b.map Prod.fst)
def b2 (b : Option (Nat × Nat)) : Int32 := oI (b.map Prod.snd)
def b3 (b : Option (Nat × Nat)) : Int32 := nI ((b.map Prod.snd).getD 78125)
def bV (b : Option (Nat × Nat)) (w : Int32) : Int32 := if w = 0 then b1 b else b2 b
theorem isLess_eq {o : Option Nat} {b : Option (Nat × Nat)} (hb : okB b) (ho : ∀ d, o = some d → d < 1000) : f_X7_isLess (oI o) (b2 b) = some (bI (lsB o b)) := by
  unfold f_X7_isLess
  cases o with
  | none => rw [if_pos (show oI none = -1 from rfl)]; rfl
  | some d =>
    have hd := ho d rfl
    rw [if_neg (show ¬ oI (some d) = -1 from nI_m1 (by omega)), jn0_d]
    cases b with
    | none => rw [if_pos (show b2 none = -1 from rfl)]; rfl
    | some v =>
      have hv := (hb v rfl).2
      rw [if_neg (show ¬ b2 (some v) = -1 from nI_m1 (by omega))]
      by_cases q : d < v.2
      · rw [if_neg (show ¬ b2 (some v) ≤ oI (some d) from fun w => by have := (nI_leI (a := v.2) (b := d) (by omega) (by omega)).mp w; omega)]
        show _ = some (bI (decide (d < v.2)))
        rw [decide_eq_true q]; rfl
      · rw [if_pos (show b2 (some v) ≤ oI (some d) from nI_le (a := v.2) (b := d) (by omega) (by omega))]
        show _ = some (bI (decide (d < v.2)))
        rw [decide_eq_false q]; rfl
theorem lessM {o : Option Nat} {b : Option (Nat × Nat)} (hb : okB b) (ho : ∀ d, o = some d → d < 1000) {β : Type} (X Y : Option β) : (if oI o < 0 then X else if b3 b ≤ oI o then X else Y) = if lsB o b then Y else X := by
  cases o with
  | none => rw [if_pos (show oI none < 0 by decide)]; rfl
  | some d =>
    have hd := ho d rfl
    rw [if_neg (show ¬ oI (some d) < 0 from nI_pos (by omega))]
    cases b with
    | none =>
      rw [if_neg (show ¬ b3 none ≤ oI (some d) from fun w => by have := (nI_leI (a := 78125) (b := d) (by decide) (by omega)).mp w; omega)]; rfl
    | some v =>
      have hv := (hb v rfl).2
      by_cases q : d < v.2
      · rw [if_neg (show ¬ b3 (some v) ≤ oI (some d) from fun w => by have := (nI_leI (a := v.2) (b := d) (by omega) (by omega)).mp w; omega), if_pos (show lsB (some d) (some v) = true from decide_eq_true q)]
      · rw [if_pos (show b3 (some v) ≤ oI (some d) from nI_le (a := v.2) (b := d) (by omega) (by omega)), if_neg (show ¬ lsB (some d) (some v) = true from fun w => q (of_decide_eq_true w))]
theorem b1_up (b : Option (Nat × Nat)) (lab : Nat) (o : Option Nat) : b1 (upB b lab o) = if lsB o b then nI lab else b1 b := by
  unfold upB
  by_cases q : lsB o b = true
  · rw [if_pos q, if_pos q]; rfl
  · rw [if_neg q, if_neg q]
theorem ls_some {b : Option (Nat × Nat)} {o : Option Nat} (h : lsB o b = true) : ∃ d, o = some d := by
  cases o with
  | none => cases h
  | some d => exact ⟨d, rfl⟩
theorem b2_up (b : Option (Nat × Nat)) (lab : Nat) (o : Option Nat) : b2 (upB b lab o) = if lsB o b then oI o else b2 b := by
  unfold upB
  by_cases q : lsB o b = true
  · rw [if_pos q, if_pos q]
    obtain ⟨d, rfl⟩ := ls_some q
    rfl
  · rw [if_neg q, if_neg q]
theorem b3_up (b : Option (Nat × Nat)) (lab : Nat) (o : Option Nat) : b3 (upB b lab o) = if lsB o b then oI o else b3 b := by
  unfold upB
  by_cases q : lsB o b = true
  · rw [if_pos q, if_pos q]
    obtain ⟨d, rfl⟩ := ls_some q
    rfl
  · rw [if_neg q, if_neg q]
theorem bV_M {b : Option (Nat × Nat)} (hb : okB b) {w : Int32} {β : Type} (K : Int32 → Option β) : (if b1 b = -1 then K (b1 b) else if w = 0 then K (b1 b) else K (b3 b)) = K (bV b w) := by
  unfold bV
  cases b with
  | none =>
    rw [if_pos (show b1 none = -1 from rfl)]
    split <;> rfl
  | some v =>
    have hv := (hb v rfl).1
    rw [if_neg (show ¬ b1 (some v) = -1 from nI_m1 (by omega))]
    split <;> rfl
/-- more: a stone more at each place; off: each frog off -/
def moB (n : Nat) (g : Fl) (rd : Nd) : Nat → Option (Nat × Nat)
  | 0 => none
  | j + 1 => upB (moB n g rd j) j (dOf (zf (n + 1) g true (wid rd j)) (wid rd j).reverse)
def ofB (n : Nat) (g : Fl) (rd : Nd) : Nat → Option (Nat × Nat)
  | 0 => none
  | j + 1 => if rd.getD j 0 = 0 then ofB n g rd j else upB (ofB n g rd j) (frogsIn (rd.take j)) (dOf (zf n g true (rd.set j 0)) (rd.set j 0).reverse)
theorem wid_rw {n p : Nat} {rd : Nd} (h : Rw n rd) (hp : p ≤ n) : Rw (n + 1) (wid rd p) := by
  refine ⟨by rw [wid_len (by rw [h.1]; exact hp), h.1], fun k hk => ?_⟩
  unfold wid at hk
  rcases List.mem_append.mp hk with q | q
  · exact h.2 k (List.mem_of_mem_take q)
  · rcases List.mem_cons.mp q with q | q
    · omega
    · exact h.2 k (List.mem_of_mem_drop q)
theorem set_rw {n j : Nat} {rd : Nd} (h : Rw n rd) : Rw n (rd.set j 0) := by
  refine ⟨by rw [List.length_set]; exact h.1, fun k hk => ?_⟩
  rcases List.mem_or_eq_of_mem_set hk with q | q
  · exact h.2 k q
  · omega
theorem moB_ok {n : Nat} {g : Fl} {rd : Nd} (h : Rw n rd) (hn : n ≤ 6) : ∀ j, j ≤ n + 1 → okB (moB n g rd j)
  | 0, _ => fun v hv => by cases hv
  | j + 1, hj => okB_up (moB_ok h hn j (by omega)) (by omega) (fun d hd => dOf_lt (wid_rw h (by omega)) (by omega) hd)
theorem ofB_ok {n : Nat} {g : Fl} {rd : Nd} (h : Rw n rd) (hn : n ≤ 7) : ∀ j, j ≤ n → okB (ofB n g rd j)
  | 0, _ => fun v hv => by cases hv
  | j + 1, hj => by
    have ih := ofB_ok (g := g) h hn j (by omega)
    show okB (if rd.getD j 0 = 0 then ofB n g rd j else _)
    split
    · exact ih
    · refine okB_up ih ?_ (fun d hd => dOf_lt (set_rw h) hn hd)
      have := frogs_le (rd.take j)
      rw [List.length_take, h.1] at this
      omega
