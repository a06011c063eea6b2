/-! ===== the words of the pure functions ===== -/
def fuel : Nat := 1000000
def ald {α β : Type} (n : Nat) (f : Nat → α) (i : Int32) (k : α → Option β) : Option β := if i < 0 ∨ n ≤ i.toNatClampNeg then none else k (f i.toNatClampNeg)
theorem ald_e {α β : Type} {n : Nat} {f : Nat → α} {i : Int32} {k : α → Option β} {r : β} (h : ald n f i k = some r) : ∃ v, v = f i.toNatClampNeg ∧ vp_in i n ∧ k v = some r := by
  unfold ald at h
  split at h
  · cases h
  · rename_i hc; exact ⟨_, rfl, hc, h⟩
def astI {β : Type} (n : Nat) (f : Nat → Int32) (i : Int32) (x : Int32) (k : (Nat → Int32) → Option β) : Option β := if i < 0 ∨ n ≤ i.toNatClampNeg then none else k (upd f i.toNatClampNeg x)
theorem astI_e {β : Type} {n : Nat} {f : Nat → Int32} {i : Int32} {x : Int32} {k : (Nat → Int32) → Option β} {r : β} (h : astI n f i x k = some r) : ∃ v, v = upd f i.toNatClampNeg x ∧ vp_in i n ∧ k v = some r := by
  unfold astI at h
  split at h
  · cases h
  · rename_i hc; exact ⟨_, rfl, hc, h⟩
def astB {β : Type} (n : Nat) (f : Nat → Int32) (i : Int32) (x : Int32) (k : (Nat → Int32) → Option β) : Option β := if i < 0 ∨ n ≤ i.toNatClampNeg then none else k (upd f i.toNatClampNeg (vp_nar .byte x))
theorem astB_e {β : Type} {n : Nat} {f : Nat → Int32} {i : Int32} {x : Int32} {k : (Nat → Int32) → Option β} {r : β} (h : astB n f i x k = some r) : ∃ v, v = upd f i.toNatClampNeg (vp_nar .byte x) ∧ vp_in i n ∧ k v = some r := by
  unfold astB at h
  split at h
  · cases h
  · rename_i hc; exact ⟨_, rfl, hc, h⟩
def astL {β : Type} (n : Nat) (f : Nat → Int64) (i : Int32) (x : Int64) (k : (Nat → Int64) → Option β) : Option β := if i < 0 ∨ n ≤ i.toNatClampNeg then none else k (vp_updL f i.toNatClampNeg x)
theorem astL_e {β : Type} {n : Nat} {f : Nat → Int64} {i : Int32} {x : Int64} {k : (Nat → Int64) → Option β} {r : β} (h : astL n f i x k = some r) : ∃ v, v = vp_updL f i.toNatClampNeg x ∧ vp_in i n ∧ k v = some r := by
  unfold astL at h
  split at h
  · cases h
  · rename_i hc; exact ⟨_, rfl, hc, h⟩
def idivK {β : Type} (x y : Int32) (k : Int32 → Option β) : Option β := if y = 0 then none else k (x / y)
theorem idivK_e {β : Type} {x y : Int32} {k : Int32 → Option β} {r : β} (h : idivK x y k = some r) : ∃ v, v = x / y ∧ ¬ y = 0 ∧ k v = some r := by
  unfold idivK at h
  split at h
  · cases h
  · rename_i hc; exact ⟨_, rfl, hc, h⟩
def iremK {β : Type} (x y : Int32) (k : Int32 → Option β) : Option β := if y = 0 then none else k (x - x / y * y)
theorem iremK_e {β : Type} {x y : Int32} {k : Int32 → Option β} {r : β} (h : iremK x y k = some r) : ∃ v, v = x - x / y * y ∧ ¬ y = 0 ∧ k v = some r := by
  unfold iremK at h
  split at h
  · cases h
  · rename_i hc; exact ⟨_, rfl, hc, h⟩
def ldivK {β : Type} (x y : Int64) (k : Int64 → Option β) : Option β := if y = 0 then none else k (x / y)
theorem ldivK_e {β : Type} {x y : Int64} {k : Int64 → Option β} {r : β} (h : ldivK x y k = some r) : ∃ v, v = x / y ∧ ¬ y = 0 ∧ k v = some r := by
  unfold ldivK at h
  split at h
  · cases h
  · rename_i hc; exact ⟨_, rfl, hc, h⟩
def lremK {β : Type} (x y : Int64) (k : Int64 → Option β) : Option β := if y = 0 then none else k (x - x / y * y)
theorem lremK_e {β : Type} {x y : Int64} {k : Int64 → Option β} {r : β} (h : lremK x y k = some r) : ∃ v, v = x - x / y * y ∧ ¬ y = 0 ∧ k v = some r := by
  unfold lremK at h
  split at h
  · cases h
  · rename_i hc; exact ⟨_, rfl, hc, h⟩
def nmv {α β : Type} (x : α) (k : α → Option β) : Option β := k x
theorem nmv_e {α β : Type} {x : α} {k : α → Option β} {r : β} (h : nmv x k = some r) : ∃ v, v = x ∧ k v = some r := ⟨x, rfl, h⟩
def gz {β : Type} (x : Int32) (k : Unit → Option β) : Option β := if x = 0 ∨ x = 1 then k () else none
theorem gz_e {β : Type} {x : Int32} {k : Unit → Option β} {r : β} (h : gz x k = some r) : (x = 0 ∨ x = 1) ∧ k () = some r := by
  unfold gz at h
  split at h
  · rename_i hc; exact ⟨hc, h⟩
  · cases h
theorem nar_z {x : Int32} (h : x = 0 ∨ x = 1) : narrow .boolean (.int x) = .int x := by rcases h with rfl | rfl <;> decide +kernel
theorem fit_z {x : Int32} (h : x = 0 ∨ x = 1) : fits .boolean (.int x) = true := by rcases h with rfl | rfl <;> decide +kernel
theorem it_t {β : Type} {c : Prop} [Decidable c] {A B : Option β} {r : β} (h : c) (hf : (if c then A else B) = some r) : A = some r := by rw [if_pos h] at hf; exact hf
theorem it_f {β : Type} {c : Prop} [Decidable c] {A B : Option β} {r : β} (h : ¬ c) (hf : (if c then A else B) = some r) : B = some r := by rw [if_neg h] at hf; exact hf
theorem by_c (c : Prop) {G : Prop} (h1 : c → G) (h2 : ¬ c → G) : G := (Classical.em c).elim h1 h2
theorem to_ne {x : Int32} {n : Nat} (h : ¬ x = nI n) (hn : n < 2 ^ 31) : ¬ x.toInt = (n : Int) := fun e => h (Int32.toInt_inj.mp (by rw [nI_toInt hn]; exact e))
theorem lsw5 {x : Int32} (h1 : ¬ x = 46) (h2 : ¬ x = 60) (h3 : ¬ x = 62) (h4 : ¬ x = 103) (h5 : ¬ x = 111) {a b c d e f : Int} : Op.lookupswitch.offset [(46, a), (60, b), (62, c), (103, d), (111, e)] f x.toInt = f := by
  have g1 := to_ne (n := 46) h1 (by decide)
  have g2 := to_ne (n := 60) h2 (by decide)
  have g3 := to_ne (n := 62) h3 (by decide)
  have g4 := to_ne (n := 103) h4 (by decide)
  have g5 := to_ne (n := 111) h5 (by decide)
  simp only [Op.lookupswitch.offset]
  repeat (first | rw [if_neg (by omega)] | rfl | omega | split)
theorem lsw4 {x : Int32} (h1 : ¬ x = 97) (h2 : ¬ x = 98) (h3 : ¬ x = 114) (h4 : ¬ x = 116) {a b c d f : Int} : Op.lookupswitch.offset [(97, a), (98, b), (114, c), (116, d)] f x.toInt = f := by
  have g1 := to_ne (n := 97) h1 (by decide)
  have g2 := to_ne (n := 98) h2 (by decide)
  have g3 := to_ne (n := 114) h3 (by decide)
  have g4 := to_ne (n := 116) h4 (by decide)
  simp only [Op.lookupswitch.offset]
  repeat (first | rw [if_neg (by omega)] | rfl | omega | split)
def cl1 {β A1 : Type} (o : Option (A1)) (k : A1 → Option β) : Option β := match o with
  | none => none
  | some x1 => k x1
theorem cl1_e {β A1 : Type} {o : Option (A1)} {k : A1 → Option β} {r : β} (h : cl1 o k = some r) : ∃ x1, o = some x1 ∧ k x1 = some r := by
  cases o with
  | none => cases h
  | some z => exact ⟨z, rfl, h⟩
def cl2 {β A1 A2 : Type} (o : Option (A1 × A2)) (k : A1 → A2 → Option β) : Option β := match o with
  | none => none
  | some (x1, x2) => k x1 x2
theorem cl2_e {β A1 A2 : Type} {o : Option (A1 × A2)} {k : A1 → A2 → Option β} {r : β} (h : cl2 o k = some r) : ∃ x1 x2, o = some (x1, x2) ∧ k x1 x2 = some r := by
  cases o with
  | none => cases h
  | some z => exact ⟨z.1, z.2, rfl, h⟩
def cl3 {β A1 A2 A3 : Type} (o : Option (A1 × A2 × A3)) (k : A1 → A2 → A3 → Option β) : Option β := match o with
  | none => none
  | some (x1, x2, x3) => k x1 x2 x3
theorem cl3_e {β A1 A2 A3 : Type} {o : Option (A1 × A2 × A3)} {k : A1 → A2 → A3 → Option β} {r : β} (h : cl3 o k = some r) : ∃ x1 x2 x3, o = some (x1, x2, x3) ∧ k x1 x2 x3 = some r := by
  cases o with
  | none => cases h
  | some z => exact ⟨z.1, z.2.1, z.2.2, rfl, h⟩
def cl4 {β A1 A2 A3 A4 : Type} (o : Option (A1 × A2 × A3 × A4)) (k : A1 → A2 → A3 → A4 → Option β) : Option β := match o with
  | none => none
  | some (x1, x2, x3, x4) => k x1 x2 x3 x4
theorem cl4_e {β A1 A2 A3 A4 : Type} {o : Option (A1 × A2 × A3 × A4)} {k : A1 → A2 → A3 → A4 → Option β} {r : β} (h : cl4 o k = some r) : ∃ x1 x2 x3 x4, o = some (x1, x2, x3, x4) ∧ k x1 x2 x3 x4 = some r := by
  cases o with
  | none => cases h
  | some z => exact ⟨z.1, z.2.1, z.2.2.1, z.2.2.2, rfl, h⟩
def cl5 {β A1 A2 A3 A4 A5 : Type} (o : Option (A1 × A2 × A3 × A4 × A5)) (k : A1 → A2 → A3 → A4 → A5 → Option β) : Option β := match o with
  | none => none
  | some (x1, x2, x3, x4, x5) => k x1 x2 x3 x4 x5
theorem cl5_e {β A1 A2 A3 A4 A5 : Type} {o : Option (A1 × A2 × A3 × A4 × A5)} {k : A1 → A2 → A3 → A4 → A5 → Option β} {r : β} (h : cl5 o k = some r) : ∃ x1 x2 x3 x4 x5, o = some (x1, x2, x3, x4, x5) ∧ k x1 x2 x3 x4 x5 = some r := by
  cases o with
  | none => cases h
  | some z => exact ⟨z.1, z.2.1, z.2.2.1, z.2.2.2.1, z.2.2.2.2, rfl, h⟩
def cl6 {β A1 A2 A3 A4 A5 A6 : Type} (o : Option (A1 × A2 × A3 × A4 × A5 × A6)) (k : A1 → A2 → A3 → A4 → A5 → A6 → Option β) : Option β := match o with
  | none => none
  | some (x1, x2, x3, x4, x5, x6) => k x1 x2 x3 x4 x5 x6
theorem cl6_e {β A1 A2 A3 A4 A5 A6 : Type} {o : Option (A1 × A2 × A3 × A4 × A5 × A6)} {k : A1 → A2 → A3 → A4 → A5 → A6 → Option β} {r : β} (h : cl6 o k = some r) : ∃ x1 x2 x3 x4 x5 x6, o = some (x1, x2, x3, x4, x5, x6) ∧ k x1 x2 x3 x4 x5 x6 = some r := by
  cases o with
  | none => cases h
  | some z => exact ⟨z.1, z.2.1, z.2.2.1, z.2.2.2.1, z.2.2.2.2.1, z.2.2.2.2.2, rfl, h⟩
def cl7 {β A1 A2 A3 A4 A5 A6 A7 : Type} (o : Option (A1 × A2 × A3 × A4 × A5 × A6 × A7)) (k : A1 → A2 → A3 → A4 → A5 → A6 → A7 → Option β) : Option β := match o with
  | none => none
  | some (x1, x2, x3, x4, x5, x6, x7) => k x1 x2 x3 x4 x5 x6 x7
theorem cl7_e {β A1 A2 A3 A4 A5 A6 A7 : Type} {o : Option (A1 × A2 × A3 × A4 × A5 × A6 × A7)} {k : A1 → A2 → A3 → A4 → A5 → A6 → A7 → Option β} {r : β} (h : cl7 o k = some r) : ∃ x1 x2 x3 x4 x5 x6 x7, o = some (x1, x2, x3, x4, x5, x6, x7) ∧ k x1 x2 x3 x4 x5 x6 x7 = some r := by
  cases o with
  | none => cases h
  | some z => exact ⟨z.1, z.2.1, z.2.2.1, z.2.2.2.1, z.2.2.2.2.1, z.2.2.2.2.2.1, z.2.2.2.2.2.2, rfl, h⟩
def cl8 {β A1 A2 A3 A4 A5 A6 A7 A8 : Type} (o : Option (A1 × A2 × A3 × A4 × A5 × A6 × A7 × A8)) (k : A1 → A2 → A3 → A4 → A5 → A6 → A7 → A8 → Option β) : Option β := match o with
  | none => none
  | some (x1, x2, x3, x4, x5, x6, x7, x8) => k x1 x2 x3 x4 x5 x6 x7 x8
theorem cl8_e {β A1 A2 A3 A4 A5 A6 A7 A8 : Type} {o : Option (A1 × A2 × A3 × A4 × A5 × A6 × A7 × A8)} {k : A1 → A2 → A3 → A4 → A5 → A6 → A7 → A8 → Option β} {r : β} (h : cl8 o k = some r) : ∃ x1 x2 x3 x4 x5 x6 x7 x8, o = some (x1, x2, x3, x4, x5, x6, x7, x8) ∧ k x1 x2 x3 x4 x5 x6 x7 x8 = some r := by
  cases o with
  | none => cases h
  | some z => exact ⟨z.1, z.2.1, z.2.2.1, z.2.2.2.1, z.2.2.2.2.1, z.2.2.2.2.2.1, z.2.2.2.2.2.2.1, z.2.2.2.2.2.2.2, rfl, h⟩
def cl10 {β A1 A2 A3 A4 A5 A6 A7 A8 A9 A10 : Type} (o : Option (A1 × A2 × A3 × A4 × A5 × A6 × A7 × A8 × A9 × A10)) (k : A1 → A2 → A3 → A4 → A5 → A6 → A7 → A8 → A9 → A10 → Option β) : Option β := match o with
  | none => none
  | some (x1, x2, x3, x4, x5, x6, x7, x8, x9, x10) => k x1 x2 x3 x4 x5 x6 x7 x8 x9 x10
theorem cl10_e {β A1 A2 A3 A4 A5 A6 A7 A8 A9 A10 : Type} {o : Option (A1 × A2 × A3 × A4 × A5 × A6 × A7 × A8 × A9 × A10)} {k : A1 → A2 → A3 → A4 → A5 → A6 → A7 → A8 → A9 → A10 → Option β} {r : β} (h : cl10 o k = some r) : ∃ x1 x2 x3 x4 x5 x6 x7 x8 x9 x10, o = some (x1, x2, x3, x4, x5, x6, x7, x8, x9, x10) ∧ k x1 x2 x3 x4 x5 x6 x7 x8 x9 x10 = some r := by
  cases o with
  | none => cases h
  | some z => exact ⟨z.1, z.2.1, z.2.2.1, z.2.2.2.1, z.2.2.2.2.1, z.2.2.2.2.2.1, z.2.2.2.2.2.2.1, z.2.2.2.2.2.2.2.1, z.2.2.2.2.2.2.2.2.1, z.2.2.2.2.2.2.2.2.2, rfl, h⟩
def jn0 {β : Type} (K : Option β) (B : Option β → Option β) : Option β := B K
theorem jn0_e {β : Type} {K : Option β} {B : Option β → Option β} {r : β} {P G : Prop} (hf : jn0 K B = some r) (h1 : K = some r → P) (h2 : ∀ j : Option β, (j = some r → P) → B j = some r → G) : G := h2 K h1 hf
def jn1 {β A1 : Type} (K : A1 → Option β) (B : (A1 → Option β) → Option β) : Option β := B K
theorem jn1_e {β A1 : Type} {K : A1 → Option β} {B : (A1 → Option β) → Option β} {r : β} {P : A1 → Prop} {G : Prop} (hf : jn1 K B = some r) (h1 : ∀ x1, K x1 = some r → P x1) (h2 : ∀ j : A1 → Option β, (∀ x1, j x1 = some r → P x1) → B j = some r → G) : G := h2 K h1 hf
def jn2 {β A1 A2 : Type} (K : A1 → A2 → Option β) (B : (A1 → A2 → Option β) → Option β) : Option β := B K
theorem jn2_e {β A1 A2 : Type} {K : A1 → A2 → Option β} {B : (A1 → A2 → Option β) → Option β} {r : β} {P : A1 → A2 → Prop} {G : Prop} (hf : jn2 K B = some r) (h1 : ∀ x1 x2, K x1 x2 = some r → P x1 x2) (h2 : ∀ j : A1 → A2 → Option β, (∀ x1 x2, j x1 x2 = some r → P x1 x2) → B j = some r → G) : G := h2 K h1 hf
def jn3 {β A1 A2 A3 : Type} (K : A1 → A2 → A3 → Option β) (B : (A1 → A2 → A3 → Option β) → Option β) : Option β := B K
theorem jn3_e {β A1 A2 A3 : Type} {K : A1 → A2 → A3 → Option β} {B : (A1 → A2 → A3 → Option β) → Option β} {r : β} {P : A1 → A2 → A3 → Prop} {G : Prop} (hf : jn3 K B = some r) (h1 : ∀ x1 x2 x3, K x1 x2 x3 = some r → P x1 x2 x3) (h2 : ∀ j : A1 → A2 → A3 → Option β, (∀ x1 x2 x3, j x1 x2 x3 = some r → P x1 x2 x3) → B j = some r → G) : G := h2 K h1 hf
def jn4 {β A1 A2 A3 A4 : Type} (K : A1 → A2 → A3 → A4 → Option β) (B : (A1 → A2 → A3 → A4 → Option β) → Option β) : Option β := B K
theorem jn4_e {β A1 A2 A3 A4 : Type} {K : A1 → A2 → A3 → A4 → Option β} {B : (A1 → A2 → A3 → A4 → Option β) → Option β} {r : β} {P : A1 → A2 → A3 → A4 → Prop} {G : Prop} (hf : jn4 K B = some r) (h1 : ∀ x1 x2 x3 x4, K x1 x2 x3 x4 = some r → P x1 x2 x3 x4) (h2 : ∀ j : A1 → A2 → A3 → A4 → Option β, (∀ x1 x2 x3 x4, j x1 x2 x3 x4 = some r → P x1 x2 x3 x4) → B j = some r → G) : G := h2 K h1 hf
def jn5 {β A1 A2 A3 A4 A5 : Type} (K : A1 → A2 → A3 → A4 → A5 → Option β) (B : (A1 → A2 → A3 → A4 → A5 → Option β) → Option β) : Option β := B K
theorem jn5_e {β A1 A2 A3 A4 A5 : Type} {K : A1 → A2 → A3 → A4 → A5 → Option β} {B : (A1 → A2 → A3 → A4 → A5 → Option β) → Option β} {r : β} {P : A1 → A2 → A3 → A4 → A5 → Prop} {G : Prop} (hf : jn5 K B = some r) (h1 : ∀ x1 x2 x3 x4 x5, K x1 x2 x3 x4 x5 = some r → P x1 x2 x3 x4 x5) (h2 : ∀ j : A1 → A2 → A3 → A4 → A5 → Option β, (∀ x1 x2 x3 x4 x5, j x1 x2 x3 x4 x5 = some r → P x1 x2 x3 x4 x5) → B j = some r → G) : G := h2 K h1 hf
def jn8 {β A1 A2 A3 A4 A5 A6 A7 A8 : Type} (K : A1 → A2 → A3 → A4 → A5 → A6 → A7 → A8 → Option β) (B : (A1 → A2 → A3 → A4 → A5 → A6 → A7 → A8 → Option β) → Option β) : Option β := B K
theorem jn8_e {β A1 A2 A3 A4 A5 A6 A7 A8 : Type} {K : A1 → A2 → A3 → A4 → A5 → A6 → A7 → A8 → Option β} {B : (A1 → A2 → A3 → A4 → A5 → A6 → A7 → A8 → Option β) → Option β} {r : β} {P : A1 → A2 → A3 → A4 → A5 → A6 → A7 → A8 → Prop} {G : Prop} (hf : jn8 K B = some r) (h1 : ∀ x1 x2 x3 x4 x5 x6 x7 x8, K x1 x2 x3 x4 x5 x6 x7 x8 = some r → P x1 x2 x3 x4 x5 x6 x7 x8) (h2 : ∀ j : A1 → A2 → A3 → A4 → A5 → A6 → A7 → A8 → Option β, (∀ x1 x2 x3 x4 x5 x6 x7 x8, j x1 x2 x3 x4 x5 x6 x7 x8 = some r → P x1 x2 x3 x4 x5 x6 x7 x8) → B j = some r → G) : G := h2 K h1 hf
def jn9 {β A1 A2 A3 A4 A5 A6 A7 A8 A9 : Type} (K : A1 → A2 → A3 → A4 → A5 → A6 → A7 → A8 → A9 → Option β) (B : (A1 → A2 → A3 → A4 → A5 → A6 → A7 → A8 → A9 → Option β) → Option β) : Option β := B K
theorem jn9_e {β A1 A2 A3 A4 A5 A6 A7 A8 A9 : Type} {K : A1 → A2 → A3 → A4 → A5 → A6 → A7 → A8 → A9 → Option β} {B : (A1 → A2 → A3 → A4 → A5 → A6 → A7 → A8 → A9 → Option β) → Option β} {r : β} {P : A1 → A2 → A3 → A4 → A5 → A6 → A7 → A8 → A9 → Prop} {G : Prop} (hf : jn9 K B = some r) (h1 : ∀ x1 x2 x3 x4 x5 x6 x7 x8 x9, K x1 x2 x3 x4 x5 x6 x7 x8 x9 = some r → P x1 x2 x3 x4 x5 x6 x7 x8 x9) (h2 : ∀ j : A1 → A2 → A3 → A4 → A5 → A6 → A7 → A8 → A9 → Option β, (∀ x1 x2 x3 x4 x5 x6 x7 x8 x9, j x1 x2 x3 x4 x5 x6 x7 x8 x9 = some r → P x1 x2 x3 x4 x5 x6 x7 x8 x9) → B j = some r → G) : G := h2 K h1 hf
def jn10 {β A1 A2 A3 A4 A5 A6 A7 A8 A9 A10 : Type} (K : A1 → A2 → A3 → A4 → A5 → A6 → A7 → A8 → A9 → A10 → Option β) (B : (A1 → A2 → A3 → A4 → A5 → A6 → A7 → A8 → A9 → A10 → Option β) → Option β) : Option β := B K
theorem jn10_e {β A1 A2 A3 A4 A5 A6 A7 A8 A9 A10 : Type} {K : A1 → A2 → A3 → A4 → A5 → A6 → A7 → A8 → A9 → A10 → Option β} {B : (A1 → A2 → A3 → A4 → A5 → A6 → A7 → A8 → A9 → A10 → Option β) → Option β} {r : β} {P : A1 → A2 → A3 → A4 → A5 → A6 → A7 → A8 → A9 → A10 → Prop} {G : Prop} (hf : jn10 K B = some r) (h1 : ∀ x1 x2 x3 x4 x5 x6 x7 x8 x9 x10, K x1 x2 x3 x4 x5 x6 x7 x8 x9 x10 = some r → P x1 x2 x3 x4 x5 x6 x7 x8 x9 x10) (h2 : ∀ j : A1 → A2 → A3 → A4 → A5 → A6 → A7 → A8 → A9 → A10 → Option β, (∀ x1 x2 x3 x4 x5 x6 x7 x8 x9 x10, j x1 x2 x3 x4 x5 x6 x7 x8 x9 x10 = some r → P x1 x2 x3 x4 x5 x6 x7 x8 x9 x10) → B j = some r → G) : G := h2 K h1 hf
def lp1_0 {β A1 : Type} (body : A1 → (A1 → Option β) → (Option β) → Option β) (k : Option β) : Nat → A1 → Option β
  | 0, _ => none
  | n + 1, x1 => body x1 (lp1_0 body k n) k
theorem lp1_0_J {β A1 : Type} {body : A1 → (A1 → Option β) → (Option β) → Option β} {k : Option β} {n : Nat} {r : β} {P : A1 → Prop} {Q : Prop}
    (hb : ∀ x1 (nx : A1 → Option β) (ex : Option β), (∀ x1, nx x1 = some r → P x1) → (ex  = some r → Q ) → body x1 nx ex = some r → P x1)
    (hk : k  = some r → Q ) {x1} (hf : lp1_0 body k n x1 = some r) : P x1 := by
  induction n generalizing x1 with
  | zero => cases hf
  | succ n ih => exact hb x1 _ _ (fun x1 h => ih h) hk hf
def lp1_1 {β A1 B1 : Type} (body : A1 → (A1 → Option β) → (B1 → Option β) → Option β) (k : B1 → Option β) : Nat → A1 → Option β
  | 0, _ => none
  | n + 1, x1 => body x1 (lp1_1 body k n) k
theorem lp1_1_J {β A1 B1 : Type} {body : A1 → (A1 → Option β) → (B1 → Option β) → Option β} {k : B1 → Option β} {n : Nat} {r : β} {P : A1 → Prop} {Q : B1 → Prop}
    (hb : ∀ x1 (nx : A1 → Option β) (ex : B1 → Option β), (∀ x1, nx x1 = some r → P x1) → (∀ y1, ex y1 = some r → Q y1) → body x1 nx ex = some r → P x1)
    (hk : ∀ y1, k y1 = some r → Q y1) {x1} (hf : lp1_1 body k n x1 = some r) : P x1 := by
  induction n generalizing x1 with
  | zero => cases hf
  | succ n ih => exact hb x1 _ _ (fun x1 h => ih h) hk hf
def lp2_0 {β A1 A2 : Type} (body : A1 → A2 → (A1 → A2 → Option β) → (Option β) → Option β) (k : Option β) : Nat → A1 → A2 → Option β
  | 0, _, _ => none
  | n + 1, x1, x2 => body x1 x2 (lp2_0 body k n) k
theorem lp2_0_J {β A1 A2 : Type} {body : A1 → A2 → (A1 → A2 → Option β) → (Option β) → Option β} {k : Option β} {n : Nat} {r : β} {P : A1 → A2 → Prop} {Q : Prop}
    (hb : ∀ x1 x2 (nx : A1 → A2 → Option β) (ex : Option β), (∀ x1 x2, nx x1 x2 = some r → P x1 x2) → (ex  = some r → Q ) → body x1 x2 nx ex = some r → P x1 x2)
    (hk : k  = some r → Q ) {x1 x2} (hf : lp2_0 body k n x1 x2 = some r) : P x1 x2 := by
  induction n generalizing x1 x2 with
  | zero => cases hf
  | succ n ih => exact hb x1 x2 _ _ (fun x1 x2 h => ih h) hk hf
def lp2_1 {β A1 A2 B1 : Type} (body : A1 → A2 → (A1 → A2 → Option β) → (B1 → Option β) → Option β) (k : B1 → Option β) : Nat → A1 → A2 → Option β
  | 0, _, _ => none
  | n + 1, x1, x2 => body x1 x2 (lp2_1 body k n) k
theorem lp2_1_J {β A1 A2 B1 : Type} {body : A1 → A2 → (A1 → A2 → Option β) → (B1 → Option β) → Option β} {k : B1 → Option β} {n : Nat} {r : β} {P : A1 → A2 → Prop} {Q : B1 → Prop}
    (hb : ∀ x1 x2 (nx : A1 → A2 → Option β) (ex : B1 → Option β), (∀ x1 x2, nx x1 x2 = some r → P x1 x2) → (∀ y1, ex y1 = some r → Q y1) → body x1 x2 nx ex = some r → P x1 x2)
    (hk : ∀ y1, k y1 = some r → Q y1) {x1 x2} (hf : lp2_1 body k n x1 x2 = some r) : P x1 x2 := by
  induction n generalizing x1 x2 with
  | zero => cases hf
  | succ n ih => exact hb x1 x2 _ _ (fun x1 x2 h => ih h) hk hf
def lp3_1 {β A1 A2 A3 B1 : Type} (body : A1 → A2 → A3 → (A1 → A2 → A3 → Option β) → (B1 → Option β) → Option β) (k : B1 → Option β) : Nat → A1 → A2 → A3 → Option β
  | 0, _, _, _ => none
  | n + 1, x1, x2, x3 => body x1 x2 x3 (lp3_1 body k n) k
theorem lp3_1_J {β A1 A2 A3 B1 : Type} {body : A1 → A2 → A3 → (A1 → A2 → A3 → Option β) → (B1 → Option β) → Option β} {k : B1 → Option β} {n : Nat} {r : β} {P : A1 → A2 → A3 → Prop} {Q : B1 → Prop}
    (hb : ∀ x1 x2 x3 (nx : A1 → A2 → A3 → Option β) (ex : B1 → Option β), (∀ x1 x2 x3, nx x1 x2 x3 = some r → P x1 x2 x3) → (∀ y1, ex y1 = some r → Q y1) → body x1 x2 x3 nx ex = some r → P x1 x2 x3)
    (hk : ∀ y1, k y1 = some r → Q y1) {x1 x2 x3} (hf : lp3_1 body k n x1 x2 x3 = some r) : P x1 x2 x3 := by
  induction n generalizing x1 x2 x3 with
  | zero => cases hf
  | succ n ih => exact hb x1 x2 x3 _ _ (fun x1 x2 x3 h => ih h) hk hf
def lp3_2 {β A1 A2 A3 B1 B2 : Type} (body : A1 → A2 → A3 → (A1 → A2 → A3 → Option β) → (B1 → B2 → Option β) → Option β) (k : B1 → B2 → Option β) : Nat → A1 → A2 → A3 → Option β
  | 0, _, _, _ => none
  | n + 1, x1, x2, x3 => body x1 x2 x3 (lp3_2 body k n) k
theorem lp3_2_J {β A1 A2 A3 B1 B2 : Type} {body : A1 → A2 → A3 → (A1 → A2 → A3 → Option β) → (B1 → B2 → Option β) → Option β} {k : B1 → B2 → Option β} {n : Nat} {r : β} {P : A1 → A2 → A3 → Prop} {Q : B1 → B2 → Prop}
    (hb : ∀ x1 x2 x3 (nx : A1 → A2 → A3 → Option β) (ex : B1 → B2 → Option β), (∀ x1 x2 x3, nx x1 x2 x3 = some r → P x1 x2 x3) → (∀ y1 y2, ex y1 y2 = some r → Q y1 y2) → body x1 x2 x3 nx ex = some r → P x1 x2 x3)
    (hk : ∀ y1 y2, k y1 y2 = some r → Q y1 y2) {x1 x2 x3} (hf : lp3_2 body k n x1 x2 x3 = some r) : P x1 x2 x3 := by
  induction n generalizing x1 x2 x3 with
  | zero => cases hf
  | succ n ih => exact hb x1 x2 x3 _ _ (fun x1 x2 x3 h => ih h) hk hf
def lp4_3 {β A1 A2 A3 A4 B1 B2 B3 : Type} (body : A1 → A2 → A3 → A4 → (A1 → A2 → A3 → A4 → Option β) → (B1 → B2 → B3 → Option β) → Option β) (k : B1 → B2 → B3 → Option β) : Nat → A1 → A2 → A3 → A4 → Option β
  | 0, _, _, _, _ => none
  | n + 1, x1, x2, x3, x4 => body x1 x2 x3 x4 (lp4_3 body k n) k
theorem lp4_3_J {β A1 A2 A3 A4 B1 B2 B3 : Type} {body : A1 → A2 → A3 → A4 → (A1 → A2 → A3 → A4 → Option β) → (B1 → B2 → B3 → Option β) → Option β} {k : B1 → B2 → B3 → Option β} {n : Nat} {r : β} {P : A1 → A2 → A3 → A4 → Prop} {Q : B1 → B2 → B3 → Prop}
    (hb : ∀ x1 x2 x3 x4 (nx : A1 → A2 → A3 → A4 → Option β) (ex : B1 → B2 → B3 → Option β), (∀ x1 x2 x3 x4, nx x1 x2 x3 x4 = some r → P x1 x2 x3 x4) → (∀ y1 y2 y3, ex y1 y2 y3 = some r → Q y1 y2 y3) → body x1 x2 x3 x4 nx ex = some r → P x1 x2 x3 x4)
    (hk : ∀ y1 y2 y3, k y1 y2 y3 = some r → Q y1 y2 y3) {x1 x2 x3 x4} (hf : lp4_3 body k n x1 x2 x3 x4 = some r) : P x1 x2 x3 x4 := by
  induction n generalizing x1 x2 x3 x4 with
  | zero => cases hf
  | succ n ih => exact hb x1 x2 x3 x4 _ _ (fun x1 x2 x3 x4 h => ih h) hk hf
def lp5_4 {β A1 A2 A3 A4 A5 B1 B2 B3 B4 : Type} (body : A1 → A2 → A3 → A4 → A5 → (A1 → A2 → A3 → A4 → A5 → Option β) → (B1 → B2 → B3 → B4 → Option β) → Option β) (k : B1 → B2 → B3 → B4 → Option β) : Nat → A1 → A2 → A3 → A4 → A5 → Option β
  | 0, _, _, _, _, _ => none
  | n + 1, x1, x2, x3, x4, x5 => body x1 x2 x3 x4 x5 (lp5_4 body k n) k
theorem lp5_4_J {β A1 A2 A3 A4 A5 B1 B2 B3 B4 : Type} {body : A1 → A2 → A3 → A4 → A5 → (A1 → A2 → A3 → A4 → A5 → Option β) → (B1 → B2 → B3 → B4 → Option β) → Option β} {k : B1 → B2 → B3 → B4 → Option β} {n : Nat} {r : β} {P : A1 → A2 → A3 → A4 → A5 → Prop} {Q : B1 → B2 → B3 → B4 → Prop}
    (hb : ∀ x1 x2 x3 x4 x5 (nx : A1 → A2 → A3 → A4 → A5 → Option β) (ex : B1 → B2 → B3 → B4 → Option β), (∀ x1 x2 x3 x4 x5, nx x1 x2 x3 x4 x5 = some r → P x1 x2 x3 x4 x5) → (∀ y1 y2 y3 y4, ex y1 y2 y3 y4 = some r → Q y1 y2 y3 y4) → body x1 x2 x3 x4 x5 nx ex = some r → P x1 x2 x3 x4 x5)
    (hk : ∀ y1 y2 y3 y4, k y1 y2 y3 y4 = some r → Q y1 y2 y3 y4) {x1 x2 x3 x4 x5} (hf : lp5_4 body k n x1 x2 x3 x4 x5 = some r) : P x1 x2 x3 x4 x5 := by
  induction n generalizing x1 x2 x3 x4 x5 with
  | zero => cases hf
  | succ n ih => exact hb x1 x2 x3 x4 x5 _ _ (fun x1 x2 x3 x4 x5 h => ih h) hk hf
def lp6_4 {β A1 A2 A3 A4 A5 A6 B1 B2 B3 B4 : Type} (body : A1 → A2 → A3 → A4 → A5 → A6 → (A1 → A2 → A3 → A4 → A5 → A6 → Option β) → (B1 → B2 → B3 → B4 → Option β) → Option β) (k : B1 → B2 → B3 → B4 → Option β) : Nat → A1 → A2 → A3 → A4 → A5 → A6 → Option β
  | 0, _, _, _, _, _, _ => none
  | n + 1, x1, x2, x3, x4, x5, x6 => body x1 x2 x3 x4 x5 x6 (lp6_4 body k n) k
theorem lp6_4_J {β A1 A2 A3 A4 A5 A6 B1 B2 B3 B4 : Type} {body : A1 → A2 → A3 → A4 → A5 → A6 → (A1 → A2 → A3 → A4 → A5 → A6 → Option β) → (B1 → B2 → B3 → B4 → Option β) → Option β} {k : B1 → B2 → B3 → B4 → Option β} {n : Nat} {r : β} {P : A1 → A2 → A3 → A4 → A5 → A6 → Prop} {Q : B1 → B2 → B3 → B4 → Prop}
    (hb : ∀ x1 x2 x3 x4 x5 x6 (nx : A1 → A2 → A3 → A4 → A5 → A6 → Option β) (ex : B1 → B2 → B3 → B4 → Option β), (∀ x1 x2 x3 x4 x5 x6, nx x1 x2 x3 x4 x5 x6 = some r → P x1 x2 x3 x4 x5 x6) → (∀ y1 y2 y3 y4, ex y1 y2 y3 y4 = some r → Q y1 y2 y3 y4) → body x1 x2 x3 x4 x5 x6 nx ex = some r → P x1 x2 x3 x4 x5 x6)
    (hk : ∀ y1 y2 y3 y4, k y1 y2 y3 y4 = some r → Q y1 y2 y3 y4) {x1 x2 x3 x4 x5 x6} (hf : lp6_4 body k n x1 x2 x3 x4 x5 x6 = some r) : P x1 x2 x3 x4 x5 x6 := by
  induction n generalizing x1 x2 x3 x4 x5 x6 with
  | zero => cases hf
  | succ n ih => exact hb x1 x2 x3 x4 x5 x6 _ _ (fun x1 x2 x3 x4 x5 x6 h => ih h) hk hf
def lp6_5 {β A1 A2 A3 A4 A5 A6 B1 B2 B3 B4 B5 : Type} (body : A1 → A2 → A3 → A4 → A5 → A6 → (A1 → A2 → A3 → A4 → A5 → A6 → Option β) → (B1 → B2 → B3 → B4 → B5 → Option β) → Option β) (k : B1 → B2 → B3 → B4 → B5 → Option β) : Nat → A1 → A2 → A3 → A4 → A5 → A6 → Option β
  | 0, _, _, _, _, _, _ => none
  | n + 1, x1, x2, x3, x4, x5, x6 => body x1 x2 x3 x4 x5 x6 (lp6_5 body k n) k
theorem lp6_5_J {β A1 A2 A3 A4 A5 A6 B1 B2 B3 B4 B5 : Type} {body : A1 → A2 → A3 → A4 → A5 → A6 → (A1 → A2 → A3 → A4 → A5 → A6 → Option β) → (B1 → B2 → B3 → B4 → B5 → Option β) → Option β} {k : B1 → B2 → B3 → B4 → B5 → Option β} {n : Nat} {r : β} {P : A1 → A2 → A3 → A4 → A5 → A6 → Prop} {Q : B1 → B2 → B3 → B4 → B5 → Prop}
    (hb : ∀ x1 x2 x3 x4 x5 x6 (nx : A1 → A2 → A3 → A4 → A5 → A6 → Option β) (ex : B1 → B2 → B3 → B4 → B5 → Option β), (∀ x1 x2 x3 x4 x5 x6, nx x1 x2 x3 x4 x5 x6 = some r → P x1 x2 x3 x4 x5 x6) → (∀ y1 y2 y3 y4 y5, ex y1 y2 y3 y4 y5 = some r → Q y1 y2 y3 y4 y5) → body x1 x2 x3 x4 x5 x6 nx ex = some r → P x1 x2 x3 x4 x5 x6)
    (hk : ∀ y1 y2 y3 y4 y5, k y1 y2 y3 y4 y5 = some r → Q y1 y2 y3 y4 y5) {x1 x2 x3 x4 x5 x6} (hf : lp6_5 body k n x1 x2 x3 x4 x5 x6 = some r) : P x1 x2 x3 x4 x5 x6 := by
  induction n generalizing x1 x2 x3 x4 x5 x6 with
  | zero => cases hf
  | succ n ih => exact hb x1 x2 x3 x4 x5 x6 _ _ (fun x1 x2 x3 x4 x5 x6 h => ih h) hk hf
def lp7_5 {β A1 A2 A3 A4 A5 A6 A7 B1 B2 B3 B4 B5 : Type} (body : A1 → A2 → A3 → A4 → A5 → A6 → A7 → (A1 → A2 → A3 → A4 → A5 → A6 → A7 → Option β) → (B1 → B2 → B3 → B4 → B5 → Option β) → Option β) (k : B1 → B2 → B3 → B4 → B5 → Option β) : Nat → A1 → A2 → A3 → A4 → A5 → A6 → A7 → Option β
  | 0, _, _, _, _, _, _, _ => none
  | n + 1, x1, x2, x3, x4, x5, x6, x7 => body x1 x2 x3 x4 x5 x6 x7 (lp7_5 body k n) k
theorem lp7_5_J {β A1 A2 A3 A4 A5 A6 A7 B1 B2 B3 B4 B5 : Type} {body : A1 → A2 → A3 → A4 → A5 → A6 → A7 → (A1 → A2 → A3 → A4 → A5 → A6 → A7 → Option β) → (B1 → B2 → B3 → B4 → B5 → Option β) → Option β} {k : B1 → B2 → B3 → B4 → B5 → Option β} {n : Nat} {r : β} {P : A1 → A2 → A3 → A4 → A5 → A6 → A7 → Prop} {Q : B1 → B2 → B3 → B4 → B5 → Prop}
    (hb : ∀ x1 x2 x3 x4 x5 x6 x7 (nx : A1 → A2 → A3 → A4 → A5 → A6 → A7 → Option β) (ex : B1 → B2 → B3 → B4 → B5 → Option β), (∀ x1 x2 x3 x4 x5 x6 x7, nx x1 x2 x3 x4 x5 x6 x7 = some r → P x1 x2 x3 x4 x5 x6 x7) → (∀ y1 y2 y3 y4 y5, ex y1 y2 y3 y4 y5 = some r → Q y1 y2 y3 y4 y5) → body x1 x2 x3 x4 x5 x6 x7 nx ex = some r → P x1 x2 x3 x4 x5 x6 x7)
    (hk : ∀ y1 y2 y3 y4 y5, k y1 y2 y3 y4 y5 = some r → Q y1 y2 y3 y4 y5) {x1 x2 x3 x4 x5 x6 x7} (hf : lp7_5 body k n x1 x2 x3 x4 x5 x6 x7 = some r) : P x1 x2 x3 x4 x5 x6 x7 := by
  induction n generalizing x1 x2 x3 x4 x5 x6 x7 with
  | zero => cases hf
  | succ n ih => exact hb x1 x2 x3 x4 x5 x6 x7 _ _ (fun x1 x2 x3 x4 x5 x6 x7 h => ih h) hk hf
def lp8_7 {β A1 A2 A3 A4 A5 A6 A7 A8 B1 B2 B3 B4 B5 B6 B7 : Type} (body : A1 → A2 → A3 → A4 → A5 → A6 → A7 → A8 → (A1 → A2 → A3 → A4 → A5 → A6 → A7 → A8 → Option β) → (B1 → B2 → B3 → B4 → B5 → B6 → B7 → Option β) → Option β) (k : B1 → B2 → B3 → B4 → B5 → B6 → B7 → Option β) : Nat → A1 → A2 → A3 → A4 → A5 → A6 → A7 → A8 → Option β
  | 0, _, _, _, _, _, _, _, _ => none
  | n + 1, x1, x2, x3, x4, x5, x6, x7, x8 => body x1 x2 x3 x4 x5 x6 x7 x8 (lp8_7 body k n) k
theorem lp8_7_J {β A1 A2 A3 A4 A5 A6 A7 A8 B1 B2 B3 B4 B5 B6 B7 : Type} {body : A1 → A2 → A3 → A4 → A5 → A6 → A7 → A8 → (A1 → A2 → A3 → A4 → A5 → A6 → A7 → A8 → Option β) → (B1 → B2 → B3 → B4 → B5 → B6 → B7 → Option β) → Option β} {k : B1 → B2 → B3 → B4 → B5 → B6 → B7 → Option β} {n : Nat} {r : β} {P : A1 → A2 → A3 → A4 → A5 → A6 → A7 → A8 → Prop} {Q : B1 → B2 → B3 → B4 → B5 → B6 → B7 → Prop}
    (hb : ∀ x1 x2 x3 x4 x5 x6 x7 x8 (nx : A1 → A2 → A3 → A4 → A5 → A6 → A7 → A8 → Option β) (ex : B1 → B2 → B3 → B4 → B5 → B6 → B7 → Option β), (∀ x1 x2 x3 x4 x5 x6 x7 x8, nx x1 x2 x3 x4 x5 x6 x7 x8 = some r → P x1 x2 x3 x4 x5 x6 x7 x8) → (∀ y1 y2 y3 y4 y5 y6 y7, ex y1 y2 y3 y4 y5 y6 y7 = some r → Q y1 y2 y3 y4 y5 y6 y7) → body x1 x2 x3 x4 x5 x6 x7 x8 nx ex = some r → P x1 x2 x3 x4 x5 x6 x7 x8)
    (hk : ∀ y1 y2 y3 y4 y5 y6 y7, k y1 y2 y3 y4 y5 y6 y7 = some r → Q y1 y2 y3 y4 y5 y6 y7) {x1 x2 x3 x4 x5 x6 x7 x8} (hf : lp8_7 body k n x1 x2 x3 x4 x5 x6 x7 x8 = some r) : P x1 x2 x3 x4 x5 x6 x7 x8 := by
  induction n generalizing x1 x2 x3 x4 x5 x6 x7 x8 with
  | zero => cases hf
  | succ n ih => exact hb x1 x2 x3 x4 x5 x6 x7 x8 _ _ (fun x1 x2 x3 x4 x5 x6 x7 x8 h => ih h) hk hf
def lp9_8 {β A1 A2 A3 A4 A5 A6 A7 A8 A9 B1 B2 B3 B4 B5 B6 B7 B8 : Type} (body : A1 → A2 → A3 → A4 → A5 → A6 → A7 → A8 → A9 → (A1 → A2 → A3 → A4 → A5 → A6 → A7 → A8 → A9 → Option β) → (B1 → B2 → B3 → B4 → B5 → B6 → B7 → B8 → Option β) → Option β) (k : B1 → B2 → B3 → B4 → B5 → B6 → B7 → B8 → Option β) : Nat → A1 → A2 → A3 → A4 → A5 → A6 → A7 → A8 → A9 → Option β
  | 0, _, _, _, _, _, _, _, _, _ => none
  | n + 1, x1, x2, x3, x4, x5, x6, x7, x8, x9 => body x1 x2 x3 x4 x5 x6 x7 x8 x9 (lp9_8 body k n) k
theorem lp9_8_J {β A1 A2 A3 A4 A5 A6 A7 A8 A9 B1 B2 B3 B4 B5 B6 B7 B8 : Type} {body : A1 → A2 → A3 → A4 → A5 → A6 → A7 → A8 → A9 → (A1 → A2 → A3 → A4 → A5 → A6 → A7 → A8 → A9 → Option β) → (B1 → B2 → B3 → B4 → B5 → B6 → B7 → B8 → Option β) → Option β} {k : B1 → B2 → B3 → B4 → B5 → B6 → B7 → B8 → Option β} {n : Nat} {r : β} {P : A1 → A2 → A3 → A4 → A5 → A6 → A7 → A8 → A9 → Prop} {Q : B1 → B2 → B3 → B4 → B5 → B6 → B7 → B8 → Prop}
    (hb : ∀ x1 x2 x3 x4 x5 x6 x7 x8 x9 (nx : A1 → A2 → A3 → A4 → A5 → A6 → A7 → A8 → A9 → Option β) (ex : B1 → B2 → B3 → B4 → B5 → B6 → B7 → B8 → Option β), (∀ x1 x2 x3 x4 x5 x6 x7 x8 x9, nx x1 x2 x3 x4 x5 x6 x7 x8 x9 = some r → P x1 x2 x3 x4 x5 x6 x7 x8 x9) → (∀ y1 y2 y3 y4 y5 y6 y7 y8, ex y1 y2 y3 y4 y5 y6 y7 y8 = some r → Q y1 y2 y3 y4 y5 y6 y7 y8) → body x1 x2 x3 x4 x5 x6 x7 x8 x9 nx ex = some r → P x1 x2 x3 x4 x5 x6 x7 x8 x9)
    (hk : ∀ y1 y2 y3 y4 y5 y6 y7 y8, k y1 y2 y3 y4 y5 y6 y7 y8 = some r → Q y1 y2 y3 y4 y5 y6 y7 y8) {x1 x2 x3 x4 x5 x6 x7 x8 x9} (hf : lp9_8 body k n x1 x2 x3 x4 x5 x6 x7 x8 x9 = some r) : P x1 x2 x3 x4 x5 x6 x7 x8 x9 := by
  induction n generalizing x1 x2 x3 x4 x5 x6 x7 x8 x9 with
  | zero => cases hf
  | succ n ih => exact hb x1 x2 x3 x4 x5 x6 x7 x8 x9 _ _ (fun x1 x2 x3 x4 x5 x6 x7 x8 x9 h => ih h) hk hf
def lp10_8 {β A1 A2 A3 A4 A5 A6 A7 A8 A9 A10 B1 B2 B3 B4 B5 B6 B7 B8 : Type} (body : A1 → A2 → A3 → A4 → A5 → A6 → A7 → A8 → A9 → A10 → (A1 → A2 → A3 → A4 → A5 → A6 → A7 → A8 → A9 → A10 → Option β) → (B1 → B2 → B3 → B4 → B5 → B6 → B7 → B8 → Option β) → Option β) (k : B1 → B2 → B3 → B4 → B5 → B6 → B7 → B8 → Option β) : Nat → A1 → A2 → A3 → A4 → A5 → A6 → A7 → A8 → A9 → A10 → Option β
  | 0, _, _, _, _, _, _, _, _, _, _ => none
  | n + 1, x1, x2, x3, x4, x5, x6, x7, x8, x9, x10 => body x1 x2 x3 x4 x5 x6 x7 x8 x9 x10 (lp10_8 body k n) k
theorem lp10_8_J {β A1 A2 A3 A4 A5 A6 A7 A8 A9 A10 B1 B2 B3 B4 B5 B6 B7 B8 : Type} {body : A1 → A2 → A3 → A4 → A5 → A6 → A7 → A8 → A9 → A10 → (A1 → A2 → A3 → A4 → A5 → A6 → A7 → A8 → A9 → A10 → Option β) → (B1 → B2 → B3 → B4 → B5 → B6 → B7 → B8 → Option β) → Option β} {k : B1 → B2 → B3 → B4 → B5 → B6 → B7 → B8 → Option β} {n : Nat} {r : β} {P : A1 → A2 → A3 → A4 → A5 → A6 → A7 → A8 → A9 → A10 → Prop} {Q : B1 → B2 → B3 → B4 → B5 → B6 → B7 → B8 → Prop}
    (hb : ∀ x1 x2 x3 x4 x5 x6 x7 x8 x9 x10 (nx : A1 → A2 → A3 → A4 → A5 → A6 → A7 → A8 → A9 → A10 → Option β) (ex : B1 → B2 → B3 → B4 → B5 → B6 → B7 → B8 → Option β), (∀ x1 x2 x3 x4 x5 x6 x7 x8 x9 x10, nx x1 x2 x3 x4 x5 x6 x7 x8 x9 x10 = some r → P x1 x2 x3 x4 x5 x6 x7 x8 x9 x10) → (∀ y1 y2 y3 y4 y5 y6 y7 y8, ex y1 y2 y3 y4 y5 y6 y7 y8 = some r → Q y1 y2 y3 y4 y5 y6 y7 y8) → body x1 x2 x3 x4 x5 x6 x7 x8 x9 x10 nx ex = some r → P x1 x2 x3 x4 x5 x6 x7 x8 x9 x10)
    (hk : ∀ y1 y2 y3 y4 y5 y6 y7 y8, k y1 y2 y3 y4 y5 y6 y7 y8 = some r → Q y1 y2 y3 y4 y5 y6 y7 y8) {x1 x2 x3 x4 x5 x6 x7 x8 x9 x10} (hf : lp10_8 body k n x1 x2 x3 x4 x5 x6 x7 x8 x9 x10 = some r) : P x1 x2 x3 x4 x5 x6 x7 x8 x9 x10 := by
  induction n generalizing x1 x2 x3 x4 x5 x6 x7 x8 x9 x10 with
  | zero => cases hf
  | succ n ih => exact hb x1 x2 x3 x4 x5 x6 x7 x8 x9 x10 _ _ (fun x1 x2 x3 x4 x5 x6 x7 x8 x9 x10 h => ih h) hk hf
def lp10_9 {β A1 A2 A3 A4 A5 A6 A7 A8 A9 A10 B1 B2 B3 B4 B5 B6 B7 B8 B9 : Type} (body : A1 → A2 → A3 → A4 → A5 → A6 → A7 → A8 → A9 → A10 → (A1 → A2 → A3 → A4 → A5 → A6 → A7 → A8 → A9 → A10 → Option β) → (B1 → B2 → B3 → B4 → B5 → B6 → B7 → B8 → B9 → Option β) → Option β) (k : B1 → B2 → B3 → B4 → B5 → B6 → B7 → B8 → B9 → Option β) : Nat → A1 → A2 → A3 → A4 → A5 → A6 → A7 → A8 → A9 → A10 → Option β
  | 0, _, _, _, _, _, _, _, _, _, _ => none
  | n + 1, x1, x2, x3, x4, x5, x6, x7, x8, x9, x10 => body x1 x2 x3 x4 x5 x6 x7 x8 x9 x10 (lp10_9 body k n) k
theorem lp10_9_J {β A1 A2 A3 A4 A5 A6 A7 A8 A9 A10 B1 B2 B3 B4 B5 B6 B7 B8 B9 : Type} {body : A1 → A2 → A3 → A4 → A5 → A6 → A7 → A8 → A9 → A10 → (A1 → A2 → A3 → A4 → A5 → A6 → A7 → A8 → A9 → A10 → Option β) → (B1 → B2 → B3 → B4 → B5 → B6 → B7 → B8 → B9 → Option β) → Option β} {k : B1 → B2 → B3 → B4 → B5 → B6 → B7 → B8 → B9 → Option β} {n : Nat} {r : β} {P : A1 → A2 → A3 → A4 → A5 → A6 → A7 → A8 → A9 → A10 → Prop} {Q : B1 → B2 → B3 → B4 → B5 → B6 → B7 → B8 → B9 → Prop}
    (hb : ∀ x1 x2 x3 x4 x5 x6 x7 x8 x9 x10 (nx : A1 → A2 → A3 → A4 → A5 → A6 → A7 → A8 → A9 → A10 → Option β) (ex : B1 → B2 → B3 → B4 → B5 → B6 → B7 → B8 → B9 → Option β), (∀ x1 x2 x3 x4 x5 x6 x7 x8 x9 x10, nx x1 x2 x3 x4 x5 x6 x7 x8 x9 x10 = some r → P x1 x2 x3 x4 x5 x6 x7 x8 x9 x10) → (∀ y1 y2 y3 y4 y5 y6 y7 y8 y9, ex y1 y2 y3 y4 y5 y6 y7 y8 y9 = some r → Q y1 y2 y3 y4 y5 y6 y7 y8 y9) → body x1 x2 x3 x4 x5 x6 x7 x8 x9 x10 nx ex = some r → P x1 x2 x3 x4 x5 x6 x7 x8 x9 x10)
    (hk : ∀ y1 y2 y3 y4 y5 y6 y7 y8 y9, k y1 y2 y3 y4 y5 y6 y7 y8 y9 = some r → Q y1 y2 y3 y4 y5 y6 y7 y8 y9) {x1 x2 x3 x4 x5 x6 x7 x8 x9 x10} (hf : lp10_9 body k n x1 x2 x3 x4 x5 x6 x7 x8 x9 x10 = some r) : P x1 x2 x3 x4 x5 x6 x7 x8 x9 x10 := by
  induction n generalizing x1 x2 x3 x4 x5 x6 x7 x8 x9 x10 with
  | zero => cases hf
  | succ n ih => exact hb x1 x2 x3 x4 x5 x6 x7 x8 x9 x10 _ _ (fun x1 x2 x3 x4 x5 x6 x7 x8 x9 x10 h => ih h) hk hf
abbrev wGame (E : En) (a : Nat → Nat) (b : Nat) (table_slots : Nat → Int32) (table_rows : Nat → Int32) (table_size : Int32) (known : Nat → Int32) : va_W := [ob (a b) 0 [.ref (a (b + 1)), .ref (a (b + 4))], ob (a (b + 1)) 5 [.ref (a (b + 2)), .ref (a (b + 3)), .int table_size], ia E (a (b + 2)) 1024 table_slots, ia E (a (b + 3)) 640 table_rows, ia E (a (b + 4)) 640 known]
abbrev wPage (E : En) (a : Nat → Nat) (b : Nat) (codes : Nat → Int32) (size : Int32) : va_W := [ob (a b) 1 [.ref (a (b + 1)), .int size], ia E (a (b + 1)) 14 codes]
abbrev wPos (E : En) (a : Nat → Nat) (b : Nat) (made : Nat → Int32) (movers : Nat → Int32) (row : Int32) (numbers : Int32) (size : Int32) : va_W := [ob (a b) 2 [.ref (a (b + 1)), .ref (a (b + 2)), .int row, .int numbers, .int size], ia E (a (b + 1)) 60 made, ia E (a (b + 2)) 60 movers]
abbrev wRules (E : En) (a : Nat → Nat) (b : Nat) (stones : Int32) (signs : Int32) (any : Int32) (back : Int32) (ring : Int32) (two : Int32) : va_W := [ob (a b) 3 [.int stones, .int signs, .int any, .int back, .int ring, .int two]]
abbrev wSearch (E : En) (a : Nat → Nat) (b : Nat) (table_slots : Nat → Int32) (table_rows : Nat → Int32) (table_size : Int32) (depths : Nat → Int32) (ways : Nat → Int32) (stuckRows : Int32) (soonestStuck : Int32) : va_W := [ob (a b) 4 [.ref (a (b + 1)), .ref (a (b + 4)), .ref (a (b + 5)), .int stuckRows, .int soonestStuck], ob (a (b + 1)) 5 [.ref (a (b + 2)), .ref (a (b + 3)), .int table_size], ia E (a (b + 2)) 1024 table_slots, ia E (a (b + 3)) 640 table_rows, ia E (a (b + 4)) 640 depths, ia E (a (b + 5)) 640 ways]
abbrev wTab (E : En) (a : Nat → Nat) (b : Nat) (slots : Nat → Int32) (rows : Nat → Int32) (size : Int32) : va_W := [ob (a b) 5 [.ref (a (b + 1)), .ref (a (b + 2)), .int size], ia E (a (b + 1)) 1024 slots, ia E (a (b + 2)) 640 rows]
abbrev wM (E : En) (a : Nat → Nat) (b : Nat) (m_stones : Int32) (m_any : Int32) (m_backward : Int32) (m_ring : Int32) (m_two : Int32) (m_brooks : Int32) (m_readRow : Nat → Int32) (m_rowNow : Nat → Int32) (m_frogOn : Nat → Int32) (m_frogs : Int32) (m_kindOf : Nat → Int32) (m_moved : Int32) (m_movedFrom : Nat → Int32) (m_movedTo : Nat → Int32) (m_pageLength : Int32) (m_page : Nat → Int32) (m_faultAt : Int32) (m_isWhole : Int32) (m_newMany : Int32) (m_newSigns : Int32) (m_newRow : Nat → Int32) (m_long0 : Int32) (m_row : Nat → Int32) (m_far : Nat → Int32) (m_ways : Nat → Int64) (m_queue : Nat → Int32) (m_queueEnd : Int32) (m_endMany : Int32) (m_endSoon : Int32) (m_won : Nat → Int32) (m_seedNow : Int64) (m_isKept : Int32) (m_keptBrook : Int32) (m_keptMoved : Int32) (m_keptRow : Nat → Int32) (m_keptFrog : Nat → Int32) (m_keptFrom : Nat → Int32) (m_keptTo : Nat → Int32) (m_h : Int64) : va_W := [ob (a b) 7 [.int m_stones, .int m_any, .int m_backward, .int m_ring, .int m_two, .int m_brooks, .ref (a (b + 1)), .ref (a (b + 2)), .ref (a (b + 3)), .int m_frogs, .ref (a (b + 4)), .int m_moved, .ref (a (b + 5)), .ref (a (b + 6)), .int m_pageLength, .ref (a (b + 7)), .int m_faultAt, .int m_isWhole, .int m_newMany, .int m_newSigns, .ref (a (b + 8)), .int m_long0, .ref (a (b + 9)), .ref (a (b + 10)), .ref (a (b + 11)), .ref (a (b + 12)), .int m_queueEnd, .int m_endMany, .int m_endSoon, .ref (a (b + 13)), .long m_seedNow, .int m_isKept, .int m_keptBrook, .int m_keptMoved, .ref (a (b + 14)), .ref (a (b + 15)), .ref (a (b + 16)), .ref (a (b + 17)), .long m_h], ia E (a (b + 1)) 7 m_readRow, ia E (a (b + 2)) 7 m_rowNow, ia E (a (b + 3)) 7 m_frogOn, ia E (a (b + 4)) 7 m_kindOf, ia E (a (b + 5)) 60 m_movedFrom, ia E (a (b + 6)) 60 m_movedTo, ba E (a (b + 7)) 14 m_page, ia E (a (b + 8)) 7 m_newRow, ia E (a (b + 9)) 7 m_row, ia E (a (b + 10)) 78125 m_far, ja E (a (b + 11)) 78125 m_ways, ia E (a (b + 12)) 78125 m_queue, ba E (a (b + 13)) 78125 m_won, ia E (a (b + 14)) 7 m_keptRow, ia E (a (b + 15)) 7 m_keptFrog, ia E (a (b + 16)) 60 m_keptFrom, ia E (a (b + 17)) 60 m_keptTo]
abbrev wRS (E : En) (a : Nat → Nat) (c b : Nat) (ru_stones : Int32) (ru_signs : Int32) (ru_any : Int32) (ru_back : Int32) (ru_ring : Int32) (ru_two : Int32) (table_slots : Nat → Int32) (table_rows : Nat → Int32) (table_size : Int32) (depths : Nat → Int32) (ways : Nat → Int32) (stuckRows : Int32) (soonestStuck : Int32) : va_W := wRules E a c ru_stones ru_signs ru_any ru_back ru_ring ru_two ++ (wSearch E a b table_slots table_rows table_size depths ways stuckRows soonestStuck)
abbrev wRG (E : En) (a : Nat → Nat) (c b : Nat) (ru_stones : Int32) (ru_signs : Int32) (ru_any : Int32) (ru_back : Int32) (ru_ring : Int32) (ru_two : Int32) (table_slots : Nat → Int32) (table_rows : Nat → Int32) (table_size : Int32) (known : Nat → Int32) : va_W := wRules E a c ru_stones ru_signs ru_any ru_back ru_ring ru_two ++ (wGame E a b table_slots table_rows table_size known)
abbrev wPos2 (E : En) (a : Nat → Nat) (b c : Nat) (made : Nat → Int32) (movers : Nat → Int32) (row : Int32) (numbers : Int32) (size : Int32) (o_made : Nat → Int32) (o_movers : Nat → Int32) (o_row : Int32) (o_numbers : Int32) (o_size : Int32) : va_W := wPos E a b made movers row numbers size ++ (wPos E a c o_made o_movers o_row o_numbers o_size)
abbrev wPos2b (E : En) (a : Nat → Nat) (c b : Nat) (o_made : Nat → Int32) (o_movers : Nat → Int32) (o_row : Int32) (o_numbers : Int32) (o_size : Int32) (made : Nat → Int32) (movers : Nat → Int32) (row : Int32) (numbers : Int32) (size : Int32) : va_W := wPos E a c o_made o_movers o_row o_numbers o_size ++ (wPos E a b made movers row numbers size)
abbrev wX (E : En) (a : Nat → Nat) (b : Nat) (page_codes : Nat → Int32) (page_size : Int32) (rules_stones : Int32) (rules_signs : Int32) (rules_any : Int32) (rules_back : Int32) (rules_ring : Int32) (rules_two : Int32) (otherRules_stones : Int32) (otherRules_signs : Int32) (otherRules_any : Int32) (otherRules_back : Int32) (otherRules_ring : Int32) (otherRules_two : Int32) (now_made : Nat → Int32) (now_movers : Nat → Int32) (now_row : Int32) (now_numbers : Int32) (now_size : Int32) (kept_made : Nat → Int32) (kept_movers : Nat → Int32) (kept_row : Int32) (kept_numbers : Int32) (kept_size : Int32) (toGoal_table_slots : Nat → Int32) (toGoal_table_rows : Nat → Int32) (toGoal_table_size : Int32) (toGoal_depths : Nat → Int32) (toGoal_ways : Nat → Int32) (toGoal_stuckRows : Int32) (toGoal_soonestStuck : Int32) (afresh_table_slots : Nat → Int32) (afresh_table_rows : Nat → Int32) (afresh_table_size : Int32) (afresh_depths : Nat → Int32) (afresh_ways : Nat → Int32) (afresh_stuckRows : Int32) (afresh_soonestStuck : Int32) (game_table_slots : Nat → Int32) (game_table_rows : Nat → Int32) (game_table_size : Int32) (game_known : Nat → Int32) (readRow : Int32) (goalRow : Int32) (frogs : Int32) (timesRead : Int32) (hasImage : Int32) : va_W := [ob (a b) 6 [.ref (a (b + 1)), .ref (a (b + 3)), .ref (a (b + 4)), .ref (a (b + 5)), .ref (a (b + 8)), .ref (a (b + 11)), .ref (a (b + 17)), .ref (a (b + 23)), .int readRow, .int goalRow, .int frogs, .int timesRead, .int hasImage]] ++ (wPage E a (b + 1) page_codes page_size ++ (wRules E a (b + 3) rules_stones rules_signs rules_any rules_back rules_ring rules_two ++ (wRules E a (b + 4) otherRules_stones otherRules_signs otherRules_any otherRules_back otherRules_ring otherRules_two ++ (wPos E a (b + 5) now_made now_movers now_row now_numbers now_size ++ (wPos E a (b + 8) kept_made kept_movers kept_row kept_numbers kept_size ++ (wSearch E a (b + 11) toGoal_table_slots toGoal_table_rows toGoal_table_size toGoal_depths toGoal_ways toGoal_stuckRows toGoal_soonestStuck ++ (wSearch E a (b + 17) afresh_table_slots afresh_table_rows afresh_table_size afresh_depths afresh_ways afresh_stuckRows afresh_soonestStuck ++ (wGame E a (b + 23) game_table_slots game_table_rows game_table_size game_known))))))))
theorem len_wGame {E : En} {a : Nat → Nat} {b : Nat} {table_slots : Nat → Int32} {table_rows : Nat → Int32} {table_size : Int32} {known : Nat → Int32} : (wGame E a b table_slots table_rows table_size known).length = 5 := rfl
theorem fst_wGame {E : En} {a : Nat → Nat} {b : Nat} {table_slots : Nat → Int32} {table_rows : Nat → Int32} {table_size : Int32} {known : Nat → Int32} : (wGame E a b table_slots table_rows table_size known).map (fun q => q.1) = [(a b), (a (b + 1)), (a (b + 2)), (a (b + 3)), (a (b + 4))] := rfl
theorem len_wPage {E : En} {a : Nat → Nat} {b : Nat} {codes : Nat → Int32} {size : Int32} : (wPage E a b codes size).length = 2 := rfl
theorem fst_wPage {E : En} {a : Nat → Nat} {b : Nat} {codes : Nat → Int32} {size : Int32} : (wPage E a b codes size).map (fun q => q.1) = [(a b), (a (b + 1))] := rfl
theorem len_wPos {E : En} {a : Nat → Nat} {b : Nat} {made : Nat → Int32} {movers : Nat → Int32} {row : Int32} {numbers : Int32} {size : Int32} : (wPos E a b made movers row numbers size).length = 3 := rfl
theorem fst_wPos {E : En} {a : Nat → Nat} {b : Nat} {made : Nat → Int32} {movers : Nat → Int32} {row : Int32} {numbers : Int32} {size : Int32} : (wPos E a b made movers row numbers size).map (fun q => q.1) = [(a b), (a (b + 1)), (a (b + 2))] := rfl
theorem len_wRules {E : En} {a : Nat → Nat} {b : Nat} {stones : Int32} {signs : Int32} {any : Int32} {back : Int32} {ring : Int32} {two : Int32} : (wRules E a b stones signs any back ring two).length = 1 := rfl
theorem fst_wRules {E : En} {a : Nat → Nat} {b : Nat} {stones : Int32} {signs : Int32} {any : Int32} {back : Int32} {ring : Int32} {two : Int32} : (wRules E a b stones signs any back ring two).map (fun q => q.1) = [(a b)] := rfl
theorem len_wSearch {E : En} {a : Nat → Nat} {b : Nat} {table_slots : Nat → Int32} {table_rows : Nat → Int32} {table_size : Int32} {depths : Nat → Int32} {ways : Nat → Int32} {stuckRows : Int32} {soonestStuck : Int32} : (wSearch E a b table_slots table_rows table_size depths ways stuckRows soonestStuck).length = 6 := rfl
theorem fst_wSearch {E : En} {a : Nat → Nat} {b : Nat} {table_slots : Nat → Int32} {table_rows : Nat → Int32} {table_size : Int32} {depths : Nat → Int32} {ways : Nat → Int32} {stuckRows : Int32} {soonestStuck : Int32} : (wSearch E a b table_slots table_rows table_size depths ways stuckRows soonestStuck).map (fun q => q.1) = [(a b), (a (b + 1)), (a (b + 2)), (a (b + 3)), (a (b + 4)), (a (b + 5))] := rfl
theorem mi_X3_at : Mi yX3_at cX3_at 2 (some .int) 2 := ⟨kc_X3_at, kn_X3, by decide +kernel⟩
theorem mi_X3_moved : Mi yX3_moved cX3_moved 5 (some .int) 2 := ⟨kc_X3_moved, kn_X3, by decide +kernel⟩
theorem mi_X3_turned : Mi yX3_turned cX3_turned 4 (some .int) 2 := ⟨kc_X3_turned, kn_X3, by decide +kernel⟩
theorem mi_X3_widened : Mi yX3_widened cX3_widened 3 (some .int) 2 := ⟨kc_X3_widened, kn_X3, by decide +kernel⟩
theorem mi_X3_without : Mi yX3_without cX3_without 2 (some .int) 2 := ⟨kc_X3_without, kn_X3, by decide +kernel⟩
theorem mi_X3_freeStones : Mi yX3_freeStones cX3_freeStones 4 (some .int) 2 := ⟨kc_X3_freeStones, kn_X3, by decide +kernel⟩
theorem mi_X3_numbered : Mi yX3_numbered cX3_numbered 4 (some .int) 1 := ⟨kc_X3_numbered, kn_X3, by decide +kernel⟩
theorem mi_J13_bitCount_95d88 : Mi yJ13_bitCount_95d88 cJ13_bitCount_95d88 2 (some .int) 1 := ⟨kc_J13_bitCount_95d88, kn_J13, by decide +kernel⟩
theorem mi_X3_lowestMove : Mi yX3_lowestMove cX3_lowestMove 2 (some .int) 1 := ⟨kc_X3_lowestMove, kn_X3, by decide +kernel⟩
theorem mi_J7_fill_53178 : Mi yJ7_fill_53178 cJ7_fill_53178 4 none 2 := ⟨kc_J7_fill_53178, kn_J7, by decide +kernel⟩
theorem mi_X1_codeIn : Mi yX1_codeIn cX1_codeIn 3 (some .int) 2 := ⟨kc_X1_codeIn, kn_X1, by decide +kernel⟩
theorem mi_X1_lettersIn : Mi yX1_lettersIn cX1_lettersIn 6 (some .int) 1 := ⟨kc_X1_lettersIn, kn_X1, by decide +kernel⟩
theorem mi_X1_append : Mi yX1_append cX1_append 5 none 2 := ⟨kc_X1_append, kn_X1, by decide +kernel⟩
theorem mi_X1_kindOf : Mi yX1_kindOf cX1_kindOf 1 (some .int) 1 := ⟨kc_X1_kindOf, kn_X1, by decide +kernel⟩
theorem mi_X1_signOf : Mi yX1_signOf cX1_signOf 1 (some .int) 1 := ⟨kc_X1_signOf, kn_X1, by decide +kernel⟩
theorem mi_X1_leadingStones : Mi yX1_leadingStones cX1_leadingStones 2 (some .int) 0 := ⟨kc_X1_leadingStones, kn_X1, by decide +kernel⟩
theorem mi_X1_firstFault : Mi yX1_firstFault cX1_firstFault 5 (some .int) 0 := ⟨kc_X1_firstFault, kn_X1, by decide +kernel⟩
theorem mi_X1_row : Mi yX1_row cX1_row 4 (some .int) 0 := ⟨kc_X1_row, kn_X1, by decide +kernel⟩
theorem mi_X1_tellsBrook : Mi yX1_tellsBrook cX1_tellsBrook 3 (some .boolean) 0 := ⟨kc_X1_tellsBrook, kn_X1, by decide +kernel⟩
theorem mi_X1_tellsRow : Mi yX1_tellsRow cX1_tellsRow 2 (some .boolean) 1 := ⟨kc_X1_tellsRow, kn_X1, by decide +kernel⟩
theorem mi_X1_signs : Mi yX1_signs cX1_signs 4 (some .int) 0 := ⟨kc_X1_signs, kn_X1, by decide +kernel⟩
theorem mi_X4_has : Mi yX4_has cX4_has 2 (some .boolean) 1 := ⟨kc_X4_has, kn_X4, by decide +kernel⟩
theorem mi_X4_set : Mi yX4_set cX4_set 3 none 2 := ⟨kc_X4_set, kn_X4, by decide +kernel⟩
theorem mi_X4_beside : Mi yX4_beside cX4_beside 4 (some .int) 2 := ⟨kc_X4_beside, kn_X4, by decide +kernel⟩
theorem mi_X4_leapsOver : Mi yX4_leapsOver cX4_leapsOver 3 (some .boolean) 2 := ⟨kc_X4_leapsOver, kn_X4, by decide +kernel⟩
theorem mi_X4_landing : Mi yX4_landing cX4_landing 9 (some .int) 3 := ⟨kc_X4_landing, kn_X4, by decide +kernel⟩
theorem mi_X4_targets : Mi yX4_targets cX4_targets 7 (some .int) 3 := ⟨kc_X4_targets, kn_X4, by decide +kernel⟩
theorem mi_X4_allows : Mi yX4_allows cX4_allows 4 (some .boolean) 3 := ⟨kc_X4_allows, kn_X4, by decide +kernel⟩
theorem mi_X4_allMoves : Mi yX4_allMoves cX4_allMoves 6 (some .long) 2 := ⟨kc_X4_allMoves, kn_X4, by decide +kernel⟩
theorem mi_X2_begin : Mi yX2_begin cX2_begin 3 none 2 := ⟨kc_X2_begin, kn_X2, by decide +kernel⟩
theorem mi_X2_go : Mi yX2_go cX2_go 4 none 2 := ⟨kc_X2_go, kn_X2, by decide +kernel⟩
theorem mi_X2_takeBack : Mi yX2_takeBack cX2_takeBack 3 (some .int) 0 := ⟨kc_X2_takeBack, kn_X2, by decide +kernel⟩
theorem mi_X2_stoneOf : Mi yX2_stoneOf cX2_stoneOf 3 (some .int) 1 := ⟨kc_X2_stoneOf, kn_X2, by decide +kernel⟩
theorem mi_X2_timesMoved : Mi yX2_timesMoved cX2_timesMoved 4 (some .int) 1 := ⟨kc_X2_timesMoved, kn_X2, by decide +kernel⟩
theorem mi_X2_copy : Mi yX2_copy cX2_copy 3 none 1 := ⟨kc_X2_copy, kn_X2, by decide +kernel⟩
theorem mi_X6_clear : Mi yX6_clear cX6_clear 1 none 0 := ⟨kc_X6_clear, kn_X6, by decide +kernel⟩
theorem mi_X6_slotOf : Mi yX6_slotOf cX6_slotOf 5 (some .int) 1 := ⟨kc_X6_slotOf, kn_X6, by decide +kernel⟩
theorem mi_X6_find : Mi yX6_find cX6_find 2 (some .int) 1 := ⟨kc_X6_find, kn_X6, by decide +kernel⟩
theorem mi_X6_meet : Mi yX6_meet cX6_meet 3 (some .int) 1 := ⟨kc_X6_meet, kn_X6, by decide +kernel⟩
theorem mi_X5_noteStuck : Mi yX5_noteStuck cX5_noteStuck 2 none 1 := ⟨kc_X5_noteStuck, kn_X5, by decide +kernel⟩
theorem mi_X5_goOn : Mi yX5_goOn cX5_goOn 12 none 2 := ⟨kc_X5_goOn, kn_X5, by decide +kernel⟩
theorem mi_X5_spread : Mi yX5_spread cX5_spread 10 (some .int) 4 := ⟨kc_X5_spread, kn_X5, by decide +kernel⟩
theorem mi_X5_depthOf : Mi yX5_depthOf cX5_depthOf 3 (some .int) 1 := ⟨kc_X5_depthOf, kn_X5, by decide +kernel⟩
theorem mi_X5_waysOf : Mi yX5_waysOf cX5_waysOf 3 (some .int) 1 := ⟨kc_X5_waysOf, kn_X5, by decide +kernel⟩
theorem mi_X0_forget : Mi yX0_forget cX0_forget 1 none 0 := ⟨kc_X0_forget, kn_X0, by decide +kernel⟩
theorem mi_X8_within : Mi yX8_within cX8_within 3 (some .boolean) 3 := ⟨kc_X8_within, kn_X8, by decide +kernel⟩
theorem mi_X8_letters : Mi yX8_letters cX8_letters 7 (some .int) 1 := ⟨kc_X8_letters, kn_X8, by decide +kernel⟩
theorem mi_X8_blank : Mi yX8_blank cX8_blank 2 (some .int) 0 := ⟨kc_X8_blank, kn_X8, by decide +kernel⟩
theorem mi_X8_kindBy : Mi yX8_kindBy cX8_kindBy 1 (some .int) 1 := ⟨kc_X8_kindBy, kn_X8, by decide +kernel⟩
theorem mi_X8_signBy : Mi yX8_signBy cX8_signBy 1 (some .int) 1 := ⟨kc_X8_signBy, kn_X8, by decide +kernel⟩
theorem mi_X8_readBrook : Mi yX8_readBrook cX8_readBrook 6 none 0 := ⟨kc_X8_readBrook, kn_X8, by decide +kernel⟩
theorem mi_X8_fault : Mi yX8_fault cX8_fault 1 (some .int) 0 := ⟨kc_X8_fault, kn_X8, by decide +kernel⟩
theorem mi_X8_brook : Mi yX8_brook cX8_brook 2 (some .int) 0 := ⟨kc_X8_brook, kn_X8, by decide +kernel⟩
theorem mi_X8_isStone : Mi yX8_isStone cX8_isStone 2 (some .boolean) 1 := ⟨kc_X8_isStone, kn_X8, by decide +kernel⟩
theorem mi_X8_on : Mi yX8_on cX8_on 2 (some .int) 1 := ⟨kc_X8_on, kn_X8, by decide +kernel⟩
theorem mi_X8_frog : Mi yX8_frog cX8_frog 2 (some .int) 1 := ⟨kc_X8_frog, kn_X8, by decide +kernel⟩
theorem mi_X8_stoneOf : Mi yX8_stoneOf cX8_stoneOf 3 (some .int) 1 := ⟨kc_X8_stoneOf, kn_X8, by decide +kernel⟩
theorem mi_X8_movedMany : Mi yX8_movedMany cX8_movedMany 5 (some .int) 1 := ⟨kc_X8_movedMany, kn_X8, by decide +kernel⟩
theorem mi_X8_frogNow : Mi yX8_frogNow cX8_frogNow 3 (some .int) 2 := ⟨kc_X8_frogNow, kn_X8, by decide +kernel⟩
theorem mi_X8_about : Mi yX8_about cX8_about 3 (some .int) 2 := ⟨kc_X8_about, kn_X8, by decide +kernel⟩
theorem mi_X8_as : Mi yX8_as cX8_as 4 (some .int) 2 := ⟨kc_X8_as, kn_X8, by decide +kernel⟩
theorem mi_X8_besides : Mi yX8_besides cX8_besides 4 (some .int) 2 := ⟨kc_X8_besides, kn_X8, by decide +kernel⟩
theorem mi_X8_colour : Mi yX8_colour cX8_colour 1 (some .int) 1 := ⟨kc_X8_colour, kn_X8, by decide +kernel⟩
theorem mi_X8_mayOver : Mi yX8_mayOver cX8_mayOver 3 (some .boolean) 2 := ⟨kc_X8_mayOver, kn_X8, by decide +kernel⟩
theorem mi_X8_mayWay : Mi yX8_mayWay cX8_mayWay 8 (some .boolean) 3 := ⟨kc_X8_mayWay, kn_X8, by decide +kernel⟩
theorem mi_X8_mayMove : Mi yX8_mayMove cX8_mayMove 5 (some .boolean) 2 := ⟨kc_X8_mayMove, kn_X8, by decide +kernel⟩
theorem mi_X8_layNow : Mi yX8_layNow cX8_layNow 2 none 0 := ⟨kc_X8_layNow, kn_X8, by decide +kernel⟩
theorem mi_X8_may : Mi yX8_may cX8_may 3 (some .int) 2 := ⟨kc_X8_may, kn_X8, by decide +kernel⟩
theorem mi_X8_moveMany : Mi yX8_moveMany cX8_moveMany 4 (some .int) 0 := ⟨kc_X8_moveMany, kn_X8, by decide +kernel⟩
theorem mi_X8_moves : Mi yX8_moves cX8_moves 1 (some .int) 0 := ⟨kc_X8_moves, kn_X8, by decide +kernel⟩
theorem mi_X8_moveNow : Mi yX8_moveNow cX8_moveNow 3 none 2 := ⟨kc_X8_moveNow, kn_X8, by decide +kernel⟩
theorem mi_X8_move : Mi yX8_move cX8_move 3 (some .int) 2 := ⟨kc_X8_move, kn_X8, by decide +kernel⟩
theorem mi_X8_back : Mi yX8_back cX8_back 1 (some .int) 0 := ⟨kc_X8_back, kn_X8, by decide +kernel⟩
theorem mi_X8_power : Mi yX8_power cX8_power 3 (some .int) 1 := ⟨kc_X8_power, kn_X8, by decide +kernel⟩
theorem mi_X8_codeOf : Mi yX8_codeOf cX8_codeOf 3 (some .int) 0 := ⟨kc_X8_codeOf, kn_X8, by decide +kernel⟩
theorem mi_X8_turnedCode : Mi yX8_turnedCode cX8_turnedCode 3 (some .int) 0 := ⟨kc_X8_turnedCode, kn_X8, by decide +kernel⟩
theorem mi_X8_layRow : Mi yX8_layRow cX8_layRow 4 none 1 := ⟨kc_X8_layRow, kn_X8, by decide +kernel⟩
theorem mi_X8_behindMove : Mi yX8_behindMove cX8_behindMove 4 (some .int) 4 := ⟨kc_X8_behindMove, kn_X8, by decide +kernel⟩
theorem mi_X8_come : Mi yX8_come cX8_come 3 none 2 := ⟨kc_X8_come, kn_X8, by decide +kernel⟩
theorem mi_X8_layFar : Mi yX8_layFar cX8_layFar 5 none 0 := ⟨kc_X8_layFar, kn_X8, by decide +kernel⟩
theorem mi_X8_layRead : Mi yX8_layRead cX8_layRead 2 none 0 := ⟨kc_X8_layRead, kn_X8, by decide +kernel⟩
theorem mi_X8_goal : Mi yX8_goal cX8_goal 1 (some .int) 0 := ⟨kc_X8_goal, kn_X8, by decide +kernel⟩
theorem mi_X8_farTo : Mi yX8_farTo cX8_farTo 2 (some .int) 1 := ⟨kc_X8_farTo, kn_X8, by decide +kernel⟩
theorem mi_X8_fewestNow : Mi yX8_fewestNow cX8_fewestNow 7 (some .int) 1 := ⟨kc_X8_fewestNow, kn_X8, by decide +kernel⟩
theorem mi_X8_fewest : Mi yX8_fewest cX8_fewest 2 (some .int) 1 := ⟨kc_X8_fewest, kn_X8, by decide +kernel⟩
theorem mi_X8_waysNow : Mi yX8_waysNow cX8_waysNow 2 (some .int) 0 := ⟨kc_X8_waysNow, kn_X8, by decide +kernel⟩
theorem mi_X8_ways : Mi yX8_ways cX8_ways 1 (some .int) 0 := ⟨kc_X8_ways, kn_X8, by decide +kernel⟩
theorem mi_X8_wrongNow : Mi yX8_wrongNow cX8_wrongNow 4 (some .int) 0 := ⟨kc_X8_wrongNow, kn_X8, by decide +kernel⟩
theorem mi_X8_wrong : Mi yX8_wrong cX8_wrong 1 (some .int) 0 := ⟨kc_X8_wrong, kn_X8, by decide +kernel⟩
theorem mi_X8_layEnds : Mi yX8_layEnds cX8_layEnds 2 none 0 := ⟨kc_X8_layEnds, kn_X8, by decide +kernel⟩
theorem mi_X8_ends : Mi yX8_ends cX8_ends 1 (some .int) 0 := ⟨kc_X8_ends, kn_X8, by decide +kernel⟩
theorem mi_X8_soon : Mi yX8_soon cX8_soon 1 (some .int) 0 := ⟨kc_X8_soon, kn_X8, by decide +kernel⟩
theorem mi_X8_comes : Mi yX8_comes cX8_comes 3 (some .int) 0 := ⟨kc_X8_comes, kn_X8, by decide +kernel⟩
theorem mi_X8_turns : Mi yX8_turns cX8_turns 1 (some .int) 0 := ⟨kc_X8_turns, kn_X8, by decide +kernel⟩
theorem mi_X8_moreNow : Mi yX8_moreNow cX8_moreNow 6 (some .int) 1 := ⟨kc_X8_moreNow, kn_X8, by decide +kernel⟩
theorem mi_X8_more : Mi yX8_more cX8_more 2 (some .int) 1 := ⟨kc_X8_more, kn_X8, by decide +kernel⟩
theorem mi_X8_offNow : Mi yX8_offNow cX8_offNow 7 (some .int) 1 := ⟨kc_X8_offNow, kn_X8, by decide +kernel⟩
theorem mi_X8_off : Mi yX8_off cX8_off 2 (some .int) 1 := ⟨kc_X8_off, kn_X8, by decide +kernel⟩
theorem mi_X8_isOf : Mi yX8_isOf cX8_isOf 3 (some .boolean) 2 := ⟨kc_X8_isOf, kn_X8, by decide +kernel⟩
theorem mi_X8_progress : Mi yX8_progress cX8_progress 6 (some .int) 1 := ⟨kc_X8_progress, kn_X8, by decide +kernel⟩
theorem mi_X8_winsBy : Mi yX8_winsBy cX8_winsBy 5 (some .boolean) 2 := ⟨kc_X8_winsBy, kn_X8, by decide +kernel⟩
theorem mi_X8_layGame : Mi yX8_layGame cX8_layGame 6 none 0 := ⟨kc_X8_layGame, kn_X8, by decide +kernel⟩
theorem mi_X8_winsNow : Mi yX8_winsNow cX8_winsNow 2 (some .int) 1 := ⟨kc_X8_winsNow, kn_X8, by decide +kernel⟩
theorem mi_X8_isGame : Mi yX8_isGame cX8_isGame 1 (some .boolean) 0 := ⟨kc_X8_isGame, kn_X8, by decide +kernel⟩
theorem mi_X8_wins : Mi yX8_wins cX8_wins 2 (some .int) 1 := ⟨kc_X8_wins, kn_X8, by decide +kernel⟩
theorem mi_X8_byNow : Mi yX8_byNow cX8_byNow 6 (some .int) 2 := ⟨kc_X8_byNow, kn_X8, by decide +kernel⟩
theorem mi_X8_by : Mi yX8_by cX8_by 3 (some .int) 2 := ⟨kc_X8_by, kn_X8, by decide +kernel⟩
theorem mi_X8_draw : Mi yX8_draw cX8_draw 2 (some .int) 1 := ⟨kc_X8_draw, kn_X8, by decide +kernel⟩
theorem mi_X8_goMove : Mi yX8_goMove cX8_goMove 5 none 1 := ⟨kc_X8_goMove, kn_X8, by decide +kernel⟩
theorem mi_X8_playNow : Mi yX8_playNow cX8_playNow 8 (some .int) 3 := ⟨kc_X8_playNow, kn_X8, by decide +kernel⟩
theorem mi_X8_play : Mi yX8_play cX8_play 4 (some .int) 3 := ⟨kc_X8_play, kn_X8, by decide +kernel⟩
theorem mi_X8_image : Mi yX8_image cX8_image 2 (some .int) 0 := ⟨kc_X8_image, kn_X8, by decide +kernel⟩
theorem mi_X8_restore : Mi yX8_restore cX8_restore 2 (some .int) 0 := ⟨kc_X8_restore, kn_X8, by decide +kernel⟩
theorem mi_X8_one : Mi yX8_one cX8_one 1 (some .int) 1 := ⟨kc_X8_one, kn_X8, by decide +kernel⟩
theorem mi_X8_howMany : Mi yX8_howMany cX8_howMany 2 (some .int) 1 := ⟨kc_X8_howMany, kn_X8, by decide +kernel⟩
theorem mi_X8_count : Mi yX8_count cX8_count 2 (some .int) 1 := ⟨kc_X8_count, kn_X8, by decide +kernel⟩
theorem mi_X8_mix : Mi yX8_mix cX8_mix 3 none 1 := ⟨kc_X8_mix, kn_X8, by decide +kernel⟩
theorem mi_X8_mixBrook : Mi yX8_mixBrook cX8_mixBrook 2 none 0 := ⟨kc_X8_mixBrook, kn_X8, by decide +kernel⟩
theorem mi_X8_digest : Mi yX8_digest cX8_digest 3 (some .long) 0 := ⟨kc_X8_digest, kn_X8, by decide +kernel⟩
theorem mi_X0_hasIt : Mi yX0_hasIt cX0_hasIt 8 (some .boolean) 4 := ⟨kc_X0_hasIt, kn_X0, by decide +kernel⟩
theorem mi_X0_winningMove : Mi yX0_winningMove cX0_winningMove 11 (some .int) 4 := ⟨kc_X0_winningMove, kn_X0, by decide +kernel⟩
theorem mi_X7_hasBrook : Mi yX7_hasBrook cX7_hasBrook 1 (some .boolean) 0 := ⟨kc_X7_hasBrook, kn_X7, by decide +kernel⟩
theorem mi_X7_hasGame : Mi yX7_hasGame cX7_hasGame 1 (some .boolean) 0 := ⟨kc_X7_hasGame, kn_X7, by decide +kernel⟩
theorem mi_X7_isStone : Mi yX7_isStone cX7_isStone 2 (some .boolean) 1 := ⟨kc_X7_isStone, kn_X7, by decide +kernel⟩
theorem mi_X7_isFrog : Mi yX7_isFrog cX7_isFrog 2 (some .boolean) 1 := ⟨kc_X7_isFrog, kn_X7, by decide +kernel⟩
theorem mi_X7_kindOfFrog : Mi yX7_kindOfFrog cX7_kindOfFrog 2 (some .int) 1 := ⟨kc_X7_kindOfFrog, kn_X7, by decide +kernel⟩
theorem mi_X7_partOfMove : Mi yX7_partOfMove cX7_partOfMove 2 (some .int) 2 := ⟨kc_X7_partOfMove, kn_X7, by decide +kernel⟩
theorem mi_X7_firstOfFewest : Mi yX7_firstOfFewest cX7_firstOfFewest 7 (some .int) 0 := ⟨kc_X7_firstOfFewest, kn_X7, by decide +kernel⟩
theorem mi_X7_firstWrong : Mi yX7_firstWrong cX7_firstWrong 3 (some .int) 0 := ⟨kc_X7_firstWrong, kn_X7, by decide +kernel⟩
theorem mi_X7_toTurnRound : Mi yX7_toTurnRound cX7_toTurnRound 3 (some .int) 2 := ⟨kc_X7_toTurnRound, kn_X7, by decide +kernel⟩
theorem mi_X7_isLess : Mi yX7_isLess cX7_isLess 2 (some .boolean) 2 := ⟨kc_X7_isLess, kn_X7, by decide +kernel⟩
theorem mi_X7_seedAfter : Mi yX7_seedAfter cX7_seedAfter 1 (some .int) 1 := ⟨kc_X7_seedAfter, kn_X7, by decide +kernel⟩
theorem mi_X7_drawOf : Mi yX7_drawOf cX7_drawOf 2 (some .int) 2 := ⟨kc_X7_drawOf, kn_X7, by decide +kernel⟩
theorem mi_X7_moveOfNumber : Mi yX7_moveOfNumber cX7_moveOfNumber 6 (some .int) 2 := ⟨kc_X7_moveOfNumber, kn_X7, by decide +kernel⟩
theorem mi_X7_letters : Mi yX7_letters cX7_letters 4 (some .int) 1 := ⟨kc_X7_letters, kn_X7, by decide +kernel⟩
theorem mi_X7_blank : Mi yX7_blank cX7_blank 2 (some .int) 0 := ⟨kc_X7_blank, kn_X7, by decide +kernel⟩
theorem mi_X7_fault : Mi yX7_fault cX7_fault 1 (some .int) 0 := ⟨kc_X7_fault, kn_X7, by decide +kernel⟩
theorem mi_X7_brook : Mi yX7_brook cX7_brook 1 (some .int) 0 := ⟨kc_X7_brook, kn_X7, by decide +kernel⟩
theorem mi_X7_on : Mi yX7_on cX7_on 3 (some .int) 1 := ⟨kc_X7_on, kn_X7, by decide +kernel⟩
theorem mi_X7_frog : Mi yX7_frog cX7_frog 2 (some .int) 1 := ⟨kc_X7_frog, kn_X7, by decide +kernel⟩
theorem mi_X7_about : Mi yX7_about cX7_about 3 (some .int) 2 := ⟨kc_X7_about, kn_X7, by decide +kernel⟩
theorem mi_X7_as : Mi yX7_as cX7_as 5 (some .int) 2 := ⟨kc_X7_as, kn_X7, by decide +kernel⟩
theorem mi_X7_may : Mi yX7_may cX7_may 3 (some .int) 2 := ⟨kc_X7_may, kn_X7, by decide +kernel⟩
theorem mi_X7_moves : Mi yX7_moves cX7_moves 1 (some .int) 0 := ⟨kc_X7_moves, kn_X7, by decide +kernel⟩
theorem mi_X7_move : Mi yX7_move cX7_move 3 (some .int) 2 := ⟨kc_X7_move, kn_X7, by decide +kernel⟩
theorem mi_X7_back : Mi yX7_back cX7_back 1 (some .int) 0 := ⟨kc_X7_back, kn_X7, by decide +kernel⟩
theorem mi_X7_fewest : Mi yX7_fewest cX7_fewest 2 (some .int) 1 := ⟨kc_X7_fewest, kn_X7, by decide +kernel⟩
theorem mi_X7_ways : Mi yX7_ways cX7_ways 1 (some .int) 0 := ⟨kc_X7_ways, kn_X7, by decide +kernel⟩
theorem mi_X7_wrong : Mi yX7_wrong cX7_wrong 1 (some .int) 0 := ⟨kc_X7_wrong, kn_X7, by decide +kernel⟩
theorem mi_X7_ends : Mi yX7_ends cX7_ends 1 (some .int) 0 := ⟨kc_X7_ends, kn_X7, by decide +kernel⟩
theorem mi_X7_soon : Mi yX7_soon cX7_soon 1 (some .int) 0 := ⟨kc_X7_soon, kn_X7, by decide +kernel⟩
theorem mi_X7_comes : Mi yX7_comes cX7_comes 1 (some .int) 0 := ⟨kc_X7_comes, kn_X7, by decide +kernel⟩
theorem mi_X7_more : Mi yX7_more cX7_more 6 (some .int) 1 := ⟨kc_X7_more, kn_X7, by decide +kernel⟩
theorem mi_X7_off : Mi yX7_off cX7_off 8 (some .int) 1 := ⟨kc_X7_off, kn_X7, by decide +kernel⟩
theorem mi_X7_play : Mi yX7_play cX7_play 10 (some .int) 3 := ⟨kc_X7_play, kn_X7, by decide +kernel⟩
theorem mi_X7_image : Mi yX7_image cX7_image 1 (some .int) 0 := ⟨kc_X7_image, kn_X7, by decide +kernel⟩
theorem mi_X7_restore : Mi yX7_restore cX7_restore 1 (some .int) 0 := ⟨kc_X7_restore, kn_X7, by decide +kernel⟩
theorem mi_X7_count : Mi yX7_count cX7_count 2 (some .int) 1 := ⟨kc_X7_count, kn_X7, by decide +kernel⟩
theorem mi_X7_wins : Mi yX7_wins cX7_wins 2 (some .int) 1 := ⟨kc_X7_wins, kn_X7, by decide +kernel⟩
theorem mi_X7_by : Mi yX7_by cX7_by 3 (some .int) 2 := ⟨kc_X7_by, kn_X7, by decide +kernel⟩
theorem mi_X7_digest : Mi yX7_digest cX7_digest 5 (some .long) 0 := ⟨kc_X7_digest, kn_X7, by decide +kernel⟩
