/-! ===== pure rows: numbers as the code has them ===== -/
theorem z_ix {k n : Nat} (h : k < n) (hn : n < 2147483648) : ht_ix (nI k) n = true := by
  have h1 : ¬ nI k < 0 := nI_pos (by omega)
  have h2 : ¬ n ≤ (nI k).toNatClampNeg := by rw [nI_clamp (by omega)]; omega
  simp [ht_ix, h1, h2]
theorem z_gd {β : Type} {c : Bool} {k : Option β} (h : c = true) : ht_gd c k = k := by subst h; rfl
theorem z_bn {α β : Type} {o : Option α} {a : α} {k : α → Option β} (h : o = some a) : ht_bn o k = k a := by subst h; rfl
theorem z_nm {α β : Type} (e : α) (k : α → β) : ht_nm e k = k e := rfl
theorem z_eqI {x y : Int32} (h : x.toInt = y.toInt) : x = y := Int32.toInt_inj.mp h
theorem z_leI {x y : Int32} : x ≤ y ↔ x.toInt ≤ y.toInt := Int32.le_iff_toInt_le
theorem z_ltI {x y : Int32} : x < y ↔ x.toInt < y.toInt := Int32.lt_iff_toInt_lt
theorem z_ti {n : Nat} (h : n < 1073741824) : (nI n).toInt = (n : Int) := nI_toInt (by omega)
theorem z_subT {a b : Nat} (ha : a < 1073741824) (hb : b < 1073741824) : (nI a - nI b).toInt = (a : Int) - b := by
  rw [fb_subI] <;> rw [z_ti ha, z_ti hb] <;> omega
theorem z_sub {a b : Nat} (h : b ≤ a) : nI a - nI b = nI (a - b) := pk_sub h
theorem z_max0 {a b : Nat} (ha : a < 1073741824) (hb : b < 1073741824) : (if (0 : Int32) < nI a - nI b then nI a - nI b else (0 : Int32)) = nI (a - b) := by
  by_cases h : b < a
  · rw [if_pos (by rw [z_ltI, z_subT ha hb]; simp; omega), z_sub (by omega)]
  · rw [if_neg (by rw [z_ltI, z_subT ha hb]; simp; omega), show a - b = 0 by omega]; rfl
theorem z_grow {a u d : Nat} (ha : a < 100000000) (hu : u < 100000000) (hd : d < 100000000) : (nI a + (nI u - nI d)).toInt = (a : Int) + u - d := by
  have h1 := z_subT (a := u) (b := d) (by omega) (by omega)
  rw [fb_addI] <;> rw [z_ti (by omega), h1] <;> omega
theorem z_growM {a u d : Nat} (ha : a < 100000000) (hu : u < 100000000) (hd : d < 100000000) : (if (0 : Int32) < nI a + (nI u - nI d) then nI a + (nI u - nI d) else (0 : Int32)) = nI (a + u - d) := by
  by_cases h : d < a + u
  · rw [if_pos (by rw [z_ltI, z_grow ha hu hd]; simp; omega)]
    refine z_eqI ?_
    rw [z_grow ha hu hd, z_ti (by omega)]; omega
  · rw [if_neg (by rw [z_ltI, z_grow ha hu hd]; simp; omega), show a + u - d = 0 by omega]; rfl
theorem z_lt {a b : Nat} (ha : a < 1073741824) (hb : b < 1073741824) : nI a < nI b ↔ a < b := nI_ltI (by omega) (by omega)
theorem z_le {a b : Nat} (ha : a < 1073741824) (hb : b < 1073741824) : nI a ≤ nI b ↔ a ≤ b := nI_leI (by omega) (by omega)
theorem z_eq {a b : Nat} (ha : a < 1073741824) (hb : b < 1073741824) : nI a = nI b ↔ a = b := nI_eq (by omega) (by omega)
theorem z_neL {a b : Nat} {c : Int32} (hc : c = nI b) (h : ¬ a = b) (ha : a < 1073741824) (hb : b < 1073741824) : ¬ nI a = c := fun q => h ((z_eq ha hb).mp (q.trans hc))
theorem z_min {a b : Nat} (ha : a < 1073741824) (hb : b < 1073741824) : (if nI a < nI b then nI a else nI b) = nI (min a b) := by
  by_cases h : a < b
  · rw [if_pos ((z_lt ha hb).mpr h), Nat.min_eq_left (by omega)]
  · rw [if_neg (fun q => h ((z_lt ha hb).mp q)), Nat.min_eq_right (by omega)]
theorem z_least {a b : Nat} (ha : a < 1073741824) (hb : b < 1073741824) : fX9_least (nI a) (nI b) = some (nI (min a b)) := by
  unfold fX9_least
  by_cases h : b ≤ a
  · rw [if_pos ((z_le hb ha).mpr h), Nat.min_eq_right h]
  · rw [if_neg (fun q => h ((z_le hb ha).mp q)), Nat.min_eq_left (by omega)]
theorem z_greatest {a b : Nat} (ha : a < 1073741824) (hb : b < 1073741824) : fX9_greatest (nI a) (nI b) = some (nI (max a b)) := by
  unfold fX9_greatest
  by_cases h : a ≤ b
  · rw [if_pos ((z_le ha hb).mpr h), Nat.max_eq_right h]
  · rw [if_neg (fun q => h ((z_le ha hb).mp q)), Nat.max_eq_left (by omega)]
theorem z_greatest0 {a b : Nat} (ha : a < 1073741824) (hb : b < 1073741824) : fX9_greatest (0 : Int32) (nI a - nI b) = some (nI (a - b)) := by
  unfold fX9_greatest
  by_cases h : b ≤ a
  · rw [if_pos (by rw [z_leI, z_subT ha hb]; simp; omega), z_sub h]
  · rw [if_neg (by rw [z_leI, z_subT ha hb]; simp; omega), show a - b = 0 by omega]; rfl
theorem z_greatestG {a u d : Nat} (ha : a < 100000000) (hu : u < 100000000) (hd : d < 100000000) : fX9_greatest (0 : Int32) (nI a + (nI u - nI d)) = some (nI (a + u - d)) := by
  unfold fX9_greatest
  by_cases h : d ≤ a + u
  · rw [if_pos (by rw [z_leI, z_grow ha hu hd]; simp; omega)]
    refine congrArg some (z_eqI ?_)
    rw [z_grow ha hu hd, z_ti (by omega)]; omega
  · rw [if_neg (by rw [z_leI, z_grow ha hu hd]; simp; omega), show a + u - d = 0 by omega]; rfl
theorem z_add (a b : Nat) : nI a + nI b = nI (a + b) := nI_add a b
theorem z_mul (a b : Nat) : nI a * nI b = nI (a * b) := pk_mul a b
theorem z_div {a d : Nat} (ha : a < 1073741824) (h0 : 0 < d) (hd : d < 1073741824) : nI a / nI d = nI (a / d) := pk_div (by omega) h0 (by omega)
theorem z_rem {a d : Nat} (ha : a < 1073741824) (h0 : 0 < d) (hd : d < 1073741824) : nI a - nI a / nI d * nI d = nI (a % d) := pk_rem (by omega) h0 (by omega)
theorem z_at (o w : Nat) : ((9 : Int32) + ((6 : Int32) * nI o)) + nI w = nI (9 + 6 * o + w) := by
  rw [show (9 : Int32) = nI 9 from rfl, show (6 : Int32) = nI 6 from rfl, z_mul, z_add, z_add]
theorem z_at0 (o : Nat) : (9 : Int32) + ((6 : Int32) * nI o) = nI (9 + 6 * o) := by
  rw [show (9 : Int32) = nI 9 from rfl, show (6 : Int32) = nI 6 from rfl, z_mul, z_add]
theorem z_cl {n : Nat} (h : n < 1073741824) : (nI n).toNatClampNeg = n := nI_clamp (by omega)
theorem z_its {RM : ModV} {o w : Nat} (h : 9 + 6 * o + w < 57) : fX9_its RM (nI o) (nI w) = some (RM.s (9 + 6 * o + w)) := by
  unfold fX9_its
  rw [z_at, z_gd (z_ix h (by omega)), z_cl (by omega)]
/-! ===== a town in plain numbers ===== -/
abbrev Tn : Type := Nat × (Nat → Nat) × (Nat → Nat) × (Nat → Nat) × (Nat → Nat) × (Nat → Nat) × (Nat → Nat) × (Nat → Nat) × Nat × Nat × Nat × Int32
abbrev Tn.n (A : Tn) : Nat := A.1
abbrev Tn.law (A : Tn) : Nat → Nat := A.2.1
abbrev Tn.kd (A : Tn) : Nat → Nat := A.2.2.1
abbrev Tn.nd (A : Tn) : Nat → Nat := A.2.2.2.1
abbrev Tn.sv (A : Tn) : Nat → Nat := A.2.2.2.2.1
abbrev Tn.vc (A : Tn) : Nat → Nat := A.2.2.2.2.2.1
abbrev Tn.pr (A : Tn) : Nat → Nat := A.2.2.2.2.2.2.1
abbrev Tn.sp (A : Tn) : Nat → Nat := A.2.2.2.2.2.2.2.1
abbrev Tn.day (A : Tn) : Nat := A.2.2.2.2.2.2.2.2.1
abbrev Tn.hrd (A : Tn) : Nat := A.2.2.2.2.2.2.2.2.2.1
abbrev Tn.gs (A : Tn) : Nat := A.2.2.2.2.2.2.2.2.2.2.1
abbrev Tn.z (A : Tn) : Int32 := A.2.2.2.2.2.2.2.2.2.2.2
/-- the class' town holds the numbers A -/
def TX (A : Tn) (T : TownV) : Prop := T.count = nI A.n ∧ T.day = nI A.day ∧ T.heard = nI A.hrd ∧ T.geese = nI A.gs ∧ T.z = A.z ∧ (∀ i, i < 4 → T.laws i = nI (A.law i)) ∧ (∀ i, i < A.n → T.kind i = nI (A.kd i)) ∧ (∀ i, i < A.n → T.need i = nI (A.nd i)) ∧ (∀ i, i < A.n → T.saved i = nI (A.sv i)) ∧ (∀ i, i < A.n → T.voice i = nI (A.vc i)) ∧ (∀ i, i < A.n → T.partner i = nI (A.pr i) - 1) ∧ (∀ i, i < A.n → T.speaks i = nI (A.sp i))
/-- the reference's row holds the numbers A -/
def TM (A : Tn) (s : AI) : Prop := s 0 = nI A.n ∧ s 1 = nI A.day ∧ s 3 = nI A.hrd ∧ s 4 = nI A.gs ∧ s 2 = A.z ∧ (∀ i, i < 4 → s (5 + i) = nI (A.law i)) ∧ (∀ i, i < A.n → s (9 + 6 * i) = nI (A.kd i)) ∧ (∀ i, i < A.n → s (9 + 6 * i + 1) = nI (A.nd i)) ∧ (∀ i, i < A.n → s (9 + 6 * i + 2) = nI (A.sv i)) ∧ (∀ i, i < A.n → s (9 + 6 * i + 3) = nI (A.vc i)) ∧ (∀ i, i < A.n → s (9 + 6 * i + 4) = nI (A.pr i)) ∧ (∀ i, i < A.n → s (9 + 6 * i + 5) = nI (A.sp i))
/-- ranges -/
def WR (A : Tn) : Prop := A.n ≤ 8 ∧ A.law 0 ≤ 9 ∧ A.law 1 ≤ 9 ∧ A.law 2 ≤ 9 ∧ A.law 3 ≤ 99 ∧ A.day < 1000000 ∧ A.hrd ≤ 99999 ∧ A.gs ≤ 99999 ∧ (∀ i, i < A.n → A.kd i ≤ 5 ∧ A.nd i ≤ 99 ∧ A.sv i ≤ 99 ∧ A.vc i ≤ 9 ∧ A.sp i ≤ 1 ∧ A.pr i ≤ A.n)
/-- partners -/
def WP (A : Tn) : Prop := ∀ i, i < A.n → ∀ j, A.pr i = j + 1 → j ≠ i ∧ A.pr j = i + 1
def aSays (A : Tn) (i : Nat) : Nat := if A.kd i = 1 then A.vc i + A.law 0 else if A.kd i = 2 then A.vc i - A.law 1 else if A.kd i = 3 then 2 * (A.vc i + A.law 0) else if A.kd i = 4 then (A.vc i - A.law 1) + A.sv i / 10 else if A.kd i = 5 then (if A.day % 2 = 0 then A.vc i else 1) else A.vc i
def aUp (A : Tn) (i : Nat) : Nat := if A.kd i = 1 then A.law 2 + 1 else if A.kd i = 2 then A.law 2 / 2 else if A.kd i = 3 then A.law 2 + 1 + A.law 0 else if A.kd i = 4 then A.law 2 / 2 else if A.kd i = 5 then A.law 2 + A.vc i else A.law 2
def aDn (A : Tn) (i : Nat) : Nat := if A.kd i = 4 then 2 else 0
def aSvs (A : Tn) (i : Nat) : Nat := if A.kd i = 1 then 0 else if A.kd i = 2 then 1 + A.law 1 else if A.kd i = 3 then 0 else if A.kd i = 4 then 3 * (1 + A.law 1) else if A.kd i = 5 then (if A.day % 7 = 0 then 1 else 0) else 1
theorem z_sub0 (a : Nat) : nI a - nI 0 = nI a := z_sub (Nat.zero_le a)
theorem z_six {k : Nat} (h : k ≤ 5) : k = 0 ∨ k = 1 ∨ k = 2 ∨ k = 3 ∨ k = 4 ∨ k = 5 := by omega
