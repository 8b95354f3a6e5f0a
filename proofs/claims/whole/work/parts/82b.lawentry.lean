/-! ===== what holds at the law's entry ===== -/
theorem st_len : ∀ i : Nat, i < 15 → lenS.getD i 0 < 2 ^ 31 := by decide
theorem st_ex : ∀ i, i < 15 → Cond.exactly (.string RX5 (poolS.getD i 0)) "java/lang/String" ∈ flatC (Jvm.Cond.and given_1 narrow_1) := by decide +kernel
theorem st_co : ∀ i, i < 15 → Cond.eq (.field (.string RX5 (poolS.getD i 0)) "java/lang/String" "coder" "B") (.int 0) ∈ flatC (Jvm.Cond.and given_1 narrow_1) := by decide +kernel
theorem st_ar : ∀ i, i < 15 → Cond.arrayOf (.field (.string RX5 (poolS.getD i 0)) "java/lang/String" "value" "[B") .byte ∈ flatC (Jvm.Cond.and given_1 narrow_1) := by decide +kernel
theorem st_le : ∀ i, i < 15 → Cond.eq (.length (.field (.string RX5 (poolS.getD i 0)) "java/lang/String" "value" "[B")) (.int (Int32.ofNat (lenS.getD i 0))) ∈ flatC (Jvm.Cond.and given_1 narrow_1) := by decide +kernel
theorem st_el : ∀ i, i < 15 → ∀ k, k < lenS.getD i 0 → Cond.eq (.elem (.field (.string RX5 (poolS.getD i 0)) "java/lang/String" "value" "[B") (.int (Int32.ofNat k))) (.int ((bytS.getD i []).getD k 0)) ∈ flatC (Jvm.Cond.and given_1 narrow_1) := by decide +kernel
def neT : List (Nat × Nat × Nat) := [(11, 12, 26), (11, 13, 37), (12, 13, 38), (11, 14, 46), (12, 14, 47), (13, 14, 48), (11, 0, 57), (12, 0, 58), (13, 0, 59), (14, 0, 60), (11, 4, 69), (12, 4, 70), (13, 4, 71), (14, 4, 72), (0, 4, 73), (11, 5, 85), (12, 5, 86), (13, 5, 87), (14, 5, 88), (0, 5, 89), (4, 5, 90), (11, 6, 99), (12, 6, 100), (13, 6, 101), (14, 6, 102), (0, 6, 103), (4, 6, 104), (5, 6, 105), (11, 7, 114), (12, 7, 115), (13, 7, 116), (14, 7, 117), (0, 7, 118), (4, 7, 119), (5, 7, 120), (6, 7, 121), (11, 8, 132), (12, 8, 133), (13, 8, 134), (14, 8, 135), (0, 8, 136), (4, 8, 137), (5, 8, 138), (6, 8, 139), (7, 8, 140), (11, 9, 150), (12, 9, 151), (13, 9, 152), (14, 9, 153), (0, 9, 154), (4, 9, 155), (5, 9, 156), (6, 9, 157), (7, 9, 158), (8, 9, 159), (11, 10, 169), (12, 10, 170), (13, 10, 171), (14, 10, 172), (0, 10, 173), (4, 10, 174), (5, 10, 175), (6, 10, 176), (7, 10, 177), (8, 10, 178), (9, 10, 179), (11, 1, 188), (12, 1, 189), (13, 1, 190), (14, 1, 191), (0, 1, 192), (4, 1, 193), (5, 1, 194), (6, 1, 195), (7, 1, 196), (8, 1, 197), (9, 1, 198), (10, 1, 199), (11, 2, 209), (12, 2, 210), (13, 2, 211), (14, 2, 212), (0, 2, 213), (4, 2, 214), (5, 2, 215), (6, 2, 216), (7, 2, 217), (8, 2, 218), (9, 2, 219), (10, 2, 220), (1, 2, 221), (11, 3, 231), (12, 3, 232), (13, 3, 233), (14, 3, 234), (0, 3, 235), (4, 3, 236), (5, 3, 237), (6, 3, 238), (7, 3, 239), (8, 3, 240), (9, 3, 241), (10, 3, 242), (1, 3, 243), (2, 3, 244)]
theorem st_ne0 : ∀ x ∈ neT, (flatC (Jvm.Cond.and given_1 narrow_1))[x.2.2]? = some (Cond.not (Cond.eq (.string RX5 (poolS.getD x.1 0)) (.string RX5 (poolS.getD x.2.1 0)))) := by decide +kernel
theorem st_ne1 : ∀ i, i < 15 → ∀ k, k < 15 → i ≠ k → (∃ x ∈ neT, x.1 = i ∧ x.2.1 = k) ∨ (∃ x ∈ neT, x.1 = k ∧ x.2.1 = i) := by decide +kernel
theorem st_ne (i : Nat) (hi : i < 15) (k : Nat) (hk : k < 15) (hik : i ≠ k) : Cond.not (Cond.eq (.string RX5 (poolS.getD i 0)) (.string RX5 (poolS.getD k 0))) ∈ flatC (Jvm.Cond.and given_1 narrow_1) ∨ Cond.not (Cond.eq (.string RX5 (poolS.getD k 0)) (.string RX5 (poolS.getD i 0))) ∈ flatC (Jvm.Cond.and given_1 narrow_1) := by
  rcases st_ne1 i hi k hk hik with ⟨x, hx, e1, e2⟩ | ⟨x, hx, e1, e2⟩
  · have h := st_ne0 x hx
    rw [e1, e2] at h
    exact Or.inl (List.mem_of_getElem? h)
  · have h := st_ne0 x hx
    rw [e1, e2] at h
    exact Or.inr (List.mem_of_getElem? h)
theorem st_rf : ∀ i, i < 15 → Cond.stringRef RX5 (poolS.getD i 0) (txtS.getD i "") ∈ lw_tbl := by decide +kernel
theorem ht_Str_of {args : Array Value} {s : State} (hg0 : (Jvm.Cond.and given_1 narrow_1).before args s = true) (hts : ∀ w ∈ lw_tbl, w.before args s = true) : ∃ aK aV : Nat → Nat, ht_Str aK aV (fun q : Nat => s.heap.size ≤ q) s s.heap := by
  have hg := flat_of_before _ hg0
  have hA : ∀ a : Nat, a < s.heap.size → ¬ (fun q : Nat => s.heap.size ≤ q) a := fun a h => Nat.not_le.mpr h
  obtain ⟨aK, aV, h1, h2⟩ := vk_Sof (N := 15) (tm := fun i => .string RX5 (poolS.getD i 0)) (len := lenS) (byt := bytS) (A := fun q : Nat => s.heap.size ≤ q) st_len (fun i hi => hg _ (st_ex i hi)) (fun i hi => hg _ (st_co i hi)) (fun i hi => hg _ (st_ar i hi)) (fun i hi => hg _ (st_le i hi)) (fun i hi k hk => hg _ (st_el i hi k hk)) (fun i k hi hk hik => (st_ne i hi k hk hik).imp (fun h => hg _ h) (fun h => hg _ h)) hA
  have c1 : (Cond.eq (.static "java/lang/String" "COMPACT_STRINGS" "Z") (.int 1)).before args s = true := hg _ (by decide +kernel)
  have c2 : (Cond.isRef (.static "jdk/internal/util/Preconditions" "SIOOBE_FORMATTER" "Ljava/util/function/BiFunction;")).before args s = true := hg _ (by decide +kernel)
  exact ⟨aK, aV, h1, fun i hi => vk_R.of (hts _ (st_rf i hi)) (h2 i hi), va_Zof (hts (.laysStatic "java/lang/String" "COMPACT_STRINGS" "Z") (by decide +kernel)) (hts (.initialized "java/lang/String") (by decide +kernel)) (va_eqt c1) hA, va_Zqof (hts (.laysStatic "jdk/internal/util/Preconditions" "SIOOBE_FORMATTER" "Ljava/util/function/BiFunction;") (by decide +kernel)) (hts (.initialized "jdk/internal/util/Preconditions") (by decide +kernel)) c2 hA, va_Nw.of rfl (hts (.methodLinkNest RX5 75 yX8_mostOfLaw "HeldTongues") (by decide +kernel))⟩
theorem ht_tyb {args : Array Value} {s : State} (h : (Cond.arrayClass .byte).before args s = true) : ∃ c, ArrOfT s c .byte ∧ va_RA s c .byte := by
  obtain ⟨c, k, comp, h1, h2, h3⟩ := Cond.arrayClass_spec h
  exact ⟨c, fun n z => ⟨fun k h => (by cases h), k, h2, comp, h3⟩, h1⟩
theorem ht_tyi {args : Array Value} {s : State} (h : (Cond.arrayClass .int).before args s = true) : ∃ c, ArrOfT s c .int ∧ va_RA s c .int := by
  obtain ⟨c, k, comp, h1, h2, h3⟩ := Cond.arrayClass_spec h
  exact ⟨c, fun n z => ⟨fun k h => (by cases h), k, h2, comp, h3⟩, h1⟩
theorem ht_tyl {args : Array Value} {s : State} (h : (Cond.arrayClass .long).before args s = true) : ∃ c, ArrOfT s c .long ∧ va_RA s c .long := by
  obtain ⟨c, k, comp, h1, h2, h3⟩ := Cond.arrayClass_spec h
  exact ⟨c, fun n z => ⟨fun k h => (by cases h), k, h2, comp, h3⟩, h1⟩
theorem ht_tyz {args : Array Value} {s : State} (h : (Cond.arrayClass .boolean).before args s = true) : ∃ c, ArrOfT s c .boolean ∧ va_RA s c .boolean := by
  obtain ⟨c, k, comp, h1, h2, h3⟩ := Cond.arrayClass_spec h
  exact ⟨c, fun n z => ⟨fun k h => (by cases h), k, h2, comp, h3⟩, h1⟩
theorem ht_tyo {args : Array Value} {s : State} {C : String} (h : (Cond.arrayOver (.object C)).before args s = true) : ∃ c, ArrOfT s c (.object C) ∧ va_RA s c (.object C) := by
  obtain ⟨comp, c, k, h1, h2, h3, h4, h5⟩ := Cond.arrayOver_spec h
  exact ⟨c, fun n z => ⟨fun k h => (by cases h), k, h3, comp, h4⟩, k, comp, h3, h4, h1, h5⟩
theorem ht_K_of {args : Array Value} {s : State} (hts : ∀ w ∈ lw_tbl, w.before args s = true) : ∃ (D : va_G) (K : Nat → ClassId), va_K D vwCl (ht_tys K) s := by
  obtain ⟨c0, i0, k0⟩ := u_known (C := RX0) (T := TX0) (N := 4) (n := 4) hts inX0 (hts (.instantiable RX0 4) (by decide +kernel))
  obtain ⟨c1, i1, k1⟩ := u_known (C := RX1) (T := TX1) (N := 6) (n := 6) hts inX1 (hts (.instantiable RX1 6) (by decide +kernel))
  obtain ⟨c2, i2, k2⟩ := u_known (C := RX2) (T := TX2) (N := 4) (n := 4) hts inX2 (hts (.instantiable RX2 4) (by decide +kernel))
  obtain ⟨c3, i3, k3⟩ := u_known (C := RX3) (T := TX3) (N := 2) (n := 2) hts inX3 (hts (.instantiable RX3 2) (by decide +kernel))
  obtain ⟨c4, i4, k4⟩ := u_known (C := RX4) (T := TX4) (N := 2) (n := 2) hts inX4 (hts (.instantiable RX4 2) (by decide +kernel))
  obtain ⟨c5, i5, k5⟩ := u_known (C := RX5) (T := TX5) (N := 6) (n := 6) hts inX5 (hts (.instantiable RX5 6) (by decide +kernel))
  obtain ⟨c6, i6, k6⟩ := u_known (C := RX6) (T := TX6) (N := 12) (n := 12) hts inX6 (hts (.instantiable RX6 12) (by decide +kernel))
  obtain ⟨c7, i7, k7⟩ := u_known (C := RX7) (T := TX7) (N := 2) (n := 2) hts inX7 (hts (.instantiable RX7 2) (by decide +kernel))
  obtain ⟨c8, i8, k8⟩ := u_known (C := RX8) (T := TX8) (N := 13) (n := 13) hts inX8 (hts (.instantiable RX8 13) (by decide +kernel))
  obtain ⟨c9, i9, k9⟩ := u_known (C := RX9) (T := TX9) (N := 29) (n := 29) hts inX9 (hts (.instantiable RX9 29) (by decide +kernel))
  obtain ⟨tb, ab⟩ := ht_tyb (hts (.arrayClass .byte) (by decide +kernel))
  obtain ⟨ti, ai⟩ := ht_tyi (hts (.arrayClass .int) (by decide +kernel))
  obtain ⟨tl, al⟩ := ht_tyl (hts (.arrayClass .long) (by decide +kernel))
  obtain ⟨tz, az⟩ := ht_tyz (hts (.arrayClass .boolean) (by decide +kernel))
  obtain ⟨to, ao⟩ := ht_tyo (C := RX3) (hts (.arrayOver (.object RX3)) (by decide +kernel))
  refine ⟨(fun k => [c0, c1, c2, c3, c4, c5, c6, c7, c8, c9].getD k c0, fun k => [i0, i1, i2, i3, i4, i5, i6, i7, i8, i9].getD k i0), fun k => [tb, ti, tl, tz, to].getD k tb, ?_, ?_⟩
  · intro k q hq
    match k, hq with
    | 0, hq => cases hq; exact k0
    | 1, hq => cases hq; exact k1
    | 2, hq => cases hq; exact k2
    | 3, hq => cases hq; exact k3
    | 4, hq => cases hq; exact k4
    | 5, hq => cases hq; exact k5
    | 6, hq => cases hq; exact k6
    | 7, hq => cases hq; exact k7
    | 8, hq => cases hq; exact k8
    | 9, hq => cases hq; exact k9
    | k + 10, hq => simp [vwCl] at hq
  · intro k q hq
    match k, hq with
    | 0, hq => cases hq; exact ab
    | 1, hq => cases hq; exact ai
    | 2, hq => cases hq; exact al
    | 3, hq => cases hq; exact az
    | 4, hq => cases hq; exact ao
    | k + 5, hq => simp [ht_tys] at hq
theorem and63 (x : Int32) : ∃ n, n < 64 ∧ x &&& 63 = nI n := by
  refine ⟨(x &&& 63).toBitVec.toNat, ?_, Int32.toBitVec_inj.mp ?_⟩
  · have e : (x &&& 63).toBitVec = x.toBitVec &&& 63#32 := rfl
    rw [e, BitVec.toNat_and]
    exact Nat.lt_of_le_of_lt Nat.and_le_right (by decide)
  · show _ = BitVec.ofNat 32 _
    simp
theorem z_five {L i : Nat} (hL : L ≤ 2560) (hi : 5 * i ≤ L) : nI L - 5 < nI (5 * i) ↔ L < 5 * i + 5 := by
  rw [z_ltI, show (5 : Int32) = nI 5 from rfl, z_subT (by omega) (by omega), z_ti (by omega)]
  omega
theorem z_ink {L i k : Nat} (hL : L ≤ 2560) (h : 5 * i + 5 ≤ L) (hk : k < 5) : vp_in (nI (5 * i) + nI k) L := by
  rw [nI_add]; exact vp_in_nI (by omega) (by omega)
