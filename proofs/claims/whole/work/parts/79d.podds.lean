/-! ===== odds and hope ===== -/
def fbN : Nat → Nat
  | 0 => 1
  | 1 => 2
  | s + 2 => fbN (s + 1) + fbN s
theorem fb_10 (s : Nat) : fbN (s + 10) = 55 * fbN (s + 1) + 34 * fbN s ∧ fbN (s + 11) = 89 * fbN (s + 1) + 55 * fbN s := by
  have h : ∀ s, fbN (s + 2) = fbN (s + 1) + fbN s := fun s => rfl
  have h0 := h s
  have h1 := h (s + 1)
  have h2 := h (s + 2)
  have h3 := h (s + 3)
  have h4 := h (s + 4)
  have h5 := h (s + 5)
  have h6 := h (s + 6)
  have h7 := h (s + 7)
  have h8 := h (s + 8)
  have h9 := h (s + 9)
  simp only [Nat.add_assoc, Nat.reduceAdd] at h0 h1 h2 h3 h4 h5 h6 h7 h8 h9
  omega
theorem fb_90 : 2 ^ 62 ≤ fbN 90 := by
  have a0 : fbN 0 = 1 := rfl
  have a1 : fbN 1 = 2 := rfl
  obtain ⟨b0, b1⟩ : fbN 10 = 55 * fbN 1 + 34 * fbN 0 ∧ fbN 11 = 89 * fbN 1 + 55 * fbN 0 := fb_10 0
  obtain ⟨c0, c1⟩ : fbN 20 = 55 * fbN 11 + 34 * fbN 10 ∧ fbN 21 = 89 * fbN 11 + 55 * fbN 10 := fb_10 10
  obtain ⟨d0, d1⟩ : fbN 30 = 55 * fbN 21 + 34 * fbN 20 ∧ fbN 31 = 89 * fbN 21 + 55 * fbN 20 := fb_10 20
  obtain ⟨e0, e1⟩ : fbN 40 = 55 * fbN 31 + 34 * fbN 30 ∧ fbN 41 = 89 * fbN 31 + 55 * fbN 30 := fb_10 30
  obtain ⟨f0, f1⟩ : fbN 50 = 55 * fbN 41 + 34 * fbN 40 ∧ fbN 51 = 89 * fbN 41 + 55 * fbN 40 := fb_10 40
  obtain ⟨g0, g1⟩ : fbN 60 = 55 * fbN 51 + 34 * fbN 50 ∧ fbN 61 = 89 * fbN 51 + 55 * fbN 50 := fb_10 50
  obtain ⟨h0, h1⟩ : fbN 70 = 55 * fbN 61 + 34 * fbN 60 ∧ fbN 71 = 89 * fbN 61 + 55 * fbN 60 := fb_10 60
  obtain ⟨i0, i1⟩ : fbN 80 = 55 * fbN 71 + 34 * fbN 70 ∧ fbN 81 = 89 * fbN 71 + 55 * fbN 70 := fb_10 70
  obtain ⟨j0, j1⟩ : fbN 90 = 55 * fbN 81 + 34 * fbN 80 ∧ fbN 91 = 89 * fbN 81 + 55 * fbN 80 := fb_10 80
  omega
/-- Euclid's steps from a and b end within s -/
def eucS : Nat → Nat → Nat → Prop
  | 0, _, b => b = 0
  | s + 1, a, b => b = 0 ∨ eucS s b (a % b)
theorem euc_end : ∀ s, (∀ a b, b < fbN s → eucS s a b) ∧ (∀ a b, b < fbN (s + 1) → eucS (s + 1) a b)
  | 0 => by
    refine ⟨fun a b h => ?_, fun a b h => ?_⟩
    · have h' : b < 1 := h
      show b = 0
      omega
    · have h' : b < 2 := h
      by_cases e : b = 0
      · exact Or.inl e
      · have e1 : b = 1 := by omega
        subst e1
        exact Or.inr (Nat.mod_one a)
  | s + 1 => by
    obtain ⟨p, q⟩ := euc_end s
    refine ⟨q, fun a b h => ?_⟩
    have h' : b < fbN (s + 1) + fbN s := h
    by_cases e : b = 0
    · exact Or.inl e
    · have hc : a % b < b := Nat.mod_lt _ (by omega)
      refine Or.inr ?_
      by_cases c : a % b < fbN (s + 1)
      · exact q b (a % b) c
      · refine Or.inr (p _ _ ?_)
        rw [Nat.mod_eq_sub_mod (Nat.le_of_lt hc)]
        have := Nat.mod_le (b - a % b) (a % b)
        omega
theorem z_nzL {a : Nat} (h0 : 0 < a) (h : a < 2 ^ 63) : ht_nzL (lN a) = true ∧ ¬ lg_cmp (lN a) (0 : Int64) = 0 := by
  have h1 : ¬ lN a = 0 := fun q => by
    have q2 : lN a = lN 0 := q
    have := (pk_lEQ h (by omega)).mp q2
    omega
  exact ⟨by simp [ht_nzL, h1], fun q => h1 ((lg_cmp_eq _ _).mp q)⟩
theorem z_zeL : lg_cmp (lN 0) (0 : Int64) = 0 := by decide
theorem x_cdN : ∀ (s a b k fuel : Nat), eucS s a b → a < 2 ^ 62 → b < 2 ^ 62 → k + s ≤ 100 → s < fuel → ht_lp3 fX8_commonDivisor_b9 fuel (lN a) (lN b) (nI k) = some (lN (Nat.gcd b a)) := by
  intro s
  induction s with
  | zero =>
    intro a b k fuel hs ha hb hk hf
    obtain ⟨f, rfl⟩ : ∃ f, fuel = f + 1 := ⟨fuel - 1, by omega⟩
    have e : b = 0 := hs
    subst e
    show fX8_commonDivisor_b9 (ht_lp3 fX8_commonDivisor_b9 f) (lN a) (lN 0) (nI k) = _
    unfold fX8_commonDivisor_b9 fX8_commonDivisor_b44
    rw [Nat.gcd_zero_left]
    by_cases c : (100 : Int32) ≤ nI k
    · rw [if_pos c]
    · rw [if_neg c, if_pos z_zeL]
  | succ s ih =>
    intro a b k fuel hs ha hb hk hf
    obtain ⟨f, rfl⟩ : ∃ f, fuel = f + 1 := ⟨fuel - 1, by omega⟩
    have c : ¬ (100 : Int32) ≤ nI k := (show ¬ nI 100 ≤ nI k from nI_ge (by omega) (by omega))
    show fX8_commonDivisor_b9 (ht_lp3 fX8_commonDivisor_b9 f) (lN a) (lN b) (nI k) = _
    unfold fX8_commonDivisor_b9 fX8_commonDivisor_b44
    by_cases e : b = 0
    · subst e
      rw [if_neg c, if_pos z_zeL, Nat.gcd_zero_left]
    · obtain ⟨n1, n2⟩ := z_nzL (a := b) (by omega) (by omega)
      have hs' : eucS s b (a % b) := hs.resolve_left e
      have hm : a % b < b := Nat.mod_lt _ (by omega)
      rw [if_neg c, if_neg n2, z_gd n1, z_nm, z_nm, nI_1, pk_lRem (by omega) (by omega) (by omega), Nat.gcd_rec b a]
      exact ih b (a % b) (k + 1) f hs' hb (by omega) (by omega) (by omega)
theorem m_cdN (u w : Int64) (p : Int32) : ∀ (s a b fuel : Nat), eucS s a b → a < 2 ^ 62 → b < 2 ^ 62 → s < fuel → ht_lp5 fX9_partOf_b6 fuel u w p (lN a) (lN b) = fX9_partOf_b31 u w p (lN (Nat.gcd b a)) := by
  intro s
  induction s with
  | zero =>
    intro a b fuel hs ha hb hf
    obtain ⟨f, rfl⟩ : ∃ f, fuel = f + 1 := ⟨fuel - 1, by omega⟩
    have e : b = 0 := hs
    subst e
    show fX9_partOf_b6 (ht_lp5 fX9_partOf_b6 f) u w p (lN a) (lN 0) = _
    unfold fX9_partOf_b6
    rw [Nat.gcd_zero_left, if_pos z_zeL]
  | succ s ih =>
    intro a b fuel hs ha hb hf
    obtain ⟨f, rfl⟩ : ∃ f, fuel = f + 1 := ⟨fuel - 1, by omega⟩
    show fX9_partOf_b6 (ht_lp5 fX9_partOf_b6 f) u w p (lN a) (lN b) = _
    unfold fX9_partOf_b6
    by_cases e : b = 0
    · subst e
      rw [if_pos z_zeL, Nat.gcd_zero_left]
    · obtain ⟨n1, n2⟩ := z_nzL (a := b) (by omega) (by omega)
      have hs' : eucS s b (a % b) := hs.resolve_left e
      have hm : a % b < b := Nat.mod_lt _ (by omega)
      rw [if_neg n2, z_gd n1, z_nm, pk_lRem (by omega) (by omega) (by omega), Nat.gcd_rec b a]
      exact ih b (a % b) f hs' hb (by omega) (by omega)
theorem o_partOf {u w : Nat} (hu : u < 2 ^ 62) (hw : w < 2 ^ 62) (h0 : 0 < w) (p : Int32) : ∃ r, fX8_partOf (lN u) (lN w) p = some r ∧ fX9_partOf (lN u) (lN w) p = some r := by
  have h90 := fb_90
  have e1 := (euc_end 90).1 u w (by omega)
  have e2 := (euc_end 90).1 w u (by omega)
  have x1 : fX8_commonDivisor (lN u) (lN w) = some (lN (Nat.gcd w u)) := x_cdN 90 u w 0 FU e1 hu hw (by omega) (by decide)
  have x2 : fX9_partOf (lN u) (lN w) p = fX9_partOf_b31 (lN u) (lN w) p (lN (Nat.gcd u w)) := m_cdN (lN u) (lN w) p 90 w u FU e2 hw hu (by decide)
  have hg : 0 < Nat.gcd w u := Nat.gcd_pos_of_pos_left u h0
  have hl : Nat.gcd w u ≤ w := Nat.gcd_le_left u h0
  obtain ⟨n1, n2⟩ := z_nzL (a := Nat.gcd w u) hg (by omega)
  rw [Nat.gcd_comm u w] at x2
  refine ⟨if p = 0 then lN u / lN (Nat.gcd w u) else lN w / lN (Nat.gcd w u), ?_, ?_⟩
  · unfold fX8_partOf fX8_partOf_b26
    rw [z_bn x1, if_neg n2]
    by_cases e : p = 0
    · rw [if_pos e, if_pos e, z_gd n1]
    · rw [if_neg e, if_neg e, z_gd n1]
  · rw [x2]
    unfold fX9_partOf_b31 fX9_partOf_b47
    by_cases e : p = 0
    · rw [if_pos e, if_pos e, z_gd n1]
    · rw [if_neg e, if_neg e, z_gd n1]
theorem x_powN {b n : Nat} (hn : n ≤ 8) : ∀ (d k fuel acc : Nat), k + d = n → d < fuel → ht_lp4 fX8_power_b5 fuel (lN b) (nI n) (lN acc) (nI k) = some (lN (acc * b ^ d)) := by
  intro d
  induction d with
  | zero =>
    intro k fuel acc hk hf
    obtain ⟨f, rfl⟩ : ∃ f, fuel = f + 1 := ⟨fuel - 1, by omega⟩
    show fX8_power_b5 (ht_lp4 fX8_power_b5 f) (lN b) (nI n) (lN acc) (nI k) = _
    unfold fX8_power_b5 fX8_power_b21
    rw [if_pos (nI_le (by omega) (by omega)), Nat.pow_zero, Nat.mul_one]
  | succ d ih =>
    intro k fuel acc hk hf
    obtain ⟨f, rfl⟩ : ∃ f, fuel = f + 1 := ⟨fuel - 1, by omega⟩
    have e := ih (k + 1) f (acc * b) (by omega) (by omega)
    show fX8_power_b5 (ht_lp4 fX8_power_b5 f) (lN b) (nI n) (lN acc) (nI k) = _
    generalize ht_lp4 fX8_power_b5 f = K at e ⊢
    unfold fX8_power_b5
    rw [if_neg (nI_ge (by omega) (by omega)), z_nm, z_nm, nI_1, lN_mul, e, Nat.mul_assoc, ← Nat.pow_succ']
theorem x_pow {b n : Nat} (hn : n ≤ 8) : fX8_power (lN b) (nI n) = some (lN (b ^ n)) := by
  have := x_powN (b := b) hn n 0 FU 1 (by omega) (by show n < 300; omega)
  rw [Nat.one_mul] at this
  exact this
def facN : Nat → Nat
  | 0 => 1
  | n + 1 => (n + 1) * facN n
theorem z_fac : ∀ n : Fin 9, fX9_product (nI n.val) = some (lN (facN n.val)) ∧ 0 < facN n.val ∧ facN n.val ≤ 40320 := by decide +kernel
theorem z_ways : ∀ n k : Fin 9, k.val ≤ n.val → fX8_waysToDraw (nI n.val) (nI k.val) = some (lN (facN n.val / facN k.val / facN (n.val - k.val))) ∧ facN n.val / facN k.val / facN (n.val - k.val) ≤ 70 := by decide +kernel
theorem m_oddsN {RM : ModV} {n k l : Nat} {p : Int32} (hn : n ≤ 8) (hk : k ≤ n) (hl : l ≤ 99) (hs : RM.s 8 = nI l) : ∀ (d i fuel acc bl : Nat), i + d = n → d < fuel → ht_lp6 (fX9_odds_b61 RM) fuel (nI n) (nI k) p (lN acc) (lN bl) (nI i) = fX9_odds_b114 RM p (lN (acc * l ^ (k - i) * (100 - l) ^ (d - (k - i)))) (lN (bl * 100 ^ d)) := by
  have g8 : ht_ix (8 : Int32) 57 = true := by decide
  have hs' : RM.s ((8 : Int32).toNatClampNeg) = nI l := hs
  have e100 : (100 : Int32) - nI l = nI (100 - l) := z_sub (a := 100) (by omega)
  have l1 : (nI l).toInt64 = lN l := nI_l (by omega)
  have l2 : (nI (100 - l)).toInt64 = lN (100 - l) := nI_l (by omega)
  have l3 : (100 : Int64) = lN 100 := rfl
  intro d
  induction d with
  | zero =>
    intro i fuel acc bl hi hf
    obtain ⟨f, rfl⟩ : ∃ f, fuel = f + 1 := ⟨fuel - 1, by omega⟩
    show fX9_odds_b61 RM (ht_lp6 (fX9_odds_b61 RM) f) (nI n) (nI k) p (lN acc) (lN bl) (nI i) = _
    unfold fX9_odds_b61
    rw [if_pos (nI_le (by omega) (by omega)), show k - i = 0 by omega, Nat.pow_zero, Nat.mul_one, Nat.sub_self, Nat.pow_zero, Nat.mul_one, Nat.pow_zero, Nat.mul_one]
  | succ d ih =>
    intro i fuel acc bl hi hf
    obtain ⟨f, rfl⟩ : ∃ f, fuel = f + 1 := ⟨fuel - 1, by omega⟩
    have ebl : bl * 100 ^ (d + 1) = bl * 100 * 100 ^ d := by rw [Nat.pow_succ', Nat.mul_assoc]
    have c1 : ¬ nI n ≤ nI i := nI_ge (by omega) (by omega)
    by_cases c : k ≤ i
    · have e := ih (i + 1) f (acc * (100 - l)) (bl * 100) (by omega) (by omega)
      show fX9_odds_b61 RM (ht_lp6 (fX9_odds_b61 RM) f) (nI n) (nI k) p (lN acc) (lN bl) (nI i) = _
      generalize ht_lp6 (fX9_odds_b61 RM) f = K at e ⊢
      unfold fX9_odds_b61 fX9_odds_b97
      rw [if_neg c1, if_pos (nI_le c (by omega)), z_gd g8, hs', e100, l2, z_nm, z_nm, z_nm, nI_1, l3, lN_mul, lN_mul, e, ebl, show k - (i + 1) = 0 by omega, show k - i = 0 by omega, Nat.pow_zero, Nat.mul_one, Nat.mul_one, Nat.sub_zero, Nat.sub_zero, Nat.pow_succ' (n := d), Nat.mul_assoc]
    · obtain ⟨t, ht⟩ : ∃ t, k - i = t + 1 := ⟨k - i - 1, by omega⟩
      have e := ih (i + 1) f (acc * l) (bl * 100) (by omega) (by omega)
      show fX9_odds_b61 RM (ht_lp6 (fX9_odds_b61 RM) f) (nI n) (nI k) p (lN acc) (lN bl) (nI i) = _
      generalize ht_lp6 (fX9_odds_b61 RM) f = K at e ⊢
      unfold fX9_odds_b61 fX9_odds_b97
      rw [if_neg c1, if_neg (nI_ge (by omega) (by omega)), z_gd g8, hs', l1, z_nm, z_nm, z_nm, nI_1, l3, lN_mul, lN_mul, e, ebl, show k - (i + 1) = t by omega, ht, show d + 1 - (t + 1) = d - t by omega, Nat.pow_succ' (n := t), ← Nat.mul_assoc acc l]
theorem o_odds {RX : HTV} {A : Tn} {T : TownV} {RM : ModV} (h : TI A T RM.s) (y1 y2 y3 : Int32) : ∃ r, fX8_odds RX T y1 y2 y3 = some r ∧ fX9_odds RM y1 y2 y3 = some r := by
  obtain ⟨hT, hM, hR, hA, hP⟩ := h
  rcases z_rng y1 0 8 (a := 0) (b := 8) (c := 0) (d := 8) rfl rfl rfl rfl (by omega) (by omega) with ⟨w1, i1⟩ | ⟨n, -, hn, rfl, w1, i1⟩
  · refine ⟨-1, ?_, ?_⟩
    · unfold fX8_odds; rw [z_bn w1, if_pos rfl]
    · unfold fX9_odds; rw [z_bn i1, if_pos rfl]
  rcases z_rng y2 0 n (a := 0) (b := nI n) (c := 0) (d := (nI n).toInt64) rfl rfl rfl (nI_l (by omega)) (by omega) (by omega) with ⟨w2, i2⟩ | ⟨k, -, hk, rfl, w2, i2⟩
  · refine ⟨-1, ?_, ?_⟩
    · unfold fX8_odds; rw [z_bn w1, if_neg z_01, z_bn w2, if_pos rfl]
    · unfold fX9_odds; rw [z_bn i1, if_neg z_01, z_bn i2, if_pos rfl]
  rcases z_rng y3 0 1 (a := 0) (b := 1) (c := 0) (d := 1) rfl rfl rfl rfl (by omega) (by omega) with ⟨w3, i3⟩ | ⟨q, -, hq, rfl, w3, i3⟩
  · refine ⟨-1, ?_, ?_⟩
    · unfold fX8_odds; rw [z_bn w1, if_neg z_01, z_bn w2, if_neg z_01, z_bn w3, if_pos rfl]
    · unfold fX9_odds; rw [z_bn i1, if_neg z_01, z_bn i2, if_neg z_01, z_bn i3, if_pos rfl]
  have hl : A.law 3 ≤ 99 := hR.2.2.2.2.1
  have hX : T.laws ((3 : Int32).toNatClampNeg) = nI (A.law 3) := hT.2.2.2.2.2.1 3 (by omega)
  have hs8 : RM.s 8 = nI (A.law 3) := hM.2.2.2.2.2.1 3 (by omega)
  have g3 : ht_ix (3 : Int32) 4 = true := by decide
  obtain ⟨ws, wb⟩ := z_ways ⟨n, by omega⟩ ⟨k, by omega⟩ hk
  obtain ⟨f1, f1p, f1b⟩ := z_fac ⟨n, by omega⟩
  obtain ⟨f2, f2p, f2b⟩ := z_fac ⟨k, by omega⟩
  obtain ⟨f3, f3p, f3b⟩ := z_fac ⟨n - k, by omega⟩
  simp only at ws wb f1 f1p f1b f2 f2p f2b f3 f3p f3b
  have e2 : lN (facN n) / lN (facN k) / lN (facN (n - k)) = lN (facN n / facN k / facN (n - k)) := by
    have hd : facN n / facN k ≤ facN n := Nat.div_le_self _ _
    rw [pk_lDiv (by omega) f2p (by omega), pk_lDiv (by omega) f3p (by omega)]
  generalize facN n / facN k / facN (n - k) = wN at *
  have hu : wN * A.law 3 ^ k * (100 - A.law 3) ^ (n - k) < 2 ^ 62 := by
    have p1 : A.law 3 ^ k ≤ 100 ^ k := Nat.pow_le_pow_left (by omega) k
    have p2 : (100 - A.law 3) ^ (n - k) ≤ 100 ^ (n - k) := Nat.pow_le_pow_left (by omega) (n - k)
    have p3 : (100 : Nat) ^ n ≤ 100 ^ 8 := Nat.pow_le_pow_right (by omega) hn
    have p4 : (100 : Nat) ^ k * 100 ^ (n - k) = 100 ^ n := by rw [← Nat.pow_add]; congr 1; omega
    have p5 : wN * A.law 3 ^ k * (100 - A.law 3) ^ (n - k) ≤ 70 * 100 ^ k * 100 ^ (n - k) := Nat.mul_le_mul (Nat.mul_le_mul wb p1) p2
    rw [Nat.mul_assoc 70, p4] at p5
    have p6 : (70 : Nat) * 100 ^ n ≤ 70 * 100 ^ 8 := Nat.mul_le_mul_left 70 p3
    have p7 : (70 : Nat) * 100 ^ 8 < 2 ^ 62 := by decide
    omega
  have hw : (100 : Nat) ^ n < 2 ^ 62 := by
    have p3 : (100 : Nat) ^ n ≤ 100 ^ 8 := Nat.pow_le_pow_right (by omega) hn
    have p7 : (100 : Nat) ^ 8 < 2 ^ 62 := by decide
    omega
  have hw0 : 0 < (100 : Nat) ^ n := Nat.pow_pos (by omega)
  obtain ⟨r, r1, r2⟩ := o_partOf hu hw hw0 (nI q)
  have l1 : (nI (A.law 3)).toInt64 = lN (A.law 3) := nI_l (by omega)
  have l2 : (100 : Int64) - lN (A.law 3) = lN (100 - A.law 3) := lN_sub (a := 100) (by omega)
  have es : nI n - nI k = nI (n - k) := z_sub hk
  have p100 : fX8_power (100 : Int64) (nI n) = some (lN (100 ^ n)) := x_pow (b := 100) hn
  have mo := m_oddsN (RM := RM) (p := nI q) hn hk hl hs8 n 0 FU wN 1 (by omega) (by show n < 300; omega)
  rw [Nat.sub_zero, Nat.one_mul] at mo
  refine ⟨r, ?_, ?_⟩
  · unfold fX8_odds
    rw [z_bn w1, if_neg z_01, z_bn w2, if_neg z_01, z_bn w3, if_neg z_01, z_gd g3, hX, l1, z_nm, z_bn ws, z_bn (x_pow (by omega)), l2, es, z_bn (x_pow (by omega)), z_nm, lN_mul, lN_mul, z_bn p100, z_bn r1]
  · unfold fX9_odds
    rw [z_bn i1, if_neg z_01, z_bn i2, if_neg z_01, z_bn i3, if_neg z_01, z_bn f1, z_bn f2, z_gd (z_nzL f2p (by omega)).1, es, z_bn f3, z_gd (z_nzL f3p (by omega)).1, z_nm, e2]
    refine Eq.trans mo ?_
    unfold fX9_odds_b114
    rw [z_bn r2]
theorem o_hope {RX : HTV} {A : Tn} {T : TownV} {RM : ModV} (h : TI A T RM.s) (y1 y2 : Int32) : ∃ r, fX8_hope RX T y1 y2 = some r ∧ fX9_hope RM y1 y2 = some r := by
  obtain ⟨hT, hM, hR, hA, hP⟩ := h
  rcases z_rng y1 0 99 (a := 0) (b := 99) (c := 0) (d := 99) rfl rfl rfl rfl (by omega) (by omega) with ⟨w1, i1⟩ | ⟨n, -, hn, rfl, w1, i1⟩
  · refine ⟨-1, ?_, ?_⟩
    · unfold fX8_hope; rw [z_bn w1, if_pos rfl]
    · unfold fX9_hope fX9_hope_b46; rw [z_bn i1, if_pos rfl]
  rcases z_rng y2 0 1 (a := 0) (b := 1) (c := 0) (d := 1) rfl rfl rfl rfl (by omega) (by omega) with ⟨w3, i3⟩ | ⟨q, -, hq, rfl, w3, i3⟩
  · refine ⟨-1, ?_, ?_⟩
    · unfold fX8_hope; rw [z_bn w1, if_neg z_01, z_bn w3, if_pos rfl]
    · unfold fX9_hope fX9_hope_b46; rw [z_bn i1, if_neg z_01, z_bn i3, if_pos rfl]
  have hl : A.law 3 ≤ 99 := hR.2.2.2.2.1
  have hX : T.laws ((3 : Int32).toNatClampNeg) = nI (A.law 3) := hT.2.2.2.2.2.1 3 (by omega)
  have hs8 : RM.s ((8 : Int32).toNatClampNeg) = nI (A.law 3) := hM.2.2.2.2.2.1 3 (by omega)
  have g3 : ht_ix (3 : Int32) 4 = true := by decide
  have g8 : ht_ix (8 : Int32) 57 = true := by decide
  have hu : n * A.law 3 < 2 ^ 62 := by
    have p : n * A.law 3 ≤ 99 * 99 := Nat.mul_le_mul hn hl
    omega
  obtain ⟨r, r1, r2⟩ := o_partOf (w := 100) hu (by decide) (by omega) (nI q)
  have r1' : fX8_partOf (lN (n * A.law 3)) (100 : Int64) (nI q) = some r := r1
  have r2' : fX9_partOf (lN (n * A.law 3)) (100 : Int64) (nI q) = some r := r2
  have l1 : (nI (A.law 3)).toInt64 = lN (A.law 3) := nI_l (by omega)
  have l2 : (nI n).toInt64 = lN n := nI_l (by omega)
  refine ⟨r, ?_, ?_⟩
  · unfold fX8_hope; rw [z_bn w1, if_neg z_01, z_bn w3, if_neg z_01, z_gd g3, hX, l1, l2, lN_mul, z_bn r1']
  · rw [l2] at i1
    unfold fX9_hope fX9_hope_b46; rw [l2, z_bn i1, if_neg z_01, z_bn i3, if_neg z_01, z_gd g8, hs8, l1, lN_mul, z_bn r2']
