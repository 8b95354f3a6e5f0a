theorem m_isIn0 (v hi : Int32) : fX9_isIn v.toInt64 (0 : Int64) hi.toInt64 = some (if v < 0 then 0 else if hi < v then 0 else 1) := by
  have e0 : (0 : Int64) = (0 : Int32).toInt64 := by decide
  unfold fX9_isIn
  rw [e0]
  by_cases h1 : v < 0
  · rw [if_pos h1, if_pos ((lg_cmp_lt _ _).mpr ((fa_wide_lt _ _).mpr h1))]
  · rw [if_neg h1, if_neg (fun q => h1 ((fa_wide_lt _ _).mp ((lg_cmp_lt _ _).mp q)))]
    by_cases h2 : hi < v
    · rw [if_pos h2, if_pos ((lg_cmp_gt _ _).mpr ((fa_wide_lt _ _).mpr h2))]
    · rw [if_neg h2, if_neg (fun q => h2 ((fa_wide_lt _ _).mp ((lg_cmp_gt _ _).mp q)))]
theorem z_pre {c : Nat} (hc : c < 1000000) (v : Int32) : nI c - 1 < v ↔ nI c ≤ v := by
  have e := z_subT (a := c) (b := 1) (by omega) (by omega)
  have e' : (nI c - 1).toInt = (c : Int) - 1 := e
  rw [z_ltI, z_leI, e', z_ti (by omega)]
  omega
theorem z_row {RR : DayV} {RM : ModV} (h : RO RR RM) (i w : Int32) : (fX0_has RR i w = some 0 ∧ fX9_isRow RM i w = some 0) ∨ (∃ a b, a < 10 ∧ b < 3 ∧ i = nI a ∧ w = nI b ∧ fX0_has RR i w = some 1 ∧ fX9_isRow RM i w = some 1) := by
  obtain ⟨c, hc, h1, h2, -⟩ := h
  have E := m_isIn0 i (RM.rowN - 1)
  rw [h2] at E
  have E' : fX9_isIn i.toInt64 (0 : Int64) ((RM.rowN - (1 : Int32)).toInt64) = some (if i < 0 then 0 else if nI c - 1 < i then 0 else 1) := by rw [h2]; exact E
  by_cases c1 : i < 0
  · rw [if_pos c1] at E'
    refine Or.inl ⟨?_, ?_⟩
    · unfold fX0_has; rw [if_pos c1]
    · unfold fX9_isRow; rw [z_bn E', if_pos rfl]
  rw [if_neg c1] at E'
  by_cases c2 : nI c ≤ i
  · rw [if_pos ((z_pre (by omega) i).mpr c2)] at E'
    refine Or.inl ⟨?_, ?_⟩
    · unfold fX0_has; rw [if_neg c1, h1, if_pos c2]
    · unfold fX9_isRow; rw [z_bn E', if_pos rfl]
  rw [if_neg (fun q => c2 ((z_pre (by omega) i).mp q))] at E'
  have F := m_isIn0 w 2
  have F' : fX9_isIn w.toInt64 (0 : Int64) (2 : Int64) = some (if w < 0 then 0 else if (2 : Int32) < w then 0 else 1) := F
  by_cases c3 : w < 0
  · rw [if_pos c3] at F'
    refine Or.inl ⟨?_, ?_⟩
    · unfold fX0_has; rw [if_neg c1, h1, if_neg c2, if_pos c3]
    · unfold fX9_isRow; rw [z_bn E', if_neg z_01, z_bn F', if_pos rfl]
  rw [if_neg c3] at F'
  have k3 : (2 : Int32) < w ↔ (3 : Int32) ≤ w := by
    rw [z_ltI, z_leI, show ((2 : Int32).toInt) = 2 by decide, show ((3 : Int32).toInt) = 3 by decide]
    omega
  by_cases c4 : (3 : Int32) ≤ w
  · rw [if_pos (k3.mpr c4)] at F'
    refine Or.inl ⟨?_, ?_⟩
    · unfold fX0_has; rw [if_neg c1, h1, if_neg c2, if_neg c3, if_pos c4]
    · unfold fX9_isRow; rw [z_bn E', if_neg z_01, z_bn F', if_pos rfl]
  rw [if_neg (fun q => c4 (k3.mp q))] at F'
  obtain ⟨a, ha, rfl⟩ := nI_of c1
  obtain ⟨b, hb, rfl⟩ := nI_of c3
  have qa : a < c := Nat.lt_of_not_le (fun q => c2 (nI_le q ha))
  have qb : b < 3 := Nat.lt_of_not_le (fun q => c4 (nI_le q hb))
  refine Or.inr ⟨a, b, by omega, qb, rfl, rfl, ?_, ?_⟩
  · unfold fX0_has; rw [if_neg c1, h1, if_neg c2, if_neg c3, if_neg c4]
  · unfold fX9_isRow; rw [z_bn E', if_neg z_01, z_bn F', if_neg z_01]
theorem z_plX (a b : Nat) : (nI a * (3 : Int32)) + nI b = nI (3 * a + b) := by
  rw [show (3 : Int32) = nI 3 from rfl, z_mul, z_add, Nat.mul_comm]
theorem z_plM (a b : Nat) : ((3 : Int32) * nI a) + nI b = nI (3 * a + b) := by
  rw [show (3 : Int32) = nI 3 from rfl, z_mul, z_add]
theorem z_plM0 (a : Nat) : (3 : Int32) * nI a = nI (3 * a) := by
  rw [show (3 : Int32) = nI 3 from rfl, z_mul]
theorem o_row {RX : HTV} {RR : DayV} {RM : ModV} (h : RO RR RM) (y1 y2 : Int32) : ∃ r, fX8_row RX RR y1 y2 = some r ∧ fX9_row RM y1 y2 = some r := by
  have h0 := h
  rcases z_row h y1 y2 with ⟨w, i⟩ | ⟨a, b, ha, hb, rfl, rfl, w, i⟩
  · refine ⟨-9, ?_, ?_⟩
    · unfold fX8_row; rw [z_bn w, if_pos rfl]
    · unfold fX9_row; rw [z_bn i, if_pos rfl]
  · obtain ⟨c, hc, h1, h2, h3⟩ := h0
    have g : ht_ix (nI (3 * a + b)) 30 = true := z_ix (by omega) (by omega)
    have cl : (nI (3 * a + b)).toNatClampNeg = 3 * a + b := z_cl (by omega)
    refine ⟨RM.rows (3 * a + b), ?_, ?_⟩
    · unfold fX8_row fX0_placeOf; rw [z_bn w, if_neg z_01, z_bn rfl, z_plX, z_gd g, cl, h3 _ (by omega)]
    · unfold fX9_row; rw [z_bn i, if_neg z_01, z_plM, z_gd g, cl]
theorem up_30 {f g : AI} {k : Nat} {x : Int32} (h : ∀ j, j < 30 → f j = g j) : ∀ j, j < 30 → upd f k x j = upd g k x j := fun j hj => by
  by_cases e : j = k
  · subst e; rw [pk_us, pk_us]
  · rw [pk_un e, pk_un e]; exact h j hj
theorem o_alterRow {RX : HTV} {RR : DayV} {RM : ModV} (h : RO RR RM) (y1 y2 y3 : Int32) : ∃ r n' w', fX8_alterRow RX RR y1 y2 y3 = some (r, n') ∧ fX9_alterRow RM y1 y2 y3 = some (r, w') ∧ ∀ i, i < 30 → n' i = w' i := by
  have h0 := h
  rcases z_row h y1 y2 with ⟨w, i⟩ | ⟨a, b, ha, hb, rfl, rfl, w, i⟩
  · obtain ⟨c, hc, h1, h2, h3⟩ := h0
    refine ⟨-9, RR.numbers, RM.rows, ?_, ?_, h3⟩
    · unfold fX8_alterRow; rw [z_bn w, if_pos rfl]
    · unfold fX9_alterRow; rw [z_bn i, if_pos rfl]
  · obtain ⟨c, hc, h1, h2, h3⟩ := h0
    have g : ht_ix (nI (3 * a + b)) 30 = true := z_ix (by omega) (by omega)
    have cl : (nI (3 * a + b)).toNatClampNeg = 3 * a + b := z_cl (by omega)
    refine ⟨RM.rows (3 * a + b), upd RR.numbers (3 * a + b) y3, upd RM.rows (3 * a + b) y3, ?_, ?_, up_30 h3⟩
    · unfold fX8_alterRow fX0_placeOf; rw [z_bn w, if_neg z_01, z_bn rfl, z_plX, z_gd g, z_nm, z_gd g, z_nm, cl, h3 _ (by omega)]
    · unfold fX9_alterRow; rw [z_bn i, if_neg z_01, z_plM, z_gd g, z_nm, z_gd g, z_nm, cl]
/-- three stores, in either order -/
theorem up_3 {f g : AI} {k : Nat} {x y z : Int32} (h : ∀ j, j < 30 → f j = g j) : ∀ j, j < 30 → upd (upd (upd f (3 * k) x) (3 * k + 1) y) (3 * k + 2) z j = upd (upd (upd g (3 * k + 2) z) (3 * k) x) (3 * k + 1) y j := fun j hj => by
  by_cases e2 : j = 3 * k + 2
  · subst e2; rw [pk_us, pk_un (by omega), pk_un (by omega), pk_us]
  · by_cases e1 : j = 3 * k + 1
    · subst e1; rw [pk_un (by omega), pk_us, pk_us]
    · by_cases e0 : j = 3 * k
      · subst e0; rw [pk_un (by omega), pk_un (by omega), pk_us, pk_un (by omega), pk_us]
      · rw [pk_un e2, pk_un e1, pk_un e0, pk_un e1, pk_un e0, pk_un e2]; exact h j hj
abbrev ModV.wsr (RM : ModV) (s a rw' : AI) (rn : Int32) : ModV := (s, RM.held, a, RM.before, RM.isHeld, RM.tape, RM.taped, RM.token, RM.frm, RM.to, RM.value, RM.isWrong, RM.unpaired, RM.bestSound, RM.bestWay, rw', rn, RM.sortOf, RM.sizeOf, RM.numbers, RM.holdsWhat, RM.holdsWhich, RM.holdsMany, RM.bodies, RM.ran, RM.actKind, RM.actN, RM.actA, RM.isParted)
theorem t_prove {A : Tn} {RR : DayV} {RM : ModV} {N U0 : TownV} {a : AI} {rc rn : Int32} (hR : WR A) (hA : WA A) {o n : Nat} (ho : o < A.n) (hn : n ≤ 10) (hd : A.day + 60 < 1000000) : ∀ (d k fuel fuel' : Nat) (U : TownV) (s p q : AI), k + d = n → d < fuel → d < fuel' → TX (passA A k) U → TM (passA A k) s → (∀ i, i < 30 → p i = q i) → ∃ (U' : TownV) (s' p' q' : AI), ht_lp17 (fX0_write_b13 RR N U0) fuel (nI o) (nI n) (nI k) p rc U.laws U.kind U.need U.saved U.voice U.partner U.speaks U.count U.day U.heard U.geese U.z = some (p', nI n, U') ∧ ht_lp7 (fX9_prove_b35 RM) fuel' (nI o) (nI n) (nI k) s a q rn = some (nI n, s', a, q', nI n) ∧ (∀ j, j < 57 → s' j = a j) ∧ (∀ i, i < 30 → p' i = q' i) := by
  have h8 := hR.1
  have g : ht_ix (nI o) 8 = true := z_ix (by omega) (by omega)
  have cl : (nI o).toNatClampNeg = o := z_cl (by omega)
  intro d
  induction d with
  | zero =>
    intro k fuel fuel' U s p q hk hf hf' hU hM hpq
    obtain ⟨f, rfl⟩ : ∃ f, fuel = f + 1 := ⟨fuel - 1, by omega⟩
    obtain ⟨f', rfl⟩ : ∃ f, fuel' = f + 1 := ⟨fuel' - 1, by omega⟩
    have c1 : nI n ≤ nI k := by rw [z_le (by omega) (by omega)]; omega
    obtain ⟨s', e1, h1⟩ := m_copyRow a s
    refine ⟨U, s', p, q, ?_, ?_, h1, hpq⟩
    · show fX0_write_b13 RR N U0 (ht_lp17 (fX0_write_b13 RR N U0) f) (nI o) (nI n) (nI k) p rc U.laws U.kind U.need U.saved U.voice U.partner U.speaks U.count U.day U.heard U.geese U.z = _
      unfold fX0_write_b13 fX0_write_b86
      rw [if_pos c1]
    · show fX9_prove_b35 RM (ht_lp7 (fX9_prove_b35 RM) f') (nI o) (nI n) (nI k) s a q rn = _
      unfold fX9_prove_b35 fX9_prove_b90
      rw [if_pos c1, z_bn e1]
  | succ d ih =>
    intro k fuel fuel' U s p q hk hf hf' hU hM hpq
    obtain ⟨f, rfl⟩ : ∃ f, fuel = f + 1 := ⟨fuel - 1, by omega⟩
    obtain ⟨f', rfl⟩ : ∃ f, fuel' = f + 1 := ⟨fuel' - 1, by omega⟩
    have RK := passA_R hR k (by omega)
    have c1 : ¬ nI n ≤ nI k := by rw [z_le (by omega) (by omega)]; omega
    obtain ⟨nd, sv, sp, e1, h1⟩ := x_passDay (T := U.eta) hU RK
    obtain ⟨s1, e2, h2⟩ := m_goesOn (RM := RM.wsr s a q rn) hM RK (passA_A hA k)
    have hok : o < (passA A (k + 1)).n := by rw [passA_n]; exact ho
    have hnd : nd o = nI ((passA A (k + 1)).nd o) := h1.2.2.2.2.2.2.2.1 o hok
    have hsv : sv o = nI ((passA A (k + 1)).sv o) := h1.2.2.2.2.2.2.2.2.1 o hok
    have g0 : ht_ix (nI (3 * k)) 30 = true := z_ix (by omega) (by omega)
    have g1 : ht_ix (nI (3 * k + 1)) 30 = true := z_ix (by omega) (by omega)
    have g2 : ht_ix (nI (3 * k + 2)) 30 = true := z_ix (by omega) (by omega)
    have l0 : (nI (3 * k)).toNatClampNeg = 3 * k := z_cl (by omega)
    have l1 : (nI (3 * k + 1)).toNatClampNeg = 3 * k + 1 := z_cl (by omega)
    have l2 : (nI (3 * k + 2)).toNatClampNeg = 3 * k + 2 := z_cl (by omega)
    have x0 : (nI k * (3 : Int32)) + (0 : Int32) = nI (3 * k) := z_plX k 0
    have x1 : (nI k * (3 : Int32)) + (1 : Int32) = nI (3 * k + 1) := z_plX k 1
    have x2 : (nI k * (3 : Int32)) + (2 : Int32) = nI (3 * k + 2) := z_plX k 2
    have y0 : (3 : Int32) * nI k = nI (3 * k) := z_plM0 k
    have y1 : nI (3 * k) + (1 : Int32) = nI (3 * k + 1) := z_add _ 1
    have y2 : nI (3 * k) + (2 : Int32) = nI (3 * k + 2) := z_add _ 2
    have i1 := fun (q1 : AI) => (m_its (RM := RM.wsr s1 a q1 rn) h2 (by rw [show (dayA (passA A k)).n = A.n from (dayA_n _).trans (passA_n A k)]; exact h8) hok).2.1
    have i2 := fun (q1 : AI) => (m_its (RM := RM.wsr s1 a q1 rn) h2 (by rw [show (dayA (passA A k)).n = A.n from (dayA_n _).trans (passA_n A k)]; exact h8) hok).2.2.1
    obtain ⟨U', s', p', q', e3, e4, h4, h5⟩ := ih (k + 1) f f' (U.laws, U.kind, nd, sv, U.voice, U.partner, sp, U.count, nI (dayA (passA A k)).day, nI (dayA (passA A k)).hrd, nI (dayA (passA A k)).gs, U.z) s1 (upd (upd (upd p (3 * k) (nI ((passA A (k + 1)).nd o))) (3 * k + 1) (nI ((passA A (k + 1)).sv o))) (3 * k + 2) (nI (dSaid (passA A k)))) (upd (upd (upd q (3 * k + 2) (nI (dSaid (passA A k)))) (3 * k) (nI ((passA A (k + 1)).nd o))) (3 * k + 1) (nI ((passA A (k + 1)).sv o))) (by omega) (by omega) (by omega) h1 h2 (up_3 hpq)
    refine ⟨U', s', p', q', Eq.trans ?_ e3, Eq.trans ?_ e4, h4, h5⟩
    · show fX0_write_b13 RR N U0 (ht_lp17 (fX0_write_b13 RR N U0) f) (nI o) (nI n) (nI k) p rc U.laws U.kind U.need U.saved U.voice U.partner U.speaks U.count U.day U.heard U.geese U.z = _
      unfold fX0_write_b13 fX0_placeOf
      rw [if_neg c1, z_bn e1, z_nm, z_bn rfl, z_gd g, x0, z_gd g0, z_nm, z_bn rfl, z_gd g, x1, z_gd g1, z_nm, z_bn rfl, x2, z_gd g2, z_nm, z_nm, cl, l0, l1, l2, nI_1]
      show ht_lp17 (fX0_write_b13 RR N U0) f (nI o) (nI n) (nI (k + 1)) (upd (upd (upd p (3 * k) (nd o)) (3 * k + 1) (sv o)) (3 * k + 2) (nI (dSaid (passA A k)))) rc U.laws U.kind nd sv U.voice U.partner sp U.count _ _ _ U.z = _
      rw [hnd, hsv]
      rfl
    · show fX9_prove_b35 RM (ht_lp7 (fX9_prove_b35 RM) f') (nI o) (nI n) (nI k) s a q rn = _
      unfold fX9_prove_b35
      rw [if_neg c1, z_bn e2, y0, y1, y2, z_gd g2, z_nm, z_bn (i1 _), z_gd g0, z_nm, z_bn (i2 _), z_gd g1, z_nm, z_nm, l0, l1, l2, nI_1]
      rfl
theorem o_prove {RX : HTV} {A : Tn} {T U : TownV} {RR : DayV} {RM : ModV} (h : TI A T RM.s) (hro : RO RR RM) (hB : A.day + 60 < 1000000) (y1 y2 : Int32) : ∃ (r : Int32) (p' : AI) (c' : Int32) (U' : TownV) (s' a' q' : AI) (n' : Int32), fX8_prove RX RR T U y1 y2 = some (r, p', c', U') ∧ fX9_prove RM y1 y2 = some (r, s', a', q', n') ∧ (∀ k, k < 57 → s' k = RM.s k) ∧ (∃ c, c ≤ 10 ∧ c' = nI c ∧ n' = nI c ∧ ∀ i, i < 30 → p' i = q' i) := by
  have hro0 := hro
  obtain ⟨c, hc, r1, r2, r3⟩ := hro
  obtain ⟨hT, hM, hR, hA, hP⟩ := h
  have h8 := hR.1
  rcases z_has (T := T) (RM := RM) hT.1 hM.1 h8 y1 with ⟨w, i⟩ | ⟨o, ho, rfl, w, i⟩
  · refine ⟨-1, RR.numbers, RR.count, U, RM.s, RM.aside, RM.rows, RM.rowN, ?_, ?_, fun _ _ => rfl, hro0⟩
    · unfold fX8_prove; rw [z_bn w, if_pos rfl]
    · unfold fX9_prove; rw [z_bn i, if_pos rfl]
  rcases z_rng y2 1 10 (a := 1) (b := 10) (c := 1) (d := 10) rfl rfl rfl rfl (by omega) (by omega) with ⟨w2, i2⟩ | ⟨n, hn1, hn, rfl, w2, i2⟩
  · refine ⟨-1, RR.numbers, RR.count, U, RM.s, RM.aside, RM.rows, RM.rowN, ?_, ?_, fun _ _ => rfl, hro0⟩
    · unfold fX8_prove; rw [z_bn w, if_neg z_01, z_bn w2, if_pos rfl]
    · unfold fX9_prove; rw [z_bn i, if_neg z_01, z_bn i2, if_pos rfl]
  obtain ⟨T1, e1, h1⟩ := x_copyFrom (T := U) hT hR
  obtain ⟨a, m1, k1⟩ := m_copyRow RM.s RM.aside
  obtain ⟨U', s', p', q', e3, e4, h4, h5⟩ := t_prove (RR := RR) (RM := RM) (N := T) (U0 := U) (a := a) (rc := RR.count) (rn := RM.rowN) hR hA ho hn hB n 0 FU FU T1 RM.s RR.numbers RM.rows (by omega) (by show n < 300; omega) (by show n < 300; omega) h1 hM r3
  have e5 : fX0_write RR T U (nI o) (nI n) = some (p', nI n, U') := by unfold fX0_write; rw [z_bn e1]; exact e3
  refine ⟨nI n, p', nI n, U', s', a, q', nI n, ?_, ?_, fun k hk => (h4 k hk).trans (k1 k hk), n, hn, rfl, rfl, h5⟩
  · unfold fX8_prove; rw [z_bn w, if_neg z_01, z_bn w2, if_neg z_01]; exact z_bn e5
  · unfold fX9_prove; rw [z_bn i, if_neg z_01, z_bn i2, if_neg z_01, z_bn m1]; exact e4
theorem t_judge {A : Tn} {RR : DayV} {RM : ModV} {N U0 : TownV} {a : AI} (hR : WR A) (hA : WA A) {o c : Nat} (ho : o < A.n) (hc : c ≤ 10) (hc1 : RR.count = nI c) (hc2 : RM.rowN = nI c) (hpq : ∀ i, i < 30 → RR.numbers i = RM.rows i) (hd : A.day + 60 < 1000000) : ∀ (d k fuel fuel' : Nat) (U : TownV) (s : AI), k + d = c → d < fuel → d + 1 < fuel' → TX (passA A k) U → TM (passA A k) s → ∃ (r : Int32) (U' : TownV) (s' : AI), ht_lp14 (fX0_firstWrong_b13 RR N U0) fuel (nI o) (nI k) U.laws U.kind U.need U.saved U.voice U.partner U.speaks U.count U.day U.heard U.geese U.z = some (r, U') ∧ ht_lp5 (fX9_judge_b25 RM) fuel' (nI o) (nI k) (1 : Int32) s a = some (r, s', a) ∧ (∀ j, j < 57 → s' j = a j) := by
  have h8 := hR.1
  have g : ht_ix (nI o) 8 = true := z_ix (by omega) (by omega)
  have cl : (nI o).toNatClampNeg = o := z_cl (by omega)
  intro d
  induction d with
  | zero =>
    intro k fuel fuel' U s hk hf hf' hU hM
    obtain ⟨f, rfl⟩ : ∃ f, fuel = f + 1 := ⟨fuel - 1, by omega⟩
    obtain ⟨f', rfl⟩ : ∃ f, fuel' = f + 1 := ⟨fuel' - 1, by omega⟩
    have c1 : nI c ≤ nI k := by rw [z_le (by omega) (by omega)]; omega
    obtain ⟨s', e1, h1⟩ := m_copyRow a s
    refine ⟨0, U, s', ?_, ?_, h1⟩
    · show fX0_firstWrong_b13 RR N U0 (ht_lp14 (fX0_firstWrong_b13 RR N U0) f) (nI o) (nI k) U.laws U.kind U.need U.saved U.voice U.partner U.speaks U.count U.day U.heard U.geese U.z = _
      unfold fX0_firstWrong_b13
      rw [hc1, if_pos c1]
    · show fX9_judge_b25 RM (ht_lp5 (fX9_judge_b25 RM) f') (nI o) (nI k) (1 : Int32) s a = _
      unfold fX9_judge_b25 fX9_judge_b102
      rw [hc2, if_pos c1, z_bn e1, if_neg z_01]
  | succ d ih =>
    intro k fuel fuel' U s hk hf hf' hU hM
    obtain ⟨f, rfl⟩ : ∃ f, fuel = f + 1 := ⟨fuel - 1, by omega⟩
    obtain ⟨f', rfl⟩ : ∃ f, fuel' = f + 1 := ⟨fuel' - 1, by omega⟩
    obtain ⟨f2, rfl⟩ : ∃ f, f' = f + 1 := ⟨f' - 1, by omega⟩
    have RK := passA_R hR k (by omega)
    have c1 : ¬ nI c ≤ nI k := by rw [z_le (by omega) (by omega)]; omega
    obtain ⟨nd, sv, sp, e1, h1⟩ := x_passDay (T := U.eta) hU RK
    obtain ⟨s1, e2, h2⟩ := m_goesOn (RM := RM.wsa s a) hM RK (passA_A hA k)
    have hok : o < (passA A (k + 1)).n := by rw [passA_n]; exact ho
    have hnd : nd o = nI ((passA A (k + 1)).nd o) := h1.2.2.2.2.2.2.2.1 o hok
    have hsv : sv o = nI ((passA A (k + 1)).sv o) := h1.2.2.2.2.2.2.2.2.1 o hok
    have g0 : ht_ix (nI (3 * k)) 30 = true := z_ix (by omega) (by omega)
    have g1 : ht_ix (nI (3 * k + 1)) 30 = true := z_ix (by omega) (by omega)
    have g2 : ht_ix (nI (3 * k + 2)) 30 = true := z_ix (by omega) (by omega)
    have l0 : (nI (3 * k)).toNatClampNeg = 3 * k := z_cl (by omega)
    have l1 : (nI (3 * k + 1)).toNatClampNeg = 3 * k + 1 := z_cl (by omega)
    have l2 : (nI (3 * k + 2)).toNatClampNeg = 3 * k + 2 := z_cl (by omega)
    have x0 : (nI k * (3 : Int32)) + (0 : Int32) = nI (3 * k) := z_plX k 0
    have x1 : (nI k * (3 : Int32)) + (1 : Int32) = nI (3 * k + 1) := z_plX k 1
    have x2 : (nI k * (3 : Int32)) + (2 : Int32) = nI (3 * k + 2) := z_plX k 2
    have y0 : (3 : Int32) * nI k = nI (3 * k) := z_plM0 k
    have y1 : nI (3 * k) + (1 : Int32) = nI (3 * k + 1) := z_add _ 1
    have y2 : nI (3 * k) + (2 : Int32) = nI (3 * k + 2) := z_add _ 2
    have p0 := hpq (3 * k) (by omega)
    have p1 := hpq (3 * k + 1) (by omega)
    have p2 := hpq (3 * k + 2) (by omega)
    have h8k : (dayA (passA A k)).n ≤ 8 := by rw [show (dayA (passA A k)).n = A.n from (dayA_n _).trans (passA_n A k)]; exact h8
    have i1 := (m_its (RM := RM.wsa s1 a) h2 h8k hok).2.1
    have i2 := (m_its (RM := RM.wsa s1 a) h2 h8k hok).2.2.1
    have i1' : fX9_its (RM.wsa s1 a) (nI o) (1 : Int32) = some (nI ((passA A (k + 1)).nd o)) := i1
    have i2' : fX9_its (RM.wsa s1 a) (nI o) (2 : Int32) = some (nI ((passA A (k + 1)).sv o)) := i2
    -- the class: what it compares
    have X : ht_lp14 (fX0_firstWrong_b13 RR N U0) (f + 1) (nI o) (nI k) U.laws U.kind U.need U.saved U.voice U.partner U.speaks U.count U.day U.heard U.geese U.z = (if RM.rows (3 * k) = nI ((passA A (k + 1)).nd o) then (if RM.rows (3 * k + 1) = nI ((passA A (k + 1)).sv o) then (if RM.rows (3 * k + 2) = nI (dSaid (passA A k)) then ht_lp14 (fX0_firstWrong_b13 RR N U0) f (nI o) (nI (k + 1)) U.laws U.kind nd sv U.voice U.partner sp U.count (nI (dayA (passA A k)).day) (nI (dayA (passA A k)).hrd) (nI (dayA (passA A k)).gs) U.z else some (nI (k + 1), U.laws, U.kind, nd, sv, U.voice, U.partner, sp, U.count, nI (dayA (passA A k)).day, nI (dayA (passA A k)).hrd, nI (dayA (passA A k)).gs, U.z)) else some (nI (k + 1), U.laws, U.kind, nd, sv, U.voice, U.partner, sp, U.count, nI (dayA (passA A k)).day, nI (dayA (passA A k)).hrd, nI (dayA (passA A k)).gs, U.z)) else some (nI (k + 1), U.laws, U.kind, nd, sv, U.voice, U.partner, sp, U.count, nI (dayA (passA A k)).day, nI (dayA (passA A k)).hrd, nI (dayA (passA A k)).gs, U.z)) := by
      show fX0_firstWrong_b13 RR N U0 (ht_lp14 (fX0_firstWrong_b13 RR N U0) f) (nI o) (nI k) U.laws U.kind U.need U.saved U.voice U.partner U.speaks U.count U.day U.heard U.geese U.z = _
      unfold fX0_firstWrong_b13 fX0_firstWrong_b90 fX0_placeOf
      rw [hc1, if_neg c1, z_bn e1, z_nm, z_bn rfl, x0, z_gd g0, z_gd g, z_bn rfl, x1, z_gd g1, z_gd g, z_bn rfl, x2, z_gd g2, z_nm, cl, l0, l1, l2, p0, p1, p2, nI_1]
      show (if RM.rows (3 * k) = nd o then (if RM.rows (3 * k + 1) = sv o then _ else _) else _) = _
      rw [hnd, hsv]
    -- the reference: it goes once more round with the answer
    have B : ∀ s2 : AI, ∃ s', ht_lp5 (fX9_judge_b25 RM) (f2 + 1) (nI o) (nI (k + 1)) (0 : Int32) s2 a = some (nI (k + 1), s', a) ∧ (∀ j, j < 57 → s' j = a j) := by
      intro s2
      obtain ⟨s', e5, h5⟩ := m_copyRow a s2
      refine ⟨s', ?_, h5⟩
      show fX9_judge_b25 RM (ht_lp5 (fX9_judge_b25 RM) f2) (nI o) (nI (k + 1)) (0 : Int32) s2 a = _
      unfold fX9_judge_b25 fX9_judge_b102
      rw [z_bn e5, if_pos rfl, if_pos rfl]
      split <;> rfl
    have Y : ht_lp5 (fX9_judge_b25 RM) (f2 + 1 + 1) (nI o) (nI k) (1 : Int32) s a = (if RM.rows (3 * k + 2) = nI (dSaid (passA A k)) then (if RM.rows (3 * k) = nI ((passA A (k + 1)).nd o) then (if RM.rows (3 * k + 1) = nI ((passA A (k + 1)).sv o) then ht_lp5 (fX9_judge_b25 RM) (f2 + 1) (nI o) (nI (k + 1)) (1 : Int32) s1 a else ht_lp5 (fX9_judge_b25 RM) (f2 + 1) (nI o) (nI (k + 1)) (0 : Int32) s1 a) else ht_lp5 (fX9_judge_b25 RM) (f2 + 1) (nI o) (nI (k + 1)) (0 : Int32) s1 a) else ht_lp5 (fX9_judge_b25 RM) (f2 + 1) (nI o) (nI (k + 1)) (0 : Int32) s1 a) := by
      show fX9_judge_b25 RM (ht_lp5 (fX9_judge_b25 RM) (f2 + 1)) (nI o) (nI k) (1 : Int32) s a = _
      unfold fX9_judge_b25 fX9_judge_b94 fX9_judge_b95
      rw [if_neg (show ¬ RM.rowN ≤ nI k by rw [hc2]; exact c1), if_neg z_01, y0, y1, y2, z_gd g2, z_bn e2, z_gd g0, z_bn i1', z_gd g1, z_bn i2', z_nm, z_nm, l0, l1, l2, nI_1]
    rw [X, Y]
    by_cases q2 : RM.rows (3 * k + 2) = nI (dSaid (passA A k))
    · by_cases q0 : RM.rows (3 * k) = nI ((passA A (k + 1)).nd o)
      · by_cases q1 : RM.rows (3 * k + 1) = nI ((passA A (k + 1)).sv o)
        · rw [if_pos q0, if_pos q1, if_pos q2, if_pos q2, if_pos q0, if_pos q1]
          exact ih (k + 1) f (f2 + 1) (U.laws, U.kind, nd, sv, U.voice, U.partner, sp, U.count, nI (dayA (passA A k)).day, nI (dayA (passA A k)).hrd, nI (dayA (passA A k)).gs, U.z) s1 (by omega) (by omega) (by omega) h1 h2
        · rw [if_pos q0, if_neg q1, if_pos q2, if_pos q0, if_neg q1]
          obtain ⟨s', b1, b2⟩ := B s1
          exact ⟨_, _, s', rfl, b1, b2⟩
      · rw [if_neg q0, if_pos q2, if_neg q0]
        obtain ⟨s', b1, b2⟩ := B s1
        exact ⟨_, _, s', rfl, b1, b2⟩
    · rw [if_neg q2, if_neg q2]
      obtain ⟨s', b1, b2⟩ := B s1
      by_cases q0 : RM.rows (3 * k) = nI ((passA A (k + 1)).nd o)
      · by_cases q1 : RM.rows (3 * k + 1) = nI ((passA A (k + 1)).sv o)
        · rw [if_pos q0, if_pos q1]; exact ⟨_, _, s', rfl, b1, b2⟩
        · rw [if_pos q0, if_neg q1]; exact ⟨_, _, s', rfl, b1, b2⟩
      · rw [if_neg q0]; exact ⟨_, _, s', rfl, b1, b2⟩
theorem o_judge {RX : HTV} {A : Tn} {T U : TownV} {RR : DayV} {RM : ModV} (h : TI A T RM.s) (hro : RO RR RM) (hB : A.day + 60 < 1000000) (y1 : Int32) : ∃ (r : Int32) (U' : TownV) (s' a' : AI), fX8_judge RX RR T U y1 = some (r, U') ∧ fX9_judge RM y1 = some (r, s', a') ∧ (∀ k, k < 57 → s' k = RM.s k) := by
  obtain ⟨c, hc, r1, r2, r3⟩ := hro
  obtain ⟨hT, hM, hR, hA, hP⟩ := h
  have h8 := hR.1
  rcases z_has (T := T) (RM := RM) hT.1 hM.1 h8 y1 with ⟨w, i⟩ | ⟨o, ho, rfl, w, i⟩
  · refine ⟨-1, U, RM.s, RM.aside, ?_, ?_, fun _ _ => rfl⟩
    · unfold fX8_judge; rw [z_bn w, if_pos rfl]
    · unfold fX9_judge; rw [z_bn i, if_pos rfl]
  obtain ⟨T1, e1, h1⟩ := x_copyFrom (T := U) hT hR
  obtain ⟨a, m1, k1⟩ := m_copyRow RM.s RM.aside
  obtain ⟨r, U', s', e3, e4, h4⟩ := t_judge (RR := RR) (RM := RM) (N := T) (U0 := U) (a := a) hR hA ho hc r1 r2 r3 hB c 0 FU FU T1 RM.s (by omega) (by show c < 300; omega) (by show c + 1 < 300; omega) h1 hM
  have e5 : fX0_firstWrong RR T U (nI o) = some (r, U') := by unfold fX0_firstWrong; rw [z_bn e1]; exact e3
  refine ⟨r, U', s', a, ?_, ?_, fun k hk => (h4 k hk).trans (k1 k hk)⟩
  · unfold fX8_judge; rw [z_bn w, if_neg z_01]; exact z_bn e5
  · unfold fX9_judge; rw [z_bn i, if_neg z_01, z_bn m1]; exact e4
