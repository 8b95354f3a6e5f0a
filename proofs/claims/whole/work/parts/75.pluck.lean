theorem dayA_z (A : Tn) : (dayA A).z = A.z := (chgN_F _ _).2.2.2.2.2.2.2.trans ((saveN_F _ _).2.2.2.2.2.2.2.trans ((sayN_F _ _).2.2.2.2.2.2.2.trans (growN_F _ _).2.2.2.2.2.2.2))
theorem o_day {RX : HTV} {A : Tn} {T : TownV} {RM : ModV} (h : TI A T RM.s) (hB : A.day + 60 < 1000000) : ∃ r b c e f dy hr gs z s' A', fX8_day RX T = some (r, b, c, e, f, dy, hr, gs, z) ∧ fX9_day RM = some (r, s') ∧ TI A' (T.wall b c e f dy hr gs z) s' ∧ A'.day ≤ A.day + 60 := by
  obtain ⟨hT, hM, hR, hA, hP⟩ := h
  obtain ⟨DR, DA, DP, Dn, Dd⟩ := drawA_W hR hA hP
  obtain ⟨b, c, e, f, dy, hr, gs, ex, hx⟩ := x_drawDay hT hR hA hP
  obtain ⟨s', em, hm⟩ := m_drawDay hM hR hA hP
  refine ⟨nI (dSaid (drawA A)), b, c, e, f, dy, hr, gs, (drawA A).z, s', dayA (drawA A), z_bn ex, em, ⟨hx, hm, dayA_R DR (by rw [Dd]; omega), dayA_A DA, dayA_P DP⟩, by rw [dayA_day, Dd]; omega⟩
theorem t_luck {A : Tn} {RM : ModV} {N U0 : TownV} {a : AI} (hN : TX A N) (hM : TM A RM.s) (hR : WR A) (hA : WA A) (hP : WP A) (ha : ∀ j, j < 57 → a j = RM.s j) {n due : Nat} (hn : n ≤ 30) (hdue : due ≤ 576) (hd : A.day + 60 < 1000000) : ∀ (d k m fuel fuel' : Nat) (U : TownV) (s : AI) (zz : Int32), k + d = n → m ≤ k → d < fuel → d < fuel' → ∃ (r : Int32) (U' : TownV) (s' : AI), ht_lp17 (fX7_luckyDays_b33 N U0) fuel (nI n) (nI due) zz (nI m) (nI k) U.laws U.kind U.need U.saved U.voice U.partner U.speaks U.count U.day U.heard U.geese U.z = some (r, U') ∧ ht_lp7 (fX9_luck_b43 RM) fuel' (nI n) (nI due) zz (nI m) (nI k) s a = some (r, s', a) ∧ (∀ j, j < 57 → s' j = RM.s j) := by
  have h8 := hR.1
  have g2 : ht_ix (2 : Int32) 57 = true := by decide
  have c2 : ((2 : Int32).toNatClampNeg) = 2 := rfl
  intro d
  induction d with
  | zero =>
    intro k m fuel fuel' U s zz hk hm hf hf'
    obtain ⟨f, rfl⟩ : ∃ f, fuel = f + 1 := ⟨fuel - 1, by omega⟩
    obtain ⟨f', rfl⟩ : ∃ f, fuel' = f + 1 := ⟨fuel' - 1, by omega⟩
    have c1 : nI n ≤ nI k := by rw [z_le (by omega) (by omega)]; omega
    obtain ⟨s', e1, h1⟩ := m_copyRow a s
    refine ⟨nI m, U, s', ?_, ?_, fun j hj => (h1 j hj).trans (ha j hj)⟩
    · show fX7_luckyDays_b33 N U0 (ht_lp17 (fX7_luckyDays_b33 N U0) f) (nI n) (nI due) zz (nI m) (nI k) U.laws U.kind U.need U.saved U.voice U.partner U.speaks U.count U.day U.heard U.geese U.z = _
      unfold fX7_luckyDays_b33 fX7_luckyDays_b86
      rw [if_pos c1]
    · show fX9_luck_b43 RM (ht_lp7 (fX9_luck_b43 RM) f') (nI n) (nI due) zz (nI m) (nI k) s a = _
      unfold fX9_luck_b43 fX9_luck_b98
      rw [if_pos c1, z_bn e1]
  | succ d ih =>
    intro k m fuel fuel' U s zz hk hm hf hf'
    obtain ⟨f, rfl⟩ : ∃ f, fuel = f + 1 := ⟨fuel - 1, by omega⟩
    obtain ⟨f', rfl⟩ : ∃ f, fuel' = f + 1 := ⟨fuel' - 1, by omega⟩
    have c1 : ¬ nI n ≤ nI k := by rw [z_le (by omega) (by omega)]; omega
    have hRz : WR (A.wz zz) := hR
    have hAz : WA (A.wz zz) := hA
    have hPz : WP (A.wz zz) := hP
    obtain ⟨T1, e1, h1⟩ := x_copyFrom (T := U.eta) hN hR
    have h1z : TX (A.wz zz) (T1.wz zz) := TX.z h1
    obtain ⟨nd, sv, pr, sp, dy, hr, gs, e2, h2⟩ := x_drawDay h1z hRz hAz hPz
    obtain ⟨s1, m1, k1⟩ := m_copyRow a s
    have hMz : TM (A.wz zz) (upd s1 2 zz) := TM.z (v := zz) (TM.same hM h8 (fun j hj => (k1 j hj).trans (ha j hj)))
    obtain ⟨s2, m2, k2⟩ := m_drawDay (RM := RM.wsa (upd s1 2 zz) a) hMz hRz hAz hPz
    have z2 : s2 2 = (drawA (A.wz zz)).z := k2.2.2.2.2.1.trans (dayA_z _)
    have hsd := dSaid_le (drawA_W hRz hAz hPz).1
    by_cases c : dSaid (drawA (A.wz zz)) ≤ due
    · have c' : nI (dSaid (drawA (A.wz zz))) ≤ nI due := (z_le (by omega) (by omega)).mpr c
      obtain ⟨r, U', s', e5, e6, h6⟩ := ih (k + 1) m f f' (T1.laws, T1.kind, nd, sv, T1.voice, pr, sp, T1.count, dy, hr, gs, (drawA (A.wz zz)).z) s2 (drawA (A.wz zz)).z (by omega) (by omega) (by omega) (by omega)
      refine ⟨r, U', s', Eq.trans ?_ e5, Eq.trans ?_ e6, h6⟩
      · show fX7_luckyDays_b33 N U0 (ht_lp17 (fX7_luckyDays_b33 N U0) f) (nI n) (nI due) zz (nI m) (nI k) U.laws U.kind U.need U.saved U.voice U.partner U.speaks U.count U.day U.heard U.geese U.z = _
        unfold fX7_luckyDays_b33 fX7_luckyDays_b72
        rw [if_neg c1, z_bn e1]
        refine Eq.trans (z_bn e2) ?_
        rw [if_pos c', z_nm, nI_1]
      · show fX9_luck_b43 RM (ht_lp7 (fX9_luck_b43 RM) f') (nI n) (nI due) zz (nI m) (nI k) s a = _
        unfold fX9_luck_b43 fX9_luck_b82
        rw [if_neg c1, z_bn m1, z_gd g2, z_nm, c2, z_bn m2, if_pos c', z_nm, z_gd g2, z_nm, z_nm, nI_1]
        show ht_lp7 (fX9_luck_b43 RM) f' (nI n) (nI due) (s2 2) (nI m + nI 0) (nI (k + 1)) s2 a = _
        rw [z2, z_add]
        rfl
    · have c' : ¬ nI (dSaid (drawA (A.wz zz))) ≤ nI due := fun q => c ((z_le (by omega) (by omega)).mp q)
      obtain ⟨r, U', s', e5, e6, h6⟩ := ih (k + 1) (m + 1) f f' (T1.laws, T1.kind, nd, sv, T1.voice, pr, sp, T1.count, dy, hr, gs, (drawA (A.wz zz)).z) s2 (drawA (A.wz zz)).z (by omega) (by omega) (by omega) (by omega)
      refine ⟨r, U', s', Eq.trans ?_ e5, Eq.trans ?_ e6, h6⟩
      · show fX7_luckyDays_b33 N U0 (ht_lp17 (fX7_luckyDays_b33 N U0) f) (nI n) (nI due) zz (nI m) (nI k) U.laws U.kind U.need U.saved U.voice U.partner U.speaks U.count U.day U.heard U.geese U.z = _
        unfold fX7_luckyDays_b33 fX7_luckyDays_b72
        rw [if_neg c1, z_bn e1]
        refine Eq.trans (z_bn e2) ?_
        rw [if_neg c', z_nm, z_nm, nI_1, nI_1]
      · show fX9_luck_b43 RM (ht_lp7 (fX9_luck_b43 RM) f') (nI n) (nI due) zz (nI m) (nI k) s a = _
        unfold fX9_luck_b43 fX9_luck_b82
        rw [if_neg c1, z_bn m1, z_gd g2, z_nm, c2, z_bn m2, if_neg c', z_nm, z_gd g2, z_nm, z_nm, nI_1, nI_1]
        show ht_lp7 (fX9_luck_b43 RM) f' (nI n) (nI due) (s2 2) (nI (m + 1)) (nI (k + 1)) s2 a = _
        rw [z2]
        rfl
theorem o_luck {RX : HTV} {A : Tn} {T U : TownV} {RM : ModV} (h : TI A T RM.s) (hB : A.day + 60 < 1000000) (y1 : Int32) : ∃ (r : Int32) (U' : TownV) (s' a' : AI), fX8_luck RX T U y1 = some (r, U') ∧ fX9_luck RM y1 = some (r, s', a') ∧ (∀ k, k < 57 → s' k = RM.s k) := by
  obtain ⟨hT, hM, hR, hA, hP⟩ := h
  have h8 := hR.1
  have g2 : ht_ix (2 : Int32) 57 = true := by decide
  have c2 : ((2 : Int32).toNatClampNeg) = 2 := rfl
  rcases z_rng y1 1 30 (a := 1) (b := 30) (c := 1) (d := 30) rfl rfl rfl rfl (by omega) (by omega) with ⟨w, i⟩ | ⟨n, hn1, hn, rfl, w, i⟩
  · refine ⟨-1, U, RM.s, RM.aside, ?_, ?_, fun _ _ => rfl⟩
    · unfold fX8_luck; rw [z_bn w, if_pos rfl]
    · unfold fX9_luck; rw [z_bn i, if_pos rfl]
  obtain ⟨T1, e1, h1⟩ := x_copyFrom (T := U) hT hR
  obtain ⟨nd, sv, sp, e2, h2⟩ := x_passDay (T := T1.eta) h1 hR
  obtain ⟨a, m1, k1⟩ := m_copyRow RM.s RM.aside
  obtain ⟨s2, m2, k2⟩ := m_goesOn (RM := RM.wsa RM.s a) hM hR hA
  have hz : T.z = A.z := hT.2.2.2.2.1
  have az : a 2 = A.z := (k1 2 (by omega)).trans hM.2.2.2.2.1
  obtain ⟨r, U', s', e5, e6, h6⟩ := t_luck (RM := RM) (N := T) (U0 := U) hT hM hR hA hP k1 hn (dSaid_le hR) hB n 0 0 FU FU (T1.laws, T1.kind, nd, sv, T1.voice, T1.partner, sp, T1.count, nI (dayA A).day, nI (dayA A).hrd, nI (dayA A).gs, T1.z) s2 A.z (by omega) (Nat.le_refl _) (by show n < 300; omega) (by show n < 300; omega)
  have e7 : fX7_luckyDays T U (nI n) = some (r, U') := by
    unfold fX7_luckyDays
    rw [z_bn e1]
    refine Eq.trans (z_bn e2) ?_
    rw [z_nm, z_nm, hz]
    exact e5
  refine ⟨r, U', s', a, ?_, ?_, h6⟩
  · unfold fX8_luck; rw [z_bn w, if_neg z_01]; exact z_bn e7
  · unfold fX9_luck; rw [z_bn i, if_neg z_01, z_bn m1, z_bn m2, z_nm, z_gd g2, z_nm, c2, az]; exact e6
/-! ===== rows of days ===== -/
/-- both hold the same rows -/
def RO (RR : DayV) (RM : ModV) : Prop := ∃ c, c ≤ 10 ∧ RR.count = nI c ∧ RM.rowN = nI c ∧ ∀ i, i < 30 → RR.numbers i = RM.rows i
