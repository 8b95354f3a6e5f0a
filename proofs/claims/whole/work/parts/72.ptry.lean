/-! ===== days tried on a copy ===== -/
theorem TI.same {A : Tn} {T : TownV} {s s' : AI} (h : TI A T s) (e : ∀ k, k < 57 → s' k = s k) : TI A T s' := ⟨h.1, TM.same h.2.1 h.2.2.1.1 e, h.2.2.1, h.2.2.2.1, h.2.2.2.2⟩
theorem o_sound {RX : HTV} {A : Tn} {T U : TownV} {RM : ModV} (h : TI A T RM.s) (hB : A.day + 60 < 1000000) (y1 : Int32) : ∃ (r : Int32) (U' : TownV) (s' a' : AI), fX8_sound RX T U y1 = some (r, U') ∧ fX9_sound RM y1 = some (r, s', a') ∧ (∀ k, k < 57 → s' k = RM.s k) := by
  obtain ⟨hT, hM, hR, hA, hP⟩ := h
  rcases z_rng y1 0 60 (a := 0) (b := 60) (c := 0) (d := 60) rfl rfl rfl rfl (by omega) (by omega) with ⟨w, i⟩ | ⟨n, -, hn, rfl, w, i⟩
  · refine ⟨-1, U, RM.s, RM.aside, ?_, ?_, fun _ _ => rfl⟩
    · unfold fX8_sound; rw [z_bn w, if_pos rfl]
    · unfold fX9_sound; rw [z_bn i, if_pos rfl]
  · obtain ⟨U', ex⟩ := x_soundBy (T := U) hT hR hn (by omega)
    obtain ⟨s', a', em, hm⟩ := m_soundBy hM hR hA hn (by omega)
    refine ⟨nI (totA A n), U', s', a', ?_, ?_, hm⟩
    · unfold fX8_sound; rw [z_bn w, if_neg z_01]; exact z_bn ex
    · unfold fX9_sound; rw [z_bn i, if_neg z_01]; exact z_bn em
abbrev TownV.eta (T : TownV) : TownV := (T.laws, T.kind, T.need, T.saved, T.voice, T.partner, T.speaks, T.count, T.day, T.heard, T.geese, T.z)
theorem t_need {A : Tn} {T : TownV} {RM : ModV} {N U0 : TownV} {a : AI} (hR : WR A) (hA : WA A) (hd : A.day + 61 < 1000000) {o v : Nat} (ho : o < A.n) (hv : v ≤ 99) : ∀ (d k fuel fuel' : Nat) (U : TownV) (s : AI), k + d = 61 → d < fuel → d < fuel' → TX (passA A k) U → TM (passA A k) s → ∃ (r : Int32) (U' : TownV) (s' : AI), ht_lp15 (fX7_daysUntilNeed_b13 N U0) fuel (nI o) (nI v) (nI k) U.laws U.kind U.need U.saved U.voice U.partner U.speaks U.count U.day U.heard U.geese U.z = some (r, U') ∧ ht_lp5 (fX9_needFirst_b13 RM) fuel' (nI o) (nI v) (nI k) s a = some (r, s', a) ∧ (∀ j, j < 57 → s' j = a j) := by
  have h8 := hR.1
  intro d
  induction d with
  | zero =>
    intro k fuel fuel' U s hk hf hf' hU hM
    obtain ⟨f, rfl⟩ : ∃ f, fuel = f + 1 := ⟨fuel - 1, by omega⟩
    obtain ⟨f', rfl⟩ : ∃ f, fuel' = f + 1 := ⟨fuel' - 1, by omega⟩
    have e : k = 61 := by omega
    subst e
    obtain ⟨s', e1, h1⟩ := m_copyRow a s
    have c : (60 : Int32) < nI 61 := by decide
    refine ⟨-3, U, s', ?_, ?_, h1⟩
    · show fX7_daysUntilNeed_b13 N U0 (ht_lp15 (fX7_daysUntilNeed_b13 N U0) f) (nI o) (nI v) (nI 61) U.laws U.kind U.need U.saved U.voice U.partner U.speaks U.count U.day U.heard U.geese U.z = _
      unfold fX7_daysUntilNeed_b13
      rw [if_pos c]
    · show fX9_needFirst_b13 RM (ht_lp5 (fX9_needFirst_b13 RM) f') (nI o) (nI v) (nI 61) s a = _
      unfold fX9_needFirst_b13 fX9_needFirst_b41
      rw [if_pos c, z_bn e1, if_pos c]
  | succ d ih =>
    intro k fuel fuel' U s hk hf hf' hU hM
    obtain ⟨f, rfl⟩ : ∃ f, fuel = f + 1 := ⟨fuel - 1, by omega⟩
    obtain ⟨f', rfl⟩ : ∃ f, fuel' = f + 1 := ⟨fuel' - 1, by omega⟩
    have RK := passA_R hR k (by omega)
    have hok : o < (passA A k).n := by rw [passA_n]; exact ho
    have c : ¬ (60 : Int32) < nI k := by rw [show (60 : Int32) = nI 60 from rfl, z_lt (by omega) (by omega)]; omega
    have g : ht_ix (nI o) 8 = true := z_ix (by omega) (by omega)
    have cl : (nI o).toNatClampNeg = o := z_cl (by omega)
    have hx : U.need o = nI ((passA A k).nd o) := hU.2.2.2.2.2.2.2.1 o hok
    have q2 := (RK.2.2.2.2.2.2.2.2 o hok).2.1
    have m1 := (m_its (RM := RM.wsa s a) hM (by rw [passA_n]; exact h8) hok).2.1
    by_cases z : (passA A k).nd o = v
    · have z' : nI ((passA A k).nd o) = nI v := by rw [z]
      obtain ⟨s', e1, h1⟩ := m_copyRow a s
      refine ⟨nI k, U, s', ?_, ?_, h1⟩
      · show fX7_daysUntilNeed_b13 N U0 (ht_lp15 (fX7_daysUntilNeed_b13 N U0) f) (nI o) (nI v) (nI k) U.laws U.kind U.need U.saved U.voice U.partner U.speaks U.count U.day U.heard U.geese U.z = _
        unfold fX7_daysUntilNeed_b13
        rw [if_neg c, z_gd g, cl, hx, if_pos z']
      · show fX9_needFirst_b13 RM (ht_lp5 (fX9_needFirst_b13 RM) f') (nI o) (nI v) (nI k) s a = _
        unfold fX9_needFirst_b13 fX9_needFirst_b41
        rw [if_neg c, z_bn m1, if_pos z', z_bn e1, if_neg c]
    · have z' : ¬ nI ((passA A k).nd o) = nI v := fun q => z ((z_eq (by omega) (by omega)).mp q)
      obtain ⟨nd, sv, sp, e1, h1⟩ := x_passDay (T := U.eta) hU RK
      obtain ⟨s1, e2, h2⟩ := m_goesOn (RM := RM.wsa s a) hM RK (passA_A hA k)
      obtain ⟨r, U', s', e3, e4, h4⟩ := ih (k + 1) f f' (U.laws, U.kind, nd, sv, U.voice, U.partner, sp, U.count, nI (dayA (passA A k)).day, nI (dayA (passA A k)).hrd, nI (dayA (passA A k)).gs, U.z) s1 (by omega) (by omega) (by omega) h1 h2
      refine ⟨r, U', s', Eq.trans ?_ e3, Eq.trans ?_ e4, h4⟩
      · show fX7_daysUntilNeed_b13 N U0 (ht_lp15 (fX7_daysUntilNeed_b13 N U0) f) (nI o) (nI v) (nI k) U.laws U.kind U.need U.saved U.voice U.partner U.speaks U.count U.day U.heard U.geese U.z = _
        unfold fX7_daysUntilNeed_b13
        rw [if_neg c, z_gd g, cl, hx, if_neg z', z_bn e1, z_nm, nI_1]
      · show fX9_needFirst_b13 RM (ht_lp5 (fX9_needFirst_b13 RM) f') (nI o) (nI v) (nI k) s a = _
        unfold fX9_needFirst_b13
        rw [if_neg c, z_bn m1, if_neg z', z_bn e2, z_nm, z_nm, nI_1]
theorem t_needFirst {A : Tn} {T U : TownV} {RM : ModV} (h : TI A T RM.s) (hB : A.day + 61 < 1000000) {o v : Nat} (ho : o < A.n) (hv : v ≤ 99) : ∃ (r : Int32) (U' : TownV) (s' a' : AI), fX7_daysUntilNeed T U (nI o) (nI v) = some (r, U') ∧ fX9_needFirst RM (nI o) (nI v) = some (r, s', a') ∧ (∀ k, k < 57 → s' k = RM.s k) := by
  obtain ⟨hT, hM, hR, hA, hP⟩ := h
  obtain ⟨T1, e1, h1⟩ := x_copyFrom (T := U) hT hR
  obtain ⟨a, e2, h2⟩ := m_copyRow RM.s RM.aside
  obtain ⟨r, U', s', e3, e4, h4⟩ := t_need (RM := RM) (T := T) (N := T) (U0 := U) (a := a) hR hA hB ho hv 61 0 FU FU T1 RM.s (by omega) (by decide) (by decide) h1 hM
  refine ⟨r, U', s', a, ?_, ?_, fun k hk => (h4 k hk).trans (h2 k hk)⟩
  · unfold fX7_daysUntilNeed; rw [z_bn e1]; exact e3
  · unfold fX9_needFirst; rw [z_bn e2]; exact e4
theorem o_eased {RX : HTV} {A : Tn} {T U : TownV} {RM : ModV} (h : TI A T RM.s) (hB : A.day + 61 < 1000000) (y1 : Int32) : ∃ (r : Int32) (U' : TownV) (s' a' : AI), fX8_eased RX T U y1 = some (r, U') ∧ fX9_eased RM y1 = some (r, s', a') ∧ (∀ k, k < 57 → s' k = RM.s k) := by
  rcases z_has (T := T) (RM := RM) h.1.1 h.2.1.1 h.2.2.1.1 y1 with ⟨w, i⟩ | ⟨o, ho, rfl, w, i⟩
  · refine ⟨-1, U, RM.s, RM.aside, ?_, ?_, fun _ _ => rfl⟩
    · unfold fX8_eased; rw [z_bn w, if_pos rfl]
    · unfold fX9_eased; rw [z_bn i, if_pos rfl]
  · obtain ⟨r, U', s', a', e1, e2, h3⟩ := t_needFirst (U := U) h hB ho (v := 0) (by omega)
    refine ⟨r, U', s', a', ?_, ?_, h3⟩
    · unfold fX8_eased; rw [z_bn w, if_neg z_01]; exact z_bn e1
    · unfold fX9_eased; rw [z_bn i, if_neg z_01]; exact z_bn e2
theorem o_full {RX : HTV} {A : Tn} {T U : TownV} {RM : ModV} (h : TI A T RM.s) (hB : A.day + 61 < 1000000) (y1 : Int32) : ∃ (r : Int32) (U' : TownV) (s' a' : AI), fX8_full RX T U y1 = some (r, U') ∧ fX9_full RM y1 = some (r, s', a') ∧ (∀ k, k < 57 → s' k = RM.s k) := by
  rcases z_has (T := T) (RM := RM) h.1.1 h.2.1.1 h.2.2.1.1 y1 with ⟨w, i⟩ | ⟨o, ho, rfl, w, i⟩
  · refine ⟨-1, U, RM.s, RM.aside, ?_, ?_, fun _ _ => rfl⟩
    · unfold fX8_full; rw [z_bn w, if_pos rfl]
    · unfold fX9_full; rw [z_bn i, if_pos rfl]
  · obtain ⟨r, U', s', a', e1, e2, h3⟩ := t_needFirst (U := U) h hB ho (v := 99) (by omega)
    refine ⟨r, U', s', a', ?_, ?_, h3⟩
    · unfold fX8_full; rw [z_bn w, if_neg z_01]; exact z_bn e1
    · unfold fX9_full; rw [z_bn i, if_neg z_01]; exact z_bn e2
theorem t_hush {A : Tn} {RM : ModV} {N U0 : TownV} {a : AI} (hR : WR A) (hA : WA A) (hd : A.day + 61 < 1000000) : ∀ (d k fuel fuel' : Nat) (U : TownV) (s : AI), k + d = 61 → d < fuel → d < fuel' → TX (passA A k) U → TM (passA A k) s → ∃ (r : Int32) (U' : TownV) (s' : AI), ht_lp13 (fX7_daysUntilHush_b13 N U0) fuel (nI k) U.laws U.kind U.need U.saved U.voice U.partner U.speaks U.count U.day U.heard U.geese U.z = some (r, U') ∧ ht_lp3 (fX9_hush_b13 RM) fuel' (nI k) s a = some (r, s', a) ∧ (∀ j, j < 57 → s' j = a j) := by
  have h8 := hR.1
  intro d
  induction d with
  | zero =>
    intro k fuel fuel' U s hk hf hf' hU hM
    obtain ⟨f, rfl⟩ : ∃ f, fuel = f + 1 := ⟨fuel - 1, by omega⟩
    obtain ⟨f', rfl⟩ : ∃ f, fuel' = f + 1 := ⟨fuel' - 1, by omega⟩
    have e : k = 61 := by omega
    subst e
    obtain ⟨s', e1, h1⟩ := m_copyRow a s
    have c : (60 : Int32) < nI 61 := by decide
    refine ⟨-3, U, s', ?_, ?_, h1⟩
    · show fX7_daysUntilHush_b13 N U0 (ht_lp13 (fX7_daysUntilHush_b13 N U0) f) (nI 61) U.laws U.kind U.need U.saved U.voice U.partner U.speaks U.count U.day U.heard U.geese U.z = _
      unfold fX7_daysUntilHush_b13
      rw [if_pos c]
    · show fX9_hush_b13 RM (ht_lp3 (fX9_hush_b13 RM) f') (nI 61) s a = _
      unfold fX9_hush_b13 fX9_hush_b38
      rw [if_pos c, z_bn e1, if_pos c]
  | succ d ih =>
    intro k fuel fuel' U s hk hf hf' hU hM
    obtain ⟨f, rfl⟩ : ∃ f, fuel = f + 1 := ⟨fuel - 1, by omega⟩
    obtain ⟨f', rfl⟩ : ∃ f, fuel' = f + 1 := ⟨fuel' - 1, by omega⟩
    have RK := passA_R hR k (by omega)
    have h8k : (passA A k).n ≤ 8 := by rw [passA_n]; exact h8
    have c : ¬ (60 : Int32) < nI k := by rw [show (60 : Int32) = nI 60 from rfl, z_lt (by omega) (by omega)]; omega
    have x1 := x_allNeed (T := U.eta) hU RK
    have m1 := m_sumOf (RM := RM.wsa s a) hM RK (w := 1) (g := (passA A k).nd) (fun i hi => (m_its (RM := RM.wsa s a) hM h8k hi).2.1)
    have bd : fb_sm (passA A k).nd (passA A k).n ≤ (passA A k).n * 99 := fb_sm_bound (fun i hi => (RK.2.2.2.2.2.2.2.2 i hi).2.1)
    have bd2 : (passA A k).n * 99 ≤ 8 * 99 := Nat.mul_le_mul_right 99 h8k
    by_cases z : fb_sm (passA A k).nd (passA A k).n = 0
    · obtain ⟨s', e1, h1⟩ := m_copyRow a s
      refine ⟨nI k, U, s', ?_, ?_, h1⟩
      · show fX7_daysUntilHush_b13 N U0 (ht_lp13 (fX7_daysUntilHush_b13 N U0) f) (nI k) U.laws U.kind U.need U.saved U.voice U.partner U.speaks U.count U.day U.heard U.geese U.z = _
        unfold fX7_daysUntilHush_b13
        rw [if_neg c, z_bn x1, z, if_pos (by decide)]
      · show fX9_hush_b13 RM (ht_lp3 (fX9_hush_b13 RM) f') (nI k) s a = _
        unfold fX9_hush_b13 fX9_hush_b38
        rw [if_neg c, z_bn m1, z, if_pos (by decide), z_bn e1, if_neg c]
    · obtain ⟨nd, sv, sp, e1, h1⟩ := x_passDay (T := U.eta) hU RK
      obtain ⟨s1, e2, h2⟩ := m_goesOn (RM := RM.wsa s a) hM RK (passA_A hA k)
      obtain ⟨r, U', s', e3, e4, h4⟩ := ih (k + 1) f f' (U.laws, U.kind, nd, sv, U.voice, U.partner, sp, U.count, nI (dayA (passA A k)).day, nI (dayA (passA A k)).hrd, nI (dayA (passA A k)).gs, U.z) s1 (by omega) (by omega) (by omega) h1 h2
      refine ⟨r, U', s', Eq.trans ?_ e3, Eq.trans ?_ e4, h4⟩
      · show fX7_daysUntilHush_b13 N U0 (ht_lp13 (fX7_daysUntilHush_b13 N U0) f) (nI k) U.laws U.kind U.need U.saved U.voice U.partner U.speaks U.count U.day U.heard U.geese U.z = _
        unfold fX7_daysUntilHush_b13
        rw [if_neg c, z_bn x1, if_neg (z_neL (b := 0) (c := 0) rfl z (by omega) (by omega)), z_bn e1, z_nm, nI_1]
      · show fX9_hush_b13 RM (ht_lp3 (fX9_hush_b13 RM) f') (nI k) s a = _
        unfold fX9_hush_b13
        rw [if_neg c, z_bn m1, if_neg (nI_nle (by omega) (by omega)), z_bn e2, z_nm, z_nm, nI_1]
theorem o_hush {RX : HTV} {A : Tn} {T U : TownV} {RM : ModV} (h : TI A T RM.s) (hB : A.day + 61 < 1000000) : ∃ (r : Int32) (U' : TownV) (s' a' : AI), fX8_hush RX T U = some (r, U') ∧ fX9_hush RM = some (r, s', a') ∧ (∀ k, k < 57 → s' k = RM.s k) := by
  obtain ⟨hT, hM, hR, hA, hP⟩ := h
  obtain ⟨T1, e1, h1⟩ := x_copyFrom (T := U) hT hR
  obtain ⟨a, e2, h2⟩ := m_copyRow RM.s RM.aside
  obtain ⟨r, U', s', e3, e4, h4⟩ := t_hush (RM := RM) (N := T) (U0 := U) (a := a) hR hA hB 61 0 FU FU T1 RM.s (by omega) (by decide) (by decide) h1 hM
  have e5 : fX7_daysUntilHush T U = some (r, U') := by unfold fX7_daysUntilHush; rw [z_bn e1]; exact e3
  refine ⟨r, U', s', a, ?_, ?_, fun k hk => (h4 k hk).trans (h2 k hk)⟩
  · unfold fX8_hush; exact z_bn e5
  · unfold fX9_hush; rw [z_bn e2]; exact e4
