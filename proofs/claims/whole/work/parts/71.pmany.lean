/-! ===== many ===== -/
theorem z_prle {p k : Nat} (hp : p ≤ 8) (hk : k < 8) : nI p - 1 ≤ nI k ↔ p ≤ k + 1 := by
  have e := z_subT (a := p) (b := 1) (by omega) (by omega)
  have e' : (nI p - 1).toInt = (p : Int) - 1 := e
  rw [z_leI, e', z_ti (by omega)]
  omega
theorem x_pairs {A : Tn} {T : TownV} (hT : TX A T) (hR : WR A) : fX6_pairs T = some (nI (fb_ct (fun i => decide (i + 1 < A.pr i)) A.n)) := by
  have h8 := hR.1
  have hn : T.count = nI A.n := hT.1
  have key : ∀ (d k fuel : Nat), k + d = A.n → d < fuel → ht_lp2 (fX6_pairs_b4 T) fuel (nI (fb_ct (fun i => decide (i + 1 < A.pr i)) k)) (nI k) = some (nI (fb_ct (fun i => decide (i + 1 < A.pr i)) A.n)) := by
    intro d
    induction d with
    | zero =>
      intro k fuel hk hf
      obtain ⟨f, rfl⟩ : ∃ f, fuel = f + 1 := ⟨fuel - 1, by omega⟩
      show fX6_pairs_b4 T (ht_lp2 (fX6_pairs_b4 T) f) _ (nI k) = _
      unfold fX6_pairs_b4
      rw [hn, if_pos (by rw [z_le (by omega) (by omega)]; omega), show A.n = k by omega]
    | succ d ih =>
      intro k fuel hk hf
      obtain ⟨f, rfl⟩ : ∃ f, fuel = f + 1 := ⟨fuel - 1, by omega⟩
      have e2 := ih (k + 1) f (by omega) (by omega)
      have hx : T.partner k = nI (A.pr k) - 1 := hT.2.2.2.2.2.2.2.2.2.2.1 k (by omega)
      have q6 := (hR.2.2.2.2.2.2.2.2 k (by omega)).2.2.2.2.2
      rw [fb_ct_succ] at e2
      refine Eq.trans ?_ e2
      show fX6_pairs_b4 T (ht_lp2 (fX6_pairs_b4 T) f) _ (nI k) = _
      unfold fX6_pairs_b4 fX6_pairs_b25
      rw [hn, if_neg (by rw [z_le (by omega) (by omega)]; omega), z_gd (z_ix (by omega) (by omega)), z_cl (by omega), hx]
      by_cases c : A.pr k ≤ k + 1
      · rw [if_pos ((z_prle (by omega) (by omega)).mpr c), z_nm, nI_1, decide_eq_false (show ¬ k + 1 < A.pr k by omega)]
        rfl
      · rw [if_neg (fun z => c ((z_prle (by omega) (by omega)).mp z)), z_nm, z_nm, nI_1, nI_1, decide_eq_true (show k + 1 < A.pr k by omega)]
        rfl
  exact key A.n 0 FU (by omega) (by show A.n < 300; omega)
theorem x_fullOnes {A : Tn} {T : TownV} (hT : TX A T) (hR : WR A) : fX6_fullOnes T = some (nI (fb_ct (fun i => decide (A.nd i = 99)) A.n)) := by
  have h8 := hR.1
  have hn : T.count = nI A.n := hT.1
  have key : ∀ (d k fuel : Nat), k + d = A.n → d < fuel → ht_lp2 (fX6_fullOnes_b4 T) fuel (nI (fb_ct (fun i => decide (A.nd i = 99)) k)) (nI k) = some (nI (fb_ct (fun i => decide (A.nd i = 99)) A.n)) := by
    intro d
    induction d with
    | zero =>
      intro k fuel hk hf
      obtain ⟨f, rfl⟩ : ∃ f, fuel = f + 1 := ⟨fuel - 1, by omega⟩
      show fX6_fullOnes_b4 T (ht_lp2 (fX6_fullOnes_b4 T) f) _ (nI k) = _
      unfold fX6_fullOnes_b4
      rw [hn, if_pos (by rw [z_le (by omega) (by omega)]; omega), show A.n = k by omega]
    | succ d ih =>
      intro k fuel hk hf
      obtain ⟨f, rfl⟩ : ∃ f, fuel = f + 1 := ⟨fuel - 1, by omega⟩
      have e2 := ih (k + 1) f (by omega) (by omega)
      have hx : T.need k = nI (A.nd k) := hT.2.2.2.2.2.2.2.1 k (by omega)
      have q2 := (hR.2.2.2.2.2.2.2.2 k (by omega)).2.1
      rw [fb_ct_succ] at e2
      refine Eq.trans ?_ e2
      show fX6_fullOnes_b4 T (ht_lp2 (fX6_fullOnes_b4 T) f) _ (nI k) = _
      unfold fX6_fullOnes_b4 fX6_fullOnes_b26
      rw [hn, if_neg (by rw [z_le (by omega) (by omega)]; omega), z_gd (z_ix (by omega) (by omega)), z_cl (by omega), hx]
      by_cases c : A.nd k = 99
      · rw [if_pos (show nI (A.nd k) = (99 : Int32) by rw [c]; rfl), z_nm, z_nm, nI_1, nI_1, decide_eq_true c]
        rfl
      · rw [if_neg (z_neL (b := 99) (c := 99) rfl c (by omega) (by omega)), z_nm, nI_1, decide_eq_false c]
        rfl
  exact key A.n 0 FU (by omega) (by show A.n < 300; omega)
theorem m_many1 {A : Tn} {RM : ModV} (hM : TM A RM.s) (hR : WR A) : ht_lp2 (fX9_many_b53 RM) FU (0 : Int32) (0 : Int32) = some (nI (fb_ct (fun i => decide (0 < A.pr i)) A.n / 2)) := by
  have h8 := hR.1
  have g0 : ht_ix (0 : Int32) 57 = true := by decide
  have hs : RM.s ((0 : Int32).toNatClampNeg) = nI A.n := hM.1
  have key : ∀ (d k fuel : Nat), k + d = A.n → d < fuel → ht_lp2 (fX9_many_b53 RM) fuel (nI (fb_ct (fun i => decide (0 < A.pr i)) k)) (nI k) = some (nI (fb_ct (fun i => decide (0 < A.pr i)) A.n / 2)) := by
    intro d
    induction d with
    | zero =>
      intro k fuel hk hf
      obtain ⟨f, rfl⟩ : ∃ f, fuel = f + 1 := ⟨fuel - 1, by omega⟩
      have hle := fb_ct_le (fun i => decide (0 < A.pr i)) k
      show fX9_many_b53 RM (ht_lp2 (fX9_many_b53 RM) f) _ (nI k) = _
      unfold fX9_many_b53 fX9_many_b86
      rw [z_gd g0, hs, if_pos (by rw [z_le (by omega) (by omega)]; omega), show A.n = k by omega]
      exact congrArg some (z_div (d := 2) (by omega) (by omega) (by omega))
    | succ d ih =>
      intro k fuel hk hf
      obtain ⟨f, rfl⟩ : ∃ f, fuel = f + 1 := ⟨fuel - 1, by omega⟩
      have e2 := ih (k + 1) f (by omega) (by omega)
      have m4 := (m_its hM h8 (i := k) (by omega)).2.2.2.2.1
      have q6 := (hR.2.2.2.2.2.2.2.2 k (by omega)).2.2.2.2.2
      rw [fb_ct_succ] at e2
      refine Eq.trans ?_ e2
      show fX9_many_b53 RM (ht_lp2 (fX9_many_b53 RM) f) _ (nI k) = _
      unfold fX9_many_b53 fX9_many_b78
      rw [z_gd g0, hs, if_neg (by rw [z_le (by omega) (by omega)]; omega), z_bn m4]
      by_cases c : 0 < A.pr k
      · rw [if_neg (nI_nle c (by omega)), z_nm, z_nm, nI_1, nI_1, decide_eq_true c]
        rfl
      · have c0 : A.pr k = 0 := by omega
        rw [c0, if_pos (by decide), z_nm, z_nm, nI_1, show (0 : Int32) = nI 0 from rfl, z_add]
        rfl
  exact key A.n 0 FU (by omega) (by show A.n < 300; omega)
theorem m_many3 {A : Tn} {RM : ModV} (hM : TM A RM.s) (hR : WR A) : ht_lp2 (fX9_many_b100 RM) FU (0 : Int32) (0 : Int32) = some (nI (fb_ct (fun i => decide (A.nd i = 99)) A.n)) := by
  have h8 := hR.1
  have g0 : ht_ix (0 : Int32) 57 = true := by decide
  have hs : RM.s ((0 : Int32).toNatClampNeg) = nI A.n := hM.1
  have key : ∀ (d k fuel : Nat), k + d = A.n → d < fuel → ht_lp2 (fX9_many_b100 RM) fuel (nI (fb_ct (fun i => decide (A.nd i = 99)) k)) (nI k) = some (nI (fb_ct (fun i => decide (A.nd i = 99)) A.n)) := by
    intro d
    induction d with
    | zero =>
      intro k fuel hk hf
      obtain ⟨f, rfl⟩ : ∃ f, fuel = f + 1 := ⟨fuel - 1, by omega⟩
      show fX9_many_b100 RM (ht_lp2 (fX9_many_b100 RM) f) _ (nI k) = _
      unfold fX9_many_b100
      rw [z_gd g0, hs, if_pos (by rw [z_le (by omega) (by omega)]; omega), show A.n = k by omega]
    | succ d ih =>
      intro k fuel hk hf
      obtain ⟨f, rfl⟩ : ∃ f, fuel = f + 1 := ⟨fuel - 1, by omega⟩
      have e2 := ih (k + 1) f (by omega) (by omega)
      have m1 := (m_its hM h8 (i := k) (by omega)).2.1
      have q2 := (hR.2.2.2.2.2.2.2.2 k (by omega)).2.1
      rw [fb_ct_succ] at e2
      refine Eq.trans ?_ e2
      show fX9_many_b100 RM (ht_lp2 (fX9_many_b100 RM) f) _ (nI k) = _
      unfold fX9_many_b100 fX9_many_b127
      rw [z_gd g0, hs, if_neg (by rw [z_le (by omega) (by omega)]; omega), z_bn m1]
      by_cases c : A.nd k = 99
      · rw [if_pos (show nI (A.nd k) = (99 : Int32) by rw [c]; rfl), z_nm, z_nm, nI_1, nI_1, decide_eq_true c]
        rfl
      · rw [if_neg (z_neL (b := 99) (c := 99) rfl c (by omega) (by omega)), z_nm, z_nm, nI_1, decide_eq_false c, show (0 : Int32) = nI 0 from rfl, z_add]
        rfl
  exact key A.n 0 FU (by omega) (by show A.n < 300; omega)
theorem z_bits : ∀ m : Fin 256, fX9_size (nI m.val) = fJ6_bitCount_0f7a4 (nI m.val) ∧ (fX9_size (nI m.val)).isSome = true := by decide +kernel
theorem o_many {RX : HTV} {A : Tn} {T : TownV} {RM : ModV} {RR : DayV} {RA : TapeV} {RE : DeedV} (h : TI A T RM.s) (hr : RR.count = RM.rowN) (ha : RA.length = RM.taped) (he : RE.begun = RM.ran) (y1 : Int32) : ∃ r, fX8_many RX T RR RA RE y1 = some r ∧ fX9_many RM y1 = some r := by
  obtain ⟨hT, hM, hR, hA, hP⟩ := h
  have h8 := hR.1
  have g0 : ht_ix (0 : Int32) 57 = true := by decide
  have s0 : RM.s ((0 : Int32).toNatClampNeg) = nI A.n := hM.1
  have t0 : T.count = nI A.n := hT.1
  have x1 := x_pairs hT hR
  have x2 := x_speakers hT hR
  have x3 := x_fullOnes hT hR
  have m1 := m_many1 hM hR
  have m2 := m_speakers hM hR
  have m3 := m_many3 hM hR
  have hp : fb_ct (fun i => decide (0 < A.pr i)) A.n / 2 = fb_ct (fun i => decide (i + 1 < A.pr i)) A.n := by
    have h1 := ct_pairs hR hP A.n (Nat.le_refl _)
    have h2 : fb_ct (fun i => decide (A.n < A.pr i)) A.n = 0 := fb_ct_zero.mpr (fun i hi => decide_eq_false (by
      have := (hR.2.2.2.2.2.2.2.2 i hi).2.2.2.2.2
      omega))
    omega
  rw [hp] at m1
  have hlt : spkN A A.n < 256 := Nat.lt_of_lt_of_le (spkN_lt A A.n) (Nat.pow_le_pow_right (by decide) h8)
  obtain ⟨zb, zs⟩ := z_bits ⟨spkN A A.n, hlt⟩
  obtain ⟨v, hv⟩ := Option.isSome_iff_exists.mp zs
  have hv' : fX9_size (nI (spkN A A.n)) = some v := hv
  have hb' : fJ6_bitCount_0f7a4 (nI (spkN A A.n)) = some v := zb.symm.trans hv
  unfold fX8_many fX9_many
  by_cases c0 : y1 = 0
  · rw [if_pos c0, if_pos c0, z_gd g0, s0, t0]; exact ⟨_, rfl, rfl⟩
  by_cases c1 : y1 = 1
  · rw [if_neg c0, if_neg c0, if_pos c1, if_pos c1, z_bn x1, m1]; exact ⟨_, rfl, rfl⟩
  by_cases c2 : y1 = 2
  · rw [if_neg c0, if_neg c0, if_neg c1, if_neg c1, if_pos c2, if_pos c2, z_bn x2, z_bn m2, z_bn hb', z_bn hv']; exact ⟨_, rfl, rfl⟩
  by_cases c3 : y1 = 3
  · rw [if_neg c0, if_neg c0, if_neg c1, if_neg c1, if_neg c2, if_neg c2, if_pos c3, if_pos c3, z_bn x3, m3]; exact ⟨_, rfl, rfl⟩
  by_cases c4 : y1 = 4
  · rw [if_neg c0, if_neg c0, if_neg c1, if_neg c1, if_neg c2, if_neg c2, if_neg c3, if_neg c3, if_pos c4, if_pos c4, hr]; exact ⟨_, rfl, rfl⟩
  by_cases c5 : y1 = 5
  · rw [if_neg c0, if_neg c0, if_neg c1, if_neg c1, if_neg c2, if_neg c2, if_neg c3, if_neg c3, if_neg c4, if_neg c4, if_pos c5, if_pos c5, ha]; exact ⟨_, rfl, rfl⟩
  by_cases c6 : y1 = 6
  · rw [if_neg c0, if_neg c0, if_neg c1, if_neg c1, if_neg c2, if_neg c2, if_neg c3, if_neg c3, if_neg c4, if_neg c4, if_neg c5, if_neg c5, if_pos c6, if_pos c6, he]; exact ⟨_, rfl, rfl⟩
  rw [if_neg c0, if_neg c0, if_neg c1, if_neg c1, if_neg c2, if_neg c2, if_neg c3, if_neg c3, if_neg c4, if_neg c4, if_neg c5, if_neg c5, if_neg c6, if_neg c6]
  exact ⟨_, rfl, rfl⟩
