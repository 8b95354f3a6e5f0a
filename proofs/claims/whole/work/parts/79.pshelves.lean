/-! ===== minds ===== -/
theorem z_clamp (v : Int32) : ∃ c, c ≤ 99 ∧ (if (0 : Int32) < (if v < (99 : Int32) then v else (99 : Int32)) then (if v < (99 : Int32) then v else (99 : Int32)) else (0 : Int32)) = nI c ∧ fX9_within v = some (nI c) := by
  have e0 : ((0 : Int32).toInt) = 0 := by decide
  have e99 : ((99 : Int32).toInt) = 99 := by decide
  unfold fX9_within
  by_cases h0 : v < 0
  · have q : v.toInt < 0 := by rw [z_ltI, e0] at h0; exact h0
    refine ⟨0, by omega, ?_, ?_⟩
    · rw [if_pos (show v < (99 : Int32) by rw [z_ltI, e99]; omega), if_neg (show ¬ (0 : Int32) < v by rw [z_ltI, e0]; omega)]; rfl
    · rw [if_neg (show ¬ 0 ≤ v by rw [z_leI, e0]; omega)]; rfl
  · obtain ⟨j, hj, rfl⟩ := nI_of h0
    have t := nI_toInt hj
    have p0 : 0 ≤ nI j := nI_pos' hj
    by_cases h1 : j < 99
    · refine ⟨j, by omega, ?_, ?_⟩
      · rw [if_pos (show nI j < (99 : Int32) by rw [z_ltI, e99, t]; omega)]
        by_cases h2 : j = 0
        · subst h2; rfl
        · rw [if_pos (show (0 : Int32) < nI j by rw [z_ltI, e0, t]; omega)]
      · rw [if_pos p0, if_pos (show nI j ≤ (99 : Int32) by rw [z_leI, e99, t]; omega)]
    · refine ⟨99, by omega, ?_, ?_⟩
      · rw [if_neg (show ¬ nI j < (99 : Int32) by rw [z_ltI, e99, t]; omega), if_pos (by decide)]; rfl
      · rw [if_pos p0]
        by_cases h2 : j = 99
        · subst h2; rw [if_pos (by decide)]
        · rw [if_neg (show ¬ nI j ≤ (99 : Int32) by rw [z_leI, e99, t]; omega)]; rfl
theorem o_minds_n {RX : HTV} {G : AQ} {A : Tn} {T : TownV} {RM : ModV} (hI : TI A T RM.s) {y1 : Int32} (y2 y3 y4 : Int32) (h : ∀ t, t < 4 → y1 = nI t → G t = none ∧ RM.sortOf t = -1) : ∃ r, fX8_minds_n RX T G y1 y2 y3 y4 = some r ∧ fX9_minds RM y1 y2 y3 y4 = some (r, RM.s) := by
  obtain ⟨hT, hM, hR, hA, hP⟩ := hI
  have h8 := hR.1
  rcases z_four y1 with ⟨a, -, b, -, -⟩ | ⟨t, ht, e, a, -, b, -, g, c⟩
  · refine ⟨-1, ?_, ?_⟩
    · unfold fX8_minds_n; rw [z_bn a, if_pos rfl]
    · unfold fX9_minds; rw [z_bn b, if_pos rfl]
  obtain ⟨h1, h2⟩ := h t ht e
  rcases z_has (T := T) (RM := RM) hT.1 hM.1 h8 y3 with ⟨w3, i3⟩ | ⟨o, ho, rfl, w3, i3⟩
  · refine ⟨-1, ?_, ?_⟩
    · unfold fX8_minds_n; rw [z_bn a, if_neg z_01, z_bn w3, if_pos rfl]
    · unfold fX9_minds; rw [z_bn b, if_neg z_01, z_bn i3, if_pos rfl]
  rcases z_rng y4 0 8 (a := 0) (b := 8) (c := 0) (d := 8) rfl rfl rfl rfl (by omega) (by omega) with ⟨w4, i4⟩ | ⟨n, -, hn, rfl, w4, i4⟩
  · refine ⟨-1, ?_, ?_⟩
    · unfold fX8_minds_n; rw [z_bn a, if_neg z_01, z_bn w3, if_neg z_01, z_bn w4, if_pos rfl]
    · unfold fX9_minds; rw [z_bn b, if_neg z_01, z_bn i3, if_neg z_01, z_bn i4, if_pos rfl]
  have g0 : ht_ix (0 : Int32) 57 = true := by decide
  have hs : RM.s ((0 : Int32).toNatClampNeg) = nI A.n := hM.1
  have hc : T.count = nI A.n := hT.1
  by_cases le : nI (o + n) ≤ nI A.n
  · have L : fX9_lacks RM y1 (0 : Int32) = some (-11) := by unfold fX9_lacks; rw [z_gd g, c, h2, if_neg (by decide)]
    refine ⟨-11, ?_, ?_⟩
    · unfold fX8_minds_n; rw [z_bn a, if_neg z_01, z_bn w3, if_neg z_01, z_bn w4, if_neg z_01, z_add, hc, if_pos le, z_gd g, c, z_gd (decide_eq_true h1)]
    · unfold fX9_minds; rw [z_bn b, if_neg z_01, z_bn i3, if_neg z_01, z_bn i4, if_neg z_01, z_gd g0, hs, z_add, if_pos le, z_bn L, if_neg (by decide), z_bn L]
  · refine ⟨-1, ?_, ?_⟩
    · unfold fX8_minds_n; rw [z_bn a, if_neg z_01, z_bn w3, if_neg z_01, z_bn w4, if_neg z_01, z_add, hc, if_neg le]
    · unfold fX9_minds; rw [z_bn b, if_neg z_01, z_bn i3, if_neg z_01, z_bn i4, if_neg z_01, z_gd g0, hs, z_add, if_neg le]
theorem t_minds {RX : HTV} {G : AQ} {T : TownV} {RM : ModV} {jW t q i o n N : Nat} {W : RowV} (ht : t < 4) (hr : SHr W q RM.sortOf RM.sizeOf RM.numbers t) (hin : i + n ≤ W.len) (hon : o + n ≤ N) (hN : N ≤ 8) : ∀ (d k fuel fuel' : Nat) (A : Tn) (need s : AI), k + d = n → d < fuel → d < fuel' → A.n = N → TI A (T.wns need T.saved) s → ∃ (A' : Tn) (need' s' : AI), ht_lp5 (fX8_minds_s_b105 jW RX T G W) fuel (nI i) (nI o) (nI n) (nI k) need = some (nI n, need') ∧ ht_lp6 (fX9_minds_b98 RM) fuel' (nI t) (nI i) (nI o) (nI n) (nI k) s = some (nI n, s') ∧ TI A' (T.wns need' T.saved) s' ∧ A'.day = A.day := by
  obtain ⟨hs, hq, hso, hl, hz, hi⟩ := hr
  intro d
  induction d with
  | zero =>
    intro k fuel fuel' A need s hk hf hf' hA hI
    obtain ⟨f, rfl⟩ : ∃ f, fuel = f + 1 := ⟨fuel - 1, by omega⟩
    obtain ⟨f', rfl⟩ : ∃ f, fuel' = f + 1 := ⟨fuel' - 1, by omega⟩
    have c : nI n ≤ nI k := nI_le (by omega) (by omega)
    refine ⟨A, need, s, ?_, ?_, hI, rfl⟩
    · show fX8_minds_s_b105 jW RX T G W (ht_lp5 (fX8_minds_s_b105 jW RX T G W) f) (nI i) (nI o) (nI n) (nI k) need = _
      unfold fX8_minds_s_b105 fX8_minds_s_b154
      rw [if_pos c]
    · show fX9_minds_b98 RM (ht_lp6 (fX9_minds_b98 RM) f') (nI t) (nI i) (nI o) (nI n) (nI k) s = _
      unfold fX9_minds_b98 fX9_minds_b145
      rw [if_pos c]
  | succ d ih =>
    intro k fuel fuel' A need s hk hf hf' hA hI
    obtain ⟨f, rfl⟩ : ∃ f, fuel = f + 1 := ⟨fuel - 1, by omega⟩
    obtain ⟨f', rfl⟩ : ∃ f, fuel' = f + 1 := ⟨fuel' - 1, by omega⟩
    have c : ¬ nI n ≤ nI k := nI_ge (by omega) (by omega)
    obtain ⟨hT, hM, hR, hWA, hP⟩ := hI
    have hok : o + k < A.n := by omega
    obtain ⟨v, hv, e1, e2⟩ := z_clamp (RM.numbers (40 * t + i + k))
    have hit : (W.items (i + k)).toInt32 = RM.numbers (40 * t + i + k) := by
      rw [hi (i + k) (by omega), Int32.toInt32_toInt64, Nat.add_assoc]
    have gW : ht_ix (nI (i + k)) W.len = true := z_ix (by omega) (by omega)
    have cW : (nI (i + k)).toNatClampNeg = i + k := z_cl (by omega)
    have g8 : ht_ix (nI (o + k)) 8 = true := z_ix (by omega) (by omega)
    have c8 : (nI (o + k)).toNatClampNeg = o + k := z_cl (by omega)
    have g160 : ht_ix (nI (40 * t + i + k)) 160 = true := z_ix (by omega) (by omega)
    have c160 : (nI (40 * t + i + k)).toNatClampNeg = 40 * t + i + k := z_cl (by omega)
    have e3 : ((9 : Int32) + ((6 : Int32) * nI (o + k))) + (1 : Int32) = nI (9 + 6 * (o + k) + 1) := z_at (o + k) 1
    have g57 : ht_ix (nI (9 + 6 * (o + k) + 1)) 57 = true := z_ix (by omega) (by omega)
    have c57 : (nI (9 + 6 * (o + k) + 1)).toNatClampNeg = 9 + 6 * (o + k) + 1 := z_cl (by omega)
    obtain ⟨A', n', s', x1, x2, x3, x4⟩ := ih (k + 1) f f' (A.wnd (va_up A.nd (o + k) v)) (upd need (o + k) (nI v)) (upd s (9 + 6 * (o + k) + 1) (nI v)) (by omega) (by omega) (by omega) hA ⟨TX.nd (T := T.wns need T.saved) hT, TM.nd hM hok, WR.nd hR hv, hWA, hP⟩
    refine ⟨A', n', s', Eq.trans ?_ x1, Eq.trans ?_ x2, x3, x4⟩
    · show fX8_minds_s_b105 jW RX T G W (ht_lp5 (fX8_minds_s_b105 jW RX T G W) f) (nI i) (nI o) (nI n) (nI k) need = _
      unfold fX8_minds_s_b105
      rw [if_neg c, z_add, z_add, z_gd gW, cW, hit, z_nm, e1, z_gd g8, z_nm, z_nm, c8, nI_1]
    · show fX9_minds_b98 RM (ht_lp6 (fX9_minds_b98 RM) f') (nI t) (nI i) (nI o) (nI n) (nI k) s = _
      unfold fX9_minds_b98
      rw [if_neg c, z_40, z_add, z_add, z_gd g160, c160, z_bn e2, e3, z_gd g57, z_nm, z_nm, c57, nI_1]
theorem o_minds_s {RX : HTV} {G : AQ} {A : Tn} {T : TownV} {RM : ModV} (hI : TI A T RM.s) {jW t q : Nat} {W : RowV} (ht : t < 4) (hG : G t = some jW) (hr : SHr W q RM.sortOf RM.sizeOf RM.numbers t) (y2 y3 y4 : Int32) : ∃ (r : Int32) (b s' : AI) (A' : Tn), fX8_minds_s jW RX T G W (nI t) y2 y3 y4 = some (r, b) ∧ fX9_minds RM (nI t) y2 y3 y4 = some (r, s') ∧ TI A' (T.wns b T.saved) s' ∧ A'.day = A.day := by
  have hI0 : TI A (T.wns T.need T.saved) RM.s := hI
  have hr0 := hr
  obtain ⟨hs, hq, hso, hl, hz, hi⟩ := hr
  obtain ⟨hT, hM, hR, hA, hP⟩ := hI
  have h8 := hR.1
  obtain ⟨a, -, b, -, g, c⟩ := z_fourI ht
  rcases z_has (T := T) (RM := RM) hT.1 hM.1 h8 y3 with ⟨w3, i3⟩ | ⟨o, ho, rfl, w3, i3⟩
  · refine ⟨-1, T.need, RM.s, A, ?_, ?_, hI0, rfl⟩
    · unfold fX8_minds_s; rw [z_bn a, if_neg z_01, z_bn w3, if_pos rfl]
    · unfold fX9_minds; rw [z_bn b, if_neg z_01, z_bn i3, if_pos rfl]
  rcases z_rng y4 0 8 (a := 0) (b := 8) (c := 0) (d := 8) rfl rfl rfl rfl (by omega) (by omega) with ⟨w4, i4⟩ | ⟨n, -, hn, rfl, w4, i4⟩
  · refine ⟨-1, T.need, RM.s, A, ?_, ?_, hI0, rfl⟩
    · unfold fX8_minds_s; rw [z_bn a, if_neg z_01, z_bn w3, if_neg z_01, z_bn w4, if_pos rfl]
    · unfold fX9_minds; rw [z_bn b, if_neg z_01, z_bn i3, if_neg z_01, z_bn i4, if_pos rfl]
  have g0 : ht_ix (0 : Int32) 57 = true := by decide
  have hs0 : RM.s ((0 : Int32).toNatClampNeg) = nI A.n := hM.1
  have hc : T.count = nI A.n := hT.1
  by_cases le : ¬ nI (o + n) ≤ nI A.n
  · refine ⟨-1, T.need, RM.s, A, ?_, ?_, hI0, rfl⟩
    · unfold fX8_minds_s; rw [z_bn a, if_neg z_01, z_bn w3, if_neg z_01, z_bn w4, if_neg z_01, z_add, hc, if_neg le]
    · unfold fX9_minds; rw [z_bn b, if_neg z_01, z_bn i3, if_neg z_01, z_bn i4, if_neg z_01, z_gd g0, hs0, z_add, if_neg le]
  replace le := Decidable.not_not.mp le
  have hon : o + n ≤ A.n := (z_le (by omega) (by omega)).mp le
  have L : fX9_lacks RM (nI t) (0 : Int32) = some (if q = 0 then 0 else -13) := m_lacks (p := 0) ht hso hq (by omega)
  by_cases e : ¬ q = 0
  · rw [if_neg e] at L
    have hs1 : ¬ W.sort = 0 := by rw [hs]; exact z_neL (b := 0) (c := 0) rfl e (by omega) (by omega)
    refine ⟨-13, T.need, RM.s, A, ?_, ?_, hI0, rfl⟩
    · unfold fX8_minds_s; rw [z_bn a, if_neg z_01, z_bn w3, if_neg z_01, z_bn w4, if_neg z_01, z_add, hc, if_pos le, z_gd g, c, z_gd (decide_eq_true hG), if_neg hs1]
    · unfold fX9_minds; rw [z_bn b, if_neg z_01, z_bn i3, if_neg z_01, z_bn i4, if_neg z_01, z_gd g0, hs0, z_add, if_pos le, z_bn L, if_neg (by decide), z_bn L]
  replace e := Decidable.not_not.mp e
  rw [if_pos e] at L
  have hs1 : W.sort = 0 := by rw [hs, e]; rfl
  have EX : fX8_minds_s jW RX T G W (nI t) y2 (nI o) (nI n) = ht_bn (fX8_within y2 (0 : Int32) (nI W.len)) (fun o_17 => if o_17 = 0 then (some ((-12 : Int32), T.need)) else (if nI n ≤ (nI W.len - y2) then (ht_lp5 (fX8_minds_s_b105 jW RX T G W) FU y2 (nI o) (nI n) (0 : Int32) T.need) else (some ((-12 : Int32), T.need)))) := by
    unfold fX8_minds_s; rw [z_bn a, if_neg z_01, z_bn w3, if_neg z_01, z_bn w4, if_neg z_01, z_add, hc, if_pos le, z_gd g, c, z_gd (decide_eq_true hG), if_pos hs1]
    rfl
  have EM : fX9_minds RM (nI t) y2 (nI o) (nI n) = ht_bn (fX9_isIn y2.toInt64 (0 : Int64) (nI W.len).toInt64) (fun o_18 => if o_18 = 0 then (some ((-12 : Int32), RM.s)) else (if (lg_cmp (y2.toInt64 + (nI n).toInt64) (nI W.len).toInt64) ≤ 0 then (ht_lp6 (fX9_minds_b98 RM) FU (nI t) y2 (nI o) (nI n) (0 : Int32) RM.s) else (some ((-12 : Int32), RM.s)))) := by
    unfold fX9_minds; rw [z_bn b, if_neg z_01, z_bn i3, if_neg z_01, z_bn i4, if_neg z_01, z_gd g0, hs0, z_add, if_pos le, z_bn L, if_pos rfl, z_gd g, c, hz]
    refine congrArg (ht_bn _) (funext fun o_18 => ?_)
    rw [z_gd g]
  rcases z_rng y2 0 W.len (a := 0) (b := nI W.len) (c := 0) (d := (nI W.len).toInt64) rfl rfl rfl (nI_l (by omega)) (by omega) (by omega) with ⟨w2, i2⟩ | ⟨i, -, hi2, rfl, w2, i2⟩
  · refine ⟨-12, T.need, RM.s, A, ?_, ?_, hI0, rfl⟩
    · rw [EX, z_bn w2, if_pos rfl]
    · rw [EM, z_bn i2, if_pos rfl]
  have eS : nI W.len - nI i = nI (W.len - i) := z_sub hi2
  have eL : (lg_cmp ((nI i).toInt64 + (nI n).toInt64) (nI W.len).toInt64 ≤ 0) ↔ i + n ≤ W.len := by
    rw [nI_l (by omega), nI_l (by omega), nI_l (by omega), lN_add, lg_cmp_le, lN_le (by omega) (by omega)]
  by_cases hin : i + n ≤ W.len
  · obtain ⟨A', b', s', x1, x2, x3, x4⟩ := t_minds (RX := RX) (G := G) (T := T) (RM := RM) (jW := jW) (N := A.n) ht hr0 hin hon h8 n 0 FU FU A T.need RM.s (by omega) (by show n < 300; omega) (by show n < 300; omega) rfl hI0
    refine ⟨nI n, b', s', A', ?_, ?_, x3, x4⟩
    · rw [EX, z_bn w2, if_neg z_01, eS, if_pos (nI_le (by omega) (by omega))]; exact x1
    · rw [EM, z_bn i2, if_neg z_01, if_pos (eL.mpr hin)]; exact x2
  · refine ⟨-12, T.need, RM.s, A, ?_, ?_, hI0, rfl⟩
    · rw [EX, z_bn w2, if_neg z_01, eS, if_neg (nI_ge (by omega) (by omega))]
    · rw [EM, z_bn i2, if_neg z_01, if_neg (fun x => hin (eL.mp x))]
