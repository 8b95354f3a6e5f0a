/-! ===== person, of, does, mind, change ===== -/
abbrev TownV.wp (T : TownV) (a b c d e f : AI) (n : Int32) : TownV := (T.laws, a, b, c, d, e, f, n, T.day, T.heard, T.geese, T.z)
theorem o_person {RX : HTV} {A : Tn} {T : TownV} {RM : ModV} (h : TI A T RM.s) (y1 y2 y3 y4 : Int32) : ∃ r a b c d e f n s' A', fX8_person RX T y1 y2 y3 y4 = some (r, a, b, c, d, e, f, n) ∧ fX9_person RM y1 y2 y3 y4 = some (r, s') ∧ TI A' (T.wp a b c d e f n) s' ∧ A'.day = A.day := by
  have h0 := h
  obtain ⟨hT, hM, hR, hA, hP⟩ := h
  have h8 := hR.1
  have g0 : ht_ix (0 : Int32) 57 = true := by decide
  have c0 : ((0 : Int32).toNatClampNeg) = 0 := rfl
  have hc : T.count = nI A.n := hT.1
  have hs : RM.s 0 = nI A.n := hM.1
  rcases z_rng y1 0 5 (a := 0) (b := 5) (c := 0) (d := 5) rfl rfl rfl rfl (by omega) (by omega) with ⟨w, i⟩ | ⟨k, -, hk, rfl, w, i⟩
  · have L : fX8_isKind y1 = some 0 := z_isBz w rfl
    refine ⟨-1, _, _, _, _, _, _, _, RM.s, A, ?_, ?_, h0, rfl⟩
    · unfold fX8_person; rw [z_bn L, if_pos rfl]
    · unfold fX9_person; rw [z_bn i, if_pos rfl]
  have L1 : fX8_isKind (nI k) = some 1 := z_isBz w rfl
  rcases z_rng y4 0 9 (a := 0) (b := 9) (c := 0) (d := 9) rfl rfl rfl rfl (by omega) (by omega) with ⟨w4, i4⟩ | ⟨vc, -, hvc, rfl, w4, i4⟩
  · have L : fX8_isVoice y4 = some 0 := z_isBz w4 rfl
    have hx : fX8_person RX T (nI k) y2 y3 y4 = some (-1, T.kind, T.need, T.saved, T.voice, T.partner, T.speaks, T.count) := by
      unfold fX8_person; rw [z_bn L1, if_neg z_01, z_bn L, if_pos rfl]
    refine ⟨-1, _, _, _, _, _, _, _, RM.s, A, hx, ?_, h0, rfl⟩
    unfold fX9_person
    rw [z_bn i, if_neg z_01]
    rcases z_rng y2 0 99 (a := 0) (b := 99) (c := 0) (d := 99) rfl rfl rfl rfl (by omega) (by omega) with ⟨w2, i2⟩ | ⟨v2, -, hv2, rfl, w2, i2⟩
    · rw [z_bn i2, if_pos rfl]
    · rw [z_bn i2, if_neg z_01]
      rcases z_rng y3 0 99 (a := 0) (b := 99) (c := 0) (d := 99) rfl rfl rfl rfl (by omega) (by omega) with ⟨w3, i3⟩ | ⟨v3, -, hv3, rfl, w3, i3⟩
      · rw [z_bn i3, if_pos rfl]
      · rw [z_bn i3, if_neg z_01, z_bn i4, if_pos rfl]
  have L4 : fX8_isVoice (nI vc) = some 1 := z_isBz w4 rfl
  rcases z_rng y2 0 99 (a := 0) (b := 99) (c := 0) (d := 99) rfl rfl rfl rfl (by omega) (by omega) with ⟨w2, i2⟩ | ⟨nd, -, hnd, rfl, w2, i2⟩
  · refine ⟨-1, _, _, _, _, _, _, _, RM.s, A, ?_, ?_, h0, rfl⟩
    · unfold fX8_person; rw [z_bn L1, if_neg z_01, z_bn L4, if_neg z_01, z_bn w2, if_pos rfl]
    · unfold fX9_person; rw [z_bn i, if_neg z_01, z_bn i2, if_pos rfl]
  rcases z_rng y3 0 99 (a := 0) (b := 99) (c := 0) (d := 99) rfl rfl rfl rfl (by omega) (by omega) with ⟨w3, i3⟩ | ⟨sv, -, hsv, rfl, w3, i3⟩
  · refine ⟨-1, _, _, _, _, _, _, _, RM.s, A, ?_, ?_, h0, rfl⟩
    · unfold fX8_person; rw [z_bn L1, if_neg z_01, z_bn L4, if_neg z_01, z_bn w2, if_neg z_01, z_bn w3, if_pos rfl]
    · unfold fX9_person; rw [z_bn i, if_neg z_01, z_bn i2, if_neg z_01, z_bn i3, if_pos rfl]
  by_cases hf : A.n = 8
  · refine ⟨-2, _, _, _, _, _, _, _, RM.s, A, ?_, ?_, h0, rfl⟩
    · unfold fX8_person; rw [z_bn L1, if_neg z_01, z_bn L4, if_neg z_01, z_bn w2, if_neg z_01, z_bn w3, if_neg z_01, if_neg (by rw [hc, hf]; decide)]
    · unfold fX9_person; rw [z_bn i, if_neg z_01, z_bn i2, if_neg z_01, z_bn i3, if_neg z_01, z_bn i4, if_neg z_01, z_gd g0, c0, hs, hf, if_pos (by decide)]
  have h8' : A.n < 8 := by omega
  obtain ⟨a, b, c, d, e, f, ex, hx⟩ := x_add hT h8' k nd sv vc
  obtain ⟨s', em, hm⟩ := m_comes hM h8' k nd sv vc
  have hs' : s' 0 = nI (A.n + 1) := hm.1
  refine ⟨nI A.n, a, b, c, d, e, f, nI (A.n + 1), s', addA A k nd sv vc, ?_, ?_, ⟨hx, hm, addA_R hR h8' hk hnd hsv hvc, addA_A hA _ _ _ _, addA_P hR hP _ _ _ _⟩, rfl⟩
  · unfold fX8_person; rw [z_bn L1, if_neg z_01, z_bn L4, if_neg z_01, z_bn w2, if_neg z_01, z_bn w3, if_neg z_01, if_pos (by rw [hc]; exact nI_lt (b := 8) h8' (by omega)), z_bn ex]
    show some (nI (A.n + 1) - 1, a, b, c, d, e, f, nI (A.n + 1)) = _
    rw [nI_pred]
  · unfold fX9_person; rw [z_bn i, if_neg z_01, z_bn i2, if_neg z_01, z_bn i3, if_neg z_01, z_bn i4, if_neg z_01, z_gd g0, c0, hs, if_neg (z_neL (b := 8) (c := 8) rfl hf (by omega) (by omega)), z_bn em, z_gd g0, hs', nI_pred]
theorem m_itsN {A : Tn} {RM : ModV} {o w : Nat} (h : 9 + 6 * o + w < 57) {v : Int32} (hv : RM.s (9 + 6 * o + w) = v) : fX9_its RM (nI o) (nI w) = some v := by rw [z_its h, hv]
theorem o_of {RX : HTV} {A : Tn} {T : TownV} {RM : ModV} (h : TI A T RM.s) (y1 y2 : Int32) : ∃ r, fX8_of RX T y1 y2 = some r ∧ fX9_of RM y1 y2 = some r := by
  obtain ⟨hT, hM, hR, hA, hP⟩ := h
  have h8 := hR.1
  rcases z_has (T := T) (RM := RM) hT.1 hM.1 h8 y1 with ⟨w, i⟩ | ⟨o, ho, rfl, w, i⟩
  · refine ⟨-1, ?_, ?_⟩
    · unfold fX8_of; rw [z_bn w, if_pos rfl]
    · unfold fX9_of; rw [z_bn i, if_pos rfl]
  have g : ht_ix (nI o) 8 = true := z_ix (by omega) (by omega)
  have cl : (nI o).toNatClampNeg = o := z_cl (by omega)
  have q := hR.2.2.2.2.2.2.2.2 o ho
  obtain ⟨hn, hd, hh, hgs, hz, hl, hkd, hne, hsa, hvc, hp, hs⟩ := hT
  obtain ⟨m0, m1, m2, m3, m4, m5⟩ := m_its hM h8 ho
  rcases z_rng y2 0 5 (a := 0) (b := 5) (c := 0) (d := 5) rfl rfl rfl rfl (by omega) (by omega) with ⟨w2, i2⟩ | ⟨k, -, hk, rfl, w2, i2⟩
  · refine ⟨-1, ?_, ?_⟩
    · have ne := z_out (b := 5) (hi := 5) rfl (by omega) w2
      unfold fX8_of; rw [z_bn w, if_neg z_01, if_neg (show ¬ y2 = (0 : Int32) from ne 0 (by omega)), if_neg (show ¬ y2 = (1 : Int32) from ne 1 (by omega)), if_neg (show ¬ y2 = (2 : Int32) from ne 2 (by omega)), if_neg (show ¬ y2 = (3 : Int32) from ne 3 (by omega)), if_neg (show ¬ y2 = (4 : Int32) from ne 4 (by omega)), if_neg (show ¬ y2 = (5 : Int32) from ne 5 (by omega))]
    · unfold fX9_of; rw [z_bn i, if_neg z_01, z_bn i2, if_pos rfl]
  · unfold fX8_of fX9_of
    rw [z_bn w, if_neg z_01, z_bn i, if_neg z_01, z_bn i2, if_neg z_01]
    have : k = 0 ∨ k = 1 ∨ k = 2 ∨ k = 3 ∨ k = 4 ∨ k = 5 := by omega
    rcases this with rfl | rfl | rfl | rfl | rfl | rfl
    · refine ⟨nI (A.kd o), ?_, (z_bn m0).trans rfl⟩
      rw [if_pos (by decide), z_gd g, cl, hkd o ho]
    · refine ⟨nI (A.nd o), ?_, (z_bn m1).trans rfl⟩
      rw [if_neg (by decide), if_pos (by decide), z_gd g, cl, hne o ho]
    · refine ⟨nI (A.sv o), ?_, (z_bn m2).trans rfl⟩
      rw [if_neg (by decide), if_neg (by decide), if_pos (by decide), z_gd g, cl, hsa o ho]
    · refine ⟨nI (A.vc o), ?_, (z_bn m3).trans rfl⟩
      rw [if_neg (by decide), if_neg (by decide), if_neg (by decide), if_pos (by decide), z_gd g, cl, hvc o ho]
    · refine ⟨nI (A.pr o), ?_, (z_bn m4).trans rfl⟩
      rw [if_neg (by decide), if_neg (by decide), if_neg (by decide), if_neg (by decide), if_pos (by decide), z_gd g, cl, hp o ho]
      exact congrArg some (z_eqI (by
        rw [fb_addI] <;> rw [show ((1 : Int32).toInt) = 1 by decide] <;> rw [fb_subI] <;> rw [z_ti (by omega), show ((1 : Int32).toInt) = 1 by decide] <;> omega))
    · refine ⟨nI (A.sp o), ?_, (z_bn m5).trans rfl⟩
      rw [if_neg (by decide), if_neg (by decide), if_neg (by decide), if_neg (by decide), if_neg (by decide), if_pos (by decide), z_gd g, cl, hs o ho]
      have : A.sp o = 0 ∨ A.sp o = 1 := by omega
      rcases this with e | e <;> rw [e] <;> rfl
theorem o_does {RX : HTV} {A : Tn} {T : TownV} {RM : ModV} (h : TI A T RM.s) (y1 y2 : Int32) : ∃ r, fX8_does RX T y1 y2 = some r ∧ fX9_does RM y1 y2 = some r := by
  obtain ⟨hT, hM, hR, hA, hP⟩ := h
  have h8 := hR.1
  rcases z_has (T := T) (RM := RM) hT.1 hM.1 h8 y1 with ⟨w, i⟩ | ⟨o, ho, rfl, w, i⟩
  · refine ⟨-1, ?_, ?_⟩
    · unfold fX8_does; rw [z_bn w, if_pos rfl]
    · unfold fX9_does; rw [z_bn i, if_pos rfl]
  have x1 := x_says hT hR ho
  have x2 := x_grows hT hR ho
  have x3 := x_saves hT hR ho
  have m1 := m_says hM hR ho
  have m2 := m_grows hM hR ho
  have m3 := m_saves hM hR ho
  rcases z_rng y2 0 2 (a := 0) (b := 2) (c := 0) (d := 2) rfl rfl rfl rfl (by omega) (by omega) with ⟨w2, i2⟩ | ⟨k, -, hk, rfl, w2, i2⟩
  · refine ⟨-1, ?_, ?_⟩
    · have ne := z_out (b := 2) (hi := 2) rfl (by omega) w2
      unfold fX8_does; rw [z_bn w, if_neg z_01, if_neg (show ¬ y2 = (0 : Int32) from ne 0 (by omega)), if_neg (show ¬ y2 = (1 : Int32) from ne 1 (by omega)), if_neg (show ¬ y2 = (2 : Int32) from ne 2 (by omega))]
    · unfold fX9_does; rw [z_bn i, if_neg z_01, z_bn i2, if_pos rfl]
  · unfold fX8_does fX9_does
    rw [z_bn w, if_neg z_01, z_bn i, if_neg z_01, z_bn i2, if_neg z_01]
    have : k = 0 ∨ k = 1 ∨ k = 2 := by omega
    rcases this with rfl | rfl | rfl
    · refine ⟨(1000 : Int32) + nI (aSays A o), ?_, ?_⟩
      · rw [if_pos (by decide), z_bn x1]
      · rw [if_pos (by decide), z_bn m1]; rfl
    · refine ⟨(1000 : Int32) + (nI (aUp A o) - nI (aDn A o)), ?_, ?_⟩
      · rw [if_neg (by decide), if_pos (by decide), z_bn x2]
      · rw [if_neg (by decide), if_pos (by decide), z_bn m2]; rfl
    · refine ⟨(1000 : Int32) + nI (aSvs A o), ?_, ?_⟩
      · rw [if_neg (by decide), if_neg (by decide), if_pos (by decide), z_bn x3]
      · rw [if_neg (by decide), if_neg (by decide), z_bn m3]; rfl
