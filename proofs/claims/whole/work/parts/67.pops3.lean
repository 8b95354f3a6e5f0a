/-! ===== mind, change, spend ===== -/
abbrev TownV.wkv (T : TownV) (a d : AI) : TownV := (T.laws, a, T.need, T.saved, d, T.partner, T.speaks, T.count, T.day, T.heard, T.geese, T.z)
abbrev TownV.wns (T : TownV) (b c : AI) : TownV := (T.laws, T.kind, b, c, T.voice, T.partner, T.speaks, T.count, T.day, T.heard, T.geese, T.z)
theorem WR.kd {A : Tn} (h : WR A) {k v : Nat} (hv : v ≤ 5) : WR (A.wkd (va_up A.kd k v)) := by
  obtain ⟨r1, r2, r3, r4, r5, r6, r7, r8, r9⟩ := h
  refine ⟨r1, r2, r3, r4, r5, r6, r7, r8, fun i hi => ?_⟩
  obtain ⟨q1, q2, q3, q4, q5, q6⟩ := r9 i hi
  refine ⟨?_, q2, q3, q4, q5, q6⟩
  show va_up A.kd k v i ≤ 5
  by_cases e : i = k
  · subst e; rw [up_s]; exact hv
  · rw [up_n _ _ e]; exact q1
theorem WR.vc {A : Tn} (h : WR A) {k v : Nat} (hv : v ≤ 9) : WR (A.wvc (va_up A.vc k v)) := by
  obtain ⟨r1, r2, r3, r4, r5, r6, r7, r8, r9⟩ := h
  refine ⟨r1, r2, r3, r4, r5, r6, r7, r8, fun i hi => ?_⟩
  obtain ⟨q1, q2, q3, q4, q5, q6⟩ := r9 i hi
  refine ⟨q1, q2, q3, ?_, q5, q6⟩
  show va_up A.vc k v i ≤ 9
  by_cases e : i = k
  · subst e; rw [up_s]; exact hv
  · rw [up_n _ _ e]; exact q4
theorem TX.kd {A : Tn} {T : TownV} {k v : Nat} (h : TX A T) : TX (A.wkd (va_up A.kd k v)) (T.wkv (upd T.kind k (nI v)) T.voice) := by
  obtain ⟨hn, hd, hh, hgs, hz, hl, hkd, hne, hsa, hv, hp, hs⟩ := h
  exact ⟨hn, hd, hh, hgs, hz, hl, up_all hkd rfl, hne, hsa, hv, hp, hs⟩
theorem TX.vc {A : Tn} {T : TownV} {k v : Nat} (h : TX A T) : TX (A.wvc (va_up A.vc k v)) (T.wkv T.kind (upd T.voice k (nI v))) := by
  obtain ⟨hn, hd, hh, hgs, hz, hl, hkd, hne, hsa, hv, hp, hs⟩ := h
  exact ⟨hn, hd, hh, hgs, hz, hl, hkd, hne, hsa, up_all hv rfl, hp, hs⟩
theorem TX.nd {A : Tn} {T : TownV} {k v : Nat} (h : TX A T) : TX (A.wnd (va_up A.nd k v)) (T.wns (upd T.need k (nI v)) T.saved) := by
  obtain ⟨hn, hd, hh, hgs, hz, hl, hkd, hne, hsa, hv, hp, hs⟩ := h
  exact ⟨hn, hd, hh, hgs, hz, hl, hkd, up_all hne rfl, hsa, hv, hp, hs⟩
theorem TX.sv {A : Tn} {T : TownV} {k v : Nat} (h : TX A T) : TX (A.wsv (va_up A.sv k v)) (T.wns T.need (upd T.saved k (nI v))) := by
  obtain ⟨hn, hd, hh, hgs, hz, hl, hkd, hne, hsa, hv, hp, hs⟩ := h
  exact ⟨hn, hd, hh, hgs, hz, hl, hkd, hne, up_all hsa rfl, hv, hp, hs⟩
theorem o_mind {RX : HTV} {A : Tn} {T : TownV} {RM : ModV} (h : TI A T RM.s) (y1 y2 y3 : Int32) : ∃ r a d s' A', fX8_mind RX T y1 y2 y3 = some (r, a, d) ∧ fX9_mind RM y1 y2 y3 = some (r, s') ∧ TI A' (T.wkv a d) s' ∧ A'.day = A.day := by
  have h0 := h
  obtain ⟨hT, hM, hR, hA, hP⟩ := h
  have h8 := hR.1
  rcases z_has (T := T) (RM := RM) hT.1 hM.1 h8 y1 with ⟨w, i⟩ | ⟨o, ho, rfl, w, i⟩
  · refine ⟨-1, T.kind, T.voice, RM.s, A, ?_, ?_, h0, rfl⟩
    · unfold fX8_mind; rw [z_bn w, if_pos rfl]
    · unfold fX9_mind; rw [z_bn i, if_pos rfl]
  rcases z_rng y2 0 5 (a := 0) (b := 5) (c := 0) (d := 5) rfl rfl rfl rfl (by omega) (by omega) with ⟨w2, i2⟩ | ⟨k, -, hk, rfl, w2, i2⟩
  · have L : fX8_isKind y2 = some 0 := z_isBz w2 rfl
    refine ⟨-1, T.kind, T.voice, RM.s, A, ?_, ?_, h0, rfl⟩
    · unfold fX8_mind; rw [z_bn w, if_neg z_01, z_bn L, if_pos rfl]
    · unfold fX9_mind; rw [z_bn i, if_neg z_01, z_bn i2, if_pos rfl]
  have L2 : fX8_isKind (nI k) = some 1 := z_isBz w2 rfl
  rcases z_rng y3 0 9 (a := 0) (b := 9) (c := 0) (d := 9) rfl rfl rfl rfl (by omega) (by omega) with ⟨w3, i3⟩ | ⟨v, -, hv, rfl, w3, i3⟩
  · have L : fX8_isVoice y3 = some 0 := z_isBz w3 rfl
    refine ⟨-1, T.kind, T.voice, RM.s, A, ?_, ?_, h0, rfl⟩
    · unfold fX8_mind; rw [z_bn w, if_neg z_01, z_bn L2, if_neg z_01, z_bn L, if_pos rfl]
    · unfold fX9_mind; rw [z_bn i, if_neg z_01, z_bn i2, if_neg z_01, z_bn i3, if_pos rfl]
  have L3 : fX8_isVoice (nI v) = some 1 := z_isBz w3 rfl
  have g : ht_ix (nI o) 8 = true := z_ix (by omega) (by omega)
  have cl : (nI o).toNatClampNeg = o := z_cl (by omega)
  have e3 : ((9 : Int32) + ((6 : Int32) * nI o)) + (3 : Int32) = nI (9 + 6 * o + 3) := z_at o 3
  have e0 : (9 : Int32) + ((6 : Int32) * nI o) = nI (9 + 6 * o) := z_at0 o
  have g3 : ht_ix (nI (9 + 6 * o + 3)) 57 = true := z_ix (by omega) (by omega)
  have c3 : (nI (9 + 6 * o + 3)).toNatClampNeg = 9 + 6 * o + 3 := z_cl (by omega)
  have hkd : T.kind o = nI (A.kd o) := hT.2.2.2.2.2.2.1 o ho
  have hs : RM.s (9 + 6 * o) = nI (A.kd o) := hM.2.2.2.2.2.2.1 o ho
  have hM1 := TM.vc (v := v) hM ho
  have hM2 := TM.kd (v := k) hM1 ho
  refine ⟨nI (A.kd o), upd T.kind o (nI k), upd T.voice o (nI v), upd (upd RM.s (9 + 6 * o + 3) (nI v)) (9 + 6 * o) (nI k), (A.wvc (va_up A.vc o v)).wkd (va_up A.kd o k), ?_, ?_, ⟨TX.kd (TX.vc hT), hM2, WR.kd (WR.vc hR hv) hk, hA, hP⟩, rfl⟩
  · unfold fX8_mind; rw [z_bn w, if_neg z_01, z_bn L2, if_neg z_01, z_bn L3, if_neg z_01, z_gd g, z_nm, z_gd g, z_nm, z_gd g, z_nm, cl, hkd]
  · unfold fX9_mind; rw [z_bn i, if_neg z_01, z_bn i2, if_neg z_01, z_bn i3, if_neg z_01, e3, z_gd g3, z_nm, c3, e0, z_bn (m_becomes _ (by omega))]
    exact congrArg some (Prod.ext ((pk_un (by omega)).trans hs) rfl)
theorem o_change {RX : HTV} {A : Tn} {T : TownV} {RM : ModV} (h : TI A T RM.s) (y1 y2 y3 : Int32) : ∃ r b c s' A', fX8_change RX T y1 y2 y3 = some (r, b, c) ∧ fX9_change RM y1 y2 y3 = some (r, s') ∧ TI A' (T.wns b c) s' ∧ A'.day = A.day := by
  have h0 := h
  obtain ⟨hT, hM, hR, hA, hP⟩ := h
  have h8 := hR.1
  rcases z_has (T := T) (RM := RM) hT.1 hM.1 h8 y1 with ⟨w, i⟩ | ⟨o, ho, rfl, w, i⟩
  · refine ⟨-1, T.need, T.saved, RM.s, A, ?_, ?_, h0, rfl⟩
    · unfold fX8_change; rw [z_bn w, if_pos rfl]
    · unfold fX9_change; rw [z_bn i, if_pos rfl]
  have g : ht_ix (nI o) 8 = true := z_ix (by omega) (by omega)
  have cl : (nI o).toNatClampNeg = o := z_cl (by omega)
  rcases z_rng y2 1 2 (a := 1) (b := 2) (c := 1) (d := 2) rfl rfl rfl rfl (by omega) (by omega) with ⟨w2, i2⟩ | ⟨k, hk1, hk2, rfl, w2, i2⟩
  · have n1 : ¬ y2 = (1 : Int32) := by
      intro e; subst e
      exact absurd (Option.some.inj w2) (by decide)
    have n2 : ¬ y2 = (2 : Int32) := by
      intro e; subst e
      exact absurd (Option.some.inj w2) (by decide)
    refine ⟨-1, T.need, T.saved, RM.s, A, ?_, ?_, h0, rfl⟩
    · unfold fX8_change fX8_change_b52; rw [z_bn w, if_neg z_01, if_neg n1, if_neg n2]
    · unfold fX9_change; rw [z_bn i, if_neg z_01, z_bn i2, if_pos rfl]
  have hk : k = 1 ∨ k = 2 := by omega
  rcases z_rng y3 0 99 (a := 0) (b := 99) (c := 0) (d := 99) rfl rfl rfl rfl (by omega) (by omega) with ⟨w3, i3⟩ | ⟨v, -, hv, rfl, w3, i3⟩
  · refine ⟨-1, T.need, T.saved, RM.s, A, ?_, ?_, h0, rfl⟩
    · unfold fX8_change fX8_change_b52
      rcases hk with rfl | rfl
      · rw [z_bn w, if_neg z_01, if_pos (show nI 1 = (1 : Int32) from rfl), z_bn w3, if_pos rfl, if_neg (show ¬ nI 1 = (2 : Int32) by decide)]
      · rw [z_bn w, if_neg z_01, if_neg (show ¬ nI 2 = (1 : Int32) by decide), if_pos (show nI 2 = (2 : Int32) from rfl), z_bn w3, if_pos rfl]
    · unfold fX9_change; rw [z_bn i, if_neg z_01, z_bn i2, if_neg z_01, z_bn i3, if_pos rfl]
  have e1 : ((9 : Int32) + ((6 : Int32) * nI o)) + nI k = nI (9 + 6 * o + k) := z_at o k
  have E : fX9_change RM (nI o) (nI k) (nI v) = some (RM.s (9 + 6 * o + k), upd RM.s (9 + 6 * o + k) (nI v)) := by
    unfold fX9_change; rw [z_bn i, if_neg z_01, z_bn i2, if_neg z_01, z_bn i3, if_neg z_01, e1, z_bn (m_becomes _ (by omega))]
  rcases hk with rfl | rfl
  · have hx : T.need o = nI (A.nd o) := hT.2.2.2.2.2.2.2.1 o ho
    have hs : RM.s (9 + 6 * o + 1) = nI (A.nd o) := hM.2.2.2.2.2.2.2.1 o ho
    refine ⟨nI (A.nd o), upd T.need o (nI v), T.saved, upd RM.s (9 + 6 * o + 1) (nI v), A.wnd (va_up A.nd o v), ?_, E.trans (congrArg some (Prod.ext hs rfl)), ⟨TX.nd hT, TM.nd hM ho, WR.nd hR hv, hA, hP⟩, rfl⟩
    unfold fX8_change; rw [z_bn w, if_neg z_01, if_pos (show nI 1 = (1 : Int32) from rfl), z_bn w3, if_neg z_01, z_gd g, z_nm, z_gd g, z_nm, cl, hx]
  · have hx : T.saved o = nI (A.sv o) := hT.2.2.2.2.2.2.2.2.1 o ho
    have hs : RM.s (9 + 6 * o + 2) = nI (A.sv o) := hM.2.2.2.2.2.2.2.2.1 o ho
    refine ⟨nI (A.sv o), T.need, upd T.saved o (nI v), upd RM.s (9 + 6 * o + 2) (nI v), A.wsv (va_up A.sv o v), ?_, E.trans (congrArg some (Prod.ext hs rfl)), ⟨TX.sv hT, TM.sv hM ho, WR.sv hR hv, hA, hP⟩, rfl⟩
    unfold fX8_change fX8_change_b52; rw [z_bn w, if_neg z_01, if_neg (show ¬ nI 2 = (1 : Int32) by decide), if_pos (show nI 2 = (2 : Int32) from rfl), z_bn w3, if_neg z_01, z_gd g, z_nm, z_gd g, z_nm, cl, hx]
theorem o_spend {RX : HTV} {A : Tn} {T : TownV} {RM : ModV} (h : TI A T RM.s) (y1 : Int32) : ∃ r b c s' A', fX8_spend RX T y1 = some (r, b, c) ∧ fX9_spend RM y1 = some (r, s') ∧ TI A' (T.wns b c) s' ∧ A'.day = A.day := by
  have h0 := h
  obtain ⟨hT, hM, hR, hA, hP⟩ := h
  have h8 := hR.1
  rcases z_has (T := T) (RM := RM) hT.1 hM.1 h8 y1 with ⟨w, i⟩ | ⟨o, ho, rfl, w, i⟩
  · refine ⟨-1, T.need, T.saved, RM.s, A, ?_, ?_, h0, rfl⟩
    · unfold fX8_spend; rw [z_bn w, if_pos rfl]
    · unfold fX9_spend; rw [z_bn i, if_pos rfl]
  have g : ht_ix (nI o) 8 = true := z_ix (by omega) (by omega)
  have cl : (nI o).toNatClampNeg = o := z_cl (by omega)
  have q := hR.2.2.2.2.2.2.2.2 o ho
  have hx1 : T.need o = nI (A.nd o) := hT.2.2.2.2.2.2.2.1 o ho
  have hx2 : T.saved o = nI (A.sv o) := hT.2.2.2.2.2.2.2.2.1 o ho
  have hs1 : RM.s (9 + 6 * o + 1) = nI (A.nd o) := hM.2.2.2.2.2.2.2.1 o ho
  have hs2 : RM.s (9 + 6 * o + 2) = nI (A.sv o) := hM.2.2.2.2.2.2.2.2.1 o ho
  have m0 : (99 : Int32) - nI (A.nd o) = nI (99 - A.nd o) := z_sub (a := 99) (by omega)
  have hmn : min (A.sv o) (99 - A.nd o) ≤ A.sv o := Nat.min_le_left _ _
  have hmn2 : min (A.sv o) (99 - A.nd o) ≤ 99 - A.nd o := Nat.min_le_right _ _
  have m1 : (if nI (99 - A.nd o) < nI (A.sv o) then nI (99 - A.nd o) else nI (A.sv o)) = nI (min (A.sv o) (99 - A.nd o)) := by rw [Nat.min_comm]; exact z_min (by omega) (by omega)
  have m2 : nI (A.sv o) - nI (min (A.sv o) (99 - A.nd o)) = nI (A.sv o - min (A.sv o) (99 - A.nd o)) := z_sub hmn
  have m3 : fX9_least (nI (A.sv o)) (nI (99 - A.nd o)) = some (nI (min (A.sv o) (99 - A.nd o))) := z_least (by omega) (by omega)
  generalize min (A.sv o) (99 - A.nd o) = d at *
  have e0 : (9 : Int32) + ((6 : Int32) * nI o) = nI (9 + 6 * o) := z_at0 o
  have e1 : nI (9 + 6 * o) + (1 : Int32) = nI (9 + 6 * o + 1) := z_add _ 1
  have e2 : nI (9 + 6 * o) + (2 : Int32) = nI (9 + 6 * o + 2) := z_add _ 2
  have g1 : ht_ix (nI (9 + 6 * o + 1)) 57 = true := z_ix (by omega) (by omega)
  have g2 : ht_ix (nI (9 + 6 * o + 2)) 57 = true := z_ix (by omega) (by omega)
  have c1 : (nI (9 + 6 * o + 1)).toNatClampNeg = 9 + 6 * o + 1 := z_cl (by omega)
  have c2 : (nI (9 + 6 * o + 2)).toNatClampNeg = 9 + 6 * o + 2 := z_cl (by omega)
  have f1 : upd RM.s (9 + 6 * o + 2) (nI (A.sv o - d)) (9 + 6 * o + 1) = nI (A.nd o) := (pk_un (by omega)).trans hs1
  refine ⟨nI (A.nd o + d), upd T.need o (nI (A.nd o + d)), upd T.saved o (nI (A.sv o - d)), upd (upd RM.s (9 + 6 * o + 2) (nI (A.sv o - d))) (9 + 6 * o + 1) (nI (A.nd o + d)), (A.wsv (va_up A.sv o (A.sv o - d))).wnd (va_up A.nd o (A.nd o + d)), ?_, ?_, ⟨TX.nd (TX.sv hT), TM.nd (TM.sv hM ho) ho, WR.nd (WR.sv hR (by omega)) (by omega), hA, hP⟩, rfl⟩
  · unfold fX8_spend; rw [z_bn w, if_neg z_01, z_gd g, z_gd g, cl, hx1, hx2, m0, m1, z_nm, z_gd g, z_gd g, z_nm, z_gd g, z_gd g, z_nm, z_gd g, m2, z_add, pk_us]
  · unfold fX9_spend; rw [z_bn i, if_neg z_01, z_nm, e0, e1, e2, z_gd g2, z_gd g1, c1, c2, hs1, hs2, m0, z_bn m3, z_gd g2, z_gd g2, z_nm, m2, z_gd g1, z_gd g1, z_nm, f1, z_add, z_gd g1, pk_us]
