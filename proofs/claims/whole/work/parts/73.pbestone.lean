/-! ===== the loudest partner, the loudest kind, the least voice ===== -/
theorem z_gr (M v : Int32) : fX9_greatest M v = some (if v ≤ M then M else v) := by
  unfold fX9_greatest
  by_cases h : v ≤ M
  · rw [if_pos h]
    by_cases q : M ≤ v
    · rw [if_pos q]
      exact congrArg some (z_eqI (by rw [z_leI] at h q; omega))
    · rw [if_neg q]
  · rw [if_neg h, if_pos (by rw [z_leI] at h ⊢; omega)]
theorem z_short (v : Int32) : (fX8_within v (1 : Int32) (20 : Int32) = some 0 ∧ fX9_isShort v = some 0) ∨ (∃ j, 1 ≤ j ∧ j ≤ 20 ∧ v = nI j ∧ fX8_within v (1 : Int32) (20 : Int32) = some 1 ∧ fX9_isShort v = some 1) := by
  rcases z_rng v 1 20 (a := 1) (b := 20) (c := 1) (d := 20) rfl rfl rfl rfl (by omega) (by omega) with ⟨w, i⟩ | ⟨j, h1, h2, e, w, i⟩
  · exact Or.inl ⟨w, z_isBz i rfl⟩
  · exact Or.inr ⟨j, h1, h2, e, w, z_isBz i rfl⟩
theorem up_57 {s s0 : AI} {k : Nat} {x : Int32} (h : ∀ j, j < 57 → j ≠ k → s j = s0 j) : ∀ j, j < 57 → upd s k x j = upd s0 k x j := fun j hj => by
  by_cases e : j = k
  · subst e; rw [pk_us, pk_us]
  · rw [pk_un e, pk_un e]; exact h j hj e
/-- n days of a town that was put in by hand: what both say is said -/
theorem t_kind {A : Tn} {RM : ModV} {N U0 : TownV} (hN : TX A N) (hM : TM A RM.s) (hR : WR A) (hA : WA A) {o n : Nat} (ho : o < A.n) (hn : n ≤ 20) (hd : A.day + 60 < 1000000) : ∀ (d k fuel fuel' : Nat) (U : TownV) (s a : AI) (M F : Int32), k + d = 6 → d < fuel → d < fuel' → (∀ j, j < 57 → j ≠ 9 + 6 * o → s j = RM.s j) → ∃ (r : Int32) (U' : TownV) (s' a' : AI), ht_lp17 (fX7_loudestKind_b8 N U0) fuel (nI o) (nI n) M F (nI k) U.laws U.kind U.need U.saved U.voice U.partner U.speaks U.count U.day U.heard U.geese U.z = some (r, U') ∧ ht_lp8 (fX9_kindFor_b42 RM) fuel' (nI n) (nI (9 + 6 * o)) (RM.s (9 + 6 * o)) F M (nI k) s a = some (r, s', a') ∧ (∀ j, j < 57 → s' j = RM.s j) := by
  have h8 := hR.1
  have g : ht_ix (nI o) 8 = true := z_ix (by omega) (by omega)
  have cl : (nI o).toNatClampNeg = o := z_cl (by omega)
  have gM : ht_ix (nI (9 + 6 * o)) 57 = true := z_ix (by omega) (by omega)
  have cM : (nI (9 + 6 * o)).toNatClampNeg = 9 + 6 * o := z_cl (by omega)
  intro d
  induction d with
  | zero =>
    intro k fuel fuel' U s a M F hk hf hf' hs
    obtain ⟨f, rfl⟩ : ∃ f, fuel = f + 1 := ⟨fuel - 1, by omega⟩
    obtain ⟨f', rfl⟩ : ∃ f, fuel' = f + 1 := ⟨fuel' - 1, by omega⟩
    have e : k = 6 := by omega
    subst e
    refine ⟨F, U, upd s (9 + 6 * o) (RM.s (9 + 6 * o)), a, ?_, ?_, fun j hj => ?_⟩
    · show fX7_loudestKind_b8 N U0 (ht_lp17 (fX7_loudestKind_b8 N U0) f) (nI o) (nI n) M F (nI 6) U.laws U.kind U.need U.saved U.voice U.partner U.speaks U.count U.day U.heard U.geese U.z = _
      unfold fX7_loudestKind_b8 fX7_loudestKind_b66
      rw [if_pos (by decide)]
    · show fX9_kindFor_b42 RM (ht_lp8 (fX9_kindFor_b42 RM) f') (nI n) (nI (9 + 6 * o)) (RM.s (9 + 6 * o)) F M (nI 6) s a = _
      unfold fX9_kindFor_b42 fX9_kindFor_b94
      rw [if_pos (by decide), z_gd gM, z_nm, cM]
    · by_cases e : j = 9 + 6 * o
      · rw [e, pk_us]
      · rw [pk_un e]; exact hs j hj e
  | succ d ih =>
    intro k fuel fuel' U s a M F hk hf hf' hs
    obtain ⟨f, rfl⟩ : ∃ f, fuel = f + 1 := ⟨fuel - 1, by omega⟩
    obtain ⟨f', rfl⟩ : ∃ f, fuel' = f + 1 := ⟨fuel' - 1, by omega⟩
    have hk5 : k ≤ 5 := by omega
    have RK : WR (A.wkd (va_up A.kd o k)) := WR.kd hR hk5
    have c1 : ¬ (6 : Int32) ≤ nI k := by rw [show (6 : Int32) = nI 6 from rfl, z_le (by omega) (by omega)]; omega
    have c2 : ¬ (5 : Int32) < nI k := by rw [show (5 : Int32) = nI 5 from rfl, z_lt (by omega) (by omega)]; omega
    obtain ⟨T1, e1, h1⟩ := x_copyFrom (T := U.eta) hN hR
    have h1k : TX (A.wkd (va_up A.kd o k)) (T1.wkv (upd T1.kind o (nI k)) T1.voice) := TX.kd h1
    obtain ⟨nd, sv, sp, dy, hr, gs, e2, h2⟩ := x_pass h1k RK (n := n) (by omega) (by show A.day + n < 1000000; omega)
    have hMk : TM (A.wkd (va_up A.kd o k)) (upd s (9 + 6 * o) (nI k)) := TM.same (TM.kd (v := k) hM ho) h8 (up_57 hs)
    obtain ⟨s1, a1, e3, h3⟩ := m_soundBy (RM := RM.wsa (upd s (9 + 6 * o) (nI k)) a) hMk RK hA (n := n) (by omega) (by show A.day + n < 1000000; omega)
    have hs1 : ∀ j, j < 57 → j ≠ 9 + 6 * o → s1 j = RM.s j := fun j hj e => (h3 j hj).trans ((pk_un e).trans (hs j hj e))
    by_cases c : nI (totA (A.wkd (va_up A.kd o k)) n) ≤ M
    · obtain ⟨r, U', s', a', e5, e6, h6⟩ := ih (k + 1) f f' (T1.laws, upd T1.kind o (nI k), nd, sv, T1.voice, T1.partner, sp, T1.count, dy, hr, gs, T1.z) s1 a1 M F (by omega) (by omega) (by omega) hs1
      refine ⟨r, U', s', a', Eq.trans ?_ e5, Eq.trans ?_ e6, h6⟩
      · show fX7_loudestKind_b8 N U0 (ht_lp17 (fX7_loudestKind_b8 N U0) f) (nI o) (nI n) M F (nI k) U.laws U.kind U.need U.saved U.voice U.partner U.speaks U.count U.day U.heard U.geese U.z = _
        unfold fX7_loudestKind_b8 fX7_loudestKind_b60
        rw [if_neg c1, z_bn e1, z_gd g, z_nm, cl]
        refine Eq.trans (z_bn e2) ?_
        rw [z_nm, if_pos c, z_nm, nI_1]
      · show fX9_kindFor_b42 RM (ht_lp8 (fX9_kindFor_b42 RM) f') (nI n) (nI (9 + 6 * o)) (RM.s (9 + 6 * o)) F M (nI k) s a = _
        unfold fX9_kindFor_b42 fX9_kindFor_b77
        rw [if_neg c2, z_gd gM, z_nm, cM, z_bn e3, z_nm, if_pos c, z_bn (z_gr _ _), if_pos c, z_nm, nI_1]
    · obtain ⟨r, U', s', a', e5, e6, h6⟩ := ih (k + 1) f f' (T1.laws, upd T1.kind o (nI k), nd, sv, T1.voice, T1.partner, sp, T1.count, dy, hr, gs, T1.z) s1 a1 (nI (totA (A.wkd (va_up A.kd o k)) n)) (nI k) (by omega) (by omega) (by omega) hs1
      refine ⟨r, U', s', a', Eq.trans ?_ e5, Eq.trans ?_ e6, h6⟩
      · show fX7_loudestKind_b8 N U0 (ht_lp17 (fX7_loudestKind_b8 N U0) f) (nI o) (nI n) M F (nI k) U.laws U.kind U.need U.saved U.voice U.partner U.speaks U.count U.day U.heard U.geese U.z = _
        unfold fX7_loudestKind_b8 fX7_loudestKind_b60
        rw [if_neg c1, z_bn e1, z_gd g, z_nm, cl]
        refine Eq.trans (z_bn e2) ?_
        rw [z_nm, if_neg c, z_nm, nI_1]
      · show fX9_kindFor_b42 RM (ht_lp8 (fX9_kindFor_b42 RM) f') (nI n) (nI (9 + 6 * o)) (RM.s (9 + 6 * o)) F M (nI k) s a = _
        unfold fX9_kindFor_b42 fX9_kindFor_b77
        rw [if_neg c2, z_gd gM, z_nm, cM, z_bn e3, z_nm, if_neg c, z_bn (z_gr _ _), if_neg c, z_nm, nI_1]
theorem o_kindFor {RX : HTV} {A : Tn} {T U : TownV} {RM : ModV} (h : TI A T RM.s) (hB : A.day + 60 < 1000000) (y1 y2 : Int32) : ∃ (r : Int32) (U' : TownV) (s' a' : AI), fX8_kindFor RX T U y1 y2 = some (r, U') ∧ fX9_kindFor RM y1 y2 = some (r, s', a') ∧ (∀ k, k < 57 → s' k = RM.s k) := by
  obtain ⟨hT, hM, hR, hA, hP⟩ := h
  have h8 := hR.1
  rcases z_has (T := T) (RM := RM) hT.1 hM.1 h8 y1 with ⟨w, i⟩ | ⟨o, ho, rfl, w, i⟩
  · refine ⟨-1, U, RM.s, RM.aside, ?_, ?_, fun _ _ => rfl⟩
    · unfold fX8_kindFor; rw [z_bn w, if_pos rfl]
    · unfold fX9_kindFor; rw [z_bn i, if_pos rfl]
  rcases z_short y2 with ⟨w2, i2⟩ | ⟨n, hn1, hn, rfl, w2, i2⟩
  · refine ⟨-1, U, RM.s, RM.aside, ?_, ?_, fun _ _ => rfl⟩
    · unfold fX8_kindFor; rw [z_bn w, if_neg z_01, z_bn w2, if_pos rfl]
    · unfold fX9_kindFor; rw [z_bn i, if_neg z_01, z_bn i2, if_pos rfl]
  have gM : ht_ix (nI (9 + 6 * o)) 57 = true := z_ix (by omega) (by omega)
  have cM : (nI (9 + 6 * o)).toNatClampNeg = 9 + 6 * o := z_cl (by omega)
  have e0 : (9 : Int32) + ((6 : Int32) * nI o) = nI (9 + 6 * o) := z_at0 o
  obtain ⟨r, U', s', a', e1, e2, h3⟩ := t_kind (RM := RM) (N := T) (U0 := U) hT hM hR hA ho hn hB 6 0 FU FU U RM.s RM.aside (-1) 0 (by omega) (by decide) (by decide) (fun _ _ _ => rfl)
  have e5 : fX7_loudestKind T U (nI o) (nI n) = some (r, U') := e1
  refine ⟨r, U', s', a', ?_, ?_, h3⟩
  · unfold fX8_kindFor; rw [z_bn w, if_neg z_01, z_bn w2, if_neg z_01]; exact z_bn e5
  · unfold fX9_kindFor; rw [z_bn i, if_neg z_01, z_bn i2, if_neg z_01, z_nm, e0, z_gd gM, z_nm, cM]; exact e2
theorem t_voice {A : Tn} {RM : ModV} {N U0 : TownV} (hN : TX A N) (hM : TM A RM.s) (hR : WR A) (hA : WA A) {o n v : Nat} (ho : o < A.n) (hn : n ≤ 20) (hv : v ≤ 9999) (hd : A.day + 60 < 1000000) : ∀ (d k fuel fuel' : Nat) (U : TownV) (s a : AI), k + d = 10 → d < fuel → d + 1 < fuel' → (∀ j, j < 57 → j ≠ 9 + 6 * o + 3 → s j = RM.s j) → ∃ (r : Int32) (U' : TownV) (s' a' : AI), ht_lp16 (fX7_leastVoice_b3 N U0) fuel (nI o) (nI n) (nI v) (nI k) U.laws U.kind U.need U.saved U.voice U.partner U.speaks U.count U.day U.heard U.geese U.z = some (r, U') ∧ ht_lp8 (fX9_voiceFor_b56 RM) fuel' (nI n) (nI v) (nI (9 + 6 * o + 3)) (RM.s (9 + 6 * o + 3)) (-3 : Int32) (nI k) s a = some (r, s', a') ∧ (∀ j, j < 57 → s' j = RM.s j) := by
  have h8 := hR.1
  have g : ht_ix (nI o) 8 = true := z_ix (by omega) (by omega)
  have cl : (nI o).toNatClampNeg = o := z_cl (by omega)
  have gM : ht_ix (nI (9 + 6 * o + 3)) 57 = true := z_ix (by omega) (by omega)
  have cM : (nI (9 + 6 * o + 3)).toNatClampNeg = 9 + 6 * o + 3 := z_cl (by omega)
  have back : ∀ s : AI, (∀ j, j < 57 → j ≠ 9 + 6 * o + 3 → s j = RM.s j) → ∀ j, j < 57 → upd s (9 + 6 * o + 3) (RM.s (9 + 6 * o + 3)) j = RM.s j := fun s hs j hj => by
    by_cases e : j = 9 + 6 * o + 3
    · rw [e, pk_us]
    · rw [pk_un e]; exact hs j hj e
  intro d
  induction d with
  | zero =>
    intro k fuel fuel' U s a hk hf hf' hs
    obtain ⟨f, rfl⟩ : ∃ f, fuel = f + 1 := ⟨fuel - 1, by omega⟩
    obtain ⟨f', rfl⟩ : ∃ f, fuel' = f + 1 := ⟨fuel' - 1, by omega⟩
    have e : k = 10 := by omega
    subst e
    refine ⟨-3, U, upd s (9 + 6 * o + 3) (RM.s (9 + 6 * o + 3)), a, ?_, ?_, back s hs⟩
    · show fX7_leastVoice_b3 N U0 (ht_lp16 (fX7_leastVoice_b3 N U0) f) (nI o) (nI n) (nI v) (nI 10) U.laws U.kind U.need U.saved U.voice U.partner U.speaks U.count U.day U.heard U.geese U.z = _
      unfold fX7_leastVoice_b3
      rw [if_pos (by decide)]
    · show fX9_voiceFor_b56 RM (ht_lp8 (fX9_voiceFor_b56 RM) f') (nI n) (nI v) (nI (9 + 6 * o + 3)) (RM.s (9 + 6 * o + 3)) (-3 : Int32) (nI 10) s a = _
      unfold fX9_voiceFor_b56 fX9_voiceFor_b101
      rw [if_pos (by decide), z_gd gM, z_nm, cM]
  | succ d ih =>
    intro k fuel fuel' U s a hk hf hf' hs
    obtain ⟨f, rfl⟩ : ∃ f, fuel = f + 1 := ⟨fuel - 1, by omega⟩
    obtain ⟨f', rfl⟩ : ∃ f, fuel' = f + 1 := ⟨fuel' - 1, by omega⟩
    have hk9 : k ≤ 9 := by omega
    have RK : WR (A.wvc (va_up A.vc o k)) := WR.vc hR hk9
    have c1 : ¬ (9 : Int32) < nI k := by rw [show (9 : Int32) = nI 9 from rfl, z_lt (by omega) (by omega)]; omega
    have c3 : ¬ (0 : Int32) ≤ (-3 : Int32) := by decide
    obtain ⟨T1, e1, h1⟩ := x_copyFrom (T := U.eta) hN hR
    have h1k : TX (A.wvc (va_up A.vc o k)) (T1.wkv T1.kind (upd T1.voice o (nI k))) := TX.vc h1
    obtain ⟨nd, sv, sp, dy, hr, gs, e2, h2⟩ := x_pass h1k RK (n := n) (by omega) (by show A.day + n < 1000000; omega)
    have hMk : TM (A.wvc (va_up A.vc o k)) (upd s (9 + 6 * o + 3) (nI k)) := TM.same (TM.vc (v := k) hM ho) h8 (up_57 hs)
    obtain ⟨s1, a1, e3, h3⟩ := m_soundBy (RM := RM.wsa (upd s (9 + 6 * o + 3) (nI k)) a) hMk RK hA (n := n) (by omega) (by show A.day + n < 1000000; omega)
    have hs1 : ∀ j, j < 57 → j ≠ 9 + 6 * o + 3 → s1 j = RM.s j := fun j hj e => (h3 j hj).trans ((pk_un e).trans (hs j hj e))
    by_cases c : nI (totA (A.wvc (va_up A.vc o k)) n) < nI v
    · obtain ⟨r, U', s', a', e5, e6, h6⟩ := ih (k + 1) f f' (T1.laws, T1.kind, nd, sv, upd T1.voice o (nI k), T1.partner, sp, T1.count, dy, hr, gs, T1.z) s1 a1 (by omega) (by omega) (by omega) hs1
      refine ⟨r, U', s', a', Eq.trans ?_ e5, Eq.trans ?_ e6, h6⟩
      · show fX7_leastVoice_b3 N U0 (ht_lp16 (fX7_leastVoice_b3 N U0) f) (nI o) (nI n) (nI v) (nI k) U.laws U.kind U.need U.saved U.voice U.partner U.speaks U.count U.day U.heard U.geese U.z = _
        unfold fX7_leastVoice_b3
        rw [if_neg c1, z_bn e1, z_gd g, z_nm, cl]
        refine Eq.trans (z_bn e2) ?_
        rw [if_pos c, z_nm, nI_1]
      · show fX9_voiceFor_b56 RM (ht_lp8 (fX9_voiceFor_b56 RM) f') (nI n) (nI v) (nI (9 + 6 * o + 3)) (RM.s (9 + 6 * o + 3)) (-3 : Int32) (nI k) s a = _
        unfold fX9_voiceFor_b56 fX9_voiceFor_b93
        rw [if_neg c1, if_neg c3, z_gd gM, z_nm, cM, z_bn e3, if_pos c, z_nm, nI_1]
    · obtain ⟨f2, rfl⟩ : ∃ f, f' = f + 1 := ⟨f' - 1, by omega⟩
      refine ⟨nI k, (T1.laws, T1.kind, nd, sv, upd T1.voice o (nI k), T1.partner, sp, T1.count, dy, hr, gs, T1.z), upd s1 (9 + 6 * o + 3) (RM.s (9 + 6 * o + 3)), a1, ?_, ?_, back s1 hs1⟩
      · show fX7_leastVoice_b3 N U0 (ht_lp16 (fX7_leastVoice_b3 N U0) f) (nI o) (nI n) (nI v) (nI k) U.laws U.kind U.need U.saved U.voice U.partner U.speaks U.count U.day U.heard U.geese U.z = _
        unfold fX7_leastVoice_b3 fX7_leastVoice_b44
        rw [if_neg c1, z_bn e1, z_gd g, z_nm, cl]
        refine Eq.trans (z_bn e2) ?_
        rw [if_neg c]
      · have E : ht_lp8 (fX9_voiceFor_b56 RM) (f2 + 1) (nI n) (nI v) (nI (9 + 6 * o + 3)) (RM.s (9 + 6 * o + 3)) (nI k) (nI (k + 1)) s1 a1 = some (nI k, upd s1 (9 + 6 * o + 3) (RM.s (9 + 6 * o + 3)), a1) := by
          show fX9_voiceFor_b56 RM (ht_lp8 (fX9_voiceFor_b56 RM) f2) (nI n) (nI v) (nI (9 + 6 * o + 3)) (RM.s (9 + 6 * o + 3)) (nI k) (nI (k + 1)) s1 a1 = _
          unfold fX9_voiceFor_b56 fX9_voiceFor_b101
          rw [if_pos (nI_pos' (by omega)), z_gd gM, z_nm, cM]
          split <;> rfl
        refine Eq.trans ?_ E
        show fX9_voiceFor_b56 RM (ht_lp8 (fX9_voiceFor_b56 RM) (f2 + 1)) (nI n) (nI v) (nI (9 + 6 * o + 3)) (RM.s (9 + 6 * o + 3)) (-3 : Int32) (nI k) s a = _
        unfold fX9_voiceFor_b56 fX9_voiceFor_b93
        rw [if_neg c1, if_neg c3, z_gd gM, z_nm, cM, z_bn e3, if_neg c, z_nm, nI_1]
theorem o_voiceFor {RX : HTV} {A : Tn} {T U : TownV} {RM : ModV} (h : TI A T RM.s) (hB : A.day + 60 < 1000000) (y1 y2 y3 : Int32) : ∃ (r : Int32) (U' : TownV) (s' a' : AI), fX8_voiceFor RX T U y1 y2 y3 = some (r, U') ∧ fX9_voiceFor RM y1 y2 y3 = some (r, s', a') ∧ (∀ k, k < 57 → s' k = RM.s k) := by
  obtain ⟨hT, hM, hR, hA, hP⟩ := h
  have h8 := hR.1
  rcases z_has (T := T) (RM := RM) hT.1 hM.1 h8 y1 with ⟨w, i⟩ | ⟨o, ho, rfl, w, i⟩
  · refine ⟨-1, U, RM.s, RM.aside, ?_, ?_, fun _ _ => rfl⟩
    · unfold fX8_voiceFor; rw [z_bn w, if_pos rfl]
    · unfold fX9_voiceFor; rw [z_bn i, if_pos rfl]
  rcases z_short y2 with ⟨w2, i2⟩ | ⟨n, hn1, hn, rfl, w2, i2⟩
  · refine ⟨-1, U, RM.s, RM.aside, ?_, ?_, fun _ _ => rfl⟩
    · unfold fX8_voiceFor; rw [z_bn w, if_neg z_01, z_bn w2, if_pos rfl]
    · unfold fX9_voiceFor; rw [z_bn i, if_neg z_01, z_bn i2, if_pos rfl]
  rcases z_rng y3 0 9999 (a := 0) (b := 9999) (c := 0) (d := 9999) rfl rfl rfl rfl (by omega) (by omega) with ⟨w3, i3⟩ | ⟨v, -, hv, rfl, w3, i3⟩
  · refine ⟨-1, U, RM.s, RM.aside, ?_, ?_, fun _ _ => rfl⟩
    · unfold fX8_voiceFor; rw [z_bn w, if_neg z_01, z_bn w2, if_neg z_01, z_bn w3, if_pos rfl]
    · unfold fX9_voiceFor; rw [z_bn i, if_neg z_01, z_bn i2, if_neg z_01, z_bn i3, if_pos rfl]
  have gM : ht_ix (nI (9 + 6 * o + 3)) 57 = true := z_ix (by omega) (by omega)
  have cM : (nI (9 + 6 * o + 3)).toNatClampNeg = 9 + 6 * o + 3 := z_cl (by omega)
  have e0 : ((9 : Int32) + ((6 : Int32) * nI o)) + (3 : Int32) = nI (9 + 6 * o + 3) := z_at o 3
  obtain ⟨r, U', s', a', e1, e2, h3⟩ := t_voice (RM := RM) (N := T) (U0 := U) hT hM hR hA ho hn hv hB 10 0 FU FU U RM.s RM.aside (by omega) (by decide) (by decide) (fun _ _ _ => rfl)
  have e5 : fX7_leastVoice T U (nI o) (nI n) (nI v) = some (r, U') := e1
  refine ⟨r, U', s', a', ?_, ?_, h3⟩
  · unfold fX8_voiceFor; rw [z_bn w, if_neg z_01, z_bn w2, if_neg z_01, z_bn w3, if_neg z_01]; exact z_bn e5
  · unfold fX9_voiceFor; rw [z_bn i, if_neg z_01, z_bn i2, if_neg z_01, z_bn i3, if_neg z_01, z_nm, e0, z_gd gM, z_nm, cM]; exact e2
