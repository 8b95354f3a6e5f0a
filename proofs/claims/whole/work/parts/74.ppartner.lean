abbrev ModV.wsau (RM : ModV) (s a u : AI) : ModV := (s, RM.held, a, RM.before, RM.isHeld, RM.tape, RM.taped, RM.token, RM.frm, RM.to, RM.value, RM.isWrong, u, RM.bestSound, RM.bestWay, RM.rows, RM.rowN, RM.sortOf, RM.sizeOf, RM.numbers, RM.holdsWhat, RM.holdsWhich, RM.holdsMany, RM.bodies, RM.ran, RM.actKind, RM.actN, RM.actA, RM.isParted)
theorem t_partner {A : Tn} {RM : ModV} {N U0 : TownV} {u : AI} (hN : TX A N) (hM : TM A RM.s) (hR : WR A) (hA : WA A) (hu : ∀ j, j < 57 → u j = RM.s j) {o n : Nat} (ho : o < A.n) (hn : n ≤ 20) (hd : A.day + 60 < 1000000) : ∀ (d k fuel fuel' : Nat) (U : TownV) (s a : AI) (M F : Int32), k + d = A.n → d < fuel → d < fuel' → (∀ j, j < 57 → s j = RM.s j) → ∃ (r : Int32) (U' : TownV) (s' a' : AI), ht_lp17 (fX7_loudestPartner_b27 N U0) fuel (nI o) (nI n) M F (nI k) U.laws U.kind U.need U.saved U.voice U.partner U.speaks U.count U.day U.heard U.geese U.z = some (r, U') ∧ ht_lp8 (fX9_partnerFor_b41 RM) fuel' (nI o) (nI n) M F (nI k) s a u = some (r, s', a', u) ∧ (∀ j, j < 57 → s' j = RM.s j) := by
  have h8 := hR.1
  have g0 : ht_ix (0 : Int32) 57 = true := by decide
  have c0 : ((0 : Int32).toNatClampNeg) = 0 := rfl
  have hc : N.count = nI A.n := hN.1
  intro d
  induction d with
  | zero =>
    intro k fuel fuel' U s a M F hk hf hf' hs
    obtain ⟨f, rfl⟩ : ∃ f, fuel = f + 1 := ⟨fuel - 1, by omega⟩
    obtain ⟨f', rfl⟩ : ∃ f, fuel' = f + 1 := ⟨fuel' - 1, by omega⟩
    have hs0 : s 0 = nI A.n := (hs 0 (by omega)).trans hM.1
    have c1 : nI A.n ≤ nI k := by rw [z_le (by omega) (by omega)]; omega
    refine ⟨F, U, s, a, ?_, ?_, hs⟩
    · show fX7_loudestPartner_b27 N U0 (ht_lp17 (fX7_loudestPartner_b27 N U0) f) (nI o) (nI n) M F (nI k) U.laws U.kind U.need U.saved U.voice U.partner U.speaks U.count U.day U.heard U.geese U.z = _
      unfold fX7_loudestPartner_b27 fX7_loudestPartner_b95
      rw [hc, if_pos c1]
    · show fX9_partnerFor_b41 RM (ht_lp8 (fX9_partnerFor_b41 RM) f') (nI o) (nI n) M F (nI k) s a u = _
      unfold fX9_partnerFor_b41 fX9_partnerFor_b111
      rw [z_gd g0, c0, hs0, if_pos c1]
  | succ d ih =>
    intro k fuel fuel' U s a M F hk hf hf' hs
    obtain ⟨f, rfl⟩ : ∃ f, fuel = f + 1 := ⟨fuel - 1, by omega⟩
    obtain ⟨f', rfl⟩ : ∃ f, fuel' = f + 1 := ⟨fuel' - 1, by omega⟩
    have hkn : k < A.n := by omega
    have hs0 : s 0 = nI A.n := (hs 0 (by omega)).trans hM.1
    have c1 : ¬ nI A.n ≤ nI k := by rw [z_le (by omega) (by omega)]; omega
    by_cases ek : k = o
    · obtain ⟨r, U', s', a', e5, e6, h6⟩ := ih (k + 1) f f' U s a M F (by omega) (by omega) (by omega) hs
      have c2 : nI k = nI o := by rw [ek]
      refine ⟨r, U', s', a', Eq.trans ?_ e5, Eq.trans ?_ e6, h6⟩
      · show fX7_loudestPartner_b27 N U0 (ht_lp17 (fX7_loudestPartner_b27 N U0) f) (nI o) (nI n) M F (nI k) U.laws U.kind U.need U.saved U.voice U.partner U.speaks U.count U.day U.heard U.geese U.z = _
        unfold fX7_loudestPartner_b27 fX7_loudestPartner_b89
        rw [hc, if_neg c1, if_pos c2, z_nm, nI_1]
      · show fX9_partnerFor_b41 RM (ht_lp8 (fX9_partnerFor_b41 RM) f') (nI o) (nI n) M F (nI k) s a u = _
        unfold fX9_partnerFor_b41 fX9_partnerFor_b105
        rw [z_gd g0, c0, hs0, if_neg c1, if_pos c2, z_nm, nI_1]
    · have c2 : ¬ nI k = nI o := fun q => ek ((z_eq (by omega) (by omega)).mp q)
      have RK : WR (joinA A o k) := joinA_R hR ho hkn
      have AK : WA (joinA A o k) := joinA_A hA o k
      have dK : (joinA A o k).day = A.day := joinA_day A o k
      obtain ⟨T1, e1, h1⟩ := x_copyFrom (T := U.eta) hN hR
      obtain ⟨p1, f1, e2, h2⟩ := x_join (T := T1.eta) h1 hR ho hkn
      obtain ⟨nd, sv, sp, dy, hr, gs, e3, h3⟩ := x_pass h2 RK (n := n) (by omega) (by rw [dK]; omega)
      have hMs : TM A s := TM.same hM h8 hs
      obtain ⟨s1, m1, k1⟩ := m_pairs (RM := RM.wsau s a u) hMs hR ho hkn
      obtain ⟨s2, a2, m2, k2⟩ := m_soundBy (RM := RM.wsau s1 a u) k1 RK AK (n := n) (by omega) (by rw [dK]; omega)
      obtain ⟨s3, m3, k3⟩ := m_copyRow u s2
      have hs3 : ∀ j, j < 57 → s3 j = RM.s j := fun j hj => (k3 j hj).trans (hu j hj)
      by_cases c : nI (totA (joinA A o k) n) ≤ M
      · obtain ⟨r, U', s', a', e5, e6, h6⟩ := ih (k + 1) f f' (T1.laws, T1.kind, nd, sv, T1.voice, p1, sp, T1.count, dy, hr, gs, T1.z) s3 a2 M F (by omega) (by omega) (by omega) hs3
        refine ⟨r, U', s', a', Eq.trans ?_ e5, Eq.trans ?_ e6, h6⟩
        · show fX7_loudestPartner_b27 N U0 (ht_lp17 (fX7_loudestPartner_b27 N U0) f) (nI o) (nI n) M F (nI k) U.laws U.kind U.need U.saved U.voice U.partner U.speaks U.count U.day U.heard U.geese U.z = _
          unfold fX7_loudestPartner_b27 fX7_loudestPartner_b89
          rw [hc, if_neg c1, if_neg c2, z_bn e1]
          refine Eq.trans (z_bn e2) ?_
          refine Eq.trans (z_bn e3) ?_
          rw [z_nm, if_pos c, z_nm, nI_1]
        · show fX9_partnerFor_b41 RM (ht_lp8 (fX9_partnerFor_b41 RM) f') (nI o) (nI n) M F (nI k) s a u = _
          unfold fX9_partnerFor_b41 fX9_partnerFor_b85 fX9_partnerFor_b105
          rw [z_gd g0, c0, hs0, if_neg c1, if_neg c2, z_bn m1, z_bn m2, z_nm, if_pos c, z_bn (z_gr _ _), if_pos c, z_bn m3, z_nm, nI_1]
      · obtain ⟨r, U', s', a', e5, e6, h6⟩ := ih (k + 1) f f' (T1.laws, T1.kind, nd, sv, T1.voice, p1, sp, T1.count, dy, hr, gs, T1.z) s3 a2 (nI (totA (joinA A o k) n)) (nI k) (by omega) (by omega) (by omega) hs3
        refine ⟨r, U', s', a', Eq.trans ?_ e5, Eq.trans ?_ e6, h6⟩
        · show fX7_loudestPartner_b27 N U0 (ht_lp17 (fX7_loudestPartner_b27 N U0) f) (nI o) (nI n) M F (nI k) U.laws U.kind U.need U.saved U.voice U.partner U.speaks U.count U.day U.heard U.geese U.z = _
          unfold fX7_loudestPartner_b27 fX7_loudestPartner_b89
          rw [hc, if_neg c1, if_neg c2, z_bn e1]
          refine Eq.trans (z_bn e2) ?_
          refine Eq.trans (z_bn e3) ?_
          rw [z_nm, if_neg c, z_nm, nI_1]
        · show fX9_partnerFor_b41 RM (ht_lp8 (fX9_partnerFor_b41 RM) f') (nI o) (nI n) M F (nI k) s a u = _
          unfold fX9_partnerFor_b41 fX9_partnerFor_b85 fX9_partnerFor_b105
          rw [z_gd g0, c0, hs0, if_neg c1, if_neg c2, z_bn m1, z_bn m2, z_nm, if_neg c, z_bn (z_gr _ _), if_neg c, z_bn m3, z_nm, nI_1]
theorem o_partnerFor {RX : HTV} {A : Tn} {T U : TownV} {RM : ModV} (h : TI A T RM.s) (hB : A.day + 60 < 1000000) (y1 y2 : Int32) : ∃ (r : Int32) (U' : TownV) (s' a' u' : AI), fX8_partnerFor RX T U y1 y2 = some (r, U') ∧ fX9_partnerFor RM y1 y2 = some (r, s', a', u') ∧ (∀ k, k < 57 → s' k = RM.s k) := by
  obtain ⟨hT, hM, hR, hA, hP⟩ := h
  have h8 := hR.1
  rcases z_has (T := T) (RM := RM) hT.1 hM.1 h8 y1 with ⟨w, i⟩ | ⟨o, ho, rfl, w, i⟩
  · refine ⟨-1, U, RM.s, RM.aside, RM.unpaired, ?_, ?_, fun _ _ => rfl⟩
    · unfold fX8_partnerFor; rw [z_bn w, if_pos rfl]
    · unfold fX9_partnerFor; rw [z_bn i, if_pos rfl]
  rcases z_short y2 with ⟨w2, i2⟩ | ⟨n, hn1, hn, rfl, w2, i2⟩
  · refine ⟨-1, U, RM.s, RM.aside, RM.unpaired, ?_, ?_, fun _ _ => rfl⟩
    · unfold fX8_partnerFor; rw [z_bn w, if_neg z_01, z_bn w2, if_pos rfl]
    · unfold fX9_partnerFor; rw [z_bn i, if_neg z_01, z_bn i2, if_pos rfl]
  obtain ⟨T1, e1, h1⟩ := x_copyFrom (T := U) hT hR
  obtain ⟨nd, sv, sp, dy, hr, gs, e2, h2⟩ := x_pass (T := T1.eta) h1 hR (n := n) (by omega) (by omega)
  obtain ⟨u, m1, k1⟩ := m_copyRow RM.s RM.unpaired
  obtain ⟨s2, a2, m2, k2⟩ := m_soundBy (RM := RM.wsau RM.s RM.aside u) hM hR hA (n := n) (by omega) (by omega)
  obtain ⟨r, U', s', a', e5, e6, h6⟩ := t_partner (RM := RM) (N := T) (U0 := U) hT hM hR hA k1 ho hn hB A.n 0 FU FU (T1.laws, T1.kind, nd, sv, T1.voice, T1.partner, sp, T1.count, dy, hr, gs, T1.z) s2 a2 (nI (totA A n)) (-3) (by omega) (by show A.n < 300; omega) (by show A.n < 300; omega) k2
  have e7 : fX7_loudestPartner T U (nI o) (nI n) = some (r, U') := by
    unfold fX7_loudestPartner
    rw [z_bn e1]
    refine Eq.trans (z_bn e2) ?_
    exact e5
  refine ⟨r, U', s', a', u, ?_, ?_, h6⟩
  · unfold fX8_partnerFor; rw [z_bn w, if_neg z_01, z_bn w2, if_neg z_01]; exact z_bn e7
  · unfold fX9_partnerFor; rw [z_bn i, if_neg z_01, z_bn i2, if_neg z_01, z_bn m1, z_bn m2, z_nm]; exact e6
/-! ===== luck ===== -/
/-- a day by draws, in the reference -/
theorem m_drawDayB {A : Tn} {RM : ModV} {z1 z2 z3 : Int32} {n1 n2 n3 : Nat} (l1 : n1 < 65536) (l2 : n2 < 65536) (l3 : n3 < 65536) (d1 : fX9_drawn RM = some (nI n1, upd RM.s 2 z1)) (d2 : fX9_drawn (RM.ws (upd RM.s 2 z1)) = some (nI n2, upd (upd RM.s 2 z1) 2 z2)) (d3 : fX9_drawn (RM.ws (upd (upd RM.s 2 z1) 2 z2)) = some (nI n3, upd (upd (upd RM.s 2 z1) 2 z2) 2 z3)) (hM : TM A RM.s) (hR : WR A) (hA : WA A) (hP : WP A) : ∃ s', fX9_day RM = some (nI (dSaid (drawB A z2 z3 n1 n2 n3)), s') ∧ TM (dayA (drawB A z2 z3 n1 n2 n3)) s' := by
  have h8 := hR.1
  obtain ⟨DR, DA, -, -, -⟩ := drawB_W (z2 := z2) (z3 := z3) (n1 := n1) (n2 := n2) (n3 := n3) hR hA hP
  have g0 : ht_ix (0 : Int32) 57 = true := by decide
  have g8 : ht_ix (8 : Int32) 57 = true := by decide
  have c0 : ((0 : Int32).toNatClampNeg) = 0 := rfl
  have c8 : ((8 : Int32).toNatClampNeg) = 8 := rfl
  have s0 : RM.s 0 = nI A.n := hM.1
  have fin : ∀ s : AI, TM (drawB A z2 z3 n1 n2 n3) s → ∃ s', fX9_day_b69 RM s = some (nI (dSaid (drawB A z2 z3 n1 n2 n3)), s') ∧ TM (dayA (drawB A z2 z3 n1 n2 n3)) s' := by
    intro s hs
    obtain ⟨s', e1, h1⟩ := m_goesOn (RM := RM.ws s) hs DR DA
    exact ⟨s', z_bn e1, h1⟩
  by_cases h0 : A.n = 0
  · have hD : drawB A z2 z3 n1 n2 n3 = A := by unfold drawB; rw [if_pos h0]
    obtain ⟨s', e1, h1⟩ := fin RM.s (by rw [hD]; exact hM)
    refine ⟨s', ?_, h1⟩
    unfold fX9_day
    rw [z_gd g0, c0, s0, h0, if_pos (by decide)]
    exact e1
  have nz : ht_nz (nI A.n) = true := by
    unfold ht_nz
    rw [decide_eq_false (nI_ne0 (by omega) (by omega))]; rfl
  have r1 : nI (n1) - nI (n1) / nI A.n * nI A.n = nI (n1 % A.n) := z_rem (by omega) (by omega) (by omega)
  have r2 : nI (n2) - nI (n2) / (100 : Int32) * (100 : Int32) = nI (n2 % 100) := z_rem (d := 100) (by omega) (by omega) (by omega)
  have r3 : nI (n3) - nI (n3) / nI A.n * nI A.n = nI (n3 % A.n) := z_rem (by omega) (by omega) (by omega)
  have b2 : n2 % 100 < 100 := Nat.mod_lt _ (by omega)
  have q3 := hR.2.2.2.2.1
  have hi : n1 % A.n < A.n := Nat.mod_lt _ (by omega)
  have hj : n3 % A.n < A.n := Nat.mod_lt _ (by omega)
  have M1 : TM (A.wz (z1)) (upd RM.s 2 (z1)) := TM.z hM
  have M2 : TM (A.wz (z2)) (upd (upd RM.s 2 (z1)) 2 (z2)) := TM.z (A := A.wz z1) (v := z2) M1
  have M3 : TM (A.wz (z3)) (upd (upd (upd RM.s 2 (z1)) 2 (z2)) 2 (z3)) := TM.z (A := A.wz z2) (v := z3) M2
  have E1 : fX9_day RM = ht_bn (fX9_drawn (RM.ws (upd RM.s 2 (z1)))) (fun o_8 => ht_gd (ht_ix (8 : Int32) 57) (if (o_8.2 (8 : Int32).toNatClampNeg) ≤ (o_8.1 - o_8.1 / (100 : Int32) * (100 : Int32)) then (fX9_day_b69 RM o_8.2) else (ht_bn (fX9_drawn (RM.ws o_8.2)) (fun o_11 => ht_gd (ht_ix (0 : Int32) 57) (ht_gd (ht_nz (o_11.2 (0 : Int32).toNatClampNeg)) (ht_nm (o_11.1 - o_11.1 / (o_11.2 (0 : Int32).toNatClampNeg) * (o_11.2 (0 : Int32).toNatClampNeg)) (fun x2_14 => if x2_14 = nI (n1 % A.n) then (ht_bn (fX9_leaves (RM.ws o_11.2) (nI (n1 % A.n))) (fun o_17 => fX9_day_b69 RM o_17)) else (ht_bn (fX9_pairs (RM.ws o_11.2) (nI (n1 % A.n)) x2_14) (fun o_16 => fX9_day_b69 RM o_16))))))))) := by
    have m0 : upd RM.s 2 (z1) 0 = nI A.n := M1.1
    unfold fX9_day
    rw [z_gd g0, c0, s0, if_neg (nI_nle (by omega) (by omega)), z_bn d1, z_gd g0]
    show ht_gd (ht_nz (upd RM.s 2 (z1) 0)) (ht_nm (nI (n1) - nI (n1) / (upd RM.s 2 (z1) 0) * (upd RM.s 2 (z1) 0)) _) = _
    rw [m0, z_gd nz, r1, z_nm]
  have m8 : upd (upd RM.s 2 (z1)) 2 (z2) 8 = nI (A.law 3) := M2.2.2.2.2.2.1 3 (by omega)
  have E2 : fX9_day RM = (if nI (A.law 3) ≤ nI (n2 % 100) then fX9_day_b69 RM (upd (upd RM.s 2 (z1)) 2 (z2)) else (ht_bn (fX9_drawn (RM.ws (upd (upd RM.s 2 (z1)) 2 (z2)))) (fun o_11 => ht_gd (ht_ix (0 : Int32) 57) (ht_gd (ht_nz (o_11.2 (0 : Int32).toNatClampNeg)) (ht_nm (o_11.1 - o_11.1 / (o_11.2 (0 : Int32).toNatClampNeg) * (o_11.2 (0 : Int32).toNatClampNeg)) (fun x2_14 => if x2_14 = nI (n1 % A.n) then (ht_bn (fX9_leaves (RM.ws o_11.2) (nI (n1 % A.n))) (fun o_17 => fX9_day_b69 RM o_17)) else (ht_bn (fX9_pairs (RM.ws o_11.2) (nI (n1 % A.n)) x2_14) (fun o_16 => fX9_day_b69 RM o_16)))))))) := by
    rw [E1, z_bn d2, z_gd g8]
    show (if upd (upd RM.s 2 (z1)) 2 (z2) 8 ≤ nI (n2) - nI (n2) / (100 : Int32) * (100 : Int32) then _ else _) = _
    rw [m8, r2]
  rw [E2]
  by_cases c : A.law 3 ≤ n2 % 100
  · have hD : drawB A z2 z3 n1 n2 n3 = A.wz (z2) := by unfold drawB; rw [if_neg h0, if_pos c]
    rw [if_pos ((z_le (by omega) (by omega)).mpr c)]
    exact fin _ (by rw [hD]; exact M2)
  · have hD : drawB A z2 z3 n1 n2 n3 = lotA (A.wz (z3)) (n1 % A.n) (n3 % A.n) := by unfold drawB; rw [if_neg h0, if_neg c]
    have m0 : upd (upd (upd RM.s 2 (z1)) 2 (z2)) 2 (z3) 0 = nI A.n := M3.1
    have E3 : ht_bn (fX9_drawn (RM.ws (upd (upd RM.s 2 (z1)) 2 (z2)))) (fun o_11 => ht_gd (ht_ix (0 : Int32) 57) (ht_gd (ht_nz (o_11.2 (0 : Int32).toNatClampNeg)) (ht_nm (o_11.1 - o_11.1 / (o_11.2 (0 : Int32).toNatClampNeg) * (o_11.2 (0 : Int32).toNatClampNeg)) (fun x2_14 => if x2_14 = nI (n1 % A.n) then (ht_bn (fX9_leaves (RM.ws o_11.2) (nI (n1 % A.n))) (fun o_17 => fX9_day_b69 RM o_17)) else (ht_bn (fX9_pairs (RM.ws o_11.2) (nI (n1 % A.n)) x2_14) (fun o_16 => fX9_day_b69 RM o_16)))))) = (if nI (n3 % A.n) = nI (n1 % A.n) then (ht_bn (fX9_leaves (RM.ws (upd (upd (upd RM.s 2 (z1)) 2 (z2)) 2 (z3))) (nI (n1 % A.n))) (fun o_17 => fX9_day_b69 RM o_17)) else (ht_bn (fX9_pairs (RM.ws (upd (upd (upd RM.s 2 (z1)) 2 (z2)) 2 (z3))) (nI (n1 % A.n)) (nI (n3 % A.n))) (fun o_16 => fX9_day_b69 RM o_16))) := by
      rw [z_bn d3, z_gd g0]
      show ht_gd (ht_nz (upd (upd (upd RM.s 2 (z1)) 2 (z2)) 2 (z3) 0)) (ht_nm (nI (n3) - nI (n3) / (upd (upd (upd RM.s 2 (z1)) 2 (z2)) 2 (z3) 0) * (upd (upd (upd RM.s 2 (z1)) 2 (z2)) 2 (z3) 0)) _) = _
      rw [m0, z_gd nz, r3, z_nm]
    rw [if_neg (fun q => c ((z_le (by omega) (by omega)).mp q)), E3]
    have hR' : WR (A.wz z3) := hR.z
    by_cases e : n3 % A.n = n1 % A.n
    · obtain ⟨s4, e4, h4⟩ := m_leaves (RM := RM.ws (upd (upd (upd RM.s 2 (z1)) 2 (z2)) 2 (z3))) M3 hR' (k := n1 % A.n) hi
      rw [if_pos (by rw [e]), z_bn e4]
      exact fin s4 (by rw [hD, lotA, if_pos e.symm]; exact h4)
    · obtain ⟨s4, e4, h4⟩ := m_pairs (RM := RM.ws (upd (upd (upd RM.s 2 (z1)) 2 (z2)) 2 (z3))) M3 hR' (i := n1 % A.n) (j := n3 % A.n) hi hj
      rw [if_neg (fun q => e ((z_eq (by omega) (by omega)).mp q)), z_bn e4]
      exact fin s4 (by rw [hD, lotA, if_neg (fun q => e q.symm)]; exact h4)
theorem m_drawDay {A : Tn} {RM : ModV} (hM : TM A RM.s) (hR : WR A) (hA : WA A) (hP : WP A) : ∃ s', fX9_day RM = some (nI (dSaid (drawA A)), s') ∧ TM (dayA (drawA A)) s' := by
  have M1 : TM (A.wz (dwZ A.z)) (upd RM.s 2 (dwZ A.z)) := TM.z hM
  have d2 := m_drawnz (RM := RM) M1 (wz_z A (dwZ A.z))
  have M2 : TM (A.wz (dwZ (dwZ A.z))) (upd (upd RM.s 2 (dwZ A.z)) 2 (dwZ (dwZ A.z))) := TM.z2 M1
  have d3 := m_drawnz (RM := RM) M2 (wz_z A (dwZ (dwZ A.z)))
  exact m_drawDayB (dwN_lt _) (dwN_lt _) (dwN_lt _) (m_drawn hM) d2 d3 hM hR hA hP
