/-! ===== the reference finds the best ===== -/
def SFd (A C : Tn) : Prop := C.n = A.n ∧ C.law = A.law ∧ C.kd = A.kd ∧ C.nd = A.nd ∧ C.sv = A.sv ∧ C.vc = A.vc ∧ C.day = A.day ∧ C.hrd = A.hrd ∧ C.gs = A.gs ∧ C.z = A.z
theorem unjA_SF {A C : Tn} (h : SFd A C) (k : Nat) : SFd A (unjA C k) := by
  unfold unjA
  split
  · exact h
  · exact h
theorem m_leaveN {A : Tn} {RM : ModV} {x a u w : AI} {bs y : Int32} (h8 : A.n ≤ 8) : ∀ (d k fuel : Nat) (s : AI) (C : Tn), k + d = A.n → d < fuel → TM C s → WR C → WA C → WP C → SFd A C → (∀ i, i < k → C.pr i = 0) → ∃ s', ht_lp7 (fX9_findsBest_b13 RM) fuel y (nI k) s a u bs w = fX9_findsBest_b34 RM y s' a u bs w ∧ TM (wayT A (fun _ => 0)) s' := by
  have g0 : ht_ix (0 : Int32) 57 = true := by decide
  intro d
  induction d with
  | zero =>
    intro k fuel s C hk hf hM hR hA hP hS hp
    obtain ⟨f, rfl⟩ : ∃ f, fuel = f + 1 := ⟨fuel - 1, by omega⟩
    obtain ⟨s1, s2, s3, s4, s5, s6, s7, s8, s9, s10⟩ := hS
    have hs : s ((0 : Int32).toNatClampNeg) = nI A.n := by rw [← s1]; exact hM.1
    refine ⟨s, ?_, TM.cong hM s1.symm s7.symm s8.symm s9.symm s10.symm s2.symm (fun i hi => ⟨by rw [s3]; rfl, by rw [s4]; rfl, by rw [s5]; rfl, by rw [s6]; rfl, ?_, ?_⟩)⟩
    · show fX9_findsBest_b13 RM (ht_lp7 (fX9_findsBest_b13 RM) f) y (nI k) s a u bs w = _
      unfold fX9_findsBest_b13
      rw [z_gd g0, hs, if_pos (nI_le (by omega) (by omega))]
    · exact (hp i (by rw [s1] at hi; omega)).symm
    · have p0 := hp i (by rw [s1] at hi; omega)
      rw [hA i hi p0]
      rfl
  | succ d ih =>
    intro k fuel s C hk hf hM hR hA hP hS hp
    obtain ⟨f, rfl⟩ : ∃ f, fuel = f + 1 := ⟨fuel - 1, by omega⟩
    have hs : s ((0 : Int32).toNatClampNeg) = nI A.n := by rw [← hS.1]; exact hM.1
    have hkn : k < C.n := by rw [hS.1]; omega
    obtain ⟨s1, e1, h1⟩ := m_leaves (RM := (s, RM.held, a, RM.before, RM.isHeld, RM.tape, RM.taped, RM.token, RM.frm, RM.to, RM.value, RM.isWrong, u, bs, w, RM.rows, RM.rowN, RM.sortOf, RM.sizeOf, RM.numbers, RM.holdsWhat, RM.holdsWhich, RM.holdsMany, RM.bodies, RM.ran, RM.actKind, RM.actN, RM.actA, RM.isParted)) hM hR hkn
    obtain ⟨s2, e2, h2⟩ := ih (k + 1) f s1 (unjA C k) (by omega) (by omega) h1 (unjA_R hR k) (unjA_A hA k) (unjA_P hR hP hkn) (unjA_SF hS k) (fun i hi => by
      rw [unjA_pr]
      by_cases e : i = k
      · rw [if_pos e]
      · rw [if_neg e]
        split
        · rfl
        · exact hp i (by omega))
    refine ⟨s2, Eq.trans ?_ e2, h2⟩
    show fX9_findsBest_b13 RM (ht_lp7 (fX9_findsBest_b13 RM) f) y (nI k) s a u bs w = _
    generalize ht_lp7 (fX9_findsBest_b13 RM) f = K
    unfold fX9_findsBest_b13
    rw [z_gd g0, hs, if_neg (nI_ge (by omega) (by omega))]
    refine Eq.trans (z_bn e1) ?_
    rw [z_nm, nI_1]
theorem m_findsBest {A : Tn} {RM : ModV} {N : Nat} (hM : TM A RM.s) (hR : WR A) (hA : WA A) (hP : WP A) (hN : N ≤ 5) (hd : A.day + 60 < 1000000) : ∃ (s' a' u' w' : AI), fX9_findsBest RM (nI N) = some (s', a', u', nI (bR (Sd A N) A.n 0 (fun _ => true)), w') ∧ (∀ k, k < 57 → s' k = RM.s k) ∧ ∀ k, k < A.n → w' k = nI (wR (Sd A N) A.n 0 (fun _ => true) (fun _ => 0) k) := by
  have h8 := hR.1
  obtain ⟨u, e1, h1⟩ := m_copyRow RM.s RM.unpaired
  obtain ⟨s1, e2, h2⟩ := m_leaveN (RM := RM) (x := RM.s) (a := RM.aside) (u := u) (w := RM.bestWay) (bs := RM.bestSound) (y := nI N) h8 A.n 0 FU RM.s A (by omega) (by show A.n < 300; omega) hM hR hA hP ⟨rfl, rfl, rfl, rfl, rfl, rfl, rfl, rfl, rfl, rfl⟩ (fun i hi => absurd hi (by omega))
  have hMU : MU A.n (fun _ => 0) := fun i _ j hj => absurd (show (0 : Nat) = j + 1 from hj) (by omega)
  obtain ⟨s3, a3, B3, w3, e3, M3, hB3, O3⟩ := m_ways hR hN hd A.n 0 12 (fun _ => 0) 0 0 (s1, RM.held, RM.aside, RM.before, RM.isHeld, RM.tape, RM.taped, RM.token, RM.frm, RM.to, RM.value, RM.isWrong, u, (-1 : Int32), RM.bestWay, RM.rows, RM.rowN, RM.sortOf, RM.sizeOf, RM.numbers, RM.holdsWhat, RM.holdsWhich, RM.holdsMany, RM.bodies, RM.ran, RM.actKind, RM.actN, RM.actA, RM.isParted) (by omega) (by omega) hMU (fun k _ _ h => absurd rfl h) (by omega) (fun k _ _ => by rw [Nat.zero_testBit]; exact (decide_eq_false (fun h => h rfl)).symm) (by omega) h2 z_m1
  unfold OUTW at O3
  rw [if_pos (Nat.zero_le _)] at O3
  obtain ⟨o1, o2⟩ := O3
  have hbR : bR (Sd A N) A.n 0 (fun k => decide ((fun _ => 0 : Nat → Nat) k = 0)) = bR (Sd A N) A.n 0 (fun _ => true) := bR_cong A.n 0 (fun k _ _ => decide_eq_true rfl)
  have hwR : wR (Sd A N) A.n 0 (fun k => decide ((fun _ => 0 : Nat → Nat) k = 0)) (fun _ => 0) = wR (Sd A N) A.n 0 (fun _ => true) (fun _ => 0) := wR_cong A.n 0 (fun _ => 0) (fun k _ _ => decide_eq_true rfl)
  have ot : B3 = bR (Sd A N) A.n 0 (fun _ => true) + 1 := by
    rw [o1, hbR]
    show 0 + bR (Sd A N) A.n 0 (fun _ => true) + 1 = _
    omega
  obtain ⟨s4, e4, h4⟩ := m_copyRow u s3
  refine ⟨s4, a3, u, w3, ?_, fun k hk => (h4 k hk).trans (h1 k hk), fun k hk => by rw [o2 k hk, hwR]⟩
  unfold fX9_findsBest
  rw [z_bn e1]
  refine Eq.trans e2 ?_
  unfold fX9_findsBest_b34
  refine Eq.trans (z_bn e3) ?_
  rw [ot, nI_pred]
  exact z_bn e4
/-! ===== the class weighs each pair by itself ===== -/
theorem x_addE {F : Tn} {T : TownV} (hT : TX F T) (hR : WR F) {m : Nat} (hm : F.n = m) (hm8 : m < 8) {k nd sv vc : Nat} (hk : k ≤ 5) (hnd : nd ≤ 99) (hsv : sv ≤ 99) (hvc : vc ≤ 9) : ∃ (a b c d e f : AI) (F' : Tn), fX6_add T (nI k) (nI nd) (nI sv) (nI vc) = some (a, b, c, d, e, f, nI (m + 1)) ∧ TX F' (T.laws, a, b, c, d, e, f, nI (m + 1), T.day, T.heard, T.geese, T.z) ∧ WR F' ∧ F'.n = m + 1 ∧ F'.law = F.law ∧ F'.day = F.day ∧ (F'.kd m = k ∧ F'.nd m = nd ∧ F'.sv m = sv ∧ F'.vc m = vc ∧ F'.pr m = 0 ∧ F'.sp m = 1) ∧ ∀ x, x < m → F'.kd x = F.kd x ∧ F'.nd x = F.nd x ∧ F'.sv x = F.sv x ∧ F'.vc x = F.vc x ∧ F'.pr x = F.pr x ∧ F'.sp x = F.sp x := by
  subst hm
  obtain ⟨a, b, c, d, e, f, ex, hx⟩ := x_add hT hm8 k nd sv vc
  refine ⟨a, b, c, d, e, f, addA F k nd sv vc, ex, hx, addA_R hR hm8 hk hnd hsv hvc, rfl, rfl, rfl, ⟨up_s _ _ _, up_s _ _ _, up_s _ _ _, up_s _ _ _, up_s _ _ _, up_s _ _ _⟩, fun x hx' => ?_⟩
  have ne : x ≠ F.n := by omega
  exact ⟨up_n _ _ ne, up_n _ _ ne, up_n _ _ ne, up_n _ _ ne, up_n _ _ ne, up_n _ _ ne⟩
theorem x_joinE {F : Tn} {T : TownV} (hT : TX F T) (hR : WR F) (hn : F.n = 2) (P0 : F.pr 0 = 0) (P1 : F.pr 1 = 0) : ∃ (e f : AI) (F' : Tn), fX6_join T (0 : Int32) (1 : Int32) = some (e, f) ∧ TX F' (T.wps e f) ∧ WR F' ∧ F'.n = 2 ∧ F'.law = F.law ∧ F'.day = F.day ∧ (∀ x, F'.kd x = F.kd x ∧ F'.nd x = F.nd x ∧ F'.sv x = F.sv x ∧ F'.vc x = F.vc x) ∧ F'.pr 0 = 2 ∧ F'.pr 1 = 1 ∧ F'.sp 0 = 1 ∧ F'.sp 1 = 0 := by
  obtain ⟨e, f, ej, hj⟩ := x_join hT hR (i := 0) (j := 1) (by omega) (by omega)
  have u0 : unjA F 0 = alone1 F 0 := by unfold unjA; exact if_pos P0
  have u1 : unjA (alone1 F 0) 1 = alone1 (alone1 F 0) 1 := by
    unfold unjA
    refine if_pos ?_
    show va_up F.pr 0 0 1 = 0
    rw [up_n _ _ (by omega)]; exact P1
  have EJ : joinA F 0 1 = ((alone1 (alone1 F 0) 1).wpr (va_up (va_up (alone1 (alone1 F 0) 1).pr 0 2) 1 1)).wsp (va_up (alone1 (alone1 F 0) 1).sp 1 0) := by
    unfold joinA
    rw [u0, u1]
  have hR' := joinA_R hR (i := 0) (j := 1) (by omega) (by omega)
  rw [EJ] at hj hR'
  refine ⟨e, f, _, ej, hj, hR', hn, rfl, rfl, fun x => ⟨rfl, rfl, rfl, rfl⟩, ?_, ?_, ?_, ?_⟩
  · show va_up (va_up (va_up (va_up F.pr 0 0) 1 0) 0 2) 1 1 0 = 2
    rw [up_n _ _ (by omega), up_s]
  · show va_up (va_up (va_up (va_up F.pr 0 0) 1 0) 0 2) 1 1 1 = 1
    rw [up_s]
  · show va_up (va_up (va_up F.sp 0 1) 1 1) 1 0 0 = 1
    rw [up_n _ _ (by omega), up_n _ _ (by omega), up_s]
  · show va_up (va_up (va_up F.sp 0 1) 1 1) 1 0 1 = 0
    rw [up_s]
theorem x_take {A B : Tn} {RP : PairV} {N W : TownV} (hN : TX A N) (hR : WR A) (hW : TX B W) (hRB : WR B) {i j : Nat} (hi : i < A.n) (hj : j < A.n) : ∃ (la kd nd sv vc pr sp : AI) (ct dy : Int32) (F : Tn), fX2_takeOnly RP N W (nI i) (nI j) = some (la, kd, nd, sv, vc, pr, sp, ct, dy) ∧ TX F (la, kd, nd, sv, vc, pr, sp, ct, dy, W.heard, W.geese, W.z) ∧ WR F ∧ F.day = A.day ∧ ∀ M, totA F M = Sd A M i j := by
  have h8 := hR.1
  obtain ⟨la, el, hla⟩ := x_copyLaws W N
  obtain ⟨r1, r2, r3, r4, r5, r6, r7, r8, r9⟩ := hR
  obtain ⟨t1, t2, t3, t4, t5, t6, t7, t8, t9⟩ := hRB
  obtain ⟨hn, hd, hh, hg, hz, hl, hk, hne, hsa, hv, hp, hs⟩ := hN
  obtain ⟨F0, hF0, hR0, hn0, hl0, hd0⟩ : ∃ F0 : Tn, TX F0 (la, W.kind, W.need, W.saved, W.voice, W.partner, W.speaks, (0 : Int32), N.day, W.heard, W.geese, W.z) ∧ WR F0 ∧ F0.n = 0 ∧ F0.law = A.law ∧ F0.day = A.day := ⟨(0, A.law, B.kd, B.nd, B.sv, B.vc, B.pr, B.sp, A.day, B.hrd, B.gs, B.z), ⟨rfl, hd, hW.2.2.1, hW.2.2.2.1, hW.2.2.2.2.1, fun k hk' => (hla k hk').trans (hl k hk'), fun k hk' => absurd hk' (Nat.not_lt_zero k), fun k hk' => absurd hk' (Nat.not_lt_zero k), fun k hk' => absurd hk' (Nat.not_lt_zero k), fun k hk' => absurd hk' (Nat.not_lt_zero k), fun k hk' => absurd hk' (Nat.not_lt_zero k), fun k hk' => absurd hk' (Nat.not_lt_zero k)⟩, ⟨Nat.zero_le _, r2, r3, r4, r5, r6, t7, t8, fun k hk' => absurd hk' (Nat.not_lt_zero k)⟩, rfl, rfl, rfl⟩
  obtain ⟨qi1, qi2, qi3, qi4, qi5, qi6⟩ := r9 i hi
  obtain ⟨qj1, qj2, qj3, qj4, qj5, qj6⟩ := r9 j hj
  have gi : ht_ix (nI i) 8 = true := z_ix (by omega) (by omega)
  have gj : ht_ix (nI j) 8 = true := z_ix (by omega) (by omega)
  have ci : (nI i).toNatClampNeg = i := z_cl (by omega)
  have cj : (nI j).toNatClampNeg = j := z_cl (by omega)
  obtain ⟨a1, a2, a3, a4, a5, a6, F1, ex, hx, hR1, hn1, hl1, hd1, ⟨y1, y2, y3, y4, y5, y6⟩, -⟩ := x_addE hF0 hR0 hn0 (by omega) qi1 qi2 qi3 qi4
  have EX : fX2_takeOnly RP N W (nI i) (nI j) = (if nI i = nI j then (some (la, a1, a2, a3, a4, a5, a6, nI (0 + 1), N.day)) else (ht_gd (ht_ix (nI j) 8) (ht_gd (ht_ix (nI j) 8) (ht_gd (ht_ix (nI j) 8) (ht_gd (ht_ix (nI j) 8) (ht_bn (fX6_add (la, a1, a2, a3, a4, a5, a6, nI (0 + 1), N.day, W.heard, W.geese, W.z) (N.kind (nI j).toNatClampNeg) (N.need (nI j).toNatClampNeg) (N.saved (nI j).toNatClampNeg) (N.voice (nI j).toNatClampNeg)) (fun o_12 => ht_bn (fX6_join (la, o_12.1, o_12.2.1, o_12.2.2.1, o_12.2.2.2.1, o_12.2.2.2.2.1, o_12.2.2.2.2.2.1, o_12.2.2.2.2.2.2, N.day, W.heard, W.geese, W.z) (0 : Int32) (1 : Int32)) (fun o_13 => some (la, o_12.1, o_12.2.1, o_12.2.2.1, o_12.2.2.2.1, o_13.1, o_13.2, o_12.2.2.2.2.2.2, N.day))))))))) := by
    unfold fX2_takeOnly
    rw [z_bn el, z_gd gi, z_gd gi, z_gd gi, z_gd gi, ci, hk i hi, hne i hi, hsa i hi, hv i hi]
    refine Eq.trans (z_bn ex) ?_
    by_cases x : nI i = nI j
    · rw [if_pos x]
    · rw [if_neg x]
  by_cases e : i = j
  · subst e
    refine ⟨la, a1, a2, a3, a4, a5, a6, nI (0 + 1), N.day, F1, ?_, hx, hR1, hd1.trans hd0, fun M => ?_⟩
    · rw [EX, if_pos rfl]
    · refine tot_one (fun k hk' l hl' => ?_) hn1 (hl1.trans hl0) (hd1.trans hd0) ⟨y1, y2, y3, y4, y6⟩ y5
      rw [hn1] at hk'
      have : k = 0 := by omega
      subst this
      rw [y5] at hl'
      omega
  · obtain ⟨b1, b2, b3, b4, b5, b6, F2, ex2, hx2, hR2, hn2, hl2, hd2, ⟨z1, z2, z3, z4, z5, z6⟩, st⟩ := x_addE hx hR1 hn1 (by omega) qj1 qj2 qj3 qj4
    obtain ⟨s1, s2, s3, s4, s5, s6⟩ := st 0 (by omega)
    obtain ⟨c1, c2, F3, ej, hx3, hR3, hn3, hl3, hd3, k3, p0, p1, q0, q1⟩ := x_joinE hx2 hR2 hn2 (s5.trans y5) z5
    refine ⟨la, b1, b2, b3, b4, c1, c2, nI (0 + 1 + 1), N.day, F3, ?_, hx3, hR3, hd3.trans (hd2.trans (hd1.trans hd0)), fun M => ?_⟩
    · rw [EX, if_neg (fun x => e ((z_eq (by omega) (by omega)).mp x)), z_gd gj, z_gd gj, z_gd gj, z_gd gj, cj, hk j hj, hne j hj, hsa j hj, hv j hj]
      refine Eq.trans (z_bn ex2) ?_
      exact z_bn ej
    · obtain ⟨m1, m2, m3, m4⟩ := k3 0
      obtain ⟨w1, w2, w3, w4⟩ := k3 1
      refine tot_two (fun k hk' l hl' => ?_) e hn3 (hl3.trans (hl2.trans (hl1.trans hl0))) (hd3.trans (hd2.trans (hd1.trans hd0))) ⟨m1.trans (s1.trans y1), m2.trans (s2.trans y2), m3.trans (s3.trans y3), m4.trans (s4.trans y4), q0⟩ ⟨w1.trans z1, w2.trans z2, w3.trans z3, w4.trans z4, q1⟩ p0
      rw [hn3] at hk' ⊢
      have : k = 0 ∨ k = 1 := by omega
      rcases this with rfl | rfl
      · rw [p0] at hl'
        have : l = 1 := by omega
        subst this
        exact ⟨by omega, p1, by omega, by rw [q0, q1]⟩
      · rw [p1] at hl'
        have : l = 0 := by omega
        subst this
        exact ⟨by omega, p0, by omega, by rw [q0, q1]⟩
