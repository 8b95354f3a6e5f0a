/-! ===== two are told as a pair ===== -/
theorem m_isOneT {RM : ModV} (v : Int32) : fX9_isOne RM v = some 0 ∨ fX9_isOne RM v = some 1 := by
  have g0 : ht_ix (0 : Int32) 57 = true := by decide
  unfold fX9_isOne
  by_cases h0 : v < 0
  · rw [if_pos h0]; exact Or.inl rfl
  · rw [if_neg h0, z_gd g0]
    by_cases h1 : RM.s (0 : Int32).toNatClampNeg ≤ v
    · rw [if_pos h1]; exact Or.inl rfl
    · rw [if_neg h1]; exact Or.inr rfl
section
variable {J : TellV} {RA : TapeV} {RM : ModV} {s : AI} {c : Nat → Nat} {n q e k : Nat} {tk fr to va : Int32}
theorem m_117w {x1 x2 : Int32} (t : Int32) : fX9_pairHere_b117 RM x1 x2 t s tk fr to va 1 = some (s, tk, fr, to, va, (1 : Int32)) := by
  unfold fX9_pairHere_b117
  refine Eq.trans (z_bn (m_needsW (RM := RM) (s := s) (tk := tk) (fr := fr) (to := to) (va := va) t)) ?_
  rw [if_neg z_01]
theorem m_1170 {x1 x2 : Int32} : fX9_pairHere_b117 RM x1 x2 0 s tk fr to va 0 = some (s, tk, fr, to, va, (1 : Int32)) := by
  unfold fX9_pairHere_b117
  refine Eq.trans (z_bn (m_needs0 (RM := RM) (s := s) (tk := tk) (fr := fr) (to := to) (va := va))) ?_
  rw [if_neg z_01]
/-- the rest of a pair's sentence, once all is wrong -/
theorem m_pairW {x1 : Int32} : (if tk = (2 : Int32) then (if (3 : Int32) < (to - fr) then (fX9_pairHere_b116 RM x1 va s tk fr to va 1) else (ht_bn (fX9_isOne (RM.wt s tk fr to va 1) va) (fun o_10 => if o_10 = 0 then (fX9_pairHere_b116 RM x1 va s tk fr to va 1) else (if va = x1 then (fX9_pairHere_b116 RM x1 va s tk fr to va 1) else (fX9_pairHere_b117 RM x1 va (1 : Int32) s tk fr to va 1))))) else (fX9_pairHere_b116 RM x1 va s tk fr to va 1)) = some (s, tk, fr, to, va, (1 : Int32)) := by
  unfold fX9_pairHere_b116
  rw [m_117w, m_117w]
  by_cases h1 : tk = (2 : Int32)
  · rw [if_pos h1]
    by_cases h2 : (3 : Int32) < to - fr
    · rw [if_pos h2]
    · rw [if_neg h2]
      rcases m_isOneT (RM := RM.wt s tk fr to va 1) va with o | o
      · rw [z_bn o, if_pos rfl]
      · rw [z_bn o, if_neg z_01]
        by_cases h3 : va = x1
        · rw [if_pos h3]
        · rw [if_neg h3]
  · rw [if_neg h1]
theorem m_47e (h : TPx RA RM c n) (hR : RD n J tk fr to va q e k) {x1 : Int32} {tk' fr' to' va' wr t : Int32} {J' : TellV} {q' e' k' : Nat} (hR' : RD n J' tk' fr' to' va' q' e' k') (hn : fX9_needs (RM.wt s tk fr to va 0) t = some (tk', fr', to', va', wr)) : ∃ b, fX5_isName J' RA 4 = some (bI b) ∧ fX9_pairHere_b47 RM x1 t s tk fr to va 0 = ht_bn (fX9_needs (RM.wt s tk' fr' to' va' wr) (bI b)) (fun o_6 => ht_nm o_6.2.2.2.1 (fun x2_7 => if o_6.1 = (2 : Int32) then (if (3 : Int32) < (o_6.2.2.1 - o_6.2.1) then (fX9_pairHere_b116 RM x1 x2_7 s o_6.1 o_6.2.1 o_6.2.2.1 o_6.2.2.2.1 o_6.2.2.2.2) else (ht_bn (fX9_isOne (RM.wt s o_6.1 o_6.2.1 o_6.2.2.1 o_6.2.2.2.1 o_6.2.2.2.2) o_6.2.2.2.1) (fun o_10 => if o_10 = 0 then (fX9_pairHere_b116 RM x1 x2_7 s o_6.1 o_6.2.1 o_6.2.2.1 o_6.2.2.2.1 o_6.2.2.2.2) else (if o_6.2.2.2.1 = x1 then (fX9_pairHere_b116 RM x1 x2_7 s o_6.1 o_6.2.1 o_6.2.2.1 o_6.2.2.2.1 o_6.2.2.2.2) else (fX9_pairHere_b117 RM x1 x2_7 (1 : Int32) s o_6.1 o_6.2.1 o_6.2.2.1 o_6.2.2.2.1 o_6.2.2.2.2))))) else (fX9_pairHere_b116 RM x1 x2_7 s o_6.1 o_6.2.1 o_6.2.2.1 o_6.2.2.2.1 o_6.2.2.2.2))) := by
  obtain ⟨b, x4, m4⟩ := nm_4 (s := s) (wr := wr) h hR' 4 (by omega) rfl
  have M4 : fX9_isFour (RM.wt s tk' fr' to' va' wr) (119 : Int32) (105 : Int32) (116 : Int32) (104 : Int32) = some (bI b) := m4
  refine ⟨b, x4, ?_⟩
  unfold fX9_pairHere_b47
  refine Eq.trans (z_bn hn) ?_
  exact z_bn M4
/-- wrong from its first number on -/
theorem m_47w (h : TPx RA RM c n) (hR : RD n J tk fr to va q e k) {x1 : Int32} : fX9_pairHere_b46 RM x1 s tk fr to va 0 = some (s, tk, fr, to, va, (1 : Int32)) := by
  obtain ⟨b, -, E⟩ := m_47e (RM := RM) (s := s) (x1 := x1) h hR hR (m_needs0 (RM := RM) (s := s) (tk := tk) (fr := fr) (to := to) (va := va))
  unfold fX9_pairHere_b46
  rw [E]
  refine Eq.trans (z_bn (m_needsW (RM := RM) (s := s) (tk := tk) (fr := fr) (to := to) (va := va) (bI b))) ?_
  rw [z_nm]
  exact m_pairW
/-- one of the town's people by its number -/
theorem t_pn (hR : RD n J tk fr to va q e k) {N : Nat} (hN : N ≤ 8) (hs : s 0 = nI N) (wr : Int32) : (∃ v, v < N ∧ k = 2 ∧ e - q ≤ 3 ∧ J.value = nI v ∧ va = nI v ∧ fX9_isOne (RM.wt s tk fr to va wr) va = some 1 ∧ fX5_readNumber J RA (nI N - 1) = ht_bn (fX5_readAhead J RA) (fun o_4 => some (nI v, o_4.1, o_4.2.1, o_4.2.2.1, o_4.2.2.2))) ∨ (fX5_readNumber J RA (nI N - 1) = some ((-1 : Int32), J) ∧ (¬ k = 2 ∨ (k = 2 ∧ 3 < e - q) ∨ (k = 2 ∧ e - q ≤ 3 ∧ fX9_isOne (RM.wt s tk fr to va wr) va = some 0))) := by
  obtain ⟨r1, r2, r3, r4, r5, r6, r7, r8, r9, r10, r11⟩ := hR
  have g0 : ht_ix (0 : Int32) 57 = true := by decide
  have EX : fX5_readNumber J RA (nI N - 1) = (if nI k = (2 : Int32) then (if J.value ≤ nI N - 1 then (ht_bn (fX5_readAhead J RA) (fun o_4 => some (J.value, o_4.1, o_4.2.1, o_4.2.2.1, o_4.2.2.2))) else (some ((-1 : Int32), J))) else (some ((-1 : Int32), J))) := by
    rw [← r2]
    rfl
  have le1 : ∀ v : Nat, v < 1073741824 → (nI v ≤ nI N - 1 ↔ v < N) := by
    intro v hv
    have e1 : (nI N - 1).toInt = (N : Int) - 1 := z_subT (a := N) (b := 1) (by omega) (by omega)
    rw [z_leI, e1, z_ti hv]
    omega
  by_cases hk : k = 2
  · have k2 : nI k = (2 : Int32) := by rw [hk]; rfl
    rcases r11 hk with ⟨hd, v, hv, v1, v2⟩ | ⟨hd, v1, w, hw, v2⟩
    · have hv3 : v < 1000 := by
        have : (10 : Nat) ^ (e - q) ≤ 10 ^ 3 := Nat.pow_le_pow_right (by omega) hd
        omega
      have O : fX9_isOne (RM.wt s tk fr to va wr) va = some (if v < N then 1 else 0) := by
        unfold fX9_isOne
        show (if va < 0 then some (0 : Int32) else ht_gd (ht_ix (0 : Int32) 57) (if s 0 ≤ va then some (0 : Int32) else some (1 : Int32))) = _
        rw [v2, if_neg (nI_pos (by omega)), z_gd g0, hs]
        by_cases hvN : v < N
        · rw [if_neg (nI_ge hvN (by omega)), if_pos hvN]
        · rw [if_pos (nI_le (by omega) (by omega)), if_neg hvN]
      by_cases hvN : v < N
      · rw [if_pos hvN] at O
        refine Or.inl ⟨v, hvN, hk, hd, v1, v2, O, ?_⟩
        rw [EX, if_pos k2, v1, if_pos ((le1 v (by omega)).mpr hvN)]
      · rw [if_neg hvN] at O
        refine Or.inr ⟨?_, Or.inr (Or.inr ⟨hk, hd, O⟩)⟩
        rw [EX, if_pos k2, v1, if_neg (fun x => hvN ((le1 v (by omega)).mp x))]
    · refine Or.inr ⟨?_, Or.inr (Or.inl ⟨hk, hd⟩)⟩
      rw [EX, if_pos k2, v1, if_neg (fun x => by
        have := (le1 1000 (by omega)).mp x
        omega)]
  · refine Or.inr ⟨?_, Or.inl hk⟩
    rw [EX, if_neg (z_neL (b := 2) (c := 2) rfl hk (by omega) (by omega))]
end
theorem t_pair {J : TellV} {RA : TapeV} {RM : ModV} {c : Nat → Nat} {n q e k : Nat} {A : Tn} {T : TownV} (h : TPx RA RM c n) (hR : RD n J RM.token RM.frm RM.to RM.value q e k) (hk0 : k ≠ 0) (hw : RM.isWrong = 0) (hI : TI A T RM.s) : (∃ (J' : TellV) (pe sp s' : AI) (tk fr to va : Int32) (q' e' k' : Nat) (A' : Tn), fX5_readPair J RA T = some ((1 : Int32), J'.place, J'.sort, J'.value, J'.start, pe, sp) ∧ ht_bn (fX9_pairHere RM) (fun o_13 => fX9_itemHere_b78 RM o_13.1 o_13.2.1 o_13.2.2.1 o_13.2.2.2.1 o_13.2.2.2.2.1 o_13.2.2.2.2.2) = some (s', tk, fr, to, va, (0 : Int32)) ∧ RD n J' tk fr to va q' e' k' ∧ q < q' ∧ TI A' (T.wps pe sp) s' ∧ A'.day = A.day) ∨ (∃ (J' : TellV) (pe sp s' : AI) (tk fr to va : Int32), fX5_readPair J RA T = some ((0 : Int32), J'.place, J'.sort, J'.value, J'.start, pe, sp) ∧ ht_bn (fX9_pairHere RM) (fun o_13 => fX9_itemHere_b78 RM o_13.1 o_13.2.1 o_13.2.2.1 o_13.2.2.2.1 o_13.2.2.2.2.1 o_13.2.2.2.2.2) = some (s', tk, fr, to, va, (1 : Int32)) ∧ fr = J'.start) := by
  have hqe := hR.2.2.2.2.2.2.2.2.2.1 hk0
  obtain ⟨hT, hM, hWR, hA, hP⟩ := hI
  have h8 := hWR.1
  have hs0 : RM.s 0 = nI A.n := hM.1
  have hc : T.count = nI A.n := hT.1
  obtain ⟨J1, tk1, fr1, to1, va1, q1, e1, k1, x1, m1, R1, le1⟩ := t_ahead (RM := RM) h hR.2.2.2.2.2.2.2.1 hR.1 hR.2.2.2.2.2.1
  have eS1 : to1 - fr1 = nI (e1 - q1) := by rw [R1.2.2.2.2.1, R1.2.2.2.2.2.1]; exact z_sub R1.2.2.2.2.2.2.1
  have hn := h.1
  have e1n := R1.2.2.2.2.2.2.2.1
  have nm1 : ∀ v : Nat, v < 1000 → ¬ nI v = (-1 : Int32) := fun v hv x => by
    have := congrArg Int32.toInt x
    rw [z_ti (by omega), show ((-1 : Int32).toInt) = -1 by decide] at this
    omega
  have EM0 : fX9_pairHere RM = (if tk1 = (2 : Int32) then (if (3 : Int32) < (to1 - fr1) then (fX9_pairHere_b46 RM va1 RM.s tk1 fr1 to1 va1 0) else (ht_bn (fX9_isOne (RM.wt RM.s tk1 fr1 to1 va1 0) va1) (fun o_17 => if o_17 = 0 then (fX9_pairHere_b46 RM va1 RM.s tk1 fr1 to1 va1 0) else (fX9_pairHere_b47 RM va1 (1 : Int32) RM.s tk1 fr1 to1 va1 0)))) else (fX9_pairHere_b46 RM va1 RM.s tk1 fr1 to1 va1 0)) := by
    unfold fX9_pairHere
    rw [z_bn m1, z_nm, hw]
  have tkI : ∀ kk : Nat, ¬ kk = 2 → kk ≤ 3 → ¬ nI kk = (2 : Int32) := fun kk h1 h2 => z_neL (b := 2) (c := 2) rfl h1 (by omega) (by omega)
  rcases t_pn (RA := RA) (RM := RM) (s := RM.s) R1 h8 hs0 0 with ⟨v1, hv1, hk1, hd1, jv1, av1, o1, n1⟩ | ⟨n1, why⟩
  · -- the first number is right
    have tk2 : tk1 = (2 : Int32) := by rw [R1.2.2.2.1, hk1]; rfl
    have n3 : ¬ (3 : Int32) < to1 - fr1 := by rw [eS1]; exact nI_nlt (a := 3) hd1 (by omega)
    obtain ⟨J2, tkb, frb, tob, vab, q2, e2, k2, x2, m2, R2, le2⟩ := t_next (RM := RM) (s := RM.s) h R1 0
    have N2 := m_needs1 (RM := RM) (p := (1 : Int32)) z_01 m2
    obtain ⟨b, xn, E47⟩ := m_47e (RM := RM) (s := RM.s) (x1 := va1) h R1 R2 N2
    have EX1 : fX5_readNumber J1 RA (T.count - 1) = some (nI v1, J2) := by rw [hc, n1, z_bn x2]
    cases b with
    | false =>
      refine Or.inr ⟨J2, T.partner, T.speaks, RM.s, tkb, frb, tob, vab, ?_, ?_, R2.2.2.2.2.1.trans R2.2.2.1.symm⟩
      · unfold fX5_readPair
        rw [z_bn x1]
        refine Eq.trans (z_bn EX1) ?_
        rw [z_nm, if_neg (nm1 v1 (by omega))]
        refine Eq.trans (z_bn xn) ?_
        rw [if_pos (show bI false = 0 from rfl)]
      · have EP : fX9_pairHere RM = some (RM.s, tkb, frb, tob, vab, (1 : Int32)) := by
          rw [EM0, if_pos tk2, if_neg n3, z_bn o1, if_neg z_01, E47]
          refine Eq.trans (z_bn (m_needs0 (RM := RM) (s := RM.s) (tk := tkb) (fr := frb) (to := tob) (va := vab))) ?_
          rw [z_nm]
          exact m_pairW
        rw [z_bn EP]
        exact m_semiW h R2
    | true =>
    obtain ⟨J3, tkc, frc, toc, vac, q3, e3, k3, x3, m3, R3, le3⟩ := t_next (RM := RM) (s := RM.s) h R2 0
    have N3 := m_needs1 (RM := RM) (p := bI true) (by decide) m3
    have eS3 : toc - frc = nI (e3 - q3) := by rw [R3.2.2.2.2.1, R3.2.2.2.2.2.1]; exact z_sub R3.2.2.2.2.2.2.1
    have e3n := R3.2.2.2.2.2.2.2.1
    have EM1 : fX9_pairHere RM = (if tkc = (2 : Int32) then (if (3 : Int32) < (toc - frc) then (fX9_pairHere_b116 RM va1 vac RM.s tkc frc toc vac 0) else (ht_bn (fX9_isOne (RM.wt RM.s tkc frc toc vac 0) vac) (fun o_10 => if o_10 = 0 then (fX9_pairHere_b116 RM va1 vac RM.s tkc frc toc vac 0) else (if vac = va1 then (fX9_pairHere_b116 RM va1 vac RM.s tkc frc toc vac 0) else (fX9_pairHere_b117 RM va1 vac (1 : Int32) RM.s tkc frc toc vac 0))))) else (fX9_pairHere_b116 RM va1 vac RM.s tkc frc toc vac 0)) := by
      rw [EM0, if_pos tk2, if_neg n3, z_bn o1, if_neg z_01, E47]
      refine Eq.trans (z_bn N3) ?_
      rw [z_nm]
    have EX3 : fX5_readPair J RA T = (if J3.2.1 = (2 : Int32) then (if J3.2.2.1 = nI v1 then (some ((0 : Int32), J3.1, J3.2.1, J3.2.2.1, J3.2.2.2, T.partner, T.speaks)) else (fX5_readPair_b56 J RA T (nI v1) J3.1 J3.2.1 J3.2.2.1 J3.2.2.2 T.partner T.speaks)) else (fX5_readPair_b56 J RA T (nI v1) J3.1 J3.2.1 J3.2.2.1 J3.2.2.2 T.partner T.speaks)) := by
      unfold fX5_readPair
      rw [z_bn x1]
      refine Eq.trans (z_bn EX1) ?_
      rw [z_nm, if_neg (nm1 v1 (by omega))]
      refine Eq.trans (z_bn xn) ?_
      rw [if_neg (show ¬ bI true = 0 by decide)]
      exact z_bn x3
    have bad3 : fX9_pairHere RM = some (RM.s, tkc, frc, toc, vac, (1 : Int32)) → fX5_readPair J RA T = some ((0 : Int32), J3.place, J3.sort, J3.value, J3.start, T.partner, T.speaks) → (∃ (J' : TellV) (pe sp s' : AI) (tk fr to va : Int32) (q' e' k' : Nat) (A' : Tn), fX5_readPair J RA T = some ((1 : Int32), J'.place, J'.sort, J'.value, J'.start, pe, sp) ∧ ht_bn (fX9_pairHere RM) (fun o_13 => fX9_itemHere_b78 RM o_13.1 o_13.2.1 o_13.2.2.1 o_13.2.2.2.1 o_13.2.2.2.2.1 o_13.2.2.2.2.2) = some (s', tk, fr, to, va, (0 : Int32)) ∧ RD n J' tk fr to va q' e' k' ∧ q < q' ∧ TI A' (T.wps pe sp) s' ∧ A'.day = A.day) ∨ (∃ (J' : TellV) (pe sp s' : AI) (tk fr to va : Int32), fX5_readPair J RA T = some ((0 : Int32), J'.place, J'.sort, J'.value, J'.start, pe, sp) ∧ ht_bn (fX9_pairHere RM) (fun o_13 => fX9_itemHere_b78 RM o_13.1 o_13.2.1 o_13.2.2.1 o_13.2.2.2.1 o_13.2.2.2.2.1 o_13.2.2.2.2.2) = some (s', tk, fr, to, va, (1 : Int32)) ∧ fr = J'.start) := by
      intro EP EQ
      refine Or.inr ⟨J3, T.partner, T.speaks, RM.s, tkc, frc, toc, vac, EQ, ?_, R3.2.2.2.2.1.trans R3.2.2.1.symm⟩
      rw [z_bn EP]
      exact m_semiW h R3
    rcases t_pn (RA := RA) (RM := RM) (s := RM.s) R3 h8 hs0 0 with ⟨v2, hv2, hk3, hd3, jv3, av3, o3, n4⟩ | ⟨n4, why⟩
    · have tk3 : tkc = (2 : Int32) := by rw [R3.2.2.2.1, hk3]; rfl
      have j3 : J3.2.1 = (2 : Int32) := R3.2.1.trans (by rw [hk3]; rfl)
      have n33 : ¬ (3 : Int32) < toc - frc := by rw [eS3]; exact nI_nlt (a := 3) hd3 (by omega)
      by_cases hv : v2 = v1
      · subst hv
        refine bad3 ?_ ?_
        · rw [EM1, if_pos tk3, if_neg n33, z_bn o3, if_neg z_01, if_pos (av3.trans av1.symm)]
          unfold fX9_pairHere_b116
          exact m_1170
        · rw [EX3, if_pos j3, if_pos jv3]
      · have ne : ¬ vac = va1 := by rw [av3, av1]; exact fun x => hv ((z_eq (by omega) (by omega)).mp x)
        have nj : ¬ J3.2.2.1 = nI v1 := fun x => hv ((z_eq (by omega) (by omega)).mp (jv3.symm.trans x))
        obtain ⟨J4, tkd, frd, tod, vad, q4, e4, k4, x4, m4, R4, le4⟩ := t_next (RM := RM) (s := RM.s) h R3 0
        have N4 := m_needs1 (RM := RM) (p := (1 : Int32)) z_01 m4
        obtain ⟨sP, eP, hPM⟩ := m_pairs (RM := RM.wt RM.s tkd frd tod vad 0) hM hWR hv1 hv2
        obtain ⟨pe, sp, eJ, hJT⟩ := x_join hT hWR hv1 hv2
        have EP : fX9_pairHere RM = some (sP, tkd, frd, tod, vad, (0 : Int32)) := by
          rw [EM1, if_pos tk3, if_neg n33, z_bn o3, if_neg z_01, if_neg ne]
          unfold fX9_pairHere_b117
          refine Eq.trans (z_bn N4) ?_
          rw [if_pos rfl, av1, av3]
          exact z_bn eP
        have EX4 : fX5_readNumber J3 RA (T.count - 1) = some (nI v2, J4) := by rw [hc, n4, z_bn x4]
        have EX5 : fX5_readPair J RA T = ht_bn (fX5_readSemicolon J4 RA) (fun o_4 => if o_4.1 = 0 then (some ((0 : Int32), o_4.2.1, o_4.2.2.1, o_4.2.2.2.1, o_4.2.2.2.2, T.partner, T.speaks)) else (some ((1 : Int32), o_4.2.1, o_4.2.2.1, o_4.2.2.2.1, o_4.2.2.2.2, pe, sp))) := by
          rw [EX3, if_pos j3, if_neg nj]
          unfold fX5_readPair_b56
          refine Eq.trans (z_bn EX4) ?_
          rw [z_nm, if_neg (nm1 v2 (by omega))]
          refine congrArg (ht_bn _) (funext fun o_4 => ?_)
          by_cases z : o_4.1 = 0
          · rw [if_pos z, if_pos z]
          · rw [if_neg z, if_neg z]
            exact z_bn eJ
        have h11 := R1.2.2.2.2.2.2.1
        have h22 := R2.2.2.2.2.2.2.1
        have h33 := R3.2.2.2.2.2.2.1
        have h44 := R4.2.2.2.2.2.2.1
        rcases t_semi (RM := RM) (s := sP) h R4 with ⟨J5, tk5, fr5, to5, va5, q5, e5, k5, x5, m5, R5, le5⟩ | ⟨x5, m5⟩
        · refine Or.inl ⟨J5, pe, sp, sP, tk5, fr5, to5, va5, q5, e5, k5, joinA A v1 v2, ?_, ?_, R5, by omega, ⟨hJT, hPM, joinA_R hWR hv1 hv2, joinA_A hA _ _, joinA_P hWR hP hv1 hv2 (fun x => hv x.symm)⟩, joinA_day A v1 v2⟩
          · rw [EX5, z_bn x5, if_neg z_01]
          · rw [z_bn EP]; exact m5
        · refine Or.inr ⟨J4, T.partner, T.speaks, sP, tkd, frd, tod, vad, ?_, ?_, R4.2.2.2.2.1.trans R4.2.2.1.symm⟩
          · rw [EX5, z_bn x5, if_pos rfl]
          · rw [z_bn EP]; exact m5
    · refine bad3 ?_ ?_
      · rw [EM1]
        unfold fX9_pairHere_b116
        rw [m_1170]
        rcases why with w | ⟨w1, w2⟩ | ⟨w1, w2, w3⟩
        · rw [if_neg (by rw [R3.2.2.2.1]; exact tkI k3 w R3.2.2.2.2.2.2.2.2.1)]
        · rw [if_pos (by rw [R3.2.2.2.1, w1]; rfl), if_pos (by rw [eS3]; exact nI_lt (a := 3) w2 (by omega))]
        · rw [if_pos (by rw [R3.2.2.2.1, w1]; rfl), if_neg (by rw [eS3]; exact nI_nlt (a := 3) w2 (by omega)), z_bn w3, if_pos rfl]
      · have EX4 : fX5_readNumber J3 RA (T.count - 1) = some ((-1 : Int32), J3) := by rw [hc, n4]
        have E56 : fX5_readPair_b56 J RA T (nI v1) J3.1 J3.2.1 J3.2.2.1 J3.2.2.2 T.partner T.speaks = some ((0 : Int32), J3.place, J3.sort, J3.value, J3.start, T.partner, T.speaks) := by
          unfold fX5_readPair_b56
          refine Eq.trans (z_bn EX4) ?_
          rw [z_nm, if_pos rfl]
        rw [EX3, E56]
        by_cases z1 : J3.2.1 = (2 : Int32)
        · rw [if_pos z1]
          by_cases z2 : J3.2.2.1 = nI v1
          · rw [if_pos z2]
          · rw [if_neg z2]
        · rw [if_neg z1]
  · -- it is wrong
    have EX1 : fX5_readNumber J1 RA (T.count - 1) = some ((-1 : Int32), J1) := by rw [hc, n1]
    refine Or.inr ⟨J1, T.partner, T.speaks, RM.s, tk1, fr1, to1, va1, ?_, ?_, R1.2.2.2.2.1.trans R1.2.2.1.symm⟩
    · unfold fX5_readPair
      rw [z_bn x1]
      refine Eq.trans (z_bn EX1) ?_
      rw [z_nm, if_pos rfl]
    · have EP : fX9_pairHere RM = some (RM.s, tk1, fr1, to1, va1, (1 : Int32)) := by
        have W := m_47w (RM := RM) (s := RM.s) (x1 := va1) h R1
        rw [EM0, W]
        rcases why with w | ⟨w1, w2⟩ | ⟨w1, w2, w3⟩
        · rw [if_neg (by rw [R1.2.2.2.1]; exact tkI k1 w R1.2.2.2.2.2.2.2.2.1)]
        · rw [if_pos (by rw [R1.2.2.2.1, w1]; rfl), if_pos (by rw [eS1]; exact nI_lt (a := 3) w2 (by omega))]
        · rw [if_pos (by rw [R1.2.2.2.1, w1]; rfl), if_neg (by rw [eS1]; exact nI_nlt (a := 3) w2 (by omega)), z_bn w3, if_pos rfl]
      rw [z_bn EP]
      exact m_semiW h R1
