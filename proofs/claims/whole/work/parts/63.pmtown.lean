/-! ===== the reference's row keeps to the plain numbers ===== -/
/-- the reference with another row of the town -/
abbrev ModV.ws (RM : ModV) (s : AI) : ModV := (s, RM.held, RM.aside, RM.before, RM.isHeld, RM.tape, RM.taped, RM.token, RM.frm, RM.to, RM.value, RM.isWrong, RM.unpaired, RM.bestSound, RM.bestWay, RM.rows, RM.rowN, RM.sortOf, RM.sizeOf, RM.numbers, RM.holdsWhat, RM.holdsWhich, RM.holdsMany, RM.bodies, RM.ran, RM.actKind, RM.actN, RM.actA, RM.isParted)
theorem m_its {A : Tn} {RM : ModV} (hM : TM A RM.s) (h8 : A.n ≤ 8) {i : Nat} (hi : i < A.n) : fX9_its RM (nI i) (0 : Int32) = some (nI (A.kd i)) ∧ fX9_its RM (nI i) (1 : Int32) = some (nI (A.nd i)) ∧ fX9_its RM (nI i) (2 : Int32) = some (nI (A.sv i)) ∧ fX9_its RM (nI i) (3 : Int32) = some (nI (A.vc i)) ∧ fX9_its RM (nI i) (4 : Int32) = some (nI (A.pr i)) ∧ fX9_its RM (nI i) (5 : Int32) = some (nI (A.sp i)) := by
  obtain ⟨h0, h1, h3, h4, h2, hl, hkd, hnd, hsv, hvc, hpr, hsp⟩ := hM
  exact ⟨(z_its (w := 0) (by omega)).trans (congrArg some (hkd i hi)), (z_its (w := 1) (by omega)).trans (congrArg some (hnd i hi)), (z_its (w := 2) (by omega)).trans (congrArg some (hsv i hi)), (z_its (w := 3) (by omega)).trans (congrArg some (hvc i hi)), (z_its (w := 4) (by omega)).trans (congrArg some (hpr i hi)), (z_its (w := 5) (by omega)).trans (congrArg some (hsp i hi))⟩
theorem m_says {A : Tn} {RM : ModV} (hM : TM A RM.s) (hR : WR A) {i : Nat} (hi : i < A.n) : fX9_saysOf RM (nI i) = some (nI (aSays A i)) := by
  obtain ⟨i0, i1, i2, i3, i4, i5⟩ := m_its hM hR.1 hi
  obtain ⟨h0, h1, h3, h4, h2, hl, hkd, hnd, hsv, hvc, hpr, hsp⟩ := hM
  obtain ⟨r1, r2, r3, r4, r5, r6, r7, r8, r9⟩ := hR
  obtain ⟨q1, q2, q3, q4, q5, q6⟩ := r9 i hi
  have l0 : RM.s 5 = nI (A.law 0) := hl 0 (by omega)
  have l1 : RM.s 6 = nI (A.law 1) := hl 1 (by omega)
  have e5 : ((5 : Int32).toNatClampNeg) = 5 := rfl
  have e6 : ((6 : Int32).toNatClampNeg) = 6 := rfl
  have e1 : ((1 : Int32).toNatClampNeg) = 1 := rfl
  have g5 : ht_ix (5 : Int32) 57 = true := by decide
  have g6 : ht_ix (6 : Int32) 57 = true := by decide
  have g1 : ht_ix (1 : Int32) 57 = true := by decide
  have d2 : nI A.day - nI A.day / (2 : Int32) * (2 : Int32) = nI (A.day % 2) := z_rem (d := 2) (by omega) (by omega) (by omega)
  have d10 : nI (A.sv i) / (10 : Int32) = nI (A.sv i / 10) := z_div (d := 10) (by omega) (by omega) (by omega)
  have m0 := z_greatest0 (a := A.vc i) (b := A.law 1) (by omega) (by omega)
  unfold fX9_saysOf
  rw [z_bn i3]
  simp only [g5, g6, g1, ht_gd, e5, e6, e1, l0, l1, h1, d2]
  rw [z_bn m0, z_bn i0, z_bn i2]
  simp only [d10]
  unfold aSays
  rcases z_six q1 with h | h | h | h | h | h <;> rw [h]
  · rfl
  · exact congrArg some (z_add _ _)
  · rfl
  · exact congrArg some ((congrArg ((2 : Int32) * ·) (z_add _ _)).trans (z_mul 2 _))
  · exact congrArg some (z_add _ _)
  · show (if nI (A.day % 2) = 0 then some (nI (A.vc i)) else some (1 : Int32)) = some (nI (if A.day % 2 = 0 then A.vc i else 1))
    by_cases hd2 : A.day % 2 = 0
    · rw [if_pos hd2, hd2]; rfl
    · rw [if_neg hd2, if_neg (z_neL (b := 0) (c := 0) rfl hd2 (by omega) (by omega))]; rfl
theorem m_grows {A : Tn} {RM : ModV} (hM : TM A RM.s) (hR : WR A) {i : Nat} (hi : i < A.n) : fX9_growsOf RM (nI i) = some (nI (aUp A i) - nI (aDn A i)) := by
  obtain ⟨i0, i1, i2, i3, i4, i5⟩ := m_its hM hR.1 hi
  obtain ⟨h0, h1, h3, h4, h2, hl, hkd, hnd, hsv, hvc, hpr, hsp⟩ := hM
  obtain ⟨r1, r2, r3, r4, r5, r6, r7, r8, r9⟩ := hR
  obtain ⟨q1, q2, q3, q4, q5, q6⟩ := r9 i hi
  have l0 : RM.s 5 = nI (A.law 0) := hl 0 (by omega)
  have l2 : RM.s 7 = nI (A.law 2) := hl 2 (by omega)
  have e5 : ((5 : Int32).toNatClampNeg) = 5 := rfl
  have e7 : ((7 : Int32).toNatClampNeg) = 7 := rfl
  have g5 : ht_ix (5 : Int32) 57 = true := by decide
  have g7 : ht_ix (7 : Int32) 57 = true := by decide
  have d2 : nI (A.law 2) / (2 : Int32) = nI (A.law 2 / 2) := z_div (d := 2) (by omega) (by omega) (by omega)
  unfold fX9_growsOf
  simp only [g5, g7, ht_gd, ht_nm, e5, e7, l0, l2, d2]
  rw [z_bn i0, z_bn i3]
  unfold aUp aDn
  rcases z_six q1 with h | h | h | h | h | h <;> rw [h]
  · exact congrArg some (z_sub0 _).symm
  · exact congrArg some ((z_add (A.law 2) 1).trans (z_sub0 _).symm)
  · exact congrArg some (z_sub0 _).symm
  · exact congrArg some (((congrArg (· + nI (A.law 0)) (z_add (A.law 2) 1)).trans (z_add _ _)).trans (z_sub0 _).symm)
  · rfl
  · exact congrArg some ((z_add (A.law 2) (A.vc i)).trans (z_sub0 _).symm)
theorem m_saves {A : Tn} {RM : ModV} (hM : TM A RM.s) (hR : WR A) {i : Nat} (hi : i < A.n) : fX9_savesOf RM (nI i) = some (nI (aSvs A i)) := by
  obtain ⟨i0, i1, i2, i3, i4, i5⟩ := m_its hM hR.1 hi
  obtain ⟨h0, h1, h3, h4, h2, hl, hkd, hnd, hsv, hvc, hpr, hsp⟩ := hM
  obtain ⟨r1, r2, r3, r4, r5, r6, r7, r8, r9⟩ := hR
  obtain ⟨q1, q2, q3, q4, q5, q6⟩ := r9 i hi
  have l1 : RM.s 6 = nI (A.law 1) := hl 1 (by omega)
  have e6 : ((6 : Int32).toNatClampNeg) = 6 := rfl
  have e1 : ((1 : Int32).toNatClampNeg) = 1 := rfl
  have g6 : ht_ix (6 : Int32) 57 = true := by decide
  have g1 : ht_ix (1 : Int32) 57 = true := by decide
  have d7 : nI A.day - nI A.day / (7 : Int32) * (7 : Int32) = nI (A.day % 7) := z_rem (d := 7) (by omega) (by omega) (by omega)
  unfold fX9_savesOf
  rw [z_bn i0]
  simp only [g6, g1, ht_gd, e6, e1, l1, h1, d7]
  unfold aSvs
  rcases z_six q1 with h | h | h | h | h | h <;> rw [h]
  · rfl
  · rfl
  · exact congrArg some (z_add 1 (A.law 1))
  · rfl
  · exact congrArg some ((congrArg ((3 : Int32) * ·) (z_add 1 (A.law 1))).trans (z_mul 3 _))
  · show (if nI (A.day % 7) = 0 then some (1 : Int32) else some (0 : Int32)) = some (nI (if A.day % 7 = 0 then 1 else 0))
    by_cases hd2 : A.day % 7 = 0
    · rw [if_pos hd2, hd2]; rfl
    · rw [if_neg hd2, if_neg (z_neL (b := 0) (c := 0) rfl hd2 (by omega) (by omega))]; rfl
theorem m_grow1 {A : Tn} {RM : ModV} (hM : TM A RM.s) (hR : WR A) {k : Nat} (hk : k < A.n) : ∃ s', fX9_growsNow RM (nI k) = some s' ∧ TM (grow1 A k) s' := by
  have hg := m_grows hM hR hk
  have h8 := hR.1
  have q := hR.2.2.2.2.2.2.2.2 k hk
  have u1 := aUp_le hR hk
  have u2 := aDn_le A k
  have r8 := hR.2.2.2.2.2.2.2.1
  have ex : ((9 : Int32) + ((6 : Int32) * nI k)) + (1 : Int32) = nI (9 + 6 * k + 1) := z_at k 1
  have ec : (nI (9 + 6 * k + 1)).toNatClampNeg = 9 + 6 * k + 1 := z_cl (by omega)
  have gx : ht_ix (nI (9 + 6 * k + 1)) 57 = true := z_ix (by omega) (by omega)
  have e4 : ((4 : Int32).toNatClampNeg) = 4 := rfl
  have g4 : ht_ix (4 : Int32) 57 = true := by decide
  have hnd : RM.s (9 + 6 * k + 1) = nI (A.nd k) := hM.2.2.2.2.2.2.2.1 k hk
  have hgs : RM.s 4 = nI A.gs := hM.2.2.2.1
  have hgN : gN A k ≤ 118 := by unfold gN; omega
  have m1 : fX9_greatest (0 : Int32) (RM.s (9 + 6 * k + 1) + (nI (aUp A k) - nI (aDn A k))) = some (nI (gN A k)) := by rw [hnd]; exact z_greatestG (by omega) (by omega) (by omega)
  have m2 : fX9_least (99 : Int32) (nI (gN A k)) = some (nI (min 99 (gN A k))) := z_least (a := 99) (by omega) (by omega)
  have m3 : upd RM.s (9 + 6 * k + 1) (nI (min 99 (gN A k))) 4 = nI A.gs := (pk_un (by omega)).trans hgs
  have m4 : upd RM.s (9 + 6 * k + 1) (nI (min 99 (gN A k))) (9 + 6 * k + 1) = nI (min 99 (gN A k)) := pk_us
  have m5 : (nI A.gs + nI (gN A k)) - nI (min 99 (gN A k)) = nI (A.gs + (gN A k - 99)) := by rw [z_add, z_sub (by omega)]; congr 1; omega
  have m6 : fX9_least (99999 : Int32) (nI (A.gs + (gN A k - 99))) = some (nI (min 99999 (A.gs + (gN A k - 99)))) := z_least (a := 99999) (by omega) (by omega)
  refine ⟨upd (upd RM.s (9 + 6 * k + 1) (nI (min 99 (gN A k)))) 4 (nI (min 99999 (A.gs + (gN A k - 99)))), ?_, ?_⟩
  · unfold fX9_growsNow
    simp only [ht_nm, ex, gx, ht_gd, ec]
    rw [z_bn hg, z_bn m1, z_bn m2]
    simp only [g4, e4, m3, m4, m5]
    rw [z_bn m6]
  · exact TM.gs (TM.nd hM hk)
theorem m_say38 {A : Tn} {RM : ModV} {s : AI} {k may : Nat} (hM : TM A s) (hR : WR A) (hk : k < A.n) (hm : may ≤ 72) (hp0 : A.pr k = 0) : fX9_saysNow_b38 RM (nI (9 + 6 * k + 1)) (nI (A.pr k) - 1) (nI may) s = some (nI (min may (A.nd k)), upd s (9 + 6 * k + 1) (nI (A.nd k - min may (A.nd k)))) := by
  have h8 := hR.1
  have q := hR.2.2.2.2.2.2.2.2 k hk
  have ec : (nI (9 + 6 * k + 1)).toNatClampNeg = 9 + 6 * k + 1 := z_cl (by omega)
  have gx : ht_ix (nI (9 + 6 * k + 1)) 57 = true := z_ix (by omega) (by omega)
  have hnd : s (9 + 6 * k + 1) = nI (A.nd k) := hM.2.2.2.2.2.2.2.1 k hk
  have m1 : fX9_least (nI may) (nI (A.nd k)) = some (nI (min may (A.nd k))) := z_least (by omega) (by omega)
  have m2 : nI (A.nd k) - nI (min may (A.nd k)) = nI (A.nd k - min may (A.nd k)) := z_sub (Nat.min_le_right _ _)
  have n1 : ¬ (0 : Int32) ≤ nI 0 - 1 := by decide
  have n2 : nI 0 - 1 < (0 : Int32) := by decide
  unfold fX9_saysNow_b38
  simp only [gx, ht_gd, ec, hnd]
  rw [z_bn m1]
  simp only [ht_nm, m2, hp0]
  rw [if_neg n1]
  unfold fX9_saysNow_b86 fX9_saysNow_b111
  rw [if_pos n2]
  exact congrArg some (Prod.ext (z_add _ 0) rfl)
theorem m_say38p {A : Tn} {RM : ModV} {s : AI} {k may : Nat} (hM : TM A s) (hR : WR A) (hk : k < A.n) (hm : may ≤ 72) (hp0 : ¬ A.pr k = 0) : fX9_saysNow_b38 RM (nI (9 + 6 * k + 1)) (nI (A.pr k) - 1) (nI may) s = some (nI (min may (A.nd k) + min (may - min may (A.nd k)) (va_up A.nd k (A.nd k - min may (A.nd k)) (A.pr k - 1))), upd (upd s (9 + 6 * k + 1) (nI (A.nd k - min may (A.nd k)))) (9 + 6 * (A.pr k - 1) + 1) (nI (va_up A.nd k (A.nd k - min may (A.nd k)) (A.pr k - 1) - min (may - min may (A.nd k)) (va_up A.nd k (A.nd k - min may (A.nd k)) (A.pr k - 1))))) := by
  have h8 := hR.1
  have q := hR.2.2.2.2.2.2.2.2 k hk
  have ec : (nI (9 + 6 * k + 1)).toNatClampNeg = 9 + 6 * k + 1 := z_cl (by omega)
  have gx : ht_ix (nI (9 + 6 * k + 1)) 57 = true := z_ix (by omega) (by omega)
  have hnd : s (9 + 6 * k + 1) = nI (A.nd k) := hM.2.2.2.2.2.2.2.1 k hk
  have ho : A.pr k - 1 < A.n := by omega
  have qo := hR.2.2.2.2.2.2.2.2 _ ho
  have ep : nI (A.pr k) - 1 = nI (A.pr k - 1) := z_sub (b := 1) (by omega)
  have m1 : fX9_least (nI may) (nI (A.nd k)) = some (nI (min may (A.nd k))) := z_least (by omega) (by omega)
  have m2 : nI (A.nd k) - nI (min may (A.nd k)) = nI (A.nd k - min may (A.nd k)) := z_sub (Nat.min_le_right _ _)
  have m3 : nI may - nI (min may (A.nd k)) = nI (may - min may (A.nd k)) := z_sub (Nat.min_le_left _ _)
  have hM2 : TM _ (upd s (9 + 6 * k + 1) (nI (A.nd k - min may (A.nd k)))) := TM.nd hM hk
  have hno : upd s (9 + 6 * k + 1) (nI (A.nd k - min may (A.nd k))) (9 + 6 * (A.pr k - 1) + 1) = nI (va_up A.nd k (A.nd k - min may (A.nd k)) (A.pr k - 1)) := hM2.2.2.2.2.2.2.2.1 _ ho
  have ho1 : fX9_its (RM.ws (upd s (9 + 6 * k + 1) (nI (A.nd k - min may (A.nd k))))) (nI (A.pr k - 1)) (1 : Int32) = some (nI (va_up A.nd k (A.nd k - min may (A.nd k)) (A.pr k - 1))) := (m_its (RM := RM.ws (upd s (9 + 6 * k + 1) (nI (A.nd k - min may (A.nd k))))) hM2 h8 ho).2.1
  have ex : ((9 : Int32) + ((6 : Int32) * nI (A.pr k - 1))) + (1 : Int32) = nI (9 + 6 * (A.pr k - 1) + 1) := z_at (A.pr k - 1) 1
  have eo : (nI (9 + 6 * (A.pr k - 1) + 1)).toNatClampNeg = 9 + 6 * (A.pr k - 1) + 1 := z_cl (by omega)
  have go : ht_ix (nI (9 + 6 * (A.pr k - 1) + 1)) 57 = true := z_ix (by omega) (by omega)
  generalize hW : va_up A.nd k (A.nd k - min may (A.nd k)) (A.pr k - 1) = w at hno ho1 ⊢
  have hw : w ≤ 99 := by
    rw [← hW]
    by_cases e : A.pr k - 1 = k
    · rw [e, up_s]; omega
    · rw [up_n _ _ e]; exact qo.2.1
  have m4 : fX9_least (nI (may - min may (A.nd k))) (nI w) = some (nI (min (may - min may (A.nd k)) w)) := z_least (by omega) (by omega)
  have m5 : nI w - nI (min (may - min may (A.nd k)) w) = nI (w - min (may - min may (A.nd k)) w) := z_sub (Nat.min_le_right _ _)
  unfold fX9_saysNow_b38
  simp only [gx, ht_gd, ec, hnd]
  rw [z_bn m1]
  simp only [ht_nm, m2, ep]
  rw [if_pos (nI_pos' (by omega)), z_bn ho1]
  simp only [m3]
  rw [z_bn m4]
  unfold fX9_saysNow_b86 fX9_saysNow_b111
  rw [if_neg (nI_pos (by omega))]
  simp only [ex, go, ht_gd, eo, ht_nm, hno, m5, z_add]
theorem m_saysNow {A : Tn} {RM : ModV} (hM : TM A RM.s) (hR : WR A) {k : Nat} (hk : k < A.n) (h0 : ¬ A.sp k = 0) : ∃ s', fX9_saysNow RM (nI k) = some (nI (say1 A k).2, s') ∧ TM (say1 A k).1 s' := by
  have hg := m_says hM hR hk
  have hsl := aSays_le hR hk
  have h8 := hR.1
  have q := hR.2.2.2.2.2.2.2.2 k hk
  obtain ⟨i0, i1, i2, i3, i4, i5⟩ := m_its hM h8 hk
  have ex : ((9 : Int32) + ((6 : Int32) * nI k)) + (1 : Int32) = nI (9 + 6 * k + 1) := z_at k 1
  unfold fX9_saysNow
  simp only [ht_nm, ex]
  rw [z_bn i4]
  by_cases hp0 : A.pr k = 0
  · rw [if_neg (by rw [hp0]; decide), z_bn hg]
    refine ⟨upd RM.s (9 + 6 * k + 1) (nI (A.nd k - sOwn A k)), (m_say38 hM hR hk (by omega) hp0).trans ?_, ?_⟩
    · rw [say1, if_neg h0, if_pos hp0]; unfold sOwn sMay; rw [if_pos hp0]
    · rw [say1, if_neg h0, if_pos hp0]; exact TM.nd hM hk
  · have e2 : (2 : Int32) * nI (aSays A k) = nI (2 * aSays A k) := z_mul 2 _
    rw [if_pos (by rw [show nI (A.pr k) - 1 = nI (A.pr k - 1) from z_sub (b := 1) (by omega)]; exact nI_pos' (by omega)), z_bn hg, e2]
    refine ⟨upd (upd RM.s (9 + 6 * k + 1) (nI (A.nd k - sOwn A k))) (9 + 6 * (A.pr k - 1) + 1) (nI (sNd A k (A.pr k - 1) - sRest A k)), (m_say38p hM hR hk (by omega) hp0).trans ?_, ?_⟩
    · rw [say1, if_neg h0, if_neg hp0]; unfold sRest sNd sOwn sMay; rw [if_neg hp0]
    · rw [say1, if_neg h0, if_neg hp0]
      exact TM.nd (TM.nd hM hk) (k := A.pr k - 1) (by show A.pr k - 1 < A.n; omega)
theorem m_savesNow {A : Tn} {RM : ModV} (hM : TM A RM.s) (hR : WR A) {k : Nat} (hk : k < A.n) (h0 : A.sp k = 0) : ∃ s', fX9_savesNow RM (nI k) = some s' ∧ TM (save1 A k) s' := by
  have hg := m_saves hM hR hk
  have hsl := aSvs_le hR k
  have h8 := hR.1
  have q := hR.2.2.2.2.2.2.2.2 k hk
  have ex0 : (9 : Int32) + ((6 : Int32) * nI k) = nI (9 + 6 * k) := z_at0 k
  have ex1 : nI (9 + 6 * k) + (1 : Int32) = nI (9 + 6 * k + 1) := z_add _ 1
  have ex2 : nI (9 + 6 * k) + (2 : Int32) = nI (9 + 6 * k + 2) := z_add _ 2
  have ec1 : (nI (9 + 6 * k + 1)).toNatClampNeg = 9 + 6 * k + 1 := z_cl (by omega)
  have ec2 : (nI (9 + 6 * k + 2)).toNatClampNeg = 9 + 6 * k + 2 := z_cl (by omega)
  have g1 : ht_ix (nI (9 + 6 * k + 1)) 57 = true := z_ix (by omega) (by omega)
  have g2 : ht_ix (nI (9 + 6 * k + 2)) 57 = true := z_ix (by omega) (by omega)
  have hnd : RM.s (9 + 6 * k + 1) = nI (A.nd k) := hM.2.2.2.2.2.2.2.1 k hk
  have hsv : RM.s (9 + 6 * k + 2) = nI (A.sv k) := hM.2.2.2.2.2.2.2.2.1 k hk
  have m0 : (99 : Int32) - nI (A.sv k) = nI (99 - A.sv k) := z_sub (a := 99) (by omega)
  have m1 : fX9_least (nI (A.nd k)) (nI (99 - A.sv k)) = some (nI (min (A.nd k) (99 - A.sv k))) := z_least (by omega) (by omega)
  have m2 : fX9_least (nI (aSvs A k)) (nI (min (A.nd k) (99 - A.sv k))) = some (nI (vP A k)) := z_least (by omega) (by omega)
  have hv1 : vP A k ≤ A.nd k := Nat.le_trans (Nat.min_le_right _ _) (Nat.min_le_left _ _)
  have m3 : nI (A.nd k) - nI (vP A k) = nI (A.nd k - vP A k) := z_sub hv1
  have m4 : upd RM.s (9 + 6 * k + 1) (nI (A.nd k - vP A k)) (9 + 6 * k + 2) = nI (A.sv k) := (pk_un (by omega)).trans hsv
  refine ⟨upd (upd RM.s (9 + 6 * k + 1) (nI (A.nd k - vP A k))) (9 + 6 * k + 2) (nI (A.sv k + vP A k)), ?_, ?_⟩
  · unfold fX9_savesNow
    simp only [ht_nm, ex0]
    rw [z_bn hg]
    simp only [ex1, ex2, g1, g2, ht_gd, ec1, ec2, hnd, hsv, m0]
    rw [z_bn m1, z_bn m2]
    simp only [m3, m4, z_add]
  · rw [save1, if_pos h0]
    exact TM.sv (TM.nd hM hk) (k := k) hk
/-! the reference's day: four rounds over the people -/
theorem m_growN {A : Tn} {RM : ModV} (hR : WR A) : ∀ (d k fuel : Nat) (s : AI), k + d = A.n → d < fuel → TM (growN A k) s → ∃ s', ht_lp2 (fX9_goesOn_b2 RM) fuel (nI k) s = fX9_goesOn_b23 RM s' ∧ TM (growN A A.n) s' := by
  have h8 := hR.1
  have g0 : ht_ix (0 : Int32) 57 = true := by decide
  have e0 : ((0 : Int32).toNatClampNeg) = 0 := rfl
  intro d
  induction d with
  | zero =>
    intro k fuel s hk hf hM
    obtain ⟨f, rfl⟩ : ∃ f, fuel = f + 1 := ⟨fuel - 1, by omega⟩
    have e : A.n = k := by omega
    refine ⟨s, ?_, by rw [e]; exact hM⟩
    show fX9_goesOn_b2 RM (ht_lp2 (fX9_goesOn_b2 RM) f) (nI k) s = fX9_goesOn_b23 RM s
    unfold fX9_goesOn_b2
    rw [z_gd g0, e0, if_pos (by rw [hM.1, (growN_F A k).1, z_le (by omega) (by omega)]; omega)]
  | succ d ih =>
    intro k fuel s hk hf hM
    obtain ⟨f, rfl⟩ : ∃ f, fuel = f + 1 := ⟨fuel - 1, by omega⟩
    have hkn : k < (growN A k).n := by rw [(growN_F A k).1]; omega
    obtain ⟨s1, e1, h1⟩ := m_grow1 (RM := RM.ws s) hM (growN_R hR k (by omega)) hkn
    obtain ⟨s2, e2, h2⟩ := ih (k + 1) f s1 (by omega) (by omega) h1
    refine ⟨s2, Eq.trans ?_ e2, h2⟩
    show fX9_goesOn_b2 RM (ht_lp2 (fX9_goesOn_b2 RM) f) (nI k) s = _
    unfold fX9_goesOn_b2
    rw [z_gd g0, e0, if_neg (by rw [hM.1, z_le (by rw [(growN_F A k).1]; omega) (by omega)]; omega), z_bn e1, z_nm, nI_1]
theorem m_sayN {A : Tn} {RM : ModV} (hR : WR A) : ∀ (d k fuel : Nat) (s : AI), k + d = A.n → d < fuel → TM (sayN A k).1 s → ∃ s', ht_lp3 (fX9_goesOn_b27 RM) fuel (nI (sayN A k).2) (nI k) s = fX9_goesOn_b65 RM (nI (sayN A A.n).2) s' ∧ TM (sayN A A.n).1 s' := by
  have h8 := hR.1
  have g0 : ht_ix (0 : Int32) 57 = true := by decide
  have e0 : ((0 : Int32).toNatClampNeg) = 0 := rfl
  intro d
  induction d with
  | zero =>
    intro k fuel s hk hf hM
    obtain ⟨f, rfl⟩ : ∃ f, fuel = f + 1 := ⟨fuel - 1, by omega⟩
    have e : A.n = k := by omega
    refine ⟨s, ?_, by rw [e]; exact hM⟩
    show fX9_goesOn_b27 RM (ht_lp3 (fX9_goesOn_b27 RM) f) (nI (sayN A k).2) (nI k) s = _
    unfold fX9_goesOn_b27
    rw [z_gd g0, e0, if_pos (by rw [hM.1, (sayN_F A k).1, z_le (by omega) (by omega)]; omega), e]
  | succ d ih =>
    intro k fuel s hk hf hM
    obtain ⟨f, rfl⟩ : ∃ f, fuel = f + 1 := ⟨fuel - 1, by omega⟩
    obtain ⟨r1, r2⟩ := sayN_R hR k (by omega)
    have hkn : k < (sayN A k).1.n := by rw [(sayN_F A k).1]; omega
    have q := r1.2.2.2.2.2.2.2.2 k hkn
    have i5 : fX9_its (RM.ws s) (nI k) (5 : Int32) = some (nI ((sayN A k).1.sp k)) := (m_its (RM := RM.ws s) hM r1.1 hkn).2.2.2.2.2
    by_cases h0 : (sayN A k).1.sp k = 0
    · have e1 : say1 (sayN A k).1 k = ((sayN A k).1, 0) := by rw [say1, if_pos h0]
      obtain ⟨s2, e2, h2⟩ := ih (k + 1) f s (by omega) (by omega) (by show TM (say1 (sayN A k).1 k).1 s; rw [e1]; exact hM)
      refine ⟨s2, Eq.trans ?_ e2, h2⟩
      show fX9_goesOn_b27 RM (ht_lp3 (fX9_goesOn_b27 RM) f) (nI (sayN A k).2) (nI k) s = _
      unfold fX9_goesOn_b27 fX9_goesOn_b57
      rw [z_gd g0, e0, if_neg (by rw [hM.1, z_le (by rw [(sayN_F A k).1]; omega) (by omega)]; omega), z_bn i5, h0, if_neg (by decide), z_nm, z_nm, nI_1]
      show ht_lp3 _ f (nI (sayN A k).2 + nI 0) _ _ = ht_lp3 _ f (nI ((sayN A k).2 + (say1 (sayN A k).1 k).2)) _ _
      rw [e1, z_add]
    · have h1 : (sayN A k).1.sp k = 1 := by omega
      obtain ⟨s1, e1, hs1⟩ := m_saysNow (RM := RM.ws s) hM r1 hkn h0
      obtain ⟨s2, e2, h2⟩ := ih (k + 1) f s1 (by omega) (by omega) hs1
      refine ⟨s2, Eq.trans ?_ e2, h2⟩
      show fX9_goesOn_b27 RM (ht_lp3 (fX9_goesOn_b27 RM) f) (nI (sayN A k).2) (nI k) s = _
      unfold fX9_goesOn_b27 fX9_goesOn_b57
      rw [z_gd g0, e0, if_neg (by rw [hM.1, z_le (by rw [(sayN_F A k).1]; omega) (by omega)]; omega), z_bn i5, h1, if_pos (by decide), z_bn e1, z_nm, z_nm, nI_1, z_add]
      rfl
theorem m_saveN {A : Tn} {RM : ModV} (hR : WR A) (x : Int32) : ∀ (d k fuel : Nat) (s : AI), k + d = A.n → d < fuel → TM (saveN A k) s → ∃ s', ht_lp3 (fX9_goesOn_b86 RM) fuel x (nI k) s = fX9_goesOn_b116 RM x s' ∧ TM (saveN A A.n) s' := by
  have h8 := hR.1
  have g0 : ht_ix (0 : Int32) 57 = true := by decide
  have e0 : ((0 : Int32).toNatClampNeg) = 0 := rfl
  intro d
  induction d with
  | zero =>
    intro k fuel s hk hf hM
    obtain ⟨f, rfl⟩ : ∃ f, fuel = f + 1 := ⟨fuel - 1, by omega⟩
    have e : A.n = k := by omega
    refine ⟨s, ?_, by rw [e]; exact hM⟩
    show fX9_goesOn_b86 RM (ht_lp3 (fX9_goesOn_b86 RM) f) x (nI k) s = _
    unfold fX9_goesOn_b86
    rw [z_gd g0, e0, if_pos (by rw [hM.1, (saveN_F A k).1, z_le (by omega) (by omega)]; omega)]
  | succ d ih =>
    intro k fuel s hk hf hM
    obtain ⟨f, rfl⟩ : ∃ f, fuel = f + 1 := ⟨fuel - 1, by omega⟩
    have r1 := saveN_R hR k (by omega)
    have hkn : k < (saveN A k).n := by rw [(saveN_F A k).1]; omega
    have q := r1.2.2.2.2.2.2.2.2 k hkn
    have i5 : fX9_its (RM.ws s) (nI k) (5 : Int32) = some (nI ((saveN A k).sp k)) := (m_its (RM := RM.ws s) hM r1.1 hkn).2.2.2.2.2
    by_cases h0 : (saveN A k).sp k = 0
    · obtain ⟨s1, e1, hs1⟩ := m_savesNow (RM := RM.ws s) hM r1 hkn h0
      obtain ⟨s2, e2, h2⟩ := ih (k + 1) f s1 (by omega) (by omega) hs1
      refine ⟨s2, Eq.trans ?_ e2, h2⟩
      show fX9_goesOn_b86 RM (ht_lp3 (fX9_goesOn_b86 RM) f) x (nI k) s = _
      unfold fX9_goesOn_b86 fX9_goesOn_b110
      rw [z_gd g0, e0, if_neg (by rw [hM.1, z_le (by rw [(saveN_F A k).1]; omega) (by omega)]; omega), z_bn i5, h0, if_pos (by decide), z_bn e1, z_nm, nI_1]
    · have e1 : save1 (saveN A k) k = saveN A k := by rw [save1, if_neg h0]
      obtain ⟨s2, e2, h2⟩ := ih (k + 1) f s (by omega) (by omega) (by show TM (save1 (saveN A k) k) s; rw [e1]; exact hM)
      refine ⟨s2, Eq.trans ?_ e2, h2⟩
      show fX9_goesOn_b86 RM (ht_lp3 (fX9_goesOn_b86 RM) f) x (nI k) s = _
      unfold fX9_goesOn_b86 fX9_goesOn_b110
      rw [z_gd g0, e0, if_neg (by rw [hM.1, z_le (by rw [(saveN_F A k).1]; omega) (by omega)]; omega), z_bn i5, if_neg (z_neL (b := 0) (c := 0) rfl h0 (by omega) (by omega)), z_nm, nI_1]
/-- who is alone speaks -/
def WA (A : Tn) : Prop := ∀ i, i < A.n → A.pr i = 0 → A.sp i = 1
theorem chg1_A {A : Tn} (h : WA A) (k : Nat) : WA (chg1 A k) := by
  by_cases e : A.pr k = 0
  · have e1 : chg1 A k = A := by rw [chg1, if_pos e]
    rw [e1]; exact h
  · have e1 : chg1 A k = A.wsp (va_up A.sp k (1 - A.sp k)) := by rw [chg1, if_neg e]
    rw [e1]
    intro i hi hp
    have hp' : A.pr i = 0 := hp
    show va_up A.sp k (1 - A.sp k) i = 1
    have hik : i ≠ k := fun e2 => e (e2 ▸ hp')
    rw [up_n _ _ hik]
    exact h i hi hp'
theorem chgN_A {A : Tn} (h : WA A) : ∀ k, WA (chgN A k)
  | 0 => h
  | k + 1 => chg1_A (chgN_A h k) k
theorem m_chgN {A : Tn} {RM : ModV} (hR : WR A) (hA : WA A) (x : Int32) : ∀ (d k fuel : Nat) (s : AI), k + d = A.n → d < fuel → TM (chgN A k) s → ∃ s', ht_lp3 (fX9_goesOn_b118 RM) fuel x (nI k) s = fX9_goesOn_b169 RM x s' ∧ TM (chgN A A.n) s' := by
  have h8 := hR.1
  have g0 : ht_ix (0 : Int32) 57 = true := by decide
  have e0 : ((0 : Int32).toNatClampNeg) = 0 := rfl
  intro d
  induction d with
  | zero =>
    intro k fuel s hk hf hM
    obtain ⟨f, rfl⟩ : ∃ f, fuel = f + 1 := ⟨fuel - 1, by omega⟩
    have e : A.n = k := by omega
    refine ⟨s, ?_, by rw [e]; exact hM⟩
    show fX9_goesOn_b118 RM (ht_lp3 (fX9_goesOn_b118 RM) f) x (nI k) s = _
    unfold fX9_goesOn_b118
    rw [z_gd g0, e0, if_pos (by rw [hM.1, (chgN_F A k).1, z_le (by omega) (by omega)]; omega)]
  | succ d ih =>
    intro k fuel s hk hf hM
    obtain ⟨f, rfl⟩ : ∃ f, fuel = f + 1 := ⟨fuel - 1, by omega⟩
    have r1 := chgN_R hR k
    have hkn : k < (chgN A k).n := by rw [(chgN_F A k).1]; omega
    have q := r1.2.2.2.2.2.2.2.2 k hkn
    obtain ⟨-, -, -, -, i4, i5⟩ := m_its (RM := RM.ws s) hM r1.1 hkn
    have ex : ((9 : Int32) + ((6 : Int32) * nI k)) + (5 : Int32) = nI (9 + 6 * k + 5) := z_at k 5
    have ec : (nI (9 + 6 * k + 5)).toNatClampNeg = 9 + 6 * k + 5 := z_cl (by omega)
    have gx : ht_ix (nI (9 + 6 * k + 5)) 57 = true := z_ix (by omega) (by omega)
    by_cases hp0 : (chgN A k).pr k = 0
    · have e1 : chg1 (chgN A k) k = chgN A k := by rw [chg1, if_pos hp0]
      have hs1 : TM ((chgN A k).wsp (va_up (chgN A k).sp k 1)) (upd s (9 + 6 * k + 5) (nI 1)) := TM.sp hM hkn
      have hs2 : TM (chgN A k) (upd s (9 + 6 * k + 5) (nI 1)) := by
        obtain ⟨h0, h1, h3, h4, h2, hl, hkd, hnd, hsv, hvc, hpr, hsp⟩ := hs1
        refine ⟨h0, h1, h3, h4, h2, hl, hkd, hnd, hsv, hvc, hpr, fun i hi => (hsp i hi).trans ?_⟩
        show nI (va_up (chgN A k).sp k 1 i) = nI ((chgN A k).sp i)
        by_cases e : i = k
        · subst e; rw [up_s, chgN_A hA _ _ hkn hp0]
        · rw [up_n _ _ e]
      obtain ⟨s2, e2, h2⟩ := ih (k + 1) f _ (by omega) (by omega) (by show TM (chg1 (chgN A k) k) _; rw [e1]; exact hs2)
      refine ⟨s2, Eq.trans ?_ e2, h2⟩
      show fX9_goesOn_b118 RM (ht_lp3 (fX9_goesOn_b118 RM) f) x (nI k) s = _
      unfold fX9_goesOn_b118 fX9_goesOn_b162
      rw [z_gd g0, e0, if_neg (by rw [hM.1, z_le (by rw [(chgN_F A k).1]; omega) (by omega)]; omega), z_bn i4, hp0, if_pos (by decide), ex, z_gd gx, z_nm, z_nm, nI_1, ec]
      rfl
    · have e1 : chg1 (chgN A k) k = (chgN A k).wsp (va_up (chgN A k).sp k (1 - (chgN A k).sp k)) := by rw [chg1, if_neg hp0]
      have hs1 : TM (chg1 (chgN A k) k) (upd s (9 + 6 * k + 5) (nI (1 - (chgN A k).sp k))) := by rw [e1]; exact TM.sp hM hkn
      obtain ⟨s2, e2, h2⟩ := ih (k + 1) f _ (by omega) (by omega) hs1
      refine ⟨s2, Eq.trans ?_ e2, h2⟩
      show fX9_goesOn_b118 RM (ht_lp3 (fX9_goesOn_b118 RM) f) x (nI k) s = _
      have m1 : (1 : Int32) - nI ((chgN A k).sp k) = nI (1 - (chgN A k).sp k) := z_sub (a := 1) (by omega)
      unfold fX9_goesOn_b118 fX9_goesOn_b162
      rw [z_gd g0, e0, if_neg (by rw [hM.1, z_le (by rw [(chgN_F A k).1]; omega) (by omega)]; omega), z_bn i4, if_neg (nI_nle (by omega) (by have := (chgN_F A k).1; omega)), z_bn i5, ex, z_gd gx, z_nm, z_nm, nI_1, ec, m1]
theorem save1_h (A : Tn) (h k : Nat) : save1 (A.whrd h) k = (save1 A k).whrd h := by
  unfold save1
  split <;> rfl
theorem saveN_h (A : Tn) (h : Nat) : ∀ k, saveN (A.whrd h) k = (saveN A k).whrd h
  | 0 => rfl
  | k + 1 => by show save1 (saveN (A.whrd h) k) k = (save1 (saveN A k) k).whrd h; rw [saveN_h A h k, save1_h]
theorem chg1_h (A : Tn) (h k : Nat) : chg1 (A.whrd h) k = (chg1 A k).whrd h := by
  unfold chg1
  split <;> rfl
theorem chgN_h (A : Tn) (h : Nat) : ∀ k, chgN (A.whrd h) k = (chgN A k).whrd h
  | 0 => rfl
  | k + 1 => by show chg1 (chgN (A.whrd h) k) k = (chg1 (chgN A k) k).whrd h; rw [chgN_h A h k, chg1_h]
/-- only who speaks, of the parts that WA looks at, may change: it doesn't before the change-over -/
theorem WA.of {A B : Tn} (h : WA A) (hn : B.n = A.n) (hp : B.pr = A.pr) (hs : B.sp = A.sp) : WA B := fun i hi e => by
  rw [hs]; rw [hp] at e; exact h i (hn ▸ hi) e
theorem growN_sp (A : Tn) : ∀ k, (growN A k).sp = A.sp
  | 0 => rfl
  | k + 1 => growN_sp A k
theorem say1_sp (A : Tn) (k : Nat) : (say1 A k).1.sp = A.sp := by
  unfold say1
  split
  · rfl
  · split <;> rfl
theorem sayN_sp (A : Tn) : ∀ k, (sayN A k).1.sp = A.sp
  | 0 => rfl
  | k + 1 => (say1_sp _ k).trans (sayN_sp A k)
theorem save1_sp (A : Tn) (k : Nat) : (save1 A k).sp = A.sp := by
  unfold save1
  split <;> rfl
theorem saveN_sp (A : Tn) : ∀ k, (saveN A k).sp = A.sp
  | 0 => rfl
  | k + 1 => (save1_sp _ k).trans (saveN_sp A k)
theorem dSv_sp (A : Tn) : (dSv A).sp = A.sp := (saveN_sp _ _).trans ((sayN_sp _ _).trans (growN_sp _ _))
theorem dSv_pr (A : Tn) : (dSv A).pr = A.pr := (saveN_F _ _).2.2.2.2.1.trans ((sayN_F _ _).2.2.2.2.1.trans (growN_F _ _).2.2.2.2.1)
theorem dCh_pr (A : Tn) : (dCh A).pr = A.pr := (chgN_F _ _).2.2.2.2.1.trans (dSv_pr A)
theorem dCh_hrd (A : Tn) : (dCh A).hrd = (dSy A).1.hrd := (chgN_F _ _).2.2.2.2.2.2.1.trans (saveN_F _ _).2.2.2.2.2.2.1
/-- a day of the reference's row -/
theorem m_goesOn {A : Tn} {RM : ModV} (hM : TM A RM.s) (hR : WR A) (hA : WA A) : ∃ s', fX9_goesOn RM = some (nI (dSaid A), s') ∧ TM (dayA A) s' := by
  have h8 := hR.1
  obtain ⟨s1, e1, h1⟩ := m_growN (RM := RM) hR A.n 0 FU RM.s (by omega) (by show A.n < 300; omega) hM
  have R1 := dGr_R hR
  obtain ⟨s2, e2, h2⟩ := m_sayN (RM := RM) R1 A.n 0 FU s1 (by rw [dGr_n]; omega) (by show A.n < 300; omega) h1
  rw [dGr_n] at e2 h2
  obtain ⟨R2, b2⟩ := dSy_R hR
  have r7 := R2.2.2.2.2.2.2.1
  have hh : s2 3 = nI (dSy A).1.hrd := h2.2.2.1
  have hmin : min 99999 ((dSy A).1.hrd + (dSy A).2) ≤ 99999 := Nat.min_le_left _ _
  have h3 : TM ((dSy A).1.whrd (min 99999 ((dSy A).1.hrd + (dSy A).2))) (upd s2 3 (nI (min 99999 ((dSy A).1.hrd + (dSy A).2)))) := TM.hrd h2
  have R3 : WR ((dSy A).1.whrd (min 99999 ((dSy A).1.hrd + (dSy A).2))) := WR.hrd R2 hmin
  obtain ⟨s4, e4, h4⟩ := m_saveN (RM := RM) R3 (nI (dSy A).2) A.n 0 FU _ (by show 0 + A.n = (dSy A).1.n; rw [dSy_n]; omega) (by show A.n < 300; omega) h3
  rw [show ((dSy A).1.whrd (min 99999 ((dSy A).1.hrd + (dSy A).2))).n = A.n from dSy_n A, saveN_h] at h4
  have R4 : WR ((dSv A).whrd (min 99999 ((dSy A).1.hrd + (dSy A).2))) := WR.hrd (dSv_R hR) hmin
  have A4 : WA ((dSv A).whrd (min 99999 ((dSy A).1.hrd + (dSy A).2))) := hA.of (dSv_n A) (dSv_pr A) (dSv_sp A)
  obtain ⟨s5, e5, h5⟩ := m_chgN (RM := RM) R4 A4 (nI (dSy A).2) A.n 0 FU _ (by show 0 + A.n = (dSv A).n; rw [dSv_n]; omega) (by show A.n < 300; omega) h4
  rw [show ((dSv A).whrd (min 99999 ((dSy A).1.hrd + (dSy A).2))).n = A.n from dSv_n A, chgN_h] at h5
  have hd : s5 1 = nI (dCh A).day := h5.2.1
  have g1 : ht_ix (1 : Int32) 57 = true := by decide
  have g3 : ht_ix (3 : Int32) 57 = true := by decide
  have c1 : ((1 : Int32).toNatClampNeg) = 1 := rfl
  have c3 : ((3 : Int32).toNatClampNeg) = 3 := rfl
  have m1 : fX9_least (99999 : Int32) (nI (dSy A).1.hrd + nI (dSy A).2) = some (nI (min 99999 ((dSy A).1.hrd + (dSy A).2))) := by rw [z_add]; exact z_least (a := 99999) (by omega) (by omega)
  refine ⟨upd s5 1 (nI ((dCh A).day + 1)), ?_, ?_⟩
  · unfold fX9_goesOn
    rw [show (0 : Int32) = nI 0 from rfl, e1]
    unfold fX9_goesOn_b23
    rw [show (0 : Int32) = nI 0 from rfl]
    refine Eq.trans (show _ = fX9_goesOn_b65 RM (nI (dSy A).2) s2 from e2) ?_
    unfold fX9_goesOn_b65
    rw [z_gd g3, c3, hh, z_bn m1, z_gd g3, z_nm, show (0 : Int32) = nI 0 from rfl, e4]
    unfold fX9_goesOn_b116
    rw [show (0 : Int32) = nI 0 from rfl, e5]
    unfold fX9_goesOn_b169
    rw [z_gd g1, z_gd g1, z_nm, c1, hd, nI_1]
    rfl
  · have h6 := TM.day (v := (dCh A).day + 1) h5
    have e6 : dayA A = ((dCh A).whrd (min 99999 ((dSy A).1.hrd + (dSy A).2))).wday ((dCh A).day + 1) := by unfold dayA; rw [dCh_hrd]
    rw [e6]
    exact h6
