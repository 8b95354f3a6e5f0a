/-! ===== sentences on the tape ===== -/
section
variable {J : TellV} {RA : TapeV} {RM : ModV} {s : AI} {c : Nat → Nat} {n q e k : Nat} {tk fr to va : Int32}
theorem t_next (h : TPx RA RM c n) (hR : RD n J tk fr to va q e k) (wr : Int32) : ∃ (J' : TellV) (tk' fr' to' va' : Int32) (q' e' k' : Nat), fX5_readAhead J RA = some J' ∧ fX9_nextToken (RM.wt s tk fr to va wr) = some (tk', fr', to', va') ∧ RD n J' tk' fr' to' va' q' e' k' ∧ e ≤ q' := by
  obtain ⟨r1, r2, r3, r4, r5, r6, r7, r8, r9, r10, r11⟩ := hR
  exact t_ahead (RM := RM.wt s tk fr to va wr) h r8 r1 r6
theorem m_needsW (p : Int32) : fX9_needs (RM.wt s tk fr to va 1) p = some (tk, fr, to, va, (1 : Int32)) := by
  unfold fX9_needs fX9_needs_b12 fX9_needs_b17
  rw [if_neg (show ¬ (RM.wt s tk fr to va 1).isWrong = 0 from z_01), z_gd z_b1, if_neg z_01]
theorem m_needs0 : fX9_needs (RM.wt s tk fr to va 0) (0 : Int32) = some (tk, fr, to, va, (1 : Int32)) := by
  unfold fX9_needs fX9_needs_b12 fX9_needs_b17
  rw [if_pos (show (RM.wt s tk fr to va 0).isWrong = 0 from rfl), if_pos rfl, z_gd z_b1, if_neg z_01]
theorem m_needs1 {p tk' fr' to' va' : Int32} (hp : ¬ p = 0) (hn : fX9_nextToken (RM.wt s tk fr to va 0) = some (tk', fr', to', va')) : fX9_needs (RM.wt s tk fr to va 0) p = some (tk', fr', to', va', (0 : Int32)) := by
  unfold fX9_needs fX9_needs_b17
  rw [if_pos (show (RM.wt s tk fr to va 0).isWrong = 0 from rfl), if_neg hp, z_gd z_b0, if_pos rfl]
  exact z_bn hn
theorem t_number (h : TPx RA RM c n) (hR : RD n J tk fr to va q e k) {M at' : Nat} (hM : M ≤ 999) (hat : at' < 57) : (∃ (v : Nat) (J' : TellV) (tk' fr' to' va' : Int32) (q' e' k' : Nat), v ≤ M ∧ fX5_readNumber J RA (nI M) = some (nI v, J') ∧ fX9_numberTo (RM.wt s tk fr to va 0) (nI at') (nI M) = some (upd s at' (nI v), tk', fr', to', va', (0 : Int32)) ∧ RD n J' tk' fr' to' va' q' e' k' ∧ e ≤ q') ∨ (fX5_readNumber J RA (nI M) = some ((-1 : Int32), J) ∧ fX9_numberTo (RM.wt s tk fr to va 0) (nI at') (nI M) = some (s, tk, fr, to, va, (1 : Int32))) := by
  have hn := h.1
  have hR0 := hR
  obtain ⟨r1, r2, r3, r4, r5, r6, r7, r8, r9, r10, r11⟩ := hR
  have eS : to - fr = nI (e - q) := by rw [r5, r6]; exact z_sub r7
  have g : ht_ix (nI at') 57 = true := z_ix hat (by omega)
  have cl : (nI at').toNatClampNeg = at' := z_cl (by omega)
  have bad : fX9_numberTo_b33 (RM.wt s tk fr to va 0) (nI at') s tk fr to va 0 = some (s, tk, fr, to, va, (1 : Int32)) := by
    unfold fX9_numberTo_b33 fX9_numberTo_b34 fX9_numberTo_b56
    rw [if_pos rfl]
    exact z_bn (m_needs0 (RM := RM) (s := s) (tk := tk) (fr := fr) (to := to) (va := va))
  have EM : fX9_numberTo (RM.wt s tk fr to va 0) (nI at') (nI M) = (if tk = (2 : Int32) then (if (3 : Int32) < (to - fr) then fX9_numberTo_b33 (RM.wt s tk fr to va 0) (nI at') s tk fr to va 0 else (if nI M < va then fX9_numberTo_b33 (RM.wt s tk fr to va 0) (nI at') s tk fr to va 0 else fX9_numberTo_b34 (RM.wt s tk fr to va 0) (nI at') (1 : Int32) s tk fr to va 0)) else fX9_numberTo_b33 (RM.wt s tk fr to va 0) (nI at') s tk fr to va 0) := rfl
  have EX : fX5_readNumber J RA (nI M) = (if nI k = (2 : Int32) then (if J.value ≤ nI M then (ht_bn (fX5_readAhead J RA) (fun o_4 => some (J.value, o_4.1, o_4.2.1, o_4.2.2.1, o_4.2.2.2))) else (some ((-1 : Int32), J))) else (some ((-1 : Int32), J))) := by
    rw [← r2]
    rfl
  by_cases hk : k = 2
  · have tk2 : tk = (2 : Int32) := by rw [r4, hk]; rfl
    have k2 : nI k = (2 : Int32) := by rw [hk]; rfl
    rcases r11 hk with ⟨hd, v, hv, v1, v2⟩ | ⟨hd, v1, w, hw, v2⟩
    · have hv3 : v < 1000 := by
        have : (10 : Nat) ^ (e - q) ≤ 10 ^ 3 := Nat.pow_le_pow_right (by omega) hd
        omega
      have n3 : ¬ (3 : Int32) < to - fr := by rw [eS]; exact nI_nlt (a := 3) hd (by omega)
      by_cases hvM : v ≤ M
      · obtain ⟨J', tk', fr', to', va', q', e', k', x1, m1, R1, le1⟩ := t_next (s := upd s at' (nI v)) h hR0 0
        refine Or.inl ⟨v, J', tk', fr', to', va', q', e', k', hvM, ?_, ?_, R1, le1⟩
        · rw [EX, if_pos k2, v1, if_pos (nI_le hvM (by omega)), z_bn x1]
        · rw [EM, if_pos tk2, if_neg n3, v2, if_neg (nI_nlt hvM (by omega))]
          unfold fX9_numberTo_b34 fX9_numberTo_b56
          rw [if_neg z_01, if_pos rfl, z_gd g, z_nm, cl]
          rw [v2] at m1
          exact z_bn (m_needs1 (RM := RM) z_01 m1)
      · refine Or.inr ⟨?_, ?_⟩
        · rw [EX, if_pos k2, v1, if_neg (nI_ge (by omega) (by omega))]
        · rw [EM, if_pos tk2, if_neg n3, if_pos (by rw [v2]; exact nI_lt (by omega) (by omega))]
          exact bad
    · refine Or.inr ⟨?_, ?_⟩
      · rw [EX, if_pos k2, v1, if_neg (show ¬ (1000 : Int32) ≤ nI M from nI_ge (b := 1000) (by omega) (by omega))]
      · rw [EM, if_pos tk2, if_pos (by rw [eS]; exact nI_lt (a := 3) hd (by omega))]
        exact bad
  · have nk : ¬ nI k = (2 : Int32) := z_neL (b := 2) (c := 2) rfl hk (by omega) (by omega)
    refine Or.inr ⟨?_, ?_⟩
    · rw [EX, if_neg nk]
    · rw [EM, if_neg (by rw [r4]; exact nk)]
      exact bad
theorem t_semi (h : TPx RA RM c n) (hR : RD n J tk fr to va q e k) : (∃ (J' : TellV) (tk' fr' to' va' : Int32) (q' e' k' : Nat), fX5_readSemicolon J RA = some ((1 : Int32), J') ∧ fX9_itemHere_b78 RM s tk fr to va 0 = some (s, tk', fr', to', va', (0 : Int32)) ∧ RD n J' tk' fr' to' va' q' e' k' ∧ e ≤ q') ∨ (fX5_readSemicolon J RA = some ((0 : Int32), J) ∧ fX9_itemHere_b78 RM s tk fr to va 0 = some (s, tk, fr, to, va, (1 : Int32))) := by
  have hn := h.1
  have h3 := h.2.2.2
  have hR0 := hR
  obtain ⟨r1, r2, r3, r4, r5, r6, r7, r8, r9, r10, r11⟩ := hR
  have bad : fX9_itemHere_b104 RM s tk fr to va 0 = some (s, tk, fr, to, va, (1 : Int32)) := by
    unfold fX9_itemHere_b104 fX9_itemHere_b105
    exact z_bn (m_needs0 (RM := RM) (s := s) (tk := tk) (fr := fr) (to := to) (va := va))
  have EX : fX5_readSemicolon J RA = (if nI k = (3 : Int32) then (ht_gd (ht_ix (nI q) 200) (if (RA.bytes (nI q).toNatClampNeg) = (59 : Int32) then (ht_bn (fX5_readAhead J RA) (fun o_4 => some ((1 : Int32), o_4.1, o_4.2.1, o_4.2.2.1, o_4.2.2.2))) else (some ((0 : Int32), J)))) else (some ((0 : Int32), J))) := by
    rw [← r2, ← r3]
    rfl
  by_cases hk : k = 3
  · have tk3 : tk = (3 : Int32) := by rw [r4, hk]; rfl
    have k3 : nI k = (3 : Int32) := by rw [hk]; rfl
    have hqe := r10 (by omega)
    obtain ⟨hc, -, hx⟩ := h3 q (by omega)
    obtain ⟨-, z2, -, -, -, -, -, z8, -⟩ := z_byte ⟨c q, hc⟩
    have g : ht_ix (nI q) 200 = true := z_ix (by omega) (by omega)
    have cl : (nI q).toNatClampNeg = q := z_cl (by omega)
    have hb := m_byteAt (RM := RM.wt s tk fr to va 0) h (j := q) (by omega)
    rw [if_pos (by omega), ← r5] at hb
    by_cases d : c q = 59
    · obtain ⟨J', tk', fr', to', va', q', e', k', x1, m1, R1, le1⟩ := t_next (s := s) h hR0 0
      refine Or.inl ⟨J', tk', fr', to', va', q', e', k', ?_, ?_, R1, le1⟩
      · rw [EX, if_pos k3, z_gd g, cl, hx, if_pos (z2.mpr d), z_bn x1]
      · unfold fX9_itemHere_b78 fX9_itemHere_b105
        rw [if_pos tk3]
        refine Eq.trans (z_bn hb) ?_
        rw [if_pos (z8.mpr d)]
        exact z_bn (m_needs1 (RM := RM) z_01 m1)
    · refine Or.inr ⟨?_, ?_⟩
      · rw [EX, if_pos k3, z_gd g, cl, hx, if_neg (fun x => d (z2.mp x))]
      · unfold fX9_itemHere_b78
        rw [if_pos tk3]
        refine Eq.trans (z_bn hb) ?_
        rw [if_neg (fun x => d (z8.mp x))]
        exact bad
  · have nk : ¬ nI k = (3 : Int32) := z_neL (b := 3) (c := 3) rfl hk (by omega) (by omega)
    refine Or.inr ⟨?_, ?_⟩
    · rw [EX, if_neg nk]
    · unfold fX9_itemHere_b78
      rw [if_neg (by rw [r4]; exact nk)]
      exact bad
/-- all is wrong already: it stays so -/
theorem m_semiW (h : TPx RA RM c n) (hR : RD n J tk fr to va q e k) : fX9_itemHere_b78 RM s tk fr to va 1 = some (s, tk, fr, to, va, (1 : Int32)) := by
  have hn := h.1
  obtain ⟨r1, r2, r3, r4, r5, r6, r7, r8, r9, r10, r11⟩ := hR
  have W : ∀ t, fX9_itemHere_b105 RM t s tk fr to va 1 = some (s, tk, fr, to, va, (1 : Int32)) := by
    intro t
    unfold fX9_itemHere_b105
    exact z_bn (m_needsW (RM := RM) (s := s) (tk := tk) (fr := fr) (to := to) (va := va) t)
  have hb := m_byteAt (RM := RM.wt s tk fr to va 1) h (j := q) (by omega)
  rw [← r5] at hb
  unfold fX9_itemHere_b78 fX9_itemHere_b104
  by_cases t3 : tk = (3 : Int32)
  · rw [if_pos t3]
    refine Eq.trans (z_bn hb) ?_
    by_cases d : (if q < n then nI (c q) else -1) = (59 : Int32)
    · rw [if_pos d]; exact W 1
    · rw [if_neg d]; exact W 0
  · rw [if_neg t3]; exact W 0
end
/-- a law is told -/
theorem t_law {J : TellV} {RA : TapeV} {RM : ModV} {c : Nat → Nat} {n q e k l : Nat} {A : Tn} {T : TownV} (h : TPx RA RM c n) (hR : RD n J RM.token RM.frm RM.to RM.value q e k) (hk0 : k ≠ 0) (hw : RM.isWrong = 0) (hl : l ≤ 3) (hI : TI A T RM.s) : (∃ (J' : TellV) (la s' : AI) (tk fr to va : Int32) (q' e' k' : Nat) (A' : Tn), fX5_readLaw J RA T (nI l) = some ((1 : Int32), J'.place, J'.sort, J'.value, J'.start, la) ∧ ht_bn (fX9_nextToken RM) (fun o_14 => if nI (5 + l) = (8 : Int32) then (fX9_itemHere_b45 RM (nI (5 + l)) (99 : Int32) RM.s o_14.1 o_14.2.1 o_14.2.2.1 o_14.2.2.2 RM.isWrong) else (fX9_itemHere_b45 RM (nI (5 + l)) (9 : Int32) RM.s o_14.1 o_14.2.1 o_14.2.2.1 o_14.2.2.2 RM.isWrong)) = some (s', tk, fr, to, va, (0 : Int32)) ∧ RD n J' tk fr to va q' e' k' ∧ q < q' ∧ TI A' (T.wl la) s' ∧ A'.day = A.day) ∨ (∃ (J' : TellV) (la s' : AI) (tk fr to va : Int32), fX5_readLaw J RA T (nI l) = some ((0 : Int32), J'.place, J'.sort, J'.value, J'.start, la) ∧ ht_bn (fX9_nextToken RM) (fun o_14 => if nI (5 + l) = (8 : Int32) then (fX9_itemHere_b45 RM (nI (5 + l)) (99 : Int32) RM.s o_14.1 o_14.2.1 o_14.2.2.1 o_14.2.2.2 RM.isWrong) else (fX9_itemHere_b45 RM (nI (5 + l)) (9 : Int32) RM.s o_14.1 o_14.2.1 o_14.2.2.1 o_14.2.2.2 RM.isWrong)) = some (s', tk, fr, to, va, (1 : Int32)) ∧ fr = J'.start) := by
  have hqe := hR.2.2.2.2.2.2.2.2.2.1 hk0
  obtain ⟨hT, hM, hWR, hA, hP⟩ := hI
  obtain ⟨J1, tk1, fr1, to1, va1, q1, e1, k1, x1, m1, R1, le1⟩ := t_ahead (RM := RM) h hR.2.2.2.2.2.2.2.1 hR.1 hR.2.2.2.2.2.1
  have hm : mostL l ≤ 99 := by unfold mostL; split <;> omega
  have EM : ht_bn (fX9_nextToken RM) (fun o_14 => if nI (5 + l) = (8 : Int32) then (fX9_itemHere_b45 RM (nI (5 + l)) (99 : Int32) RM.s o_14.1 o_14.2.1 o_14.2.2.1 o_14.2.2.2 RM.isWrong) else (fX9_itemHere_b45 RM (nI (5 + l)) (9 : Int32) RM.s o_14.1 o_14.2.1 o_14.2.2.1 o_14.2.2.2 RM.isWrong)) = fX9_itemHere_b45 RM (nI (5 + l)) (nI (mostL l)) RM.s tk1 fr1 to1 va1 0 := by
    rw [z_bn m1, hw]
    have h4 : l = 0 ∨ l = 1 ∨ l = 2 ∨ l = 3 := by omega
    rcases h4 with rfl | rfl | rfl | rfl
    · rw [if_neg (by decide)]; rfl
    · rw [if_neg (by decide)]; rfl
    · rw [if_neg (by decide)]; rfl
    · rw [if_pos (by decide)]; rfl
  rw [EM]
  have g : ht_ix (nI l) 4 = true := z_ix (by omega) (by omega)
  have cl : (nI l).toNatClampNeg = l := z_cl (by omega)
  rcases t_number (s := RM.s) h R1 (M := mostL l) (at' := 5 + l) (by omega) (by omega) with ⟨v, J2, tk2, fr2, to2, va2, q2, e2, k2, hv, x2, m2, R2, le2⟩ | ⟨x2, m2⟩
  · have nv : ¬ nI v = (-1 : Int32) := fun x => by
      have := congrArg Int32.toInt x
      rw [z_ti (by omega), show ((-1 : Int32).toInt) = -1 by decide] at this
      omega
    have h11 := R1.2.2.2.2.2.2.1
    have h22 := R2.2.2.2.2.2.2.1
    rcases t_semi (s := upd RM.s (5 + l) (nI v)) h R2 with ⟨J3, tk3, fr3, to3, va3, q3, e3, k3, x3, m3, R3, le3⟩ | ⟨x3, m3⟩
    · refine Or.inl ⟨J3, upd T.laws l (nI v), upd RM.s (5 + l) (nI v), tk3, fr3, to3, va3, q3, e3, k3, A.wlaw (va_up A.law l v), ?_, ?_, R3, by omega, ⟨?_, TM.law hM (by omega), WR.law hWR hv, hA, hP⟩, rfl⟩
      · unfold fX5_readLaw
        rw [z_bn x1, z_bn (x_mostOfLaw l hl)]
        refine Eq.trans (z_bn x2) ?_
        rw [z_nm, if_neg nv]
        refine Eq.trans (z_bn x3) ?_
        rw [if_neg z_01, z_gd g, z_nm, cl]
      · unfold fX9_itemHere_b45
        refine Eq.trans (z_bn m2) ?_
        exact m3
      · obtain ⟨hn, hd, hh, hgs, hz, hl', hkd, hne, hsa, hvc, hp, hsp⟩ := hT
        exact ⟨hn, hd, hh, hgs, hz, up_all hl' rfl, hkd, hne, hsa, hvc, hp, hsp⟩
    · refine Or.inr ⟨J2, T.laws, upd RM.s (5 + l) (nI v), tk2, fr2, to2, va2, ?_, ?_, R2.2.2.2.2.1.trans R2.2.2.1.symm⟩
      · unfold fX5_readLaw
        rw [z_bn x1, z_bn (x_mostOfLaw l hl)]
        refine Eq.trans (z_bn x2) ?_
        rw [z_nm, if_neg nv]
        refine Eq.trans (z_bn x3) ?_
        rw [if_pos rfl]
      · unfold fX9_itemHere_b45
        refine Eq.trans (z_bn m2) ?_
        exact m3
  · refine Or.inr ⟨J1, T.laws, RM.s, tk1, fr1, to1, va1, ?_, ?_, R1.2.2.2.2.1.trans R1.2.2.1.symm⟩
    · unfold fX5_readLaw
      rw [z_bn x1, z_bn (x_mostOfLaw l hl)]
      refine Eq.trans (z_bn x2) ?_
      rw [z_nm, if_pos rfl]
    · unfold fX9_itemHere_b45
      refine Eq.trans (z_bn m2) ?_
      exact m_semiW h R1
