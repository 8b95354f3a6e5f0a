/-! ===== one is told ===== -/
theorem up_up {f : Nat → Nat} {k a b : Nat} : va_up (va_up f k a) k b = va_up f k b := by
  funext j
  by_cases e : j = k
  · subst e; rw [up_s, up_s]
  · rw [up_n _ _ e, up_n _ _ e, up_n _ _ e]
theorem addA_nd {A : Tn} {s : AI} {k a b d v : Nat} (h : TM (addA A k a b d) s) : TM (addA A k v b d) (upd s (9 + 6 * A.n + 1) (nI v)) := by
  have h1 := TM.nd (k := A.n) (v := v) h (by show A.n < A.n + 1; omega)
  have e : (addA A k a b d).wnd (va_up (addA A k a b d).nd A.n v) = addA A k v b d := by
    show (A.n + 1, A.law, va_up A.kd A.n k, va_up (va_up A.nd A.n a) A.n v, va_up A.sv A.n b, va_up A.vc A.n d, va_up A.pr A.n 0, va_up A.sp A.n 1, A.day, A.hrd, A.gs, A.z) = addA A k v b d
    rw [up_up]; rfl
  rw [e] at h1
  exact h1
theorem addA_sv {A : Tn} {s : AI} {k a b d v : Nat} (h : TM (addA A k a b d) s) : TM (addA A k a v d) (upd s (9 + 6 * A.n + 2) (nI v)) := by
  have h1 := TM.sv (k := A.n) (v := v) h (by show A.n < A.n + 1; omega)
  have e : (addA A k a b d).wsv (va_up (addA A k a b d).sv A.n v) = addA A k a v d := by
    show (A.n + 1, A.law, va_up A.kd A.n k, va_up A.nd A.n a, va_up (va_up A.sv A.n b) A.n v, va_up A.vc A.n d, va_up A.pr A.n 0, va_up A.sp A.n 1, A.day, A.hrd, A.gs, A.z) = addA A k a v d
    rw [up_up]; rfl
  rw [e] at h1
  exact h1
theorem addA_vc {A : Tn} {s : AI} {k a b d v : Nat} (h : TM (addA A k a b d) s) : TM (addA A k a b v) (upd s (9 + 6 * A.n + 3) (nI v)) := by
  have h1 := TM.vc (k := A.n) (v := v) h (by show A.n < A.n + 1; omega)
  have e : (addA A k a b d).wvc (va_up (addA A k a b d).vc A.n v) = addA A k a b v := by
    show (A.n + 1, A.law, va_up A.kd A.n k, va_up A.nd A.n a, va_up A.sv A.n b, va_up (va_up A.vc A.n d) A.n v, va_up A.pr A.n 0, va_up A.sp A.n 1, A.day, A.hrd, A.gs, A.z) = addA A k a b v
    rw [up_up]; rfl
  rw [e] at h1
  exact h1
section
variable {J : TellV} {RA : TapeV} {RM : ModV} {s : AI} {c : Nat → Nat} {n q e k : Nat} {tk fr to va : Int32}
theorem m_perhapsW (p a m : Int32) : fX9_perhaps (RM.wt s tk fr to va 1) p a m = some (s, tk, fr, to, va, (1 : Int32)) := by
  unfold fX9_perhaps
  rw [if_neg (show ¬ (RM.wt s tk fr to va 1).isWrong = 0 from z_01)]
theorem t_opt (h : TPx RA RM c n) (hR : RD n J tk fr to va q e k) {i : Nat} {b : Bool} (hx : fX5_isName J RA i = some (bI b)) {M at' dflt : Nat} (hM : M ≤ 999) (hat : at' < 57) (hd : dflt ≤ M) : (∃ (v : Nat) (J' : TellV) (s' : AI) (tk' fr' to' va' : Int32) (q' e' k' : Nat), fX5_readOption J RA i (nI M) (nI dflt) = some (nI v, J') ∧ fX9_perhaps (RM.wt s tk fr to va 0) (bI b) (nI at') (nI M) = some (s', tk', fr', to', va', (0 : Int32)) ∧ RD n J' tk' fr' to' va' q' e' k' ∧ q ≤ q' ∧ v ≤ M ∧ ((s' = s ∧ v = dflt) ∨ s' = upd s at' (nI v))) ∨ (∃ (J' : TellV) (tk' fr' to' va' : Int32) (q' e' k' : Nat), fX5_readOption J RA i (nI M) (nI dflt) = some ((-1 : Int32), J') ∧ fX9_perhaps (RM.wt s tk fr to va 0) (bI b) (nI at') (nI M) = some (s, tk', fr', to', va', (1 : Int32)) ∧ RD n J' tk' fr' to' va' q' e' k') := by
  have hqe := hR.2.2.2.2.2.2.1
  cases b with
  | false =>
    refine Or.inl ⟨dflt, J, s, tk, fr, to, va, q, e, k, ?_, ?_, hR, Nat.le_refl q, hd, Or.inl ⟨rfl, rfl⟩⟩
    · unfold fX5_readOption
      rw [z_bn hx, if_pos (show bI false = 0 from rfl)]
    · unfold fX9_perhaps
      rw [if_pos (show (RM.wt s tk fr to va 0).isWrong = 0 from rfl), if_pos (show bI false = 0 from rfl)]
  | true =>
    obtain ⟨J1, tk1, fr1, to1, va1, q1, e1, k1, x1, m1, R1, le1⟩ := t_next (RM := RM) (s := s) h hR 0
    rcases t_number (RM := RM) (s := s) h R1 (M := M) (at' := at') hM hat with ⟨v, J2, tk2, fr2, to2, va2, q2, e2, k2, hv, x2, m2, R2, le2⟩ | ⟨x2, m2⟩
    · have h11 := R1.2.2.2.2.2.2.1
      refine Or.inl ⟨v, J2, upd s at' (nI v), tk2, fr2, to2, va2, q2, e2, k2, ?_, ?_, R2, by omega, hv, Or.inr rfl⟩
      · unfold fX5_readOption
        rw [z_bn hx, if_neg (show ¬ bI true = 0 by decide), z_bn x1]
        exact z_bn x2
      · unfold fX9_perhaps
        rw [if_pos (show (RM.wt s tk fr to va 0).isWrong = 0 from rfl), if_neg (show ¬ bI true = 0 by decide), z_bn m1]
        exact z_bn m2
    · refine Or.inr ⟨J1, tk1, fr1, to1, va1, q1, e1, k1, ?_, ?_, R1⟩
      · unfold fX5_readOption
        rw [z_bn hx, if_neg (show ¬ bI true = 0 by decide), z_bn x1]
        exact z_bn x2
      · unfold fX9_perhaps
        rw [if_pos (show (RM.wt s tk fr to va 0).isWrong = 0 from rfl), if_neg (show ¬ bI true = 0 by decide), z_bn m1]
        exact z_bn m2
/-- the options, once all is wrong -/
theorem m_48w (h : TPx RA RM c n) (hR : RD n J tk fr to va q e k) (x2 : Int32) : fX9_personHere_b48 RM x2 s tk fr to va 1 = some (s, tk, fr, to, va, (1 : Int32)) := by
  obtain ⟨b1, -, m1⟩ := nm_4 (s := s) (wr := 1) h hR 1 (by omega) rfl
  obtain ⟨b2, -, m2⟩ := nm_5 (s := s) (wr := 1) h hR 2 (by omega) rfl
  obtain ⟨b3, -, m3⟩ := nm_5 (s := s) (wr := 1) h hR 3 (by omega) rfl
  have P := fun p a m => m_perhapsW (RM := RM) (s := s) (tk := tk) (fr := fr) (to := to) (va := va) p a m
  unfold fX9_personHere_b48
  refine Eq.trans (z_bn m1) ?_
  refine Eq.trans (z_bn (P _ _ _)) ?_
  refine Eq.trans (z_bn m2) ?_
  refine Eq.trans (z_bn (P _ _ _)) ?_
  refine Eq.trans (z_bn m3) ?_
  exact z_bn (P _ _ _)
end
theorem t_person {J : TellV} {RA : TapeV} {RM : ModV} {c : Nat → Nat} {n q e k kd : Nat} {A : Tn} {T : TownV} (h : TPx RA RM c n) (hR : RD n J RM.token RM.frm RM.to RM.value q e k) (hk0 : k ≠ 0) (hw : RM.isWrong = 0) (hkd : kd ≤ 5) (hX : fX5_kindNamed J RA = some (nI kd)) (hI : TI A T RM.s) : (∃ (J' : TellV) (a b c' d e'' f s' : AI) (ct tk fr to va : Int32) (q' e' k' : Nat) (A' : Tn), fX5_readPerson J RA T = some ((1 : Int32), J'.place, J'.sort, J'.value, J'.start, a, b, c', d, e'', f, ct) ∧ ht_bn (fX9_personHere RM (nI kd)) (fun o_16 => fX9_itemHere_b78 RM o_16.1 o_16.2.1 o_16.2.2.1 o_16.2.2.2.1 o_16.2.2.2.2.1 o_16.2.2.2.2.2) = some (s', tk, fr, to, va, (0 : Int32)) ∧ RD n J' tk fr to va q' e' k' ∧ q < q' ∧ TI A' (T.wp a b c' d e'' f ct) s' ∧ A'.day = A.day) ∨ (∃ (J' : TellV) (a b c' d e'' f s' : AI) (ct tk fr to va : Int32), fX5_readPerson J RA T = some ((0 : Int32), J'.place, J'.sort, J'.value, J'.start, a, b, c', d, e'', f, ct) ∧ ht_bn (fX9_personHere RM (nI kd)) (fun o_16 => fX9_itemHere_b78 RM o_16.1 o_16.2.1 o_16.2.2.1 o_16.2.2.2.1 o_16.2.2.2.2.1 o_16.2.2.2.2.2) = some (s', tk, fr, to, va, (1 : Int32)) ∧ fr = J'.start) := by
  have hqe := hR.2.2.2.2.2.2.2.2.2.1 hk0
  obtain ⟨hT, hM, hWR, hA, hP⟩ := hI
  have h8 := hWR.1
  have hn := h.1
  have g0 : ht_ix (0 : Int32) 57 = true := by decide
  have hs0 : RM.s ((0 : Int32).toNatClampNeg) = nI A.n := hM.1
  have hc : T.count = nI A.n := hT.1
  have nm1 : ∀ v : Nat, v < 1000 → ¬ nI v = (-1 : Int32) := fun v hv x => by
    have := congrArg Int32.toInt x
    rw [z_ti (by omega), show ((-1 : Int32).toInt) = -1 by decide] at this
    omega
  have e0 : (9 : Int32) + ((6 : Int32) * nI A.n) = nI (9 + 6 * A.n) := z_at0 A.n
  by_cases hf : A.n = 8
  · -- nobody more comes
    refine Or.inr ⟨J, T.kind, T.need, T.saved, T.voice, T.partner, T.speaks, RM.s, T.count, RM.token, RM.frm, RM.to, RM.value, ?_, ?_, hR.2.2.2.2.1.trans hR.2.2.1.symm⟩
    · unfold fX5_readPerson
      rw [z_bn hX, if_neg (nm1 kd (by omega)), hc, if_neg (by rw [hf]; decide)]
    · have EP : fX9_personHere RM (nI kd) = some (RM.s, RM.token, RM.frm, RM.to, RM.value, (1 : Int32)) := by
        unfold fX9_personHere
        rw [z_gd g0, hs0, z_nm, z_gd g0, if_pos (by rw [hf]; decide), hw]
        unfold fX9_personHere_b30
        refine Eq.trans (z_bn (m_needs0 (RM := RM) (s := RM.s) (tk := RM.token) (fr := RM.frm) (to := RM.to) (va := RM.value))) ?_
        rw [if_neg z_01]
        exact m_48w h hR _
      rw [z_bn EP]
      exact m_semiW h hR
  have hf8 : A.n < 8 := by omega
  obtain ⟨J1, tk1, fr1, to1, va1, q1, e1, k1, x1, m1, R1, le1⟩ := t_next (RM := RM) (s := RM.s) h hR 0
  have N1 := m_needs1 (RM := RM) (p := (1 : Int32)) z_01 m1
  obtain ⟨s1, es1, hs1⟩ := m_comes (RM := RM.wt RM.s tk1 fr1 to1 va1 0) hM hf8 kd 0 0 3
  have EM0 : fX9_personHere RM (nI kd) = fX9_personHere_b48 RM (nI (9 + 6 * A.n)) s1 tk1 fr1 to1 va1 0 := by
    unfold fX9_personHere
    rw [z_gd g0, hs0, z_nm, z_gd g0, if_neg (show ¬ (8 : Int32) ≤ nI A.n from nI_ge (b := 8) hf8 (by omega)), hw, e0]
    unfold fX9_personHere_b30
    refine Eq.trans (z_bn N1) ?_
    rw [if_pos rfl]
    exact z_bn es1
  have p1 : nI (9 + 6 * A.n) + (1 : Int32) = nI (9 + 6 * A.n + 1) := z_add _ 1
  have p2 : nI (9 + 6 * A.n) + (2 : Int32) = nI (9 + 6 * A.n + 2) := z_add _ 2
  have p3 : nI (9 + 6 * A.n) + (3 : Int32) = nI (9 + 6 * A.n + 3) := z_add _ 3
  obtain ⟨b1, y1, w1⟩ := nm_4 (s := s1) (wr := 0) h R1 1 (by omega) rfl
  have EX0 : fX5_readPerson J RA T = ht_bn (fX5_readOption J1 RA 1 (99 : Int32) (0 : Int32)) (fun o_5 => ht_nm o_5.1 (fun x2_6 => if x2_6 = (-1 : Int32) then (some ((0 : Int32), o_5.2.1, o_5.2.2.1, o_5.2.2.2.1, o_5.2.2.2.2, T.kind, T.need, T.saved, T.voice, T.partner, T.speaks, T.count)) else (ht_bn (fX5_readOption (o_5.2.1, o_5.2.2.1, o_5.2.2.2.1, o_5.2.2.2.2) RA 2 (99 : Int32) (0 : Int32)) (fun o_8 => ht_nm o_8.1 (fun x3_9 => if x3_9 = (-1 : Int32) then (some ((0 : Int32), o_8.2.1, o_8.2.2.1, o_8.2.2.2.1, o_8.2.2.2.2, T.kind, T.need, T.saved, T.voice, T.partner, T.speaks, T.count)) else (ht_bn (fX5_readOption (o_8.2.1, o_8.2.2.1, o_8.2.2.2.1, o_8.2.2.2.2) RA 3 (9 : Int32) (3 : Int32)) (fun o_11 => ht_nm o_11.1 (fun x4_12 => if x4_12 = (-1 : Int32) then (some ((0 : Int32), o_11.2.1, o_11.2.2.1, o_11.2.2.2.1, o_11.2.2.2.2, T.kind, T.need, T.saved, T.voice, T.partner, T.speaks, T.count)) else (ht_bn (fX5_readSemicolon (o_11.2.1, o_11.2.2.1, o_11.2.2.2.1, o_11.2.2.2.2) RA) (fun o_14 => if o_14.1 = 0 then (some ((0 : Int32), o_14.2.1, o_14.2.2.1, o_14.2.2.2.1, o_14.2.2.2.2, T.kind, T.need, T.saved, T.voice, T.partner, T.speaks, T.count)) else (ht_bn (fX6_add T (nI kd) x2_6 x3_9 x4_12) (fun o_16 => some ((1 : Int32), o_14.2.1, o_14.2.2.1, o_14.2.2.2.1, o_14.2.2.2.2, o_16.1, o_16.2.1, o_16.2.2.1, o_16.2.2.2.1, o_16.2.2.2.2.1, o_16.2.2.2.2.2.1, o_16.2.2.2.2.2.2))))))))))))) := by
    unfold fX5_readPerson
    rw [z_bn hX, if_neg (nm1 kd (by omega)), hc, if_pos (show nI A.n < (8 : Int32) from nI_lt (b := 8) hf8 (by omega))]
    refine Eq.trans (z_bn x1) ?_
    rfl
  rcases t_opt (RM := RM) (s := s1) h R1 y1 (M := 99) (at' := 9 + 6 * A.n + 1) (dflt := 0) (by omega) (by omega) (by omega) with ⟨v1, J2, s2, tk2, fr2, to2, va2, q2, e2, k2, x2, m2, R2, le2, hv1, so2⟩ | ⟨J2, tk2, fr2, to2, va2, q2, e2, k2, x2, m2, R2⟩
  · have hM2 : TM (addA A kd v1 0 3) s2 := by
      rcases so2 with ⟨u1, u2⟩ | u1
      · rw [u1, u2]; exact hs1
      · rw [u1]; exact addA_nd hs1
    obtain ⟨b2, y2, w2⟩ := nm_5 (s := s2) (wr := 0) h R2 2 (by omega) rfl
    rcases t_opt (RM := RM) (s := s2) h R2 y2 (M := 99) (at' := 9 + 6 * A.n + 2) (dflt := 0) (by omega) (by omega) (by omega) with ⟨v2, J3, s3, tk3, fr3, to3, va3, q3, e3, k3, x3, m3, R3, le3, hv2, so3⟩ | ⟨J3, tk3, fr3, to3, va3, q3, e3, k3, x3, m3, R3⟩
    · have hM3 : TM (addA A kd v1 v2 3) s3 := by
        rcases so3 with ⟨u1, u2⟩ | u1
        · rw [u1, u2]; exact hM2
        · rw [u1]; exact addA_sv hM2
      obtain ⟨b3, y3, w3⟩ := nm_5 (s := s3) (wr := 0) h R3 3 (by omega) rfl
      rcases t_opt (RM := RM) (s := s3) h R3 y3 (M := 9) (at' := 9 + 6 * A.n + 3) (dflt := 3) (by omega) (by omega) (by omega) with ⟨v3, J4, s4, tk4, fr4, to4, va4, q4, e4, k4, x4, m4, R4, le4, hv3, so4⟩ | ⟨J4, tk4, fr4, to4, va4, q4, e4, k4, x4, m4, R4⟩
      · have hM4 : TM (addA A kd v1 v2 v3) s4 := by
          rcases so4 with ⟨u1, u2⟩ | u1
          · rw [u1, u2]; exact hM3
          · rw [u1]; exact addA_vc hM3
        have EP : fX9_personHere RM (nI kd) = some (s4, tk4, fr4, to4, va4, (0 : Int32)) := by
          rw [EM0]
          unfold fX9_personHere_b48
          rw [p1, p2, p3]
          refine Eq.trans (z_bn w1) ?_
          refine Eq.trans (z_bn m2) ?_
          refine Eq.trans (z_bn w2) ?_
          refine Eq.trans (z_bn m3) ?_
          refine Eq.trans (z_bn w3) ?_
          exact z_bn m4
        obtain ⟨a, b, c', d, e'', f, ex, hx⟩ := x_add hT hf8 kd v1 v2 v3
        have EX4 : fX5_readPerson J RA T = ht_bn (fX5_readSemicolon J4 RA) (fun o_14 => if o_14.1 = 0 then (some ((0 : Int32), o_14.2.1, o_14.2.2.1, o_14.2.2.2.1, o_14.2.2.2.2, T.kind, T.need, T.saved, T.voice, T.partner, T.speaks, T.count)) else (some ((1 : Int32), o_14.2.1, o_14.2.2.1, o_14.2.2.2.1, o_14.2.2.2.2, a, b, c', d, e'', f, nI (A.n + 1)))) := by
          rw [EX0]
          refine Eq.trans (z_bn x2) ?_
          rw [z_nm, if_neg (nm1 v1 (by omega))]
          refine Eq.trans (z_bn x3) ?_
          rw [z_nm, if_neg (nm1 v2 (by omega))]
          refine Eq.trans (z_bn x4) ?_
          rw [z_nm, if_neg (nm1 v3 (by omega))]
          refine congrArg (ht_bn _) (funext fun o_14 => ?_)
          by_cases z : o_14.1 = 0
          · rw [if_pos z, if_pos z]
          · rw [if_neg z, if_neg z]
            exact z_bn ex
        have h44 := R4.2.2.2.2.2.2.1
        rcases t_semi (RM := RM) (s := s4) h R4 with ⟨J5, tk5, fr5, to5, va5, q5, e5, k5, x5, m5, R5, le5⟩ | ⟨x5, m5⟩
        · refine Or.inl ⟨J5, a, b, c', d, e'', f, s4, nI (A.n + 1), tk5, fr5, to5, va5, q5, e5, k5, addA A kd v1 v2 v3, ?_, ?_, R5, by omega, ⟨hx, hM4, addA_R hWR hf8 hkd hv1 hv2 hv3, addA_A hA _ _ _ _, addA_P hWR hP _ _ _ _⟩, rfl⟩
          · rw [EX4, z_bn x5, if_neg z_01]
          · rw [z_bn EP]; exact m5
        · refine Or.inr ⟨J4, T.kind, T.need, T.saved, T.voice, T.partner, T.speaks, s4, T.count, tk4, fr4, to4, va4, ?_, ?_, R4.2.2.2.2.1.trans R4.2.2.1.symm⟩
          · rw [EX4, z_bn x5, if_pos rfl]
          · rw [z_bn EP]; exact m5
      · refine Or.inr ⟨J4, T.kind, T.need, T.saved, T.voice, T.partner, T.speaks, s3, T.count, tk4, fr4, to4, va4, ?_, ?_, R4.2.2.2.2.1.trans R4.2.2.1.symm⟩
        · rw [EX0]
          refine Eq.trans (z_bn x2) ?_
          rw [z_nm, if_neg (nm1 v1 (by omega))]
          refine Eq.trans (z_bn x3) ?_
          rw [z_nm, if_neg (nm1 v2 (by omega))]
          refine Eq.trans (z_bn x4) ?_
          rw [z_nm, if_pos rfl]
        · have EP : fX9_personHere RM (nI kd) = some (s3, tk4, fr4, to4, va4, (1 : Int32)) := by
            rw [EM0]
            unfold fX9_personHere_b48
            rw [p1, p2, p3]
            refine Eq.trans (z_bn w1) ?_
            refine Eq.trans (z_bn m2) ?_
            refine Eq.trans (z_bn w2) ?_
            refine Eq.trans (z_bn m3) ?_
            refine Eq.trans (z_bn w3) ?_
            exact z_bn m4
          rw [z_bn EP]
          exact m_semiW h R4
    · obtain ⟨b3, -, w3⟩ := nm_5 (s := s2) (wr := 1) h R3 3 (by omega) rfl
      refine Or.inr ⟨J3, T.kind, T.need, T.saved, T.voice, T.partner, T.speaks, s2, T.count, tk3, fr3, to3, va3, ?_, ?_, R3.2.2.2.2.1.trans R3.2.2.1.symm⟩
      · rw [EX0]
        refine Eq.trans (z_bn x2) ?_
        rw [z_nm, if_neg (nm1 v1 (by omega))]
        refine Eq.trans (z_bn x3) ?_
        rw [z_nm, if_pos rfl]
      · have EP : fX9_personHere RM (nI kd) = some (s2, tk3, fr3, to3, va3, (1 : Int32)) := by
          rw [EM0]
          unfold fX9_personHere_b48
          rw [p1, p2, p3]
          refine Eq.trans (z_bn w1) ?_
          refine Eq.trans (z_bn m2) ?_
          refine Eq.trans (z_bn w2) ?_
          refine Eq.trans (z_bn m3) ?_
          refine Eq.trans (z_bn w3) ?_
          exact z_bn (m_perhapsW (RM := RM) (s := s2) (tk := tk3) (fr := fr3) (to := to3) (va := va3) _ _ _)
        rw [z_bn EP]
        exact m_semiW h R3
  · obtain ⟨b2, -, w2⟩ := nm_5 (s := s1) (wr := 1) h R2 2 (by omega) rfl
    obtain ⟨b3, -, w3⟩ := nm_5 (s := s1) (wr := 1) h R2 3 (by omega) rfl
    refine Or.inr ⟨J2, T.kind, T.need, T.saved, T.voice, T.partner, T.speaks, s1, T.count, tk2, fr2, to2, va2, ?_, ?_, R2.2.2.2.2.1.trans R2.2.2.1.symm⟩
    · rw [EX0]
      refine Eq.trans (z_bn x2) ?_
      rw [z_nm, if_pos rfl]
    · have EP : fX9_personHere RM (nI kd) = some (s1, tk2, fr2, to2, va2, (1 : Int32)) := by
        rw [EM0]
        unfold fX9_personHere_b48
        rw [p1, p2, p3]
        refine Eq.trans (z_bn w1) ?_
        refine Eq.trans (z_bn m2) ?_
        refine Eq.trans (z_bn w2) ?_
        refine Eq.trans (z_bn (m_perhapsW (RM := RM) (s := s1) (tk := tk2) (fr := fr2) (to := to2) (va := va2) _ _ _)) ?_
        refine Eq.trans (z_bn w3) ?_
        exact z_bn (m_perhapsW (RM := RM) (s := s1) (tk := tk2) (fr := fr2) (to := to2) (va := va2) _ _ _)
      rw [z_bn EP]
      exact m_semiW h R2
