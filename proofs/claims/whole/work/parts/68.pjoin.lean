/-! ===== partners: how two are joined and parted ===== -/
def alone1 (A : Tn) (k : Nat) : Tn := (A.wpr (va_up A.pr k 0)).wsp (va_up A.sp k 1)
def unjA (A : Tn) (k : Nat) : Tn := if A.pr k = 0 then alone1 A k else alone1 (alone1 A k) (A.pr k - 1)
def joinA (A : Tn) (i j : Nat) : Tn := ((unjA (unjA A i) j).wpr (va_up (va_up (unjA (unjA A i) j).pr i (j + 1)) j (i + 1))).wsp (va_up (unjA (unjA A i) j).sp j 0)
abbrev TownV.wps (T : TownV) (e f : AI) : TownV := (T.laws, T.kind, T.need, T.saved, T.voice, e, f, T.count, T.day, T.heard, T.geese, T.z)
theorem up_cm {α : Type} (f : Nat → α) (k j : Nat) (v : α) : va_up (va_up f k v) j v = va_up (va_up f j v) k v := by
  funext i
  by_cases e : i = j
  · by_cases e2 : i = k
    · subst e; subst e2; rfl
    · subst e; rw [up_s, up_n _ _ e2, up_s]
  · by_cases e2 : i = k
    · subst e2; rw [up_n _ _ e, up_s, up_s]
    · rw [up_n _ _ e, up_n _ _ e2, up_n _ _ e2, up_n _ _ e]
theorem alone1_cm (A : Tn) (k j : Nat) : alone1 (alone1 A k) j = alone1 (alone1 A j) k := by
  show ((A.wpr (va_up (va_up A.pr k 0) j 0)).wsp (va_up (va_up A.sp k 1) j 1)) = ((A.wpr (va_up (va_up A.pr j 0) k 0)).wsp (va_up (va_up A.sp j 1) k 1))
  rw [up_cm A.pr k j 0, up_cm A.sp k j 1]
theorem TX.alone {A : Tn} {T : TownV} {k : Nat} (h : TX A T) : TX (alone1 A k) (T.wps (upd T.partner k (-1)) (upd T.speaks k (nI 1))) := by
  obtain ⟨hn, hd, hh, hgs, hz, hl, hkd, hne, hsa, hv, hp, hs⟩ := h
  exact ⟨hn, hd, hh, hgs, hz, hl, hkd, hne, hsa, hv, up_prn hp z_m1, up_all hs rfl⟩
theorem TM.alone {A : Tn} {s : AI} {k : Nat} (h : TM A s) (hk : k < A.n) : TM (alone1 A k) (upd (upd s (9 + 6 * k + 4) (0 : Int32)) (9 + 6 * k + 5) (1 : Int32)) := TM.sp (v := 1) (TM.pr (v := 0) h hk) hk
theorem alone1_R {A : Tn} (h : WR A) (k : Nat) : WR (alone1 A k) := by
  obtain ⟨r1, r2, r3, r4, r5, r6, r7, r8, r9⟩ := h
  refine ⟨r1, r2, r3, r4, r5, r6, r7, r8, fun i hi => ?_⟩
  obtain ⟨q1, q2, q3, q4, q5, q6⟩ := r9 i hi
  refine ⟨q1, q2, q3, q4, ?_, ?_⟩
  · show va_up A.sp k 1 i ≤ 1
    by_cases e : i = k
    · subst e; rw [up_s]; exact Nat.le_refl _
    · rw [up_n _ _ e]; exact q5
  · show va_up A.pr k 0 i ≤ A.n
    by_cases e : i = k
    · subst e; rw [up_s]; exact Nat.zero_le _
    · rw [up_n _ _ e]; exact q6
theorem alone1_A {A : Tn} (h : WA A) (k : Nat) : WA (alone1 A k) := by
  intro i hi hp
  have hp' : va_up A.pr k 0 i = 0 := hp
  show va_up A.sp k 1 i = 1
  by_cases e : i = k
  · subst e; rw [up_s]
  · rw [up_n _ _ e] at hp' ⊢; exact h i hi hp'
theorem unjA_n (A : Tn) (k : Nat) : (unjA A k).n = A.n := by unfold unjA; split <;> rfl
theorem unjA_day (A : Tn) (k : Nat) : (unjA A k).day = A.day := by unfold unjA; split <;> rfl
theorem unjA_R {A : Tn} (h : WR A) (k : Nat) : WR (unjA A k) := by
  unfold unjA
  split
  · exact alone1_R h k
  · exact alone1_R (alone1_R h k) _
theorem unjA_A {A : Tn} (h : WA A) (k : Nat) : WA (unjA A k) := by
  unfold unjA
  split
  · exact alone1_A h k
  · exact alone1_A (alone1_A h k) _
theorem unjA_pr (A : Tn) (k e : Nat) : (unjA A k).pr e = if e = k then 0 else if A.pr k ≠ 0 ∧ e = A.pr k - 1 then 0 else A.pr e := by
  unfold unjA
  by_cases h : A.pr k = 0
  · rw [if_pos h]
    show va_up A.pr k 0 e = _
    by_cases q : e = k
    · rw [if_pos q, q, up_s]
    · rw [if_neg q, up_n _ _ q, if_neg (fun z => z.1 h)]
  · rw [if_neg h]
    show va_up (va_up A.pr k 0) (A.pr k - 1) 0 e = _
    by_cases q : e = k
    · rw [if_pos q]
      by_cases q2 : e = A.pr k - 1
      · rw [q2, up_s]
      · rw [up_n _ _ q2, q, up_s]
    · rw [if_neg q]
      by_cases q2 : e = A.pr k - 1
      · rw [if_pos ⟨h, q2⟩, q2, up_s]
      · rw [if_neg (fun z => q2 z.2), up_n _ _ q2, up_n _ _ q]
theorem unjA_P {A : Tn} (hR : WR A) (h : WP A) {k : Nat} (hk : k < A.n) : WP (unjA A k) := by
  intro e he f hf
  rw [unjA_n] at he
  rw [unjA_pr] at hf
  rw [unjA_pr]
  by_cases q : e = k
  · rw [if_pos q] at hf; omega
  rw [if_neg q] at hf
  by_cases q2 : A.pr k ≠ 0 ∧ e = A.pr k - 1
  · rw [if_pos q2] at hf; omega
  rw [if_neg q2] at hf
  obtain ⟨a, b⟩ := h e he f hf
  refine ⟨a, ?_⟩
  have n1 : ¬ f = k := by
    intro z; subst z
    exact q2 ⟨by omega, by omega⟩
  have n2 : ¬ (A.pr k ≠ 0 ∧ f = A.pr k - 1) := by
    rintro ⟨z1, z2⟩
    obtain ⟨-, d⟩ := h k hk f (by omega)
    exact q (by omega)
  rw [if_neg n1, if_neg n2]; exact b
theorem joinA_n (A : Tn) (i j : Nat) : (joinA A i j).n = A.n := (unjA_n _ _).trans (unjA_n _ _)
theorem joinA_day (A : Tn) (i j : Nat) : (joinA A i j).day = A.day := (unjA_day _ _).trans (unjA_day _ _)
theorem joinA_R {A : Tn} (h : WR A) {i j : Nat} (hi : i < A.n) (hj : j < A.n) : WR (joinA A i j) := by
  have hn : (unjA (unjA A i) j).n = A.n := (unjA_n _ _).trans (unjA_n _ _)
  obtain ⟨r1, r2, r3, r4, r5, r6, r7, r8, r9⟩ := unjA_R (unjA_R h i) j
  refine ⟨r1, r2, r3, r4, r5, r6, r7, r8, fun e he => ?_⟩
  obtain ⟨q1, q2, q3, q4, q5, q6⟩ := r9 e he
  refine ⟨q1, q2, q3, q4, ?_, ?_⟩
  · show va_up (unjA (unjA A i) j).sp j 0 e ≤ 1
    by_cases z : e = j
    · subst z; rw [up_s]; omega
    · rw [up_n _ _ z]; exact q5
  · show va_up (va_up (unjA (unjA A i) j).pr i (j + 1)) j (i + 1) e ≤ (unjA (unjA A i) j).n
    by_cases z : e = j
    · subst z; rw [up_s, hn]; omega
    · rw [up_n _ _ z]
      by_cases z2 : e = i
      · subst z2; rw [up_s, hn]; omega
      · rw [up_n _ _ z2]; exact q6
theorem joinA_A {A : Tn} (h : WA A) (i j : Nat) : WA (joinA A i j) := by
  have hB := unjA_A (unjA_A h i) j
  intro e he hp
  have hp' : va_up (va_up (unjA (unjA A i) j).pr i (j + 1)) j (i + 1) e = 0 := hp
  show va_up (unjA (unjA A i) j).sp j 0 e = 1
  by_cases z : e = j
  · subst z; rw [up_s] at hp'; omega
  · rw [up_n _ _ z] at hp' ⊢
    by_cases z2 : e = i
    · subst z2; rw [up_s] at hp'; omega
    · rw [up_n _ _ z2] at hp'; exact hB e he hp'
theorem joinA_P {A : Tn} (hR : WR A) (h : WP A) {i j : Nat} (hi : i < A.n) (hj : j < A.n) (hij : i ≠ j) : WP (joinA A i j) := by
  have hB := unjA_P (unjA_R hR i) (unjA_P hR h hi) (k := j) (by rw [unjA_n]; exact hj)
  have bj : (unjA (unjA A i) j).pr j = 0 := by rw [unjA_pr, if_pos rfl]
  have bi : (unjA (unjA A i) j).pr i = 0 := by
    rw [unjA_pr, if_neg hij]
    split
    · rfl
    · rw [unjA_pr, if_pos rfl]
  intro e he f hf
  have he' : e < (unjA (unjA A i) j).n := he
  have hf' : va_up (va_up (unjA (unjA A i) j).pr i (j + 1)) j (i + 1) e = f + 1 := hf
  show f ≠ e ∧ va_up (va_up (unjA (unjA A i) j).pr i (j + 1)) j (i + 1) f = e + 1
  by_cases z : e = j
  · subst z
    rw [up_s] at hf'
    have : f = i := by omega
    subst this
    exact ⟨hij, by rw [up_n _ _ hij, up_s]⟩
  · rw [up_n _ _ z] at hf'
    by_cases z2 : e = i
    · subst z2
      rw [up_s] at hf'
      have : f = j := by omega
      subst this
      exact ⟨fun q => z q.symm, by rw [up_s]⟩
    · rw [up_n _ _ z2] at hf'
      obtain ⟨a, b⟩ := hB e he' f hf'
      refine ⟨a, ?_⟩
      have n1 : f ≠ j := fun q => by rw [q, bj] at b; omega
      have n2 : f ≠ i := fun q => by rw [q, bi] at b; omega
      rw [up_n _ _ n1, up_n _ _ n2]; exact b
theorem x_unjoin {A : Tn} {T : TownV} (hT : TX A T) (hR : WR A) {k : Nat} (hk : k < A.n) : ∃ e f, fX6_unjoin T (nI k) = some (e, f) ∧ TX (unjA A k) (T.wps e f) := by
  have h8 := hR.1
  have q := (hR.2.2.2.2.2.2.2.2 k hk).2.2.2.2.2
  have hn : T.count = nI A.n := hT.1
  have hp : T.partner k = nI (A.pr k) - 1 := hT.2.2.2.2.2.2.2.2.2.2.1 k hk
  have g : ht_ix (nI k) 8 = true := z_ix (by omega) (by omega)
  have cl : (nI k).toNatClampNeg = k := z_cl (by omega)
  have hb : fX6_has (T.wps (upd T.partner k (-1)) (upd T.speaks k (nI 1))) (nI (A.pr k) - 1) = some (if A.pr k = 0 then 0 else 1) := x_hasP hn h8 q
  have E : fX6_unjoin T (nI k) = ht_bn (fX6_has (T.wps (upd T.partner k (-1)) (upd T.speaks k (nI 1))) (nI (A.pr k) - 1)) (fun o_4 => if o_4 = 0 then some (upd T.partner k (-1), upd T.speaks k (nI 1)) else ht_bn (fX6_setAlone (T.wps (upd T.partner k (-1)) (upd T.speaks k (nI 1))) (nI (A.pr k) - 1)) (fun o_6 => some (o_6.1, o_6.2))) := by
    unfold fX6_unjoin
    rw [z_gd g, z_nm, cl, hp]
    exact z_bn (x_setAlone (by omega))
  rw [E, z_bn hb]
  by_cases hp0 : A.pr k = 0
  · rw [if_pos hp0, if_pos rfl]
    exact ⟨_, _, rfl, by rw [unjA, if_pos hp0]; exact TX.alone hT⟩
  · have ep : nI (A.pr k) - 1 = nI (A.pr k - 1) := z_sub (b := 1) (by omega)
    rw [if_neg hp0, if_neg z_01, ep, z_bn (x_setAlone (by omega))]
    exact ⟨_, _, rfl, by rw [unjA, if_neg hp0]; exact TX.alone (TX.alone hT)⟩
theorem m_b45 {RM : ModV} {s : AI} {k : Nat} (hk : k < 8) : fX9_leaves_b45 RM (nI k) s = some (upd (upd s (9 + 6 * k + 4) (0 : Int32)) (9 + 6 * k + 5) (1 : Int32)) := by
  have e4 : ((9 : Int32) + ((6 : Int32) * nI k)) + (4 : Int32) = nI (9 + 6 * k + 4) := z_at k 4
  have e5 : ((9 : Int32) + ((6 : Int32) * nI k)) + (5 : Int32) = nI (9 + 6 * k + 5) := z_at k 5
  have g4 : ht_ix (nI (9 + 6 * k + 4)) 57 = true := z_ix (by omega) (by omega)
  have g5 : ht_ix (nI (9 + 6 * k + 5)) 57 = true := z_ix (by omega) (by omega)
  have c4 : (nI (9 + 6 * k + 4)).toNatClampNeg = 9 + 6 * k + 4 := z_cl (by omega)
  have c5 : (nI (9 + 6 * k + 5)).toNatClampNeg = 9 + 6 * k + 5 := z_cl (by omega)
  unfold fX9_leaves_b45
  rw [e4, e5, z_gd g4, z_nm, z_gd g5, z_nm, c4, c5]
theorem m_leaves {A : Tn} {RM : ModV} (hM : TM A RM.s) (hR : WR A) {k : Nat} (hk : k < A.n) : ∃ s', fX9_leaves RM (nI k) = some s' ∧ TM (unjA A k) s' := by
  have h8 := hR.1
  have q := (hR.2.2.2.2.2.2.2.2 k hk).2.2.2.2.2
  obtain ⟨m0, m1, m2, m3, m4, m5⟩ := m_its hM h8 hk
  by_cases hp0 : A.pr k = 0
  · refine ⟨upd (upd RM.s (9 + 6 * k + 4) (0 : Int32)) (9 + 6 * k + 5) (1 : Int32), ?_, by rw [unjA, if_pos hp0]; exact TM.alone hM hk⟩
    unfold fX9_leaves
    rw [z_bn m4, hp0, if_pos (by decide)]
    exact m_b45 (by omega)
  · have ep : nI (A.pr k) - (1 : Int32) = nI (A.pr k - 1) := z_sub (b := 1) (by omega)
    have hj : A.pr k - 1 < A.n := by omega
    have hu : unjA A k = alone1 (alone1 A (A.pr k - 1)) k := by rw [unjA, if_neg hp0, alone1_cm]
    refine ⟨upd (upd (upd (upd RM.s (9 + 6 * (A.pr k - 1) + 4) (0 : Int32)) (9 + 6 * (A.pr k - 1) + 5) (1 : Int32)) (9 + 6 * k + 4) (0 : Int32)) (9 + 6 * k + 5) (1 : Int32), ?_, by rw [hu]; exact TM.alone (TM.alone hM hj) hk⟩
    unfold fX9_leaves
    rw [z_bn m4, if_neg (nI_nle (by omega) (by omega)), ep]
    generalize A.pr k - 1 = j at hj ⊢
    have e4 : ((9 : Int32) + ((6 : Int32) * nI j)) + (4 : Int32) = nI (9 + 6 * j + 4) := z_at j 4
    have e5 : ((9 : Int32) + ((6 : Int32) * nI j)) + (5 : Int32) = nI (9 + 6 * j + 5) := z_at j 5
    have g4 : ht_ix (nI (9 + 6 * j + 4)) 57 = true := z_ix (by omega) (by omega)
    have g5 : ht_ix (nI (9 + 6 * j + 5)) 57 = true := z_ix (by omega) (by omega)
    have c4 : (nI (9 + 6 * j + 4)).toNatClampNeg = 9 + 6 * j + 4 := z_cl (by omega)
    have c5 : (nI (9 + 6 * j + 5)).toNatClampNeg = 9 + 6 * j + 5 := z_cl (by omega)
    rw [e4, e5, z_gd g4, z_nm, z_gd g5, z_nm, c4, c5]
    exact m_b45 (by omega)
theorem x_join {A : Tn} {T : TownV} (hT : TX A T) (hR : WR A) {i j : Nat} (hi : i < A.n) (hj : j < A.n) : ∃ e f, fX6_join T (nI i) (nI j) = some (e, f) ∧ TX (joinA A i j) (T.wps e f) := by
  have h8 := hR.1
  obtain ⟨p1, s1, e1, h1⟩ := x_unjoin hT hR hi
  obtain ⟨p2, s2, e2, h2⟩ := x_unjoin h1 (unjA_R hR i) (k := j) (by rw [unjA_n]; exact hj)
  have gi : ht_ix (nI i) 8 = true := z_ix (by omega) (by omega)
  have gj : ht_ix (nI j) 8 = true := z_ix (by omega) (by omega)
  have ci : (nI i).toNatClampNeg = i := z_cl (by omega)
  have cj : (nI j).toNatClampNeg = j := z_cl (by omega)
  refine ⟨upd (upd p2 i (nI j)) j (nI i), upd s2 j (nI 0), ?_, ?_⟩
  · unfold fX6_join
    rw [z_bn e1]
    refine Eq.trans (z_bn e2) ?_
    show ht_gd (ht_ix (nI i) 8) (ht_nm (upd p2 (nI i).toNatClampNeg (nI j)) (fun v4 => ht_gd (ht_ix (nI j) 8) (ht_nm (upd v4 (nI j).toNatClampNeg (nI i)) (fun v6 => ht_gd (ht_ix (nI j) 8) (ht_nm (upd s2 (nI j).toNatClampNeg (vp_nar .boolean (0 : Int32))) (fun v8 => some (v6, v8))))))) = _
    rw [z_gd gi, z_nm, z_gd gj, z_nm, z_gd gj, z_nm, ci, cj, nar0]
  · obtain ⟨hn, hd, hh, hgs, hz, hl, hkd, hne, hsa, hv, hp, hs⟩ := h2
    exact ⟨hn, hd, hh, hgs, hz, hl, hkd, hne, hsa, hv, up_prn (up_prn hp (nI_pred j).symm) (nI_pred i).symm, up_all hs rfl⟩
theorem m_pairs {A : Tn} {RM : ModV} (hM : TM A RM.s) (hR : WR A) {i j : Nat} (hi : i < A.n) (hj : j < A.n) : ∃ s', fX9_pairs RM (nI i) (nI j) = some s' ∧ TM (joinA A i j) s' := by
  have h8 := hR.1
  obtain ⟨s1, e1, h1⟩ := m_leaves hM hR hi
  obtain ⟨s2, e2, h2⟩ := m_leaves (RM := RM.ws s1) h1 (unjA_R hR i) (k := j) (by rw [unjA_n]; exact hj)
  have n2 : (unjA (unjA A i) j).n = A.n := (unjA_n _ _).trans (unjA_n _ _)
  have d4 : ((9 : Int32) + ((6 : Int32) * nI i)) + (4 : Int32) = nI (9 + 6 * i + 4) := z_at i 4
  have e4 : ((9 : Int32) + ((6 : Int32) * nI j)) + (4 : Int32) = nI (9 + 6 * j + 4) := z_at j 4
  have e5 : ((9 : Int32) + ((6 : Int32) * nI j)) + (5 : Int32) = nI (9 + 6 * j + 5) := z_at j 5
  have f4 : ht_ix (nI (9 + 6 * i + 4)) 57 = true := z_ix (by omega) (by omega)
  have g4 : ht_ix (nI (9 + 6 * j + 4)) 57 = true := z_ix (by omega) (by omega)
  have g5 : ht_ix (nI (9 + 6 * j + 5)) 57 = true := z_ix (by omega) (by omega)
  have b4 : (nI (9 + 6 * i + 4)).toNatClampNeg = 9 + 6 * i + 4 := z_cl (by omega)
  have c4 : (nI (9 + 6 * j + 4)).toNatClampNeg = 9 + 6 * j + 4 := z_cl (by omega)
  have c5 : (nI (9 + 6 * j + 5)).toNatClampNeg = 9 + 6 * j + 5 := z_cl (by omega)
  have pj : (1 : Int32) + nI j = nI (j + 1) := by rw [show (1 : Int32) = nI 1 from rfl, z_add, Nat.add_comm]
  have pi : (1 : Int32) + nI i = nI (i + 1) := by rw [show (1 : Int32) = nI 1 from rfl, z_add, Nat.add_comm]
  have h3 := TM.pr (v := j + 1) h2 (k := i) (by rw [n2]; exact hi)
  have h4 := TM.pr (v := i + 1) h3 (k := j) (by show j < (unjA (unjA A i) j).n; rw [n2]; exact hj)
  have h5 := TM.sp (v := 0) h4 (k := j) (by show j < (unjA (unjA A i) j).n; rw [n2]; exact hj)
  refine ⟨upd (upd (upd s2 (9 + 6 * i + 4) (nI (j + 1))) (9 + 6 * j + 4) (nI (i + 1))) (9 + 6 * j + 5) (0 : Int32), ?_, h5⟩
  unfold fX9_pairs
  rw [z_bn e1]
  refine Eq.trans (z_bn e2) ?_
  show ht_gd (ht_ix (((9 : Int32) + ((6 : Int32) * nI i)) + (4 : Int32)) 57) (ht_nm (upd s2 (((9 : Int32) + ((6 : Int32) * nI i)) + (4 : Int32)).toNatClampNeg ((1 : Int32) + nI j)) (fun v4 => ht_gd (ht_ix (((9 : Int32) + ((6 : Int32) * nI j)) + (4 : Int32)) 57) (ht_nm (upd v4 (((9 : Int32) + ((6 : Int32) * nI j)) + (4 : Int32)).toNatClampNeg ((1 : Int32) + nI i)) (fun v6 => ht_gd (ht_ix (((9 : Int32) + ((6 : Int32) * nI j)) + (5 : Int32)) 57) (ht_nm (upd v6 (((9 : Int32) + ((6 : Int32) * nI j)) + (5 : Int32)).toNatClampNeg (0 : Int32)) (fun v8 => some v8)))))) = _
  rw [d4, e4, e5, z_gd f4, z_nm, z_gd g4, z_nm, z_gd g5, z_nm, b4, c4, c5, pj, pi]
theorem o_pair {RX : HTV} {A : Tn} {T : TownV} {RM : ModV} (h : TI A T RM.s) (y1 y2 : Int32) : ∃ r e f s' A', fX8_pair RX T y1 y2 = some (r, e, f) ∧ fX9_pair RM y1 y2 = some (r, s') ∧ TI A' (T.wps e f) s' ∧ A'.day = A.day := by
  have h0 := h
  obtain ⟨hT, hM, hR, hA, hP⟩ := h
  have h8 := hR.1
  rcases z_has (T := T) (RM := RM) hT.1 hM.1 h8 y1 with ⟨w, x⟩ | ⟨i, hi, rfl, w, x⟩
  · refine ⟨-1, T.partner, T.speaks, RM.s, A, ?_, ?_, h0, rfl⟩
    · unfold fX8_pair; rw [z_bn w, if_pos rfl]
    · unfold fX9_pair; rw [z_bn x, if_pos rfl]
  rcases z_has (T := T) (RM := RM) hT.1 hM.1 h8 y2 with ⟨w2, x2⟩ | ⟨j, hj, rfl, w2, x2⟩
  · refine ⟨-1, T.partner, T.speaks, RM.s, A, ?_, ?_, h0, rfl⟩
    · unfold fX8_pair; rw [z_bn w, if_neg z_01, z_bn w2, if_pos rfl]
    · unfold fX9_pair; rw [z_bn x, if_neg z_01, z_bn x2, if_pos rfl]
  by_cases hij : i = j
  · subst hij
    refine ⟨-1, T.partner, T.speaks, RM.s, A, ?_, ?_, h0, rfl⟩
    · unfold fX8_pair; rw [z_bn w, if_neg z_01, z_bn w, if_neg z_01, if_pos rfl]
    · unfold fX9_pair; rw [z_bn x, if_neg z_01, z_bn x, if_neg z_01, if_pos rfl]
  have nij : ¬ nI i = nI j := fun q => hij ((z_eq (by omega) (by omega)).mp q)
  have g : ht_ix (nI i) 8 = true := z_ix (by omega) (by omega)
  have cl : (nI i).toNatClampNeg = i := z_cl (by omega)
  have q := (hR.2.2.2.2.2.2.2.2 i hi).2.2.2.2.2
  have hp : T.partner i = nI (A.pr i) - 1 := hT.2.2.2.2.2.2.2.2.2.2.1 i hi
  obtain ⟨m0, m1, m2, m3, m4, m5⟩ := m_its hM h8 hi
  obtain ⟨e, f, ex, hx⟩ := x_join hT hR hi hj
  obtain ⟨s', em, hm⟩ := m_pairs hM hR hi hj
  have pj : (1 : Int32) + nI j = nI (j + 1) := by rw [show (1 : Int32) = nI 1 from rfl, z_add, Nat.add_comm]
  have hI : TI (joinA A i j) (T.wps e f) s' := ⟨hx, hm, joinA_R hR hi hj, joinA_A hA i j, joinA_P hR hP hi hj hij⟩
  by_cases c : A.pr i = j + 1
  · have cx : nI (A.pr i) - 1 = nI j := by rw [c, nI_pred]
    refine ⟨1, e, f, s', joinA A i j, ?_, ?_, hI, joinA_day A i j⟩
    · unfold fX8_pair; rw [z_bn w, if_neg z_01, z_bn w2, if_neg z_01, if_neg nij, z_gd g, cl, hp, if_pos cx]
      unfold fX8_pair_b47
      refine Eq.trans (z_bn ex) ?_
      exact if_neg z_01
    · unfold fX9_pair; rw [z_bn x, if_neg z_01, z_bn x2, if_neg z_01, if_neg nij, z_bn m4, pj, if_pos (by rw [c])]
      unfold fX9_pair_b40
      refine Eq.trans (z_bn em) ?_
      exact if_neg z_01
  · have cx : ¬ nI (A.pr i) - 1 = nI j := by
      intro z
      have z2 := congrArg Int32.toInt z
      have e' : (nI (A.pr i) - 1).toInt = (A.pr i : Int) - 1 := z_subT (a := A.pr i) (b := 1) (by omega) (by omega)
      rw [e', z_ti (by omega)] at z2
      exact c (by omega)
    refine ⟨0, e, f, s', joinA A i j, ?_, ?_, hI, joinA_day A i j⟩
    · unfold fX8_pair; rw [z_bn w, if_neg z_01, z_bn w2, if_neg z_01, if_neg nij, z_gd g, cl, hp, if_neg cx]
      unfold fX8_pair_b47
      refine Eq.trans (z_bn ex) ?_
      exact if_pos rfl
    · unfold fX9_pair; rw [z_bn x, if_neg z_01, z_bn x2, if_neg z_01, if_neg nij, z_bn m4, pj, if_neg (fun z => c ((z_eq (by omega) (by omega)).mp z))]
      unfold fX9_pair_b40
      refine Eq.trans (z_bn em) ?_
      exact if_pos rfl
theorem o_leave {RX : HTV} {A : Tn} {T : TownV} {RM : ModV} (h : TI A T RM.s) (y1 : Int32) : ∃ r e f s' A', fX8_leave RX T y1 = some (r, e, f) ∧ fX9_leave RM y1 = some (r, s') ∧ TI A' (T.wps e f) s' ∧ A'.day = A.day := by
  have h0 := h
  obtain ⟨hT, hM, hR, hA, hP⟩ := h
  have h8 := hR.1
  rcases z_has (T := T) (RM := RM) hT.1 hM.1 h8 y1 with ⟨w, x⟩ | ⟨i, hi, rfl, w, x⟩
  · refine ⟨-1, T.partner, T.speaks, RM.s, A, ?_, ?_, h0, rfl⟩
    · unfold fX8_leave; rw [z_bn w, if_pos rfl]
    · unfold fX9_leave; rw [z_bn x, if_pos rfl]
  have g : ht_ix (nI i) 8 = true := z_ix (by omega) (by omega)
  have cl : (nI i).toNatClampNeg = i := z_cl (by omega)
  have q := (hR.2.2.2.2.2.2.2.2 i hi).2.2.2.2.2
  have hp : T.partner i = nI (A.pr i) - 1 := hT.2.2.2.2.2.2.2.2.2.2.1 i hi
  obtain ⟨m0, m1, m2, m3, m4, m5⟩ := m_its hM h8 hi
  obtain ⟨e, f, ex, hx⟩ := x_unjoin hT hR hi
  obtain ⟨s', em, hm⟩ := m_leaves hM hR hi
  have hI : TI (unjA A i) (T.wps e f) s' := ⟨hx, hm, unjA_R hR i, unjA_A hA i, unjA_P hR hP hi⟩
  by_cases c : A.pr i = 0
  · refine ⟨0, e, f, s', unjA A i, ?_, ?_, hI, unjA_day A i⟩
    · unfold fX8_leave; rw [z_bn w, if_neg z_01, z_gd g, cl, hp, c, if_pos (by decide)]
      unfold fX8_leave_b31
      refine Eq.trans (z_bn ex) ?_
      exact if_pos rfl
    · unfold fX9_leave; rw [z_bn x, if_neg z_01, z_bn m4, c, if_pos (by decide)]
      unfold fX9_leave_b24
      refine Eq.trans (z_bn em) ?_
      exact if_pos rfl
  · have ep : nI (A.pr i) - (1 : Int32) = nI (A.pr i - 1) := z_sub (b := 1) (by omega)
    refine ⟨1, e, f, s', unjA A i, ?_, ?_, hI, unjA_day A i⟩
    · unfold fX8_leave; rw [z_bn w, if_neg z_01, z_gd g, cl, hp, ep, if_neg (fun z => by
        have e2 := congrArg Int32.toInt z
        rw [z_ti (by omega)] at e2
        have e3 : ((-1 : Int32).toInt) = -1 := by decide
        omega)]
      unfold fX8_leave_b31
      refine Eq.trans (z_bn ex) ?_
      exact if_neg z_01
    · unfold fX9_leave; rw [z_bn x, if_neg z_01, z_bn m4, if_neg (nI_nle (by omega) (by omega))]
      unfold fX9_leave_b24
      refine Eq.trans (z_bn em) ?_
      exact if_neg z_01
