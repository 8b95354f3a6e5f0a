/-! ===== a town told in a text ===== -/
section
variable {J : TellV} {RA : TapeV} {RM : ModV} {c : Nat → Nat} {n q e k : Nat} {tk fr to va : Int32}
theorem x_bI1 {b : Bool} (h : some (bI b) = some (1 : Int32)) : b = true := by
  cases b with
  | true => rfl
  | false => exact absurd (Option.some.inj h) (by decide)
theorem x_kindIs (h : TPx RA RM c n) (hR : RD n J tk fr to va q e k) {r : Int32} (H : fX5_kindNamed J RA = some r) (hr : ¬ r = -1) : ∃ i, 5 ≤ i ∧ i ≤ 10 ∧ fX5_isName J RA i = some 1 := by
  have F : bI false = 0 := rfl
  obtain ⟨b5, x5, -⟩ := x_isName h hR 5 (by omega)
  obtain ⟨b6, x6, -⟩ := x_isName h hR 6 (by omega)
  obtain ⟨b7, x7, -⟩ := x_isName h hR 7 (by omega)
  obtain ⟨b8, x8, -⟩ := x_isName h hR 8 (by omega)
  obtain ⟨b9, x9, -⟩ := x_isName h hR 9 (by omega)
  obtain ⟨b10, x10, -⟩ := x_isName h hR 10 (by omega)
  unfold fX5_kindNamed at H
  rw [z_bn x5] at H
  cases b5 with
  | true => exact ⟨5, by omega, by omega, x5⟩
  | false =>
  rw [if_pos F, z_bn x6] at H
  cases b6 with
  | true => exact ⟨6, by omega, by omega, x6⟩
  | false =>
  rw [if_pos F, z_bn x7] at H
  cases b7 with
  | true => exact ⟨7, by omega, by omega, x7⟩
  | false =>
  rw [if_pos F, z_bn x8] at H
  cases b8 with
  | true => exact ⟨8, by omega, by omega, x8⟩
  | false =>
  rw [if_pos F, z_bn x9] at H
  cases b9 with
  | true => exact ⟨9, by omega, by omega, x9⟩
  | false =>
  rw [if_pos F, z_bn x10] at H
  cases b10 with
  | true => exact ⟨10, by omega, by omega, x10⟩
  | false =>
  rw [if_pos F] at H
  exact absurd (Option.some.inj H).symm hr
theorem x_lawIs (h : TPx RA RM c n) (hR : RD n J tk fr to va q e k) {r : Int32} (H : fX5_lawNamed J RA = some r) (hr : ¬ r = -1) : ∃ i, 11 ≤ i ∧ i ≤ 14 ∧ fX5_isName J RA i = some 1 := by
  have F : bI false = 0 := rfl
  obtain ⟨b5, x5, -⟩ := x_isName h hR 11 (by omega)
  obtain ⟨b6, x6, -⟩ := x_isName h hR 12 (by omega)
  obtain ⟨b7, x7, -⟩ := x_isName h hR 13 (by omega)
  obtain ⟨b8, x8, -⟩ := x_isName h hR 14 (by omega)
  unfold fX5_lawNamed at H
  rw [z_bn x5] at H
  cases b5 with
  | true => exact ⟨11, by omega, by omega, x5⟩
  | false =>
  rw [if_pos F, z_bn x6] at H
  cases b6 with
  | true => exact ⟨12, by omega, by omega, x6⟩
  | false =>
  rw [if_pos F, z_bn x7] at H
  cases b7 with
  | true => exact ⟨13, by omega, by omega, x7⟩
  | false =>
  rw [if_pos F, z_bn x8] at H
  cases b8 with
  | true => exact ⟨14, by omega, by omega, x8⟩
  | false =>
  rw [if_pos F] at H
  exact absurd (Option.some.inj H).symm hr
theorem wN_diff : ∀ i j : Fin 15, 5 ≤ i.val → i.val ≤ 10 → (j.val = 0 ∨ 11 ≤ j.val) → ¬ (wN i.val 0 = wN j.val 0 ∧ lenS.getD i.val 0 = lenS.getD j.val 0) := by decide +kernel
theorem x_excl (h : TPx RA RM c n) (hR : RD n J tk fr to va q e k) {i j : Nat} (hi5 : 5 ≤ i) (hi : i ≤ 10) (hj : j < 15) (hj0 : j = 0 ∨ 11 ≤ j) (H1 : fX5_isName J RA i = some 1) (H2 : fX5_isName J RA j = some 1) : False := by
  obtain ⟨b1, x1, y1⟩ := x_isName h hR i (by omega)
  obtain ⟨b2, x2, y2⟩ := x_isName h hR j hj
  have l1 := (wN_ok i (by omega)).2.1
  have l2 := (wN_ok j hj).2.1
  obtain ⟨-, p2, p3⟩ := y1.mp (x_bI1 (x1.symm.trans H1))
  obtain ⟨-, q2, q3⟩ := y2.mp (x_bI1 (x2.symm.trans H2))
  exact wN_diff ⟨i, by omega⟩ ⟨j, hj⟩ hi5 hi hj0 ⟨(p3 0 (by omega)).symm.trans (q3 0 (by omega)), (show lenS.getD i 0 = lenS.getD j 0 by omega)⟩
end
theorem t_item {J : TellV} {RA : TapeV} {RM : ModV} {RT : TownV} {c : Nat → Nat} {n q e k i : Nat} {A : Tn} {la kd nd sv vc pr sp : AI} {ct : Int32} (h : TPx RA RM c n) (hR : RD n J RM.token RM.frm RM.to RM.value q e k) (hk0 : k ≠ 0) (hw : RM.isWrong = 0) (hi : i < 200) (hI : TI A (la, kd, nd, sv, vc, pr, sp, ct, RT.day, RT.heard, RT.geese, RT.z) RM.s) {RJ : TellV} (K : Int32 → Int32 → Int32 → Int32 → Int32 → Int32 → AI → AI → AI → AI → AI → AI → AI → Int32 → Option (Int32 × Int32 × Int32 × Int32 × Int32 × AI × AI × AI × AI × AI × AI × AI × Int32)) : (∃ (J' : TellV) (la' kd' nd' sv' vc' pr' sp' s' : AI) (ct' tk fr to va : Int32) (q' e' k' : Nat) (A' : Tn), fX5_readTown_b13 RJ RA RT K 1 (nI i) J.place J.sort J.value J.start la kd nd sv vc pr sp ct = K 1 (nI (i + 1)) J'.place J'.sort J'.value J'.start la' kd' nd' sv' vc' pr' sp' ct' ∧ fX9_itemHere RM = some (s', tk, fr, to, va, (0 : Int32)) ∧ RD n J' tk fr to va q' e' k' ∧ q < q' ∧ TI A' (la', kd', nd', sv', vc', pr', sp', ct', RT.day, RT.heard, RT.geese, RT.z) s' ∧ A'.day = A.day) ∨ (∃ (J' : TellV) (la' kd' nd' sv' vc' pr' sp' s' : AI) (ct' tk fr to va : Int32), fX5_readTown_b13 RJ RA RT K 1 (nI i) J.place J.sort J.value J.start la kd nd sv vc pr sp ct = K 0 (nI (i + 1)) J'.place J'.sort J'.value J'.start la' kd' nd' sv' vc' pr' sp' ct' ∧ fX9_itemHere RM = some (s', tk, fr, to, va, (1 : Int32)) ∧ fr = J'.start) := by
  have hn := h.1
  have T : ¬ bI true = 0 := by decide
  have F : bI false = 0 := rfl
  have c1 : ¬ (200 : Int32) ≤ nI i := nI_ge (b := 200) hi (by omega)
  have c2 : ¬ J.sort = 0 := by rw [hR.2.1]; exact z_neL (b := 0) (c := 0) rfl hk0 (by have := hR.2.2.2.2.2.2.2.2.1; omega) (by omega)
  have n1 : ∀ v : Nat, v < 1000 → ¬ nI v = (-1 : Int32) := fun v hv x => by
    have := congrArg Int32.toInt x
    rw [z_ti (by omega), show ((-1 : Int32).toInt) = -1 by decide] at this
    omega
  obtain ⟨r, xk, mk, hr⟩ := nm_kind (RM := RM) (s := RM.s) (wr := RM.isWrong) h hR
  have mk' : fX9_kindHere RM = some r := mk
  rcases nm_law (RM := RM) (s := RM.s) (wr := RM.isWrong) h hR with ⟨xl, ml⟩ | ⟨l, hl, xl, ml⟩
  · -- no law
    have ml' : fX9_lawHere RM = some (-1) := ml
    obtain ⟨b, xp, mp⟩ := nm_4 (RM := RM) (s := RM.s) (wr := RM.isWrong) h hR 0 (by omega) rfl
    have mp' : fX9_isFour RM (112 : Int32) (97 : Int32) (105 : Int32) (114 : Int32) = some (bI b) := mp
    cases b with
    | true =>
      have r1 : r = -1 := by
        refine Decidable.byContradiction (fun hne => ?_)
        obtain ⟨i', a1, a2, a3⟩ := x_kindIs h hR xk hne
        exact x_excl h hR a1 a2 (j := 0) (by omega) (Or.inl rfl) a3 xp
      subst r1
      have EM : fX9_itemHere RM = ht_bn (fX9_pairHere RM) (fun o_13 => fX9_itemHere_b78 RM o_13.1 o_13.2.1 o_13.2.2.1 o_13.2.2.2.1 o_13.2.2.2.2.1 o_13.2.2.2.2.2) := by
        unfold fX9_itemHere
        rw [z_bn mk', z_bn ml', if_pos (by decide), if_pos (by decide), z_bn mp', if_neg T]
      rw [EM]
      have EX : ∀ (o1 o2 o3 o4 o5 : Int32) (o6 o7 : AI), fX5_readPair J RA (la, kd, nd, sv, vc, pr, sp, ct, RT.day, RT.heard, RT.geese, RT.z) = some (o1, o2, o3, o4, o5, o6, o7) → fX5_readTown_b13 RJ RA RT K 1 (nI i) J.place J.sort J.value J.start la kd nd sv vc pr sp ct = K o1 (nI (i + 1)) o2 o3 o4 o5 la kd nd sv vc o6 o7 ct := by
        intro o1 o2 o3 o4 o5 o6 o7 ho
        unfold fX5_readTown_b13 fX5_readTown_b72
        rw [if_neg c1, if_neg z_01, if_neg c2]
        refine Eq.trans (z_bn xl) ?_
        rw [if_pos rfl]
        refine Eq.trans (z_bn xp) ?_
        rw [if_neg T]
        refine Eq.trans (z_bn ho) ?_
        rw [z_nm, z_nm, nI_1]
      rcases t_pair h hR hk0 hw hI with ⟨J', pe, se, s', tk', fr', to', va', q', e', k', A', x1, m1, R1, lt, hI', hd⟩ | ⟨J', pe, se, s', tk', fr', to', va', x1, m1, hfr⟩
      · exact Or.inl ⟨J', la, kd, nd, sv, vc, pe, se, s', ct, tk', fr', to', va', q', e', k', A', EX _ _ _ _ _ _ _ x1, m1, R1, lt, hI', hd⟩
      · exact Or.inr ⟨J', la, kd, nd, sv, vc, pe, se, s', ct, tk', fr', to', va', EX _ _ _ _ _ _ _ x1, m1, hfr⟩
    | false =>
      have EX : ∀ (o1 o2 o3 o4 o5 : Int32) (a1 a2 a3 a4 a5 a6 : AI) (a7 : Int32), fX5_readPerson J RA (la, kd, nd, sv, vc, pr, sp, ct, RT.day, RT.heard, RT.geese, RT.z) = some (o1, o2, o3, o4, o5, a1, a2, a3, a4, a5, a6, a7) → fX5_readTown_b13 RJ RA RT K 1 (nI i) J.place J.sort J.value J.start la kd nd sv vc pr sp ct = K o1 (nI (i + 1)) o2 o3 o4 o5 la a1 a2 a3 a4 a5 a6 a7 := by
        intro o1 o2 o3 o4 o5 a1 a2 a3 a4 a5 a6 a7 ho
        unfold fX5_readTown_b13 fX5_readTown_b72
        rw [if_neg c1, if_neg z_01, if_neg c2]
        refine Eq.trans (z_bn xl) ?_
        rw [if_pos rfl]
        refine Eq.trans (z_bn xp) ?_
        rw [if_pos F]
        refine Eq.trans (z_bn ho) ?_
        rw [z_nm, z_nm, nI_1]
      rcases hr with rfl | ⟨kk, hkk, rfl⟩
      · refine Or.inr ⟨J, la, kd, nd, sv, vc, pr, sp, RM.s, ct, RM.token, RM.frm, RM.to, RM.value, EX 0 J.place J.sort J.value J.start kd nd sv vc pr sp ct ?_, ?_, hR.2.2.2.2.1.trans hR.2.2.1.symm⟩
        · unfold fX5_readPerson
          rw [z_bn xk, if_pos rfl]
        · have hnd : fX9_needs RM (0 : Int32) = some (RM.token, RM.frm, RM.to, RM.value, (1 : Int32)) := by
            unfold fX9_needs fX9_needs_b12 fX9_needs_b17
            rw [if_pos hw, if_pos rfl, z_gd z_b1, if_neg z_01]
          unfold fX9_itemHere
          rw [z_bn mk', z_bn ml', if_pos (by decide), if_pos (by decide), z_bn mp', if_pos F, z_bn hnd]
          exact m_semiW h hR
      · have EM : fX9_itemHere RM = ht_bn (fX9_personHere RM (nI kk)) (fun o_16 => fX9_itemHere_b78 RM o_16.1 o_16.2.1 o_16.2.2.1 o_16.2.2.2.1 o_16.2.2.2.2.1 o_16.2.2.2.2.2) := by
          unfold fX9_itemHere
          rw [z_bn mk', z_bn ml', if_neg (nI_pos (by omega))]
        rw [EM]
        rcases t_person h hR hk0 hw hkk xk hI with ⟨J', a1, a2, a3, a4, a5, a6, s', ct', tk', fr', to', va', q', e', k', A', x1, m1, R1, lt, hI', hd⟩ | ⟨J', a1, a2, a3, a4, a5, a6, s', ct', tk', fr', to', va', x1, m1, hfr⟩
        · exact Or.inl ⟨J', la, a1, a2, a3, a4, a5, a6, s', ct', tk', fr', to', va', q', e', k', A', EX _ _ _ _ _ _ _ _ _ _ _ _ x1, m1, R1, lt, hI', hd⟩
        · exact Or.inr ⟨J', la, a1, a2, a3, a4, a5, a6, s', ct', tk', fr', to', va', EX _ _ _ _ _ _ _ _ _ _ _ _ x1, m1, hfr⟩
  · -- a law
    have ml' : fX9_lawHere RM = some (nI (5 + l)) := ml
    have r1 : r = -1 := by
      refine Decidable.byContradiction (fun hne => ?_)
      obtain ⟨i', a1, a2, a3⟩ := x_kindIs h hR xk hne
      obtain ⟨j', b1, b2, b3⟩ := x_lawIs h hR xl (n1 l (by omega))
      exact x_excl h hR a1 a2 (j := j') (by omega) (Or.inr b1) a3 b3
    subst r1
    have EM : fX9_itemHere RM = ht_bn (fX9_nextToken RM) (fun o_14 => if nI (5 + l) = (8 : Int32) then (fX9_itemHere_b45 RM (nI (5 + l)) (99 : Int32) RM.s o_14.1 o_14.2.1 o_14.2.2.1 o_14.2.2.2 RM.isWrong) else (fX9_itemHere_b45 RM (nI (5 + l)) (9 : Int32) RM.s o_14.1 o_14.2.1 o_14.2.2.1 o_14.2.2.2 RM.isWrong)) := by
      unfold fX9_itemHere
      rw [z_bn mk', z_bn ml', if_pos (by decide), if_neg (nI_pos (by omega))]
    rw [EM]
    have EX : ∀ (o1 o2 o3 o4 o5 : Int32) (o6 : AI), fX5_readLaw J RA (la, kd, nd, sv, vc, pr, sp, ct, RT.day, RT.heard, RT.geese, RT.z) (nI l) = some (o1, o2, o3, o4, o5, o6) → fX5_readTown_b13 RJ RA RT K 1 (nI i) J.place J.sort J.value J.start la kd nd sv vc pr sp ct = K o1 (nI (i + 1)) o2 o3 o4 o5 o6 kd nd sv vc pr sp ct := by
      intro o1 o2 o3 o4 o5 o6 ho
      unfold fX5_readTown_b13 fX5_readTown_b72
      rw [if_neg c1, if_neg z_01, if_neg c2]
      refine Eq.trans (z_bn xl) ?_
      rw [if_neg (n1 l (by omega))]
      refine Eq.trans (z_bn ho) ?_
      rw [z_nm, z_nm, nI_1]
    rcases t_law h hR hk0 hw hl hI with ⟨J', la', s', tk', fr', to', va', q', e', k', A', x1, m1, R1, lt, hI', hd⟩ | ⟨J', la', s', tk', fr', to', va', x1, m1, hfr⟩
    · exact Or.inl ⟨J', la', kd, nd, sv, vc, pr, sp, s', ct, tk', fr', to', va', q', e', k', A', EX _ _ _ _ _ _ x1, m1, R1, lt, hI', hd⟩
    · exact Or.inr ⟨J', la', kd, nd, sv, vc, pr, sp, s', ct, tk', fr', to', va', EX _ _ _ _ _ _ x1, m1, hfr⟩
/-- sentence by sentence to the end, or to the fault -/
theorem t_told {RA : TapeV} {RM : ModV} {RT : TownV} {RJ : TellV} {c : Nat → Nat} {n : Nat} {bf : AI} (h : TPx RA RM c n) : ∀ (d i fuel fuel' : Nat) (J : TellV) (A : Tn) (la kd nd sv vc pr sp s : AI) (ct tk fr to va : Int32) (q e k : Nat), n ≤ q + d → i ≤ q → d + 1 < fuel → d + 1 < fuel' → RD n J tk fr to va q e k → TI A (la, kd, nd, sv, vc, pr, sp, ct, RT.day, RT.heard, RT.geese, RT.z) s → (∃ (J' : TellV) (la' kd' nd' sv' vc' pr' sp' s' : AI) (ct' tk' fr' to' va' : Int32) (A' : Tn), ht_lp14 (fX5_readTown_b13 RJ RA RT) fuel 1 (nI i) J.place J.sort J.value J.start la kd nd sv vc pr sp ct = some ((1 : Int32), J'.place, J'.sort, J'.value, J'.start, la', kd', nd', sv', vc', pr', sp', ct') ∧ ht_lp9 (fX9_town_b29 RM) fuel' s bf RM.taped tk fr to va 0 RM.rowN = fX9_town_b50 RM s' bf RM.taped tk' fr' to' va' 0 RM.rowN ∧ TI A' (la', kd', nd', sv', vc', pr', sp', ct', RT.day, RT.heard, RT.geese, RT.z) s' ∧ A'.day = A.day) ∨ (∃ (J' : TellV) (la' kd' nd' sv' vc' pr' sp' s' : AI) (ct' tk' fr' to' va' : Int32), ht_lp14 (fX5_readTown_b13 RJ RA RT) fuel 1 (nI i) J.place J.sort J.value J.start la kd nd sv vc pr sp ct = some ((0 : Int32), J'.place, J'.sort, J'.value, J'.start, la', kd', nd', sv', vc', pr', sp', ct') ∧ ht_lp9 (fX9_town_b29 RM) fuel' s bf RM.taped tk fr to va 0 RM.rowN = fX9_town_b50 RM s' bf RM.taped tk' fr' to' va' 1 RM.rowN ∧ fr' = J'.start) := by
  have hn := h.1
  intro d
  induction d with
  | zero =>
    intro i fuel fuel' J A la kd nd sv vc pr sp s ct tk fr to va q e k hq hiq hf hf' hR hI
    obtain ⟨f, rfl⟩ : ∃ f, fuel = f + 1 := ⟨fuel - 1, by omega⟩
    obtain ⟨f', rfl⟩ : ∃ f, fuel' = f + 1 := ⟨fuel' - 1, by omega⟩
    obtain ⟨r1, r2, r3, r4, r5, r6, r7, r8, r9, r10, r11⟩ := hR
    have hk : k = 0 := Decidable.byContradiction (fun x => by have := r10 x; omega)
    have j0 : J.sort = 0 := by rw [r2, hk]; rfl
    have t0 : tk = 0 := by rw [r4, hk]; rfl
    refine Or.inl ⟨J, la, kd, nd, sv, vc, pr, sp, s, ct, tk, fr, to, va, A, ?_, ?_, hI, rfl⟩
    · show fX5_readTown_b13 RJ RA RT (ht_lp14 (fX5_readTown_b13 RJ RA RT) f) 1 (nI i) J.place J.sort J.value J.start la kd nd sv vc pr sp ct = _
      unfold fX5_readTown_b13 fX5_readTown_b78
      rw [if_neg z_01, if_neg z_01, if_pos j0, if_pos j0]
      by_cases z : (200 : Int32) ≤ nI i
      · rw [if_pos z]
      · rw [if_neg z]
    · show fX9_town_b29 RM (ht_lp9 (fX9_town_b29 RM) f') s bf RM.taped tk fr to va 0 RM.rowN = _
      unfold fX9_town_b29
      rw [if_pos rfl, if_pos t0]
  | succ d ih =>
    intro i fuel fuel' J A la kd nd sv vc pr sp s ct tk fr to va q e k hq hiq hf hf' hR hI
    obtain ⟨f, rfl⟩ : ∃ f, fuel = f + 1 := ⟨fuel - 1, by omega⟩
    obtain ⟨f', rfl⟩ : ∃ f, fuel' = f + 1 := ⟨fuel' - 1, by omega⟩
    by_cases hk : k = 0
    · obtain ⟨r1, r2, r3, r4, r5, r6, r7, r8, r9, r10, r11⟩ := hR
      have j0 : J.sort = 0 := by rw [r2, hk]; rfl
      have t0 : tk = 0 := by rw [r4, hk]; rfl
      refine Or.inl ⟨J, la, kd, nd, sv, vc, pr, sp, s, ct, tk, fr, to, va, A, ?_, ?_, hI, rfl⟩
      · show fX5_readTown_b13 RJ RA RT (ht_lp14 (fX5_readTown_b13 RJ RA RT) f) 1 (nI i) J.place J.sort J.value J.start la kd nd sv vc pr sp ct = _
        unfold fX5_readTown_b13 fX5_readTown_b78
        rw [if_neg z_01, if_neg z_01, if_pos j0, if_pos j0]
        by_cases z : (200 : Int32) ≤ nI i
        · rw [if_pos z]
        · rw [if_neg z]
      · show fX9_town_b29 RM (ht_lp9 (fX9_town_b29 RM) f') s bf RM.taped tk fr to va 0 RM.rowN = _
        unfold fX9_town_b29
        rw [if_pos rfl, if_pos t0]
    · have hqe := hR.2.2.2.2.2.2.2.2.2.1 hk
      have hen := hR.2.2.2.2.2.2.2.1
      have hk3 := hR.2.2.2.2.2.2.2.2.1
      have t0 : ¬ tk = 0 := by rw [hR.2.2.2.1]; exact z_neL (b := 0) (c := 0) rfl hk (by omega) (by omega)
      have EM : ∀ (s' : AI) (tk' fr' to' va' wr : Int32), fX9_itemHere (s, RM.held, RM.aside, bf, RM.isHeld, RM.tape, RM.taped, tk, fr, to, va, (0 : Int32), RM.unpaired, RM.bestSound, RM.bestWay, RM.rows, RM.rowN, RM.sortOf, RM.sizeOf, RM.numbers, RM.holdsWhat, RM.holdsWhich, RM.holdsMany, RM.bodies, RM.ran, RM.actKind, RM.actN, RM.actA, RM.isParted) = some (s', tk', fr', to', va', wr) → ht_lp9 (fX9_town_b29 RM) (f' + 1) s bf RM.taped tk fr to va 0 RM.rowN = ht_lp9 (fX9_town_b29 RM) f' s' bf RM.taped tk' fr' to' va' wr RM.rowN := by
        intro s' tk' fr' to' va' wr ho
        show fX9_town_b29 RM (ht_lp9 (fX9_town_b29 RM) f') s bf RM.taped tk fr to va 0 RM.rowN = _
        generalize ht_lp9 (fX9_town_b29 RM) f' = K
        unfold fX9_town_b29
        rw [if_pos rfl, if_neg t0]
        exact z_bn ho
      rcases t_item (RM := (s, RM.held, RM.aside, bf, RM.isHeld, RM.tape, RM.taped, tk, fr, to, va, (0 : Int32), RM.unpaired, RM.bestSound, RM.bestWay, RM.rows, RM.rowN, RM.sortOf, RM.sizeOf, RM.numbers, RM.holdsWhat, RM.holdsWhich, RM.holdsMany, RM.bodies, RM.ran, RM.actKind, RM.actN, RM.actA, RM.isParted)) (RT := RT) (RJ := RJ) (i := i) h hR hk rfl (by omega) hI (ht_lp14 (fX5_readTown_b13 RJ RA RT) f) with ⟨J', la', kd', nd', sv', vc', pr', sp', s', ct', tk', fr', to', va', q', e', k', A', x1, m1, R1, lt, hI', hd⟩ | ⟨J', la', kd', nd', sv', vc', pr', sp', s', ct', tk', fr', to', va', x1, m1, hfr⟩
      · rcases ih (i + 1) f f' J' A' la' kd' nd' sv' vc' pr' sp' s' ct' tk' fr' to' va' q' e' k' (by omega) (by omega) (by omega) (by omega) R1 hI' with ⟨J2, la2, kd2, nd2, sv2, vc2, pr2, sp2, s2, ct2, tk2, fr2, to2, va2, A2, x2, m2, hI2, hd2⟩ | ⟨J2, la2, kd2, nd2, sv2, vc2, pr2, sp2, s2, ct2, tk2, fr2, to2, va2, x2, m2, hfr2⟩
        · exact Or.inl ⟨J2, la2, kd2, nd2, sv2, vc2, pr2, sp2, s2, ct2, tk2, fr2, to2, va2, A2, Eq.trans x1 x2, (EM _ _ _ _ _ _ m1).trans m2, hI2, hd2.trans hd⟩
        · exact Or.inr ⟨J2, la2, kd2, nd2, sv2, vc2, pr2, sp2, s2, ct2, tk2, fr2, to2, va2, Eq.trans x1 x2, (EM _ _ _ _ _ _ m1).trans m2, hfr2⟩
      · obtain ⟨g, rfl⟩ : ∃ g, f = g + 1 := ⟨f - 1, by omega⟩
        obtain ⟨g', rfl⟩ : ∃ g, f' = g + 1 := ⟨f' - 1, by omega⟩
        refine Or.inr ⟨J', la', kd', nd', sv', vc', pr', sp', s', ct', tk', fr', to', va', Eq.trans x1 ?_, (EM _ _ _ _ _ _ m1).trans ?_, hfr⟩
        · show fX5_readTown_b13 RJ RA RT (ht_lp14 (fX5_readTown_b13 RJ RA RT) g) 0 (nI (i + 1)) J'.place J'.sort J'.value J'.start la' kd' nd' sv' vc' pr' sp' ct' = _
          unfold fX5_readTown_b13 fX5_readTown_b78
          rw [if_pos rfl, if_pos rfl]
          by_cases z : (200 : Int32) ≤ nI (i + 1)
          · rw [if_pos z]
          · rw [if_neg z]
        · show fX9_town_b29 RM (ht_lp9 (fX9_town_b29 RM) g') s' bf RM.taped tk' fr' to' va' 1 RM.rowN = _
          unfold fX9_town_b29
          rw [if_neg z_01]
/-- the laws as at first, nobody, day 0 -/
def A00 (z : Int32) : Tn := (0, fun i => if i = 0 then 2 else if i = 1 then 1 else if i = 2 then 3 else 20, fun _ => 0, fun _ => 0, fun _ => 0, fun _ => 0, fun _ => 0, fun _ => 0, 0, 0, 0, z)
theorem A00_W (z : Int32) : WR (A00 z) ∧ WA (A00 z) ∧ WP (A00 z) := by
  refine ⟨⟨by show 0 ≤ 8; omega, by show (2 : Nat) ≤ 9; omega, by show (1 : Nat) ≤ 9; omega, by show (3 : Nat) ≤ 9; omega, by show (20 : Nat) ≤ 99; omega, by show 0 < 1000000; omega, by show 0 ≤ 99999; omega, by show 0 ≤ 99999; omega, fun i hi => absurd hi (Nat.not_lt_zero i)⟩, fun i hi => absurd hi (Nat.not_lt_zero i), fun i hi => absurd hi (Nat.not_lt_zero i)⟩
theorem x_first {T : TownV} : ∃ la, fX6_setFirstLaws T = some la ∧ ∀ i, i < 4 → la i = nI (if i = 0 then 2 else if i = 1 then 1 else if i = 2 then 3 else 20) := by
  refine ⟨upd (upd (upd (upd T.laws 0 2) 1 1) 2 3) 3 20, rfl, fun i hi => ?_⟩
  have : i = 0 ∨ i = 1 ∨ i = 2 ∨ i = 3 := by omega
  rcases this with rfl | rfl | rfl | rfl
  · rw [pk_un (by omega), pk_un (by omega), pk_un (by omega), pk_us]; rfl
  · rw [pk_un (by omega), pk_un (by omega), pk_us]; rfl
  · rw [pk_un (by omega), pk_us]; rfl
  · rw [pk_us]; rfl
theorem m_beginsN {RM : ModV} {x : Int32} : ∀ (d k fuel : Nat) (s : AI), k + d = 57 → d < fuel → (∀ j, j < k → s j = 0) → ∃ s', ht_lp3 (fX9_begins_b9 RM) fuel x (nI k) s = fX9_begins_b28 RM x s' ∧ ∀ j, j < 57 → s' j = 0 := by
  intro d
  induction d with
  | zero =>
    intro k fuel s hk hf hs
    obtain ⟨f, rfl⟩ : ∃ f, fuel = f + 1 := ⟨fuel - 1, by omega⟩
    refine ⟨s, ?_, fun j hj => hs j (by omega)⟩
    show fX9_begins_b9 RM (ht_lp3 (fX9_begins_b9 RM) f) x (nI k) s = _
    unfold fX9_begins_b9
    rw [if_pos (show (57 : Int32) ≤ nI k from nI_le (a := 57) (by omega) (by omega))]
  | succ d ih =>
    intro k fuel s hk hf hs
    obtain ⟨f, rfl⟩ : ∃ f, fuel = f + 1 := ⟨fuel - 1, by omega⟩
    obtain ⟨s2, e2, h2⟩ := ih (k + 1) f (upd s k 0) (by omega) (by omega) (fun j hj => by
      by_cases e : j = k
      · subst e; exact pk_us
      · rw [pk_un e]; exact hs j (by omega))
    refine ⟨s2, Eq.trans ?_ e2, h2⟩
    have g : ht_ix (nI k) 57 = true := z_ix (by omega) (by omega)
    show fX9_begins_b9 RM (ht_lp3 (fX9_begins_b9 RM) f) x (nI k) s = _
    generalize ht_lp3 (fX9_begins_b9 RM) f = K
    unfold fX9_begins_b9
    rw [if_neg (show ¬ (57 : Int32) ≤ nI k from nI_ge (b := 57) (by omega) (by omega)), z_gd g, z_nm, z_nm, nI_1, z_cl (by omega)]
theorem m_begins {RM : ModV} : ∃ s', fX9_begins RM = some s' ∧ TM (A00 (RM.s 2)) s' := by
  obtain ⟨s1, e1, h1⟩ := m_beginsN (RM := RM) (x := RM.s 2) 57 0 FU RM.s (by omega) (by decide) (fun j hj => absurd hj (by omega))
  refine ⟨upd (upd (upd (upd (upd s1 2 (RM.s 2)) 5 2) 6 1) 7 3) 8 20, ?_, ?_⟩
  · unfold fX9_begins
    rw [z_gd (show ht_ix (2 : Int32) 57 = true by decide), z_nm]
    exact Eq.trans e1 rfl
  · refine ⟨?_, ?_, ?_, ?_, ?_, fun i hi => ?_, fun i hi => absurd hi (Nat.not_lt_zero i), fun i hi => absurd hi (Nat.not_lt_zero i), fun i hi => absurd hi (Nat.not_lt_zero i), fun i hi => absurd hi (Nat.not_lt_zero i), fun i hi => absurd hi (Nat.not_lt_zero i), fun i hi => absurd hi (Nat.not_lt_zero i)⟩
    · rw [pk_un (by omega), pk_un (by omega), pk_un (by omega), pk_un (by omega), pk_un (by omega), h1 0 (by omega)]; rfl
    · rw [pk_un (by omega), pk_un (by omega), pk_un (by omega), pk_un (by omega), pk_un (by omega), h1 1 (by omega)]; rfl
    · rw [pk_un (by omega), pk_un (by omega), pk_un (by omega), pk_un (by omega), pk_un (by omega), h1 3 (by omega)]; rfl
    · rw [pk_un (by omega), pk_un (by omega), pk_un (by omega), pk_un (by omega), pk_un (by omega), h1 4 (by omega)]; rfl
    · rw [pk_un (by omega), pk_un (by omega), pk_un (by omega), pk_un (by omega), pk_us]; rfl
    · have : i = 0 ∨ i = 1 ∨ i = 2 ∨ i = 3 := by omega
      rcases this with rfl | rfl | rfl | rfl
      · rw [pk_un (by omega), pk_un (by omega), pk_un (by omega), pk_us]; rfl
      · rw [pk_un (by omega), pk_un (by omega), pk_us]; rfl
      · rw [pk_un (by omega), pk_us]; rfl
      · rw [pk_us]; rfl
theorem o_town {RX : HTV} {RJ : TellV} {RA : TapeV} {RR : DayV} {A : Tn} {T U : TownV} {RM : ModV} (hI : TI A T RM.s) (ht : TP RA RM) : ∃ (r j1 j2 j3 j4 rc : Int32) (T' U' : TownV) (s' b' : AI) (tk fr to va wr rn : Int32) (A' : Tn), fX8_town RX RJ RA T U RR = some (r, j1, j2, j3, j4, (0 : Int32), T'.laws, T'.kind, T'.need, T'.saved, T'.voice, T'.partner, T'.speaks, T'.count, T'.day, T'.heard, T'.geese, T'.z, U'.laws, U'.kind, U'.need, U'.saved, U'.voice, U'.partner, U'.speaks, U'.count, U'.day, U'.heard, U'.geese, U'.z, rc) ∧ fX9_town RM = some (r, s', b', (0 : Int32), tk, fr, to, va, wr, rn) ∧ TI A' T' s' ∧ A'.day ≤ A.day ∧ ((rc = RR.count ∧ rn = RM.rowN) ∨ (rc = 0 ∧ rn = 0)) := by
  have hI0 := hI
  obtain ⟨hT, hM, hR, hA, hP⟩ := hI
  obtain ⟨n, c, hn, l1, l2, l3⟩ := ht
  obtain ⟨bf, eb, hb⟩ := m_copyRow RM.s RM.before
  obtain ⟨la, el, hla⟩ := x_first (T := U)
  obtain ⟨s0, e0, hM0⟩ := m_begins (RM := (RM.s, RM.held, RM.aside, bf, RM.isHeld, RM.tape, RM.taped, RM.token, RM.frm, RM.to, RM.value, RM.isWrong, RM.unpaired, RM.bestSound, RM.bestWay, RM.rows, RM.rowN, RM.sortOf, RM.sizeOf, RM.numbers, RM.holdsWhat, RM.holdsWhich, RM.holdsMany, RM.bodies, RM.ran, RM.actKind, RM.actN, RM.actA, RM.isParted))
  have hz : T.z = RM.s 2 := hT.2.2.2.2.1.trans hM.2.2.2.2.1.symm
  have hTX0 : TX (A00 (RM.s 2)) (la, U.kind, U.need, U.saved, U.voice, U.partner, U.speaks, (0 : Int32), (0 : Int32), (0 : Int32), (0 : Int32), T.z) := ⟨rfl, rfl, rfl, rfl, hz, hla, fun i hi => absurd hi (Nat.not_lt_zero i), fun i hi => absurd hi (Nat.not_lt_zero i), fun i hi => absurd hi (Nat.not_lt_zero i), fun i hi => absurd hi (Nat.not_lt_zero i), fun i hi => absurd hi (Nat.not_lt_zero i), fun i hi => absurd hi (Nat.not_lt_zero i)⟩
  have hW := A00_W (RM.s 2)
  have hTI0 : TI (A00 (RM.s 2)) (la, U.kind, U.need, U.saved, U.voice, U.partner, U.speaks, (0 : Int32), (0 : Int32), (0 : Int32), (0 : Int32), T.z) s0 := ⟨hTX0, hM0, hW.1, hW.2.1, hW.2.2⟩
  have hpx : TPx RA RM c n := ⟨hn, l1, l2, l3⟩
  obtain ⟨J1, tk1, fr1, to1, va1, q1, e1, k1, x1, m1, R1, -⟩ := t_ahead (J := ((0 : Int32), RJ.sort, RJ.value, RJ.start)) (RM := (s0, RM.held, RM.aside, bf, RM.isHeld, RM.tape, RM.taped, RM.token, RM.frm, (0 : Int32), RM.value, (0 : Int32), RM.unpaired, RM.bestSound, RM.bestWay, RM.rows, RM.rowN, RM.sortOf, RM.sizeOf, RM.numbers, RM.holdsWhat, RM.holdsWhich, RM.holdsMany, RM.bodies, RM.ran, RM.actKind, RM.actN, RM.actA, RM.isParted)) (p := 0) hpx (Nat.zero_le n) rfl rfl
  have EM : fX9_town RM = ht_lp9 (fX9_town_b29 RM) FU s0 bf RM.taped tk1 fr1 to1 va1 (0 : Int32) RM.rowN := by
    unfold fX9_town
    rw [z_bn eb]
    refine Eq.trans (z_bn e0) ?_
    exact z_bn m1
  have EX : ∀ (o1 o2 o3 o4 o5 : Int32) (a0 a1 a2 a3 a4 a5 a6 : AI) (a7 : Int32), ht_lp14 (fX5_readTown_b13 RJ RA (la, U.kind, U.need, U.saved, U.voice, U.partner, U.speaks, (0 : Int32), (0 : Int32), (0 : Int32), (0 : Int32), T.z)) FU (1 : Int32) (nI 0) J1.place J1.sort J1.value J1.start la U.kind U.need U.saved U.voice U.partner U.speaks (0 : Int32) = some (o1, o2, o3, o4, o5, a0, a1, a2, a3, a4, a5, a6, a7) → fX8_town RX RJ RA T U RR = (if o1 = 0 then (some (((-100 : Int32) - o5), o2, o3, o4, o5, (0 : Int32), T.laws, T.kind, T.need, T.saved, T.voice, T.partner, T.speaks, T.count, T.day, T.heard, T.geese, T.z, a0, a1, a2, a3, a4, a5, a6, a7, (0 : Int32), (0 : Int32), (0 : Int32), T.z, RR.count)) else (ht_bn (fX6_copyFrom T (a0, a1, a2, a3, a4, a5, a6, a7, (0 : Int32), (0 : Int32), (0 : Int32), T.z)) (fun o_6 => some (o_6.2.2.2.2.2.2.2.1, o2, o3, o4, o5, (0 : Int32), o_6.1, o_6.2.1, o_6.2.2.1, o_6.2.2.2.1, o_6.2.2.2.2.1, o_6.2.2.2.2.2.1, o_6.2.2.2.2.2.2.1, o_6.2.2.2.2.2.2.2.1, o_6.2.2.2.2.2.2.2.2.1, o_6.2.2.2.2.2.2.2.2.2.1, o_6.2.2.2.2.2.2.2.2.2.2.1, o_6.2.2.2.2.2.2.2.2.2.2.2, a0, a1, a2, a3, a4, a5, a6, a7, (0 : Int32), (0 : Int32), (0 : Int32), T.z, (0 : Int32))))) := by
    intro o1 o2 o3 o4 o5 a0 a1 a2 a3 a4 a5 a6 a7 ho
    have hA' : fX6_beginAnew U = some (la, (0 : Int32), (0 : Int32), (0 : Int32), (0 : Int32)) := by
      unfold fX6_beginAnew; rw [z_bn el]
    have hT' : fX5_readTown RJ RA (la, U.kind, U.need, U.saved, U.voice, U.partner, U.speaks, (0 : Int32), (0 : Int32), (0 : Int32), (0 : Int32), T.z) = some (o1, o2, o3, o4, o5, a0, a1, a2, a3, a4, a5, a6, a7) := by
      unfold fX5_readTown
      refine Eq.trans (z_bn x1) ?_
      exact ho
    unfold fX8_town
    rw [z_bn hA', z_nm]
    refine Eq.trans (z_bn hT') ?_
    rw [z_nm]
  rcases t_told (RA := RA) (RM := RM) (RT := (la, U.kind, U.need, U.saved, U.voice, U.partner, U.speaks, (0 : Int32), (0 : Int32), (0 : Int32), (0 : Int32), T.z)) (RJ := RJ) (bf := bf) hpx n 0 FU FU J1 (A00 (RM.s 2)) la U.kind U.need U.saved U.voice U.partner U.speaks s0 (0 : Int32) tk1 fr1 to1 va1 q1 e1 k1 (by omega) (Nat.zero_le _) (by show n + 1 < 300; omega) (by show n + 1 < 300; omega) R1 hTI0 with ⟨J2, la2, kd2, nd2, sv2, vc2, pr2, sp2, s2, ct2, tk2, fr2, to2, va2, A2, x2, m2, hI2, hd2⟩ | ⟨J2, la2, kd2, nd2, sv2, vc2, pr2, sp2, s2, ct2, tk2, fr2, to2, va2, x2, m2, hfr2⟩
  · obtain ⟨hT2, hM2, hR2, hA2, hP2⟩ := hI2
    obtain ⟨T', ec, hTc⟩ := x_copyFrom (T := T) hT2 hR2
    have g0 : ht_ix (0 : Int32) 57 = true := by decide
    have hs2 : s2 ((0 : Int32).toNatClampNeg) = nI A2.n := hM2.1
    have hct : T'.count = nI A2.n := hTc.1
    refine ⟨nI A2.n, J2.place, J2.sort, J2.value, J2.start, 0, T', (la2, kd2, nd2, sv2, vc2, pr2, sp2, ct2, (0 : Int32), (0 : Int32), (0 : Int32), T.z), s2, bf, tk2, fr2, to2, va2, 0, 0, A2, ?_, ?_, ⟨hTc, hM2, hR2, hA2, hP2⟩, ?_, Or.inr ⟨rfl, rfl⟩⟩
    · rw [EX _ _ _ _ _ _ _ _ _ _ _ _ _ x2, if_neg z_01]
      refine Eq.trans (z_bn ec) ?_
      rw [← hct]
    · rw [EM, m2]
      unfold fX9_town_b50
      rw [if_pos rfl, z_gd g0, hs2]
    · rw [hd2]; exact Nat.zero_le _
  · obtain ⟨s3, e3, h3⟩ := m_copyRow bf s2
    refine ⟨(-100 : Int32) - J2.start, J2.place, J2.sort, J2.value, J2.start, RR.count, T, (la2, kd2, nd2, sv2, vc2, pr2, sp2, ct2, (0 : Int32), (0 : Int32), (0 : Int32), T.z), s3, bf, tk2, fr2, to2, va2, 1, RM.rowN, A, ?_, ?_, TI.same hI0 (fun j hj => (h3 j hj).trans (hb j hj)), Nat.le_refl _, Or.inl ⟨rfl, rfl⟩⟩
    · rw [EX _ _ _ _ _ _ _ _ _ _ _ _ _ x2, if_pos rfl]
    · rw [EM, m2]
      unfold fX9_town_b50
      rw [if_neg z_01, z_bn e3, hfr2]
