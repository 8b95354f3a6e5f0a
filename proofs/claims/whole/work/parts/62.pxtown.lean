/-! ===== the class' town keeps to the plain numbers ===== -/
theorem z_lit (n : Nat) : (OfNat.ofNat n : Int32) = nI n := rfl
theorem x_grows {A : Tn} {T : TownV} (hT : TX A T) (hR : WR A) {i : Nat} (hi : i < A.n) : fX6_growsOf T (nI i) = some (nI (aUp A i) - nI (aDn A i)) := by
  obtain ⟨hn, hd, hh, hg, hz, hl, hk, hne, hsa, hv, hp, hs⟩ := hT
  obtain ⟨r1, r2, r3, r4, r5, r6, r7, r8, r9⟩ := hR
  obtain ⟨q1, q2, q3, q4, q5, q6⟩ := r9 i hi
  have l0 := hl 0 (by omega); have l2 := hl 2 (by omega)
  have e0 : ((0 : Int32).toNatClampNeg) = 0 := rfl
  have e2 : ((2 : Int32).toNatClampNeg) = 2 := rfl
  have ei : (nI i).toNatClampNeg = i := z_cl (by omega)
  have g : ht_ix (nI i) 8 = true := z_ix (by omega) (by omega)
  have g0 : ht_ix (0 : Int32) 4 = true := by decide
  have g2 : ht_ix (2 : Int32) 4 = true := by decide
  have d2 : nI (A.law 2) / (2 : Int32) = nI (A.law 2 / 2) := z_div (d := 2) (by omega) (by omega) (by omega)
  unfold fX6_growsOf
  simp only [g, g0, g2, ht_gd, ht_nm, e0, e2, ei, l0, l2, hk i hi, hv i hi, d2]
  unfold aUp aDn
  rcases z_six q1 with h | h | h | h | h | h <;> rw [h]
  · exact congrArg some (z_sub0 _).symm
  · exact congrArg some ((z_add (A.law 2) 1).trans (z_sub0 _).symm)
  · exact congrArg some (z_sub0 _).symm
  · exact congrArg some (((congrArg (· + nI (A.law 0)) (z_add (A.law 2) 1)).trans (z_add _ _)).trans (z_sub0 _).symm)
  · rfl
  · exact congrArg some ((z_add (A.law 2) (A.vc i)).trans (z_sub0 _).symm)
theorem x_saves {A : Tn} {T : TownV} (hT : TX A T) (hR : WR A) {i : Nat} (hi : i < A.n) : fX6_savesOf T (nI i) = some (nI (aSvs A i)) := by
  obtain ⟨hn, hd, hh, hg, hz, hl, hk, hne, hsa, hv, hp, hs⟩ := hT
  obtain ⟨r1, r2, r3, r4, r5, r6, r7, r8, r9⟩ := hR
  obtain ⟨q1, q2, q3, q4, q5, q6⟩ := r9 i hi
  have l1 := hl 1 (by omega)
  have e1 : ((1 : Int32).toNatClampNeg) = 1 := rfl
  have ei : (nI i).toNatClampNeg = i := z_cl (by omega)
  have g : ht_ix (nI i) 8 = true := z_ix (by omega) (by omega)
  have g1 : ht_ix (1 : Int32) 4 = true := by decide
  have d7 : nI A.day - nI A.day / (7 : Int32) * (7 : Int32) = nI (A.day % 7) := z_rem (d := 7) (by omega) (by omega) (by omega)
  unfold fX6_savesOf
  simp only [g, g1, ht_gd, ht_nm, e1, ei, l1, hk i hi, hd, d7]
  unfold aSvs
  rcases z_six q1 with h | h | h | h | h | h <;> rw [h]
  · rfl
  · rfl
  · exact congrArg some (z_add 1 (A.law 1))
  · rfl
  · exact congrArg some ((congrArg ((3 : Int32) * ·) (z_add 1 (A.law 1))).trans (z_mul 3 _))
  · show (if nI (A.day % 7) = 0 then some (1 : Int32) else some (0 : Int32)) = some (nI (if A.day % 7 = 0 then 1 else 0))
    by_cases hd2 : A.day % 7 = 0
    · rw [if_pos hd2, hd2]; rfl
    · rw [if_neg hd2, if_neg (z_neL (b := 0) (c := 0) rfl hd2 (by omega) (by omega))]; rfl
theorem x_says {A : Tn} {T : TownV} (hT : TX A T) (hR : WR A) {i : Nat} (hi : i < A.n) : fX6_saysOf T (nI i) = some (nI (aSays A i)) := by
  obtain ⟨hn, hd, hh, hg, hz, hl, hk, hne, hsa, hv, hp, hs⟩ := hT
  obtain ⟨r1, r2, r3, r4, r5, r6, r7, r8, r9⟩ := hR
  obtain ⟨q1, q2, q3, q4, q5, q6⟩ := r9 i hi
  have l0 := hl 0 (by omega); have l1 := hl 1 (by omega)
  have e0 : ((0 : Int32).toNatClampNeg) = 0 := rfl
  have e1 : ((1 : Int32).toNatClampNeg) = 1 := rfl
  have ei : (nI i).toNatClampNeg = i := z_cl (by omega)
  have g : ht_ix (nI i) 8 = true := z_ix (by omega) (by omega)
  have g0 : ht_ix (0 : Int32) 4 = true := by decide
  have g1 : ht_ix (1 : Int32) 4 = true := by decide
  have d2 : nI A.day - nI A.day / (2 : Int32) * (2 : Int32) = nI (A.day % 2) := z_rem (d := 2) (by omega) (by omega) (by omega)
  have d10 : nI (A.sv i) / (10 : Int32) = nI (A.sv i / 10) := z_div (d := 10) (by omega) (by omega) (by omega)
  have m0 := z_max0 (a := A.vc i) (b := A.law 1) (by omega) (by omega)
  unfold fX6_saysOf
  simp only [g, g0, g1, ht_gd, ht_nm, e0, e1, ei, l0, l1, hk i hi, hv i hi, hsa i hi, hd, d2, d10, m0]
  unfold aSays
  rcases z_six q1 with h | h | h | h | h | h <;> rw [h]
  · rfl
  · exact congrArg some (z_add _ _)
  · rfl
  · exact congrArg some ((congrArg ((2 : Int32) * ·) (z_add _ _)).trans (z_mul 2 _))
  · exact congrArg some (z_add _ _)
  · show (if nI (A.day % 2) = 0 then some (nI (A.vc i)) else some (1 : Int32)) = some (nI (if A.day % 2 = 0 then A.vc i else 1))
    by_cases hd2 : A.day % 2 = 0
    · rw [if_pos hd2, hd2]; rfl
    · rw [if_neg hd2, if_neg (z_neL (b := 0) (c := 0) rfl hd2 (by omega) (by omega))]; rfl
theorem x_grow1 {A : Tn} {T : TownV} {k : Nat} {K : Int32 → AI → Int32 → Option (AI × Int32)} {need : AI} {gs : Int32} (hT : TX A (T.laws, T.kind, need, T.saved, T.voice, T.partner, T.speaks, T.count, T.day, T.heard, gs, T.z)) (hR : WR A) (hk : k < A.n) : ∃ need' gs', fX6_growAll_b2 T K (nI k) need gs = K (nI (k + 1)) need' gs' ∧ TX (grow1 A k) (T.laws, T.kind, need', T.saved, T.voice, T.partner, T.speaks, T.count, T.day, T.heard, gs', T.z) := by
  have hg := x_grows hT hR hk
  have h8 := hR.1
  have q := hR.2.2.2.2.2.2.2.2 k hk
  have u1 := aUp_le hR hk
  have u2 := aDn_le A k
  have r8 := hR.2.2.2.2.2.2.2.1
  obtain ⟨hn, hd, hh, hgs, hz, hl, hkd, hne, hsa, hv, hp, hs⟩ := hT
  have ei : (nI k).toNatClampNeg = k := z_cl (by omega)
  have g : ht_ix (nI k) 8 = true := z_ix (by omega) (by omega)
  have hc : ¬ T.count ≤ nI k := by rw [show T.count = nI A.n from hn, z_le (by omega) (by omega)]; omega
  have hneed : need k = nI (A.nd k) := hne k hk
  have hgs' : gs = nI A.gs := hgs
  have m1 : (if (0 : Int32) < need k + (nI (aUp A k) - nI (aDn A k)) then need k + (nI (aUp A k) - nI (aDn A k)) else (0 : Int32)) = nI (gN A k) := by rw [hneed]; exact z_growM (by omega) (by omega) (by omega)
  have hgN : gN A k ≤ 118 := by unfold gN; omega
  have m2 : (if (0 : Int32) < nI (gN A k) - (99 : Int32) then nI (gN A k) - (99 : Int32) else (0 : Int32)) = nI (gN A k - 99) := z_max0 (a := gN A k) (b := 99) (by omega) (by omega)
  have m3 : nI (gN A k) - nI (gN A k - 99) = nI (min 99 (gN A k)) := by rw [z_sub (by omega)]; congr 1; omega
  have m4 : (if gs + nI (gN A k - 99) < (99999 : Int32) then gs + nI (gN A k - 99) else (99999 : Int32)) = nI (min 99999 (A.gs + (gN A k - 99))) := by
    rw [hgs', z_add, Nat.min_comm]; exact z_min (b := 99999) (by omega) (by omega)
  have m5 : nI k + (1 : Int32) = nI (k + 1) := nI_1 k
  refine ⟨upd need k (nI (min 99 (gN A k))), nI (min 99999 (A.gs + (gN A k - 99))), ?_, ?_⟩
  · unfold fX6_growAll_b2
    rw [if_neg hc, z_gd g, z_bn hg]
    simp only [ht_nm, ei, m1, m2, m3, m4, m5, g, ht_gd]
  · exact ⟨hn, hd, hh, rfl, hz, hl, hkd, up_all hne rfl, hsa, hv, hp, hs⟩
theorem x_growN {A : Tn} {T : TownV} (hR : WR A) (hc : T.count = nI A.n) : ∀ (d k fuel : Nat) (need : AI) (gs : Int32), k + d = A.n → d < fuel → TX (growN A k) (T.laws, T.kind, need, T.saved, T.voice, T.partner, T.speaks, T.count, T.day, T.heard, gs, T.z) → ∃ need' gs', ht_lp3 (fX6_growAll_b2 T) fuel (nI k) need gs = some (need', gs') ∧ TX (growN A A.n) (T.laws, T.kind, need', T.saved, T.voice, T.partner, T.speaks, T.count, T.day, T.heard, gs', T.z) := by
  have h8 := hR.1
  intro d
  induction d with
  | zero =>
    intro k fuel need gs hk hf hT
    obtain ⟨f, rfl⟩ : ∃ f, fuel = f + 1 := ⟨fuel - 1, by omega⟩
    refine ⟨need, gs, ?_, ?_⟩
    · show fX6_growAll_b2 T (ht_lp3 (fX6_growAll_b2 T) f) (nI k) need gs = some (need, gs)
      unfold fX6_growAll_b2
      rw [if_pos (by rw [hc, z_le (by omega) (by omega)]; omega)]
    · rw [show A.n = k by omega]; exact hT
  | succ d ih =>
    intro k fuel need gs hk hf hT
    obtain ⟨f, rfl⟩ : ∃ f, fuel = f + 1 := ⟨fuel - 1, by omega⟩
    obtain ⟨n1, g1, e1, h1⟩ := x_grow1 (K := ht_lp3 (fX6_growAll_b2 T) f) hT (growN_R hR k (by omega)) (k := k) (by rw [(growN_F A k).1]; omega)
    obtain ⟨n2, g2, e2, h2⟩ := ih (k + 1) f n1 g1 (by omega) (by omega) h1
    exact ⟨n2, g2, (show fX6_growAll_b2 T (ht_lp3 (fX6_growAll_b2 T) f) (nI k) need gs = _ from e1).trans e2, h2⟩
theorem x_growAll {A : Tn} {T : TownV} (hT : TX A T) (hR : WR A) : ∃ need' gs', fX6_growAll T = some (need', gs') ∧ TX (dGr A) (T.laws, T.kind, need', T.saved, T.voice, T.partner, T.speaks, T.count, T.day, T.heard, gs', T.z) := by
  have h8 := hR.1
  exact x_growN hR hT.1 A.n 0 FU T.need T.geese (by omega) (by show A.n < 300; omega) hT
theorem x_hasP {T : TownV} {n p : Nat} (hc : T.count = nI n) (hn : n ≤ 8) (hp : p ≤ n) : fX6_has T (nI p - 1) = some (if p = 0 then 0 else 1) := by
  unfold fX6_has
  cases p with
  | zero => rw [if_pos (by decide), if_pos rfl]
  | succ q =>
    rw [nI_pred, if_neg (nI_pos (by omega)), hc, if_neg (by rw [z_le (by omega) (by omega)]; omega), if_neg (by omega)]
theorem x_say122 {T : TownV} {K : Int32 → Int32 → AI → Option (Int32 × AI)} {x1 : Int32} {k : Nat} {need : AI} : fX6_sayAll_b122 T K x1 (nI k) need = K x1 (nI (k + 1)) need := by
  unfold fX6_sayAll_b122
  rw [z_nm, nI_1]
theorem x_say51 {A : Tn} {T : TownV} {K : Int32 → Int32 → AI → Option (Int32 × AI)} {k sd may : Nat} {need : AI} (hc : T.count = nI A.n) (hne : ∀ i, i < A.n → need i = nI (A.nd i)) (hR : WR A) (hk : k < A.n) (hm : may ≤ 72) (hsd : sd ≤ 10000) (hp0 : A.pr k = 0) : fX6_sayAll_b51 T K (nI sd) (nI k) (nI (A.pr k) - 1) (nI may) need = K (nI (sd + min may (A.nd k))) (nI (k + 1)) (upd need k (nI (A.nd k - min may (A.nd k)))) := by
  have h8 := hR.1
  have q := hR.2.2.2.2.2.2.2.2 k hk
  have ei : (nI k).toNatClampNeg = k := z_cl (by omega)
  have g : ht_ix (nI k) 8 = true := z_ix (by omega) (by omega)
  have m1 : (if nI (A.nd k) < nI may then nI (A.nd k) else nI may) = nI (min may (A.nd k)) := by rw [Nat.min_comm]; exact z_min (by omega) (by omega)
  have m2 : nI (A.nd k) - nI (min may (A.nd k)) = nI (A.nd k - min may (A.nd k)) := z_sub (Nat.min_le_right _ _)
  unfold fX6_sayAll_b51
  simp only [g, ht_gd, ht_nm, ei, hne k hk, m1, m2, z_add]
  rw [z_bn (x_hasP (T := (T.laws, T.kind, upd need k (nI (A.nd k - min may (A.nd k))), T.saved, T.voice, T.partner, T.speaks, T.count, T.day, T.heard, T.geese, T.z)) (n := A.n) hc h8 q.2.2.2.2.2), hp0, if_pos rfl, if_pos rfl]
  exact x_say122
theorem x_say51p {A : Tn} {T : TownV} {K : Int32 → Int32 → AI → Option (Int32 × AI)} {k sd may : Nat} {need : AI} (hc : T.count = nI A.n) (hne : ∀ i, i < A.n → need i = nI (A.nd i)) (hR : WR A) (hk : k < A.n) (hm : may ≤ 72) (hsd : sd ≤ 10000) (hp0 : ¬ A.pr k = 0) : fX6_sayAll_b51 T K (nI sd) (nI k) (nI (A.pr k) - 1) (nI may) need = K (nI (sd + min may (A.nd k) + min (may - min may (A.nd k)) (va_up A.nd k (A.nd k - min may (A.nd k)) (A.pr k - 1)))) (nI (k + 1)) (upd (upd need k (nI (A.nd k - min may (A.nd k)))) (A.pr k - 1) (nI (va_up A.nd k (A.nd k - min may (A.nd k)) (A.pr k - 1) - min (may - min may (A.nd k)) (va_up A.nd k (A.nd k - min may (A.nd k)) (A.pr k - 1))))) := by
  have h8 := hR.1
  have q := hR.2.2.2.2.2.2.2.2 k hk
  have ei : (nI k).toNatClampNeg = k := z_cl (by omega)
  have g : ht_ix (nI k) 8 = true := z_ix (by omega) (by omega)
  have ho : A.pr k - 1 < A.n := by omega
  have qo := hR.2.2.2.2.2.2.2.2 _ ho
  have eo : (nI (A.pr k - 1)).toNatClampNeg = A.pr k - 1 := z_cl (by omega)
  have go : ht_ix (nI (A.pr k - 1)) 8 = true := z_ix (by omega) (by omega)
  have ep : nI (A.pr k) - 1 = nI (A.pr k - 1) := z_sub (b := 1) (by omega)
  have m1 : (if nI (A.nd k) < nI may then nI (A.nd k) else nI may) = nI (min may (A.nd k)) := by rw [Nat.min_comm]; exact z_min (by omega) (by omega)
  have m2 : nI (A.nd k) - nI (min may (A.nd k)) = nI (A.nd k - min may (A.nd k)) := z_sub (Nat.min_le_right _ _)
  have m3 : nI may - nI (min may (A.nd k)) = nI (may - min may (A.nd k)) := z_sub (Nat.min_le_left _ _)
  have hnd := up_all (k := k) (v := A.nd k - min may (A.nd k)) hne rfl _ ho
  generalize hW : va_up A.nd k (A.nd k - min may (A.nd k)) (A.pr k - 1) = w at hnd ⊢
  have hw : w ≤ 99 := by
    rw [← hW]
    by_cases e : A.pr k - 1 = k
    · rw [e, up_s]; omega
    · rw [up_n _ _ e]; exact qo.2.1
  have m4 : (if nI w < nI (may - min may (A.nd k)) then nI w else nI (may - min may (A.nd k))) = nI (min (may - min may (A.nd k)) w) := by rw [Nat.min_comm (may - min may (A.nd k)) w]; exact z_min (by omega) (by omega)
  have m5 : nI w - nI (min (may - min may (A.nd k)) w) = nI (w - min (may - min may (A.nd k)) w) := z_sub (Nat.min_le_right _ _)
  unfold fX6_sayAll_b51
  simp only [g, ht_gd, ht_nm, ei, hne k hk, m1, m2, z_add]
  rw [z_bn (x_hasP (T := (T.laws, T.kind, upd need k (nI (A.nd k - min may (A.nd k))), T.saved, T.voice, T.partner, T.speaks, T.count, T.day, T.heard, T.geese, T.z)) (n := A.n) hc h8 q.2.2.2.2.2), if_neg hp0, if_neg (by decide)]
  simp only [ep, go, eo, m3, hnd, m4, m5, z_add]
  exact x_say122
theorem x_say1 {A : Tn} {T : TownV} {k sd : Nat} {K : Int32 → Int32 → AI → Option (Int32 × AI)} {need : AI} (hT : TX A (T.laws, T.kind, need, T.saved, T.voice, T.partner, T.speaks, T.count, T.day, T.heard, T.geese, T.z)) (hR : WR A) (hk : k < A.n) (hsd : sd ≤ 10000) : ∃ need', fX6_sayAll_b4 T K (nI sd) (nI k) need = K (nI (sd + (say1 A k).2)) (nI (k + 1)) need' ∧ TX (say1 A k).1 (T.laws, T.kind, need', T.saved, T.voice, T.partner, T.speaks, T.count, T.day, T.heard, T.geese, T.z) := by
  have hg := x_says hT hR hk
  have hsl := aSays_le hR hk
  have h8 := hR.1
  have q := hR.2.2.2.2.2.2.2.2 k hk
  have hT0 := hT
  obtain ⟨hn, hd, hh, hgs, hz, hl, hkd, hne, hsa, hv, hp, hs⟩ := hT
  have ei : (nI k).toNatClampNeg = k := z_cl (by omega)
  have g : ht_ix (nI k) 8 = true := z_ix (by omega) (by omega)
  have hc : ¬ T.count ≤ nI k := by rw [show T.count = nI A.n from hn, z_le (by omega) (by omega)]; omega
  have hsp : T.speaks k = nI (A.sp k) := hs k hk
  have hpr : T.partner k = nI (A.pr k) - 1 := hp k hk
  have hb : fX6_has (T.laws, T.kind, need, T.saved, T.voice, T.partner, T.speaks, T.count, T.day, T.heard, T.geese, T.z) (nI (A.pr k) - 1) = some (if A.pr k = 0 then 0 else 1) := x_hasP hn h8 q.2.2.2.2.2
  unfold fX6_sayAll_b4
  rw [if_neg hc]
  simp only [g, ht_gd, ht_nm, ei, hsp, hpr]
  by_cases h0 : A.sp k = 0
  · refine ⟨need, ?_, ?_⟩
    · rw [h0, if_pos (by decide), x_say122, say1, if_pos h0]; rfl
    · rw [say1, if_pos h0]; exact hT0
  · rw [if_neg (z_neL (b := 0) (c := 0) rfl h0 (by omega) (by omega)), z_bn hb]
    by_cases hp0 : A.pr k = 0
    · rw [if_pos hp0, if_pos rfl, z_bn hg]
      refine ⟨upd need k (nI (A.nd k - sOwn A k)), (x_say51 hn hne hR hk (by omega) hsd hp0).trans ?_, ?_⟩
      · rw [say1, if_neg h0, if_pos hp0]
        unfold sOwn sMay
        rw [if_pos hp0]
      · rw [say1, if_neg h0, if_pos hp0]
        exact ⟨hn, hd, hh, hgs, hz, hl, hkd, up_all hne rfl, hsa, hv, hp, hs⟩
    · rw [if_neg hp0, if_neg (by decide), z_bn hg]
      have e2 : (2 : Int32) * nI (aSays A k) = nI (2 * aSays A k) := z_mul 2 _
      rw [e2]
      refine ⟨upd (upd need k (nI (A.nd k - sOwn A k))) (A.pr k - 1) (nI (sNd A k (A.pr k - 1) - sRest A k)), (x_say51p hn hne hR hk (by omega) hsd hp0).trans ?_, ?_⟩
      · rw [say1, if_neg h0, if_neg hp0]
        unfold sRest sNd sOwn sMay
        rw [if_neg hp0, Nat.add_assoc]
      · rw [say1, if_neg h0, if_neg hp0]
        exact ⟨hn, hd, hh, hgs, hz, hl, hkd, up_all (up_all hne rfl) rfl, hsa, hv, hp, hs⟩
theorem x_sayN {A : Tn} {T : TownV} (hR : WR A) (hc : T.count = nI A.n) : ∀ (d k fuel : Nat) (need : AI), k + d = A.n → d < fuel → TX (sayN A k).1 (T.laws, T.kind, need, T.saved, T.voice, T.partner, T.speaks, T.count, T.day, T.heard, T.geese, T.z) → ∃ need', ht_lp3 (fX6_sayAll_b4 T) fuel (nI (sayN A k).2) (nI k) need = some (nI (sayN A A.n).2, need') ∧ TX (sayN A A.n).1 (T.laws, T.kind, need', T.saved, T.voice, T.partner, T.speaks, T.count, T.day, T.heard, T.geese, T.z) := by
  have h8 := hR.1
  intro d
  induction d with
  | zero =>
    intro k fuel need hk hf hT
    obtain ⟨f, rfl⟩ : ∃ f, fuel = f + 1 := ⟨fuel - 1, by omega⟩
    have e : A.n = k := by omega
    refine ⟨need, ?_, by rw [e]; exact hT⟩
    show fX6_sayAll_b4 T (ht_lp3 (fX6_sayAll_b4 T) f) (nI (sayN A k).2) (nI k) need = some (nI (sayN A A.n).2, need)
    unfold fX6_sayAll_b4
    rw [if_pos (by rw [hc, z_le (by omega) (by omega)]; omega), e]
  | succ d ih =>
    intro k fuel need hk hf hT
    obtain ⟨f, rfl⟩ : ∃ f, fuel = f + 1 := ⟨fuel - 1, by omega⟩
    obtain ⟨r1, r2⟩ := sayN_R hR k (by omega)
    obtain ⟨n1, e1, h1⟩ := x_say1 (K := ht_lp3 (fX6_sayAll_b4 T) f) (sd := (sayN A k).2) hT r1 (k := k) (by rw [(sayN_F A k).1]; omega) (by omega)
    obtain ⟨n2, e2, h2⟩ := ih (k + 1) f n1 (by omega) (by omega) h1
    exact ⟨n2, (show fX6_sayAll_b4 T (ht_lp3 (fX6_sayAll_b4 T) f) (nI (sayN A k).2) (nI k) need = _ from e1).trans e2, h2⟩
theorem x_sayAll {A : Tn} {T : TownV} (hT : TX A T) (hR : WR A) : ∃ need', fX6_sayAll T = some (nI (sayN A A.n).2, need') ∧ TX (sayN A A.n).1 (T.laws, T.kind, need', T.saved, T.voice, T.partner, T.speaks, T.count, T.day, T.heard, T.geese, T.z) := by
  have h8 := hR.1
  exact x_sayN hR hT.1 A.n 0 FU T.need (by omega) (by show A.n < 300; omega) hT
theorem x_save1 {A : Tn} {T : TownV} {k : Nat} {K : Int32 → AI → AI → Option (AI × AI)} {need sav : AI} (hT : TX A (T.laws, T.kind, need, sav, T.voice, T.partner, T.speaks, T.count, T.day, T.heard, T.geese, T.z)) (hR : WR A) (hk : k < A.n) : ∃ need' sav', fX6_saveAll_b2 T K (nI k) need sav = K (nI (k + 1)) need' sav' ∧ TX (save1 A k) (T.laws, T.kind, need', sav', T.voice, T.partner, T.speaks, T.count, T.day, T.heard, T.geese, T.z) := by
  have hg := x_saves hT hR hk
  have hsl := aSvs_le hR k
  have h8 := hR.1
  have q := hR.2.2.2.2.2.2.2.2 k hk
  have hT0 := hT
  obtain ⟨hn, hd, hh, hgs, hz, hl, hkd, hne, hsa, hv, hp, hs⟩ := hT
  have ei : (nI k).toNatClampNeg = k := z_cl (by omega)
  have g : ht_ix (nI k) 8 = true := z_ix (by omega) (by omega)
  have hc : ¬ T.count ≤ nI k := by rw [show T.count = nI A.n from hn, z_le (by omega) (by omega)]; omega
  have hsp : T.speaks k = nI (A.sp k) := hs k hk
  have hnd : need k = nI (A.nd k) := hne k hk
  have hsv : sav k = nI (A.sv k) := hsa k hk
  have m5 : nI k + (1 : Int32) = nI (k + 1) := nI_1 k
  have m0 : (99 : Int32) - nI (A.sv k) = nI (99 - A.sv k) := z_sub (a := 99) (by omega)
  have m1 : (if nI (99 - A.sv k) < nI (A.nd k) then nI (99 - A.sv k) else nI (A.nd k)) = nI (min (A.nd k) (99 - A.sv k)) := by rw [Nat.min_comm]; exact z_min (by omega) (by omega)
  have m2 : (if nI (min (A.nd k) (99 - A.sv k)) < nI (aSvs A k) then nI (min (A.nd k) (99 - A.sv k)) else nI (aSvs A k)) = nI (vP A k) := by unfold vP; rw [Nat.min_comm (aSvs A k)]; exact z_min (by omega) (by omega)
  have hv1 : vP A k ≤ A.nd k := Nat.le_trans (Nat.min_le_right _ _) (Nat.min_le_left _ _)
  have m3 : nI (A.nd k) - nI (vP A k) = nI (A.nd k - vP A k) := z_sub hv1
  unfold fX6_saveAll_b2 fX6_saveAll_b68
  rw [if_neg hc]
  simp only [g, ht_gd, ht_nm, ei, hsp, hnd, hsv, m5, m0, m1]
  by_cases h0 : A.sp k = 0
  · rw [h0, if_pos (by decide), z_bn hg]
    simp only [m2, m3, z_add]
    refine ⟨upd need k (nI (A.nd k - vP A k)), upd sav k (nI (A.sv k + vP A k)), rfl, ?_⟩
    rw [save1, if_pos h0]
    exact ⟨hn, hd, hh, hgs, hz, hl, hkd, up_all hne rfl, up_all hsa rfl, hv, hp, hs⟩
  · rw [if_neg (z_neL (b := 0) (c := 0) rfl h0 (by omega) (by omega))]
    exact ⟨need, sav, rfl, by rw [save1, if_neg h0]; exact hT0⟩
theorem x_saveN {A : Tn} {T : TownV} (hR : WR A) (hc : T.count = nI A.n) : ∀ (d k fuel : Nat) (need sav : AI), k + d = A.n → d < fuel → TX (saveN A k) (T.laws, T.kind, need, sav, T.voice, T.partner, T.speaks, T.count, T.day, T.heard, T.geese, T.z) → ∃ need' sav', ht_lp3 (fX6_saveAll_b2 T) fuel (nI k) need sav = some (need', sav') ∧ TX (saveN A A.n) (T.laws, T.kind, need', sav', T.voice, T.partner, T.speaks, T.count, T.day, T.heard, T.geese, T.z) := by
  have h8 := hR.1
  intro d
  induction d with
  | zero =>
    intro k fuel need sav hk hf hT
    obtain ⟨f, rfl⟩ : ∃ f, fuel = f + 1 := ⟨fuel - 1, by omega⟩
    have e : A.n = k := by omega
    refine ⟨need, sav, ?_, by rw [e]; exact hT⟩
    show fX6_saveAll_b2 T (ht_lp3 (fX6_saveAll_b2 T) f) (nI k) need sav = some (need, sav)
    unfold fX6_saveAll_b2
    rw [if_pos (by rw [hc, z_le (by omega) (by omega)]; omega)]
  | succ d ih =>
    intro k fuel need sav hk hf hT
    obtain ⟨f, rfl⟩ : ∃ f, fuel = f + 1 := ⟨fuel - 1, by omega⟩
    obtain ⟨n1, g1, e1, h1⟩ := x_save1 (K := ht_lp3 (fX6_saveAll_b2 T) f) hT (saveN_R hR k (by omega)) (k := k) (by rw [(saveN_F A k).1]; omega)
    obtain ⟨n2, g2, e2, h2⟩ := ih (k + 1) f n1 g1 (by omega) (by omega) h1
    exact ⟨n2, g2, (show fX6_saveAll_b2 T (ht_lp3 (fX6_saveAll_b2 T) f) (nI k) need sav = _ from e1).trans e2, h2⟩
theorem x_saveAll {A : Tn} {T : TownV} (hT : TX A T) (hR : WR A) : ∃ need' sav', fX6_saveAll T = some (need', sav') ∧ TX (saveN A A.n) (T.laws, T.kind, need', sav', T.voice, T.partner, T.speaks, T.count, T.day, T.heard, T.geese, T.z) := by
  have h8 := hR.1
  exact x_saveN hR hT.1 A.n 0 FU T.need T.saved (by omega) (by show A.n < 300; omega) hT
theorem nar1 : vp_nar .boolean (1 : Int32) = nI 1 := rfl
theorem nar0 : vp_nar .boolean (0 : Int32) = nI 0 := rfl
theorem x_chg1 {A : Tn} {T : TownV} {k : Nat} {K : Int32 → AI → Option AI} {sp : AI} (hT : TX A (T.laws, T.kind, T.need, T.saved, T.voice, T.partner, sp, T.count, T.day, T.heard, T.geese, T.z)) (hR : WR A) (hk : k < A.n) : ∃ sp', fX6_changeOver_b2 T K (nI k) sp = K (nI (k + 1)) sp' ∧ TX (chg1 A k) (T.laws, T.kind, T.need, T.saved, T.voice, T.partner, sp', T.count, T.day, T.heard, T.geese, T.z) := by
  have h8 := hR.1
  have q := hR.2.2.2.2.2.2.2.2 k hk
  have hT0 := hT
  obtain ⟨hn, hd, hh, hgs, hz, hl, hkd, hne, hsa, hv, hp, hs⟩ := hT
  have ei : (nI k).toNatClampNeg = k := z_cl (by omega)
  have g : ht_ix (nI k) 8 = true := z_ix (by omega) (by omega)
  have hc : ¬ T.count ≤ nI k := by rw [show T.count = nI A.n from hn, z_le (by omega) (by omega)]; omega
  have hsp : sp k = nI (A.sp k) := hs k hk
  have hpr : T.partner k = nI (A.pr k) - 1 := hp k hk
  have m5 : nI k + (1 : Int32) = nI (k + 1) := nI_1 k
  unfold fX6_changeOver_b2 fX6_changeOver_b39 fX6_changeOver_b40
  rw [if_neg hc]
  simp only [g, ht_gd, ht_nm, ei, hsp, hpr, m5, nar1, nar0]
  by_cases hp0 : A.pr k = 0
  · rw [hp0, if_pos (by decide)]
    exact ⟨sp, rfl, by rw [chg1, if_pos hp0]; exact hT0⟩
  · rw [if_neg (fun e => by
      have e1 : nI (A.pr k) - 1 = nI (A.pr k - 1) := z_sub (b := 1) (by omega)
      rw [e1] at e
      have e2 := congrArg Int32.toInt e
      rw [z_ti (by omega)] at e2
      have e3 : ((-1 : Int32).toInt) = -1 := by decide
      omega)]
    by_cases h0 : A.sp k = 0
    · rw [h0, if_pos (by decide)]
      refine ⟨upd sp k (nI 1), rfl, ?_⟩
      rw [chg1, if_neg hp0, h0]
      exact ⟨hn, hd, hh, hgs, hz, hl, hkd, hne, hsa, hv, hp, up_all hs rfl⟩
    · have h1 : A.sp k = 1 := by omega
      rw [if_neg (z_neL (b := 0) (c := 0) rfl h0 (by omega) (by omega))]
      refine ⟨upd sp k (nI 0), rfl, ?_⟩
      rw [chg1, if_neg hp0, h1]
      exact ⟨hn, hd, hh, hgs, hz, hl, hkd, hne, hsa, hv, hp, up_all hs rfl⟩
theorem x_chgN {A : Tn} {T : TownV} (hR : WR A) (hc : T.count = nI A.n) : ∀ (d k fuel : Nat) (sp : AI), k + d = A.n → d < fuel → TX (chgN A k) (T.laws, T.kind, T.need, T.saved, T.voice, T.partner, sp, T.count, T.day, T.heard, T.geese, T.z) → ∃ sp', ht_lp2 (fX6_changeOver_b2 T) fuel (nI k) sp = some sp' ∧ TX (chgN A A.n) (T.laws, T.kind, T.need, T.saved, T.voice, T.partner, sp', T.count, T.day, T.heard, T.geese, T.z) := by
  have h8 := hR.1
  intro d
  induction d with
  | zero =>
    intro k fuel sp hk hf hT
    obtain ⟨f, rfl⟩ : ∃ f, fuel = f + 1 := ⟨fuel - 1, by omega⟩
    have e : A.n = k := by omega
    refine ⟨sp, ?_, by rw [e]; exact hT⟩
    show fX6_changeOver_b2 T (ht_lp2 (fX6_changeOver_b2 T) f) (nI k) sp = some sp
    unfold fX6_changeOver_b2
    rw [if_pos (by rw [hc, z_le (by omega) (by omega)]; omega)]
  | succ d ih =>
    intro k fuel sp hk hf hT
    obtain ⟨f, rfl⟩ : ∃ f, fuel = f + 1 := ⟨fuel - 1, by omega⟩
    obtain ⟨n1, e1, h1⟩ := x_chg1 (K := ht_lp2 (fX6_changeOver_b2 T) f) hT (chgN_R hR k) (k := k) (by rw [(chgN_F A k).1]; omega)
    obtain ⟨n2, e2, h2⟩ := ih (k + 1) f n1 (by omega) (by omega) h1
    exact ⟨n2, (show fX6_changeOver_b2 T (ht_lp2 (fX6_changeOver_b2 T) f) (nI k) sp = _ from e1).trans e2, h2⟩
theorem x_changeOver {A : Tn} {T : TownV} (hT : TX A T) (hR : WR A) : ∃ sp', fX6_changeOver T = some sp' ∧ TX (chgN A A.n) (T.laws, T.kind, T.need, T.saved, T.voice, T.partner, sp', T.count, T.day, T.heard, T.geese, T.z) := by
  have h8 := hR.1
  exact x_chgN hR hT.1 A.n 0 FU T.speaks (by omega) (by show A.n < 300; omega) hT
/-- a day of the class' town -/
theorem x_passDay {A : Tn} {T : TownV} (hT : TX A T) (hR : WR A) : ∃ nd sv sp, fX6_passDay T = some (nI (dSaid A), nd, sv, sp, nI (dayA A).day, nI (dayA A).hrd, nI (dayA A).gs) ∧ TX (dayA A) (T.laws, T.kind, nd, sv, T.voice, T.partner, sp, T.count, nI (dayA A).day, nI (dayA A).hrd, nI (dayA A).gs, T.z) := by
  obtain ⟨nd1, gs1, e1, h1⟩ := x_growAll hT hR
  have R1 := dGr_R hR
  obtain ⟨nd2, e2, h2⟩ := x_sayAll h1 R1
  rw [dGr_n] at e2 h2
  obtain ⟨R2, s2⟩ := dSy_R hR
  obtain ⟨nd3, sv3, e3, h3⟩ := x_saveAll h2 R2
  rw [show (sayN (dGr A) A.n).1.n = A.n from dSy_n A] at h3
  have R3 := dSv_R hR
  obtain ⟨sp4, e4, h4⟩ := x_changeOver h3 R3
  rw [show (saveN (sayN (dGr A) A.n).1 A.n).n = A.n from dSv_n A] at h4
  have R4 := dCh_R hR
  obtain ⟨hn, hd, hh, hgs, hz, hl, hkd, hne, hsa, hv, hp, hs⟩ := h4
  have hh' : T.heard = nI (dCh A).hrd := hh
  have hd' : T.day = nI (dCh A).day := hd
  have hg' : gs1 = nI (dCh A).gs := hgs
  have h8 := hR.1
  have hr := R4.2.2.2.2.2.2.1
  have m1 : (if T.heard + nI (sayN (dGr A) A.n).2 < (99999 : Int32) then T.heard + nI (sayN (dGr A) A.n).2 else (99999 : Int32)) = nI (dayA A).hrd := by
    rw [hh', z_add]
    show _ = nI (min 99999 ((dCh A).hrd + (dSy A).2))
    rw [Nat.min_comm]
    exact z_min (b := 99999) (by show (dCh A).hrd + (dSy A).2 < _; omega) (by omega)
  have m2 : T.day + (1 : Int32) = nI (dayA A).day := by rw [hd']; exact nI_1 _
  refine ⟨nd3, sv3, sp4, ?_, ?_⟩
  · unfold fX6_passDay
    rw [z_bn e1, z_bn e2]
    simp only [ht_nm]
    rw [z_bn e3, z_bn e4]
    simp only [m1, m2, hg']
    rfl
  · rw [← m1, ← m2]
    exact ⟨hn, m2, m1, rfl, hz, hl, hkd, hne, hsa, hv, hp, hs⟩
