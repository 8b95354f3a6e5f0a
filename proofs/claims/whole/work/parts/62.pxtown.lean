/-! ===== the class' town keeps to the plain numbers ===== -/
theorem z_lit (n : Nat) : (OfNat.ofNat n : Int32) = nI n := rfl
theorem x_grows {A : Tn} {T : TownV} (hT : TX A T) (hR : WR A) {i : Nat} (hi : i < A.n) : fX6_growsOf T (nI i) = some (nI (aUp A i) - nI (aDn A i)) := by
  obtain ⟨hn, hd, hh, hg, hz, hl, hk, hne, hsa, hv, hp, hs⟩ := hT
  obtain ⟨r1, r2, r3, r4, r5, r6, r7, r8, r9⟩ := hR
  obtain ⟨q1, q2, q3, q4, q5, q6⟩ := r9 i hi
  have l0 := hl 0 (by omega); have l2 := hl 2 (by omega)
  have e0 : ((0 : Int32).toNatClampNeg) = 0 := rfl
  have e2 : ((2 : Int32).toNatClampNeg) = 2 := rfl
  have ei : (nI i).toNatClampNeg = i := z_cl (by omega)
  have g : ht_ix (nI i) 8 = true := z_ix (by omega) (by omega)
  have g0 : ht_ix (0 : Int32) 4 = true := by decide
  have g2 : ht_ix (2 : Int32) 4 = true := by decide
  have d2 : nI (A.law 2) / (2 : Int32) = nI (A.law 2 / 2) := z_div (by omega) (by omega) (by omega)
  unfold fX6_growsOf
  simp only [g, g0, g2, ht_gd, ht_nm, e0, e2, ei, l0, l2, hk i hi, hv i hi, d2]
  unfold aUp aDn
  rcases z_six q1 with h | h | h | h | h | h <;> rw [h]
  · exact congrArg some (z_sub0 _).symm
  · exact congrArg some ((z_add (A.law 2) 1).trans (z_sub0 _).symm)
  · exact congrArg some (z_sub0 _).symm
  · exact congrArg some (((congrArg (· + nI (A.law 0)) (z_add (A.law 2) 1)).trans (z_add _ _)).trans (z_sub0 _).symm)
  · rfl
  · exact congrArg some ((z_add (A.law 2) (A.vc i)).trans (z_sub0 _).symm)
theorem x_saves {A : Tn} {T : TownV} (hT : TX A T) (hR : WR A) {i : Nat} (hi : i < A.n) : fX6_savesOf T (nI i) = some (nI (aSvs A i)) := by
  obtain ⟨hn, hd, hh, hg, hz, hl, hk, hne, hsa, hv, hp, hs⟩ := hT
  obtain ⟨r1, r2, r3, r4, r5, r6, r7, r8, r9⟩ := hR
  obtain ⟨q1, q2, q3, q4, q5, q6⟩ := r9 i hi
  have l1 := hl 1 (by omega)
  have e1 : ((1 : Int32).toNatClampNeg) = 1 := rfl
  have ei : (nI i).toNatClampNeg = i := z_cl (by omega)
  have g : ht_ix (nI i) 8 = true := z_ix (by omega) (by omega)
  have g1 : ht_ix (1 : Int32) 4 = true := by decide
  have d7 : nI A.day - nI A.day / (7 : Int32) * (7 : Int32) = nI (A.day % 7) := z_rem (by omega) (by omega) (by omega)
  unfold fX6_savesOf
  simp only [g, g1, ht_gd, ht_nm, e1, ei, l1, hk i hi, hd, d7]
  unfold aSvs
  rcases z_six q1 with h | h | h | h | h | h <;> rw [h]
  · rfl
  · rfl
  · exact congrArg some (z_add 1 (A.law 1))
  · rfl
  · exact congrArg some ((congrArg ((3 : Int32) * ·) (z_add 1 (A.law 1))).trans (z_mul 3 _))
  · show (if nI (A.day % 7) = 0 then some (1 : Int32) else some (0 : Int32)) = some (nI (if A.day % 7 = 0 then 1 else 0))
    by_cases hd2 : A.day % 7 = 0
    · rw [if_pos hd2, hd2]; rfl
    · rw [if_neg hd2, if_neg (fun q => hd2 ((z_eq (b := 0) (by omega) (by omega)).mp q))]; rfl
theorem x_says {A : Tn} {T : TownV} (hT : TX A T) (hR : WR A) {i : Nat} (hi : i < A.n) : fX6_saysOf T (nI i) = some (nI (aSays A i)) := by
  obtain ⟨hn, hd, hh, hg, hz, hl, hk, hne, hsa, hv, hp, hs⟩ := hT
  obtain ⟨r1, r2, r3, r4, r5, r6, r7, r8, r9⟩ := hR
  obtain ⟨q1, q2, q3, q4, q5, q6⟩ := r9 i hi
  have l0 := hl 0 (by omega); have l1 := hl 1 (by omega)
  have e0 : ((0 : Int32).toNatClampNeg) = 0 := rfl
  have e1 : ((1 : Int32).toNatClampNeg) = 1 := rfl
  have ei : (nI i).toNatClampNeg = i := z_cl (by omega)
  have g : ht_ix (nI i) 8 = true := z_ix (by omega) (by omega)
  have g0 : ht_ix (0 : Int32) 4 = true := by decide
  have g1 : ht_ix (1 : Int32) 4 = true := by decide
  have d2 : nI A.day - nI A.day / (2 : Int32) * (2 : Int32) = nI (A.day % 2) := z_rem (by omega) (by omega) (by omega)
  have d10 : nI (A.sv i) / (10 : Int32) = nI (A.sv i / 10) := z_div (by omega) (by omega) (by omega)
  have m0 := z_max0 (a := A.vc i) (b := A.law 1) (by omega) (by omega)
  unfold fX6_saysOf
  simp only [g, g0, g1, ht_gd, ht_nm, e0, e1, ei, l0, l1, hk i hi, hv i hi, hsa i hi, hd, d2, d10, m0]
  unfold aSays
  rcases z_six q1 with h | h | h | h | h | h <;> rw [h]
  · rfl
  · exact congrArg some (z_add _ _)
  · rfl
  · exact congrArg some ((congrArg ((2 : Int32) * ·) (z_add _ _)).trans (z_mul 2 _))
  · exact congrArg some (z_add _ _)
  · show (if nI (A.day % 2) = 0 then some (nI (A.vc i)) else some (1 : Int32)) = some (nI (if A.day % 2 = 0 then A.vc i else 1))
    by_cases hd2 : A.day % 2 = 0
    · rw [if_pos hd2, hd2]; rfl
    · rw [if_neg hd2, if_neg (fun q => hd2 ((z_eq (b := 0) (by omega) (by omega)).mp q))]; rfl
theorem x_grow1 {A : Tn} {T : TownV} {k : Nat} {K : Int32 → AI → Int32 → Option (AI × Int32)} {need : AI} {gs : Int32} (hT : TX A (T.laws, T.kind, need, T.saved, T.voice, T.partner, T.speaks, T.count, T.day, T.heard, gs, T.z)) (hR : WR A) (hk : k < A.n) : ∃ need' gs', fX6_growAll_b2 T K (nI k) need gs = K (nI (k + 1)) need' gs' ∧ TX (grow1 A k) (T.laws, T.kind, need', T.saved, T.voice, T.partner, T.speaks, T.count, T.day, T.heard, gs', T.z) := by
  have hg := x_grows hT hR hk
  have h8 := hR.1
  have q := hR.2.2.2.2.2.2.2.2 k hk
  have u1 := aUp_le hR hk
  have u2 := aDn_le A k
  have r8 := hR.2.2.2.2.2.2.2.1
  obtain ⟨hn, hd, hh, hgs, hz, hl, hkd, hne, hsa, hv, hp, hs⟩ := hT
  have ei : (nI k).toNatClampNeg = k := z_cl (by omega)
  have g : ht_ix (nI k) 8 = true := z_ix (by omega) (by omega)
  have hc : ¬ T.count ≤ nI k := by rw [show T.count = nI A.n from hn, z_le (by omega) (by omega)]; omega
  have hneed : need k = nI (A.nd k) := hne k hk
  have hgs' : gs = nI A.gs := hgs
  have m1 : (if (0 : Int32) < need k + (nI (aUp A k) - nI (aDn A k)) then need k + (nI (aUp A k) - nI (aDn A k)) else (0 : Int32)) = nI (gN A k) := by rw [hneed]; exact z_growM (by omega) (by omega) (by omega)
  have hgN : gN A k ≤ 118 := by unfold gN; omega
  have m2 : (if (0 : Int32) < nI (gN A k) - (99 : Int32) then nI (gN A k) - (99 : Int32) else (0 : Int32)) = nI (gN A k - 99) := z_max0 (a := gN A k) (b := 99) (by omega) (by omega)
  have m3 : nI (gN A k) - nI (gN A k - 99) = nI (min 99 (gN A k)) := by rw [z_sub (by omega)]; congr 1; omega
  have m4 : (if gs + nI (gN A k - 99) < (99999 : Int32) then gs + nI (gN A k - 99) else (99999 : Int32)) = nI (min 99999 (A.gs + (gN A k - 99))) := by
    rw [hgs', z_add, Nat.min_comm]; exact z_min (b := 99999) (by omega) (by omega)
  have m5 : nI k + (1 : Int32) = nI (k + 1) := nI_1 k
  refine ⟨upd need k (nI (min 99 (gN A k))), nI (min 99999 (A.gs + (gN A k - 99))), ?_, ?_⟩
  · unfold fX6_growAll_b2
    rw [if_neg hc, z_gd g, z_bn hg]
    simp only [ht_nm, ei, m1, m2, m3, m4, m5, g, ht_gd]
  · exact ⟨hn, hd, hh, rfl, hz, hl, hkd, up_all hne rfl, hsa, hv, hp, hs⟩
theorem x_growN {A : Tn} {T : TownV} (hR : WR A) (hc : T.count = nI A.n) : ∀ (d k fuel : Nat) (need : AI) (gs : Int32), k + d = A.n → d < fuel → TX (growN A k) (T.laws, T.kind, need, T.saved, T.voice, T.partner, T.speaks, T.count, T.day, T.heard, gs, T.z) → ∃ need' gs', ht_lp3 (fX6_growAll_b2 T) fuel (nI k) need gs = some (need', gs') ∧ TX (growN A A.n) (T.laws, T.kind, need', T.saved, T.voice, T.partner, T.speaks, T.count, T.day, T.heard, gs', T.z) := by
  have h8 := hR.1
  intro d
  induction d with
  | zero =>
    intro k fuel need gs hk hf hT
    obtain ⟨f, rfl⟩ : ∃ f, fuel = f + 1 := ⟨fuel - 1, by omega⟩
    refine ⟨need, gs, ?_, ?_⟩
    · show fX6_growAll_b2 T (ht_lp3 (fX6_growAll_b2 T) f) (nI k) need gs = some (need, gs)
      unfold fX6_growAll_b2
      rw [if_pos (by rw [hc, z_le (by omega) (by omega)]; omega)]
    · rw [show A.n = k by omega]; exact hT
  | succ d ih =>
    intro k fuel need gs hk hf hT
    obtain ⟨f, rfl⟩ : ∃ f, fuel = f + 1 := ⟨fuel - 1, by omega⟩
    obtain ⟨n1, g1, e1, h1⟩ := x_grow1 (K := ht_lp3 (fX6_growAll_b2 T) f) hT (growN_R hR k (by omega)) (k := k) (by rw [(growN_F A k).1]; omega)
    obtain ⟨n2, g2, e2, h2⟩ := ih (k + 1) f n1 g1 (by omega) (by omega) h1
    exact ⟨n2, g2, (show fX6_growAll_b2 T (ht_lp3 (fX6_growAll_b2 T) f) (nI k) need gs = _ from e1).trans e2, h2⟩
theorem x_growAll {A : Tn} {T : TownV} (hT : TX A T) (hR : WR A) : ∃ need' gs', fX6_growAll T = some (need', gs') ∧ TX (dGr A) (T.laws, T.kind, need', T.saved, T.voice, T.partner, T.speaks, T.count, T.day, T.heard, gs', T.z) := by
  have h8 := hR.1
  exact x_growN hR hT.1 A.n 0 FU T.need T.geese (by omega) (by show A.n < 300; omega) hT
