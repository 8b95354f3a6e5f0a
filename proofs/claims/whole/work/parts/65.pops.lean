/-! ===== ranges of arguments, as both sides ask for them ===== -/
theorem z_01 : ¬ ((1 : Int32) = 0) := by decide
theorem z_isBz {o : Option Int32} {b : Int32} (h : o = some b) (hb : ht_bz b = true) : ht_bn o (fun o_1 => ht_gd (ht_bz o_1) (some o_1)) = some b := by
  subst h
  exact z_gd hb
theorem z_rng (v : Int32) (lo hi : Nat) {a b : Int32} {c d : Int64} (ha : a = nI lo) (hb : b = nI hi) (hc : c = lN lo) (hd : d = lN hi) (hh : hi < 1073741824) (hl : lo ≤ hi) : (fX8_within v a b = some 0 ∧ fX9_isIn v.toInt64 c d = some 0) ∨ (∃ j, lo ≤ j ∧ j ≤ hi ∧ v = nI j ∧ fX8_within v a b = some 1 ∧ fX9_isIn v.toInt64 c d = some 1) := by
  have hc' : c = (nI lo).toInt64 := hc.trans (nI_l (by omega)).symm
  have hd' : d = (nI hi).toInt64 := hd.trans (nI_l (by omega)).symm
  by_cases h1 : v < nI lo
  · refine Or.inl ⟨?_, ?_⟩
    · unfold fX8_within; rw [ha, if_pos h1]
    · unfold fX9_isIn; rw [hc', if_pos ((lg_cmp_lt _ _).mpr ((fa_wide_lt _ _).mpr h1))]
  · by_cases h2 : nI hi < v
    · refine Or.inl ⟨?_, ?_⟩
      · unfold fX8_within; rw [ha, hb, if_neg h1, if_pos h2]
      · unfold fX9_isIn; rw [hc', hd', if_neg (fun q => h1 ((fa_wide_lt _ _).mp ((lg_cmp_lt _ _).mp q))), if_pos ((lg_cmp_gt _ _).mpr ((fa_wide_lt _ _).mpr h2))]
    · have h3 : ¬ v < 0 := by
        have e1 := z_ti (n := lo) (by omega)
        have e0 : ((0 : Int32).toInt) = 0 := by decide
        rw [z_ltI, e1] at h1
        rw [z_ltI, e0]
        omega
      obtain ⟨j, hj, rfl⟩ := nI_of h3
      have q1 : lo ≤ j := Nat.le_of_not_lt (fun q => h1 (nI_lt q (by omega)))
      have q2 : j ≤ hi := Nat.le_of_not_lt (fun q => h2 (nI_lt q hj))
      refine Or.inr ⟨j, q1, q2, rfl, ?_, ?_⟩
      · unfold fX8_within; rw [ha, hb, if_neg h1, if_neg h2]
      · unfold fX9_isIn; rw [hc', hd', if_neg (fun q => h1 ((fa_wide_lt _ _).mp ((lg_cmp_lt _ _).mp q))), if_neg (fun q => h2 ((fa_wide_lt _ _).mp ((lg_cmp_gt _ _).mp q)))]
theorem z_out {v : Int32} {hi : Nat} {b : Int32} (hb : b = nI hi) (hh : hi < 1073741824) (w : fX8_within v (0 : Int32) b = some 0) (j : Nat) (hj : j ≤ hi) : ¬ v = nI j := by
  intro e
  subst e
  have hw : fX8_within (nI j) (0 : Int32) b = some 1 := by
    unfold fX8_within
    rw [hb, if_neg (nI_pos (by omega)), if_neg (nI_nlt (b := j) (a := hi) hj (by omega))]
  rw [hw] at w
  exact absurd (Option.some.inj w) (by decide)
theorem z_has {T : TownV} {RM : ModV} {n : Nat} (hc : T.count = nI n) (hs : RM.s 0 = nI n) (hn : n ≤ 8) (v : Int32) : (fX6_has T v = some 0 ∧ fX9_isOne RM v = some 0) ∨ (∃ j, j < n ∧ v = nI j ∧ fX6_has T v = some 1 ∧ fX9_isOne RM v = some 1) := by
  have g0 : ht_ix (0 : Int32) 57 = true := by decide
  have hs' : RM.s ((0 : Int32).toNatClampNeg) = nI n := hs
  by_cases h0 : v < 0
  · refine Or.inl ⟨?_, ?_⟩
    · unfold fX6_has; rw [if_pos h0]
    · unfold fX9_isOne; rw [if_pos h0]
  · by_cases h : nI n ≤ v
    · refine Or.inl ⟨?_, ?_⟩
      · unfold fX6_has; rw [if_neg h0, hc, if_pos h]
      · unfold fX9_isOne; rw [if_neg h0, z_gd g0, hs', if_pos h]
    · obtain ⟨j, hj, rfl⟩ := nI_of h0
      have q : j < n := Nat.lt_of_not_le (fun q => h (nI_le q hj))
      refine Or.inr ⟨j, q, rfl, ?_, ?_⟩
      · unfold fX6_has; rw [if_neg h0, hc, if_neg h]
      · unfold fX9_isOne; rw [if_neg h0, z_gd g0, hs', if_neg h]
/-! ===== both towns together ===== -/
def TI (A : Tn) (T : TownV) (s : AI) : Prop := TX A T ∧ TM A s ∧ WR A ∧ WA A ∧ WP A
theorem m_becomes {RM : ModV} {k : Nat} (v : Int32) (h : k < 57) : fX9_becomes RM (nI k) v = some (RM.s k, upd RM.s k v) := by
  unfold fX9_becomes
  rw [z_gd (z_ix h (by omega)), z_nm, z_gd (z_ix h (by omega)), z_nm, z_cl (by omega)]
abbrev TownV.wl (T : TownV) (f : AI) : TownV := (f, T.kind, T.need, T.saved, T.voice, T.partner, T.speaks, T.count, T.day, T.heard, T.geese, T.z)
def mostL (j : Nat) : Nat := if j = 3 then 99 else 9
theorem WR.law {A : Tn} (h : WR A) {k v : Nat} (hv : v ≤ mostL k) : WR (A.wlaw (va_up A.law k v)) := by
  obtain ⟨r1, r2, r3, r4, r5, r6, r7, r8, r9⟩ := h
  have key : ∀ i, i < 4 → va_up A.law k v i ≤ mostL i := by
    intro i hi
    by_cases e : i = k
    · subst e; rw [up_s]; exact hv
    · rw [up_n _ _ e]
      have : i = 0 ∨ i = 1 ∨ i = 2 ∨ i = 3 := by omega
      rcases this with rfl | rfl | rfl | rfl
      · exact r2
      · exact r3
      · exact r4
      · exact r5
  exact ⟨r1, key 0 (by omega), key 1 (by omega), key 2 (by omega), key 3 (by omega), r6, r7, r8, r9⟩
theorem x_mostOfLaw (j : Nat) (hj : j ≤ 3) : fX8_mostOfLaw (nI j) = some (nI (mostL j)) := by
  have : j = 0 ∨ j = 1 ∨ j = 2 ∨ j = 3 := by omega
  rcases this with rfl | rfl | rfl | rfl <;> rfl
theorem o_set {RX : HTV} {A : Tn} {T : TownV} {RM : ModV} (h : TI A T RM.s) (y1 y2 : Int32) : ∃ r la s' A', fX8_set RX T y1 y2 = some (r, la) ∧ fX9_set RM y1 y2 = some (r, s') ∧ TI A' (T.wl la) s' ∧ A'.day = A.day := by
  have h0 := h
  obtain ⟨hT, hM, hR, hA, hP⟩ := h
  rcases z_rng y1 0 3 (a := 0) (b := 3) (c := 0) (d := 3) rfl rfl rfl rfl (by omega) (by omega) with ⟨w, i⟩ | ⟨j, -, hj, rfl, w, i⟩
  · have L : fX8_isLaw y1 = some 0 := z_isBz w rfl
    refine ⟨-1, T.laws, RM.s, A, ?_, ?_, h0, rfl⟩
    · unfold fX8_set; rw [z_bn L, if_pos rfl]
    · unfold fX9_set; rw [z_bn i, if_pos rfl]
  · have L : fX8_isLaw (nI j) = some 1 := z_isBz w rfl
    have hm : mostL j ≤ 99 := by unfold mostL; split <;> omega
    have E : fX9_set RM (nI j) y2 = fX9_set_b29 RM (nI j) y2 y2.toInt64 (0 : Int64) (lN (mostL j)) RM.s := by
      unfold fX9_set
      rw [z_bn i, if_neg z_01]
      have : j = 0 ∨ j = 1 ∨ j = 2 ∨ j = 3 := by omega
      rcases this with rfl | rfl | rfl | rfl <;> rfl
    rcases z_rng y2 0 (mostL j) (a := 0) (b := nI (mostL j)) (c := 0) (d := lN (mostL j)) rfl rfl rfl rfl (by omega) (by omega) with ⟨w2, i2⟩ | ⟨v, -, hv, rfl, w2, i2⟩
    · refine ⟨-1, T.laws, RM.s, A, ?_, ?_, h0, rfl⟩
      · unfold fX8_set; rw [z_bn L, if_neg z_01, z_bn (x_mostOfLaw j hj), z_bn w2, if_pos rfl]
      · rw [E]; unfold fX9_set_b29; rw [z_bn i2, if_pos rfl]
    · have g : ht_ix (nI j) 4 = true := z_ix (by omega) (by omega)
      have e5 : (5 : Int32) + nI j = nI (5 + j) := z_add 5 j
      have hl := hT.2.2.2.2.2.1 j (by omega)
      have hs := hM.2.2.2.2.2.1 j (by omega)
      refine ⟨nI (A.law j), upd T.laws j (nI v), upd RM.s (5 + j) (nI v), A.wlaw (va_up A.law j v), ?_, ?_, ⟨?_, TM.law hM (by omega), WR.law hR hv, hA, hP⟩, rfl⟩
      · unfold fX8_set; rw [z_bn L, if_neg z_01, z_bn (x_mostOfLaw j hj), z_bn w2, if_neg z_01, z_gd g, z_nm, z_gd g, z_nm, z_cl (by omega), hl]
      · rw [E]; unfold fX9_set_b29; rw [z_bn i2, if_neg z_01, e5, z_bn (m_becomes _ (by omega))]
        exact congrArg some (Prod.ext hs rfl)
      · obtain ⟨hn, hd, hh, hgs, hz, hl, hkd, hne, hsa, hvc, hp, hsp⟩ := hT
        exact ⟨hn, hd, hh, hgs, hz, up_all hl rfl, hkd, hne, hsa, hvc, hp, hsp⟩
theorem o_lawOf {RX : HTV} {A : Tn} {T : TownV} {RM : ModV} (h : TI A T RM.s) (y1 : Int32) : ∃ r, fX8_lawOf RX T y1 = some r ∧ fX9_lawOf RM y1 = some r := by
  obtain ⟨hT, hM, hR, hA, hP⟩ := h
  rcases z_rng y1 0 3 (a := 0) (b := 3) (c := 0) (d := 3) rfl rfl rfl rfl (by omega) (by omega) with ⟨w, i⟩ | ⟨j, -, hj, rfl, w, i⟩
  · have L : fX8_isLaw y1 = some 0 := z_isBz w rfl
    refine ⟨-1, ?_, ?_⟩
    · unfold fX8_lawOf; rw [z_bn L, if_pos rfl]
    · unfold fX9_lawOf; rw [z_bn i, if_pos rfl]
  · have L : fX8_isLaw (nI j) = some 1 := z_isBz w rfl
    have g : ht_ix (nI j) 4 = true := z_ix (by omega) (by omega)
    have g5 : ht_ix (nI (5 + j)) 57 = true := z_ix (by omega) (by omega)
    have e5 : (5 : Int32) + nI j = nI (5 + j) := z_add 5 j
    have hl := hT.2.2.2.2.2.1 j (by omega)
    have hs := hM.2.2.2.2.2.1 j (by omega)
    refine ⟨nI (A.law j), ?_, ?_⟩
    · unfold fX8_lawOf; rw [z_bn L, if_neg z_01, z_gd g, z_cl (by omega), hl]
    · unfold fX9_lawOf; rw [z_bn i, if_neg z_01, e5, z_gd g5, z_cl (by omega), hs]
/-! ===== one more comes ===== -/
def addA (A : Tn) (k nd sv vc : Nat) : Tn := (A.n + 1, A.law, va_up A.kd A.n k, va_up A.nd A.n nd, va_up A.sv A.n sv, va_up A.vc A.n vc, va_up A.pr A.n 0, va_up A.sp A.n 1, A.day, A.hrd, A.gs, A.z)
theorem up_alls {f : AI} {g : Nat → Nat} {n v : Nat} {x : Int32} (h : ∀ i, i < n → f i = nI (g i)) (hx : x = nI v) : ∀ i, i < n + 1 → upd f n x i = nI (va_up g n v i) := by
  intro i hi
  by_cases e : i = n
  · subst e; rw [pk_us, up_s]; exact hx
  · rw [pk_un e, up_n _ _ e]; exact h i (by omega)
theorem up_prs {f : AI} {g : Nat → Nat} {n v : Nat} {x : Int32} (h : ∀ i, i < n → f i = nI (g i) - 1) (hx : x = nI v - 1) : ∀ i, i < n + 1 → upd f n x i = nI (va_up g n v i) - 1 := by
  intro i hi
  by_cases e : i = n
  · subst e; rw [pk_us, up_s]; exact hx
  · rw [pk_un e, up_n _ _ e]; exact h i (by omega)
theorem up_prn {f : AI} {g : Nat → Nat} {n k v : Nat} {x : Int32} (h : ∀ i, i < n → f i = nI (g i) - 1) (hx : x = nI v - 1) : ∀ i, i < n → upd f k x i = nI (va_up g k v i) - 1 := by
  intro i hi
  by_cases e : i = k
  · subst e; rw [pk_us, up_s]; exact hx
  · rw [pk_un e, up_n _ _ e]; exact h i hi
theorem z_m1 : (-1 : Int32) = nI 0 - 1 := by decide
theorem x_setAlone {T : TownV} {k : Nat} (hk : k < 8) : fX6_setAlone T (nI k) = some (upd T.partner k (-1), upd T.speaks k (nI 1)) := by
  have g : ht_ix (nI k) 8 = true := z_ix hk (by omega)
  unfold fX6_setAlone
  rw [z_gd g, z_nm, z_gd g, z_nm, z_cl (by omega), nar1]
theorem addA_R {A : Tn} (h : WR A) (h8 : A.n < 8) {k nd sv vc : Nat} (hk : k ≤ 5) (hn : nd ≤ 99) (hs : sv ≤ 99) (hv : vc ≤ 9) : WR (addA A k nd sv vc) := by
  obtain ⟨r1, r2, r3, r4, r5, r6, r7, r8, r9⟩ := h
  refine ⟨by show A.n + 1 ≤ 8; omega, r2, r3, r4, r5, r6, r7, r8, fun i hi => ?_⟩
  show va_up A.kd A.n k i ≤ 5 ∧ va_up A.nd A.n nd i ≤ 99 ∧ va_up A.sv A.n sv i ≤ 99 ∧ va_up A.vc A.n vc i ≤ 9 ∧ va_up A.sp A.n 1 i ≤ 1 ∧ va_up A.pr A.n 0 i ≤ A.n + 1
  have hi' : i < A.n + 1 := hi
  by_cases e : i = A.n
  · rw [e, up_s, up_s, up_s, up_s, up_s, up_s]
    exact ⟨hk, hn, hs, hv, Nat.le_refl _, Nat.zero_le _⟩
  · rw [up_n _ _ e, up_n _ _ e, up_n _ _ e, up_n _ _ e, up_n _ _ e, up_n _ _ e]
    obtain ⟨q1, q2, q3, q4, q5, q6⟩ := r9 i (by omega)
    exact ⟨q1, q2, q3, q4, q5, by omega⟩
theorem addA_A {A : Tn} (h : WA A) (k nd sv vc : Nat) : WA (addA A k nd sv vc) := by
  intro i hi hp
  have hi' : i < A.n + 1 := hi
  have hp' : va_up A.pr A.n 0 i = 0 := hp
  show va_up A.sp A.n 1 i = 1
  by_cases e : i = A.n
  · rw [e, up_s]
  · rw [up_n _ _ e] at hp' ⊢
    exact h i (by omega) hp'
theorem addA_P {A : Tn} (hR : WR A) (h : WP A) (k nd sv vc : Nat) : WP (addA A k nd sv vc) := by
  intro i hi j hj
  have hi' : i < A.n + 1 := hi
  have hj' : va_up A.pr A.n 0 i = j + 1 := hj
  show j ≠ i ∧ va_up A.pr A.n 0 j = i + 1
  by_cases e : i = A.n
  · rw [e, up_s] at hj'; omega
  · rw [up_n _ _ e] at hj'
    have q := (hR.2.2.2.2.2.2.2.2 i (by omega)).2.2.2.2.2
    obtain ⟨a, b⟩ := h i (by omega) j hj'
    refine ⟨a, ?_⟩
    rw [up_n _ _ (by omega)]; exact b
theorem x_add {A : Tn} {T : TownV} (hT : TX A T) (h8 : A.n < 8) (k nd sv vc : Nat) : ∃ a b c d e f, fX6_add T (nI k) (nI nd) (nI sv) (nI vc) = some (a, b, c, d, e, f, nI (A.n + 1)) ∧ TX (addA A k nd sv vc) (T.laws, a, b, c, d, e, f, nI (A.n + 1), T.day, T.heard, T.geese, T.z) := by
  obtain ⟨hn, hd, hh, hgs, hz, hl, hkd, hne, hsa, hv, hp, hs⟩ := hT
  have g : ht_ix (nI A.n) 8 = true := z_ix h8 (by omega)
  have hlt : nI A.n < (8 : Int32) := nI_lt (b := 8) h8 (by omega)
  refine ⟨upd T.kind A.n (nI k), upd T.need A.n (nI nd), upd T.saved A.n (nI sv), upd T.voice A.n (nI vc), upd T.partner A.n (-1), upd T.speaks A.n (nI 1), ?_, ?_⟩
  · unfold fX6_add
    rw [hn, if_pos hlt, z_cl (by omega)]
    simp only [z_gd g, z_nm]
    rw [z_bn (x_setAlone h8), nI_1]
  · exact ⟨rfl, hd, hh, hgs, hz, hl, up_alls hkd rfl, up_alls hne rfl, up_alls hsa rfl, up_alls hv rfl, up_prs hp z_m1, up_alls hs rfl⟩
theorem m_comes {A : Tn} {RM : ModV} (hM : TM A RM.s) (h8 : A.n < 8) (k nd sv vc : Nat) : ∃ s', fX9_comes RM (nI k) (nI nd) (nI sv) (nI vc) = some s' ∧ TM (addA A k nd sv vc) s' := by
  obtain ⟨h0, h1, h3, h4, h2, hl, hkd, hnd, hsv, hvc, hpr, hsp⟩ := hM
  have g0 : ht_ix (0 : Int32) 57 = true := by decide
  have c0 : ((0 : Int32).toNatClampNeg) = 0 := rfl
  have e0 : (9 : Int32) + ((6 : Int32) * nI A.n) = nI (9 + 6 * A.n) := z_at0 A.n
  have e1 : nI (9 + 6 * A.n) + (1 : Int32) = nI (9 + 6 * A.n + 1) := z_add _ 1
  have e2 : nI (9 + 6 * A.n) + (2 : Int32) = nI (9 + 6 * A.n + 2) := z_add _ 2
  have e3 : nI (9 + 6 * A.n) + (3 : Int32) = nI (9 + 6 * A.n + 3) := z_add _ 3
  have e4 : nI (9 + 6 * A.n) + (4 : Int32) = nI (9 + 6 * A.n + 4) := z_add _ 4
  have e5 : nI (9 + 6 * A.n) + (5 : Int32) = nI (9 + 6 * A.n + 5) := z_add _ 5
  have g : ∀ w, w < 6 → ht_ix (nI (9 + 6 * A.n + w)) 57 = true := fun w hw => z_ix (by omega) (by omega)
  have gg : ht_ix (nI (9 + 6 * A.n)) 57 = true := g 0 (by omega)
  have cl : ∀ w, w < 6 → (nI (9 + 6 * A.n + w)).toNatClampNeg = 9 + 6 * A.n + w := fun w hw => z_cl (by omega)
  have cc : (nI (9 + 6 * A.n)).toNatClampNeg = 9 + 6 * A.n := cl 0 (by omega)
  have hn : upd (upd (upd (upd (upd (upd RM.s (9 + 6 * A.n) (nI k)) (9 + 6 * A.n + 1) (nI nd)) (9 + 6 * A.n + 2) (nI sv)) (9 + 6 * A.n + 3) (nI vc)) (9 + 6 * A.n + 4) (0 : Int32)) (9 + 6 * A.n + 5) (1 : Int32) 0 = nI A.n := by
    rw [pk_un (by omega), pk_un (by omega), pk_un (by omega), pk_un (by omega), pk_un (by omega), pk_un (by omega)]; exact h0
  refine ⟨upd (upd (upd (upd (upd (upd (upd RM.s (9 + 6 * A.n) (nI k)) (9 + 6 * A.n + 1) (nI nd)) (9 + 6 * A.n + 2) (nI sv)) (9 + 6 * A.n + 3) (nI vc)) (9 + 6 * A.n + 4) (0 : Int32)) (9 + 6 * A.n + 5) (1 : Int32)) 0 (nI (A.n + 1)), ?_, ?_⟩
  · unfold fX9_comes
    rw [z_gd g0, c0, h0, z_nm, e0, z_gd gg, z_nm, cc, e1, z_gd (g 1 (by omega)), z_nm, cl 1 (by omega), e2, z_gd (g 2 (by omega)), z_nm, cl 2 (by omega), e3, z_gd (g 3 (by omega)), z_nm, cl 3 (by omega), e4, z_gd (g 4 (by omega)), z_nm, cl 4 (by omega), e5, z_gd (g 5 (by omega)), z_nm, cl 5 (by omega), z_gd g0, z_gd g0, z_nm, hn, nI_1]
  · have far : ∀ j, j < 9 + 6 * A.n → 0 < j → upd (upd (upd (upd (upd (upd (upd RM.s (9 + 6 * A.n) (nI k)) (9 + 6 * A.n + 1) (nI nd)) (9 + 6 * A.n + 2) (nI sv)) (9 + 6 * A.n + 3) (nI vc)) (9 + 6 * A.n + 4) (0 : Int32)) (9 + 6 * A.n + 5) (1 : Int32)) 0 (nI (A.n + 1)) j = RM.s j := by
      intro j hj hj0
      rw [pk_un (by omega), pk_un (by omega), pk_un (by omega), pk_un (by omega), pk_un (by omega), pk_un (by omega), pk_un (by omega)]
    refine ⟨pk_us, (far _ (by omega) (by omega)).trans h1, (far _ (by omega) (by omega)).trans h3, (far _ (by omega) (by omega)).trans h4, (far _ (by omega) (by omega)).trans h2, fun i hi => (far _ (by omega) (by omega)).trans (hl i hi), fun i hi => ?_, fun i hi => ?_, fun i hi => ?_, fun i hi => ?_, fun i hi => ?_, fun i hi => ?_⟩
    · have hi' : i < A.n + 1 := hi
      show _ = nI (va_up A.kd A.n k i)
      by_cases e : i = A.n
      · rw [e, up_s, pk_un (by omega), pk_un (by omega), pk_un (by omega), pk_un (by omega), pk_un (by omega), pk_un (by omega), pk_us]
      · rw [up_n _ _ e, far _ (by omega) (by omega)]; exact hkd i (by omega)
    · have hi' : i < A.n + 1 := hi
      show _ = nI (va_up A.nd A.n nd i)
      by_cases e : i = A.n
      · rw [e, up_s, pk_un (by omega), pk_un (by omega), pk_un (by omega), pk_un (by omega), pk_un (by omega), pk_us]
      · rw [up_n _ _ e, far _ (by omega) (by omega)]; exact hnd i (by omega)
    · have hi' : i < A.n + 1 := hi
      show _ = nI (va_up A.sv A.n sv i)
      by_cases e : i = A.n
      · rw [e, up_s, pk_un (by omega), pk_un (by omega), pk_un (by omega), pk_un (by omega), pk_us]
      · rw [up_n _ _ e, far _ (by omega) (by omega)]; exact hsv i (by omega)
    · have hi' : i < A.n + 1 := hi
      show _ = nI (va_up A.vc A.n vc i)
      by_cases e : i = A.n
      · rw [e, up_s, pk_un (by omega), pk_un (by omega), pk_un (by omega), pk_us]
      · rw [up_n _ _ e, far _ (by omega) (by omega)]; exact hvc i (by omega)
    · have hi' : i < A.n + 1 := hi
      show _ = nI (va_up A.pr A.n 0 i)
      by_cases e : i = A.n
      · rw [e, up_s, pk_un (by omega), pk_un (by omega), pk_us]; rfl
      · rw [up_n _ _ e, far _ (by omega) (by omega)]; exact hpr i (by omega)
    · have hi' : i < A.n + 1 := hi
      show _ = nI (va_up A.sp A.n 1 i)
      by_cases e : i = A.n
      · rw [e, up_s, pk_un (by omega), pk_us]; rfl
      · rw [up_n _ _ e, far _ (by omega) (by omega)]; exact hsp i (by omega)
