/-! ===== the sums of the pairs, and of the sets ===== -/
theorem z_x8 (i j : Nat) : (nI i * (8 : Int32)) + nI j = nI (8 * i + j) := by
  rw [show (8 : Int32) = nI 8 from rfl, z_mul, z_add, Nat.mul_comm]
theorem t_in {A : Tn} {RP : PairV} {N RW : TownV} {M i : Nat} (hN : TX A N) (hR : WR A) (hM : M ≤ 5) (hd : A.day + 60 < 1000000) (hi : i < A.n) (k2 : Int32 → Int32 → AI → AI → AI → AI → AI → AI → AI → AI → AI → Int32 → Int32 → Int32 → Int32 → Option (AI × AI × AI × AI × AI × AI × AI × AI × AI × Int32 × Int32 × Int32 × Int32)) : ∀ (m j fuel : Nat) (snd mos : AI) (W : TownV) (B : Tn), j + m = A.n → i ≤ j → m < fuel → TX B (W.wz RW.z) → WR B → ∃ (snd' : AI) (W' : TownV) (B' : Tn), ht_lp16 (fX2_weigh_b15 RP N RW k2) fuel (nI M) (nI i) (nI j) snd mos W.laws W.kind W.need W.saved W.voice W.partner W.speaks W.count W.day W.heard W.geese = k2 (nI M) (nI (i + 1)) snd' mos W'.laws W'.kind W'.need W'.saved W'.voice W'.partner W'.speaks W'.count W'.day W'.heard W'.geese ∧ TX B' (W'.wz RW.z) ∧ WR B' ∧ (∀ q, j ≤ q → q < A.n → snd' (8 * i + q) = nI (Sd A M i q)) ∧ ∀ x, (x < 8 * i + j ∨ 8 * i + A.n ≤ x) → snd' x = snd x := by
  have h8 := hR.1
  have hc : N.count = nI A.n := hN.1
  intro m
  induction m with
  | zero =>
    intro j fuel snd mos W B hj hij hf hW hB
    obtain ⟨f, rfl⟩ : ∃ f, fuel = f + 1 := ⟨fuel - 1, by omega⟩
    refine ⟨snd, W, B, ?_, hW, hB, fun q q1 q2 => absurd q2 (by omega), fun _ _ => rfl⟩
    show fX2_weigh_b15 RP N RW k2 (ht_lp16 (fX2_weigh_b15 RP N RW k2) f) (nI M) (nI i) (nI j) snd mos W.laws W.kind W.need W.saved W.voice W.partner W.speaks W.count W.day W.heard W.geese = _
    unfold fX2_weigh_b15 fX2_weigh_b57
    rw [hc, if_pos (nI_le (by omega) (by omega)), z_nm, nI_1]
  | succ m ih =>
    intro j fuel snd mos W B hj hij hf hW hB
    obtain ⟨f, rfl⟩ : ∃ f, fuel = f + 1 := ⟨fuel - 1, by omega⟩
    obtain ⟨la, kd, nd, sv, vc, pr, sp, ct, dy, F, e1, hF, hRF, hdF, htot⟩ := x_take (RP := (snd, mos)) hN hR hW hB hi (show j < A.n by omega)
    obtain ⟨nd', sv', sp', dy', hr', gs', e2, hF2⟩ := x_pass hF hRF (n := M) (by omega) (by omega)
    have hRF2 := passA_R hRF M (by omega)
    have g64 : ht_ix (nI (8 * i + j)) 64 = true := z_ix (by omega) (by omega)
    have c64 : (nI (8 * i + j)).toNatClampNeg = 8 * i + j := z_cl (by omega)
    obtain ⟨snd2, W2, B2, e3, h3, h4, h5, h6⟩ := ih (j + 1) f (upd snd (8 * i + j) (nI (Sd A M i j))) mos (la, kd, nd', sv', vc, pr, sp', ct, dy', hr', gs', RW.z) (passA F M) (by omega) (by omega) (by omega) hF2 hRF2
    refine ⟨snd2, W2, B2, Eq.trans ?_ e3, h3, h4, fun q q1 q2 => ?_, fun x hx => ?_⟩
    · show fX2_weigh_b15 RP N RW k2 (ht_lp16 (fX2_weigh_b15 RP N RW k2) f) (nI M) (nI i) (nI j) snd mos W.laws W.kind W.need W.saved W.voice W.partner W.speaks W.count W.day W.heard W.geese = _
      generalize ht_lp16 (fX2_weigh_b15 RP N RW k2) f = K
      unfold fX2_weigh_b15
      rw [hc, if_neg (nI_ge (by omega) (by omega))]
      refine Eq.trans (z_bn e1) ?_
      refine Eq.trans (z_bn e2) ?_
      rw [z_x8, z_gd g64, z_nm, z_nm, c64, nI_1, htot M]
    · by_cases e : q = j
      · subst e
        rw [h6 (8 * i + q) (Or.inl (by omega)), pk_us]
      · exact h5 q (by omega) q2
    · rw [h6 x (by omega), pk_un (by omega)]
theorem t_out {A : Tn} {RP : PairV} {N RW : TownV} {M : Nat} (hN : TX A N) (hR : WR A) (hM : M ≤ 5) (hd : A.day + 60 < 1000000) : ∀ (m i fuel : Nat) (snd mos : AI) (W : TownV) (B : Tn), i + m = A.n → m < fuel → TX B (W.wz RW.z) → WR B → ∃ (snd' : AI) (W' : TownV) (B' : Tn), ht_lp15 (fX2_weigh_b2 RP N RW) fuel (nI M) (nI i) snd mos W.laws W.kind W.need W.saved W.voice W.partner W.speaks W.count W.day W.heard W.geese = fX2_weigh_b63 RP N RW snd' mos W'.laws W'.kind W'.need W'.saved W'.voice W'.partner W'.speaks W'.count W'.day W'.heard W'.geese ∧ TX B' (W'.wz RW.z) ∧ WR B' ∧ (∀ k q, i ≤ k → k ≤ q → q < A.n → snd' (8 * k + q) = nI (Sd A M k q)) ∧ ∀ x, x < 8 * i → snd' x = snd x := by
  have h8 := hR.1
  have hc : N.count = nI A.n := hN.1
  intro m
  induction m with
  | zero =>
    intro i fuel snd mos W B hi hf hW hB
    obtain ⟨f, rfl⟩ : ∃ f, fuel = f + 1 := ⟨fuel - 1, by omega⟩
    refine ⟨snd, W, B, ?_, hW, hB, fun k q k1 k2 k3 => absurd k3 (by omega), fun _ _ => rfl⟩
    show fX2_weigh_b2 RP N RW (ht_lp15 (fX2_weigh_b2 RP N RW) f) (nI M) (nI i) snd mos W.laws W.kind W.need W.saved W.voice W.partner W.speaks W.count W.day W.heard W.geese = _
    unfold fX2_weigh_b2
    rw [hc, if_pos (nI_le (by omega) (by omega))]
  | succ m ih =>
    intro i fuel snd mos W B hi hf hW hB
    obtain ⟨f, rfl⟩ : ∃ f, fuel = f + 1 := ⟨fuel - 1, by omega⟩
    obtain ⟨snd1, W1, B1, e1, h1, h2, h3, h4⟩ := t_in (RP := RP) (RW := RW) hN hR hM hd (show i < A.n by omega) (ht_lp15 (fX2_weigh_b2 RP N RW) f) (A.n - i) i FU snd mos W B (by omega) (Nat.le_refl i) (by show A.n - i < 300; omega) hW hB
    obtain ⟨snd2, W2, B2, e2, h5, h6, h7, h9⟩ := ih (i + 1) f snd1 mos W1 B1 (by omega) (by omega) h1 h2
    refine ⟨snd2, W2, B2, Eq.trans ?_ (e1.trans e2), h5, h6, fun k q k1 k2 k3 => ?_, fun x hx => ?_⟩
    · show fX2_weigh_b2 RP N RW (ht_lp15 (fX2_weigh_b2 RP N RW) f) (nI M) (nI i) snd mos W.laws W.kind W.need W.saved W.voice W.partner W.speaks W.count W.day W.heard W.geese = _
      generalize ht_lp15 (fX2_weigh_b2 RP N RW) f = K
      unfold fX2_weigh_b2
      rw [hc, if_neg (nI_ge (by omega) (by omega))]
    · by_cases e : k = i
      · subst e
        rw [h9 (8 * k + q) (by omega)]
        exact h3 q k2 k3
      · exact h7 k q (by omega) k2 k3
    · rw [h9 x (by omega)]
      exact h4 x (Or.inl (by omega))
/-! sets of people as numbers -/
def wo (m a b : Nat) : Nat := m &&& (255 ^^^ (2 ^ a ||| 2 ^ b))
theorem z_wo : ∀ (m : Fin 256) (a b : Fin 8), nI m.val &&& ((((1 : Int32) <<< (nI a.val &&& 31)) ||| ((1 : Int32) <<< (nI b.val &&& 31))) ^^^ (-1 : Int32)) = nI (wo m.val a.val b.val) ∧ (m.val.testBit a.val = true → wo m.val a.val b.val < m.val) ∧ wo m.val a.val b.val ≤ m.val := by decide +kernel
theorem wo_bit : ∀ (a b k : Fin 8), (255 ^^^ (2 ^ a.val ||| 2 ^ b.val)).testBit k.val = !(decide (k.val = a.val) || decide (k.val = b.val)) := by decide +kernel
theorem wo_test {m a b k : Nat} (ha : a < 8) (hb : b < 8) (hk : k < 8) : (wo m a b).testBit k = rm2 (fun t => m.testBit t) a b k := by
  unfold wo rm2
  rw [Nat.testBit_and, wo_bit ⟨a, ha⟩ ⟨b, hb⟩ ⟨k, hk⟩]
theorem bR_skip {S : Nat → Nat → Nat} : ∀ (e o d : Nat) (R : Nat → Bool), (∀ k, o ≤ k → k < o + e → R k = false) → bR S (e + d) o R = bR S d (o + e) R := by
  intro e
  induction e with
  | zero => intro o d R _; rw [Nat.zero_add, Nat.add_zero]
  | succ e ih =>
    intro o d R h
    rw [show e + 1 + d = (e + d) + 1 by omega]
    show (if R o then _ else bR S (e + d) (o + 1) R) = _
    rw [h o (Nat.le_refl o) (by omega)]
    show bR S (e + d) (o + 1) R = _
    rw [ih (o + 1) d R (fun k k1 k2 => h k (by omega) (by omega)), show o + 1 + e = o + (e + 1) by omega]
theorem mxQ_cong {V V' : Nat → Nat} {R : Nat → Bool} : ∀ m q, (∀ k, q ≤ k → k < q + m → V k = V' k) → mxQ V R m q = mxQ V' R m q
  | 0, _, _ => rfl
  | m + 1, q, h => by
    show (if R q then max (V q) (mxQ V R m (q + 1)) else mxQ V R m (q + 1)) = (if R q then max (V' q) (mxQ V' R m (q + 1)) else mxQ V' R m (q + 1))
    rw [h q (Nat.le_refl q) (by omega), mxQ_cong m (q + 1) (fun k k1 k2 => h k (by omega) (by omega))]
theorem mxQ_le {V : Nat → Nat} {R : Nat → Bool} {c : Nat} : ∀ m q, (∀ k, q ≤ k → k < q + m → V k ≤ c) → mxQ V R m q ≤ c
  | 0, _, _ => Nat.zero_le _
  | m + 1, q, h => by
    have h1 := h q (Nat.le_refl q) (by omega)
    have h2 := mxQ_le (V := V) (R := R) m (q + 1) (fun k k1 k2 => h k (by omega) (by omega))
    show (if R q then max (V q) (mxQ V R m (q + 1)) else mxQ V R m (q + 1)) ≤ c
    split
    · exact Nat.max_le.mpr ⟨h1, h2⟩
    · exact h2
theorem bR_le {S : Nat → Nat → Nat} {n b : Nat} (h : ∀ i j, i < n → j < n → S i j ≤ b) : ∀ d o R, o + d = n → bR S d o R ≤ b * d := by
  intro d
  induction d with
  | zero => intro o R _; exact Nat.zero_le _
  | succ d ih =>
    intro o R ho
    show (if R o then mxQ (fun q => S o q + bR S d (o + 1) (rm2 R o q)) R (d + 1) o else bR S d (o + 1) R) ≤ b * (d + 1)
    have e : b * (d + 1) = b * d + b := Nat.mul_succ b d
    split
    · refine mxQ_le (d + 1) o (fun k k1 k2 => ?_)
      have h1 := h o k (by omega) (by omega)
      have h2 := ih (o + 1) (rm2 R o k) (by omega)
      show S o k + bR S d (o + 1) (rm2 R o k) ≤ b * (d + 1)
      omega
    · have h2 := ih (o + 1) R (by omega)
      omega
/-- the best of a set, from its least one -/
theorem bR_top {S : Nat → Nat → Nat} {n m f : Nat} (hn : n ≤ 8) (hf : f < n) (hb : m.testBit f = true) (hl : ∀ k, k < f → m.testBit k = false) : bR S n 0 (fun t => m.testBit t) = mxQ (fun q => S f q + bR S n 0 (fun t => (wo m f q).testBit t)) (fun t => m.testBit t) (n - f) f := by
  have e1 := bR_skip (S := S) f 0 (n - f) (fun t => m.testBit t) (fun k _ k2 => hl k (by omega))
  rw [show f + (n - f) = n by omega, Nat.zero_add] at e1
  rw [e1, show n - f = (n - f - 1) + 1 by omega]
  show (if m.testBit f = true then mxQ (fun q => S f q + bR S (n - f - 1) (f + 1) (rm2 (fun t => m.testBit t) f q)) (fun t => m.testBit t) (n - f - 1 + 1) f else _) = _
  rw [if_pos hb]
  refine mxQ_cong _ _ (fun q q1 q2 => ?_)
  show S f q + bR S (n - f - 1) (f + 1) (rm2 (fun t => m.testBit t) f q) = S f q + bR S n 0 (fun t => (wo m f q).testBit t)
  have e2 := bR_skip (S := S) (f + 1) 0 (n - f - 1) (fun t => (wo m f q).testBit t) (fun k _ k2 => by
    show (wo m f q).testBit k = false
    rw [wo_test (by omega) (by omega) (by omega)]
    unfold rm2
    by_cases x : k = f
    · subst x; simp
    · show (m.testBit k && !(decide (k = f) || decide (k = q))) = false
      rw [hl k (by omega)]; rfl)
  rw [show f + 1 + (n - f - 1) = n by omega, Nat.zero_add] at e2
  rw [e2, bR_cong (n - f - 1) (f + 1) (R := rm2 (fun t => m.testBit t) f q) (R' := fun t => (wo m f q).testBit t) (fun k k1 k2 => (wo_test (by omega) (by omega) (by omega)).symm)]
theorem x_soundIf {A : Tn} {M n f q m : Nat} {RP : PairV} (hf : f < 8) (hq : q < 8) (hm : m < 256) (hs : RP.sounds (8 * f + q) = nI (Sd A M f q)) (hw : RP.mostOfSet (wo m f q) = nI (bR (Sd A M) n 0 (fun t => (wo m f q).testBit t))) : fX2_soundIf RP (nI f) (nI q) (nI m) = some (nI (Sd A M f q + bR (Sd A M) n 0 (fun t => (wo m f q).testBit t))) := by
  obtain ⟨w1, -, w3⟩ := z_wo ⟨m, hm⟩ ⟨f, hf⟩ ⟨q, hq⟩
  have hW : fX2_without RP (nI f) (nI q) (nI m) = some (nI (wo m f q)) := congrArg some w1
  have w3' : wo m f q ≤ m := w3
  unfold fX2_soundIf
  rw [z_x8, z_gd (z_ix (by omega) (by omega)), z_bn hW, z_gd (z_ix (by omega) (by omega)), z_cl (by omega), z_cl (by omega), hs, hw, z_add]
theorem t_most {A : Tn} {M f m : Nat} {RP : PairV} {N : TownV} (h8 : A.n ≤ 8) (hc : N.count = nI A.n) (hf : f < A.n) (hm : m < 256) (hS : ∀ i j, i < A.n → j < A.n → Sd A M i j ≤ 2880) (hs : ∀ q, f ≤ q → q < A.n → RP.sounds (8 * f + q) = nI (Sd A M f q)) (hw : ∀ q, f ≤ q → q < A.n → RP.mostOfSet (wo m f q) = nI (bR (Sd A M) A.n 0 (fun t => (wo m f q).testBit t))) : ∀ (d q fuel most : Nat), q + d = A.n → f ≤ q → d < fuel → most ≤ 100000 → ht_lp4 (fX2_mostWith_b5 RP N) fuel (nI f) (nI m) (nI most) (nI q) = some (nI (max most (mxQ (fun q => Sd A M f q + bR (Sd A M) A.n 0 (fun t => (wo m f q).testBit t)) (fun t => m.testBit t) d q))) := by
  intro d
  induction d with
  | zero =>
    intro q fuel most hq hfq hfu hmo
    obtain ⟨g, rfl⟩ : ∃ g, fuel = g + 1 := ⟨fuel - 1, by omega⟩
    show fX2_mostWith_b5 RP N (ht_lp4 (fX2_mostWith_b5 RP N) g) (nI f) (nI m) (nI most) (nI q) = _
    unfold fX2_mostWith_b5
    rw [hc, if_pos (nI_le (by omega) (by omega))]
    show some (nI most) = some (nI (max most 0))
    rw [Nat.max_eq_left (Nat.zero_le _)]
  | succ d ih =>
    intro q fuel most hq hfq hfu hmo
    obtain ⟨g, rfl⟩ : ∃ g, fuel = g + 1 := ⟨fuel - 1, by omega⟩
    have hv : Sd A M f q + bR (Sd A M) A.n 0 (fun t => (wo m f q).testBit t) ≤ 100000 := by
      have h1 := hS f q hf (by omega)
      have h2 := bR_le hS A.n 0 (fun t => (wo m f q).testBit t) (by omega)
      have h3 : 2880 * A.n ≤ 2880 * 8 := Nat.mul_le_mul_left 2880 h8
      omega
    have b1 := (z_bit1 (m := m) (k := q) hm (by omega)).2
    by_cases hb : m.testBit q = true
    · have e := ih (q + 1) g (max most (Sd A M f q + bR (Sd A M) A.n 0 (fun t => (wo m f q).testBit t))) (by omega) (by omega) (by omega) (Nat.max_le.mpr ⟨hmo, hv⟩)
      have eS := x_soundIf (A := A) (M := M) (n := A.n) (RP := RP) (show f < 8 by omega) (show q < 8 by omega) hm (hs q hfq (by omega)) (hw q hfq (by omega))
      have emx : (if nI most < nI (Sd A M f q + bR (Sd A M) A.n 0 (fun t => (wo m f q).testBit t)) then nI (Sd A M f q + bR (Sd A M) A.n 0 (fun t => (wo m f q).testBit t)) else nI most) = nI (max most (Sd A M f q + bR (Sd A M) A.n 0 (fun t => (wo m f q).testBit t))) := by
        by_cases x : most < Sd A M f q + bR (Sd A M) A.n 0 (fun t => (wo m f q).testBit t)
        · rw [if_pos (nI_lt x (by omega)), Nat.max_eq_right (by omega)]
        · rw [if_neg (nI_nlt (by omega) (by omega)), Nat.max_eq_left (by omega)]
      rw [mxQ_yes (R := fun t => m.testBit t) hb]
      show fX2_mostWith_b5 RP N (ht_lp4 (fX2_mostWith_b5 RP N) g) (nI f) (nI m) (nI most) (nI q) = _
      generalize ht_lp4 (fX2_mostWith_b5 RP N) g = K at e ⊢
      unfold fX2_mostWith_b5 fX2_mostWith_b40
      rw [hc, if_neg (nI_ge (by omega) (by omega)), if_pos (b1.mpr hb), z_bn eS, emx, z_nm, z_nm, nI_1, e, Nat.max_assoc]
    · have e := ih (q + 1) g most (by omega) (by omega) (by omega) hmo
      rw [mxQ_no (R := fun t => m.testBit t) (by simpa using hb)]
      show fX2_mostWith_b5 RP N (ht_lp4 (fX2_mostWith_b5 RP N) g) (nI f) (nI m) (nI most) (nI q) = _
      generalize ht_lp4 (fX2_mostWith_b5 RP N) g = K at e ⊢
      unfold fX2_mostWith_b5 fX2_mostWith_b40
      rw [hc, if_neg (nI_ge (by omega) (by omega)), if_neg (fun x => hb (b1.mp x)), z_nm, nI_1, e]
theorem t_firstOf {RP : PairV} {m : Nat} (hm : m < 256) (h0 : m ≠ 0) : ∀ (d k fuel : Nat), k + d = 8 → d < fuel → (∀ t, t < k → m.testBit t = false) → ∃ f, f < 8 ∧ m.testBit f = true ∧ (∀ t, t < f → m.testBit t = false) ∧ ht_lp2 (fX2_firstOf_b2 RP) fuel (nI m) (nI k) = some (nI f) := by
  intro d
  induction d with
  | zero =>
    intro k fuel hk hf hl
    exfalso
    apply h0
    apply Nat.eq_of_testBit_eq
    intro t
    rw [Nat.zero_testBit]
    by_cases x : t < 8
    · exact hl t (by omega)
    · exact Nat.testBit_lt_two_pow (Nat.lt_of_lt_of_le hm (Nat.pow_le_pow_right (n := 2) (by omega) (show 8 ≤ t by omega)))
  | succ d ih =>
    intro k fuel hk hf hl
    obtain ⟨g, rfl⟩ : ∃ g, fuel = g + 1 := ⟨fuel - 1, by omega⟩
    have b1 := (z_bit1 (m := m) (k := k) hm (by omega)).2
    have c8 : ¬ (8 : Int32) ≤ nI k := nI_ge (b := 8) (by omega) (by omega)
    by_cases hb : m.testBit k = true
    · refine ⟨k, by omega, hb, hl, ?_⟩
      show fX2_firstOf_b2 RP (ht_lp2 (fX2_firstOf_b2 RP) g) (nI m) (nI k) = _
      unfold fX2_firstOf_b2
      rw [if_neg c8, if_pos (b1.mpr hb)]
    · obtain ⟨f, f1, f2, f3, e⟩ := ih (k + 1) g (by omega) (by omega) (fun t ht => by
        by_cases x : t = k
        · subst x; simpa using hb
        · exact hl t (by omega))
      refine ⟨f, f1, f2, f3, ?_⟩
      show fX2_firstOf_b2 RP (ht_lp2 (fX2_firstOf_b2 RP) g) (nI m) (nI k) = _
      generalize ht_lp2 (fX2_firstOf_b2 RP) g = K at e ⊢
      unfold fX2_firstOf_b2
      rw [if_neg c8, if_neg (fun x => hb (b1.mp x)), z_nm, nI_1]
      exact e
theorem x_every {A : Tn} {RP : PairV} {N : TownV} (h8 : A.n ≤ 8) (hc : N.count = nI A.n) : fX2_everyone RP N = some (nI (2 ^ A.n - 1)) := by
  unfold fX2_everyone
  rw [hc, z_shl ⟨A.n, by omega⟩]
  exact congrArg some (z_sub (b := 1) (Nat.two_pow_pos A.n))
theorem bit_lt {m n f : Nat} (h : m < 2 ^ n) (hb : m.testBit f = true) : f < n := by
  refine Nat.lt_of_not_le (fun x => ?_)
  have := Nat.testBit_lt_two_pow (Nat.lt_of_lt_of_le h (Nat.pow_le_pow_right (n := 2) (by omega) x))
  rw [this] at hb
  exact absurd hb (by decide)
theorem t_dp {A : Tn} {M : Nat} {RP : PairV} {N RW : TownV} {snd : AI} {W : TownV} (h8 : A.n ≤ 8) (hc : N.count = nI A.n) (hS : ∀ i j, i < A.n → j < A.n → Sd A M i j ≤ 2880) (hs : ∀ k q, k ≤ q → q < A.n → snd (8 * k + q) = nI (Sd A M k q)) : ∀ (d m fuel : Nat) (mos : AI), m + d = 2 ^ A.n → 1 ≤ m → d < fuel → (∀ x, x < m → mos x = nI (bR (Sd A M) A.n 0 (fun t => x.testBit t))) → ∃ mos' : AI, ht_lp15 (fX2_weigh_b77 RP N RW) fuel (nI (2 ^ A.n - 1)) (nI m) snd mos W.laws W.kind W.need W.saved W.voice W.partner W.speaks W.count W.day W.heard W.geese = some (snd, mos', W.laws, W.kind, W.need, W.saved, W.voice, W.partner, W.speaks, W.count, W.day, W.heard, W.geese) ∧ ∀ x, x < 2 ^ A.n → mos' x = nI (bR (Sd A M) A.n 0 (fun t => x.testBit t)) := by
  have hp : 2 ^ A.n ≤ 256 := by
    have : (2 : Nat) ^ A.n ≤ 2 ^ 8 := Nat.pow_le_pow_right (by omega) h8
    omega
  intro d
  induction d with
  | zero =>
    intro m fuel mos hm h1 hf hx
    obtain ⟨g, rfl⟩ : ∃ g, fuel = g + 1 := ⟨fuel - 1, by omega⟩
    refine ⟨mos, ?_, fun x hx' => hx x (by omega)⟩
    show fX2_weigh_b77 RP N RW (ht_lp15 (fX2_weigh_b77 RP N RW) g) (nI (2 ^ A.n - 1)) (nI m) snd mos W.laws W.kind W.need W.saved W.voice W.partner W.speaks W.count W.day W.heard W.geese = _
    unfold fX2_weigh_b77
    rw [if_pos (nI_lt (by omega) (by omega))]
  | succ d ih =>
    intro m fuel mos hm h1 hf hx
    obtain ⟨g, rfl⟩ : ∃ g, fuel = g + 1 := ⟨fuel - 1, by omega⟩
    have hm256 : m < 256 := by omega
    obtain ⟨f, f1, f2, f3, eF⟩ := t_firstOf (RP := (snd, mos)) hm256 (by omega) 8 0 FU (by omega) (by decide) (fun t ht => absurd ht (by omega))
    have hfn : f < A.n := bit_lt (m := m) (by omega) f2
    have eM := t_most (RP := (snd, mos)) (N := N) h8 hc hfn hm256 hS (fun q q1 q2 => hs f q q1 q2) (fun q q1 q2 => hx (wo m f q) (by
      have := (z_wo ⟨m, hm256⟩ ⟨f, f1⟩ ⟨q, by omega⟩).2.1 f2
      exact this)) (A.n - f) f FU 0 (by omega) (Nat.le_refl f) (by show A.n - f < 300; omega) (by omega)
    rw [Nat.zero_max, ← bR_top h8 hfn f2 f3] at eM
    obtain ⟨mos', e, h⟩ := ih (m + 1) g (upd mos m (nI (bR (Sd A M) A.n 0 (fun t => m.testBit t)))) (by omega) (by omega) (by omega) (fun x hx' => by
      by_cases y : x = m
      · subst y; exact pk_us
      · rw [pk_un y]; exact hx x (by omega))
    refine ⟨mos', Eq.trans ?_ e, h⟩
    have g256 : ht_ix (nI m) 256 = true := z_ix hm256 (by omega)
    show fX2_weigh_b77 RP N RW (ht_lp15 (fX2_weigh_b77 RP N RW) g) (nI (2 ^ A.n - 1)) (nI m) snd mos W.laws W.kind W.need W.saved W.voice W.partner W.speaks W.count W.day W.heard W.geese = _
    generalize ht_lp15 (fX2_weigh_b77 RP N RW) g = K
    unfold fX2_weigh_b77
    have eF' : fX2_firstOf (snd, mos) (nI m) = some (nI f) := eF
    have eM' : fX2_mostWith (snd, mos) N (nI f) (nI m) = some (nI (bR (Sd A M) A.n 0 (fun t => m.testBit t))) := eM
    rw [if_neg (nI_nlt (by omega) (by omega)), z_bn eF', z_bn eM', z_gd g256, z_nm, z_nm, z_cl (by omega), nI_1]
/-- all is weighed -/
theorem x_weigh {A B : Tn} {RP : PairV} {N W : TownV} {M : Nat} (hN : TX A N) (hR : WR A) (hM : M ≤ 5) (hd : A.day + 60 < 1000000) (hW : TX B W) (hB : WR B) : ∃ (snd mos : AI) (W' : TownV) (B' : Tn), fX2_weigh RP N W (nI M) = some (snd, mos, W'.laws, W'.kind, W'.need, W'.saved, W'.voice, W'.partner, W'.speaks, W'.count, W'.day, W'.heard, W'.geese) ∧ TX B' (W'.wz W.z) ∧ WR B' ∧ (∀ k q, k ≤ q → q < A.n → snd (8 * k + q) = nI (Sd A M k q)) ∧ (∀ x, x < 2 ^ A.n → mos x = nI (bR (Sd A M) A.n 0 (fun t => x.testBit t))) ∧ (∀ i j, i < A.n → j < A.n → Sd A M i j ≤ 2880) := by
  have h8 := hR.1
  have hc : N.count = nI A.n := hN.1
  have hS : ∀ i j, i < A.n → j < A.n → Sd A M i j ≤ 2880 := by
    intro i j hi hj
    obtain ⟨la, kd, nd, sv, vc, pr, sp, ct, dy, F, -, -, hRF, hdF, htot⟩ := x_take (RP := RP) hN hR hN hR hi hj
    have h1 := totA_le hRF M (by omega)
    rw [htot M] at h1
    have h2 : 576 * M ≤ 576 * 5 := Nat.mul_le_mul_left 576 hM
    omega
  obtain ⟨snd, W1, B1, e1, h1, h2, h3, -⟩ := t_out (RP := RP) (RW := W) hN hR hM hd A.n 0 FU RP.sounds RP.mostOfSet W B (by omega) (by show A.n < 300; omega) hW hB
  have hp1 : 1 ≤ 2 ^ A.n := Nat.two_pow_pos A.n
  have hp : 2 ^ A.n ≤ 256 := by
    have : (2 : Nat) ^ A.n ≤ 2 ^ 8 := Nat.pow_le_pow_right (by omega) h8
    omega
  obtain ⟨mos, e2, h4⟩ := t_dp (RP := RP) (N := N) (RW := W) (snd := snd) (W := W1) h8 hc hS (fun k q k1 k2 => h3 k q (Nat.zero_le k) k1 k2) (2 ^ A.n - 1) 1 FU (upd RP.mostOfSet 0 0) (by omega) (Nat.le_refl 1) (by show 2 ^ A.n - 1 < 300; omega) (fun x hx => by
    have : x = 0 := by omega
    subst this
    rw [pk_us]
    have e := bR_skip (S := Sd A M) A.n 0 0 (fun t => (0 : Nat).testBit t) (fun k _ _ => Nat.zero_testBit k)
    rw [Nat.add_zero] at e
    rw [e]
    rfl)
  refine ⟨snd, mos, W1, B1, ?_, h1, h2, fun k q k1 k2 => h3 k q (Nat.zero_le k) k1 k2, h4, hS⟩
  unfold fX2_weigh
  refine Eq.trans e1 ?_
  have g0 : ht_ix (0 : Int32) 256 = true := by decide
  unfold fX2_weigh_b63
  rw [z_gd g0, z_nm, z_bn (x_every h8 hc)]
  exact e2
