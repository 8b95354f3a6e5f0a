/-! ===== the first best way, and best, bestOf ===== -/
theorem wR_stay {S : Nat → Nat → Nat} : ∀ (d o : Nat) (R : Nat → Bool) (P : Nat → Nat) (k : Nat), (R k = false ∨ k < o) → wR S d o R P k = P k := by
  intro d
  induction d with
  | zero => intro o R P k _; rfl
  | succ d ih =>
    intro o R P k h
    show (if R o then wR S d (o + 1) (rm2 R o (fsQ (fun q => S o q + bR S d (o + 1) (rm2 R o q)) R (bR S (d + 1) o R) o (d + 1) o)) (setP P o (fsQ (fun q => S o q + bR S d (o + 1) (rm2 R o q)) R (bR S (d + 1) o R) o (d + 1) o)) else wR S d (o + 1) R P) k = P k
    by_cases ho : R o = true
    · rw [if_pos ho]
      generalize hq : fsQ (fun q => S o q + bR S d (o + 1) (rm2 R o q)) R (bR S (d + 1) o R) o (d + 1) o = q
      have hqR : R q = true ∧ o ≤ q := by
        have key : ∀ (V : Nat → Nat) (v : Nat) (m x : Nat), o ≤ x → R (fsQ V R v o m x) = true ∧ o ≤ fsQ V R v o m x := by
          intro V v m
          induction m with
          | zero => intro x _; exact ⟨ho, Nat.le_refl o⟩
          | succ m ihm =>
            intro x hx
            by_cases y : R x = true ∧ V x = v
            · rw [fsQ_yes y.1 y.2]; exact ⟨y.1, hx⟩
            · rw [fsQ_no y]; exact ihm (x + 1) (by omega)
        rw [← hq]
        exact key _ _ _ _ (Nat.le_refl o)
      have kq : k ≠ q ∧ k ≠ o := by
        rcases h with h | h
        · exact ⟨fun e => by rw [e, hqR.1] at h; exact absurd h (by decide), fun e => by rw [e, ho] at h; exact absurd h (by decide)⟩
        · exact ⟨by omega, by omega⟩
      have e1 : setP P o q k = P k := by
        unfold setP
        by_cases y : q = o
        · rw [if_pos y]
        · rw [if_neg y, up_n _ _ kq.1, up_n _ _ kq.2]
      rw [ih (o + 1) (rm2 R o q) (setP P o q) k (by
        rcases h with h | h
        · left; unfold rm2; rw [h]; rfl
        · right; omega), e1]
    · rw [if_neg ho]
      exact ih (o + 1) R P k (by
        rcases h with h | h
        · exact Or.inl h
        · exact Or.inr (by omega))
theorem fsQ_in {V : Nat → Nat} {R : Nat → Bool} {v o n : Nat} (ho : R o = true) (hon : o < n) : ∀ m q, o ≤ q → q + m = n → R (fsQ V R v o m q) = true ∧ o ≤ fsQ V R v o m q ∧ fsQ V R v o m q < n := by
  intro m
  induction m with
  | zero => intro q _ _; exact ⟨ho, Nat.le_refl o, hon⟩
  | succ m ihm =>
    intro q hq hqn
    by_cases y : R q = true ∧ V q = v
    · rw [fsQ_yes y.1 y.2]; exact ⟨y.1, hq, by omega⟩
    · rw [fsQ_no y]; exact ihm (q + 1) (by omega) (by omega)
section
variable {A : Tn} {M : Nat} {RP : PairV} {N : TownV}
/-- the class' choice for one -/
theorem t_choice {o m : Nat} (h8 : A.n ≤ 8) (hc : N.count = nI A.n) (ho : o < A.n) (hm : m < 2 ^ A.n) (hS : ∀ i j, i < A.n → j < A.n → Sd A M i j ≤ 2880) (hs : ∀ k q, k ≤ q → q < A.n → RP.sounds (8 * k + q) = nI (Sd A M k q)) (hmo : ∀ x, x < 2 ^ A.n → RP.mostOfSet x = nI (bR (Sd A M) A.n 0 (fun t => x.testBit t))) : ∀ (d q fuel : Nat), q + d = A.n → o ≤ q → d < fuel → ht_lp3 (fX2_firstChoice_b2 RP N) fuel (nI o) (nI m) (nI q) = some (nI (fsQ (fun q => Sd A M o q + bR (Sd A M) A.n 0 (fun t => (wo m o q).testBit t)) (fun t => m.testBit t) (bR (Sd A M) A.n 0 (fun t => m.testBit t)) o d q)) := by
  have hp : 2 ^ A.n ≤ 256 := by
    have : (2 : Nat) ^ A.n ≤ 2 ^ 8 := Nat.pow_le_pow_right (by omega) h8
    omega
  have hm256 : m < 256 := by omega
  have g256 : ht_ix (nI m) 256 = true := z_ix hm256 (by omega)
  have bd : ∀ x : Nat → Bool, bR (Sd A M) A.n 0 x ≤ 23040 := fun x => by
    have h2 := bR_le hS A.n 0 x (by omega)
    have h3 : 2880 * A.n ≤ 2880 * 8 := Nat.mul_le_mul_left 2880 h8
    omega
  intro d
  induction d with
  | zero =>
    intro q fuel hq hoq hf
    obtain ⟨g, rfl⟩ : ∃ g, fuel = g + 1 := ⟨fuel - 1, by omega⟩
    show fX2_firstChoice_b2 RP N (ht_lp3 (fX2_firstChoice_b2 RP N) g) (nI o) (nI m) (nI q) = _
    unfold fX2_firstChoice_b2
    rw [hc, if_pos (nI_le (by omega) (by omega))]
    rfl
  | succ d ih =>
    intro q fuel hq hoq hf
    obtain ⟨g, rfl⟩ : ∃ g, fuel = g + 1 := ⟨fuel - 1, by omega⟩
    have e := ih (q + 1) g (by omega) (by omega) (by omega)
    have b1 := (z_bit1 (m := m) (k := q) hm256 (by omega)).2
    have w3 := (z_wo ⟨m, hm256⟩ ⟨o, by omega⟩ ⟨q, by omega⟩).2.2
    have w3' : wo m o q ≤ m := w3
    by_cases hb : m.testBit q = true
    · have eS := x_soundIf (A := A) (M := M) (n := A.n) (RP := RP) (show o < 8 by omega) (show q < 8 by omega) hm256 (hs o q hoq (by omega)) (hmo (wo m o q) (by omega))
      have b2 := bd (fun t => (wo m o q).testBit t)
      have b3 := bd (fun t => m.testBit t)
      have b4 := hS o q ho (by omega)
      by_cases hv : Sd A M o q + bR (Sd A M) A.n 0 (fun t => (wo m o q).testBit t) = bR (Sd A M) A.n 0 (fun t => m.testBit t)
      · rw [fsQ_yes (R := fun t => m.testBit t) hb hv]
        show fX2_firstChoice_b2 RP N (ht_lp3 (fX2_firstChoice_b2 RP N) g) (nI o) (nI m) (nI q) = _
        unfold fX2_firstChoice_b2
        rw [hc, if_neg (nI_ge (by omega) (by omega)), if_pos (b1.mpr hb), z_bn eS, z_gd g256, z_cl (by omega), hmo m hm, if_pos (by rw [hv])]
      · rw [fsQ_no (V := fun q => Sd A M o q + bR (Sd A M) A.n 0 (fun t => (wo m o q).testBit t)) (R := fun t => m.testBit t) (fun z => hv z.2)]
        show fX2_firstChoice_b2 RP N (ht_lp3 (fX2_firstChoice_b2 RP N) g) (nI o) (nI m) (nI q) = _
        generalize ht_lp3 (fX2_firstChoice_b2 RP N) g = K at e ⊢
        unfold fX2_firstChoice_b2 fX2_firstChoice_b40
        rw [hc, if_neg (nI_ge (by omega) (by omega)), if_pos (b1.mpr hb), z_bn eS, z_gd g256, z_cl (by omega), hmo m hm, if_neg (fun x => hv ((z_eq (by omega) (by omega)).mp x)), z_nm, nI_1]
        exact e
    · rw [fsQ_no (R := fun t => m.testBit t) (fun z => hb z.1)]
      show fX2_firstChoice_b2 RP N (ht_lp3 (fX2_firstChoice_b2 RP N) g) (nI o) (nI m) (nI q) = _
      generalize ht_lp3 (fX2_firstChoice_b2 RP N) g = K at e ⊢
      unfold fX2_firstChoice_b2 fX2_firstChoice_b40
      rw [hc, if_neg (nI_ge (by omega) (by omega)), if_neg (fun x => hb (b1.mp x)), z_nm, nI_1]
      exact e
/-- whom the class finds for one in the first best way -/
theorem t_way {p : Nat} (h8 : A.n ≤ 8) (hc : N.count = nI A.n) (hp : p < A.n) (hS : ∀ i j, i < A.n → j < A.n → Sd A M i j ≤ 2880) (hs : ∀ k q, k ≤ q → q < A.n → RP.sounds (8 * k + q) = nI (Sd A M k q)) (hmo : ∀ x, x < 2 ^ A.n → RP.mostOfSet x = nI (bR (Sd A M) A.n 0 (fun t => x.testBit t))) : ∀ (d o fuel m : Nat) (P : Nat → Nat), o + d = A.n → d < fuel → m < 2 ^ A.n → (∀ k, k < o → m.testBit k = false) → m.testBit p = true → (∀ k, m.testBit k = true → P k = 0) → ∃ r, r < A.n ∧ ht_lp3 (fX2_partnerInFirstWay_b7 RP N) fuel (nI p) (nI m) (nI o) = some (nI r) ∧ (if r = p then 0 else r + 1) = wR (Sd A M) d o (fun t => m.testBit t) P p := by
  have hpw : 2 ^ A.n ≤ 256 := by
    have : (2 : Nat) ^ A.n ≤ 2 ^ 8 := Nat.pow_le_pow_right (by omega) h8
    omega
  intro d
  induction d with
  | zero =>
    intro o fuel m P ho hf hm hl hbp hP
    have := hl p (by omega)
    rw [this] at hbp
    exact absurd hbp (by decide)
  | succ d ih =>
    intro o fuel m P ho hf hm hl hbp hP
    obtain ⟨g, rfl⟩ : ∃ g, fuel = g + 1 := ⟨fuel - 1, by omega⟩
    have hm256 : m < 256 := by omega
    have b1 := (z_bit1 (m := m) (k := o) hm256 (by omega)).2
    by_cases hb : m.testBit o = true
    · have eC := t_choice (RP := RP) (N := N) h8 hc (show o < A.n by omega) hm hS hs hmo (A.n - o) o FU (by omega) (Nat.le_refl o) (by show A.n - o < 300; omega)
      have hin := fsQ_in (V := fun q => Sd A M o q + bR (Sd A M) A.n 0 (fun t => (wo m o q).testBit t)) (R := fun t => m.testBit t) (v := bR (Sd A M) A.n 0 (fun t => m.testBit t)) (n := A.n) hb (show o < A.n by omega) (A.n - o) o (Nat.le_refl o) (by omega)
      -- the same choice as the way's
      have top : bR (Sd A M) (d + 1) o (fun t => m.testBit t) = bR (Sd A M) A.n 0 (fun t => m.testBit t) := by
        have e1 := bR_skip (S := Sd A M) o 0 (d + 1) (fun t => m.testBit t) (fun k _ k2 => hl k (by omega))
        rw [show o + (d + 1) = A.n by omega, Nat.zero_add] at e1
        exact e1.symm
      have sub : ∀ q, o ≤ q → q < A.n → bR (Sd A M) d (o + 1) (rm2 (fun t => m.testBit t) o q) = bR (Sd A M) A.n 0 (fun t => (wo m o q).testBit t) := by
        intro q q1 q2
        have e2 := bR_skip (S := Sd A M) (o + 1) 0 d (fun t => (wo m o q).testBit t) (fun k _ k2 => by
          show (wo m o q).testBit k = false
          rw [wo_test (by omega) (by omega) (by omega)]
          unfold rm2
          by_cases x : k = o
          · subst x; simp
          · show (m.testBit k && !(decide (k = o) || decide (k = q))) = false
            rw [hl k (by omega)]; rfl)
        rw [show o + 1 + d = A.n by omega, Nat.zero_add] at e2
        rw [e2]
        exact bR_cong d (o + 1) (fun k k1 k2 => (wo_test (by omega) (by omega) (by omega)).symm)
      have eq1 : fsQ (fun q => Sd A M o q + bR (Sd A M) d (o + 1) (rm2 (fun t => m.testBit t) o q)) (fun t => m.testBit t) (bR (Sd A M) (d + 1) o (fun t => m.testBit t)) o (d + 1) o = fsQ (fun q => Sd A M o q + bR (Sd A M) A.n 0 (fun t => (wo m o q).testBit t)) (fun t => m.testBit t) (bR (Sd A M) A.n 0 (fun t => m.testBit t)) o (A.n - o) o := by
        rw [top, show A.n - o = d + 1 by omega]
        exact fsQ_cong (d + 1) o (fun k k1 k2 => ⟨rfl, by
          show Sd A M o k + _ = Sd A M o k + _
          rw [sub k k1 (by omega)]⟩)
      have eW : wR (Sd A M) (d + 1) o (fun t => m.testBit t) P = wR (Sd A M) d (o + 1) (rm2 (fun t => m.testBit t) o (fsQ (fun q => Sd A M o q + bR (Sd A M) A.n 0 (fun t => (wo m o q).testBit t)) (fun t => m.testBit t) (bR (Sd A M) A.n 0 (fun t => m.testBit t)) o (A.n - o) o)) (setP P o (fsQ (fun q => Sd A M o q + bR (Sd A M) A.n 0 (fun t => (wo m o q).testBit t)) (fun t => m.testBit t) (bR (Sd A M) A.n 0 (fun t => m.testBit t)) o (A.n - o) o)) := by
        show (if m.testBit o = true then wR (Sd A M) d (o + 1) (rm2 (fun t => m.testBit t) o (fsQ (fun q => Sd A M o q + bR (Sd A M) d (o + 1) (rm2 (fun t => m.testBit t) o q)) (fun t => m.testBit t) (bR (Sd A M) (d + 1) o (fun t => m.testBit t)) o (d + 1) o)) (setP P o (fsQ (fun q => Sd A M o q + bR (Sd A M) d (o + 1) (rm2 (fun t => m.testBit t) o q)) (fun t => m.testBit t) (bR (Sd A M) (d + 1) o (fun t => m.testBit t)) o (d + 1) o)) else _) = _
        rw [if_pos hb, eq1]
      generalize hqe : fsQ (fun q => Sd A M o q + bR (Sd A M) A.n 0 (fun t => (wo m o q).testBit t)) (fun t => m.testBit t) (bR (Sd A M) A.n 0 (fun t => m.testBit t)) o (A.n - o) o = q at eC hin eW
      obtain ⟨hqb, hoq, hqn⟩ := hin
      have hqb' : m.testBit q = true := hqb
      have eC' : fX2_firstChoice RP N (nI o) (nI m) = some (nI q) := eC
      have EX : ht_lp3 (fX2_partnerInFirstWay_b7 RP N) (g + 1) (nI p) (nI m) (nI o) = (if nI o = nI p then some (nI q) else (if nI q = nI p then (some (nI o)) else ht_lp3 (fX2_partnerInFirstWay_b7 RP N) g (nI p) (nI (wo m o q)) (nI (o + 1)))) := by
        have hW : fX2_without RP (nI o) (nI q) (nI m) = some (nI (wo m o q)) := congrArg some (z_wo ⟨m, hm256⟩ ⟨o, by omega⟩ ⟨q, by omega⟩).1
        show fX2_partnerInFirstWay_b7 RP N (ht_lp3 (fX2_partnerInFirstWay_b7 RP N) g) (nI p) (nI m) (nI o) = _
        generalize ht_lp3 (fX2_partnerInFirstWay_b7 RP N) g = K
        unfold fX2_partnerInFirstWay_b7 fX2_partnerInFirstWay_b40 fX2_partnerInFirstWay_b60
        rw [hc, if_neg (nI_ge (by omega) (by omega)), if_pos (b1.mpr hb), z_bn eC', z_bn hW, z_nm, nI_1]
      have rmq : ∀ x, x = o ∨ x = q → rm2 (fun t => m.testBit t) o q x = false := by
        intro x hx
        unfold rm2
        rcases hx with rfl | rfl
        · simp
        · simp
      rw [EX, eW]
      by_cases hop : o = p
      · subst hop
        refine ⟨q, hqn, by rw [if_pos rfl], ?_⟩
        rw [wR_stay d (o + 1) _ _ o (Or.inl (rmq o (Or.inl rfl)))]
        unfold setP
        by_cases x : q = o
        · rw [if_pos x, if_pos x, hP o hb]
        · rw [if_neg x, if_neg x, up_n _ _ (fun z => x z.symm), up_s]
      · rw [if_neg (fun x => hop ((z_eq (by omega) (by omega)).mp x))]
        by_cases hqp : q = p
        · subst hqp
          refine ⟨o, by omega, by rw [if_pos rfl], ?_⟩
          rw [wR_stay d (o + 1) _ _ q (Or.inl (rmq q (Or.inr rfl))), if_neg hop]
          unfold setP
          rw [if_neg (fun z => hop z.symm), up_s]
        · rw [if_neg (fun x => hqp ((z_eq (by omega) (by omega)).mp x))]
          have w3 : wo m o q ≤ m := (z_wo ⟨m, hm256⟩ ⟨o, by omega⟩ ⟨q, by omega⟩).2.2
          have tw : ∀ k, k < 8 → (wo m o q).testBit k = rm2 (fun t => m.testBit t) o q k := fun k hk => wo_test (by omega) (by omega) hk
          obtain ⟨r, r1, r2, r3⟩ := ih (o + 1) g (wo m o q) (setP P o q) (by omega) (by omega) (by omega) (fun k hk => by
            rw [tw k (by omega)]
            by_cases x : k = o
            · exact rmq k (Or.inl x)
            · unfold rm2
              show (m.testBit k && !(decide (k = o) || decide (k = q))) = false
              rw [hl k (by omega)]; rfl) (by
            rw [tw p (by omega)]
            unfold rm2
            show (m.testBit p && !(decide (p = o) || decide (p = q))) = true
            rw [hbp, decide_eq_false (fun z => hop z.symm), decide_eq_false (fun z => hqp z.symm)]; rfl) (fun k hk => by
            have k8 : k < A.n := bit_lt (m := wo m o q) (by omega) hk
            rw [tw k (by omega)] at hk
            unfold rm2 at hk
            have hk' : (m.testBit k && !(decide (k = o) || decide (k = q))) = true := hk
            have h1 : m.testBit k = true := by
              cases y : m.testBit k with
              | true => rfl
              | false => rw [y] at hk'; simp at hk'
            have h2 : k ≠ o ∧ k ≠ q := by
              refine ⟨fun z => ?_, fun z => ?_⟩
              · rw [decide_eq_true z] at hk'; simp at hk'
              · rw [decide_eq_true z] at hk'; simp at hk'
            unfold setP
            by_cases y : q = o
            · rw [if_pos y]; exact hP k h1
            · rw [if_neg y, up_n _ _ h2.2, up_n _ _ h2.1]; exact hP k h1)
          refine ⟨r, r1, r2, r3.trans ?_⟩
          exact congrFun (wR_cong d (o + 1) (setP P o q) (fun k k1 k2 => tw k (by omega))) p
    · obtain ⟨r, r1, r2, r3⟩ := ih (o + 1) g m P (by omega) (by omega) hm (fun k hk => by
        by_cases x : k = o
        · subst x; simpa using hb
        · exact hl k (by omega)) hbp hP
      refine ⟨r, r1, ?_, r3.trans ?_⟩
      · show fX2_partnerInFirstWay_b7 RP N (ht_lp3 (fX2_partnerInFirstWay_b7 RP N) g) (nI p) (nI m) (nI o) = _
        generalize ht_lp3 (fX2_partnerInFirstWay_b7 RP N) g = K at r2 ⊢
        unfold fX2_partnerInFirstWay_b7 fX2_partnerInFirstWay_b60
        rw [hc, if_neg (nI_ge (by omega) (by omega)), if_neg (fun x => hb (b1.mp x)), z_nm, nI_1]
        exact r2
      · show _ = (if m.testBit o = true then _ else wR (Sd A M) d (o + 1) (fun t => m.testBit t) P) p
        rw [if_neg hb]
end
theorem z_few (v : Int32) : (fX8_within v (1 : Int32) (5 : Int32) = some 0 ∧ fX9_isFew v = some 0) ∨ (∃ j, 1 ≤ j ∧ j ≤ 5 ∧ v = nI j ∧ fX8_within v (1 : Int32) (5 : Int32) = some 1 ∧ fX9_isFew v = some 1) := by
  rcases z_rng v 1 5 (a := 1) (b := 5) (c := 1) (d := 5) rfl rfl rfl rfl (by omega) (by omega) with ⟨w, i⟩ | ⟨j, h1, h2, e, w, i⟩
  · exact Or.inl ⟨w, z_isBz i rfl⟩
  · exact Or.inr ⟨j, h1, h2, e, w, z_isBz i rfl⟩
theorem full_bits {n k : Nat} (h : k < n) : (2 ^ n - 1).testBit k = true := by
  rw [Nat.testBit_two_pow_sub_one]; exact decide_eq_true h
theorem o_best {RX : HTV} {RP : PairV} {A B : Tn} {T W : TownV} {RM : ModV} (h : TI A T RM.s) (hW : TX B W) (hB : WR B) (hd : A.day + 60 < 1000000) (y1 : Int32) : ∃ (r bs : Int32) (snd mos : AI) (W' : TownV) (s' a' u' w' : AI) (B' : Tn), fX8_best RX RP T W y1 = some (r, snd, mos, W'.laws, W'.kind, W'.need, W'.saved, W'.voice, W'.partner, W'.speaks, W'.count, W'.day, W'.heard, W'.geese) ∧ fX9_best RM y1 = some (r, s', a', u', bs, w') ∧ (∀ k, k < 57 → s' k = RM.s k) ∧ TX B' (W'.wz W.z) ∧ WR B' := by
  obtain ⟨hT, hM, hR, hA, hP⟩ := h
  have h8 := hR.1
  have hc : T.count = nI A.n := hT.1
  rcases z_few y1 with ⟨w, i⟩ | ⟨M, h1, h2, rfl, w, i⟩
  · refine ⟨-1, RM.bestSound, RP.sounds, RP.mostOfSet, W, RM.s, RM.aside, RM.unpaired, RM.bestWay, B, ?_, ?_, fun _ _ => rfl, hW, hB⟩
    · unfold fX8_best; rw [z_bn w, if_pos rfl]
    · unfold fX9_best; rw [z_bn i, if_pos rfl]
  obtain ⟨snd, mos, W', B', e1, hW', hB', hs, hmo, hS⟩ := x_weigh (RP := RP) hT hR h2 hd hW hB
  obtain ⟨s', a', u', w', e2, h3, h4⟩ := m_findsBest hM hR hA hP h2 hd
  have hpw : 2 ^ A.n ≤ 256 := by
    have : (2 : Nat) ^ A.n ≤ 2 ^ 8 := Nat.pow_le_pow_right (by omega) h8
    omega
  have hp1 : 1 ≤ 2 ^ A.n := Nat.two_pow_pos A.n
  have eb : bR (Sd A M) A.n 0 (fun t => (2 ^ A.n - 1).testBit t) = bR (Sd A M) A.n 0 (fun _ => true) := bR_cong A.n 0 (fun k _ k2 => full_bits (by omega))
  have eM : fX2_mostSound (snd, mos) T = some (nI (bR (Sd A M) A.n 0 (fun _ => true))) := by
    unfold fX2_mostSound
    rw [z_bn (x_every h8 hc), z_gd (z_ix (by omega) (by omega)), z_cl (by omega)]
    show some (mos (2 ^ A.n - 1)) = _
    rw [hmo (2 ^ A.n - 1) (by omega), eb]
  refine ⟨nI (bR (Sd A M) A.n 0 (fun _ => true)), nI (bR (Sd A M) A.n 0 (fun _ => true)), snd, mos, W', s', a', u', w', B', ?_, ?_, h3, hW', hB'⟩
  · unfold fX8_best
    rw [z_bn w, if_neg z_01]
    refine Eq.trans (z_bn e1) ?_
    exact z_bn eM
  · unfold fX9_best
    rw [z_bn i, if_neg z_01, z_bn e2]
theorem o_bestOf {RX : HTV} {RP : PairV} {A B : Tn} {T W : TownV} {RM : ModV} (h : TI A T RM.s) (hW : TX B W) (hB : WR B) (hd : A.day + 60 < 1000000) (y1 y2 : Int32) : ∃ (r bs : Int32) (snd mos : AI) (W' : TownV) (s' a' u' w' : AI) (B' : Tn), fX8_bestOf RX RP T W y1 y2 = some (r, snd, mos, W'.laws, W'.kind, W'.need, W'.saved, W'.voice, W'.partner, W'.speaks, W'.count, W'.day, W'.heard, W'.geese) ∧ fX9_bestOf RM y1 y2 = some (r, s', a', u', bs, w') ∧ (∀ k, k < 57 → s' k = RM.s k) ∧ TX B' (W'.wz W.z) ∧ WR B' := by
  obtain ⟨hT, hM, hR, hA, hP⟩ := h
  have h8 := hR.1
  have hc : T.count = nI A.n := hT.1
  rcases z_few y1 with ⟨w, i⟩ | ⟨M, h1, h2, rfl, w, i⟩
  · refine ⟨-1, RM.bestSound, RP.sounds, RP.mostOfSet, W, RM.s, RM.aside, RM.unpaired, RM.bestWay, B, ?_, ?_, fun _ _ => rfl, hW, hB⟩
    · unfold fX8_bestOf; rw [z_bn w, if_pos rfl]
    · unfold fX9_bestOf; rw [z_bn i, if_pos rfl]
  rcases z_has (T := T) (RM := RM) hT.1 hM.1 h8 y2 with ⟨w2, i2⟩ | ⟨p, hp, rfl, w2, i2⟩
  · refine ⟨-1, RM.bestSound, RP.sounds, RP.mostOfSet, W, RM.s, RM.aside, RM.unpaired, RM.bestWay, B, ?_, ?_, fun _ _ => rfl, hW, hB⟩
    · unfold fX8_bestOf; rw [z_bn w, if_neg z_01, z_bn w2, if_pos rfl]
    · unfold fX9_bestOf; rw [z_bn i, if_neg z_01, z_bn i2, if_pos rfl]
  obtain ⟨snd, mos, W', B', e1, hW', hB', hs, hmo, hS⟩ := x_weigh (RP := RP) hT hR h2 hd hW hB
  obtain ⟨s', a', u', w', e2, h3, h4⟩ := m_findsBest hM hR hA hP h2 hd
  have hp1 : 1 ≤ 2 ^ A.n := Nat.two_pow_pos A.n
  obtain ⟨r, r1, r2, r3⟩ := t_way (RP := (snd, mos)) (N := T) h8 hc hp hS hs hmo A.n 0 FU (2 ^ A.n - 1) (fun _ => 0) (by omega) (by show A.n < 300; omega) (by omega) (fun k hk => absurd hk (by omega)) (full_bits hp) (fun _ _ => rfl)
  have ew : wR (Sd A M) A.n 0 (fun t => (2 ^ A.n - 1).testBit t) (fun _ => 0) = wR (Sd A M) A.n 0 (fun _ => true) (fun _ => 0) := wR_cong A.n 0 _ (fun k _ k2 => full_bits (by omega))
  rw [ew] at r3
  have eP : fX2_partnerInFirstWay (snd, mos) T (nI p) = some (nI r) := by
    unfold fX2_partnerInFirstWay
    rw [z_bn (x_every h8 hc)]
    exact r2
  have g8 : ht_ix (nI p) 8 = true := z_ix (by omega) (by omega)
  refine ⟨nI (if r = p then 0 else r + 1), nI (bR (Sd A M) A.n 0 (fun _ => true)), snd, mos, W', s', a', u', w', B', ?_, ?_, h3, hW', hB'⟩
  · unfold fX8_bestOf
    rw [z_bn w, if_neg z_01, z_bn w2, if_neg z_01]
    refine Eq.trans (z_bn e1) ?_
    refine Eq.trans (z_bn eP) ?_
    by_cases x : r = p
    · rw [if_pos (by rw [x]), if_pos x]; rfl
    · rw [if_neg (fun z => x ((z_eq (by omega) (by omega)).mp z)), if_neg x, nI_1]
  · unfold fX9_bestOf
    rw [z_bn i, if_neg z_01, z_bn i2, if_neg z_01, z_bn e2, z_gd g8, z_cl (by omega)]
    show some (w' p, _) = _
    rw [h4 p hp, r3]
