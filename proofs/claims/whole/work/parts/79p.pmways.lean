/-! ===== all ways, as the reference goes through them ===== -/
theorem z_bit : ∀ (m : Fin 256) (k : Fin 8), ((nI m.val >>> (nI k.val &&& 31)) &&& (1 : Int32)) = (if m.val.testBit k.val then 1 else 0) := by decide +kernel
theorem z_shl : ∀ k : Fin 9, ((1 : Int32) <<< (nI k.val &&& 31)) = nI (2 ^ k.val) := by decide +kernel
theorem z_bit1 {m k : Nat} (hm : m < 256) (hk : k < 8) : (((nI m >>> (nI k &&& 31)) &&& (1 : Int32)) = 0 ↔ m.testBit k = false) ∧ (((nI m >>> (nI k &&& 31)) &&& (1 : Int32)) = 1 ↔ m.testBit k = true) := by
  have h := z_bit ⟨m, hm⟩ ⟨k, hk⟩
  simp only at h
  rw [h]
  cases m.testBit k
  · exact ⟨⟨fun _ => rfl, fun _ => rfl⟩, ⟨fun x => absurd x (by decide), fun x => absurd x (by decide)⟩⟩
  · exact ⟨⟨fun x => absurd x (by decide), fun x => absurd x (by decide)⟩, ⟨fun _ => rfl, fun _ => rfl⟩⟩
theorem TM.cong {B B' : Tn} {s : AI} (h : TM B s) (hn : B'.n = B.n) (h1 : B'.day = B.day) (h2 : B'.hrd = B.hrd) (h3 : B'.gs = B.gs) (h4 : B'.z = B.z) (h5 : B'.law = B.law) (hf : ∀ i, i < B.n → B'.kd i = B.kd i ∧ B'.nd i = B.nd i ∧ B'.sv i = B.sv i ∧ B'.vc i = B.vc i ∧ B'.pr i = B.pr i ∧ B'.sp i = B.sp i) : TM B' s := by
  obtain ⟨a0, a1, a3, a4, a2, hl, hkd, hnd, hsv, hvc, hpr, hsp⟩ := h
  refine ⟨by rw [hn]; exact a0, by rw [h1]; exact a1, by rw [h2]; exact a3, by rw [h3]; exact a4, by rw [h4]; exact a2, by rw [h5]; exact hl, fun i hi => ?_, fun i hi => ?_, fun i hi => ?_, fun i hi => ?_, fun i hi => ?_, fun i hi => ?_⟩
  · rw [hn] at hi; rw [(hf i hi).1]; exact hkd i hi
  · rw [hn] at hi; rw [(hf i hi).2.1]; exact hnd i hi
  · rw [hn] at hi; rw [(hf i hi).2.2.1]; exact hsv i hi
  · rw [hn] at hi; rw [(hf i hi).2.2.2.1]; exact hvc i hi
  · rw [hn] at hi; rw [(hf i hi).2.2.2.2.1]; exact hpr i hi
  · rw [hn] at hi; rw [(hf i hi).2.2.2.2.2]; exact hsp i hi
theorem wayT_R {A : Tn} {P : Nat → Nat} (h : WR A) (hP : MU A.n P) : WR (wayT A P) := by
  obtain ⟨r1, r2, r3, r4, r5, r6, r7, r8, r9⟩ := h
  refine ⟨r1, r2, r3, r4, r5, r6, r7, r8, fun i hi => ?_⟩
  obtain ⟨q1, q2, q3, q4, q5, q6⟩ := r9 i hi
  refine ⟨q1, q2, q3, q4, ?_, ?_⟩
  · show (if P i ≠ 0 ∧ P i - 1 < i then 0 else 1) ≤ 1
    split <;> omega
  · show P i ≤ A.n
    by_cases p : P i = 0
    · omega
    · have := (hP i hi (P i - 1) (by omega)).1
      omega
theorem wayT_A {A : Tn} (P : Nat → Nat) : WA (wayT A P) := fun i _ hp => if_neg (fun x => x.1 hp)
theorem setP_MU {n : Nat} {P : Nat → Nat} {o q : Nat} (h : MU n P) (ho : o < n) (hq : q < n) (hPo : P o = 0) (hPq : P q = 0) : MU n (setP P o q) := by
  unfold setP
  by_cases e : q = o
  · rw [if_pos e]; exact h
  · rw [if_neg e]
    intro i hi j hj
    by_cases x : i = q
    · subst x
      rw [up_s] at hj
      have : j = o := by omega
      subst this
      refine ⟨ho, ?_, fun z => e z.symm⟩
      rw [up_n _ _ (fun z => e z.symm), up_s]
    · rw [up_n _ _ x] at hj
      by_cases y : i = o
      · subst y
        rw [up_s] at hj
        have : j = q := by omega
        subst this
        exact ⟨hq, up_s _ _ _, e⟩
      · rw [up_n _ _ y] at hj
        obtain ⟨a, b, c⟩ := h i hi j hj
        refine ⟨a, ?_, c⟩
        rw [up_n _ _ (fun z => by subst z; omega), up_n _ _ (fun z => by subst z; omega)]
        exact b
/-- a pair is made, and parted again -/
theorem TM.joinW {A : Tn} {P : Nat → Nat} {s : AI} {o q : Nat} (h : TM (joinA (wayT A P) o q) s) (hoq : o < q) (hPo : P o = 0) (hPq : P q = 0) : TM (wayT A (setP P o q)) s := by
  have e1 : unjA (wayT A P) o = alone1 (wayT A P) o := by unfold unjA; exact if_pos hPo
  have e2 : unjA (alone1 (wayT A P) o) q = alone1 (alone1 (wayT A P) o) q := by
    unfold unjA
    refine if_pos ?_
    show va_up P o 0 q = 0
    rw [up_n _ _ (by omega)]; exact hPq
  have E : joinA (wayT A P) o q = ((alone1 (alone1 (wayT A P) o) q).wpr (va_up (va_up (alone1 (alone1 (wayT A P) o) q).pr o (q + 1)) q (o + 1))).wsp (va_up (alone1 (alone1 (wayT A P) o) q).sp q 0) := by
    unfold joinA
    rw [e1, e2]
  rw [E] at h
  refine TM.cong h rfl rfl rfl rfl rfl rfl (fun i hi => ⟨rfl, rfl, rfl, rfl, ?_, ?_⟩)
  · show setP P o q i = va_up (va_up (va_up (va_up P o 0) q 0) o (q + 1)) q (o + 1) i
    unfold setP
    rw [if_neg (by omega)]
    by_cases x : i = q
    · subst x; rw [up_s, up_s]
    · rw [up_n _ _ x, up_n _ _ x]
      by_cases y : i = o
      · subst y; rw [up_s, up_s]
      · rw [up_n _ _ y, up_n _ _ y, up_n _ _ x, up_n _ _ y]
  · show (if setP P o q i ≠ 0 ∧ setP P o q i - 1 < i then 0 else 1) = va_up (va_up (va_up (fun k => if P k ≠ 0 ∧ P k - 1 < k then 0 else 1) o 1) q 1) q 0 i
    unfold setP
    rw [if_neg (by omega : ¬ q = o)]
    by_cases x : i = q
    · subst x
      rw [up_s, up_s, if_pos ⟨by omega, by omega⟩]
    · rw [up_n _ _ x, up_n _ _ x, up_n _ _ x]
      by_cases y : i = o
      · subst y
        rw [up_s, up_s, if_neg (by omega)]
      · rw [up_n _ _ y, up_n _ _ y]
theorem TM.partW {A : Tn} {P : Nat → Nat} {s : AI} {o q : Nat} (h : TM (unjA (wayT A (setP P o q)) o) s) (hoq : o < q) (hPo : P o = 0) (hPq : P q = 0) : TM (wayT A P) s := by
  have hs : setP P o q = va_up (va_up P o (q + 1)) q (o + 1) := by unfold setP; rw [if_neg (by omega)]
  have ho : setP P o q o = q + 1 := by rw [hs, up_n _ _ (by omega), up_s]
  have E : unjA (wayT A (setP P o q)) o = alone1 (alone1 (wayT A (setP P o q)) o) q := by
    unfold unjA
    rw [if_neg (show ¬ (wayT A (setP P o q)).pr o = 0 from fun x => by
      have : setP P o q o = 0 := x
      omega)]
    show alone1 (alone1 (wayT A (setP P o q)) o) (setP P o q o - 1) = _
    rw [ho, Nat.add_sub_cancel]
  rw [E] at h
  refine TM.cong h rfl rfl rfl rfl rfl rfl (fun i hi => ⟨rfl, rfl, rfl, rfl, ?_, ?_⟩)
  · show P i = va_up (va_up (setP P o q) o 0) q 0 i
    rw [hs]
    by_cases x : i = q
    · subst x; rw [up_s]; exact hPq
    · rw [up_n _ _ x]
      by_cases y : i = o
      · subst y; rw [up_s]; exact hPo
      · rw [up_n _ _ y, up_n _ _ x, up_n _ _ y]
  · show (if P i ≠ 0 ∧ P i - 1 < i then 0 else 1) = va_up (va_up (fun k => if setP P o q k ≠ 0 ∧ setP P o q k - 1 < k then 0 else 1) o 1) q 1 i
    rw [hs]
    by_cases x : i = q
    · subst x; rw [up_s, if_neg (fun z => z.1 hPq)]
    · rw [up_n _ _ x]
      by_cases y : i = o
      · subst y; rw [up_s, if_neg (fun z => z.1 hPo)]
      · rw [up_n _ _ y, up_n _ _ x, up_n _ _ y]
abbrev ModV.wbb (RM : ModV) (s a : AI) (b : Int32) (w : AI) : ModV := (s, RM.held, a, RM.before, RM.isHeld, RM.tape, RM.taped, RM.token, RM.frm, RM.to, RM.value, RM.isWrong, RM.unpaired, b, w, RM.rows, RM.rowN, RM.sortOf, RM.sizeOf, RM.numbers, RM.holdsWhat, RM.holdsWhich, RM.holdsMany, RM.bodies, RM.ran, RM.actKind, RM.actN, RM.actA, RM.isParted)
theorem z_leB {v B : Nat} (hv : v < 1000000) (hB : B < 1000000) : nI v ≤ nI B - 1 ↔ v < B := by
  have e1 : (nI B - 1).toInt = (B : Int) - 1 := z_subT (a := B) (b := 1) (by omega) (by omega)
  rw [z_leI, e1, z_ti (by omega)]
  omega
/-- at a way's end: is it the best so far? -/
theorem m_leaf {RM : ModV} {slf : ModV → Int32 → Int32 → Int32 → Option (AI × AI × Int32 × AI)} {s a : AI} {n v B : Nat} {P : Nat → Nat} (hn : n ≤ 8) (hs : s 0 = nI n) (hp : ∀ i, i < n → s (9 + 6 * i + 4) = nI (P i)) (hv : v < 1000000) (hB : B ≤ 100000) : ∀ (d k fuel : Nat) (w : AI), k + d = n → d < fuel → (B ≤ v → ∀ i, i < k → w i = nI (P i)) → ∃ w', ht_lp6 (fX9_ways_b20 slf RM) fuel (nI v) (nI k) s a (nI B - 1) w = some (s, a, nI (if B ≤ v then v + 1 else B) - 1, w') ∧ (if B ≤ v then (∀ i, i < n → w' i = nI (P i)) else w' = w) := by
  have g0 : ht_ix (0 : Int32) 57 = true := by decide
  have hs' : s ((0 : Int32).toNatClampNeg) = nI n := hs
  have e1 : (nI B - 1).toInt = (B : Int) - 1 := z_subT (a := B) (b := 1) (by omega) (by omega)
  have G : fX9_greatest (nI B - 1) (nI v) = some (nI (if B ≤ v then v + 1 else B) - 1) := by
    unfold fX9_greatest
    by_cases h : B ≤ v
    · rw [if_pos h, nI_pred, if_pos (by rw [z_leI, e1, z_ti (by omega)]; omega)]
    · rw [if_neg h]
      by_cases h2 : B = v + 1
      · subst h2
        rw [nI_pred, if_pos (by rw [z_leI]; exact Int.le_refl _)]
      · rw [if_neg (by rw [z_leI, e1, z_ti (by omega)]; omega)]
  intro d
  induction d with
  | zero =>
    intro k fuel w hk hf hw
    obtain ⟨f, rfl⟩ : ∃ f, fuel = f + 1 := ⟨fuel - 1, by omega⟩
    refine ⟨w, ?_, ?_⟩
    · show fX9_ways_b20 slf RM (ht_lp6 (fX9_ways_b20 slf RM) f) (nI v) (nI k) s a (nI B - 1) w = _
      unfold fX9_ways_b20 fX9_ways_b60
      rw [z_gd g0, hs', if_pos (nI_le (by omega) (by omega)), z_bn G]
    · by_cases h : B ≤ v
      · rw [if_pos h]; exact fun i hi => hw h i (by omega)
      · rw [if_neg h]
  | succ d ih =>
    intro k fuel w hk hf hw
    obtain ⟨f, rfl⟩ : ∃ f, fuel = f + 1 := ⟨fuel - 1, by omega⟩
    have c1 : ¬ nI n ≤ nI k := nI_ge (by omega) (by omega)
    by_cases h : B ≤ v
    · obtain ⟨w', e2, h2⟩ := ih (k + 1) f (upd w k (nI (P k))) (by omega) (by omega) (fun _ i hi => by
        by_cases x : i = k
        · subst x; exact pk_us
        · rw [pk_un x]; exact hw h i (by omega))
      rw [if_pos h] at e2 h2 ⊢
      refine ⟨w', Eq.trans ?_ e2, by rw [if_pos h]; exact h2⟩
      have hits : fX9_its (RM.wbb s a (nI B - 1) w) (nI k) (4 : Int32) = some (nI (P k)) := (z_its (RM := RM.wbb s a (nI B - 1) w) (o := k) (w := 4) (by omega)).trans (congrArg some (hp k (by omega)))
      have g8 : ht_ix (nI k) 8 = true := z_ix (by omega) (by omega)
      show fX9_ways_b20 slf RM (ht_lp6 (fX9_ways_b20 slf RM) f) (nI v) (nI k) s a (nI B - 1) w = _
      generalize ht_lp6 (fX9_ways_b20 slf RM) f = K
      unfold fX9_ways_b20
      rw [z_gd g0, hs', if_neg c1, if_neg (fun x => by have := (z_leB hv (by omega)).mp x; omega)]
      refine Eq.trans (z_bn hits) ?_
      rw [z_gd g8, z_nm, z_nm, z_cl (by omega), nI_1]
    · refine ⟨w, ?_, by rw [if_neg h]⟩
      show fX9_ways_b20 slf RM (ht_lp6 (fX9_ways_b20 slf RM) f) (nI v) (nI k) s a (nI B - 1) w = _
      unfold fX9_ways_b20 fX9_ways_b60
      rw [z_gd g0, hs', if_neg c1, if_pos ((z_leB hv (by omega)).mpr (by omega)), z_bn G]
/-- the outcome of going through the ways from here: t is the best of them, W its way -/
def OUTW (n t : Nat) (W : Nat → Nat) (B B' : Nat) (w w' : AI) : Prop := if B ≤ t then B' = t + 1 ∧ ∀ k, k < n → w' k = nI (W k) else B' = B ∧ ∀ k, k < n → w' k = w k
theorem OUTW_mono {n t : Nat} {W : Nat → Nat} {B B' : Nat} {w w' : AI} (h : OUTW n t W B B' w w') : B ≤ B' := by
  unfold OUTW at h
  by_cases x : B ≤ t
  · rw [if_pos x] at h; omega
  · rw [if_neg x] at h; omega
theorem mxQ_yes {V : Nat → Nat} {R : Nat → Bool} {m q : Nat} (h : R q = true) : mxQ V R (m + 1) q = max (V q) (mxQ V R m (q + 1)) := by
  show (if R q then _ else _) = _
  rw [if_pos h]
theorem mxQ_no {V : Nat → Nat} {R : Nat → Bool} {m q : Nat} (h : R q = false) : mxQ V R (m + 1) q = mxQ V R m (q + 1) := by
  show (if R q then _ else _) = _
  rw [h]; rfl
theorem fsQ_no {V : Nat → Nat} {R : Nat → Bool} {v o m q : Nat} (h : ¬ (R q = true ∧ V q = v)) : fsQ V R v o (m + 1) q = fsQ V R v o m (q + 1) := by
  show (if (R q && decide (V q = v)) then _ else _) = _
  rw [if_neg (by simpa using h)]
theorem fsQ_yes {V : Nat → Nat} {R : Nat → Bool} {v o m q : Nat} (h1 : R q = true) (h2 : V q = v) : fsQ V R v o (m + 1) q = q := by
  show (if (R q && decide (V q = v)) then _ else _) = _
  rw [if_pos (by simp [h1, h2])]
/-- one more who may go with o, then the rest -/
theorem OUTW_step {n fx B B1 B2 m q o : Nat} {V : Nat → Nat} {R : Nat → Bool} {Wf : Nat → Nat → Nat} {w w1 w2 : AI} (Rq : R q = true) (h1 : OUTW n (fx + V q) (Wf q) B B1 w w1) (h2 : OUTW n (fx + mxQ V R m (q + 1)) (Wf (fsQ V R (mxQ V R m (q + 1)) o m (q + 1))) B1 B2 w1 w2) : OUTW n (fx + mxQ V R (m + 1) q) (Wf (fsQ V R (mxQ V R (m + 1) q) o (m + 1) q)) B B2 w w2 := by
  rw [mxQ_yes Rq]
  unfold OUTW at h1 h2 ⊢
  by_cases c : mxQ V R m (q + 1) ≤ V q
  · rw [Nat.max_eq_left c, fsQ_yes Rq rfl]
    by_cases x : B ≤ fx + V q
    · rw [if_pos x] at h1 ⊢
      rw [if_neg (by omega)] at h2
      exact ⟨h2.1.trans h1.1, fun k hk => (h2.2 k hk).trans (h1.2 k hk)⟩
    · rw [if_neg x] at h1 ⊢
      rw [if_neg (by omega)] at h2
      exact ⟨h2.1.trans h1.1, fun k hk => (h2.2 k hk).trans (h1.2 k hk)⟩
  · rw [Nat.max_eq_right (by omega), fsQ_no (fun z => by omega)]
    by_cases x : B ≤ fx + mxQ V R m (q + 1)
    · have y : B1 ≤ fx + mxQ V R m (q + 1) := by
        by_cases z : B ≤ fx + V q
        · rw [if_pos z] at h1; omega
        · rw [if_neg z] at h1; omega
      rw [if_pos x]
      rw [if_pos y] at h2
      exact h2
    · rw [if_neg x]
      rw [if_neg (show ¬ B ≤ fx + V q by omega)] at h1
      rw [if_neg (by omega)] at h2
      exact ⟨h2.1.trans h1.1, fun k hk => (h2.2 k hk).trans (h1.2 k hk)⟩
theorem fsQ_range {V : Nat → Nat} {R : Nat → Bool} {v o : Nat} : ∀ m q, fsQ V R v o m q = o ∨ (q ≤ fsQ V R v o m q ∧ fsQ V R v o m q < q + m)
  | 0, _ => Or.inl rfl
  | m + 1, q => by
    show (if (R q && decide (V q = v)) then q else fsQ V R v o m (q + 1)) = o ∨ (q ≤ (if (R q && decide (V q = v)) then q else fsQ V R v o m (q + 1)) ∧ (if (R q && decide (V q = v)) then q else fsQ V R v o m (q + 1)) < q + (m + 1))
    by_cases x : (R q && decide (V q = v)) = true
    · rw [if_pos x]; exact Or.inr ⟨Nat.le_refl q, by omega⟩
    · rw [if_neg x]
      rcases fsQ_range m (q + 1) with h | ⟨h, h'⟩
      · exact Or.inl h
      · exact Or.inr ⟨by omega, by omega⟩
theorem fsQ_cong {V V' : Nat → Nat} {R R' : Nat → Bool} {v o : Nat} : ∀ m q, (∀ k, q ≤ k → k < q + m → R k = R' k ∧ V k = V' k) → fsQ V R v o m q = fsQ V' R' v o m q
  | 0, _, _ => rfl
  | m + 1, q, h => by
    show (if (R q && decide (V q = v)) then q else fsQ V R v o m (q + 1)) = (if (R' q && decide (V' q = v)) then q else fsQ V' R' v o m (q + 1))
    rw [(h q (Nat.le_refl q) (by omega)).1, (h q (Nat.le_refl q) (by omega)).2, fsQ_cong m (q + 1) (fun k k1 k2 => h k (by omega) (by omega))]
theorem wR_cong {S : Nat → Nat → Nat} : ∀ (d o : Nat) {R R' : Nat → Bool} (P : Nat → Nat), (∀ k, o ≤ k → k < o + d → R k = R' k) → wR S d o R P = wR S d o R' P := by
  intro d
  induction d with
  | zero => intro o R R' P _; rfl
  | succ d ih =>
    intro o R R' P h
    have h0 := h o (Nat.le_refl o) (by omega)
    have hb := bR_cong (S := S) (d + 1) o h
    have hV : ∀ k, o ≤ k → k < o + (d + 1) → R k = R' k ∧ S o k + bR S d (o + 1) (rm2 R o k) = S o k + bR S d (o + 1) (rm2 R' o k) := fun k k1 k2 => ⟨h k k1 k2, by
      rw [bR_cong d (o + 1) (R := rm2 R o k) (R' := rm2 R' o k) (fun t t1 t2 => by
        unfold rm2
        rw [h t (by omega) (by omega)])]⟩
    have hq : fsQ (fun q => S o q + bR S d (o + 1) (rm2 R o q)) R (bR S (d + 1) o R) o (d + 1) o = fsQ (fun q => S o q + bR S d (o + 1) (rm2 R' o q)) R' (bR S (d + 1) o R') o (d + 1) o := by
      rw [hb]
      exact fsQ_cong (d + 1) o hV
    show (if R o then wR S d (o + 1) (rm2 R o (fsQ (fun q => S o q + bR S d (o + 1) (rm2 R o q)) R (bR S (d + 1) o R) o (d + 1) o)) (setP P o (fsQ (fun q => S o q + bR S d (o + 1) (rm2 R o q)) R (bR S (d + 1) o R) o (d + 1) o)) else wR S d (o + 1) R P) = (if R' o then wR S d (o + 1) (rm2 R' o (fsQ (fun q => S o q + bR S d (o + 1) (rm2 R' o q)) R' (bR S (d + 1) o R') o (d + 1) o)) (setP P o (fsQ (fun q => S o q + bR S d (o + 1) (rm2 R' o q)) R' (bR S (d + 1) o R') o (d + 1) o)) else wR S d (o + 1) R' P)
    rw [h0, hq, ih (o + 1) P (fun k k1 k2 => h k (by omega) (by omega)), ih (o + 1) (R := rm2 R o (fsQ (fun q => S o q + bR S d (o + 1) (rm2 R' o q)) R' (bR S (d + 1) o R') o (d + 1) o)) (R' := rm2 R' o (fsQ (fun q => S o q + bR S d (o + 1) (rm2 R' o q)) R' (bR S (d + 1) o R') o (d + 1) o)) (setP P o (fsQ (fun q => S o q + bR S d (o + 1) (rm2 R' o q)) R' (bR S (d + 1) o R') o (d + 1) o)) (fun t t1 t2 => by
      unfold rm2
      rw [h t (by omega) (by omega)])]
theorem m_ways {A : Tn} {N : Nat} (hR : WR A) (hN : N ≤ 5) (hd : A.day + 60 < 1000000) : ∀ (d o fuel : Nat) (P : Nat → Nat) (dm B : Nat) (RM : ModV), o + d = A.n → d < fuel → MU A.n P → (∀ k, o ≤ k → k < A.n → P k ≠ 0 → P k - 1 < o) → dm < 256 → (∀ k, o ≤ k → k < A.n → dm.testBit k = decide (P k ≠ 0)) → B ≤ 100000 → TM (wayT A P) RM.s → RM.bestSound = nI B - 1 → ∃ (s' a' : AI) (B' : Nat) (w' : AI), ht_lp4 fX9_ways fuel RM (nI o) (nI dm) (nI N) = some (s', a', nI B' - 1, w') ∧ TM (wayT A P) s' ∧ B' ≤ 100000 ∧ OUTW A.n (sg (wSd A N P) o + bR (Sd A N) d o (fun k => decide (P k = 0))) (wR (Sd A N) d o (fun k => decide (P k = 0)) P) B B' RM.bestWay w' := by
  have h8 := hR.1
  have g0 : ht_ix (0 : Int32) 57 = true := by decide
  intro d
  induction d with
  | zero =>
    intro o fuel P dm B RM ho hf hP c1 hdm c2 hB hM hb
    obtain ⟨f, rfl⟩ : ∃ f, fuel = f + 1 := ⟨fuel - 1, by omega⟩
    have hon : o = A.n := by omega
    have hWR := wayT_R hR hP
    have hs0 : RM.s ((0 : Int32).toNatClampNeg) = nI A.n := hM.1
    obtain ⟨s1, a1, e1, h1⟩ := m_soundBy hM hWR (wayT_A P) (n := N) (by omega) (by show A.day + N < 1000000; omega)
    have hM1 : TM (wayT A P) s1 := TM.same hM h8 h1
    have htot : totA (wayT A P) N = sg (wSd A N P) A.n := tot_way hP
    have hle : totA (wayT A P) N ≤ 576 * N := totA_le hWR N (by show A.day + N < 1000000; omega)
    obtain ⟨w', e2, h2⟩ := m_leaf (RM := RM) (slf := ht_lp4 fX9_ways f) (s := s1) (a := a1) (n := A.n) (v := totA (wayT A P) N) (B := B) (P := P) h8 hM1.1 hM1.2.2.2.2.2.2.2.2.2.2.1 (by omega) hB A.n 0 FU RM.bestWay (by omega) (by show A.n < 300; omega) (fun _ i hi => absurd hi (by omega))
    refine ⟨s1, a1, if B ≤ totA (wayT A P) N then totA (wayT A P) N + 1 else B, w', ?_, hM1, by split <;> omega, ?_⟩
    · show fX9_ways (ht_lp4 fX9_ways f) RM (nI o) (nI dm) (nI N) = _
      unfold fX9_ways
      rw [z_gd g0, hs0, if_pos (by rw [hon]), z_bn e1, z_nm, hb]
      exact e2
    · unfold OUTW
      show if B ≤ sg (wSd A N P) o + 0 then _ else _
      rw [hon, Nat.add_zero, ← htot]
      by_cases h : B ≤ totA (wayT A P) N
      · rw [if_pos h] at h2 ⊢
        exact ⟨if_pos h, h2⟩
      · rw [if_neg h] at h2 ⊢
        exact ⟨if_neg h, fun k _ => by rw [h2]⟩
  | succ d ih =>
    intro o fuel P dm B RM ho hf hP c1 hdm c2 hB hM hb
    obtain ⟨f, rfl⟩ : ∃ f, fuel = f + 1 := ⟨fuel - 1, by omega⟩
    have hon : o < A.n := by omega
    have hs0 : RM.s ((0 : Int32).toNatClampNeg) = nI A.n := hM.1
    have n0 : ¬ nI o = nI A.n := fun x => by have := (z_eq (by omega) (by omega)).mp x; omega
    have e1o : nI o + (1 : Int32) = nI (o + 1) := nI_1 o
    have EW : ∀ s1 a1 b1 w1, ht_lp4 fX9_ways f RM (nI (o + 1)) (nI dm) (nI N) = some (s1, a1, b1, w1) → ht_lp4 fX9_ways (f + 1) RM (nI o) (nI dm) (nI N) = ht_lp8 (fX9_ways_b88 (ht_lp4 fX9_ways f) RM) FU (nI o) (nI dm) (nI N) (nI (o + 1)) s1 a1 b1 w1 := by
      intro s1 a1 b1 w1 hh
      show fX9_ways (ht_lp4 fX9_ways f) RM (nI o) (nI dm) (nI N) = _
      generalize ht_lp4 fX9_ways f = K at hh ⊢
      unfold fX9_ways
      rw [z_gd g0, hs0, if_neg n0, e1o, z_bn hh, z_nm]
    by_cases p0 : P o = 0
    · -- o is free: alone, then with each that is free
      have bo : dm.testBit o = false := by rw [c2 o (Nat.le_refl o) hon]; exact decide_eq_false (fun x => x p0)
      have R0 : decide (P o = 0) = true := decide_eq_true p0
      obtain ⟨s1, a1, B1, w1, e1, M1, hB1, O1⟩ := ih (o + 1) f P dm B RM (by omega) (by omega) hP (fun k k1 k2 k3 => by have := c1 k (by omega) k2 k3; omega) hdm (fun k k1 k2 => c2 k (by omega) k2) hB hM hb
      have hw0 : wSd A N P o = Sd A N o o := if_pos p0
      generalize hV : (fun q => Sd A N o q + bR (Sd A N) d (o + 1) (rm2 (fun k => decide (P k = 0)) o q)) = V
      generalize hWf : (fun q => wR (Sd A N) d (o + 1) (rm2 (fun k => decide (P k = 0)) o q) (setP P o q)) = Wf
      have Vq : ∀ q, Sd A N o q + bR (Sd A N) d (o + 1) (rm2 (fun k => decide (P k = 0)) o q) = V q := fun q => congrFun hV q
      have Wq : ∀ q, wR (Sd A N) d (o + 1) (rm2 (fun k => decide (P k = 0)) o q) (setP P o q) = Wf q := fun q => congrFun hWf q
      -- those from q on
      have loop : ∀ (m q fuel2 : Nat) (s a : AI) (B : Nat) (w : AI), q + m = A.n → o < q → m < fuel2 → TM (wayT A P) s → sg (wSd A N P) o < B → B ≤ 100000 → ∃ (s' a' : AI) (B' : Nat) (w' : AI), ht_lp8 (fX9_ways_b88 (ht_lp4 fX9_ways f) RM) fuel2 (nI o) (nI dm) (nI N) (nI q) s a (nI B - 1) w = some (s', a', nI B' - 1, w') ∧ TM (wayT A P) s' ∧ B' ≤ 100000 ∧ OUTW A.n (sg (wSd A N P) o + mxQ V (fun k => decide (P k = 0)) m q) (Wf (fsQ V (fun k => decide (P k = 0)) (mxQ V (fun k => decide (P k = 0)) m q) o m q)) B B' w w' := by
        intro m
        induction m with
        | zero =>
          intro q fuel2 s a B w hq hoq hf2 hMs hBf hB2
          obtain ⟨f2, rfl⟩ : ∃ f2, fuel2 = f2 + 1 := ⟨fuel2 - 1, by omega⟩
          have hs : s ((0 : Int32).toNatClampNeg) = nI A.n := hMs.1
          refine ⟨s, a, B, w, ?_, hMs, hB2, ?_⟩
          · show fX9_ways_b88 (ht_lp4 fX9_ways f) RM (ht_lp8 (fX9_ways_b88 (ht_lp4 fX9_ways f) RM) f2) (nI o) (nI dm) (nI N) (nI q) s a (nI B - 1) w = _
            unfold fX9_ways_b88
            rw [z_gd g0, hs, if_pos (nI_le (by omega) (by omega))]
          · unfold OUTW
            have mz : mxQ V (fun k => decide (P k = 0)) 0 q = 0 := rfl
            rw [mz, if_neg (show ¬ B ≤ sg (wSd A N P) o + 0 by omega)]
            exact ⟨rfl, fun _ _ => rfl⟩
        | succ m ihm =>
          intro q fuel2 s a B w hq hoq hf2 hMs hBf hB2
          obtain ⟨f2, rfl⟩ : ∃ f2, fuel2 = f2 + 1 := ⟨fuel2 - 1, by omega⟩
          have hs : s ((0 : Int32).toNatClampNeg) = nI A.n := hMs.1
          have hqn : q < A.n := by omega
          have cq : ¬ nI A.n ≤ nI q := nI_ge (by omega) (by omega)
          have bz := (z_bit1 (m := dm) (k := o) hdm (by omega)).1.mpr bo
          by_cases pq : P q = 0
          · have bq : dm.testBit q = false := by rw [c2 q (by omega) hqn]; exact decide_eq_false (fun x => x pq)
            have bqz := (z_bit1 (m := dm) (k := q) hdm (by omega)).1.mpr bq
            have Rq : decide (P q = 0) = true := decide_eq_true pq
            have hP' := setP_MU hP hon hqn p0 pq
            have hs' : setP P o q = va_up (va_up P o (q + 1)) q (o + 1) := by unfold setP; rw [if_neg (by omega)]
            obtain ⟨sP, eP, hPM⟩ := m_pairs (RM := RM.wbb s a (nI B - 1) w) hMs (wayT_R hR hP) hon hqn
            have hPM' : TM (wayT A (setP P o q)) sP := TM.joinW hPM hoq p0 pq
            have eor : nI dm ||| ((1 : Int32) <<< (nI q &&& 31)) = nI (dm ||| 2 ^ q) := by rw [z_shl ⟨q, by omega⟩, fa_or]
            have hor : dm ||| 2 ^ q < 256 := Nat.or_lt_two_pow (n := 8) hdm (Nat.pow_lt_pow_right (by omega) (by omega))
            obtain ⟨s2, a2, B2, w2, e2, M2, hB2', O2⟩ := ih (o + 1) f (setP P o q) (dm ||| 2 ^ q) B (RM.wbb sP a (nI B - 1) w) (by omega) (by omega) hP' (fun k k1 k2 k3 => by
              rw [hs'] at k3 ⊢
              by_cases x : k = q
              · subst x; rw [up_s]; omega
              · rw [up_n _ _ x] at k3 ⊢
                rw [up_n _ _ (by omega)] at k3 ⊢
                have := c1 k (by omega) k2 k3
                omega) hor (fun k k1 k2 => by
              rw [Nat.testBit_or, Nat.testBit_two_pow, c2 k (by omega) k2, hs']
              by_cases x : k = q
              · subst x; rw [up_s]; simp
              · rw [up_n _ _ x, up_n _ _ (by omega), decide_eq_false (show ¬ q = k from fun z => x z.symm), Bool.or_false]) hB2 hPM' rfl
            obtain ⟨s3, e3, hM3⟩ := m_leaves (RM := RM.wbb s2 a2 (nI B2 - 1) w2) M2 (wayT_R hR hP') hon
            have hM3' : TM (wayT A P) s3 := TM.partW hM3 hoq p0 pq
            -- what is gained with q
            have hRk : ∀ k, o + 1 ≤ k → k < o + 1 + d → (decide (setP P o q k = 0) : Bool) = rm2 (fun k => decide (P k = 0)) o q k := fun k k1 k2 => by
              unfold rm2
              rw [hs']
              by_cases x : k = q
              · subst x; rw [up_s]; simp
              · rw [up_n _ _ x, up_n _ _ (by omega), decide_eq_false (show ¬ k = o by omega), decide_eq_false x]; simp
            have tq : sg (wSd A N (setP P o q)) (o + 1) + bR (Sd A N) d (o + 1) (fun k => decide (setP P o q k = 0)) = sg (wSd A N P) o + V q := by
              have x1 : sg (wSd A N (setP P o q)) o = sg (wSd A N P) o := sg_cong (fun k hk => by
                unfold wSd
                rw [hs', up_n _ _ (by omega), up_n _ _ (by omega)])
              have x2 : wSd A N (setP P o q) o = Sd A N o q := by
                unfold wSd
                rw [hs', up_n _ _ (by omega), up_s, if_neg (by omega), if_pos (by omega), Nat.add_sub_cancel]
              show sg (wSd A N (setP P o q)) o + wSd A N (setP P o q) o + _ = _
              rw [x1, x2, bR_cong d (o + 1) hRk, Nat.add_assoc, Vq]
            have wq : wR (Sd A N) d (o + 1) (fun k => decide (setP P o q k = 0)) (setP P o q) = Wf q := by
              rw [wR_cong d (o + 1) (setP P o q) hRk, Wq]
            rw [tq, wq] at O2
            obtain ⟨s4, a4, B4, w4, e4, M4, hB4, O4⟩ := ihm (q + 1) f2 s3 a2 B2 w2 (by omega) (by omega) (by omega) hM3' (by have := OUTW_mono O2; omega) hB2'
            refine ⟨s4, a4, B4, w4, Eq.trans ?_ e4, M4, hB4, OUTW_step (V := V) (R := fun k => decide (P k = 0)) (Wf := Wf) Rq O2 O4⟩
            show fX9_ways_b88 (ht_lp4 fX9_ways f) RM (ht_lp8 (fX9_ways_b88 (ht_lp4 fX9_ways f) RM) f2) (nI o) (nI dm) (nI N) (nI q) s a (nI B - 1) w = _
            generalize ht_lp8 (fX9_ways_b88 (ht_lp4 fX9_ways f) RM) f2 = K
            unfold fX9_ways_b88 fX9_ways_b142
            rw [z_gd g0, hs, if_neg cq, if_pos bz, if_pos bqz]
            refine Eq.trans (z_bn eP) ?_
            rw [e1o, eor]
            refine Eq.trans (z_bn e2) ?_
            refine Eq.trans (z_bn e3) ?_
            rw [z_nm, nI_1]
          · have bq : dm.testBit q = true := by rw [c2 q (by omega) hqn]; exact decide_eq_true pq
            have bqz : ¬ ((nI dm >>> (nI q &&& 31)) &&& (1 : Int32)) = 0 := fun x => by
              have := (z_bit1 (m := dm) (k := q) hdm (by omega)).1.mp x
              rw [bq] at this
              exact absurd this (by decide)
            have Rq : decide (P q = 0) = false := decide_eq_false pq
            obtain ⟨s4, a4, B4, w4, e4, M4, hB4, O4⟩ := ihm (q + 1) f2 s a B w (by omega) (by omega) (by omega) hMs hBf hB2
            refine ⟨s4, a4, B4, w4, Eq.trans ?_ e4, M4, hB4, ?_⟩
            · show fX9_ways_b88 (ht_lp4 fX9_ways f) RM (ht_lp8 (fX9_ways_b88 (ht_lp4 fX9_ways f) RM) f2) (nI o) (nI dm) (nI N) (nI q) s a (nI B - 1) w = _
              generalize ht_lp8 (fX9_ways_b88 (ht_lp4 fX9_ways f) RM) f2 = K
              unfold fX9_ways_b88 fX9_ways_b142
              rw [z_gd g0, hs, if_neg cq, if_pos bz, if_neg bqz, z_nm, nI_1]
            · rw [mxQ_no (R := fun k => decide (P k = 0)) Rq, fsQ_no (fun z => by
                have : decide (P q = 0) = true := z.1
                rw [Rq] at this
                exact absurd this (by decide))]
              exact O4
      have hRo : ∀ k, o + 1 ≤ k → k < o + 1 + d → (decide (P k = 0) : Bool) = rm2 (fun k => decide (P k = 0)) o o k := fun k k1 k2 => by
        unfold rm2
        rw [decide_eq_false (show ¬ k = o by omega)]
        simp
      have to1 : sg (wSd A N P) (o + 1) + bR (Sd A N) d (o + 1) (fun k => decide (P k = 0)) = sg (wSd A N P) o + V o := by
        show sg (wSd A N P) o + wSd A N P o + _ = _
        rw [hw0, bR_cong d (o + 1) hRo, Nat.add_assoc, Vq]
      have wo : wR (Sd A N) d (o + 1) (fun k => decide (P k = 0)) P = Wf o := by
        have e : setP P o o = P := if_pos rfl
        rw [← Wq o, e]
        exact wR_cong d (o + 1) P hRo
      rw [to1, wo] at O1
      have hBf : sg (wSd A N P) o < B1 := by
        unfold OUTW at O1
        by_cases x : B ≤ sg (wSd A N P) o + V o
        · rw [if_pos x] at O1; omega
        · rw [if_neg x] at O1; omega
      obtain ⟨s2, a2, B2, w2, e2, M2, hB2, O2⟩ := loop d (o + 1) FU s1 a1 B1 w1 (by omega) (by omega) (by show d < 300; omega) M1 hBf hB1
      refine ⟨s2, a2, B2, w2, (EW _ _ _ _ e1).trans e2, M2, hB2, ?_⟩
      have S := OUTW_step (V := V) (R := fun k => decide (P k = 0)) (Wf := Wf) (q := o) R0 O1 O2
      have hb1 : bR (Sd A N) (d + 1) o (fun k => decide (P k = 0)) = mxQ V (fun k => decide (P k = 0)) (d + 1) o := by
        show (if decide (P o = 0) = true then mxQ (fun q => Sd A N o q + bR (Sd A N) d (o + 1) (rm2 (fun k => decide (P k = 0)) o q)) (fun k => decide (P k = 0)) (d + 1) o else _) = _
        rw [if_pos R0, hV]
      have hw1 : wR (Sd A N) (d + 1) o (fun k => decide (P k = 0)) P = Wf (fsQ V (fun k => decide (P k = 0)) (mxQ V (fun k => decide (P k = 0)) (d + 1) o) o (d + 1) o) := by
        show (if decide (P o = 0) = true then wR (Sd A N) d (o + 1) (rm2 (fun k => decide (P k = 0)) o (fsQ (fun q => Sd A N o q + bR (Sd A N) d (o + 1) (rm2 (fun k => decide (P k = 0)) o q)) (fun k => decide (P k = 0)) (bR (Sd A N) (d + 1) o (fun k => decide (P k = 0))) o (d + 1) o)) (setP P o (fsQ (fun q => Sd A N o q + bR (Sd A N) d (o + 1) (rm2 (fun k => decide (P k = 0)) o q)) (fun k => decide (P k = 0)) (bR (Sd A N) (d + 1) o (fun k => decide (P k = 0))) o (d + 1) o)) else _) = _
        rw [if_pos R0, hb1, hV, Wq]
      rw [hb1, hw1]
      exact S
    · -- o has its partner already
      have bo : dm.testBit o = true := by rw [c2 o (Nat.le_refl o) hon]; exact decide_eq_true p0
      have R0 : decide (P o = 0) = false := decide_eq_false p0
      have po := c1 o (Nat.le_refl o) hon p0
      obtain ⟨s1, a1, B1, w1, e1, M1, hB1, O1⟩ := ih (o + 1) f P dm B RM (by omega) (by omega) hP (fun k k1 k2 k3 => by have := c1 k (by omega) k2 k3; omega) hdm (fun k k1 k2 => c2 k (by omega) k2) hB hM hb
      have hw0 : wSd A N P o = 0 := by unfold wSd; rw [if_neg p0, if_neg (by omega)]
      have hb1 : bR (Sd A N) (d + 1) o (fun k => decide (P k = 0)) = bR (Sd A N) d (o + 1) (fun k => decide (P k = 0)) := by
        show (if decide (P o = 0) = true then _ else _) = _
        rw [R0]; rfl
      have hw1 : wR (Sd A N) (d + 1) o (fun k => decide (P k = 0)) P = wR (Sd A N) d (o + 1) (fun k => decide (P k = 0)) P := by
        show (if decide (P o = 0) = true then _ else _) = _
        rw [R0]; rfl
      have hs1 : s1 ((0 : Int32).toNatClampNeg) = nI A.n := M1.1
      have bqz : ¬ ((nI dm >>> (nI o &&& 31)) &&& (1 : Int32)) = 0 := fun x => by
        have := (z_bit1 (m := dm) (k := o) hdm (by omega)).1.mp x
        rw [bo] at this
        exact absurd this (by decide)
      refine ⟨s1, a1, B1, w1, (EW _ _ _ _ e1).trans ?_, M1, hB1, ?_⟩
      · show fX9_ways_b88 (ht_lp4 fX9_ways f) RM (ht_lp8 (fX9_ways_b88 (ht_lp4 fX9_ways f) RM) 299) (nI o) (nI dm) (nI N) (nI (o + 1)) s1 a1 (nI B1 - 1) w1 = _
        generalize ht_lp8 (fX9_ways_b88 (ht_lp4 fX9_ways f) RM) 299 = K
        unfold fX9_ways_b88
        rw [z_gd g0, hs1]
        by_cases x : nI A.n ≤ nI (o + 1)
        · rw [if_pos x]
        · rw [if_neg x, if_neg bqz]
      · rw [hb1, hw1]
        have e : sg (wSd A N P) (o + 1) = sg (wSd A N P) o := by
          show sg (wSd A N P) o + wSd A N P o = _
          rw [hw0, Nat.add_zero]
        rw [e] at O1
        exact O1
