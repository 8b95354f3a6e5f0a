/-! ===== days, seed, day ===== -/
theorem dayA_pr (A : Tn) : (dayA A).pr = A.pr := dCh_pr A
theorem passA_pr (A : Tn) : ∀ k, (passA A k).pr = A.pr
  | 0 => rfl
  | k + 1 => (dayA_pr _).trans (passA_pr A k)
theorem WP.of {A B : Tn} (h : WP A) (hn : B.n = A.n) (hp : B.pr = A.pr) : WP B := by
  intro i hi j hj
  rw [hn] at hi
  rw [hp] at hj ⊢
  exact h i hi j hj
theorem dayA_P {A : Tn} (h : WP A) : WP (dayA A) := h.of (dayA_n A) (dayA_pr A)
theorem passA_P {A : Tn} (h : WP A) (k : Nat) : WP (passA A k) := h.of (passA_n A k) (passA_pr A k)
abbrev TownV.wdy (T : TownV) (b c f : AI) (dy hr gs : Int32) : TownV := (T.laws, T.kind, b, c, T.voice, T.partner, f, T.count, dy, hr, gs, T.z)
theorem m_daysN {A : Tn} {RM : ModV} (hR : WR A) (hA : WA A) {n : Nat} (hn : n ≤ 1000) (hd : A.day + n < 1000000) : ∀ (d k fuel : Nat) (s : AI), k + d = n → d < fuel → TM (passA A k) s → ∃ s', ht_lp3 (fX9_days_b16 RM) fuel (nI n) (nI k) s = fX9_days_b32 RM s' ∧ TM (passA A n) s' := by
  intro d
  induction d with
  | zero =>
    intro k fuel s hk hf hM
    obtain ⟨f, rfl⟩ : ∃ f, fuel = f + 1 := ⟨fuel - 1, by omega⟩
    have e : n = k := by omega
    refine ⟨s, ?_, by rw [e]; exact hM⟩
    show fX9_days_b16 RM (ht_lp3 (fX9_days_b16 RM) f) (nI n) (nI k) s = _
    unfold fX9_days_b16
    rw [if_pos (by rw [z_le (by omega) (by omega)]; omega)]
  | succ d ih =>
    intro k fuel s hk hf hM
    obtain ⟨f, rfl⟩ : ∃ f, fuel = f + 1 := ⟨fuel - 1, by omega⟩
    obtain ⟨s1, e1, h1⟩ := m_goesOn (RM := RM.ws s) hM (passA_R hR k (by omega)) (passA_A hA k)
    obtain ⟨s2, e2, h2⟩ := ih (k + 1) f s1 (by omega) (by omega) h1
    refine ⟨s2, Eq.trans ?_ e2, h2⟩
    show fX9_days_b16 RM (ht_lp3 (fX9_days_b16 RM) f) (nI n) (nI k) s = _
    unfold fX9_days_b16
    rw [if_neg (by rw [z_le (by omega) (by omega)]; omega), z_bn e1, z_nm, z_nm, nI_1]
theorem o_days {RX : HTV} {A : Tn} {T : TownV} {RM : ModV} (h : TI A T RM.s) (hB : A.day + 60 < 1000000) (y1 : Int32) : ∃ r b c f dy hr gs s' A', fX8_days RX T y1 = some (r, b, c, f, dy, hr, gs) ∧ fX9_days RM y1 = some (r, s') ∧ TI A' (T.wdy b c f dy hr gs) s' ∧ A'.day ≤ A.day + 60 := by
  have h0 := h
  obtain ⟨hT, hM, hR, hA, hP⟩ := h
  have h8 := hR.1
  rcases z_rng y1 1 60 (a := 1) (b := 60) (c := 1) (d := 60) rfl rfl rfl rfl (by omega) (by omega) with ⟨w, i⟩ | ⟨n, hn1, hn, rfl, w, i⟩
  · refine ⟨-1, T.need, T.saved, T.speaks, T.day, T.heard, T.geese, RM.s, A, ?_, ?_, h0, Nat.le_add_right _ _⟩
    · unfold fX8_days; rw [z_bn w, if_pos rfl]
    · unfold fX9_days; rw [z_bn i, if_pos rfl]
  · obtain ⟨nd, sv, sp, dy, hr, gs, ex, hx⟩ := x_pass hT hR hn (by omega)
    obtain ⟨s', em, hm⟩ := m_daysN (RM := RM) hR hA (n := n) (by omega) (by omega) n 0 FU RM.s (by omega) (by show n < 300; omega) hM
    have g3 : ht_ix (3 : Int32) 57 = true := by decide
    have h3 : s' 3 = nI (passA A n).hrd := hm.2.2.1
    have hh : hr = nI (passA A n).hrd := hx.2.2.1
    refine ⟨hr, nd, sv, sp, dy, hr, gs, s', passA A n, ?_, ?_, ⟨hx, hm, passA_R hR n (by omega), passA_A hA n, passA_P hP n⟩, by rw [passA_day]; omega⟩
    · unfold fX8_days; rw [z_bn w, if_neg z_01, z_bn ex]
    · unfold fX9_days; rw [z_bn i, if_neg z_01]
      refine Eq.trans em ?_
      unfold fX9_days_b32
      rw [z_gd g3, hh]
      exact congrArg some (Prod.ext h3 rfl)
abbrev TownV.wz (T : TownV) (z : Int32) : TownV := (T.laws, T.kind, T.need, T.saved, T.voice, T.partner, T.speaks, T.count, T.day, T.heard, T.geese, z)
theorem TX.z {A : Tn} {T : TownV} {v : Int32} (h : TX A T) : TX (A.wz v) (T.wz v) := by
  obtain ⟨hn, hd, hh, hgs, hz, hl, hkd, hne, hsa, hv, hp, hs⟩ := h
  exact ⟨hn, hd, hh, hgs, rfl, hl, hkd, hne, hsa, hv, hp, hs⟩
theorem o_seed {RX : HTV} {A : Tn} {T : TownV} {RM : ModV} (h : TI A T RM.s) (y1 : Int32) : ∃ r z s' A', fX8_seed RX T y1 = some (r, z) ∧ fX9_seed RM y1 = some (r, s') ∧ TI A' (T.wz z) s' ∧ A'.day = A.day := by
  obtain ⟨hT, hM, hR, hA, hP⟩ := h
  have hz : T.z = A.z := hT.2.2.2.2.1
  have hs : RM.s 2 = A.z := hM.2.2.2.2.1
  refine ⟨A.z, y1, upd RM.s 2 y1, A.wz y1, ?_, ?_, ⟨TX.z hT, TM.z hM, hR, hA, hP⟩, rfl⟩
  · unfold fX8_seed; rw [z_nm, hz]
  · have e : fX9_becomes RM (2 : Int32) y1 = some (RM.s 2, upd RM.s 2 y1) := m_becomes (k := 2) y1 (by omega)
    unfold fX9_seed; rw [z_bn e, hs]
/-! ===== what is drawn ===== -/
def dwZ (z : Int32) : Int32 := z * (1103515245 : Int32) + (12345 : Int32)
def dwN (z : Int32) : Nat := z.toBitVec.toNat / 65536
theorem dwN_lt (z : Int32) : dwN z < 65536 := by
  unfold dwN
  have := z.toBitVec.isLt
  omega
theorem dw_sh (z : Int32) : (z.toUInt32 >>> ((16 : Int32).toUInt32 &&& Int32.toUInt32 31)).toInt32 = nI (dwN z) := by
  refine Int32.toBitVec_inj.mp (BitVec.eq_of_toNat_eq ?_)
  rw [pk_ushr z 16 16 (by decide), pk_tn (by have := dwN_lt z; omega)]
  rfl
theorem x_draw (T : TownV) : fX6_draw T = some (nI (dwN (dwZ T.z)), dwZ T.z) := by
  unfold fX6_draw
  rw [z_nm]
  exact congrArg some (Prod.ext (dw_sh (dwZ T.z)) rfl)
theorem x_drawz (T : TownV) (z : Int32) : fX6_draw (T.wz z) = some (nI (dwN (dwZ z)), dwZ z) := x_draw _
theorem m_drawn {A : Tn} {RM : ModV} (hM : TM A RM.s) : fX9_drawn RM = some (nI (dwN (dwZ A.z)), upd RM.s 2 (dwZ A.z)) := by
  have g : ht_ix (2 : Int32) 57 = true := by decide
  have c2 : ((2 : Int32).toNatClampNeg) = 2 := rfl
  have hs : RM.s 2 = A.z := hM.2.2.2.2.1
  unfold fX9_drawn
  rw [z_gd g, z_gd g, z_nm, z_gd g, c2, hs, pk_us]
  exact congrArg some (Prod.ext (dw_sh (dwZ A.z)) rfl)
theorem wz_z (A : Tn) (v : Int32) : (A.wz v).z = v := rfl
theorem TM.z2 {A : Tn} {s : AI} {v w : Int32} (h : TM (A.wz v) s) : TM (A.wz w) (upd s 2 w) := TM.z (A := A.wz v) h
theorem m_drawnz {A : Tn} {RM : ModV} {s : AI} {z : Int32} (hM : TM A s) (hz : A.z = z) : fX9_drawn (RM.ws s) = some (nI (dwN (dwZ z)), upd s 2 (dwZ z)) := by
  subst hz
  exact m_drawn (RM := RM.ws s) hM
def lotA (A : Tn) (i j : Nat) : Tn := if i = j then unjA A i else joinA A i j
theorem WR.z {A : Tn} (h : WR A) {v : Int32} : WR (A.wz v) := h
theorem WA.z {A : Tn} (h : WA A) {v : Int32} : WA (A.wz v) := h
theorem WP.z {A : Tn} (h : WP A) {v : Int32} : WP (A.wz v) := h
/-- the town behind what is drawn on a day, before the day -/
def drawB (A : Tn) (z2 z3 : Int32) (n1 n2 n3 : Nat) : Tn := if A.n = 0 then A else if A.law 3 ≤ n2 % 100 then A.wz z2 else lotA (A.wz z3) (n1 % A.n) (n3 % A.n)
def drawA (A : Tn) : Tn := drawB A (dwZ (dwZ A.z)) (dwZ (dwZ (dwZ A.z))) (dwN (dwZ A.z)) (dwN (dwZ (dwZ A.z))) (dwN (dwZ (dwZ (dwZ A.z))))
theorem lotA_n (A : Tn) (i j : Nat) : (lotA A i j).n = A.n := by
  unfold lotA
  split
  · exact unjA_n A i
  · exact joinA_n A i j
theorem lotA_day (A : Tn) (i j : Nat) : (lotA A i j).day = A.day := by
  unfold lotA
  split
  · exact unjA_day A i
  · exact joinA_day A i j
theorem lotA_R {A : Tn} (h : WR A) {i j : Nat} (hi : i < A.n) (hj : j < A.n) : WR (lotA A i j) := by
  unfold lotA
  split
  · exact unjA_R h i
  · exact joinA_R h hi hj
theorem lotA_A {A : Tn} (h : WA A) (i j : Nat) : WA (lotA A i j) := by
  unfold lotA
  split
  · exact unjA_A h i
  · exact joinA_A h i j
theorem lotA_P {A : Tn} (hR : WR A) (h : WP A) {i j : Nat} (hi : i < A.n) (hj : j < A.n) : WP (lotA A i j) := by
  unfold lotA
  by_cases e : i = j
  · rw [if_pos e]; exact unjA_P hR h hi
  · rw [if_neg e]; exact joinA_P hR h hi hj e
theorem drawB_W {A : Tn} {z2 z3 : Int32} {n1 n2 n3 : Nat} (hR : WR A) (hA : WA A) (hP : WP A) : WR (drawB A z2 z3 n1 n2 n3) ∧ WA (drawB A z2 z3 n1 n2 n3) ∧ WP (drawB A z2 z3 n1 n2 n3) ∧ (drawB A z2 z3 n1 n2 n3).n = A.n ∧ (drawB A z2 z3 n1 n2 n3).day = A.day := by
  unfold drawB
  by_cases h0 : A.n = 0
  · rw [if_pos h0]; exact ⟨hR, hA, hP, rfl, rfl⟩
  rw [if_neg h0]
  have hi : n1 % A.n < A.n := Nat.mod_lt _ (by omega)
  have hj : n3 % A.n < A.n := Nat.mod_lt _ (by omega)
  split
  · exact ⟨hR.z, hA.z, hP.z, rfl, rfl⟩
  · exact ⟨lotA_R hR.z hi hj, lotA_A hA.z _ _, lotA_P hR.z hP.z hi hj, lotA_n _ _ _, lotA_day _ _ _⟩
theorem drawA_W {A : Tn} (hR : WR A) (hA : WA A) (hP : WP A) : WR (drawA A) ∧ WA (drawA A) ∧ WP (drawA A) ∧ (drawA A).n = A.n ∧ (drawA A).day = A.day := drawB_W hR hA hP
theorem x_lot {A : Tn} {T : TownV} (hT : TX A T) (hR : WR A) {i j : Nat} (hi : i < A.n) (hj : j < A.n) : ∃ e f, fX6_joinByLot T (nI i) (nI j) = some (e, f) ∧ TX (lotA A i j) (T.wps e f) := by
  have h8 := hR.1
  unfold fX6_joinByLot lotA
  by_cases c : i = j
  · rw [if_pos c, if_pos (by rw [c])]
    obtain ⟨e, f, ex, hx⟩ := x_unjoin hT hR hi
    exact ⟨e, f, z_bn ex, hx⟩
  · rw [if_neg c, if_neg (fun q => c ((z_eq (by omega) (by omega)).mp q))]
    obtain ⟨e, f, ex, hx⟩ := x_join hT hR hi hj
    exact ⟨e, f, z_bn ex, hx⟩
abbrev TownV.wall (T : TownV) (b c e f : AI) (dy hr gs z : Int32) : TownV := (T.laws, T.kind, b, c, T.voice, e, f, T.count, dy, hr, gs, z)
theorem x_b47 {B : Tn} {T : TownV} {e f : AI} {z : Int32} (hT : TX B (T.laws, T.kind, T.need, T.saved, T.voice, e, f, T.count, T.day, T.heard, T.geese, z)) (hR : WR B) : ∃ b c f' dy hr gs, fX6_passDayByDraws_b47 T T.need T.saved e f T.day T.heard T.geese z = some (nI (dSaid B), b, c, e, f', dy, hr, gs, z) ∧ TX (dayA B) (T.wall b c e f' dy hr gs z) := by
  obtain ⟨nd, sv, sp, ex, hx⟩ := x_passDay hT hR
  exact ⟨nd, sv, sp, _, _, _, z_bn ex, hx⟩
theorem unjA_z (A : Tn) (k : Nat) : (unjA A k).z = A.z := by unfold unjA; split <;> rfl
/-- a day by draws, in the class -/
theorem x_drawDayB {A : Tn} {T : TownV} {z1 z2 z3 : Int32} {n1 n2 n3 : Nat} (l1 : n1 < 65536) (l2 : n2 < 65536) (l3 : n3 < 65536) (d1 : fX6_draw T = some (nI n1, z1)) (d2 : fX6_draw (T.wz z1) = some (nI n2, z2)) (d3 : fX6_draw (T.wz z2) = some (nI n3, z3)) (hT : TX A T) (hR : WR A) (hA : WA A) (hP : WP A) : ∃ b c e f dy hr gs, fX6_passDayByDraws T = some (nI (dSaid (drawB A z2 z3 n1 n2 n3)), b, c, e, f, dy, hr, gs, (drawB A z2 z3 n1 n2 n3).z) ∧ TX (dayA (drawB A z2 z3 n1 n2 n3)) (T.wall b c e f dy hr gs (drawB A z2 z3 n1 n2 n3).z) := by
  have h8 := hR.1
  obtain ⟨DR, -, -, -, -⟩ := drawB_W (z2 := z2) (z3 := z3) (n1 := n1) (n2 := n2) (n3 := n3) hR hA hP
  have hn : T.count = nI A.n := hT.1
  have hz : T.z = A.z := hT.2.2.2.2.1
  have g3 : ht_ix (3 : Int32) 4 = true := by decide
  have l3 : T.laws ((3 : Int32).toNatClampNeg) = nI (A.law 3) := hT.2.2.2.2.2.1 3 (by omega)
  have q3 := hR.2.2.2.2.1
  by_cases h0 : A.n = 0
  · have hD : drawB A z2 z3 n1 n2 n3 = A := by unfold drawB; rw [if_pos h0]
    obtain ⟨b, c, f, dy, hr, gs, ex, hx⟩ := x_b47 (B := A) (T := T) (e := T.partner) (f := T.speaks) (z := T.z) hT hR
    rw [hD, ← hz]
    refine ⟨b, c, T.partner, f, dy, hr, gs, ?_, hx⟩
    unfold fX6_passDayByDraws
    rw [if_pos (show T.count ≤ 0 by rw [hn, h0]; decide)]
    exact ex
  have nz : ht_nz T.count = true := by
    unfold ht_nz
    rw [hn, decide_eq_false (nI_ne0 (by omega) (by omega))]; rfl
  have c0 : ¬ T.count ≤ 0 := by rw [hn]; exact nI_nle (by omega) (by omega)
  have r1 : nI (n1) - nI (n1) / T.count * T.count = nI (n1 % A.n) := by
    rw [hn]; exact z_rem (by omega) (by omega) (by omega)
  have r2 : nI (n2) - nI (n2) / (100 : Int32) * (100 : Int32) = nI (n2 % 100) := z_rem (d := 100) (by omega) (by omega) (by omega)
  have r3 : nI (n3) - nI (n3) / T.count * T.count = nI (n3 % A.n) := by
    rw [hn]; exact z_rem (by omega) (by omega) (by omega)
  have b2 : n2 % 100 < 100 := Nat.mod_lt _ (by omega)
  have hi : n1 % A.n < A.n := Nat.mod_lt _ (by omega)
  have hj : n3 % A.n < A.n := Nat.mod_lt _ (by omega)
  have E1 : fX6_passDayByDraws T = ht_bn (fX6_draw (T.wz (z1))) (fun o_6 => ht_gd (ht_ix (3 : Int32) 4) (if (T.laws (3 : Int32).toNatClampNeg) ≤ (o_6.1 - o_6.1 / (100 : Int32) * (100 : Int32)) then (fX6_passDayByDraws_b47 T T.need T.saved T.partner T.speaks T.day T.heard T.geese o_6.2) else (ht_bn (fX6_draw (T.wz o_6.2)) (fun o_9 => ht_gd (ht_nz T.count) (ht_bn (fX6_joinByLot (T.wz o_9.2) (nI (n1 % A.n)) (o_9.1 - o_9.1 / T.count * T.count)) (fun o_11 => fX6_passDayByDraws_b47 T T.need T.saved o_11.1 o_11.2 T.day T.heard T.geese o_9.2)))))) := by
    unfold fX6_passDayByDraws
    rw [if_neg c0, z_bn d1, z_gd nz]
    show ht_nm (nI (n1) - nI (n1) / T.count * T.count) _ = _
    rw [r1, z_nm]
  have E2 : fX6_passDayByDraws T = (if nI (A.law 3) ≤ nI (n2 % 100) then (fX6_passDayByDraws_b47 T T.need T.saved T.partner T.speaks T.day T.heard T.geese (z2)) else (ht_bn (fX6_draw (T.wz (z2))) (fun o_9 => ht_gd (ht_nz T.count) (ht_bn (fX6_joinByLot (T.wz o_9.2) (nI (n1 % A.n)) (o_9.1 - o_9.1 / T.count * T.count)) (fun o_11 => fX6_passDayByDraws_b47 T T.need T.saved o_11.1 o_11.2 T.day T.heard T.geese o_9.2))))) := by
    rw [E1, z_bn d2, z_gd g3, l3]
    show (if nI (A.law 3) ≤ (nI (n2) - nI (n2) / (100 : Int32) * (100 : Int32)) then _ else _) = _
    rw [r2]
  rw [E2]
  by_cases c : A.law 3 ≤ n2 % 100
  · have hD : drawB A z2 z3 n1 n2 n3 = A.wz (z2) := by unfold drawB; rw [if_neg h0, if_pos c]
    rw [if_pos ((z_le (by omega) (by omega)).mpr c), hD]
    obtain ⟨b, c, f, dy, hr, gs, ex, hx⟩ := x_b47 (B := A.wz (z2)) (T := T) (e := T.partner) (f := T.speaks) (z := z2) (TX.z hT) hR.z
    exact ⟨b, c, T.partner, f, dy, hr, gs, ex, hx⟩
  · have hD : drawB A z2 z3 n1 n2 n3 = lotA (A.wz (z3)) (n1 % A.n) (n3 % A.n) := by unfold drawB; rw [if_neg h0, if_neg c]
    have hz3 : (drawB A z2 z3 n1 n2 n3).z = z3 := by
      rw [hD]; unfold lotA
      split
      · exact unjA_z _ _
      · exact (unjA_z _ _).trans (unjA_z _ _)
    have hR' : WR (A.wz z3) := hR.z
    obtain ⟨e, f, ex, hx⟩ := x_lot (T := T.wz (z3)) (TX.z hT) hR' (i := n1 % A.n) (j := n3 % A.n) hi hj
    rw [← hD] at hx
    obtain ⟨b, c', f', dy, hr, gs, ex2, hx2⟩ := x_b47 (B := drawB A z2 z3 n1 n2 n3) (T := T) (e := e) (f := f) (z := z3) hx DR
    rw [if_neg (fun q => c ((z_le (by omega) (by omega)).mp q)), hz3, z_bn d3, z_gd nz]
    refine ⟨b, c', e, f', dy, hr, gs, ?_, hx2⟩
    show ht_bn (fX6_joinByLot (T.wz (z3)) (nI (n1 % A.n)) (nI (n3) - nI (n3) / T.count * T.count)) _ = _
    rw [r3, z_bn ex]
    exact ex2
theorem x_drawDay {A : Tn} {T : TownV} (hT : TX A T) (hR : WR A) (hA : WA A) (hP : WP A) : ∃ b c e f dy hr gs, fX6_passDayByDraws T = some (nI (dSaid (drawA A)), b, c, e, f, dy, hr, gs, (drawA A).z) ∧ TX (dayA (drawA A)) (T.wall b c e f dy hr gs (drawA A).z) := by
  have hz : T.z = A.z := hT.2.2.2.2.1
  have d1 : fX6_draw T = some (nI (dwN (dwZ A.z)), dwZ A.z) := by rw [x_draw, hz]
  exact x_drawDayB (dwN_lt _) (dwN_lt _) (dwN_lt _) d1 (x_drawz _ _) (x_drawz _ _) hT hR hA hP
