/-! ===== fits ===== -/
def okD (B : Tn) (o : Nat) (nu : Nat → Int32) (i : Nat) : Bool := decide (nu i = -1) || decide (nu i = nI ((passA B (i + 1)).nd o))
def fitF (B : Tn) (o : Nat) (nu : Nat → Int32) : Nat → Nat → Bool
  | _, 0 => true
  | i, d + 1 => okD B o nu i && fitF B o nu (i + 1) d
def bI (b : Bool) : Int32 := if b then 1 else 0
theorem z_lm1 (v : Int32) : lg_cmp v.toInt64 (-1 : Int64) = 0 ↔ v = -1 := by
  rw [lg_cmp_eq, show (-1 : Int64) = (-1 : Int32).toInt64 by decide, fa_wide_eq]
theorem z_lc (v w : Int32) : lg_cmp v.toInt64 w.toInt64 = 0 ↔ v = w := by
  rw [lg_cmp_eq, fa_wide_eq]
theorem t_fitX {B : Tn} {N U0 : TownV} {W : RowV} {nu : Nat → Int32} {o : Nat} (hR : WR B) (ho : o < B.n) (hd : B.day + 60 < 1000000) (hl : W.len ≤ 40) (hi : ∀ k, k < W.len → W.items k = (nu k).toInt64) : ∀ (d k fuel : Nat) (U : TownV), k + d = W.len → d < fuel → TX (passA B k) U → ∃ U' : TownV, ht_lp14 (fX7_voiceFits_b24 N U0 W) fuel (nI o) (nI k) U.laws U.kind U.need U.saved U.voice U.partner U.speaks U.count U.day U.heard U.geese U.z = some (bI (fitF B o nu k d), U') := by
  have h8 := hR.1
  have g8 : ht_ix (nI o) 8 = true := z_ix (by omega) (by omega)
  have c8 : (nI o).toNatClampNeg = o := z_cl (by omega)
  intro d
  induction d with
  | zero =>
    intro k fuel U hk hf hU
    obtain ⟨f, rfl⟩ : ∃ f, fuel = f + 1 := ⟨fuel - 1, by omega⟩
    refine ⟨U, ?_⟩
    show fX7_voiceFits_b24 N U0 W (ht_lp14 (fX7_voiceFits_b24 N U0 W) f) (nI o) (nI k) U.laws U.kind U.need U.saved U.voice U.partner U.speaks U.count U.day U.heard U.geese U.z = _
    unfold fX7_voiceFits_b24
    rw [if_pos (show Int32.ofNat W.len ≤ nI k from nI_le (by omega) (by omega))]
    rfl
  | succ d ih =>
    intro k fuel U hk hf hU
    obtain ⟨f, rfl⟩ : ∃ f, fuel = f + 1 := ⟨fuel - 1, by omega⟩
    have RK := passA_R hR k (by omega)
    have hok : o < (passA B (k + 1)).n := by rw [passA_n]; exact ho
    have c : ¬ Int32.ofNat W.len ≤ nI k := (show ¬ nI W.len ≤ nI k from nI_ge (by omega) (by omega))
    have gW : ht_ix (nI k) W.len = true := z_ix (by omega) (by omega)
    have cW : (nI k).toNatClampNeg = k := z_cl (by omega)
    obtain ⟨nd, sv, sp, e1, h1⟩ := x_passDay (T := U.eta) hU RK
    have h1' : TX (passA B (k + 1)) (U.laws, U.kind, nd, sv, U.voice, U.partner, sp, U.count, nI (dayA (passA B k)).day, nI (dayA (passA B k)).hrd, nI (dayA (passA B k)).gs, U.z) := h1
    have hnd : nd o = nI ((passA B (k + 1)).nd o) := h1'.2.2.2.2.2.2.2.1 o hok
    obtain ⟨U', e2⟩ := ih (k + 1) f _ (by omega) (by omega) h1'
    have E : ∀ r, (if lg_cmp (nu k).toInt64 (-1 : Int64) = 0 then fX7_voiceFits_b78 N U0 W (ht_lp14 (fX7_voiceFits_b24 N U0 W) f) (nI o) (nI k) U.laws U.kind nd sv U.voice U.partner sp U.count (nI (dayA (passA B k)).day) (nI (dayA (passA B k)).hrd) (nI (dayA (passA B k)).gs) U.z else ht_gd (ht_ix (nI o) 8) (if lg_cmp (nu k).toInt64 ((nd (nI o).toNatClampNeg).toInt64) = 0 then fX7_voiceFits_b78 N U0 W (ht_lp14 (fX7_voiceFits_b24 N U0 W) f) (nI o) (nI k) U.laws U.kind nd sv U.voice U.partner sp U.count (nI (dayA (passA B k)).day) (nI (dayA (passA B k)).hrd) (nI (dayA (passA B k)).gs) U.z else some ((0 : Int32), U.laws, U.kind, nd, sv, U.voice, U.partner, sp, U.count, nI (dayA (passA B k)).day, nI (dayA (passA B k)).hrd, nI (dayA (passA B k)).gs, U.z))) = r → ht_lp14 (fX7_voiceFits_b24 N U0 W) (f + 1) (nI o) (nI k) U.laws U.kind U.need U.saved U.voice U.partner U.speaks U.count U.day U.heard U.geese U.z = r := by
      intro r hr
      rw [← hr]
      show fX7_voiceFits_b24 N U0 W (ht_lp14 (fX7_voiceFits_b24 N U0 W) f) (nI o) (nI k) U.laws U.kind U.need U.saved U.voice U.partner U.speaks U.count U.day U.heard U.geese U.z = _
      unfold fX7_voiceFits_b24
      rw [if_neg c]
      refine Eq.trans (z_bn e1) ?_
      rw [z_gd gW, z_nm, cW, hi k (by omega)]
    have E78 : fX7_voiceFits_b78 N U0 W (ht_lp14 (fX7_voiceFits_b24 N U0 W) f) (nI o) (nI k) U.laws U.kind nd sv U.voice U.partner sp U.count (nI (dayA (passA B k)).day) (nI (dayA (passA B k)).hrd) (nI (dayA (passA B k)).gs) U.z = some (bI (fitF B o nu (k + 1) d), U') := by
      unfold fX7_voiceFits_b78
      rw [z_nm, nI_1]
      exact e2
    by_cases q1 : nu k = -1
    · have hf1 : fitF B o nu k (d + 1) = fitF B o nu (k + 1) d := by
        show (okD B o nu k && fitF B o nu (k + 1) d) = _
        simp [okD, q1]
      rw [hf1]
      refine ⟨U', E _ ?_⟩
      rw [if_pos ((z_lm1 _).mpr q1)]
      exact E78
    · by_cases q2 : nu k = nI ((passA B (k + 1)).nd o)
      · have hf1 : fitF B o nu k (d + 1) = fitF B o nu (k + 1) d := by
          show (okD B o nu k && fitF B o nu (k + 1) d) = _
          simp [okD, q2]
        rw [hf1]
        refine ⟨U', E _ ?_⟩
        rw [if_neg (fun x => q1 ((z_lm1 _).mp x)), z_gd g8, c8, hnd, if_pos ((z_lc _ _).mpr q2)]
        exact E78
      · have hf1 : fitF B o nu k (d + 1) = false := by
          show (okD B o nu k && fitF B o nu (k + 1) d) = _
          simp [okD, q1, q2]
        rw [hf1]
        refine ⟨(U.laws, U.kind, nd, sv, U.voice, U.partner, sp, U.count, nI (dayA (passA B k)).day, nI (dayA (passA B k)).hrd, nI (dayA (passA B k)).gs, U.z), E _ ?_⟩
        rw [if_neg (fun x => q1 ((z_lm1 _).mp x)), z_gd g8, c8, hnd, if_neg (fun x => q2 ((z_lc _ _).mp x))]
        rfl
theorem x_voiceFits {A : Tn} {N U : TownV} {W : RowV} {nu : Nat → Int32} {o v : Nat} (hN : TX A N) (hR : WR A) (ho : o < A.n) (hv : v ≤ 9) (hd : A.day + 60 < 1000000) (hl : W.len ≤ 40) (hi : ∀ k, k < W.len → W.items k = (nu k).toInt64) : ∃ U' : TownV, fX7_voiceFits N U W (nI o) (nI v) = some (bI (fitF (A.wvc (va_up A.vc o v)) o nu 0 W.len), U') := by
  have h8 := hR.1
  have g8 : ht_ix (nI o) 8 = true := z_ix (by omega) (by omega)
  have c8 : (nI o).toNatClampNeg = o := z_cl (by omega)
  obtain ⟨T1, e1, h1⟩ := x_copyFrom (T := U) hN hR
  have h1v : TX (A.wvc (va_up A.vc o v)) (T1.wkv T1.kind (upd T1.voice o (nI v))) := TX.vc h1
  obtain ⟨U', e2⟩ := t_fitX (N := N) (U0 := U) (nu := nu) (WR.vc (k := o) hR hv) ho hd hl hi W.len 0 FU _ (by omega) (by show W.len < 300; omega) h1v
  refine ⟨U', ?_⟩
  unfold fX7_voiceFits
  rw [z_bn e1, z_gd g8, z_nm, c8]
  exact e2
theorem t_fitM {B : Tn} {RM : ModV} {nu : Nat → Int32} {a : AI} {o t len : Nat} (hR : WR B) (hA : WA B) (ho : o < B.n) (hd : B.day + 60 < 1000000) (ht : t < 4) (hl : len ≤ 40) (hz : RM.sizeOf t = nI len) (hnu : ∀ k, k < len → RM.numbers (40 * t + k) = nu k) : ∀ (d k fuel : Nat) (s : AI), k + d = len → d + 1 < fuel → TM (passA B k) s → ∃ s' : AI, ht_lp6 (fX9_isTold_b16 RM) fuel (nI t) (nI o) (1 : Int32) (nI k) s a = some (bI (fitF B o nu k d), s', a) ∧ ∀ j, j < 57 → s' j = a j := by
  have h8 := hR.1
  obtain ⟨-, -, -, -, g, c⟩ := z_fourI ht
  intro d
  induction d with
  | zero =>
    intro k fuel s hk hf hM
    obtain ⟨f, rfl⟩ : ∃ f, fuel = f + 1 := ⟨fuel - 1, by omega⟩
    obtain ⟨s', e1, h1⟩ := m_copyRow a s
    refine ⟨s', ?_, h1⟩
    show fX9_isTold_b16 RM (ht_lp6 (fX9_isTold_b16 RM) f) (nI t) (nI o) (1 : Int32) (nI k) s a = _
    unfold fX9_isTold_b16 fX9_isTold_b86
    rw [z_gd g, c, hz, if_pos (nI_le (by omega) (by omega)), z_bn e1, z_gd z_b1]
    rfl
  | succ d ih =>
    intro k fuel s hk hf hM
    obtain ⟨f, rfl⟩ : ∃ f, fuel = f + 1 := ⟨fuel - 1, by omega⟩
    have RK := passA_R hR k (by omega)
    have hok : o < (passA B (k + 1)).n := by rw [passA_n]; exact ho
    have cc : ¬ nI len ≤ nI k := nI_ge (by omega) (by omega)
    have g160 : ht_ix (nI (40 * t + k)) 160 = true := z_ix (by omega) (by omega)
    have c160 : (nI (40 * t + k)).toNatClampNeg = 40 * t + k := z_cl (by omega)
    obtain ⟨s1, e1, h1⟩ := m_goesOn (RM := RM.wsa s a) hM RK (passA_A hA k)
    have h1' : TM (passA B (k + 1)) s1 := h1
    have hnd : s1 (9 + 6 * o + 1) = nI ((passA B (k + 1)).nd o) := h1'.2.2.2.2.2.2.2.1 o hok
    have hits : fX9_its (RM.wsa s1 a) (nI o) (1 : Int32) = some (nI ((passA B (k + 1)).nd o)) := (z_its (RM := RM.wsa s1 a) (o := o) (w := 1) (by omega)).trans (congrArg some hnd)
    have E1 : ht_lp6 (fX9_isTold_b16 RM) (f + 1) (nI t) (nI o) (1 : Int32) (nI k) s a = (if nu k = (-1 : Int32) then fX9_isTold_b74 RM (ht_lp6 (fX9_isTold_b16 RM) f) (nI t) (nI o) (nI k) s1 a else (if nu k = nI ((passA B (k + 1)).nd o) then fX9_isTold_b74 RM (ht_lp6 (fX9_isTold_b16 RM) f) (nI t) (nI o) (nI k) s1 a else fX9_isTold_b79 RM (ht_lp6 (fX9_isTold_b16 RM) f) (nI t) (nI o) (nI k) (0 : Int32) s1 a)) := by
      show fX9_isTold_b16 RM (ht_lp6 (fX9_isTold_b16 RM) f) (nI t) (nI o) (1 : Int32) (nI k) s a = _
      unfold fX9_isTold_b16
      rw [z_gd g, c, hz, if_neg cc, if_neg z_01]
      refine Eq.trans (z_bn e1) ?_
      rw [z_nm, z_40, z_gd g160, c160, hnu k (by omega), z_gd g160]
      by_cases q1 : nu k = (-1 : Int32)
      · rw [if_pos q1, if_pos q1]
      · rw [if_neg q1, if_neg q1]
        exact z_bn hits
    have E74 : ∃ s' : AI, fX9_isTold_b74 RM (ht_lp6 (fX9_isTold_b16 RM) f) (nI t) (nI o) (nI k) s1 a = some (bI (fitF B o nu (k + 1) d), s', a) ∧ ∀ j, j < 57 → s' j = a j := by
      obtain ⟨s', e2, h2⟩ := ih (k + 1) f s1 (by omega) (by omega) h1'
      refine ⟨s', ?_, h2⟩
      unfold fX9_isTold_b74 fX9_isTold_b79
      rw [z_nm, nI_1]
      exact e2
    rw [E1]
    by_cases q1 : nu k = -1
    · have hf1 : fitF B o nu k (d + 1) = fitF B o nu (k + 1) d := by
        show (okD B o nu k && fitF B o nu (k + 1) d) = _
        simp [okD, q1]
      rw [if_pos q1, hf1]
      exact E74
    · by_cases q2 : nu k = nI ((passA B (k + 1)).nd o)
      · have hf1 : fitF B o nu k (d + 1) = fitF B o nu (k + 1) d := by
          show (okD B o nu k && fitF B o nu (k + 1) d) = _
          simp [okD, q2]
        rw [if_neg q1, if_pos q2, hf1]
        exact E74
      · have hf1 : fitF B o nu k (d + 1) = false := by
          show (okD B o nu k && fitF B o nu (k + 1) d) = _
          simp [okD, q1, q2]
        obtain ⟨s', e3, h3⟩ := m_copyRow a s1
        obtain ⟨f', rfl⟩ : ∃ f', f = f' + 1 := ⟨f - 1, by omega⟩
        rw [if_neg q1, if_neg q2, hf1]
        refine ⟨s', ?_, h3⟩
        unfold fX9_isTold_b79
        rw [z_nm, nI_1]
        show fX9_isTold_b16 RM (ht_lp6 (fX9_isTold_b16 RM) f') (nI t) (nI o) (0 : Int32) (nI (k + 1)) s1 a = _
        unfold fX9_isTold_b16 fX9_isTold_b86
        rw [z_gd g, c, hz]
        by_cases q3 : nI len ≤ nI (k + 1)
        · rw [if_pos q3, z_bn e3, z_gd z_b0]
          rfl
        · rw [if_neg q3, if_pos rfl, z_bn e3, z_gd z_b0]
          rfl
theorem m_isTold {B : Tn} {RM : ModV} {nu : Nat → Int32} {o t len : Nat} (hM : TM B RM.s) (hR : WR B) (hA : WA B) (ho : o < B.n) (hd : B.day + 60 < 1000000) (ht : t < 4) (hl : len ≤ 40) (hz : RM.sizeOf t = nI len) (hnu : ∀ k, k < len → RM.numbers (40 * t + k) = nu k) : ∃ s' a' : AI, fX9_isTold RM (nI t) (nI o) = some (bI (fitF B o nu 0 len), s', a') ∧ ∀ j, j < 57 → s' j = RM.s j := by
  obtain ⟨a, e1, h1⟩ := m_copyRow RM.s RM.aside
  obtain ⟨s', e2, h2⟩ := t_fitM (RM := RM) (a := a) hR hA ho hd ht hl hz hnu len 0 FU RM.s (by omega) (by show len + 1 < 300; omega) hM
  refine ⟨s', a, ?_, fun j hj => (h2 j hj).trans (h1 j hj)⟩
  unfold fX9_isTold
  rw [z_bn e1]
  exact e2
/-! all voices, upwards and downwards -/
def fup (P : Nat → Bool) : Nat → Nat → Int32
  | 0, _ => -3
  | d + 1, k => if P k then nI k else fup P d (k + 1)
def fdn (P : Nat → Bool) : Int32 → Nat → Int32
  | f, 0 => f
  | f, k + 1 => fdn P (if P k then nI k else f) k
theorem fdn_up (P : Nat → Bool) : ∀ k d, fdn P (fup P d k) k = fup P (k + d) 0
  | 0, d => by rw [Nat.zero_add]; rfl
  | k + 1, d => by
    have h := fdn_up P k (d + 1)
    rw [show k + 1 + d = k + (d + 1) by omega, ← h]
    rfl
theorem bI0 {b : Bool} : (bI b = 0) ↔ b = false := by cases b <;> decide
theorem t_howX {A : Tn} {N U0 : TownV} {W : RowV} {nu : Nat → Int32} {o : Nat} (hN : TX A N) (hR : WR A) (ho : o < A.n) (hd : A.day + 60 < 1000000) (hl : W.len ≤ 40) (hi : ∀ k, k < W.len → W.items k = (nu k).toInt64) : ∀ (d k fuel : Nat) (U : TownV), k + d = 10 → d < fuel → ∃ U' : TownV, ht_lp15 (fX7_howManyFit_b5 N U0 W) fuel (nI o) (nI (fa_cnt (fun v => fitF (A.wvc (va_up A.vc o v)) o nu 0 W.len) k)) (nI k) U.laws U.kind U.need U.saved U.voice U.partner U.speaks U.count U.day U.heard U.geese U.z = some (nI (fa_cnt (fun v => fitF (A.wvc (va_up A.vc o v)) o nu 0 W.len) 10), U') := by
  intro d
  induction d with
  | zero =>
    intro k fuel U hk hf
    obtain ⟨f, rfl⟩ : ∃ f, fuel = f + 1 := ⟨fuel - 1, by omega⟩
    have e : k = 10 := by omega
    subst e
    refine ⟨U, ?_⟩
    show fX7_howManyFit_b5 N U0 W (ht_lp15 (fX7_howManyFit_b5 N U0 W) f) (nI o) _ (nI 10) U.laws U.kind U.need U.saved U.voice U.partner U.speaks U.count U.day U.heard U.geese U.z = _
    unfold fX7_howManyFit_b5
    rw [if_pos (show (9 : Int32) < nI 10 by decide)]
  | succ d ih =>
    intro k fuel U hk hf
    obtain ⟨f, rfl⟩ : ∃ f, fuel = f + 1 := ⟨fuel - 1, by omega⟩
    have c : ¬ (9 : Int32) < nI k := (show ¬ nI 9 < nI k by rw [z_lt (by omega) (by omega)]; omega)
    obtain ⟨U1, e1⟩ := x_voiceFits (U := U.eta) (nu := nu) hN hR ho (v := k) (by omega) hd hl hi
    obtain ⟨U2, e2⟩ := ih (k + 1) f U1 (by omega) (by omega)
    refine ⟨U2, Eq.trans ?_ e2⟩
    show fX7_howManyFit_b5 N U0 W (ht_lp15 (fX7_howManyFit_b5 N U0 W) f) (nI o) _ (nI k) U.laws U.kind U.need U.saved U.voice U.partner U.speaks U.count U.day U.heard U.geese U.z = _
    unfold fX7_howManyFit_b5 fX7_howManyFit_b26
    rw [if_neg c]
    refine Eq.trans (z_bn e1) ?_
    cases q : fitF (A.wvc (va_up A.vc o k)) o nu 0 W.len with
    | false => rw [if_pos (show bI false = 0 from rfl), z_nm, nI_1, fa_cnt_no (p := fun v => fitF (A.wvc (va_up A.vc o v)) o nu 0 W.len) q]
    | true => rw [if_neg (show ¬ bI true = 0 by decide), z_nm, z_nm, nI_1, nI_1, fa_cnt_yes (p := fun v => fitF (A.wvc (va_up A.vc o v)) o nu 0 W.len) q]
theorem t_leastX {A : Tn} {N U0 : TownV} {W : RowV} {nu : Nat → Int32} {o : Nat} (hN : TX A N) (hR : WR A) (ho : o < A.n) (hd : A.day + 60 < 1000000) (hl : W.len ≤ 40) (hi : ∀ k, k < W.len → W.items k = (nu k).toInt64) : ∀ (d k fuel : Nat) (U : TownV), k + d = 10 → d < fuel → ∃ U' : TownV, ht_lp14 (fX7_leastFit_b2 N U0 W) fuel (nI o) (nI k) U.laws U.kind U.need U.saved U.voice U.partner U.speaks U.count U.day U.heard U.geese U.z = some (fup (fun v => fitF (A.wvc (va_up A.vc o v)) o nu 0 W.len) d k, U') := by
  intro d
  induction d with
  | zero =>
    intro k fuel U hk hf
    obtain ⟨f, rfl⟩ : ∃ f, fuel = f + 1 := ⟨fuel - 1, by omega⟩
    have e : k = 10 := by omega
    subst e
    refine ⟨U, ?_⟩
    show fX7_leastFit_b2 N U0 W (ht_lp14 (fX7_leastFit_b2 N U0 W) f) (nI o) (nI 10) U.laws U.kind U.need U.saved U.voice U.partner U.speaks U.count U.day U.heard U.geese U.z = _
    unfold fX7_leastFit_b2
    rw [if_pos (show (9 : Int32) < nI 10 by decide)]
    rfl
  | succ d ih =>
    intro k fuel U hk hf
    obtain ⟨f, rfl⟩ : ∃ f, fuel = f + 1 := ⟨fuel - 1, by omega⟩
    have c : ¬ (9 : Int32) < nI k := (show ¬ nI 9 < nI k by rw [z_lt (by omega) (by omega)]; omega)
    obtain ⟨U1, e1⟩ := x_voiceFits (U := U.eta) (nu := nu) hN hR ho (v := k) (by omega) hd hl hi
    have E : ht_lp14 (fX7_leastFit_b2 N U0 W) (f + 1) (nI o) (nI k) U.laws U.kind U.need U.saved U.voice U.partner U.speaks U.count U.day U.heard U.geese U.z = (if bI (fitF (A.wvc (va_up A.vc o k)) o nu 0 W.len) = 0 then ht_lp14 (fX7_leastFit_b2 N U0 W) f (nI o) (nI (k + 1)) U1.laws U1.kind U1.need U1.saved U1.voice U1.partner U1.speaks U1.count U1.day U1.heard U1.geese U1.z else some (nI k, U1)) := by
      show fX7_leastFit_b2 N U0 W (ht_lp14 (fX7_leastFit_b2 N U0 W) f) (nI o) (nI k) U.laws U.kind U.need U.saved U.voice U.partner U.speaks U.count U.day U.heard U.geese U.z = _
      unfold fX7_leastFit_b2
      rw [if_neg c]
      refine Eq.trans (z_bn e1) ?_
      rw [z_nm, nI_1]
    rw [E]
    have hfu : fup (fun v => fitF (A.wvc (va_up A.vc o v)) o nu 0 W.len) (d + 1) k = (if fitF (A.wvc (va_up A.vc o k)) o nu 0 W.len then nI k else fup (fun v => fitF (A.wvc (va_up A.vc o v)) o nu 0 W.len) d (k + 1)) := rfl
    rw [hfu]
    cases q : fitF (A.wvc (va_up A.vc o k)) o nu 0 W.len with
    | false =>
      obtain ⟨U2, e2⟩ := ih (k + 1) f U1 (by omega) (by omega)
      exact ⟨U2, e2⟩
    | true => exact ⟨U1, rfl⟩
theorem t_fitsM {A : Tn} {RM : ModV} {nu : Nat → Int32} {o t len : Nat} {y : Int32} (hM : TM A RM.s) (hR : WR A) (hA : WA A) (ho : o < A.n) (hd : A.day + 60 < 1000000) (ht : t < 4) (hl : len ≤ 40) (hz : RM.sizeOf t = nI len) (hnu : ∀ k, k < len → RM.numbers (40 * t + k) = nu k) : ∀ (k fuel many : Nat) (first : Int32) (s a : AI), k < fuel → k ≤ 10 → (∀ j, j < 57 → j ≠ 9 + 6 * o + 3 → s j = RM.s j) → ∃ s' a' : AI, ht_lp10 (fX9_fits_b70 RM) fuel (nI t) (nI o) y (nI (9 + 6 * o + 3)) (RM.s (9 + 6 * o + 3)) (nI many) first (nI k - 1) s a = some (if y = 0 then nI (many + fa_cnt (fun v => fitF (A.wvc (va_up A.vc o v)) o nu 0 len) k) else fdn (fun v => fitF (A.wvc (va_up A.vc o v)) o nu 0 len) first k, s', a') ∧ ∀ j, j < 57 → s' j = RM.s j := by
  have h8 := hR.1
  have gM : ht_ix (nI (9 + 6 * o + 3)) 57 = true := z_ix (by omega) (by omega)
  have cM : (nI (9 + 6 * o + 3)).toNatClampNeg = 9 + 6 * o + 3 := z_cl (by omega)
  intro k
  induction k with
  | zero =>
    intro fuel many first s a hf hk hs
    obtain ⟨f, rfl⟩ : ∃ f, fuel = f + 1 := ⟨fuel - 1, by omega⟩
    refine ⟨upd s (9 + 6 * o + 3) (RM.s (9 + 6 * o + 3)), a, ?_, fun j hj => ?_⟩
    · show fX9_fits_b70 RM (ht_lp10 (fX9_fits_b70 RM) f) (nI t) (nI o) y (nI (9 + 6 * o + 3)) (RM.s (9 + 6 * o + 3)) (nI many) first (nI 0 - 1) s a = _
      unfold fX9_fits_b70 fX9_fits_b127
      rw [if_pos (show nI 0 - 1 < 0 by decide), z_gd gM, z_nm, cM]
      by_cases q : y = 0
      · rw [if_pos q, if_pos q]; rfl
      · rw [if_neg q, if_neg q]; rfl
    · by_cases e : j = 9 + 6 * o + 3
      · rw [e, pk_us]
      · rw [pk_un e]; exact hs j hj e
  | succ k ih =>
    intro fuel many first s a hf hk hs
    obtain ⟨f, rfl⟩ : ∃ f, fuel = f + 1 := ⟨fuel - 1, by omega⟩
    have RK : WR (A.wvc (va_up A.vc o k)) := WR.vc hR (by omega)
    have hMk : TM (A.wvc (va_up A.vc o k)) (upd s (9 + 6 * o + 3) (nI k)) := TM.same (TM.vc (v := k) hM ho) h8 (up_57 hs)
    obtain ⟨s1, a1, e1, h1⟩ := m_isTold (RM := RM.wsa (upd s (9 + 6 * o + 3) (nI k)) a) (nu := nu) (t := t) (len := len) hMk RK hA ho hd ht hl hz hnu
    have hs1 : ∀ j, j < 57 → j ≠ 9 + 6 * o + 3 → s1 j = RM.s j := fun j hj e => (h1 j hj).trans ((pk_un e).trans (hs j hj e))
    have em : nI k + (-1 : Int32) = nI k - 1 := (Int32.sub_eq_add_neg (nI k) 1).symm
    have E : ∀ r, fX9_fits_b104 RM (ht_lp10 (fX9_fits_b70 RM) f) (nI t) (nI o) y (nI (9 + 6 * o + 3)) (RM.s (9 + 6 * o + 3)) first (nI k) (bI (fitF (A.wvc (va_up A.vc o k)) o nu 0 len)) (nI many) (bI (fitF (A.wvc (va_up A.vc o k)) o nu 0 len)) s1 a1 = r → ht_lp10 (fX9_fits_b70 RM) (f + 1) (nI t) (nI o) y (nI (9 + 6 * o + 3)) (RM.s (9 + 6 * o + 3)) (nI many) first (nI (k + 1) - 1) s a = r := by
      intro r hr
      rw [← hr]
      show fX9_fits_b70 RM (ht_lp10 (fX9_fits_b70 RM) f) (nI t) (nI o) y (nI (9 + 6 * o + 3)) (RM.s (9 + 6 * o + 3)) (nI many) first (nI (k + 1) - 1) s a = _
      unfold fX9_fits_b70
      rw [nI_pred, if_neg (nI_pos (by omega)), z_gd gM, z_nm, cM]
      refine Eq.trans (z_bn e1) ?_
      rw [z_nm]
      cases fitF (A.wvc (va_up A.vc o k)) o nu 0 len with
      | false => rw [if_pos (show bI false = 0 from rfl)]; rfl
      | true => rw [if_neg (show ¬ bI true = 0 by decide)]; rfl
    cases q : fitF (A.wvc (va_up A.vc o k)) o nu 0 len with
    | false =>
      obtain ⟨s2, a2, e2, h2⟩ := ih f many first s1 a1 (by omega) (by omega) hs1
      refine ⟨s2, a2, E _ ?_, h2⟩
      rw [q]
      unfold fX9_fits_b104 fX9_fits_b119
      rw [z_nm, if_pos (show bI false = 0 from rfl), z_nm, em, show nI many + bI false = nI many from z_add many 0, e2, fa_cnt_no (p := fun v => fitF (A.wvc (va_up A.vc o v)) o nu 0 len) q]
      have hfd : fdn (fun v => fitF (A.wvc (va_up A.vc o v)) o nu 0 len) first (k + 1) = fdn (fun v => fitF (A.wvc (va_up A.vc o v)) o nu 0 len) first k := by
        show fdn _ (if fitF (A.wvc (va_up A.vc o k)) o nu 0 len then nI k else first) k = _
        rw [q]; rfl
      rw [hfd]
    | true =>
      obtain ⟨s2, a2, e2, h2⟩ := ih f (many + 1) (nI k) s1 a1 (by omega) (by omega) hs1
      refine ⟨s2, a2, E _ ?_, h2⟩
      rw [q]
      unfold fX9_fits_b104 fX9_fits_b119
      rw [z_nm, if_neg (show ¬ bI true = 0 by decide), z_nm, em, show nI many + bI true = nI (many + 1) from z_add many 1, e2, fa_cnt_yes (p := fun v => fitF (A.wvc (va_up A.vc o v)) o nu 0 len) q]
      have hfd : fdn (fun v => fitF (A.wvc (va_up A.vc o v)) o nu 0 len) first (k + 1) = fdn (fun v => fitF (A.wvc (va_up A.vc o v)) o nu 0 len) (nI k) k := by
        show fdn _ (if fitF (A.wvc (va_up A.vc o k)) o nu 0 len then nI k else first) k = _
        rw [q]; rfl
      rw [hfd, show many + 1 + fa_cnt (fun v => fitF (A.wvc (va_up A.vc o v)) o nu 0 len) k = many + (fa_cnt (fun v => fitF (A.wvc (va_up A.vc o v)) o nu 0 len) k + 1) by omega]
theorem o_fits_n {RX : HTV} {G : AQ} {A : Tn} {T U : TownV} {RM : ModV} (hI : TI A T RM.s) {y1 : Int32} (y2 y3 : Int32) (h : ∀ t, t < 4 → y1 = nI t → G t = none ∧ RM.sortOf t = -1) : ∃ r, fX8_fits_n RX T U G y1 y2 y3 = some r ∧ fX9_fits RM y1 y2 y3 = some (r, RM.s, RM.aside) := by
  obtain ⟨hT, hM, hR, hA, hP⟩ := hI
  have h8 := hR.1
  rcases z_four y1 with ⟨a, -, b, -, -⟩ | ⟨t, ht, e, a, -, b, -, g, c⟩
  · refine ⟨-1, ?_, ?_⟩
    · unfold fX8_fits_n; rw [z_bn a, if_pos rfl]
    · unfold fX9_fits; rw [z_bn b, if_pos rfl]
  obtain ⟨h1, h2⟩ := h t ht e
  rcases z_has (T := T) (RM := RM) hT.1 hM.1 h8 y2 with ⟨w2, i2⟩ | ⟨o, ho, rfl, w2, i2⟩
  · refine ⟨-1, ?_, ?_⟩
    · unfold fX8_fits_n; rw [z_bn a, if_neg z_01, z_bn w2, if_pos rfl]
    · unfold fX9_fits; rw [z_bn b, if_neg z_01, z_bn i2, if_pos rfl]
  rcases z_rng y3 0 1 (a := 0) (b := 1) (c := 0) (d := 1) rfl rfl rfl rfl (by omega) (by omega) with ⟨w3, i3⟩ | ⟨q, -, hq, rfl, w3, i3⟩
  · refine ⟨-1, ?_, ?_⟩
    · unfold fX8_fits_n; rw [z_bn a, if_neg z_01, z_bn w2, if_neg z_01, z_bn w3, if_pos rfl]
    · unfold fX9_fits; rw [z_bn b, if_neg z_01, z_bn i2, if_neg z_01, z_bn i3, if_pos rfl]
  refine ⟨-11, ?_, ?_⟩
  · unfold fX8_fits_n; rw [z_bn a, if_neg z_01, z_bn w2, if_neg z_01, z_bn w3, if_neg z_01, z_gd g, c, z_gd (decide_eq_true h1)]
  · unfold fX9_fits; rw [z_bn b, if_neg z_01, z_bn i2, if_neg z_01, z_bn i3, if_neg z_01, z_gd g, c, h2, if_neg (by decide)]
theorem o_fits_s {RX : HTV} {G : AQ} {A : Tn} {T U : TownV} {RM : ModV} (hI : TI A T RM.s) (hB : A.day + 60 < 1000000) {jW t q : Nat} {W : RowV} (ht : t < 4) (hG : G t = some jW) (hr : SHr W q RM.sortOf RM.sizeOf RM.numbers t) (y2 y3 : Int32) : ∃ (r : Int32) (U' : TownV) (s' a' : AI), fX8_fits_s jW RX T U G W (nI t) y2 y3 = some (r, U') ∧ fX9_fits RM (nI t) y2 y3 = some (r, s', a') ∧ (∀ k, k < 57 → s' k = RM.s k) := by
  obtain ⟨hs, hq, hso, hl, hz, hi⟩ := hr
  obtain ⟨hT, hM, hR, hA, hP⟩ := hI
  have h8 := hR.1
  obtain ⟨a, -, b, -, g, c⟩ := z_fourI ht
  rcases z_has (T := T) (RM := RM) hT.1 hM.1 h8 y2 with ⟨w2, i2⟩ | ⟨o, ho, rfl, w2, i2⟩
  · refine ⟨-1, U, RM.s, RM.aside, ?_, ?_, fun _ _ => rfl⟩
    · unfold fX8_fits_s; rw [z_bn a, if_neg z_01, z_bn w2, if_pos rfl]
    · unfold fX9_fits; rw [z_bn b, if_neg z_01, z_bn i2, if_pos rfl]
  rcases z_rng y3 0 1 (a := 0) (b := 1) (c := 0) (d := 1) rfl rfl rfl rfl (by omega) (by omega) with ⟨w3, i3⟩ | ⟨p, -, hp, rfl, w3, i3⟩
  · refine ⟨-1, U, RM.s, RM.aside, ?_, ?_, fun _ _ => rfl⟩
    · unfold fX8_fits_s; rw [z_bn a, if_neg z_01, z_bn w2, if_neg z_01, z_bn w3, if_pos rfl]
    · unfold fX9_fits; rw [z_bn b, if_neg z_01, z_bn i2, if_neg z_01, z_bn i3, if_pos rfl]
  have e3 : ((9 : Int32) + ((6 : Int32) * nI o)) + (3 : Int32) = nI (9 + 6 * o + 3) := z_at o 3
  have gM : ht_ix (nI (9 + 6 * o + 3)) 57 = true := z_ix (by omega) (by omega)
  have cM : (nI (9 + 6 * o + 3)).toNatClampNeg = 9 + 6 * o + 3 := z_cl (by omega)
  obtain ⟨s', a', em, hm⟩ := t_fitsM (RM := RM) (nu := fun k => RM.numbers (40 * t + k)) (y := nI p) hM hR hA ho hB ht hl hz (fun _ _ => rfl) 10 FU 0 (-3) RM.s RM.aside (by decide) (by omega) (fun _ _ _ => rfl)
  have EM : fX9_fits RM (nI t) (nI o) (nI p) = ht_lp10 (fX9_fits_b70 RM) FU (nI t) (nI o) (nI p) (nI (9 + 6 * o + 3)) (RM.s (9 + 6 * o + 3)) (nI 0) (-3 : Int32) (nI 10 - 1) RM.s RM.aside := by
    unfold fX9_fits
    rw [z_bn b, if_neg z_01, z_bn i2, if_neg z_01, z_bn i3, if_neg z_01, z_gd g, c, hso, if_pos (nI_pos' (by omega)), e3, z_nm, z_gd gM, z_nm, cM]
    rfl
  by_cases p0 : p = 0
  · subst p0
    obtain ⟨U', ex⟩ := t_howX (U0 := U) (nu := fun k => RM.numbers (40 * t + k)) hT hR ho hB hl hi 10 0 FU U (by omega) (by decide)
    refine ⟨nI (fa_cnt (fun v => fitF (A.wvc (va_up A.vc o v)) o (fun k => RM.numbers (40 * t + k)) 0 W.len) 10), U', s', a', ?_, ?_, hm⟩
    · unfold fX8_fits_s
      rw [z_bn a, if_neg z_01, z_bn w2, if_neg z_01, z_bn w3, if_neg z_01, z_gd g, c, z_gd (decide_eq_true hG), if_pos (show nI 0 = (0 : Int32) from rfl)]
      exact z_bn ex
    · rw [EM, em, if_pos (show nI 0 = (0 : Int32) from rfl), Nat.zero_add]
  · obtain ⟨U', ex⟩ := t_leastX (U0 := U) (nu := fun k => RM.numbers (40 * t + k)) hT hR ho hB hl hi 10 0 FU U (by omega) (by decide)
    have n0 : ¬ nI p = (0 : Int32) := z_neL (b := 0) (c := 0) rfl p0 (by omega) (by omega)
    refine ⟨fup (fun v => fitF (A.wvc (va_up A.vc o v)) o (fun k => RM.numbers (40 * t + k)) 0 W.len) 10 0, U', s', a', ?_, ?_, hm⟩
    · unfold fX8_fits_s
      rw [z_bn a, if_neg z_01, z_bn w2, if_neg z_01, z_bn w3, if_neg z_01, z_gd g, c, z_gd (decide_eq_true hG), if_neg n0]
      exact z_bn ex
    · rw [EM, em, if_neg n0]
      have hfd := fdn_up (fun v => fitF (A.wvc (va_up A.vc o v)) o (fun k => RM.numbers (40 * t + k)) 0 W.len) 10 0
      have hfd' : fdn (fun v => fitF (A.wvc (va_up A.vc o v)) o (fun k => RM.numbers (40 * t + k)) 0 W.len) (-3) 10 = fup (fun v => fitF (A.wvc (va_up A.vc o v)) o (fun k => RM.numbers (40 * t + k)) 0 W.len) 10 0 := hfd
      rw [hfd']
