/-! ===== several days ===== -/
def passA (A : Tn) : Nat → Tn
  | 0 => A
  | k + 1 => dayA (passA A k)
def totA (A : Tn) : Nat → Nat
  | 0 => 0
  | k + 1 => totA A k + dSaid (passA A k)
theorem dayA_A {A : Tn} (h : WA A) : WA (dayA A) := chgN_A (h.of (dSv_n A) (dSv_pr A) (dSv_sp A)) _
theorem passA_n (A : Tn) : ∀ k, (passA A k).n = A.n
  | 0 => rfl
  | k + 1 => (dayA_n _).trans (passA_n A k)
theorem passA_day (A : Tn) : ∀ k, (passA A k).day = A.day + k
  | 0 => rfl
  | k + 1 => by show (dayA (passA A k)).day = A.day + (k + 1); rw [dayA_day, passA_day A k]; omega
theorem passA_R {A : Tn} (h : WR A) : ∀ k, A.day + k < 1000000 → WR (passA A k)
  | 0, _ => h
  | k + 1, hk => dayA_R (passA_R h k (by omega)) (by rw [passA_day]; omega)
theorem passA_A {A : Tn} (h : WA A) : ∀ k, WA (passA A k)
  | 0 => h
  | k + 1 => dayA_A (passA_A h k)
theorem totA_le {A : Tn} (h : WR A) : ∀ k, A.day + k < 1000000 → totA A k ≤ 576 * k
  | 0, _ => Nat.zero_le _
  | k + 1, hk => by
    have h1 := totA_le h k (by omega)
    have h2 := dSaid_le (passA_R h k (by omega))
    show totA A k + dSaid (passA A k) ≤ 576 * (k + 1)
    omega
theorem x_passN {A : Tn} {T : TownV} (hR : WR A) {n : Nat} (hn : n ≤ 1000) (hd : A.day + n < 1000000) : ∀ (d k fuel : Nat) (nd sv sp : AI) (dy hr gs : Int32), k + d = n → d < fuel → TX (passA A k) (T.laws, T.kind, nd, sv, T.voice, T.partner, sp, T.count, dy, hr, gs, T.z) → ∃ nd' sv' sp' dy' hr' gs', ht_lp9 (fX6_pass_b4 T) fuel (nI n) (nI (totA A k)) (nI k) nd sv sp dy hr gs = some (nI (totA A n), nd', sv', sp', dy', hr', gs') ∧ TX (passA A n) (T.laws, T.kind, nd', sv', T.voice, T.partner, sp', T.count, dy', hr', gs', T.z) := by
  intro d
  induction d with
  | zero =>
    intro k fuel nd sv sp dy hr gs hk hf hT
    obtain ⟨f, rfl⟩ : ∃ f, fuel = f + 1 := ⟨fuel - 1, by omega⟩
    have e : n = k := by omega
    refine ⟨nd, sv, sp, dy, hr, gs, ?_, by rw [e]; exact hT⟩
    show fX6_pass_b4 T (ht_lp9 (fX6_pass_b4 T) f) (nI n) (nI (totA A k)) (nI k) nd sv sp dy hr gs = _
    unfold fX6_pass_b4
    rw [if_pos (by rw [z_le (by omega) (by omega)]; omega), e]
  | succ d ih =>
    intro k fuel nd sv sp dy hr gs hk hf hT
    obtain ⟨f, rfl⟩ : ∃ f, fuel = f + 1 := ⟨fuel - 1, by omega⟩
    obtain ⟨nd1, sv1, sp1, e1, h1⟩ := x_passDay hT (passA_R hR k (by omega))
    obtain ⟨nd2, sv2, sp2, dy2, hr2, gs2, e2, h2⟩ := ih (k + 1) f nd1 sv1 sp1 _ _ _ (by omega) (by omega) h1
    refine ⟨nd2, sv2, sp2, dy2, hr2, gs2, Eq.trans ?_ e2, h2⟩
    show fX6_pass_b4 T (ht_lp9 (fX6_pass_b4 T) f) (nI n) (nI (totA A k)) (nI k) nd sv sp dy hr gs = _
    unfold fX6_pass_b4
    rw [if_neg (by rw [z_le (by omega) (by omega)]; omega), z_bn e1, z_nm, z_nm, nI_1, z_add]
    rfl
/-- n days of the class' town -/
theorem x_pass {A : Tn} {T : TownV} (hT : TX A T) (hR : WR A) {n : Nat} (hn : n ≤ 60) (hd : A.day + n < 1000000) : ∃ nd' sv' sp' dy' hr' gs', fX6_pass T (nI n) = some (nI (totA A n), nd', sv', sp', dy', hr', gs') ∧ TX (passA A n) (T.laws, T.kind, nd', sv', T.voice, T.partner, sp', T.count, dy', hr', gs', T.z) :=
  x_passN hR (by omega) hd n 0 FU T.need T.saved T.speaks T.day T.heard T.geese (by omega) (by show n < 300; omega) hT
theorem m_copyRowN {P Q0 : AI} : ∀ (d k fuel : Nat) (Q : AI), k + d = 57 → d < fuel → (∀ j, j < k → Q j = P j) → ∃ Q', ht_lp2 (fX9_copyRow_b2 P Q0) fuel (nI k) Q = some Q' ∧ ∀ j, j < 57 → Q' j = P j := by
  intro d
  induction d with
  | zero =>
    intro k fuel Q hk hf hQ
    obtain ⟨f, rfl⟩ : ∃ f, fuel = f + 1 := ⟨fuel - 1, by omega⟩
    refine ⟨Q, ?_, fun j hj => hQ j (by omega)⟩
    show fX9_copyRow_b2 P Q0 (ht_lp2 (fX9_copyRow_b2 P Q0) f) (nI k) Q = _
    unfold fX9_copyRow_b2
    rw [if_pos (show (57 : Int32) ≤ nI k from (show nI 57 ≤ nI k by rw [z_le (by omega) (by omega)]; omega))]
  | succ d ih =>
    intro k fuel Q hk hf hQ
    obtain ⟨f, rfl⟩ : ∃ f, fuel = f + 1 := ⟨fuel - 1, by omega⟩
    obtain ⟨Q2, e2, h2⟩ := ih (k + 1) f (upd Q k (P k)) (by omega) (by omega) (fun j hj => by
      by_cases e : j = k
      · subst e; exact pk_us
      · rw [pk_un e]; exact hQ j (by omega))
    refine ⟨Q2, Eq.trans ?_ e2, h2⟩
    have g : ht_ix (nI k) 57 = true := z_ix (by omega) (by omega)
    show fX9_copyRow_b2 P Q0 (ht_lp2 (fX9_copyRow_b2 P Q0) f) (nI k) Q = _
    unfold fX9_copyRow_b2
    rw [if_neg (show ¬ (57 : Int32) ≤ nI k from (show ¬ nI 57 ≤ nI k by rw [z_le (by omega) (by omega)]; omega)), z_gd g, z_gd g, z_nm, z_nm, nI_1, z_cl (by omega)]
theorem m_copyRow (P Q : AI) : ∃ Q', fX9_copyRow P Q = some Q' ∧ ∀ j, j < 57 → Q' j = P j := m_copyRowN 57 0 FU Q (by omega) (by decide) (fun j hj => absurd hj (by omega))
/-- the reference with another row of the town, and another row put aside -/
abbrev ModV.wsa (RM : ModV) (s a : AI) : ModV := (s, RM.held, a, RM.before, RM.isHeld, RM.tape, RM.taped, RM.token, RM.frm, RM.to, RM.value, RM.isWrong, RM.unpaired, RM.bestSound, RM.bestWay, RM.rows, RM.rowN, RM.sortOf, RM.sizeOf, RM.numbers, RM.holdsWhat, RM.holdsWhich, RM.holdsMany, RM.bodies, RM.ran, RM.actKind, RM.actN, RM.actA, RM.isParted)
theorem m_soundN {A : Tn} {RM : ModV} {a : AI} (hR : WR A) (hA : WA A) {n : Nat} (hn : n ≤ 1000) (hd : A.day + n < 1000000) : ∀ (d k fuel : Nat) (s : AI), k + d = n → d < fuel → TM (passA A k) s → ∃ s', ht_lp5 (fX9_soundBy_b15 RM) fuel (nI n) (nI (totA A k)) (nI k) s a = fX9_soundBy_b33 RM (nI (totA A n)) s' a ∧ TM (passA A n) s' := by
  intro d
  induction d with
  | zero =>
    intro k fuel s hk hf hM
    obtain ⟨f, rfl⟩ : ∃ f, fuel = f + 1 := ⟨fuel - 1, by omega⟩
    have e : n = k := by omega
    refine ⟨s, ?_, by rw [e]; exact hM⟩
    show fX9_soundBy_b15 RM (ht_lp5 (fX9_soundBy_b15 RM) f) (nI n) (nI (totA A k)) (nI k) s a = _
    unfold fX9_soundBy_b15
    rw [if_pos (by rw [z_le (by omega) (by omega)]; omega), e]
  | succ d ih =>
    intro k fuel s hk hf hM
    obtain ⟨f, rfl⟩ : ∃ f, fuel = f + 1 := ⟨fuel - 1, by omega⟩
    obtain ⟨s1, e1, h1⟩ := m_goesOn (RM := RM.wsa s a) hM (passA_R hR k (by omega)) (passA_A hA k)
    obtain ⟨s2, e2, h2⟩ := ih (k + 1) f s1 (by omega) (by omega) h1
    refine ⟨s2, Eq.trans ?_ e2, h2⟩
    show fX9_soundBy_b15 RM (ht_lp5 (fX9_soundBy_b15 RM) f) (nI n) (nI (totA A k)) (nI k) s a = _
    unfold fX9_soundBy_b15
    rw [if_neg (by rw [z_le (by omega) (by omega)]; omega), z_bn e1, z_nm, z_nm, nI_1, z_add]
    rfl
/-- what is said in n days, tried by the reference: its row is as it was -/
theorem m_soundBy {A : Tn} {RM : ModV} (hM : TM A RM.s) (hR : WR A) (hA : WA A) {n : Nat} (hn : n ≤ 60) (hd : A.day + n < 1000000) : ∃ s' a', fX9_soundBy RM (nI n) = some (nI (totA A n), s', a') ∧ (∀ k, k < 57 → s' k = RM.s k) := by
  obtain ⟨a, e1, h1⟩ := m_copyRow RM.s RM.aside
  obtain ⟨s2, e2, h2⟩ := m_soundN (RM := RM) (a := a) hR hA (n := n) (by omega) hd n 0 FU RM.s (by omega) (by show n < 300; omega) hM
  obtain ⟨s3, e3, h3⟩ := m_copyRow a s2
  refine ⟨s3, a, ?_, fun k hk => (h3 k hk).trans (h1 k hk)⟩
  unfold fX9_soundBy
  rw [z_bn e1]
  refine Eq.trans e2 ?_
  unfold fX9_soundBy_b33
  rw [z_bn e3]
/-! ===== copies of the class' town ===== -/
theorem x_copyLawsN {T U : TownV} : ∀ (d k fuel : Nat) (la : AI) (dy : Int32), k + d = 4 → d < fuel → (∀ j, j < k → la j = U.laws j) → ∃ la', ht_lp3 (fX6_copyLawsAndDay_b2 T U) fuel (nI k) la dy = some (la', U.day) ∧ ∀ j, j < 4 → la' j = U.laws j := by
  intro d
  induction d with
  | zero =>
    intro k fuel la dy hk hf hQ
    obtain ⟨f, rfl⟩ : ∃ f, fuel = f + 1 := ⟨fuel - 1, by omega⟩
    refine ⟨la, ?_, fun j hj => hQ j (by omega)⟩
    show fX6_copyLawsAndDay_b2 T U (ht_lp3 (fX6_copyLawsAndDay_b2 T U) f) (nI k) la dy = _
    unfold fX6_copyLawsAndDay_b2 fX6_copyLawsAndDay_b25
    rw [if_pos (show (4 : Int32) ≤ nI k from (show nI 4 ≤ nI k by rw [z_le (by omega) (by omega)]; omega)), z_nm]
  | succ d ih =>
    intro k fuel la dy hk hf hQ
    obtain ⟨f, rfl⟩ : ∃ f, fuel = f + 1 := ⟨fuel - 1, by omega⟩
    obtain ⟨Q2, e2, h2⟩ := ih (k + 1) f (upd la k (U.laws k)) dy (by omega) (by omega) (fun j hj => by
      by_cases e : j = k
      · subst e; exact pk_us
      · rw [pk_un e]; exact hQ j (by omega))
    refine ⟨Q2, Eq.trans ?_ e2, h2⟩
    have g : ht_ix (nI k) 4 = true := z_ix (by omega) (by omega)
    show fX6_copyLawsAndDay_b2 T U (ht_lp3 (fX6_copyLawsAndDay_b2 T U) f) (nI k) la dy = _
    unfold fX6_copyLawsAndDay_b2
    rw [if_neg (show ¬ (4 : Int32) ≤ nI k from (show ¬ nI 4 ≤ nI k by rw [z_le (by omega) (by omega)]; omega)), z_gd g, z_gd g, z_nm, z_nm, nI_1, z_cl (by omega)]
theorem x_copyLaws (T U : TownV) : ∃ la', fX6_copyLawsAndDay T U = some (la', U.day) ∧ ∀ j, j < 4 → la' j = U.laws j := x_copyLawsN 4 0 FU T.laws T.day (by omega) (by decide) (fun j hj => absurd hj (by omega))
theorem nar_bool {v : Nat} (h : v ≤ 1) : vp_nar .boolean (nI v) = nI v := by
  have : v = 0 ∨ v = 1 := by omega
  rcases this with rfl | rfl <;> rfl
theorem up_same {f g : AI} {k : Nat} (h : ∀ j, j < k → f j = g j) {x : Int32} (hx : x = g k) : ∀ j, j < k + 1 → upd f k x j = g j := fun j hj => by
  by_cases e : j = k
  · subst e; rw [pk_us]; exact hx
  · rw [pk_un e]; exact h j (by omega)
theorem x_copyN {A : Tn} {T U : TownV} (hU : TX A U) (hR : WR A) {la : AI} {dy hr gs z : Int32} : ∀ (d k fuel : Nat) (kd nd sv vc pr sp : AI), k + d = A.n → d < fuel → (∀ j, j < k → kd j = U.kind j) → (∀ j, j < k → nd j = U.need j) → (∀ j, j < k → sv j = U.saved j) → (∀ j, j < k → vc j = U.voice j) → (∀ j, j < k → pr j = U.partner j) → (∀ j, j < k → sp j = U.speaks j) → ∃ kd' nd' sv' vc' pr' sp', ht_lp13 (fX6_copyFrom_b39 T U) fuel (nI k) la kd nd sv vc pr sp (nI A.n) dy hr gs z = some (la, kd', nd', sv', vc', pr', sp', nI A.n, dy, hr, gs, z) ∧ (∀ j, j < A.n → kd' j = U.kind j) ∧ (∀ j, j < A.n → nd' j = U.need j) ∧ (∀ j, j < A.n → sv' j = U.saved j) ∧ (∀ j, j < A.n → vc' j = U.voice j) ∧ (∀ j, j < A.n → pr' j = U.partner j) ∧ (∀ j, j < A.n → sp' j = U.speaks j) := by
  have h8 := hR.1
  intro d
  induction d with
  | zero =>
    intro k fuel kd nd sv vc pr sp hk hf a1 a2 a3 a4 a5 a6
    obtain ⟨f, rfl⟩ : ∃ f, fuel = f + 1 := ⟨fuel - 1, by omega⟩
    have e : A.n = k := by omega
    refine ⟨kd, nd, sv, vc, pr, sp, ?_, by rw [e]; exact a1, by rw [e]; exact a2, by rw [e]; exact a3, by rw [e]; exact a4, by rw [e]; exact a5, by rw [e]; exact a6⟩
    show fX6_copyFrom_b39 T U (ht_lp13 (fX6_copyFrom_b39 T U) f) (nI k) la kd nd sv vc pr sp (nI A.n) dy hr gs z = _
    unfold fX6_copyFrom_b39
    rw [if_pos (by rw [z_le (by omega) (by omega)]; omega)]
  | succ d ih =>
    intro k fuel kd nd sv vc pr sp hk hf a1 a2 a3 a4 a5 a6
    obtain ⟨f, rfl⟩ : ∃ f, fuel = f + 1 := ⟨fuel - 1, by omega⟩
    have hkn : k < A.n := by omega
    have hs : U.speaks k = nI (A.sp k) := hU.2.2.2.2.2.2.2.2.2.2.2 k hkn
    have hb : vp_nar .boolean (U.speaks k) = U.speaks k := by rw [hs]; exact nar_bool (hR.2.2.2.2.2.2.2.2 k hkn).2.2.2.2.1
    obtain ⟨kd2, nd2, sv2, vc2, pr2, sp2, e2, h2⟩ := ih (k + 1) f (upd kd k (U.kind k)) (upd nd k (U.need k)) (upd sv k (U.saved k)) (upd vc k (U.voice k)) (upd pr k (U.partner k)) (upd sp k (U.speaks k)) (by omega) (by omega) (up_same a1 rfl) (up_same a2 rfl) (up_same a3 rfl) (up_same a4 rfl) (up_same a5 rfl) (up_same a6 rfl)
    refine ⟨kd2, nd2, sv2, vc2, pr2, sp2, Eq.trans ?_ e2, h2⟩
    have g : ht_ix (nI k) 8 = true := z_ix (by omega) (by omega)
    have ei : (nI k).toNatClampNeg = k := z_cl (by omega)
    show fX6_copyFrom_b39 T U (ht_lp13 (fX6_copyFrom_b39 T U) f) (nI k) la kd nd sv vc pr sp (nI A.n) dy hr gs z = _
    unfold fX6_copyFrom_b39
    rw [if_neg (by rw [z_le (by omega) (by omega)]; omega)]
    simp only [g, ht_gd, ht_nm, ei, hb, nI_1]
/-- a copy holds the same numbers -/
theorem x_copyFrom {A : Tn} {T U : TownV} (hU : TX A U) (hR : WR A) : ∃ T' : TownV, fX6_copyFrom T U = some T' ∧ TX A T' := by
  have h8 := hR.1
  obtain ⟨la, e1, h1⟩ := x_copyLaws T U
  obtain ⟨hn, hd, hh, hg, hz, hl, hk, hne, hsa, hv, hp, hs⟩ := id hU
  obtain ⟨kd, nd, sv, vc, pr, sp, e2, b1, b2, b3, b4, b5, b6⟩ := x_copyN (T := T) (la := la) (dy := U.day) (hr := U.heard) (gs := U.geese) (z := U.z) hU hR A.n 0 FU T.kind T.need T.saved T.voice T.partner T.speaks (by omega) (by show A.n < 300; omega) (fun j hj => absurd hj (by omega)) (fun j hj => absurd hj (by omega)) (fun j hj => absurd hj (by omega)) (fun j hj => absurd hj (by omega)) (fun j hj => absurd hj (by omega)) (fun j hj => absurd hj (by omega))
  refine ⟨(la, kd, nd, sv, vc, pr, sp, nI A.n, U.day, U.heard, U.geese, U.z), ?_, ?_⟩
  · unfold fX6_copyFrom
    rw [z_bn e1]
    simp only [ht_nm, hn]
    exact e2
  · exact ⟨rfl, hd, hh, hg, hz, fun i hi => (h1 i hi).trans (hl i hi), fun i hi => (b1 i hi).trans (hk i hi), fun i hi => (b2 i hi).trans (hne i hi), fun i hi => (b3 i hi).trans (hsa i hi), fun i hi => (b4 i hi).trans (hv i hi), fun i hi => (b5 i hi).trans (hp i hi), fun i hi => (b6 i hi).trans (hs i hi)⟩
/-- what is said in n days, tried by the class -/
theorem x_soundBy {A : Tn} {T U : TownV} (hU : TX A U) (hR : WR A) {n : Nat} (hn : n ≤ 60) (hd : A.day + n < 1000000) : ∃ T' : TownV, fX7_soundBy U T (nI n) = some (nI (totA A n), T') := by
  obtain ⟨T1, e1, h1⟩ := x_copyFrom (T := T) hU hR
  obtain ⟨nd, sv, sp, dy, hr, gs, e2, h2⟩ := x_pass h1 hR hn hd
  refine ⟨(T1.laws, T1.kind, nd, sv, T1.voice, T1.partner, sp, T1.count, dy, hr, gs, T1.z), ?_⟩
  unfold fX7_soundBy
  rw [z_bn e1]
  exact z_bn e2
