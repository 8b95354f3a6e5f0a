/-! ===== keep and again ===== -/
/-- what is kept: nothing, or the same town on both sides, its day not behind d -/
def KP (RX : HTV) (U : TownV) (RM : ModV) (d : Nat) : Prop := (RX.anythingKept = 0 ∧ RM.isHeld = 0) ∨ (RX.anythingKept = 1 ∧ RM.isHeld = 1 ∧ ∃ B, TI B U RM.held ∧ B.day ≤ d)
theorem m_keepN {RM : ModV} {b : Int32} : ∀ (d k fuel : Nat) (Q : AI), k + d = 57 → d < fuel → (∀ j, j < k → Q j = RM.s j) → ∃ Q', ht_lp3 (fX9_keep_b2 RM) fuel (nI k) Q b = some (1, Q', 1) ∧ ∀ j, j < 57 → Q' j = RM.s j := by
  intro d
  induction d with
  | zero =>
    intro k fuel Q hk hf hQ
    obtain ⟨f, rfl⟩ : ∃ f, fuel = f + 1 := ⟨fuel - 1, by omega⟩
    refine ⟨Q, ?_, fun j hj => hQ j (by omega)⟩
    show fX9_keep_b2 RM (ht_lp3 (fX9_keep_b2 RM) f) (nI k) Q b = _
    unfold fX9_keep_b2 fX9_keep_b26
    rw [if_pos (show (57 : Int32) ≤ nI k from (show nI 57 ≤ nI k by rw [z_le (by omega) (by omega)]; omega))]
  | succ d ih =>
    intro k fuel Q hk hf hQ
    obtain ⟨f, rfl⟩ : ∃ f, fuel = f + 1 := ⟨fuel - 1, by omega⟩
    obtain ⟨Q2, e2, h2⟩ := ih (k + 1) f (upd Q k (RM.s k)) (by omega) (by omega) (up_same hQ rfl)
    refine ⟨Q2, Eq.trans ?_ e2, h2⟩
    have g : ht_ix (nI k) 57 = true := z_ix (by omega) (by omega)
    show fX9_keep_b2 RM (ht_lp3 (fX9_keep_b2 RM) f) (nI k) Q b = _
    unfold fX9_keep_b2
    rw [if_neg (show ¬ (57 : Int32) ≤ nI k from (show ¬ nI 57 ≤ nI k by rw [z_le (by omega) (by omega)]; omega)), z_gd g, z_gd g, z_nm, z_nm, nI_1, z_cl (by omega)]
theorem o_keep {RX : HTV} {A : Tn} {T U : TownV} {RM : ModV} (h : TI A T RM.s) : ∃ (U' : TownV) (h' : AI), fX8_keep RX T U = some (1, 1, U') ∧ fX9_keep RM = some (1, h', 1) ∧ TI A U' h' := by
  obtain ⟨hT, hM, hR, hA, hP⟩ := h
  obtain ⟨U', e1, h1⟩ := x_copyFrom (T := U) hT hR
  obtain ⟨h', e2, h2⟩ := m_keepN (RM := RM) (b := RM.isHeld) 57 0 FU RM.held (by omega) (by decide) (fun j hj => absurd hj (by omega))
  refine ⟨U', h', ?_, e2, ⟨h1, TM.same hM hR.1 h2, hR, hA, hP⟩⟩
  unfold fX8_keep
  exact z_bn e1
theorem m_againN {RM : ModV} : ∀ (d k fuel : Nat) (Q : AI), k + d = 57 → d < fuel → (∀ j, j < k → Q j = RM.held j) → ∃ Q', ht_lp2 (fX9_again_b12 RM) fuel (nI k) Q = some (Q' 0, Q') ∧ ∀ j, j < 57 → Q' j = RM.held j := by
  have g0 : ht_ix (0 : Int32) 57 = true := by decide
  have c0 : ((0 : Int32).toNatClampNeg) = 0 := rfl
  intro d
  induction d with
  | zero =>
    intro k fuel Q hk hf hQ
    obtain ⟨f, rfl⟩ : ∃ f, fuel = f + 1 := ⟨fuel - 1, by omega⟩
    refine ⟨Q, ?_, fun j hj => hQ j (by omega)⟩
    show fX9_again_b12 RM (ht_lp2 (fX9_again_b12 RM) f) (nI k) Q = _
    unfold fX9_again_b12 fX9_again_b36
    rw [if_pos (show (57 : Int32) ≤ nI k from (show nI 57 ≤ nI k by rw [z_le (by omega) (by omega)]; omega)), z_gd g0, c0]
  | succ d ih =>
    intro k fuel Q hk hf hQ
    obtain ⟨f, rfl⟩ : ∃ f, fuel = f + 1 := ⟨fuel - 1, by omega⟩
    obtain ⟨Q2, e2, h2⟩ := ih (k + 1) f (upd Q k (RM.held k)) (by omega) (by omega) (up_same hQ rfl)
    refine ⟨Q2, Eq.trans ?_ e2, h2⟩
    have g : ht_ix (nI k) 57 = true := z_ix (by omega) (by omega)
    show fX9_again_b12 RM (ht_lp2 (fX9_again_b12 RM) f) (nI k) Q = _
    unfold fX9_again_b12
    rw [if_neg (show ¬ (57 : Int32) ≤ nI k from (show ¬ nI 57 ≤ nI k by rw [z_le (by omega) (by omega)]; omega)), z_gd g, z_gd g, z_nm, z_nm, nI_1, z_cl (by omega)]
theorem o_again {RX : HTV} {A : Tn} {T U : TownV} {RM : ModV} {d : Nat} (h : TI A T RM.s) (hd : A.day ≤ d) (hk : KP RX U RM d) : ∃ (r : Int32) (T' : TownV) (s' : AI) (A' : Tn), fX8_again RX T U = some (r, T') ∧ fX9_again RM = some (r, s') ∧ TI A' T' s' ∧ A'.day ≤ d := by
  rcases hk with ⟨k1, k2⟩ | ⟨k1, k2, B, hB, hBd⟩
  · refine ⟨-3, T, RM.s, A, ?_, ?_, h, hd⟩
    · unfold fX8_again; rw [if_pos k1]
    · unfold fX9_again; rw [if_pos k2]
  · obtain ⟨hT, hM, hR, hA, hP⟩ := hB
    obtain ⟨T', e1, h1⟩ := x_copyFrom (T := T) hT hR
    obtain ⟨s', e2, h2⟩ := m_againN (RM := RM) 57 0 FU RM.s (by omega) (by decide) (fun j hj => absurd hj (by omega))
    have M' : TM B s' := TM.same hM hR.1 h2
    have e3 : s' 0 = nI B.n := M'.1
    have e4 : T'.count = nI B.n := h1.1
    refine ⟨nI B.n, T', s', B, ?_, ?_, ⟨h1, M', hR, hA, hP⟩, hBd⟩
    · unfold fX8_again
      rw [if_neg (by rw [k1]; decide)]
      refine Eq.trans (z_bn e1) ?_
      rw [← e4]
    · unfold fX9_again
      rw [if_neg (by rw [k2]; decide)]
      rw [← e3]
      exact e2
