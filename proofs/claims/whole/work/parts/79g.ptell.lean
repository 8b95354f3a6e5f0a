/-! ===== reading the tape: what comes next ===== -/
abbrev ModV.wt (RM : ModV) (s : AI) (tk fr to va wr : Int32) : ModV := (s, RM.held, RM.aside, RM.before, RM.isHeld, RM.tape, RM.taped, tk, fr, to, va, wr, RM.unpaired, RM.bestSound, RM.bestWay, RM.rows, RM.rowN, RM.sortOf, RM.sizeOf, RM.numbers, RM.holdsWhat, RM.holdsWhich, RM.holdsMany, RM.bodies, RM.ran, RM.actKind, RM.actN, RM.actA, RM.isParted)
theorem z_byte : ∀ c : Fin 256, ((nI c.val).toInt8.toInt32 = (32 : Int32) ↔ c.val = 32) ∧ ((nI c.val).toInt8.toInt32 = (59 : Int32) ↔ c.val = 59) ∧ fX5_isLetter (nI c.val).toInt8.toInt32 = some (bI (decide (97 ≤ c.val ∧ c.val ≤ 122))) ∧ fX5_isDigit (nI c.val).toInt8.toInt32 = some (bI (decide (48 ≤ c.val ∧ c.val ≤ 57))) ∧ fX9_isAlpha (nI c.val) = some (bI (decide (97 ≤ c.val ∧ c.val ≤ 122))) ∧ fX9_isDigit (nI c.val) = some (bI (decide (48 ≤ c.val ∧ c.val ≤ 57))) ∧ (nI c.val = (32 : Int32) ↔ c.val = 32) ∧ (nI c.val = (59 : Int32) ↔ c.val = 59) ∧ (c.val ≤ 127 → (nI c.val).toInt8.toInt32 = nI c.val) ∧ (128 ≤ c.val → (nI c.val).toInt8.toInt32 < 0) := by decide +kernel
/-- the tape of both sides holds n bytes c -/
def TPx (RA : TapeV) (RM : ModV) (c : Nat → Nat) (n : Nat) : Prop := n ≤ 200 ∧ RA.length = nI n ∧ RM.taped = nI n ∧ TPe RA.bytes RM.tape c n
theorem m_byteAt {RA : TapeV} {RM : ModV} {c : Nat → Nat} {n j : Nat} (h : TPx RA RM c n) (hj : j ≤ 1000) : fX9_byteAt RM (nI j) = some (if j < n then nI (c j) else -1) := by
  obtain ⟨h0, h1, h2, h3⟩ := h
  unfold fX9_byteAt
  rw [h2]
  by_cases e : j < n
  · rw [if_neg (nI_ge e (by omega)), z_gd (z_ix (by omega) (by omega)), z_cl (by omega), (h3 j e).2.1, if_pos e]
  · rw [if_pos (nI_le (by omega) (by omega)), if_neg e]
theorem t_spaces {J : TellV} {RA : TapeV} {RM : ModV} {c : Nat → Nat} {n : Nat} (h : TPx RA RM c n) {so va st tk to vm : Int32} : ∀ (d p fuel fuel' : Nat), p + d = n → d < fuel → d < fuel' → ∃ q, p ≤ q ∧ q ≤ n ∧ (q < n → c q ≠ 32) ∧ ht_lp4 (fX5_readAhead_b0 J RA) fuel (nI p) so va st = fX5_readAhead_b44 J RA (nI q) so va st ∧ ht_lp4 (fX9_nextToken_b8 RM) fuel' tk (nI p) to vm = fX9_nextToken_b34 RM tk (nI q) to vm := by
  have h0 := h
  obtain ⟨hn, h1, h2, h3⟩ := h
  intro d
  induction d with
  | zero =>
    intro p fuel fuel' hp hf hf'
    obtain ⟨f, rfl⟩ : ∃ f, fuel = f + 1 := ⟨fuel - 1, by omega⟩
    obtain ⟨f', rfl⟩ : ∃ f, fuel' = f + 1 := ⟨fuel' - 1, by omega⟩
    have hb := m_byteAt (RM := RM.wt RM.s tk (nI p) to vm RM.isWrong) h0 (j := p) (by omega)
    rw [if_neg (by omega)] at hb
    refine ⟨p, Nat.le_refl p, by omega, fun x => absurd x (by omega), ?_, ?_⟩
    · show fX5_readAhead_b0 J RA (ht_lp4 (fX5_readAhead_b0 J RA) f) (nI p) so va st = _
      unfold fX5_readAhead_b0
      rw [h1, if_pos (nI_le (by omega) (by omega))]
    · show fX9_nextToken_b8 RM (ht_lp4 (fX9_nextToken_b8 RM) f') tk (nI p) to vm = _
      unfold fX9_nextToken_b8
      refine Eq.trans (z_bn hb) ?_
      rw [if_neg (by decide)]
  | succ d ih =>
    intro p fuel fuel' hp hf hf'
    obtain ⟨f, rfl⟩ : ∃ f, fuel = f + 1 := ⟨fuel - 1, by omega⟩
    obtain ⟨f', rfl⟩ : ∃ f, fuel' = f + 1 := ⟨fuel' - 1, by omega⟩
    have hb := m_byteAt (RM := RM.wt RM.s tk (nI p) to vm RM.isWrong) h0 (j := p) (by omega)
    rw [if_pos (by omega)] at hb
    obtain ⟨hc, -, hx⟩ := h3 p (by omega)
    obtain ⟨z1, -, -, -, -, -, z7, -⟩ := z_byte ⟨c p, hc⟩
    have g : ht_ix (nI p) 200 = true := z_ix (by omega) (by omega)
    have cl : (nI p).toNatClampNeg = p := z_cl (by omega)
    by_cases e : c p = 32
    · obtain ⟨q, q1, q2, q3, e1, e2⟩ := ih (p + 1) f f' (by omega) (by omega) (by omega)
      refine ⟨q, by omega, q2, q3, Eq.trans ?_ e1, Eq.trans ?_ e2⟩
      · show fX5_readAhead_b0 J RA (ht_lp4 (fX5_readAhead_b0 J RA) f) (nI p) so va st = _
        unfold fX5_readAhead_b0
        rw [h1, if_neg (nI_ge (by omega) (by omega)), z_gd g, cl, hx, if_pos (z1.mpr e), z_nm, nI_1]
      · show fX9_nextToken_b8 RM (ht_lp4 (fX9_nextToken_b8 RM) f') tk (nI p) to vm = _
        unfold fX9_nextToken_b8
        refine Eq.trans (z_bn hb) ?_
        rw [if_pos (z7.mpr e), z_nm, nI_1]
    · refine ⟨p, Nat.le_refl p, by omega, fun _ => e, ?_, ?_⟩
      · show fX5_readAhead_b0 J RA (ht_lp4 (fX5_readAhead_b0 J RA) f) (nI p) so va st = _
        unfold fX5_readAhead_b0
        rw [h1, if_neg (nI_ge (by omega) (by omega)), z_gd g, cl, hx, if_neg (fun x => e (z1.mp x))]
      · show fX9_nextToken_b8 RM (ht_lp4 (fX9_nextToken_b8 RM) f') tk (nI p) to vm = _
        unfold fX9_nextToken_b8
        refine Eq.trans (z_bn hb) ?_
        rw [if_neg (fun x => e (z7.mp x))]
theorem m_126n {RM : ModV} {tk fr to vm : Int32} (h : ¬ tk = (2 : Int32)) : ht_lp4 (fX9_nextToken_b126 RM) FU tk fr to vm = fX9_nextToken_b201 RM tk fr to vm := by
  show fX9_nextToken_b126 RM (ht_lp4 (fX9_nextToken_b126 RM) 299) tk fr to vm = _
  unfold fX9_nextToken_b126
  rw [if_neg h]
theorem m_201 {RM : ModV} {tk fr vm : Int32} {e : Nat} (h : tk ≤ (2 : Int32)) : fX9_nextToken_b201 RM tk fr (nI e) vm = some (tk, fr, nI e, vm) := by
  unfold fX9_nextToken_b201 fX9_nextToken_b219
  rw [if_pos h, z_nm]
  exact congrArg (fun z => some (tk, fr, z, vm)) (z_add e 0)
theorem t_letters {J : TellV} {RA : TapeV} {RM : ModV} {c : Nat → Nat} {n : Nat} (h : TPx RA RM c n) {va st fr vm : Int32} : ∀ (d p fuel fuel' : Nat), p + d = n → d < fuel → d < fuel' → ∃ e, p ≤ e ∧ e ≤ n ∧ (p < n → 97 ≤ c p → c p ≤ 122 → p < e) ∧ ht_lp4 (fX5_readAhead_b97 J RA) fuel (nI p) (1 : Int32) va st = some (nI e, (1 : Int32), va, st) ∧ ht_lp4 (fX9_nextToken_b91 RM) fuel' (1 : Int32) fr (nI p) vm = some ((1 : Int32), fr, nI e, vm) := by
  have h0 := h
  obtain ⟨hn, h1, h2, h3⟩ := h
  have M : ∀ e, ht_lp4 (fX9_nextToken_b126 RM) FU (1 : Int32) fr (nI e) vm = some ((1 : Int32), fr, nI e, vm) := fun e => (m_126n (by decide)).trans (m_201 (by decide))
  intro d
  induction d with
  | zero =>
    intro p fuel fuel' hp hf hf'
    obtain ⟨f, rfl⟩ : ∃ f, fuel = f + 1 := ⟨fuel - 1, by omega⟩
    obtain ⟨f', rfl⟩ : ∃ f, fuel' = f + 1 := ⟨fuel' - 1, by omega⟩
    have hb := m_byteAt (RM := RM.wt RM.s (1 : Int32) fr (nI p) vm RM.isWrong) h0 (j := p) (by omega)
    rw [if_neg (by omega)] at hb
    have hal : fX9_isAlpha (-1 : Int32) = some 0 := by decide
    refine ⟨p, Nat.le_refl p, by omega, fun x => absurd x (by omega), ?_, ?_⟩
    · show fX5_readAhead_b97 J RA (ht_lp4 (fX5_readAhead_b97 J RA) f) (nI p) (1 : Int32) va st = _
      unfold fX5_readAhead_b97
      rw [h1, if_pos (nI_le (by omega) (by omega))]
    · show fX9_nextToken_b91 RM (ht_lp4 (fX9_nextToken_b91 RM) f') (1 : Int32) fr (nI p) vm = _
      unfold fX9_nextToken_b91
      rw [if_pos rfl]
      refine Eq.trans (z_bn hb) ?_
      rw [z_bn hal, if_pos rfl]
      exact M p
  | succ d ih =>
    intro p fuel fuel' hp hf hf'
    obtain ⟨f, rfl⟩ : ∃ f, fuel = f + 1 := ⟨fuel - 1, by omega⟩
    obtain ⟨f', rfl⟩ : ∃ f, fuel' = f + 1 := ⟨fuel' - 1, by omega⟩
    have hb := m_byteAt (RM := RM.wt RM.s (1 : Int32) fr (nI p) vm RM.isWrong) h0 (j := p) (by omega)
    rw [if_pos (by omega)] at hb
    obtain ⟨hc, -, hx⟩ := h3 p (by omega)
    obtain ⟨-, -, z3, -, z5, -⟩ := z_byte ⟨c p, hc⟩
    have g : ht_ix (nI p) 200 = true := z_ix (by omega) (by omega)
    have cl : (nI p).toNatClampNeg = p := z_cl (by omega)
    by_cases e : 97 ≤ c p ∧ c p ≤ 122
    · have e3 : fX5_isLetter (nI (c p)).toInt8.toInt32 = some 1 := z3.trans (by rw [show decide (97 ≤ c p ∧ c p ≤ 122) = true from decide_eq_true e]; rfl)
      have e5 : fX9_isAlpha (nI (c p)) = some 1 := z5.trans (by rw [show decide (97 ≤ c p ∧ c p ≤ 122) = true from decide_eq_true e]; rfl)
      obtain ⟨q, q1, q2, q3, e1, e2⟩ := ih (p + 1) f f' (by omega) (by omega) (by omega)
      refine ⟨q, by omega, q2, fun _ _ _ => by omega, Eq.trans ?_ e1, Eq.trans ?_ e2⟩
      · show fX5_readAhead_b97 J RA (ht_lp4 (fX5_readAhead_b97 J RA) f) (nI p) (1 : Int32) va st = _
        unfold fX5_readAhead_b97
        rw [h1, if_neg (nI_ge (by omega) (by omega)), z_gd g, cl, hx, z_bn e3, if_neg z_01, z_nm, nI_1]
      · show fX9_nextToken_b91 RM (ht_lp4 (fX9_nextToken_b91 RM) f') (1 : Int32) fr (nI p) vm = _
        unfold fX9_nextToken_b91
        rw [if_pos rfl]
        refine Eq.trans (z_bn hb) ?_
        rw [z_bn e5, if_neg z_01, z_nm, nI_1]
    · have e3 : fX5_isLetter (nI (c p)).toInt8.toInt32 = some 0 := z3.trans (by rw [show decide (97 ≤ c p ∧ c p ≤ 122) = false from decide_eq_false e]; rfl)
      have e5 : fX9_isAlpha (nI (c p)) = some 0 := z5.trans (by rw [show decide (97 ≤ c p ∧ c p ≤ 122) = false from decide_eq_false e]; rfl)
      refine ⟨p, Nat.le_refl p, by omega, fun _ x y => absurd ⟨x, y⟩ e, ?_, ?_⟩
      · show fX5_readAhead_b97 J RA (ht_lp4 (fX5_readAhead_b97 J RA) f) (nI p) (1 : Int32) va st = _
        unfold fX5_readAhead_b97
        rw [h1, if_neg (nI_ge (by omega) (by omega)), z_gd g, cl, hx, z_bn e3, if_pos rfl]
      · show fX9_nextToken_b91 RM (ht_lp4 (fX9_nextToken_b91 RM) f') (1 : Int32) fr (nI p) vm = _
        unfold fX9_nextToken_b91
        rw [if_pos rfl]
        refine Eq.trans (z_bn hb) ?_
        rw [z_bn e5, if_pos rfl]
        exact M p
/-- a number of d digits, as both sides keep it -/
def VC (d : Nat) (vX vM : Int32) : Prop := (d ≤ 3 ∧ ∃ v, v < 10 ^ d ∧ vX = nI v ∧ vM = nI v) ∨ (3 < d ∧ vX = (1000 : Int32) ∧ ∃ w, w < 10000 ∧ vM = nI w)
theorem z_d48 {c : Nat} (h : 48 ≤ c) (v : Nat) : (nI v * (10 : Int32)) + (nI c - (48 : Int32)) = nI (10 * v + (c - 48)) ∧ (((10 : Int32) * nI v) + nI c) - (48 : Int32) = nI (10 * v + (c - 48)) := by
  have e1 : nI c - (48 : Int32) = nI (c - 48) := z_sub (b := 48) h
  refine ⟨?_, ?_⟩
  · rw [e1, show (10 : Int32) = nI 10 from rfl, z_mul, z_add, Nat.mul_comm]
  · rw [show (10 : Int32) = nI 10 from rfl, z_mul, z_add, show (48 : Int32) = nI 48 from rfl, z_sub (by omega)]
    congr 1; omega
theorem t_digits {J : TellV} {RA : TapeV} {RM : ModV} {c : Nat → Nat} {n q : Nat} (h : TPx RA RM c n) {fr : Int32} : ∀ (d p fuel fuel' : Nat) (vX vM : Int32), p + d = n → q ≤ p → d < fuel → d < fuel' → VC (p - q) vX vM → ∃ (e : Nat) (vX' vM' : Int32), p ≤ e ∧ e ≤ n ∧ (p < n → 48 ≤ c p → c p ≤ 57 → p < e) ∧ VC (e - q) vX' vM' ∧ ht_lp4 (fX5_readAhead_b170 J RA) fuel (nI p) (2 : Int32) vX (nI q) = some (nI e, (2 : Int32), vX', nI q) ∧ ht_lp4 (fX9_nextToken_b126 RM) fuel' (2 : Int32) fr (nI p) vM = some ((2 : Int32), fr, nI e, vM') := by
  have h0 := h
  obtain ⟨hn, h1, h2, h3⟩ := h
  intro d
  induction d with
  | zero =>
    intro p fuel fuel' vX vM hp hq hf hf' hv
    obtain ⟨f, rfl⟩ : ∃ f, fuel = f + 1 := ⟨fuel - 1, by omega⟩
    obtain ⟨f', rfl⟩ : ∃ f, fuel' = f + 1 := ⟨fuel' - 1, by omega⟩
    have hb := m_byteAt (RM := RM.wt RM.s (2 : Int32) fr (nI p) vM RM.isWrong) h0 (j := p) (by omega)
    rw [if_neg (by omega)] at hb
    have hal : fX9_isDigit (-1 : Int32) = some 0 := by decide
    refine ⟨p, vX, vM, Nat.le_refl p, by omega, fun x => absurd x (by omega), hv, ?_, ?_⟩
    · show fX5_readAhead_b170 J RA (ht_lp4 (fX5_readAhead_b170 J RA) f) (nI p) (2 : Int32) vX (nI q) = _
      unfold fX5_readAhead_b170
      rw [h1, if_pos (nI_le (by omega) (by omega))]
    · show fX9_nextToken_b126 RM (ht_lp4 (fX9_nextToken_b126 RM) f') (2 : Int32) fr (nI p) vM = _
      unfold fX9_nextToken_b126
      rw [if_pos rfl]
      refine Eq.trans (z_bn hb) ?_
      rw [z_bn hal, if_pos rfl]
      exact m_201 (by decide)
  | succ d ih =>
    intro p fuel fuel' vX vM hp hq hf hf' hv
    obtain ⟨f, rfl⟩ : ∃ f, fuel = f + 1 := ⟨fuel - 1, by omega⟩
    obtain ⟨f', rfl⟩ : ∃ f, fuel' = f + 1 := ⟨fuel' - 1, by omega⟩
    have hb := m_byteAt (RM := RM.wt RM.s (2 : Int32) fr (nI p) vM RM.isWrong) h0 (j := p) (by omega)
    rw [if_pos (by omega)] at hb
    obtain ⟨hc, -, hx⟩ := h3 p (by omega)
    obtain ⟨-, -, -, z4, -, z6, -, -, z9, -⟩ := z_byte ⟨c p, hc⟩
    have g : ht_ix (nI p) 200 = true := z_ix (by omega) (by omega)
    have cl : (nI p).toNatClampNeg = p := z_cl (by omega)
    by_cases e : 48 ≤ c p ∧ c p ≤ 57
    · have e4 : fX5_isDigit (nI (c p)).toInt8.toInt32 = some 1 := z4.trans (by rw [show decide (48 ≤ c p ∧ c p ≤ 57) = true from decide_eq_true e]; rfl)
      have e6 : fX9_isDigit (nI (c p)) = some 1 := z6.trans (by rw [show decide (48 ≤ c p ∧ c p ≤ 57) = true from decide_eq_true e]; rfl)
      have e9 : (nI (c p)).toInt8.toInt32 = nI (c p) := z9 (by show c p ≤ 127; omega)
      have eS : nI p - nI q = nI (p - q) := z_sub hq
      -- what both keep behind this digit
      have key : ∀ K1 K2 : Int32 → Int32 → Int32 → Int32 → Option (Int32 × Int32 × Int32 × Int32), ∃ wX wM : Int32, VC (p + 1 - q) wX wM ∧ fX5_readAhead_b170 J RA K1 (nI p) (2 : Int32) vX (nI q) = K1 (nI (p + 1)) (2 : Int32) wX (nI q) ∧ fX9_nextToken_b126 RM K2 (2 : Int32) fr (nI p) vM = K2 (2 : Int32) fr (nI (p + 1)) wM := by
        intro K1 K2
        unfold fX5_readAhead_b170 fX5_readAhead_b220 fX5_readAhead_b255 fX9_nextToken_b126 fX9_nextToken_b185
        rw [h1, if_neg (nI_ge (by omega) (by omega)), z_gd g, cl, hx, z_bn e4, if_neg z_01, eS, if_pos (show (2 : Int32) = 2 from rfl)]
        have XM : ∀ r, (if vM ≤ (999 : Int32) then K2 (2 : Int32) fr (nI (p + 1)) ((((10 : Int32) * vM) + nI (c p)) - (48 : Int32)) else K2 (2 : Int32) fr (nI (p + 1)) vM) = r → ht_bn (fX9_byteAt (RM.wt RM.s (2 : Int32) fr (nI p) vM RM.isWrong) (nI p)) (fun o_5 => ht_bn (fX9_isDigit o_5) (fun o_6 => if o_6 = 0 then (fX9_nextToken_b201 RM (2 : Int32) fr (nI p) vM) else (if vM ≤ (999 : Int32) then (ht_bn (fX9_byteAt (RM.wt RM.s (2 : Int32) fr (nI p) vM RM.isWrong) (nI p)) (fun o_9 => ht_nm (nI p + (1 : Int32)) (fun vM_to_3 => K2 (2 : Int32) fr vM_to_3 ((((10 : Int32) * vM) + o_9) - (48 : Int32))))) else (ht_nm (nI p + (1 : Int32)) (fun vM_to_3 => K2 (2 : Int32) fr vM_to_3 vM))))) = r := by
          intro r hr
          rw [z_bn hb, z_bn e6, if_neg z_01, z_bn hb, z_nm, z_nm, nI_1]
          exact hr
        rcases hv with ⟨hd, v, hv, rfl, rfl⟩ | ⟨hd, rfl, w, hw, rfl⟩
        · by_cases h3' : p - q < 3
          · have hv100 : v < 100 := by
              have : (10 : Nat) ^ (p - q) ≤ 10 ^ 2 := Nat.pow_le_pow_right (by omega) (by omega)
              omega
            have hv' : 10 * v + (c p - 48) < 10 ^ (p + 1 - q) := by
              rw [show p + 1 - q = (p - q) + 1 by omega, Nat.pow_succ]
              omega
            refine ⟨nI (10 * v + (c p - 48)), nI (10 * v + (c p - 48)), Or.inl ⟨by omega, _, hv', rfl, rfl⟩, ?_, XM _ ?_⟩
            · rw [if_pos (show nI (p - q) < (3 : Int32) from nI_lt (b := 3) h3' (by omega)), if_pos rfl, z_gd g, e9, (z_d48 e.1 v).1, z_nm, nI_1]
            · rw [if_pos (show nI v ≤ (999 : Int32) from nI_le (b := 999) (by omega) (by omega)), (z_d48 e.1 v).2]
          · have hv1000 : v < 1000 := by
              have : (10 : Nat) ^ (p - q) ≤ 10 ^ 3 := Nat.pow_le_pow_right (by omega) hd
              omega
            refine ⟨1000, nI (10 * v + (c p - 48)), Or.inr ⟨by omega, rfl, _, by omega, rfl⟩, ?_, XM _ ?_⟩
            · rw [if_neg (show ¬ nI (p - q) < (3 : Int32) from nI_nlt (b := 3) (by omega) (by omega)), if_neg z_01, z_nm, nI_1]
            · rw [if_pos (show nI v ≤ (999 : Int32) from nI_le (b := 999) (by omega) (by omega)), (z_d48 e.1 v).2]
        · by_cases hw9 : w ≤ 999
          · refine ⟨1000, nI (10 * w + (c p - 48)), Or.inr ⟨by omega, rfl, _, by omega, rfl⟩, ?_, XM _ ?_⟩
            · rw [if_neg (show ¬ nI (p - q) < (3 : Int32) from nI_nlt (b := 3) (by omega) (by omega)), if_neg z_01, z_nm, nI_1]
            · rw [if_pos (show nI w ≤ (999 : Int32) from nI_le (b := 999) (by omega) (by omega)), (z_d48 e.1 w).2]
          · refine ⟨1000, nI w, Or.inr ⟨by omega, rfl, w, hw, rfl⟩, ?_, XM _ ?_⟩
            · rw [if_neg (show ¬ nI (p - q) < (3 : Int32) from nI_nlt (b := 3) (by omega) (by omega)), if_neg z_01, z_nm, nI_1]
            · rw [if_neg (show ¬ nI w ≤ (999 : Int32) from nI_ge (a := 999) (by omega) (by omega))]
      obtain ⟨wX, wM, k1, k2, k3⟩ := key (ht_lp4 (fX5_readAhead_b170 J RA) f) (ht_lp4 (fX9_nextToken_b126 RM) f')
      obtain ⟨e', x', m', q1, q2, q3, q4, e1, e2⟩ := ih (p + 1) f f' wX wM (by omega) (by omega) (by omega) (by omega) k1
      exact ⟨e', x', m', by omega, q2, fun _ _ _ => by omega, q4, (show fX5_readAhead_b170 J RA (ht_lp4 (fX5_readAhead_b170 J RA) f) (nI p) (2 : Int32) vX (nI q) = _ from k2).trans e1, (show fX9_nextToken_b126 RM (ht_lp4 (fX9_nextToken_b126 RM) f') (2 : Int32) fr (nI p) vM = _ from k3).trans e2⟩
    · have e4 : fX5_isDigit (nI (c p)).toInt8.toInt32 = some 0 := z4.trans (by rw [show decide (48 ≤ c p ∧ c p ≤ 57) = false from decide_eq_false e]; rfl)
      have e6 : fX9_isDigit (nI (c p)) = some 0 := z6.trans (by rw [show decide (48 ≤ c p ∧ c p ≤ 57) = false from decide_eq_false e]; rfl)
      refine ⟨p, vX, vM, Nat.le_refl p, by omega, fun _ x y => absurd ⟨x, y⟩ e, hv, ?_, ?_⟩
      · show fX5_readAhead_b170 J RA (ht_lp4 (fX5_readAhead_b170 J RA) f) (nI p) (2 : Int32) vX (nI q) = _
        unfold fX5_readAhead_b170
        rw [h1, if_neg (nI_ge (by omega) (by omega)), z_gd g, cl, hx, z_bn e4, if_pos rfl]
      · show fX9_nextToken_b126 RM (ht_lp4 (fX9_nextToken_b126 RM) f') (2 : Int32) fr (nI p) vM = _
        unfold fX9_nextToken_b126
        rw [if_pos rfl]
        refine Eq.trans (z_bn hb) ?_
        rw [z_bn e6, if_pos rfl]
        exact m_201 (by decide)
/-- both have read ahead to the same thing -/
def RD (n : Nat) (J : TellV) (tk fr to va : Int32) (q e k : Nat) : Prop := J.place = nI e ∧ J.sort = nI k ∧ J.start = nI q ∧ tk = nI k ∧ fr = nI q ∧ to = nI e ∧ q ≤ e ∧ e ≤ n ∧ k ≤ 3 ∧ (k ≠ 0 → q < e) ∧ (k = 2 → VC (e - q) J.value va)
theorem t_ahead {J : TellV} {RA : TapeV} {RM : ModV} {c : Nat → Nat} {n p : Nat} (h : TPx RA RM c n) (hp : p ≤ n) (hJ : J.place = nI p) (hM : RM.to = nI p) : ∃ (J' : TellV) (tk fr to va : Int32) (q e k : Nat), fX5_readAhead J RA = some J' ∧ fX9_nextToken RM = some (tk, fr, to, va) ∧ RD n J' tk fr to va q e k ∧ p ≤ q := by
  have h0 := h
  obtain ⟨hn, h1, h2, h3⟩ := h
  obtain ⟨q, q1, q2, q3, e1, e2⟩ := t_spaces (J := J) h0 (so := J.sort) (va := J.value) (st := J.start) (tk := RM.token) (to := RM.to) (vm := RM.value) (n - p) p FU FU (by omega) (by show n - p < 300; omega) (by show n - p < 300; omega)
  have EX : fX5_readAhead J RA = fX5_readAhead_b44 J RA (nI q) J.sort J.value J.start := by unfold fX5_readAhead; rw [hJ]; exact e1
  have EM : fX9_nextToken RM = fX9_nextToken_b34 RM RM.token (nI q) RM.to RM.value := by
    unfold fX9_nextToken
    rw [z_nm]
    have e2' := e2
    rw [← hM] at e2'
    exact e2'
  rw [EX, EM]
  have hb := m_byteAt (RM := RM.wt RM.s RM.token (nI q) (nI q) RM.value RM.isWrong) h0 (j := q) (by omega)
  by_cases hq : q < n
  · rw [if_pos hq] at hb
    obtain ⟨hc, -, hx⟩ := h3 q hq
    obtain ⟨-, -, z3, z4, z5, z6, -⟩ := z_byte ⟨c q, hc⟩
    have g : ht_ix (nI q) 200 = true := z_ix (by omega) (by omega)
    have cl : (nI q).toNatClampNeg = q := z_cl (by omega)
    have hpos : 0 ≤ nI (c q) := nI_pos' (by omega)
    by_cases el : 97 ≤ c q ∧ c q ≤ 122
    · have e3 : fX5_isLetter (nI (c q)).toInt8.toInt32 = some 1 := z3.trans (by rw [show decide (97 ≤ c q ∧ c q ≤ 122) = true from decide_eq_true el]; rfl)
      have e5 : fX9_isAlpha (nI (c q)) = some 1 := z5.trans (by rw [show decide (97 ≤ c q ∧ c q ≤ 122) = true from decide_eq_true el]; rfl)
      obtain ⟨e, l1, l2, l3, lx, lm⟩ := t_letters (J := J) h0 (va := J.value) (st := nI q) (fr := nI q) (vm := 0) (n - q) q FU FU (by omega) (by show n - q < 300; omega) (by show n - q < 300; omega)
      refine ⟨(nI e, (1 : Int32), J.value, nI q), (1 : Int32), nI q, nI e, (0 : Int32), q, e, 1, ?_, ?_, ⟨rfl, rfl, rfl, rfl, rfl, rfl, l1, l2, by omega, fun _ => l3 hq el.1 el.2, fun x => absurd x (by omega)⟩, q1⟩
      · unfold fX5_readAhead_b44
        rw [h1, if_pos (nI_lt hq (by omega)), z_gd g, cl, hx, z_bn e3, if_neg z_01]
        exact lx
      · unfold fX9_nextToken_b34 fX9_nextToken_b83
        refine Eq.trans (z_bn hb) ?_
        rw [if_pos hpos, z_bn e5, if_neg z_01]
        exact lm
    · have e3 : fX5_isLetter (nI (c q)).toInt8.toInt32 = some 0 := z3.trans (by rw [show decide (97 ≤ c q ∧ c q ≤ 122) = false from decide_eq_false el]; rfl)
      have e5 : fX9_isAlpha (nI (c q)) = some 0 := z5.trans (by rw [show decide (97 ≤ c q ∧ c q ≤ 122) = false from decide_eq_false el]; rfl)
      by_cases ed : 48 ≤ c q ∧ c q ≤ 57
      · have e4 : fX5_isDigit (nI (c q)).toInt8.toInt32 = some 1 := z4.trans (by rw [show decide (48 ≤ c q ∧ c q ≤ 57) = true from decide_eq_true ed]; rfl)
        have e6 : fX9_isDigit (nI (c q)) = some 1 := z6.trans (by rw [show decide (48 ≤ c q ∧ c q ≤ 57) = true from decide_eq_true ed]; rfl)
        obtain ⟨e, vX, vM, l1, l2, l3, lv, lx, lm⟩ := t_digits (J := J) (q := q) h0 (fr := nI q) (n - q) q FU FU 0 0 (by omega) (Nat.le_refl q) (by show n - q < 300; omega) (by show n - q < 300; omega) (Or.inl ⟨by omega, 0, by rw [Nat.sub_self]; decide, rfl, rfl⟩)
        refine ⟨(nI e, (2 : Int32), vX, nI q), (2 : Int32), nI q, nI e, vM, q, e, 2, ?_, ?_, ⟨rfl, rfl, rfl, rfl, rfl, rfl, l1, l2, by omega, fun _ => l3 hq ed.1 ed.2, fun _ => lv⟩, q1⟩
        · unfold fX5_readAhead_b44
          rw [h1, if_pos (nI_lt hq (by omega)), z_gd g, cl, hx, z_bn e3, if_pos rfl, z_gd g, z_bn e4, if_neg z_01]
          exact lx
        · unfold fX9_nextToken_b34 fX9_nextToken_b83
          refine Eq.trans (z_bn hb) ?_
          rw [if_pos hpos, z_bn e5, if_pos rfl, z_bn e6, if_neg z_01]
          show fX9_nextToken_b91 RM (ht_lp4 (fX9_nextToken_b91 RM) 299) (2 : Int32) (nI q) (nI q) (0 : Int32) = _
          unfold fX9_nextToken_b91
          rw [if_neg (by decide)]
          exact lm
      · have e4 : fX5_isDigit (nI (c q)).toInt8.toInt32 = some 0 := z4.trans (by rw [show decide (48 ≤ c q ∧ c q ≤ 57) = false from decide_eq_false ed]; rfl)
        have e6 : fX9_isDigit (nI (c q)) = some 0 := z6.trans (by rw [show decide (48 ≤ c q ∧ c q ≤ 57) = false from decide_eq_false ed]; rfl)
        refine ⟨(nI (q + 1), (3 : Int32), J.value, nI q), (3 : Int32), nI q, nI (q + 1), (0 : Int32), q, q + 1, 3, ?_, ?_, ⟨rfl, rfl, rfl, rfl, rfl, rfl, by omega, by omega, by omega, fun _ => by omega, fun x => absurd x (by omega)⟩, q1⟩
        · unfold fX5_readAhead_b44
          rw [h1, if_pos (nI_lt hq (by omega)), z_gd g, cl, hx, z_bn e3, if_pos rfl, z_gd g, z_bn e4, if_pos rfl, z_nm, nI_1]
        · unfold fX9_nextToken_b34 fX9_nextToken_b83
          refine Eq.trans (z_bn hb) ?_
          rw [if_pos hpos, z_bn e5, if_pos rfl, z_bn e6, if_pos rfl]
          show fX9_nextToken_b91 RM (ht_lp4 (fX9_nextToken_b91 RM) 299) (3 : Int32) (nI q) (nI q) (0 : Int32) = _
          unfold fX9_nextToken_b91
          rw [if_neg (by decide), m_126n (by decide)]
          unfold fX9_nextToken_b201 fX9_nextToken_b219
          rw [if_neg (by decide), z_nm, nI_1]
  · have hqn : q = n := by omega
    rw [if_neg hq] at hb
    refine ⟨(nI q, (0 : Int32), J.value, nI q), (0 : Int32), nI q, nI q, (0 : Int32), q, q, 0, ?_, ?_, ⟨rfl, rfl, rfl, rfl, rfl, rfl, Nat.le_refl q, q2, by omega, fun x => absurd rfl x, fun x => absurd x (by omega)⟩, q1⟩
    · unfold fX5_readAhead_b44
      rw [h1, if_neg (nI_nlt (by omega) (by omega))]
    · unfold fX9_nextToken_b34 fX9_nextToken_b83
      refine Eq.trans (z_bn hb) ?_
      rw [if_neg (by decide)]
      show fX9_nextToken_b91 RM (ht_lp4 (fX9_nextToken_b91 RM) 299) (0 : Int32) (nI q) (nI q) (0 : Int32) = _
      unfold fX9_nextToken_b91
      rw [if_neg (by decide), m_126n (by decide)]
      exact m_201 (by decide)
