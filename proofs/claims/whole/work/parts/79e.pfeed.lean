/-! ===== the tape ===== -/
theorem wb_tb (n : Nat) : (lN n).toBitVec = BitVec.ofNat 64 n := rfl
theorem wb_inj {a b : Int64} (h : a.toBitVec = b.toBitVec) : a = b := Int64.toBitVec_inj.mp h
theorem wb_tn {n : Nat} (h : n < 2 ^ 64) : (lN n).toBitVec.toNat = n := by rw [wb_tb, BitVec.toNat_ofNat, Nat.mod_eq_of_lt h]
theorem wb_of (x : Int64) : ∃ n, n < 2 ^ 64 ∧ x = lN n := ⟨x.toBitVec.toNat, x.toBitVec.isLt, wb_inj (by rw [wb_tb]; simp)⟩
theorem wb_c : ∀ k, k < 64 → ((nI k).toInt64 &&& 63) = lN k := by decide +kernel
theorem wb_cu : ∀ k, k < 64 → ((nI k).toInt64.toUInt64 &&& Int64.toUInt64 63) = UInt64.ofNat k := by decide +kernel
theorem wb_sm : ∀ k, k < 64 → (BitVec.ofNat 64 k).smod 64 = BitVec.ofNat 64 k := by decide +kernel
theorem wb_shr {n k : Nat} (hn : n < 2 ^ 64) (hk : k < 64) : ((lN n).toUInt64 >>> ((nI k).toInt64.toUInt64 &&& Int64.toUInt64 63)).toInt64 = lN (n / 2 ^ k) := by
  rw [wb_cu k hk]
  apply wb_inj
  apply BitVec.eq_of_toNat_eq
  show ((lN n).toUInt64 >>> UInt64.ofNat k).toNat = (BitVec.ofNat 64 _).toNat
  have h1 : (UInt64.ofNat k).toNat = k := by
    show (BitVec.ofNat 64 k).toNat = k
    rw [BitVec.toNat_ofNat, Nat.mod_eq_of_lt (by omega)]
  have h2 : (lN n).toUInt64.toNat = n := wb_tn hn
  rw [UInt64.toNat_shiftRight, h1, h2, Nat.mod_eq_of_lt hk, Nat.shiftRight_eq_div_pow, BitVec.toNat_ofNat, Nat.mod_eq_of_lt (Nat.lt_of_le_of_lt (Nat.div_le_self _ _) hn)]
theorem m_byteL {n i : Nat} (hn : n < 2 ^ 64) (hi : i < 8) : ((lN n >>> (((8 : Int32) * nI i).toInt64 &&& 63)) &&& (255 : Int64)).toInt32 = nI (n / 2 ^ (8 * i) % 256) := by
  have e8 : (8 : Int32) * nI i = nI (8 * i) := by rw [show (8 : Int32) = nI 8 from rfl, z_mul]
  have k1 : ∀ j : Fin 8, (255 : Int64).toBitVec.getLsbD j.val = true := by decide +kernel
  have k2 : ∀ j : Fin 64, 8 ≤ j.val → (255 : Int64).toBitVec.getLsbD j.val = false := by decide +kernel
  have e : lN n >>> lN (8 * i) &&& (255 : Int64) = lN (n / 2 ^ (8 * i) % 256) := by
    apply wb_inj
    apply BitVec.eq_of_getLsbD_eq
    intro j hj
    rw [Int64.toBitVec_and, BitVec.getLsbD_and, Int64.toBitVec_shiftRight]
    show (((lN n).toBitVec.sshiftRight ((BitVec.ofNat 64 (8 * i)).smod 64).toNat).getLsbD j && (255 : Int64).toBitVec.getLsbD j) = (BitVec.ofNat 64 (n / 2 ^ (8 * i) % 256)).getLsbD j
    rw [wb_sm (8 * i) (by omega), BitVec.toNat_ofNat, Nat.mod_eq_of_lt (by omega), BitVec.getLsbD_sshiftRight, wb_tb, BitVec.getLsbD_ofNat, BitVec.getLsbD_ofNat, show (256 : Nat) = 2 ^ 8 from rfl, Nat.testBit_mod_two_pow, Nat.testBit_div_two_pow]
    by_cases h8 : j < 8
    · rw [k1 ⟨j, h8⟩, if_pos (by omega)]
      rw [Nat.add_comm j (8 * i)]
      simp [hj, h8, show 8 * i + j < 64 by omega, show ¬ 64 ≤ j by omega]
    · rw [k2 ⟨j, hj⟩ (by show 8 ≤ j; omega)]
      simp [h8]
  rw [e8, wb_c (8 * i) (by omega), e, lN_i]
theorem x_byteL {n i : Nat} (hn : n < 2 ^ 64) (hi : i < 8) : vp_nar .byte (((((lN n).toUInt64 >>> (((8 : Int32) * nI i).toInt64.toUInt64 &&& Int64.toUInt64 63)).toInt64).toInt32).toInt8.toInt32) = (nI (n / 2 ^ (8 * i) % 256)).toInt8.toInt32 := by
  have e8 : (8 : Int32) * nI i = nI (8 * i) := by rw [show (8 : Int32) = nI 8 from rfl, z_mul]
  rw [e8, wb_shr hn (by omega), pk_vb, lN_i]
  have e : nI (n / 2 ^ (8 * i)) &&& 255 = nI (n / 2 ^ (8 * i) % 256) := fa_mask (n / 2 ^ (8 * i)) 8
  rw [← e, fa_byte_low]
/-- the first n bytes, on both sides -/
def TPe (b t : AI) (c : Nat → Nat) (n : Nat) : Prop := ∀ i, i < n → c i < 256 ∧ t i = nI (c i) ∧ b i = (nI (c i)).toInt8.toInt32
def TP (RA : TapeV) (RM : ModV) : Prop := ∃ (n : Nat) (c : Nat → Nat), n ≤ 200 ∧ RA.length = nI n ∧ RM.taped = nI n ∧ TPe RA.bytes RM.tape c n
theorem TPe.snoc {b t : AI} {c : Nat → Nat} {n v : Nat} (h : TPe b t c n) (hv : v < 256) : TPe (upd b n (nI v).toInt8.toInt32) (upd t n (nI v)) (va_up c n v) (n + 1) := by
  intro i hi
  by_cases e : i = n
  · subst e; rw [pk_us, pk_us, up_s]; exact ⟨hv, rfl, rfl⟩
  · rw [pk_un e, pk_un e, up_n _ _ e]; exact h i (by omega)
theorem t_feed {RA : TapeV} {RM : ModV} {x N : Nat} (hx : x < 2 ^ 64) (hN : N ≤ 8) : ∀ (d k fuel fuel' : Nat) (b t : AI) (c : Nat → Nat) (m : Nat), k + d = N → d < fuel → d < fuel' → m + d ≤ 200 → TPe b t c m → ∃ (b' t' : AI) (c' : Nat → Nat), ht_lp5 (fX4_take_b3 RA) fuel (lN x) (nI N) (nI k) b (nI m) = some (b', nI (m + d)) ∧ ht_lp5 (fX9_feed_b32 RM) fuel' (lN x) (nI N) (nI k) t (nI m) = some (nI (m + d), t', nI (m + d)) ∧ TPe b' t' c' (m + d) := by
  intro d
  induction d with
  | zero =>
    intro k fuel fuel' b t c m hk hf hf' hm h
    obtain ⟨f, rfl⟩ : ∃ f, fuel = f + 1 := ⟨fuel - 1, by omega⟩
    obtain ⟨f', rfl⟩ : ∃ f, fuel' = f + 1 := ⟨fuel' - 1, by omega⟩
    have q : nI N ≤ nI k := nI_le (by omega) (by omega)
    refine ⟨b, t, c, ?_, ?_, h⟩
    · show fX4_take_b3 RA (ht_lp5 (fX4_take_b3 RA) f) (lN x) (nI N) (nI k) b (nI m) = _
      unfold fX4_take_b3
      rw [if_pos q]; rfl
    · show fX9_feed_b32 RM (ht_lp5 (fX9_feed_b32 RM) f') (lN x) (nI N) (nI k) t (nI m) = _
      unfold fX9_feed_b32 fX9_feed_b75
      rw [if_pos q]; rfl
  | succ d ih =>
    intro k fuel fuel' b t c m hk hf hf' hm h
    obtain ⟨f, rfl⟩ : ∃ f, fuel = f + 1 := ⟨fuel - 1, by omega⟩
    obtain ⟨f', rfl⟩ : ∃ f, fuel' = f + 1 := ⟨fuel' - 1, by omega⟩
    have q : ¬ nI N ≤ nI k := nI_ge (by omega) (by omega)
    have q2 : ¬ (200 : Int32) ≤ nI m := (show ¬ nI 200 ≤ nI m from nI_ge (by omega) (by omega))
    have g : ht_ix (nI m) 200 = true := z_ix (by omega) (by omega)
    have cm : (nI m).toNatClampNeg = m := z_cl (by omega)
    obtain ⟨b', t', c', e1, e2, h3⟩ := ih (k + 1) f f' (upd b m (nI (x / 2 ^ (8 * k) % 256)).toInt8.toInt32) (upd t m (nI (x / 2 ^ (8 * k) % 256))) (va_up c m (x / 2 ^ (8 * k) % 256)) (m + 1) (by omega) (by omega) (by omega) (by omega) (h.snoc (Nat.mod_lt _ (by decide)))
    rw [show m + 1 + d = m + (d + 1) by omega] at e1 e2 h3
    refine ⟨b', t', c', Eq.trans ?_ e1, Eq.trans ?_ e2, h3⟩
    · show fX4_take_b3 RA (ht_lp5 (fX4_take_b3 RA) f) (lN x) (nI N) (nI k) b (nI m) = _
      unfold fX4_take_b3
      rw [if_neg q, if_neg q2, z_gd g, x_byteL hx (by omega), z_nm, z_nm, z_nm, cm, nI_1, nI_1]
    · show fX9_feed_b32 RM (ht_lp5 (fX9_feed_b32 RM) f') (lN x) (nI N) (nI k) t (nI m) = _
      unfold fX9_feed_b32
      rw [if_neg q, z_gd g, m_byteL hx (by omega), z_nm, z_nm, z_nm, cm, nI_1, nI_1]
theorem o_feed {RX : HTV} {RA : TapeV} {RM : ModV} (h : TP RA RM) (x : Int64) (y2 : Int32) : ∃ (r : Int32) (b t : AI) (l l' : Int32), fX8_feed RX RA x y2 = some (r, b, l) ∧ fX9_feed RM x y2 = some (r, t, l') ∧ ∃ (n : Nat) (c : Nat → Nat), n ≤ 200 ∧ l = nI n ∧ l' = nI n ∧ TPe b t c n := by
  obtain ⟨n, c, hn, h1, h2, h3⟩ := h
  rcases z_rng y2 1 8 (a := 1) (b := 8) (c := 1) (d := 8) rfl rfl rfl rfl (by omega) (by omega) with ⟨w, i⟩ | ⟨N, hN1, hN, rfl, w, i⟩
  · refine ⟨-1, RA.bytes, RM.tape, RA.length, RM.taped, ?_, ?_, n, c, hn, h1, h2, h3⟩
    · unfold fX8_feed; rw [z_bn w, if_pos rfl]
    · unfold fX9_feed; rw [z_bn i, if_pos rfl]
  by_cases le : nI (n + N) ≤ nI 200
  · have hle : n + N ≤ 200 := (z_le (by omega) (by omega)).mp le
    have le' : nI (n + N) ≤ (200 : Int32) := le
    obtain ⟨u, hu, rfl⟩ := wb_of x
    obtain ⟨b', t', c', e1, e2, h4⟩ := t_feed (RA := RA) (RM := RM) hu hN N 0 FU FU RA.bytes RM.tape c n (by omega) (by show N < 300; omega) (by show N < 300; omega) hle h3
    have e1' : fX4_take RA (lN u) (nI N) = some (b', nI (n + N)) := by unfold fX4_take; rw [h1]; exact e1
    refine ⟨nI (n + N), b', t', nI (n + N), nI (n + N), ?_, ?_, n + N, c', hle, rfl, rfl, h4⟩
    · unfold fX8_feed; rw [z_bn w, if_neg z_01, h1, z_add, if_pos le', z_bn e1']
    · unfold fX9_feed; rw [z_bn i, if_neg z_01, h2, z_add, if_pos le']; exact e2
  · have le' : ¬ nI (n + N) ≤ (200 : Int32) := le
    refine ⟨-2, RA.bytes, RM.tape, RA.length, RM.taped, ?_, ?_, n, c, hn, h1, h2, h3⟩
    · unfold fX8_feed; rw [z_bn w, if_neg z_01, h1, z_add, if_neg le', ← h1]
    · unfold fX9_feed; rw [z_bn i, if_neg z_01, h2, z_add, if_neg le', ← h2]
