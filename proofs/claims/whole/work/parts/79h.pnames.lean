/-! ===== names on the tape ===== -/
def wS : List (List Nat) := [[112, 97, 105, 114], [110, 101, 101, 100], [115, 97, 118, 101, 100], [118, 111, 105, 99, 101], [119, 105, 116, 104], [99, 105, 116, 105, 122, 101, 110], [119, 105, 102, 101], [109, 111, 110, 107], [104, 97, 119, 107, 101, 114], [112, 114, 105, 111, 114], [99, 104, 105, 108, 100], [108, 111, 117, 100], [113, 117, 105, 101, 116], [103, 114, 111, 119, 116, 104], [108, 111, 116]]
def wN (i k : Nat) : Nat := (wS.getD i []).getD k 0
theorem wN_ok : ∀ i, i < 15 → lenS.getD i 0 ≤ 7 ∧ 3 ≤ lenS.getD i 0 ∧ ∀ k, k < lenS.getD i 0 → chS i k = nI (wN i k) ∧ wN i k < 128 := by decide +kernel
theorem z_chX {c w : Nat} (hc : c < 256) (hw : w < 128) : (nI c).toInt8.toInt32 = nI w ↔ c = w := by
  obtain ⟨-, -, -, -, -, -, -, -, z9, z10⟩ := z_byte ⟨c, hc⟩
  simp only at z9 z10
  by_cases h : c ≤ 127
  · rw [z9 h, z_eq (by omega) (by omega)]
  · constructor
    · intro e
      have := z10 (by omega)
      rw [e] at this
      exact absurd this (nI_pos (by omega))
    · intro e; omega
theorem t_isNameX {J : TellV} {RA : TapeV} {RM : ModV} {c : Nat → Nat} {n q i : Nat} (h : TPx RA RM c n) (hi : i < 15) (hst : J.start = nI q) (hqn : q + lenS.getD i 0 ≤ n) : ∀ (d j fuel : Nat), j + d = lenS.getD i 0 → d < fuel → ∃ b, ht_lp1 (fX5_isName_b28 J RA i) fuel (nI j) = some (bI b) ∧ (b = true ↔ ∀ t, j ≤ t → t < lenS.getD i 0 → c (q + t) = wN i t) := by
  obtain ⟨hn, h1, h2, h3⟩ := h
  obtain ⟨l7, l3, hw⟩ := wN_ok i hi
  have g15 : decide (i < 15) = true := decide_eq_true hi
  intro d
  induction d with
  | zero =>
    intro j fuel hj hf
    obtain ⟨f, rfl⟩ : ∃ f, fuel = f + 1 := ⟨fuel - 1, by omega⟩
    refine ⟨true, ?_, ⟨fun _ t h4 h5 => absurd h5 (by omega), fun _ => rfl⟩⟩
    show fX5_isName_b28 J RA i (ht_lp1 (fX5_isName_b28 J RA i) f) (nI j) = _
    unfold fX5_isName_b28
    rw [z_gd g15, if_pos (show strLen i ≤ nI j from nI_le (by omega) (by omega))]
    rfl
  | succ d ih =>
    intro j fuel hj hf
    obtain ⟨f, rfl⟩ : ∃ f, fuel = f + 1 := ⟨fuel - 1, by omega⟩
    obtain ⟨hc, -, hx⟩ := h3 (q + j) (by omega)
    obtain ⟨w1, w2⟩ := hw j (by omega)
    have g : ht_ix (nI (q + j)) 200 = true := z_ix (by omega) (by omega)
    have cl : (nI (q + j)).toNatClampNeg = q + j := z_cl (by omega)
    have gl : ht_ix (nI j) (lenS.getD i 0) = true := z_ix (by omega) (by omega)
    have clj : (nI j).toNatClampNeg = j := z_cl (by omega)
    have c1 : ¬ strLen i ≤ nI j := (show ¬ nI (lenS.getD i 0) ≤ nI j from nI_ge (by omega) (by omega))
    by_cases e : c (q + j) = wN i j
    · obtain ⟨b, e1, e2⟩ := ih (j + 1) f (by omega) (by omega)
      refine ⟨b, Eq.trans ?_ e1, e2.trans ⟨fun H t t1 t2 => ?_, fun H t t1 t2 => H t (by omega) t2⟩⟩
      · show fX5_isName_b28 J RA i (ht_lp1 (fX5_isName_b28 J RA i) f) (nI j) = _
        unfold fX5_isName_b28
        rw [z_gd g15, if_neg c1, hst, z_add, z_gd g, z_gd g15, z_gd gl, cl, clj, hx, w1, if_pos ((z_chX hc w2).mpr e), z_nm, nI_1]
      · by_cases et : t = j
        · rw [et]; exact e
        · exact H t (by omega) t2
    · refine ⟨false, ?_, ⟨fun x => absurd x (by decide), fun H => absurd (H j (Nat.le_refl j) (by omega)) e⟩⟩
      show fX5_isName_b28 J RA i (ht_lp1 (fX5_isName_b28 J RA i) f) (nI j) = _
      unfold fX5_isName_b28
      rw [z_gd g15, if_neg c1, hst, z_add, z_gd g, z_gd g15, z_gd gl, cl, clj, hx, w1, if_neg (fun x => e ((z_chX hc w2).mp x))]
      rfl
theorem x_isName {J : TellV} {RA : TapeV} {RM : ModV} {c : Nat → Nat} {n q e k : Nat} {tk fr to va : Int32} (h : TPx RA RM c n) (hR : RD n J tk fr to va q e k) (i : Nat) (hi : i < 15) : ∃ b, fX5_isName J RA i = some (bI b) ∧ (b = true ↔ k = 1 ∧ e = q + lenS.getD i 0 ∧ ∀ t, t < lenS.getD i 0 → c (q + t) = wN i t) := by
  have hn := h.1
  obtain ⟨r1, r2, r3, r4, r5, r6, r7, r8, r9, r10, r11⟩ := hR
  obtain ⟨l7, l3, hw⟩ := wN_ok i hi
  have g15 : decide (i < 15) = true := decide_eq_true hi
  have eS : nI e - nI q = nI (e - q) := z_sub r7
  unfold fX5_isName
  rw [r1, r2, r3, eS]
  by_cases hk : k = 1
  · subst hk
    rw [if_pos (show nI 1 = (1 : Int32) from rfl), z_gd g15]
    by_cases hl : e - q = lenS.getD i 0
    · obtain ⟨b, e1, e2⟩ := t_isNameX (J := J) h hi r3 (by omega) (lenS.getD i 0) 0 FU (by omega) (by show lenS.getD i 0 < 300; omega)
      refine ⟨b, ?_, e2.trans ⟨fun H => ⟨rfl, by omega, fun t ht => H t (by omega) ht⟩, fun H t _ ht => H.2.2 t ht⟩⟩
      rw [if_pos (show nI (e - q) = strLen i by rw [hl]; rfl)]
      exact e1
    · refine ⟨false, ?_, ⟨fun x => absurd x (by decide), fun H => absurd H.2.1 (by omega)⟩⟩
      rw [if_neg (show ¬ nI (e - q) = strLen i from fun x => hl ((z_eq (by omega) (by omega)).mp (show nI (e - q) = nI (lenS.getD i 0) from x)))]
      rfl
  · refine ⟨false, ?_, ⟨fun x => absurd x (by decide), fun H => absurd H.1 hk⟩⟩
    rw [if_neg (z_neL (b := 1) (c := 1) rfl hk (by omega) (by omega))]
    rfl
theorem m_isName {RA : TapeV} {J : TellV} {RM : ModV} {s : AI} {wr : Int32} {c : Nat → Nat} {n q e k : Nat} {tk fr to va : Int32} (h : TPx RA RM c n) (hR : RD n J tk fr to va q e k) {L a b' c' z : Nat} (hL : 3 ≤ L) (hL7 : L ≤ 7) (ha : a < 128) (hb : b' < 128) (hc : c' < 128) (hz : z < 128) : ∃ b, fX9_isName (RM.wt s tk fr to va wr) (nI L) (nI a) (nI b') (nI c') (nI z) = some (bI b) ∧ (b = true ↔ k = 1 ∧ e = q + L ∧ c q = a ∧ c (q + 1) = b' ∧ c (q + 2) = c' ∧ c (q + L - 1) = z) := by
  have hn := h.1
  have h3 := h.2.2.2
  obtain ⟨r1, r2, r3, r4, r5, r6, r7, r8, r9, r10, r11⟩ := hR
  subst r4; subst r5; subst r6
  have eS : nI e - nI q = nI (e - q) := z_sub r7
  unfold fX9_isName
  show ∃ b, (if nI k = (1 : Int32) then (if (nI e - nI q) = nI L then _ else _) else _) = _ ∧ _
  rw [eS]
  by_cases hk : k = 1
  · subst hk
    rw [if_pos (show nI 1 = (1 : Int32) from rfl)]
    by_cases hl : e - q = L
    · have he : e = q + L := by omega
      subst he
      rw [if_pos (show nI (q + L - q) = nI L by rw [hl])]
      have B : ∀ j, j < L → fX9_byteAt (RM.wt s (nI 1) (nI q) (nI (q + L)) va wr) (nI (q + j)) = some (nI (c (q + j))) := by
        intro j hj
        have := m_byteAt (RM := RM.wt s (nI 1) (nI q) (nI (q + L)) va wr) h (j := q + j) (by omega)
        rw [if_pos (by omega)] at this
        exact this
      have B0 : fX9_byteAt (RM.wt s (nI 1) (nI q) (nI (q + L)) va wr) (nI q) = some (nI (c q)) := B 0 (by omega)
      have B1 := B 1 (by omega)
      have B2 := B 2 (by omega)
      have B3 := B (L - 1) (by omega)
      rw [show q + (L - 1) = q + L - 1 by omega] at B3
      have E1 : nI q + (1 : Int32) = nI (q + 1) := z_add q 1
      have E2 : nI q + (2 : Int32) = nI (q + 2) := z_add q 2
      have E3 : nI (q + L) - (1 : Int32) = nI (q + L - 1) := z_sub (b := 1) (by omega)
      have C0 := (h3 q (by omega)).1
      have C1 := (h3 (q + 1) (by omega)).1
      have C2 := (h3 (q + 2) (by omega)).1
      have C3 := (h3 (q + L - 1) (by omega)).1
      by_cases d0 : c q = a
      · by_cases d1 : c (q + 1) = b'
        · by_cases d2 : c (q + 2) = c'
          · by_cases d3 : c (q + L - 1) = z
            · refine ⟨true, ?_, ⟨fun _ => ⟨rfl, rfl, d0, d1, d2, d3⟩, fun _ => rfl⟩⟩
              refine Eq.trans (z_bn B0) ?_
              rw [if_pos (by rw [d0])]
              show ht_bn (fX9_byteAt (RM.wt s (nI 1) (nI q) (nI (q + L)) va wr) (nI q + (1 : Int32))) _ = _
              rw [E1]
              refine Eq.trans (z_bn B1) ?_
              rw [if_pos (by rw [d1])]
              show ht_bn (fX9_byteAt (RM.wt s (nI 1) (nI q) (nI (q + L)) va wr) (nI q + (2 : Int32))) _ = _
              rw [E2]
              refine Eq.trans (z_bn B2) ?_
              rw [if_pos (by rw [d2])]
              show ht_bn (fX9_byteAt (RM.wt s (nI 1) (nI q) (nI (q + L)) va wr) (nI (q + L) - (1 : Int32))) _ = _
              rw [E3]
              refine Eq.trans (z_bn B3) ?_
              rw [if_pos (by rw [d3])]
              rfl
            · refine ⟨false, ?_, ⟨fun x => absurd x (by decide), fun H => absurd H.2.2.2.2.2 d3⟩⟩
              refine Eq.trans (z_bn B0) ?_
              rw [if_pos (by rw [d0])]
              show ht_bn (fX9_byteAt (RM.wt s (nI 1) (nI q) (nI (q + L)) va wr) (nI q + (1 : Int32))) _ = _
              rw [E1]
              refine Eq.trans (z_bn B1) ?_
              rw [if_pos (by rw [d1])]
              show ht_bn (fX9_byteAt (RM.wt s (nI 1) (nI q) (nI (q + L)) va wr) (nI q + (2 : Int32))) _ = _
              rw [E2]
              refine Eq.trans (z_bn B2) ?_
              rw [if_pos (by rw [d2])]
              show ht_bn (fX9_byteAt (RM.wt s (nI 1) (nI q) (nI (q + L)) va wr) (nI (q + L) - (1 : Int32))) _ = _
              rw [E3]
              refine Eq.trans (z_bn B3) ?_
              rw [if_neg (fun x => d3 ((z_eq (by omega) (by omega)).mp x))]
              rfl
          · refine ⟨false, ?_, ⟨fun x => absurd x (by decide), fun H => absurd H.2.2.2.2.1 d2⟩⟩
            refine Eq.trans (z_bn B0) ?_
            rw [if_pos (by rw [d0])]
            show ht_bn (fX9_byteAt (RM.wt s (nI 1) (nI q) (nI (q + L)) va wr) (nI q + (1 : Int32))) _ = _
            rw [E1]
            refine Eq.trans (z_bn B1) ?_
            rw [if_pos (by rw [d1])]
            show ht_bn (fX9_byteAt (RM.wt s (nI 1) (nI q) (nI (q + L)) va wr) (nI q + (2 : Int32))) _ = _
            rw [E2]
            refine Eq.trans (z_bn B2) ?_
            rw [if_neg (fun x => d2 ((z_eq (by omega) (by omega)).mp x))]
            rfl
        · refine ⟨false, ?_, ⟨fun x => absurd x (by decide), fun H => absurd H.2.2.2.1 d1⟩⟩
          refine Eq.trans (z_bn B0) ?_
          rw [if_pos (by rw [d0])]
          show ht_bn (fX9_byteAt (RM.wt s (nI 1) (nI q) (nI (q + L)) va wr) (nI q + (1 : Int32))) _ = _
          rw [E1]
          refine Eq.trans (z_bn B1) ?_
          rw [if_neg (fun x => d1 ((z_eq (by omega) (by omega)).mp x))]
          rfl
      · refine ⟨false, ?_, ⟨fun x => absurd x (by decide), fun H => absurd H.2.2.1 d0⟩⟩
        refine Eq.trans (z_bn B0) ?_
        rw [if_neg (fun x => d0 ((z_eq (by omega) (by omega)).mp x))]
        rfl
    · refine ⟨false, ?_, ⟨fun x => absurd x (by decide), fun H => absurd H.2.1 (by omega)⟩⟩
      rw [if_neg (fun x => hl ((z_eq (by omega) (by omega)).mp x))]
      rfl
  · refine ⟨false, ?_, ⟨fun x => absurd x (by decide), fun H => absurd H.1 hk⟩⟩
    rw [if_neg (z_neL (b := 1) (c := 1) rfl hk (by omega) (by omega))]
    rfl
theorem m_isSame {RA : TapeV} {RM : ModV} {s : AI} {wr : Int32} {c : Nat → Nat} {n q i : Nat} {tk to va : Int32} (h : TPx RA RM c n) (hi : q + i + 2 < n) {a b' c' : Nat} (ha : a < 128) (hb : b' < 128) (hc : c' < 128) : ∃ b, fX9_isSame (RM.wt s tk (nI q) to va wr) (nI i) (nI a) (nI b') (nI c') = some (bI b) ∧ (b = true ↔ c (q + i) = a ∧ c (q + i + 1) = b' ∧ c (q + i + 2) = c') := by
  have hn := h.1
  have h3 := h.2.2.2
  have B : ∀ j, j < n → fX9_byteAt (RM.wt s tk (nI q) to va wr) (nI j) = some (nI (c j)) := by
    intro j hj
    have := m_byteAt (RM := RM.wt s tk (nI q) to va wr) h (j := j) (by omega)
    rw [if_pos hj] at this
    exact this
  have B0 := B (q + i) (by omega)
  have B1 := B (q + i + 1) (by omega)
  have B2 := B (q + i + 2) (by omega)
  have E0 : nI q + nI i = nI (q + i) := z_add q i
  have E1 : nI (q + i) + (1 : Int32) = nI (q + i + 1) := z_add _ 1
  have E2 : nI (q + i) + (2 : Int32) = nI (q + i + 2) := z_add _ 2
  have C0 := (h3 (q + i) (by omega)).1
  have C1 := (h3 (q + i + 1) (by omega)).1
  have C2 := (h3 (q + i + 2) (by omega)).1
  unfold fX9_isSame
  show ∃ b, ht_bn (fX9_byteAt (RM.wt s tk (nI q) to va wr) (nI q + nI i)) (fun o_1 => if o_1 = nI a then (ht_bn (fX9_byteAt (RM.wt s tk (nI q) to va wr) ((nI q + nI i) + (1 : Int32))) (fun o_3 => if o_3 = nI b' then (ht_bn (fX9_byteAt (RM.wt s tk (nI q) to va wr) ((nI q + nI i) + (2 : Int32))) (fun o_5 => if o_5 = nI c' then (some (1 : Int32)) else (some (0 : Int32)))) else (some (0 : Int32)))) else (some (0 : Int32))) = some (bI b) ∧ _
  rw [E0, E1, E2, z_bn B0]
  by_cases d0 : c (q + i) = a
  · rw [if_pos (by rw [d0]), z_bn B1]
    by_cases d1 : c (q + i + 1) = b'
    · rw [if_pos (by rw [d1]), z_bn B2]
      by_cases d2 : c (q + i + 2) = c'
      · rw [if_pos (by rw [d2])]
        exact ⟨true, rfl, ⟨fun _ => ⟨d0, d1, d2⟩, fun _ => rfl⟩⟩
      · rw [if_neg (fun x => d2 ((z_eq (by omega) (by omega)).mp x))]
        exact ⟨false, rfl, ⟨fun x => absurd x (by decide), fun H => absurd H.2.2 d2⟩⟩
    · rw [if_neg (fun x => d1 ((z_eq (by omega) (by omega)).mp x))]
      exact ⟨false, rfl, ⟨fun x => absurd x (by decide), fun H => absurd H.2.1 d1⟩⟩
  · rw [if_neg (fun x => d0 ((z_eq (by omega) (by omega)).mp x))]
    exact ⟨false, rfl, ⟨fun x => absurd x (by decide), fun H => absurd H.1 d0⟩⟩
theorem b_iff {a b : Bool} {P Q : Prop} (h1 : a = true ↔ P) (h2 : b = true ↔ Q) (h : P ↔ Q) : a = b := by
  cases a <;> cases b <;> simp_all
section
variable {J : TellV} {RA : TapeV} {RM : ModV} {s : AI} {wr : Int32} {c : Nat → Nat} {n q e k : Nat} {tk fr to va : Int32}
theorem nm_4 (h : TPx RA RM c n) (hR : RD n J tk fr to va q e k) (i : Nat) (hi : i < 15) (hl : lenS.getD i 0 = 4) : ∃ b, fX5_isName J RA i = some (bI b) ∧ fX9_isFour (RM.wt s tk fr to va wr) (nI (wN i 0)) (nI (wN i 1)) (nI (wN i 2)) (nI (wN i 3)) = some (bI b) := by
  obtain ⟨l7, l3, hw⟩ := wN_ok i hi
  obtain ⟨b1, x1, y1⟩ := x_isName h hR i hi
  obtain ⟨b2, x2, y2⟩ := m_isName (s := s) (wr := wr) h hR (L := 4) (by omega) (by omega) (hw 0 (by omega)).2 (hw 1 (by omega)).2 (hw 2 (by omega)).2 (hw 3 (by omega)).2
  rw [hl] at y1
  have eb : b1 = b2 := b_iff y1 y2 (by
    constructor
    · intro H
      exact ⟨H.1, H.2.1, H.2.2 0 (by omega), H.2.2 1 (by omega), H.2.2 2 (by omega), H.2.2 3 (by omega)⟩
    · intro H
      refine ⟨H.1, H.2.1, fun t ht => ?_⟩
      have : t = 0 ∨ t = 1 ∨ t = 2 ∨ t = 3 := by omega
      rcases this with rfl | rfl | rfl | rfl
      · exact H.2.2.1
      · exact H.2.2.2.1
      · exact H.2.2.2.2.1
      · exact H.2.2.2.2.2)
  subst eb
  refine ⟨b1, x1, ?_⟩
  unfold fX9_isFour
  exact z_isBz x2 (by cases b1 <;> decide)
theorem nm_5 (h : TPx RA RM c n) (hR : RD n J tk fr to va q e k) (i : Nat) (hi : i < 15) (hl : lenS.getD i 0 = 5) : ∃ b, fX5_isName J RA i = some (bI b) ∧ fX9_isFive (RM.wt s tk fr to va wr) (nI (wN i 0)) (nI (wN i 1)) (nI (wN i 2)) (nI (wN i 3)) (nI (wN i 4)) = some (bI b) := by
  have hn := h.1
  have h3 := h.2.2.2
  obtain ⟨l7, l3, hw⟩ := wN_ok i hi
  obtain ⟨b1, x1, y1⟩ := x_isName h hR i hi
  obtain ⟨b2, x2, y2⟩ := m_isName (s := s) (wr := wr) h hR (L := 5) (by omega) (by omega) (hw 0 (by omega)).2 (hw 1 (by omega)).2 (hw 2 (by omega)).2 (hw 4 (by omega)).2
  have w3 := (hw 3 (by omega)).2
  rw [hl] at y1
  obtain ⟨r1, r2, r3, r4, r5, r6, r7, r8, r9, r10, r11⟩ := hR
  cases b2 with
  | false =>
    have eb : b1 = false := by
      cases b1 with
      | false => rfl
      | true =>
        have H := y1.mp rfl
        exact absurd (y2.mpr ⟨H.1, H.2.1, H.2.2 0 (by omega), H.2.2 1 (by omega), H.2.2 2 (by omega), H.2.2 4 (by omega)⟩) (by decide)
    refine ⟨b1, x1, ?_⟩
    rw [eb]
    unfold fX9_isFive
    refine Eq.trans (z_bn x2) ?_
    rw [if_pos (show bI false = 0 from rfl)]
    rfl
  | true =>
    have H := y2.mp rfl
    have hb := m_byteAt (RM := RM.wt s tk fr to va wr) h (j := q + 3) (by omega)
    rw [if_pos (by omega)] at hb
    have C3 := (h3 (q + 3) (by omega)).1
    have E3 : fr + (3 : Int32) = nI (q + 3) := by rw [r5]; exact z_add q 3
    by_cases d : c (q + 3) = wN i 3
    · have eb : b1 = true := y1.mpr ⟨H.1, H.2.1, fun t ht => by
        have : t = 0 ∨ t = 1 ∨ t = 2 ∨ t = 3 ∨ t = 4 := by omega
        rcases this with rfl | rfl | rfl | rfl | rfl
        · exact H.2.2.1
        · exact H.2.2.2.1
        · exact H.2.2.2.2.1
        · exact d
        · exact H.2.2.2.2.2⟩
      refine ⟨b1, x1, ?_⟩
      rw [eb]
      unfold fX9_isFive
      refine Eq.trans (z_bn x2) ?_
      rw [if_neg (show ¬ bI true = 0 by decide)]
      show ht_bn (fX9_byteAt (RM.wt s tk fr to va wr) (fr + (3 : Int32))) _ = _
      rw [E3]
      refine Eq.trans (z_bn hb) ?_
      rw [if_pos (by rw [d])]
      rfl
    · have eb : b1 = false := by
        cases b1 with
        | false => rfl
        | true => exact absurd ((y1.mp rfl).2.2 3 (by omega)) d
      refine ⟨b1, x1, ?_⟩
      rw [eb]
      unfold fX9_isFive
      refine Eq.trans (z_bn x2) ?_
      rw [if_neg (show ¬ bI true = 0 by decide)]
      show ht_bn (fX9_byteAt (RM.wt s tk fr to va wr) (fr + (3 : Int32))) _ = _
      rw [E3]
      refine Eq.trans (z_bn hb) ?_
      rw [if_neg (fun x => d ((z_eq (by omega) (by omega)).mp x))]
      rfl
/-- a name of six letters by its first three, its last, and three more from the third on -/
theorem nm_6 (h : TPx RA RM c n) (hR : RD n J tk fr to va q e k) (i : Nat) (hi : i < 15) (hl : lenS.getD i 0 = 6) (R Y : Option Int32) : ∃ b, fX5_isName J RA i = some (bI b) ∧ ht_bn (fX9_isName (RM.wt s tk fr to va wr) (nI 6) (nI (wN i 0)) (nI (wN i 1)) (nI (wN i 2)) (nI (wN i 5))) (fun o_9 => if o_9 = 0 then R else (ht_bn (fX9_isSame (RM.wt s tk fr to va wr) (nI 2) (nI (wN i 2)) (nI (wN i 3)) (nI (wN i 4))) (fun o_11 => if o_11 = 0 then R else Y))) = (if b = true then Y else R) := by
  have hn := h.1
  obtain ⟨l7, l3, hw⟩ := wN_ok i hi
  obtain ⟨b1, x1, y1⟩ := x_isName h hR i hi
  obtain ⟨b2, x2, y2⟩ := m_isName (s := s) (wr := wr) h hR (L := 6) (by omega) (by omega) (hw 0 (by omega)).2 (hw 1 (by omega)).2 (hw 2 (by omega)).2 (hw 5 (by omega)).2
  rw [hl] at y1
  obtain ⟨r1, r2, r3, r4, r5, r6, r7, r8, r9, r10, r11⟩ := hR
  refine ⟨b1, x1, ?_⟩
  rw [z_bn x2]
  cases b2 with
  | false =>
    have eb : b1 = false := by
      cases b1 with
      | false => rfl
      | true =>
        have H := y1.mp rfl
        exact absurd (y2.mpr ⟨H.1, H.2.1, H.2.2 0 (by omega), H.2.2 1 (by omega), H.2.2 2 (by omega), H.2.2 5 (by omega)⟩) (by decide)
    rw [eb, if_pos (show bI false = 0 from rfl), if_neg (by decide)]
  | true =>
    have H := y2.mp rfl
    rw [if_neg (show ¬ bI true = 0 by decide)]
    subst r5
    obtain ⟨b3, x3, y3⟩ := m_isSame (RM := RM) (s := s) (wr := wr) (tk := tk) (to := to) (va := va) (q := q) (i := 2) h (by omega) (hw 2 (by omega)).2 (hw 3 (by omega)).2 (hw 4 (by omega)).2
    rw [z_bn x3]
    cases b3 with
    | false =>
      have eb : b1 = false := by
        cases b1 with
        | false => rfl
        | true =>
          have H1 := y1.mp rfl
          exact absurd (y3.mpr ⟨H1.2.2 2 (by omega), H1.2.2 3 (by omega), H1.2.2 4 (by omega)⟩) (by decide)
      rw [eb, if_pos (show bI false = 0 from rfl), if_neg (by decide)]
    | true =>
      have H3 := y3.mp rfl
      have eb : b1 = true := y1.mpr ⟨H.1, H.2.1, fun t ht => by
        have : t = 0 ∨ t = 1 ∨ t = 2 ∨ t = 3 ∨ t = 4 ∨ t = 5 := by omega
        rcases this with rfl | rfl | rfl | rfl | rfl | rfl
        · exact H.2.2.1
        · exact H.2.2.2.1
        · exact H.2.2.2.2.1
        · exact H3.2.1
        · exact H3.2.2
        · exact H.2.2.2.2.2⟩
      rw [eb, if_neg (show ¬ bI true = 0 by decide), if_pos rfl]
theorem nm_7 (h : TPx RA RM c n) (hR : RD n J tk fr to va q e k) (i : Nat) (hi : i < 15) (hl : lenS.getD i 0 = 7) (R Y : Option Int32) : ∃ b, fX5_isName J RA i = some (bI b) ∧ ht_bn (fX9_isName (RM.wt s tk fr to va wr) (nI 7) (nI (wN i 0)) (nI (wN i 1)) (nI (wN i 2)) (nI (wN i 6))) (fun o_13 => if o_13 = 0 then R else (ht_bn (fX9_isSame (RM.wt s tk fr to va wr) (nI 3) (nI (wN i 3)) (nI (wN i 4)) (nI (wN i 5))) (fun o_15 => if o_15 = 0 then R else Y))) = (if b = true then Y else R) := by
  have hn := h.1
  obtain ⟨l7, l3, hw⟩ := wN_ok i hi
  obtain ⟨b1, x1, y1⟩ := x_isName h hR i hi
  obtain ⟨b2, x2, y2⟩ := m_isName (s := s) (wr := wr) h hR (L := 7) (by omega) (by omega) (hw 0 (by omega)).2 (hw 1 (by omega)).2 (hw 2 (by omega)).2 (hw 6 (by omega)).2
  rw [hl] at y1
  obtain ⟨r1, r2, r3, r4, r5, r6, r7, r8, r9, r10, r11⟩ := hR
  refine ⟨b1, x1, ?_⟩
  rw [z_bn x2]
  cases b2 with
  | false =>
    have eb : b1 = false := by
      cases b1 with
      | false => rfl
      | true =>
        have H := y1.mp rfl
        exact absurd (y2.mpr ⟨H.1, H.2.1, H.2.2 0 (by omega), H.2.2 1 (by omega), H.2.2 2 (by omega), H.2.2 6 (by omega)⟩) (by decide)
    rw [eb, if_pos (show bI false = 0 from rfl), if_neg (by decide)]
  | true =>
    have H := y2.mp rfl
    rw [if_neg (show ¬ bI true = 0 by decide)]
    subst r5
    obtain ⟨b3, x3, y3⟩ := m_isSame (RM := RM) (s := s) (wr := wr) (tk := tk) (to := to) (va := va) (q := q) (i := 3) h (by omega) (hw 3 (by omega)).2 (hw 4 (by omega)).2 (hw 5 (by omega)).2
    rw [z_bn x3]
    cases b3 with
    | false =>
      have eb : b1 = false := by
        cases b1 with
        | false => rfl
        | true =>
          have H1 := y1.mp rfl
          exact absurd (y3.mpr ⟨H1.2.2 3 (by omega), H1.2.2 4 (by omega), H1.2.2 5 (by omega)⟩) (by decide)
      rw [eb, if_pos (show bI false = 0 from rfl), if_neg (by decide)]
    | true =>
      have H3 := y3.mp rfl
      have eb : b1 = true := y1.mpr ⟨H.1, H.2.1, fun t ht => by
        have : t = 0 ∨ t = 1 ∨ t = 2 ∨ t = 3 ∨ t = 4 ∨ t = 5 ∨ t = 6 := by omega
        rcases this with rfl | rfl | rfl | rfl | rfl | rfl | rfl
        · exact H.2.2.1
        · exact H.2.2.2.1
        · exact H.2.2.2.2.1
        · exact H3.1
        · exact H3.2.1
        · exact H3.2.2
        · exact H.2.2.2.2.2⟩
      rw [eb, if_neg (show ¬ bI true = 0 by decide), if_pos rfl]
theorem nm_3 (h : TPx RA RM c n) (hR : RD n J tk fr to va q e k) (i : Nat) (hi : i < 15) (hl : lenS.getD i 0 = 3) : ∃ b, fX5_isName J RA i = some (bI b) ∧ fX9_isName (RM.wt s tk fr to va wr) (nI 3) (nI (wN i 0)) (nI (wN i 1)) (nI (wN i 2)) (nI (wN i 2)) = some (bI b) := by
  obtain ⟨l7, l3, hw⟩ := wN_ok i hi
  obtain ⟨b1, x1, y1⟩ := x_isName h hR i hi
  obtain ⟨b2, x2, y2⟩ := m_isName (s := s) (wr := wr) h hR (L := 3) (by omega) (by omega) (hw 0 (by omega)).2 (hw 1 (by omega)).2 (hw 2 (by omega)).2 (hw 2 (by omega)).2
  rw [hl] at y1
  have eb : b1 = b2 := b_iff y1 y2 (by
    constructor
    · intro H
      exact ⟨H.1, H.2.1, H.2.2 0 (by omega), H.2.2 1 (by omega), H.2.2 2 (by omega), H.2.2 2 (by omega)⟩
    · intro H
      refine ⟨H.1, H.2.1, fun t ht => ?_⟩
      have : t = 0 ∨ t = 1 ∨ t = 2 := by omega
      rcases this with rfl | rfl | rfl
      · exact H.2.2.1
      · exact H.2.2.2.1
      · exact H.2.2.2.2.1)
  subst eb
  exact ⟨b1, x1, x2⟩
/-- the kind that is named, or -1 -/
theorem nm_kind (h : TPx RA RM c n) (hR : RD n J tk fr to va q e k) : ∃ r : Int32, fX5_kindNamed J RA = some r ∧ fX9_kindHere (RM.wt s tk fr to va wr) = some r ∧ (r = -1 ∨ ∃ kk, kk ≤ 5 ∧ r = nI kk) := by
  have T : ¬ bI true = 0 := by decide
  have F : bI false = 0 := rfl
  obtain ⟨b5, x5, m5⟩ := nm_7 (s := s) (wr := wr) h hR 5 (by omega) rfl (fX9_kindHere_b33 (RM.wt s tk fr to va wr)) (some (0 : Int32))
  have M5 : fX9_kindHere (RM.wt s tk fr to va wr) = (if b5 = true then some (0 : Int32) else fX9_kindHere_b33 (RM.wt s tk fr to va wr)) := m5
  rw [M5]
  unfold fX5_kindNamed
  rw [z_bn x5]
  cases b5 with
  | true => rw [if_neg T, if_pos rfl]; exact ⟨0, rfl, rfl, Or.inr ⟨0, by omega, rfl⟩⟩
  | false =>
  rw [if_pos F, if_neg (by decide)]
  obtain ⟨b6, x6, m6⟩ := nm_4 (s := s) (wr := wr) h hR 6 (by omega) rfl
  have M6 : fX9_isFour (RM.wt s tk fr to va wr) (119 : Int32) (105 : Int32) (102 : Int32) (101 : Int32) = some (bI b6) := m6
  unfold fX9_kindHere_b33
  rw [z_bn x6, z_bn M6]
  cases b6 with
  | true => rw [if_neg T, if_neg T]; exact ⟨1, rfl, rfl, Or.inr ⟨1, by omega, rfl⟩⟩
  | false =>
  rw [if_pos F, if_pos F]
  obtain ⟨b7, x7, m7⟩ := nm_4 (s := s) (wr := wr) h hR 7 (by omega) rfl
  have M7 : fX9_isFour (RM.wt s tk fr to va wr) (109 : Int32) (111 : Int32) (110 : Int32) (107 : Int32) = some (bI b7) := m7
  rw [z_bn x7, z_bn M7]
  cases b7 with
  | true => rw [if_neg T, if_neg T]; exact ⟨2, rfl, rfl, Or.inr ⟨2, by omega, rfl⟩⟩
  | false =>
  rw [if_pos F, if_pos F]
  obtain ⟨b8, x8, m8⟩ := nm_6 (s := s) (wr := wr) h hR 8 (by omega) rfl (fX9_kindHere_b100 (RM.wt s tk fr to va wr)) (some (3 : Int32))
  have M8 : ht_bn (fX9_isName (RM.wt s tk fr to va wr) (6 : Int32) (104 : Int32) (97 : Int32) (119 : Int32) (114 : Int32)) (fun o_9 => if o_9 = 0 then (fX9_kindHere_b100 (RM.wt s tk fr to va wr)) else (ht_bn (fX9_isSame (RM.wt s tk fr to va wr) (2 : Int32) (119 : Int32) (107 : Int32) (101 : Int32)) (fun o_11 => if o_11 = 0 then (fX9_kindHere_b100 (RM.wt s tk fr to va wr)) else (some (3 : Int32))))) = (if b8 = true then some (3 : Int32) else fX9_kindHere_b100 (RM.wt s tk fr to va wr)) := m8
  rw [z_bn x8, M8]
  cases b8 with
  | true => rw [if_neg T, if_pos rfl]; exact ⟨3, rfl, rfl, Or.inr ⟨3, by omega, rfl⟩⟩
  | false =>
  rw [if_pos F, if_neg (by decide)]
  obtain ⟨b9, x9, m9⟩ := nm_5 (s := s) (wr := wr) h hR 9 (by omega) rfl
  have M9 : fX9_isFive (RM.wt s tk fr to va wr) (112 : Int32) (114 : Int32) (105 : Int32) (111 : Int32) (114 : Int32) = some (bI b9) := m9
  unfold fX9_kindHere_b100
  rw [z_bn x9, z_bn M9]
  cases b9 with
  | true => rw [if_neg T, if_neg T]; exact ⟨4, rfl, rfl, Or.inr ⟨4, by omega, rfl⟩⟩
  | false =>
  rw [if_pos F, if_pos F]
  obtain ⟨b10, x10, m10⟩ := nm_5 (s := s) (wr := wr) h hR 10 (by omega) rfl
  have M10 : fX9_isFive (RM.wt s tk fr to va wr) (99 : Int32) (104 : Int32) (105 : Int32) (108 : Int32) (100 : Int32) = some (bI b10) := m10
  rw [z_bn x10, z_bn M10]
  cases b10 with
  | true => rw [if_neg T]; exact ⟨5, rfl, rfl, Or.inr ⟨5, by omega, rfl⟩⟩
  | false =>
  rw [if_pos F]; exact ⟨-1, rfl, rfl, Or.inl rfl⟩
/-- the law that is named, or -1 -/
theorem nm_law (h : TPx RA RM c n) (hR : RD n J tk fr to va q e k) : (fX5_lawNamed J RA = some (-1) ∧ fX9_lawHere (RM.wt s tk fr to va wr) = some (-1)) ∨ (∃ l, l ≤ 3 ∧ fX5_lawNamed J RA = some (nI l) ∧ fX9_lawHere (RM.wt s tk fr to va wr) = some (nI (5 + l))) := by
  have T : ¬ bI true = 0 := by decide
  have F : bI false = 0 := rfl
  obtain ⟨b6, x6, m6⟩ := nm_4 (s := s) (wr := wr) h hR 11 (by omega) rfl
  have M6 : fX9_isFour (RM.wt s tk fr to va wr) (108 : Int32) (111 : Int32) (117 : Int32) (100 : Int32) = some (bI b6) := m6
  unfold fX5_lawNamed fX9_lawHere
  rw [z_bn x6, z_bn M6]
  cases b6 with
  | true => rw [if_neg T, if_neg T]; exact Or.inr ⟨0, by omega, rfl, rfl⟩
  | false =>
  rw [if_pos F, if_pos F]
  obtain ⟨b9, x9, m9⟩ := nm_5 (s := s) (wr := wr) h hR 12 (by omega) rfl
  have M9 : fX9_isFive (RM.wt s tk fr to va wr) (113 : Int32) (117 : Int32) (105 : Int32) (101 : Int32) (116 : Int32) = some (bI b9) := m9
  rw [z_bn x9, z_bn M9]
  cases b9 with
  | true => rw [if_neg T, if_neg T]; exact Or.inr ⟨1, by omega, rfl, rfl⟩
  | false =>
  rw [if_pos F, if_pos F]
  obtain ⟨b8, x8, m8⟩ := nm_6 (s := s) (wr := wr) h hR 13 (by omega) rfl (fX9_lawHere_b71 (RM.wt s tk fr to va wr)) (some (7 : Int32))
  have M8 : ht_bn (fX9_isName (RM.wt s tk fr to va wr) (6 : Int32) (103 : Int32) (114 : Int32) (111 : Int32) (104 : Int32)) (fun o_7 => if o_7 = 0 then (fX9_lawHere_b71 (RM.wt s tk fr to va wr)) else (ht_bn (fX9_isSame (RM.wt s tk fr to va wr) (2 : Int32) (111 : Int32) (119 : Int32) (116 : Int32)) (fun o_9 => if o_9 = 0 then (fX9_lawHere_b71 (RM.wt s tk fr to va wr)) else (some (7 : Int32))))) = (if b8 = true then some (7 : Int32) else fX9_lawHere_b71 (RM.wt s tk fr to va wr)) := m8
  rw [z_bn x8, M8]
  cases b8 with
  | true => rw [if_neg T, if_pos rfl]; exact Or.inr ⟨2, by omega, rfl, rfl⟩
  | false =>
  rw [if_pos F, if_neg (by decide)]
  obtain ⟨b7, x7, m7⟩ := nm_3 (s := s) (wr := wr) h hR 14 (by omega) rfl
  have M7 : fX9_isName (RM.wt s tk fr to va wr) (3 : Int32) (108 : Int32) (111 : Int32) (116 : Int32) (116 : Int32) = some (bI b7) := m7
  unfold fX9_lawHere_b71
  rw [z_bn x7, z_bn M7]
  cases b7 with
  | true => rw [if_neg T, if_neg T]; exact Or.inr ⟨3, by omega, rfl, rfl⟩
  | false =>
  rw [if_pos F, if_pos F]; exact Or.inl ⟨rfl, rfl⟩
end
