/-! ===== shelves ===== -/
theorem SFs.to {Y : AI} {Z : AQ} {st : Nat → Option RowV} {hw hi hm : AI} (H : SFs Y Z st hw hi hm) {h : Nat} {y a b c : Int32} {z : Option Nat} (hn : SFt (upd Y h y) (va_up Z h z) st (upd hw h a) (upd hi h b) (upd hm h c) h) : SFs (upd Y h y) (va_up Z h z) st (upd hw h a) (upd hi h b) (upd hm h c) := by
  intro u hu
  by_cases e : u = h
  · subst e; exact hn
  · unfold SFt
    rw [pk_un (f := Y) e, up_n Z z e, pk_un (f := hw) e, pk_un (f := hi) e, pk_un (f := hm) e]
    exact H u hu
theorem x_placeN {RX : HTV} {Y : AI} {Z : AQ} {h : Nat} (hh : h < 4) (v : Int32) : fX8_placeOnShelf_n RX Y Z (nI h) v = some (upd Y h v, va_up Z h none) := by
  obtain ⟨-, -, -, -, g, c⟩ := z_fourI hh
  unfold fX8_placeOnShelf_n
  rw [z_gd g, z_nm, z_gd g, z_nm, c]
theorem x_placeS {RX : HTV} {Y : AI} {Z : AQ} {W : RowV} {j h : Nat} (hh : h < 4) (v : Int32) : fX8_placeOnShelf_s j RX Y Z W (nI h) v = some (upd Y h v, va_up Z h (some j)) := by
  obtain ⟨-, -, -, -, g, c⟩ := z_fourI hh
  unfold fX8_placeOnShelf_s
  rw [z_gd g, z_nm, z_gd g, z_nm, c]
theorem m_shelfE {RM : ModV} {h : Nat} (hh : h < 4) {x2 x3 : Int32} (h0 : ¬ x2 = 0) (hw hi hm : AI) : fX9_shelf_b63 RM (nI h) x2 x3 hw hi hm = some (1, upd hw h 0, upd hi h 0, upd hm h 0) := by
  obtain ⟨-, -, -, -, g, c⟩ := z_fourI hh
  unfold fX9_shelf_b63 fX9_shelf_b64 fX9_shelf_b89 fX9_shelf_b118 fX9_shelf_b139
  rw [if_neg h0, if_pos rfl, z_gd g, z_nm, if_neg h0, if_pos rfl, z_gd g, z_nm, if_pos rfl, z_gd g, z_nm, c]
theorem m_shelfP {RM : ModV} {h : Nat} (hh : h < 4) (x3 : Int32) (hw hi hm : AI) : fX9_shelf_b63 RM (nI h) (0 : Int32) x3 hw hi hm = some (1, upd hw h 1, upd hi h x3, upd hm h 0) := by
  obtain ⟨-, -, -, -, g, c⟩ := z_fourI hh
  unfold fX9_shelf_b63 fX9_shelf_b64 fX9_shelf_b89 fX9_shelf_b118 fX9_shelf_b139
  rw [if_pos rfl, z_gd g, z_nm, if_pos rfl, z_gd g, z_nm, if_pos rfl, z_gd g, z_nm, c]
theorem m_shelfR {RM : ModV} {h t : Nat} (hh : h < 4) (ht : t < 4) (hw hi hm : AI) : fX9_shelf_b64 RM (nI h) (1 : Int32) (nI t) (1 : Int32) hw hi hm = some (1, upd hw h 2, upd hi h (RM.sortOf t), upd hm h (RM.sizeOf t)) := by
  obtain ⟨-, -, -, -, g, c⟩ := z_fourI hh
  obtain ⟨-, -, -, -, g', c'⟩ := z_fourI ht
  unfold fX9_shelf_b64 fX9_shelf_b89 fX9_shelf_b118 fX9_shelf_b139
  rw [if_neg z_01, if_neg z_01, z_gd g, z_nm, if_neg z_01, if_neg z_01, z_gd g', z_gd g, z_nm, if_neg z_01, z_gd g', z_gd g, z_nm, c, c']
theorem o_shelf_n {RX : HTV} {G Z : AQ} {Y : AI} {st : Nat → Option RowV} {A : Tn} {T : TownV} {RM : ModV} (hI : TI A T RM.s) (hf : SFs Y Z st RM.holdsWhat RM.holdsWhich RM.holdsMany) (y1 y2 y3 : Int32) (h : y2 = (1 : Int32) → ∀ t, t < 4 → y3 = nI t → G t = none ∧ RM.sortOf t = -1) : ∃ (r : Int32) (Y' : AI) (Z' : AQ) (hw hi hm : AI), fX8_shelf_n RX T G Y Z y1 y2 y3 = some (r, Y', Z') ∧ fX9_shelf RM y1 y2 y3 = some (r, hw, hi, hm) ∧ SFs Y' Z' st hw hi hm := by
  obtain ⟨hT, hM, hR, hA, hP⟩ := hI
  have h8 := hR.1
  rcases z_four y1 with ⟨-, a, -, b, -⟩ | ⟨u, hu, rfl, -, a, -, b, g, c⟩
  · refine ⟨-1, Y, Z, RM.holdsWhat, RM.holdsWhich, RM.holdsMany, ?_, ?_, hf⟩
    · unfold fX8_shelf_n; rw [z_bn a, if_pos rfl]
    · unfold fX9_shelf; rw [z_bn b, if_pos rfl]
  rcases z_rng y2 0 2 (a := 0) (b := 2) (c := 0) (d := 2) rfl rfl rfl rfl (by omega) (by omega) with ⟨w, i⟩ | ⟨p, -, hp, rfl, w, i⟩
  · have n0 : ¬ y2 = (0 : Int32) := z_out (hi := 2) rfl (by omega) w 0 (by omega)
    have n1 : ¬ y2 = (1 : Int32) := z_out (hi := 2) rfl (by omega) w 1 (by omega)
    have n2 : ¬ y2 = (2 : Int32) := z_out (hi := 2) rfl (by omega) w 2 (by omega)
    refine ⟨-1, Y, Z, RM.holdsWhat, RM.holdsWhich, RM.holdsMany, ?_, ?_, hf⟩
    · unfold fX8_shelf_n fX8_shelf_n_b33 fX8_shelf_n_b59; rw [z_bn a, if_neg z_01, if_neg n0, if_neg n1, if_neg n2]
    · unfold fX9_shelf; rw [z_bn b, if_neg z_01, z_bn i, if_pos rfl]
  have hp3 : p = 0 ∨ p = 1 ∨ p = 2 := by omega
  rcases hp3 with rfl | rfl | rfl
  · have n1 : ¬ nI 0 = (1 : Int32) := by decide
    have n2 : ¬ nI 0 = (2 : Int32) := by decide
    have n0 : nI 0 = (0 : Int32) := rfl
    rcases z_has (T := T) (RM := RM) hT.1 hM.1 h8 y3 with ⟨w3, i3⟩ | ⟨o, ho, rfl, w3, i3⟩
    · refine ⟨-1, Y, Z, RM.holdsWhat, RM.holdsWhich, RM.holdsMany, ?_, ?_, hf⟩
      · unfold fX8_shelf_n fX8_shelf_n_b33 fX8_shelf_n_b59; rw [z_bn a, if_neg z_01, if_pos n0, z_bn w3, if_pos rfl, if_neg n1, if_neg n2]
      · unfold fX9_shelf; rw [z_bn b, if_neg z_01, z_bn i, if_neg z_01, if_pos n0, z_bn i3, if_pos rfl]
    · refine ⟨1, upd Y u (nI o), va_up Z u none, upd RM.holdsWhat u 1, upd RM.holdsWhich u (nI o), upd RM.holdsMany u 0, ?_, ?_, hf.to (Or.inr (Or.inl ⟨o, by omega, up_s _ _ _, pk_us, pk_us, pk_us⟩))⟩
      · unfold fX8_shelf_n; rw [z_bn a, if_neg z_01, if_pos n0, z_bn w3, if_neg z_01, z_bn (x_placeN hu _)]
      · unfold fX9_shelf fX9_shelf_b31 fX9_shelf_b45; rw [z_bn b, if_neg z_01, z_bn i, if_neg z_01, if_pos n0, z_bn i3, if_neg z_01, if_neg n1, if_neg n1]
        exact m_shelfP hu (nI o) _ _ _
  · have n1 : nI 1 = (1 : Int32) := rfl
    have n2 : ¬ nI 1 = (2 : Int32) := by decide
    have n0 : ¬ nI 1 = (0 : Int32) := by decide
    rcases z_four y3 with ⟨a3, -, b3, -, -⟩ | ⟨t, ht, rfl, a3, -, b3, -, g3, c3⟩
    · refine ⟨-1, Y, Z, RM.holdsWhat, RM.holdsWhich, RM.holdsMany, ?_, ?_, hf⟩
      · unfold fX8_shelf_n fX8_shelf_n_b33 fX8_shelf_n_b59; rw [z_bn a, if_neg z_01, if_neg n0, if_pos n1, z_bn a3, if_pos rfl, if_neg n2]
      · unfold fX9_shelf fX9_shelf_b31; rw [z_bn b, if_neg z_01, z_bn i, if_neg z_01, if_neg n0, if_pos n1, z_bn b3, if_pos rfl]
    · obtain ⟨h1, h2⟩ := h n1 t ht rfl
      have lt : RM.sortOf t < 0 := by rw [h2]; decide
      refine ⟨1, upd Y u (-1), va_up Z u none, upd RM.holdsWhat u 0, upd RM.holdsWhich u 0, upd RM.holdsMany u 0, ?_, ?_, hf.to (Or.inl ⟨up_s _ _ _, pk_us, pk_us⟩)⟩
      · unfold fX8_shelf_n fX8_shelf_n_b33; rw [z_bn a, if_neg z_01, if_neg n0, if_pos n1, z_bn a3, if_neg z_01, z_gd g3, c3, z_gd (decide_eq_true h1), z_bn (x_placeN hu _)]
      · unfold fX9_shelf fX9_shelf_b31 fX9_shelf_b45; rw [z_bn b, if_neg z_01, z_bn i, if_neg z_01, if_neg n0, if_pos n1, z_bn b3, if_neg z_01, if_pos n1, z_gd g3, c3, if_pos lt]
        exact m_shelfE hu n0 _ _ _
  · have n1 : ¬ nI 2 = (1 : Int32) := by decide
    have n2 : nI 2 = (2 : Int32) := rfl
    have n0 : ¬ nI 2 = (0 : Int32) := by decide
    refine ⟨1, upd Y u (-1), va_up Z u none, upd RM.holdsWhat u 0, upd RM.holdsWhich u 0, upd RM.holdsMany u 0, ?_, ?_, hf.to (Or.inl ⟨up_s _ _ _, pk_us, pk_us⟩)⟩
    · unfold fX8_shelf_n fX8_shelf_n_b33 fX8_shelf_n_b59; rw [z_bn a, if_neg z_01, if_neg n0, if_neg n1, if_pos n2, z_bn (x_placeN hu _)]
    · unfold fX9_shelf fX9_shelf_b31 fX9_shelf_b45; rw [z_bn b, if_neg z_01, z_bn i, if_neg z_01, if_neg n0, if_neg n1, if_neg n1]
      exact m_shelfE hu n0 _ _ _
theorem o_shelf_s {RX : HTV} {G Z : AQ} {Y : AI} {st : Nat → Option RowV} {T : TownV} {RM : ModV} {jW t q : Nat} {W : RowV} (hf : SFs Y Z st RM.holdsWhat RM.holdsWhich RM.holdsMany) (ht : t < 4) (hG : G t = some jW) (hst : st jW = some W) (hr : SHr W q RM.sortOf RM.sizeOf RM.numbers t) (y1 : Int32) : ∃ (r : Int32) (Y' : AI) (Z' : AQ) (hw hi hm : AI), fX8_shelf_s jW RX T G Y Z W y1 (1 : Int32) (nI t) = some (r, Y', Z') ∧ fX9_shelf RM y1 (1 : Int32) (nI t) = some (r, hw, hi, hm) ∧ SFs Y' Z' st hw hi hm := by
  obtain ⟨hs, hq, hso, hl, hz, hi⟩ := hr
  rcases z_four y1 with ⟨-, a, -, b, -⟩ | ⟨u, hu, rfl, -, a, -, b, g, c⟩
  · refine ⟨-1, Y, Z, RM.holdsWhat, RM.holdsWhich, RM.holdsMany, ?_, ?_, hf⟩
    · unfold fX8_shelf_s; rw [z_bn a, if_pos rfl]
    · unfold fX9_shelf; rw [z_bn b, if_pos rfl]
  obtain ⟨a3, -, b3, -, g3, c3⟩ := z_fourI ht
  have i : fX9_isIn (1 : Int32).toInt64 (0 : Int64) (2 : Int64) = some 1 := by decide
  have nlt : ¬ RM.sortOf t < 0 := by rw [hso]; exact nI_pos (by omega)
  refine ⟨1, upd Y u (-1), va_up Z u (some jW), upd RM.holdsWhat u 2, upd RM.holdsWhich u (RM.sortOf t), upd RM.holdsMany u (RM.sizeOf t), ?_, ?_, hf.to (Or.inr (Or.inr ⟨jW, W, q, up_s _ _ _, hst, pk_us, pk_us, hs, hq, pk_us.trans hso, hl, pk_us.trans hz⟩))⟩
  · unfold fX8_shelf_s fX8_shelf_s_b33; rw [z_bn a, if_neg z_01, if_neg z_01, if_pos rfl, z_bn a3, if_neg z_01, z_gd g3, c3, z_gd (decide_eq_true hG), z_bn (x_placeS hu _)]
  · unfold fX9_shelf fX9_shelf_b31 fX9_shelf_b45; rw [z_bn b, if_neg z_01, z_bn i, if_neg z_01, if_neg z_01, if_pos rfl, z_bn b3, if_neg z_01, if_pos rfl, z_gd g3, c3, if_neg nlt]
    exact m_shelfR hu ht _ _ _
/-! taken -/
theorem z_as (v : Int32) : (∃ k, k ≤ 5 ∧ v = nI k ∧ fX8_within v (10 : Int32) (13 : Int32) = some 0 ∧ fX8_isKind v = some 1 ∧ fX9_isIn v.toInt64 (0 : Int64) (13 : Int64) = some 1 ∧ fX9_isIn v.toInt64 (6 : Int64) (9 : Int64) = some 0) ∨ (∃ k, k ≤ 3 ∧ v = nI (10 + k) ∧ fX8_within v (10 : Int32) (13 : Int32) = some 1 ∧ fX8_isKind v = some 0 ∧ fX9_isIn v.toInt64 (0 : Int64) (13 : Int64) = some 1 ∧ fX9_isIn v.toInt64 (6 : Int64) (9 : Int64) = some 0) ∨ (fX8_within v (10 : Int32) (13 : Int32) = some 0 ∧ fX8_isKind v = some 0 ∧ (fX9_isIn v.toInt64 (0 : Int64) (13 : Int64) = some 0 ∨ (fX9_isIn v.toInt64 (0 : Int64) (13 : Int64) = some 1 ∧ fX9_isIn v.toInt64 (6 : Int64) (9 : Int64) = some 1))) := by
  have key : ∀ j : Fin 14, fX8_within (nI j.val) (10 : Int32) (13 : Int32) = some (if 10 ≤ j.val then 1 else 0) ∧ fX8_isKind (nI j.val) = some (if j.val ≤ 5 then 1 else 0) ∧ fX9_isIn (nI j.val).toInt64 (6 : Int64) (9 : Int64) = some (if 6 ≤ j.val ∧ j.val ≤ 9 then 1 else 0) := by decide +kernel
  rcases z_rng v 0 13 (a := 0) (b := 13) (c := 0) (d := 13) rfl rfl rfl rfl (by omega) (by omega) with ⟨w, i⟩ | ⟨j, -, hj, rfl, w, i⟩
  · have no := fun j hj => z_out (v := v) (hi := 13) (b := 13) rfl (by omega) w j hj
    refine Or.inr (Or.inr ⟨?_, ?_, Or.inl i⟩)
    · rcases z_rng v 10 13 (a := 10) (b := 13) (c := 10) (d := 13) rfl rfl rfl rfl (by omega) (by omega) with ⟨w2, -⟩ | ⟨j, -, hj, e, -, -⟩
      · exact w2
      · exact absurd e (no j (by omega))
    · rcases z_rng v 0 5 (a := 0) (b := 5) (c := 0) (d := 5) rfl rfl rfl rfl (by omega) (by omega) with ⟨w2, -⟩ | ⟨j, -, hj, e, -, -⟩
      · exact z_isBz w2 rfl
      · exact absurd e (no j (by omega))
  · obtain ⟨k1, k2, k3⟩ := key ⟨j, by omega⟩
    by_cases h5 : j ≤ 5
    · refine Or.inl ⟨j, h5, rfl, ?_, ?_, i, ?_⟩
      · rw [k1]; exact congrArg some (if_neg (show ¬ 10 ≤ j by omega))
      · rw [k2]; exact congrArg some (if_pos h5)
      · rw [k3]; exact congrArg some (if_neg (show ¬ (6 ≤ j ∧ j ≤ 9) by omega))
    · by_cases h10 : 10 ≤ j
      · refine Or.inr (Or.inl ⟨j - 10, by omega, by rw [show 10 + (j - 10) = j by omega], ?_, ?_, i, ?_⟩)
        · rw [k1]; exact congrArg some (if_pos h10)
        · rw [k2]; exact congrArg some (if_neg h5)
        · rw [k3]; exact congrArg some (if_neg (show ¬ (6 ≤ j ∧ j ≤ 9) by omega))
      · refine Or.inr (Or.inr ⟨?_, ?_, Or.inr ⟨i, ?_⟩⟩)
        · rw [k1]; exact congrArg some (if_neg h10)
        · rw [k2]; exact congrArg some (if_neg h5)
        · rw [k3]; exact congrArg some (if_pos (show 6 ≤ j ∧ j ≤ 9 by omega))
theorem z_under {k a : Nat} (hk : k ≤ 5) (ha : a ≤ 5) : ∃ r : Int32, fX8_isUnder (nI k) (nI a) = some r ∧ fX9_isUnder (nI k) (nI a) = some r := by
  have key : ∀ (k a : Fin 6), fX8_isUnder (nI k.val) (nI a.val) = fX9_isUnder (nI k.val) (nI a.val) ∧ (fX8_isUnder (nI k.val) (nI a.val)).isSome = true := by decide +kernel
  obtain ⟨h1, h2⟩ := key ⟨k, by omega⟩ ⟨a, by omega⟩
  obtain ⟨r, hr⟩ := Option.isSome_iff_exists.mp h2
  exact ⟨r, hr, h1.symm.trans hr⟩
/-- what a shelf holds, to the reference -/
theorem m_held0 {RM : ModV} {h : Nat} (hh : h < 4) {v : Int32} (hw : RM.holdsWhat h = v) (hv : ¬ v = 1) : fX9_heldOn RM (nI h) = some v := by
  obtain ⟨-, -, -, -, g, c⟩ := z_fourI hh
  unfold fX9_heldOn fX9_heldOn_b27
  rw [z_gd g, c, hw, if_neg hv, z_gd g]
theorem m_held1 {RM : ModV} {h : Nat} (hh : h < 4) {v b : Int32} (hw : RM.holdsWhat h = 1) (hi : RM.holdsWhich h = v) (hb : fX9_isOne RM v = some b) : fX9_heldOn RM (nI h) = some (if b = 0 then 0 else 1) := by
  obtain ⟨-, -, -, -, g, c⟩ := z_fourI hh
  unfold fX9_heldOn fX9_heldOn_b27
  rw [z_gd g, c, hw, if_pos rfl, z_gd g, hi, z_bn hb]
  by_cases e : b = 0
  · rw [if_pos e, if_pos e]
  · rw [if_neg e, if_neg e, z_gd g]
theorem x_hasM {T : TownV} : fX6_has T (-1 : Int32) = some 0 := by unfold fX6_has; rw [if_pos (by decide)]
theorem o_taken_n {RX : HTV} {Z : AQ} {Y : AI} {st : Nat → Option RowV} {A : Tn} {T : TownV} {RM : ModV} (hI : TI A T RM.s) (hf : SFs Y Z st RM.holdsWhat RM.holdsWhich RM.holdsMany) (y1 y2 : Int32) (h : ∀ t, t < 4 → y1 = nI t → Z t = none) : ∃ r, fX8_taken_n RX T Y Z y1 y2 = some r ∧ fX9_taken RM y1 y2 = some r := by
  obtain ⟨hT, hM, hR, hA, hP⟩ := hI
  have h8 := hR.1
  rcases z_four y1 with ⟨-, a, -, b, -⟩ | ⟨u, hu, rfl, -, a, -, b, g, c⟩
  · obtain ⟨wo, hwo⟩ : ∃ wo, fX8_within y2 (10 : Int32) (13 : Int32) = some wo := by
      rcases z_as y2 with ⟨k, -, -, x, -⟩ | ⟨k, -, -, x, -⟩ | ⟨x, -⟩ <;> exact ⟨_, x⟩
    refine ⟨-1, ?_, ?_⟩
    · unfold fX8_taken_n; rw [z_bn hwo, z_bn a, if_pos rfl]
    · unfold fX9_taken; rw [z_bn b, if_pos rfl]
  have hZ := h u hu rfl
  rcases z_as y2 with ⟨k, hk, rfl, v1, v2, v3, v4⟩ | ⟨k, hk, rfl, v1, v2, v3, v4⟩ | ⟨v1, v2, v3⟩
  · have n10 : ¬ (10 : Int32) ≤ nI k := (show ¬ nI 10 ≤ nI k from nI_ge (by omega) (by omega))
    rcases hf u hu with ⟨-, f2, f3⟩ | ⟨n, hn, -, f2, f3, f4⟩ | ⟨j, W, q, f1, -⟩
    · have hd := m_held0 (RM := RM) hu f3 (by decide)
      refine ⟨-11, ?_, ?_⟩
      · unfold fX8_taken_n fX8_taken_n_b29; rw [z_bn v1, z_bn a, if_neg z_01, z_bn v2, if_neg z_01, z_gd g, c, z_gd (decide_eq_true hZ), z_gd g, f2, z_nm, z_bn x_hasM, if_pos rfl]
      · unfold fX9_taken; rw [z_bn b, if_neg z_01, z_bn v3, if_neg z_01, z_bn v4, if_pos rfl, z_bn hd, if_pos rfl]
    · rcases z_has (T := T) (RM := RM) hT.1 hM.1 h8 (nI n) with ⟨w3, i3⟩ | ⟨o, ho, e, w3, i3⟩
      · have hd := m_held1 (RM := RM) hu f3 f4 i3
        rw [if_pos rfl] at hd
        refine ⟨-11, ?_, ?_⟩
        · unfold fX8_taken_n fX8_taken_n_b29; rw [z_bn v1, z_bn a, if_neg z_01, z_bn v2, if_neg z_01, z_gd g, c, z_gd (decide_eq_true hZ), z_gd g, f2, z_nm, z_bn w3, if_pos rfl]
        · unfold fX9_taken; rw [z_bn b, if_neg z_01, z_bn v3, if_neg z_01, z_bn v4, if_pos rfl, z_bn hd, if_pos rfl]
      · have e' : n = o := (z_eq (by omega) (by omega)).mp e
        subst e'
        have hd := m_held1 (RM := RM) hu f3 f4 i3
        rw [if_neg z_01] at hd
        have q := hR.2.2.2.2.2.2.2.2 n ho
        obtain ⟨r, r1, r2⟩ := z_under q.1 hk
        have g8 : ht_ix (nI n) 8 = true := z_ix (by omega) (by omega)
        have c8 : (nI n).toNatClampNeg = n := z_cl (by omega)
        have hkd : T.kind n = nI (A.kd n) := hT.2.2.2.2.2.2.1 n ho
        have hsk : RM.s (9 + 6 * n + 0) = nI (A.kd n) := hM.2.2.2.2.2.2.1 n ho
        have hits : fX9_its RM (nI n) (0 : Int32) = some (nI (A.kd n)) := (z_its (RM := RM) (o := n) (w := 0) (by omega)).trans (congrArg some hsk)
        refine ⟨if r = 0 then -13 else nI n, ?_, ?_⟩
        · unfold fX8_taken_n fX8_taken_n_b29; rw [z_bn v1, z_bn a, if_neg z_01, z_bn v2, if_neg z_01, z_gd g, c, z_gd (decide_eq_true hZ), z_gd g, f2, z_nm, z_bn w3, if_neg z_01, z_bn v2, if_neg z_01, z_gd g8, c8, hkd, z_bn r1]
          by_cases e0 : r = 0
          · rw [if_pos e0, if_pos e0]
          · rw [if_neg e0, if_neg e0]
        · unfold fX9_taken; rw [z_bn b, if_neg z_01, z_bn v3, if_neg z_01, z_bn v4, if_pos rfl, z_bn hd, if_neg z_01, if_neg n10, if_pos rfl, z_gd g, c, f4, z_bn hits, z_bn r2]
          by_cases e0 : r = 0
          · rw [if_pos e0, if_pos e0]
          · rw [if_neg e0, if_neg e0, z_gd g]
    · rw [hZ] at f1; cases f1
  · have p10 : (10 : Int32) ≤ nI (10 + k) := (show nI 10 ≤ nI (10 + k) from nI_le (by omega) (by omega))
    rcases hf u hu with ⟨-, f2, f3⟩ | ⟨n, hn, -, f2, f3, f4⟩ | ⟨j, W, q, f1, -⟩
    · have hd := m_held0 (RM := RM) hu f3 (by decide)
      refine ⟨-11, ?_, ?_⟩
      · unfold fX8_taken_n fX8_taken_n_b29; rw [z_bn v1, z_bn a, if_neg z_01, z_bn v2, if_pos rfl, if_neg z_01, z_gd g, c, z_gd (decide_eq_true hZ), z_gd g, f2, z_nm, z_bn x_hasM, if_pos rfl]
      · unfold fX9_taken; rw [z_bn b, if_neg z_01, z_bn v3, if_neg z_01, z_bn v4, if_pos rfl, z_bn hd, if_pos rfl]
    · rcases z_has (T := T) (RM := RM) hT.1 hM.1 h8 (nI n) with ⟨w3, i3⟩ | ⟨o, ho, e, w3, i3⟩
      · have hd := m_held1 (RM := RM) hu f3 f4 i3
        rw [if_pos rfl] at hd
        refine ⟨-11, ?_, ?_⟩
        · unfold fX8_taken_n fX8_taken_n_b29; rw [z_bn v1, z_bn a, if_neg z_01, z_bn v2, if_pos rfl, if_neg z_01, z_gd g, c, z_gd (decide_eq_true hZ), z_gd g, f2, z_nm, z_bn w3, if_pos rfl]
        · unfold fX9_taken; rw [z_bn b, if_neg z_01, z_bn v3, if_neg z_01, z_bn v4, if_pos rfl, z_bn hd, if_pos rfl]
      · have hd := m_held1 (RM := RM) hu f3 f4 i3
        rw [if_neg z_01] at hd
        refine ⟨-13, ?_, ?_⟩
        · unfold fX8_taken_n fX8_taken_n_b29; rw [z_bn v1, z_bn a, if_neg z_01, z_bn v2, if_pos rfl, if_neg z_01, z_gd g, c, z_gd (decide_eq_true hZ), z_gd g, f2, z_nm, z_bn w3, if_neg z_01, z_bn v2, if_pos rfl]
        · unfold fX9_taken; rw [z_bn b, if_neg z_01, z_bn v3, if_neg z_01, z_bn v4, if_pos rfl, z_bn hd, if_neg z_01, if_pos p10, if_neg (show ¬ (1 : Int32) = 2 by decide)]
    · rw [hZ] at f1; cases f1
  · refine ⟨-1, ?_, ?_⟩
    · unfold fX8_taken_n; rw [z_bn v1, z_bn a, if_neg z_01, z_bn v2, if_pos rfl, if_pos rfl]
    · rcases v3 with v3 | ⟨v3, v4⟩
      · unfold fX9_taken; rw [z_bn b, if_neg z_01, z_bn v3, if_pos rfl]
      · unfold fX9_taken; rw [z_bn b, if_neg z_01, z_bn v3, if_neg z_01, z_bn v4, if_neg z_01]
theorem o_taken_s {RX : HTV} {Z : AQ} {Y : AI} {T : TownV} {RM : ModV} {jW u q : Nat} {W : RowV} (hu : u < 4) (hZ : Z u = some jW) (hw : RM.holdsWhat u = 2) (hs : W.sort = nI q) (hq : q ≤ 3) (hi : RM.holdsWhich u = nI q) (hm : RM.holdsMany u = nI W.len) (y2 : Int32) : ∃ r, fX8_taken_s jW RX T Y Z W (nI u) y2 = some r ∧ fX9_taken RM (nI u) y2 = some r := by
  obtain ⟨-, a, -, b, g, c⟩ := z_fourI hu
  have hd := m_held0 (RM := RM) hu hw (by decide)
  rcases z_as y2 with ⟨k, hk, rfl, v1, v2, v3, v4⟩ | ⟨k, hk, rfl, v1, v2, v3, v4⟩ | ⟨v1, v2, v3⟩
  · have n10 : ¬ (10 : Int32) ≤ nI k := (show ¬ nI 10 ≤ nI k from nI_ge (by omega) (by omega))
    have ns : ¬ W.sort = nI k - (10 : Int32) := by
      rw [hs]
      intro e
      have e2 := congrArg Int32.toInt e
      have e3 : (nI k - (10 : Int32)).toInt = (k : Int) - 10 := z_subT (a := k) (b := 10) (by omega) (by omega)
      rw [e3, z_ti (by omega)] at e2
      omega
    refine ⟨-13, ?_, ?_⟩
    · unfold fX8_taken_s fX8_taken_s_b29; rw [z_bn v1, z_bn a, if_neg z_01, z_bn v2, if_neg z_01, z_gd g, c, z_gd (decide_eq_true hZ), if_neg ns]
    · unfold fX9_taken; rw [z_bn b, if_neg z_01, z_bn v3, if_neg z_01, z_bn v4, if_pos rfl, z_bn hd, if_neg (by decide), if_neg n10, if_neg (by decide)]
  · have p10 : (10 : Int32) ≤ nI (10 + k) := (show nI 10 ≤ nI (10 + k) from nI_le (by omega) (by omega))
    have es : nI (10 + k) - (10 : Int32) = nI k := (z_sub (a := 10 + k) (b := 10) (by omega)).trans (congrArg nI (by omega))
    by_cases e : q = k
    · subst e
      refine ⟨nI W.len, ?_, ?_⟩
      · unfold fX8_taken_s fX8_taken_s_b29; rw [z_bn v1, z_bn a, if_neg z_01, z_bn v2, if_pos rfl, if_neg z_01, z_gd g, c, z_gd (decide_eq_true hZ), es, if_pos hs]; rfl
      · unfold fX9_taken; rw [z_bn b, if_neg z_01, z_bn v3, if_neg z_01, z_bn v4, if_pos rfl, z_bn hd, if_neg (by decide), if_pos p10, if_pos rfl, z_gd g, c, hi, es, if_pos rfl, z_gd g, hm]
    · have ne : ¬ nI q = nI k := fun x => e ((z_eq (by omega) (by omega)).mp x)
      refine ⟨-13, ?_, ?_⟩
      · unfold fX8_taken_s fX8_taken_s_b29; rw [z_bn v1, z_bn a, if_neg z_01, z_bn v2, if_pos rfl, if_neg z_01, z_gd g, c, z_gd (decide_eq_true hZ), es, hs, if_neg ne]
      · unfold fX9_taken; rw [z_bn b, if_neg z_01, z_bn v3, if_neg z_01, z_bn v4, if_pos rfl, z_bn hd, if_neg (by decide), if_pos p10, if_pos rfl, z_gd g, c, hi, es, if_neg ne]
  · refine ⟨-1, ?_, ?_⟩
    · unfold fX8_taken_s; rw [z_bn v1, z_bn a, if_neg z_01, z_bn v2, if_pos rfl, if_pos rfl]
    · rcases v3 with v3 | ⟨v3, v4⟩
      · unfold fX9_taken; rw [z_bn b, if_neg z_01, z_bn v3, if_pos rfl]
      · unfold fX9_taken; rw [z_bn b, if_neg z_01, z_bn v3, if_neg z_01, z_bn v4, if_neg z_01]
