/-! ===== sheets and shelves ===== -/
theorem z_four (v : Int32) : (fX8_isSheet v = some 0 ∧ fX8_isShelf v = some 0 ∧ fX9_isSheet v = some 0 ∧ fX9_isShelf v = some 0 ∧ ∀ t, t < 4 → v ≠ nI t) ∨ (∃ t, t < 4 ∧ v = nI t ∧ fX8_isSheet v = some 1 ∧ fX8_isShelf v = some 1 ∧ fX9_isSheet v = some 1 ∧ fX9_isShelf v = some 1 ∧ ht_ix v 4 = true ∧ v.toNatClampNeg = t) := by
  rcases z_rng v 0 3 (a := 0) (b := 3) (c := 0) (d := 3) rfl rfl rfl rfl (by omega) (by omega) with ⟨w, i⟩ | ⟨t, -, ht, rfl, w, i⟩
  · exact Or.inl ⟨z_isBz w rfl, z_isBz w rfl, z_isBz i rfl, z_isBz i rfl, fun t ht => z_out (hi := 3) rfl (by omega) w t (by omega)⟩
  · exact Or.inr ⟨t, by omega, rfl, z_isBz w rfl, z_isBz w rfl, z_isBz i rfl, z_isBz i rfl, z_ix (by omega) (by omega), z_cl (by omega)⟩
theorem z_fourI {t : Nat} (ht : t < 4) : fX8_isSheet (nI t) = some 1 ∧ fX8_isShelf (nI t) = some 1 ∧ fX9_isSheet (nI t) = some 1 ∧ fX9_isShelf (nI t) = some 1 ∧ ht_ix (nI t) 4 = true ∧ (nI t).toNatClampNeg = t := by
  rcases z_four (nI t) with ⟨-, -, -, -, h⟩ | ⟨u, hu, e, a, b, c, d, g, k⟩
  · exact absurd rfl (h t ht)
  · exact ⟨a, b, c, d, g, z_cl (by omega)⟩
theorem z_item {W : RowV} {sz : Int32} (hl : W.len ≤ 40) (hz : sz = nI W.len) (v : Int32) : (fX3_has W v = some 0 ∧ fX9_isIn v.toInt64 (0 : Int64) ((sz - (1 : Int32)).toInt64) = some 0) ∨ (∃ j, j < W.len ∧ v = nI j ∧ fX3_has W v = some 1 ∧ fX9_isIn v.toInt64 (0 : Int64) ((sz - (1 : Int32)).toInt64) = some 1) := by
  subst hz
  have E := m_isIn0 v (nI W.len - 1)
  by_cases c1 : v < 0
  · rw [if_pos c1] at E
    exact Or.inl ⟨by unfold fX3_has; rw [if_pos c1], E⟩
  rw [if_neg c1] at E
  by_cases c2 : nI W.len ≤ v
  · rw [if_pos ((z_pre (by omega) v).mpr c2)] at E
    exact Or.inl ⟨by unfold fX3_has; rw [if_neg c1]; exact if_pos c2, E⟩
  rw [if_neg (fun q => c2 ((z_pre (by omega) v).mp q))] at E
  obtain ⟨j, hj, rfl⟩ := nI_of c1
  exact Or.inr ⟨j, Nat.lt_of_not_le (fun q => c2 (nI_le q hj)), rfl, by unfold fX3_has; rw [if_neg c1]; exact if_neg c2, E⟩
/-- a sheet on both sides: nothing, or a row of the store -/
def SHr (W : RowV) (q : Nat) (so sz nu : AI) (t : Nat) : Prop := W.sort = nI q ∧ q ≤ 3 ∧ so t = nI q ∧ W.len ≤ 40 ∧ sz t = nI W.len ∧ ∀ k, k < W.len → W.items k = (nu (40 * t + k)).toInt64
def SHt (G : AQ) (st : Nat → Option RowV) (so sz nu : AI) (t : Nat) : Prop := (G t = none ∧ so t = -1) ∨ ∃ (j : Nat) (W : RowV) (q : Nat), G t = some j ∧ st j = some W ∧ SHr W q so sz nu t
def SHs (G : AQ) (st : Nat → Option RowV) (so sz nu : AI) : Prop := (∀ t, t < 4 → SHt G st so sz nu t) ∧ ∀ t u j, t < 4 → u < 4 → G t = some j → G u = some j → t = u
def SFt (Y : AI) (Z : AQ) (st : Nat → Option RowV) (hw hi hm : AI) (h : Nat) : Prop := (Z h = none ∧ Y h = -1 ∧ hw h = 0) ∨ (∃ n, n < 8 ∧ Z h = none ∧ Y h = nI n ∧ hw h = 1 ∧ hi h = nI n) ∨ (∃ (j : Nat) (W : RowV) (q : Nat), Z h = some j ∧ st j = some W ∧ Y h = -1 ∧ hw h = 2 ∧ W.sort = nI q ∧ q ≤ 3 ∧ hi h = nI q ∧ W.len ≤ 40 ∧ hm h = nI W.len)
def SFs (Y : AI) (Z : AQ) (st : Nat → Option RowV) (hw hi hm : AI) : Prop := ∀ h, h < 4 → SFt Y Z st hw hi hm h
theorem z_40 (t j : Nat) : ((40 : Int32) * nI t) + nI j = nI (40 * t + j) := by
  rw [show (40 : Int32) = nI 40 from rfl, z_mul, z_add]
/-! put -/
theorem o_put_n {RX : HTV} {G : AQ} {RM : ModV} {y1 : Int32} (y2 y3 : Int32) (h : ∀ t, t < 4 → y1 = nI t → G t = none ∧ RM.sortOf t = -1) : ∃ r, fX8_put_n RX G y1 y2 y3 = some r ∧ fX9_put RM y1 y2 y3 = some (r, RM.numbers) := by
  rcases z_four y1 with ⟨a, -, b, -, -⟩ | ⟨t, ht, e, a, -, b, -, g, c⟩
  · refine ⟨-1, ?_, ?_⟩
    · unfold fX8_put_n; rw [z_bn a, if_pos rfl]
    · unfold fX9_put; rw [z_bn b, if_pos rfl]
  · obtain ⟨h1, h2⟩ := h t ht e
    refine ⟨-11, ?_, ?_⟩
    · unfold fX8_put_n; rw [z_bn a, if_neg z_01, z_gd g, c, z_gd (decide_eq_true h1)]
    · unfold fX9_put; rw [z_bn b, if_neg z_01, z_gd g, c, h2, if_neg (by decide)]
theorem o_put_s {RX : HTV} {G : AQ} {RM : ModV} {jW t q : Nat} {W : RowV} (ht : t < 4) (hG : G t = some jW) (hr : SHr W q RM.sortOf RM.sizeOf RM.numbers t) (y2 y3 : Int32) : ∃ (r : Int32) (it : AL) (nu : AI), fX8_put_s jW RX G W (nI t) y2 y3 = some (r, it) ∧ fX9_put RM (nI t) y2 y3 = some (r, nu) ∧ (∀ k, k < W.len → it k = (nu (40 * t + k)).toInt64) ∧ ∀ i, (i < 40 * t ∨ 40 * t + 40 ≤ i) → nu i = RM.numbers i := by
  obtain ⟨hs, hq, hso, hl, hz, hi⟩ := hr
  obtain ⟨a, -, b, -, g, c⟩ := z_fourI ht
  rcases z_item hl hz y2 with ⟨h1, h2⟩ | ⟨j, hj, rfl, h1, h2⟩
  · refine ⟨-12, W.items, RM.numbers, ?_, ?_, hi, fun _ _ => rfl⟩
    · unfold fX8_put_s; rw [z_bn a, if_neg z_01, z_gd g, c, z_gd (decide_eq_true hG), z_bn h1, if_pos rfl]
    · unfold fX9_put; rw [z_bn b, if_neg z_01, z_gd g, c, hso, if_pos (nI_pos' (by omega)), z_gd g, z_bn h2, if_pos rfl]
  · have g160 : ht_ix (nI (40 * t + j)) 160 = true := z_ix (by omega) (by omega)
    have c160 : (nI (40 * t + j)).toNatClampNeg = 40 * t + j := z_cl (by omega)
    have gW : ht_ix (nI j) W.len = true := z_ix hj (by omega)
    have cj : (nI j).toNatClampNeg = j := z_cl (by omega)
    obtain ⟨nv, n1, n2⟩ : ∃ nv : Int32, fX3_narrowed W y3 = some nv.toInt64 ∧ (if nI q = 0 then fX9_put_b82 RM (nI (40 * t + j)) y3.toInt8.toInt32 RM.numbers else ht_gd (ht_ix (nI t) 4) (if nI q = (1 : Int32) then fX9_put_b82 RM (nI (40 * t + j)) y3.toInt16.toInt32 RM.numbers else fX9_put_b82 RM (nI (40 * t + j)) y3 RM.numbers)) = fX9_put_b82 RM (nI (40 * t + j)) nv RM.numbers := by
      have hq4 : q = 0 ∨ q = 1 ∨ q = 2 ∨ q = 3 := by omega
      unfold fX3_narrowed
      rw [z_gd g, hs]
      rcases hq4 with rfl | rfl | rfl | rfl
      · exact ⟨y3.toInt8.toInt32, rfl, rfl⟩
      · exact ⟨y3.toInt16.toInt32, rfl, rfl⟩
      · exact ⟨y3, rfl, rfl⟩
      · exact ⟨y3, rfl, rfl⟩
    refine ⟨1, vp_updL W.items j nv.toInt64, upd RM.numbers (40 * t + j) nv, ?_, ?_, fun k hk => ?_, fun i hi' => pk_un (by omega)⟩
    · unfold fX8_put_s; rw [z_bn a, if_neg z_01, z_gd g, c, z_gd (decide_eq_true hG), z_bn h1, if_neg z_01, z_bn n1, z_gd gW, z_nm, cj]
    · unfold fX9_put; rw [z_bn b, if_neg z_01, z_gd g, c, hso, if_pos (nI_pos' (by omega)), z_gd g, z_bn h2, if_neg z_01, z_gd (k := (if nI q = 0 then fX9_put_b82 RM (((40 : Int32) * nI t) + nI j) y3.toInt8.toInt32 RM.numbers else ht_gd (ht_ix (nI t) 4) (if nI q = (1 : Int32) then fX9_put_b82 RM (((40 : Int32) * nI t) + nI j) y3.toInt16.toInt32 RM.numbers else fX9_put_b82 RM (((40 : Int32) * nI t) + nI j) y3 RM.numbers))) g, z_40]
      refine Eq.trans n2 ?_
      unfold fX9_put_b82; rw [z_gd g160, z_nm, c160]
    · by_cases e : k = j
      · subst e; rw [pk_us]; exact if_pos rfl
      · rw [pk_un (by omega)]; exact (if_neg e).trans (hi k hk)
/-! item -/
theorem o_item_n {RX : HTV} {G : AQ} {RM : ModV} {y1 : Int32} (y2 y3 : Int32) (h : ∀ t, t < 4 → y1 = nI t → G t = none ∧ RM.sortOf t = -1) : ∃ r, fX8_item_n RX G y1 y2 y3 = some r ∧ fX9_item RM y1 y2 y3 = some r := by
  rcases z_four y1 with ⟨a, -, b, -, -⟩ | ⟨t, ht, e, a, -, b, -, g, c⟩
  · refine ⟨-1, ?_, ?_⟩
    · unfold fX8_item_n; rw [z_bn a, if_pos rfl]
    · unfold fX9_item; rw [z_bn b, if_pos rfl]
  · obtain ⟨h1, h2⟩ := h t ht e
    rcases z_rng y2 0 3 (a := 0) (b := 3) (c := 0) (d := 3) rfl rfl rfl rfl (by omega) (by omega) with ⟨w, i⟩ | ⟨q, -, hq, rfl, w, i⟩
    · refine ⟨-1, ?_, ?_⟩
      · unfold fX8_item_n; rw [z_bn a, if_neg z_01, z_bn w, if_pos rfl]
      · unfold fX9_item; rw [z_bn b, if_neg z_01, z_bn i, if_pos rfl]
    · have L : fX9_lacks RM y1 (nI q) = some (-11) := by unfold fX9_lacks; rw [z_gd g, c, h2, if_neg (by decide)]
      refine ⟨-11, ?_, ?_⟩
      · unfold fX8_item_n; rw [z_bn a, if_neg z_01, z_bn w, if_neg z_01, z_gd g, c, z_gd (decide_eq_true h1)]
      · unfold fX9_item; rw [z_bn b, if_neg z_01, z_bn i, if_neg z_01, z_bn L, if_neg (by decide), z_bn L]
theorem m_lacks {RM : ModV} {t q p : Nat} (ht : t < 4) (hso : RM.sortOf t = nI q) (hq : q ≤ 3) (hp : p ≤ 3) : fX9_lacks RM (nI t) (nI p) = some (if q = p then 0 else -13) := by
  obtain ⟨-, -, -, -, g, c⟩ := z_fourI ht
  unfold fX9_lacks
  rw [z_gd g, c, hso, if_pos (nI_pos' (by omega)), z_gd g]
  by_cases e : q = p
  · rw [if_pos e, e, if_pos rfl]
  · rw [if_neg e, if_neg (fun x => e ((z_eq (by omega) (by omega)).mp x))]
theorem o_item_s {RX : HTV} {G : AQ} {RM : ModV} {jW t q : Nat} {W : RowV} (ht : t < 4) (hG : G t = some jW) (hr : SHr W q RM.sortOf RM.sizeOf RM.numbers t) (y2 y3 : Int32) : ∃ r, fX8_item_s jW RX G W (nI t) y2 y3 = some r ∧ fX9_item RM (nI t) y2 y3 = some r := by
  obtain ⟨hs, hq, hso, hl, hz, hi⟩ := hr
  obtain ⟨a, -, b, -, g, c⟩ := z_fourI ht
  rcases z_rng y2 0 3 (a := 0) (b := 3) (c := 0) (d := 3) rfl rfl rfl rfl (by omega) (by omega) with ⟨w, i⟩ | ⟨p, -, hp, rfl, w, i⟩
  · refine ⟨-1, ?_, ?_⟩
    · unfold fX8_item_s; rw [z_bn a, if_neg z_01, z_bn w, if_pos rfl]
    · unfold fX9_item; rw [z_bn b, if_neg z_01, z_bn i, if_pos rfl]
  have L := m_lacks (p := p) ht hso hq hp
  by_cases e : q = p
  · subst e
    rw [if_pos rfl] at L
    rcases z_item hl hz y3 with ⟨h1, h2⟩ | ⟨j, hj, rfl, h1, h2⟩
    · refine ⟨-12, ?_, ?_⟩
      · unfold fX8_item_s; rw [z_bn a, if_neg z_01, z_bn w, if_neg z_01, z_gd g, c, z_gd (decide_eq_true hG), hs, if_pos rfl, z_bn h1, if_pos rfl]
      · unfold fX9_item; rw [z_bn b, if_neg z_01, z_bn i, if_neg z_01, z_bn L, if_pos rfl, z_gd g, c, z_bn h2, if_pos rfl]
    · have g160 : ht_ix (nI (40 * t + j)) 160 = true := z_ix (by omega) (by omega)
      have c160 : (nI (40 * t + j)).toNatClampNeg = 40 * t + j := z_cl (by omega)
      have gW : ht_ix (nI j) W.len = true := z_ix hj (by omega)
      have cj : (nI j).toNatClampNeg = j := z_cl (by omega)
      refine ⟨RM.numbers (40 * t + j), ?_, ?_⟩
      · unfold fX8_item_s; rw [z_bn a, if_neg z_01, z_bn w, if_neg z_01, z_gd g, c, z_gd (decide_eq_true hG), hs, if_pos rfl, z_bn h1, if_neg z_01, z_gd gW, cj, hi j hj, Int32.toInt32_toInt64]
      · unfold fX9_item; rw [z_bn b, if_neg z_01, z_bn i, if_neg z_01, z_bn L, if_pos rfl, z_gd g, c, z_bn h2, if_neg z_01, z_40, z_gd g160, c160]
  · rw [if_neg e] at L
    refine ⟨-13, ?_, ?_⟩
    · unfold fX8_item_s; rw [z_bn a, if_neg z_01, z_bn w, if_neg z_01, z_gd g, c, z_gd (decide_eq_true hG), hs, if_neg (fun x => e ((z_eq (by omega) (by omega)).mp x))]
    · unfold fX9_item; rw [z_bn b, if_neg z_01, z_bn i, if_neg z_01, z_bn L, if_neg (by decide), z_bn L]
/-! sheet -/
theorem m_sheetN {RM : ModV} {t : Nat} {so sz : AI} (ht : t < 4) : ∀ (d k fuel : Nat) (nu : AI), k + d = 40 → d < fuel → (∀ i, i < k → nu (40 * t + i) = 0) → (∀ i, (i < 40 * t ∨ 40 * t + 40 ≤ i) → nu i = RM.numbers i) → ∃ nu', ht_lp5 (fX9_sheet_b69 RM) fuel (nI t) (nI k) so sz nu = some (1, so, sz, nu') ∧ (∀ i, i < 40 → nu' (40 * t + i) = 0) ∧ ∀ i, (i < 40 * t ∨ 40 * t + 40 ≤ i) → nu' i = RM.numbers i := by
  intro d
  induction d with
  | zero =>
    intro k fuel nu hk hf h1 h2
    obtain ⟨f, rfl⟩ : ∃ f, fuel = f + 1 := ⟨fuel - 1, by omega⟩
    refine ⟨nu, ?_, fun i hi => h1 i (by omega), h2⟩
    show fX9_sheet_b69 RM (ht_lp5 (fX9_sheet_b69 RM) f) (nI t) (nI k) so sz nu = _
    unfold fX9_sheet_b69
    rw [if_pos (show (40 : Int32) ≤ nI k from (show nI 40 ≤ nI k by rw [z_le (by omega) (by omega)]; omega))]
  | succ d ih =>
    intro k fuel nu hk hf h1 h2
    obtain ⟨f, rfl⟩ : ∃ f, fuel = f + 1 := ⟨fuel - 1, by omega⟩
    obtain ⟨n2, e2, h3, h4⟩ := ih (k + 1) f (upd nu (40 * t + k) 0) (by omega) (by omega) (fun i hi => by
      by_cases e : i = k
      · subst e; exact pk_us
      · rw [pk_un (by omega)]; exact h1 i (by omega)) (fun i hi => (pk_un (by omega)).trans (h2 i hi))
    refine ⟨n2, Eq.trans ?_ e2, h3, h4⟩
    have g : ht_ix (nI (40 * t + k)) 160 = true := z_ix (by omega) (by omega)
    show fX9_sheet_b69 RM (ht_lp5 (fX9_sheet_b69 RM) f) (nI t) (nI k) so sz nu = _
    unfold fX9_sheet_b69
    rw [if_neg (show ¬ (40 : Int32) ≤ nI k from (show ¬ nI 40 ≤ nI k by rw [z_le (by omega) (by omega)]; omega)), z_40, z_gd g, z_nm, z_nm, nI_1, z_cl (by omega)]
theorem m_sheet44 {RM : ModV} {t : Nat} (ht : t < 4) (x2 x3 : Int32) : ∃ nu', fX9_sheet_b44 RM (nI t) x2 x3 RM.sortOf RM.sizeOf RM.numbers = some (1, upd RM.sortOf t x2, upd RM.sizeOf t (if 0 ≤ x2 then x3 else 0), nu') ∧ (∀ i, i < 40 → nu' (40 * t + i) = 0) ∧ ∀ i, (i < 40 * t ∨ 40 * t + 40 ≤ i) → nu' i = RM.numbers i := by
  obtain ⟨-, -, -, -, g, c⟩ := z_fourI ht
  obtain ⟨nu', e, h1, h2⟩ := m_sheetN (RM := RM) (so := upd RM.sortOf t x2) (sz := upd RM.sizeOf t (if 0 ≤ x2 then x3 else 0)) ht 40 0 FU RM.numbers (by omega) (by decide) (fun i hi => absurd hi (by omega)) (fun _ _ => rfl)
  refine ⟨nu', ?_, h1, h2⟩
  unfold fX9_sheet_b44 fX9_sheet_b65
  rw [z_gd g, z_nm, c]
  by_cases h : 0 ≤ x2
  · rw [if_pos h] at e ⊢; rw [if_pos h, z_gd g, z_nm]; exact e
  · rw [if_neg h] at e ⊢; rw [if_neg h, z_gd g, z_nm]; exact e
/-- a sheet's place gets something else, the other sheets stay -/
theorem SHs.to {G : AQ} {st st' : Nat → Option RowV} {so sz nu so' sz' nu' : AI} {t : Nat} {v : Option Nat} (h : SHs G st so sz nu) (ht : t < 4) (hso : ∀ u, u ≠ t → so' u = so u) (hsz : ∀ u, u ≠ t → sz' u = sz u) (hnu : ∀ i, (i < 40 * t ∨ 40 * t + 40 ≤ i) → nu' i = nu i) (hst : ∀ u j, u < 4 → u ≠ t → G u = some j → st' j = st j) (hv : ∀ u j, u < 4 → u ≠ t → G u = some j → v ≠ some j) (hn : SHt (va_up G t v) st' so' sz' nu' t) : SHs (va_up G t v) st' so' sz' nu' := by
  obtain ⟨h1, h2⟩ := h
  refine ⟨fun u hu => ?_, fun a b j ha hb ga gb => ?_⟩
  · by_cases e : u = t
    · subst e; exact hn
    · have gu : va_up G t v u = G u := up_n _ _ e
      rcases h1 u hu with ⟨x, y⟩ | ⟨j, W, q, x1, x2, x3, x4, x5, x6, x7, x8⟩
      · exact Or.inl ⟨gu.trans x, (hso u e).trans y⟩
      · refine Or.inr ⟨j, W, q, gu.trans x1, (hst u j hu e x1).trans x2, x3, x4, (hso u e).trans x5, x6, (hsz u e).trans x7, fun k hk => ?_⟩
        rw [hnu (40 * u + k) (by omega)]; exact x8 k hk
  · by_cases ea : a = t
    · subst ea
      rw [up_s] at ga
      by_cases eb : b = a
      · exact eb.symm
      · rw [up_n _ _ eb] at gb
        exact absurd ga (hv b j hb eb gb)
    · rw [up_n _ _ ea] at ga
      by_cases eb : b = t
      · subst eb
        rw [up_s] at gb
        exact absurd gb (hv a j ha ea ga)
      · rw [up_n _ _ eb] at gb
        exact h2 a b j ha hb ga gb
theorem o_sheet {RX : HTV} {G : AQ} {st : Nat → Option RowV} {RM : ModV} (h : SHs G st RM.sortOf RM.sizeOf RM.numbers) (y1 y2 y3 : Int32) : (∃ (r : Int32) (G' : AQ) (so sz nu : AI), fX8_sheet_n RX G y1 y2 y3 = some (r, G') ∧ fX9_sheet RM y1 y2 y3 = some (r, so, sz, nu) ∧ SHs G' st so sz nu) ∨ (∃ (t q n : Nat) (so sz nu : AI), t < 4 ∧ y1 = nI t ∧ y2 = nI q ∧ q ≤ 3 ∧ y3 = nI n ∧ n ≤ 40 ∧ fX8_sheet_a RX G y1 y2 y3 = some () ∧ fX9_sheet RM y1 y2 y3 = some (1, so, sz, nu) ∧ ∀ (j : Nat) (st' : Nat → Option RowV), (∀ u, u < 4 → G u ≠ some j) → (∀ i, i ≠ j → st' i = st i) → st' j = some (nI q, fun _ => 0, n) → SHs (va_up G t (some j)) st' so sz nu) := by
  rcases z_four y1 with ⟨a, -, b, -, -⟩ | ⟨t, ht, rfl, a, -, b, -, g, c⟩
  · refine Or.inl ⟨-1, G, RM.sortOf, RM.sizeOf, RM.numbers, ?_, ?_, h⟩
    · unfold fX8_sheet_n; rw [z_bn a, if_pos rfl]
    · unfold fX9_sheet; rw [z_bn b, if_pos rfl]
  by_cases em : y2 = -1
  · subst em
    have w : fX8_within (-1 : Int32) (-1 : Int32) (3 : Int32) = some 1 := by decide
    have i : fX9_isIn (-1 : Int32).toInt64 (-1 : Int64) (3 : Int64) = some 1 := by decide
    have lt : (-1 : Int32) < 0 := by decide
    obtain ⟨nu, e, -, hn⟩ := m_sheet44 (RM := RM) ht (-1) y3
    refine Or.inl ⟨1, va_up G t none, upd RM.sortOf t (-1), upd RM.sizeOf t (if 0 ≤ (-1 : Int32) then y3 else 0), nu, ?_, ?_, ?_⟩
    · unfold fX8_sheet_n; rw [z_bn a, if_neg z_01, z_bn w, if_neg z_01, if_pos rfl, z_gd g, z_nm, c]
    · unfold fX9_sheet fX9_sheet_b33; rw [z_bn b, if_neg z_01, z_bn i, if_neg z_01, if_pos lt, if_pos lt]; exact e
    · exact h.to ht (fun u e => pk_un e) (fun u e => pk_un e) hn (fun _ _ _ _ _ => rfl) (fun _ _ _ _ _ x => nomatch x) (Or.inl ⟨up_s _ _ _, pk_us⟩)
  -- the sort is 0 to 3, or wrong
  by_cases c1 : y2 < 0
  · have w : fX8_within y2 (-1 : Int32) (3 : Int32) = some 0 := by
      unfold fX8_within
      refine if_pos ?_
      have e1 : ((-1 : Int32).toInt) = -1 := by decide
      have e0 : ((0 : Int32).toInt) = 0 := by decide
      have hne : y2.toInt ≠ -1 := fun x => em (z_eqI (x.trans e1.symm))
      rw [z_ltI, e0] at c1
      rw [z_ltI, e1]; omega
    have i : fX9_isIn y2.toInt64 (-1 : Int64) (3 : Int64) = some 0 := by
      unfold fX9_isIn
      have e1 : (-1 : Int64) = (-1 : Int32).toInt64 := by decide
      rw [e1]
      refine if_pos ((lg_cmp_lt _ _).mpr ((fa_wide_lt _ _).mpr ?_))
      have e1 : ((-1 : Int32).toInt) = -1 := by decide
      have e0 : ((0 : Int32).toInt) = 0 := by decide
      have hne : y2.toInt ≠ -1 := fun x => em (z_eqI (x.trans e1.symm))
      rw [z_ltI, e0] at c1
      rw [z_ltI, e1]; omega
    refine Or.inl ⟨-1, G, RM.sortOf, RM.sizeOf, RM.numbers, ?_, ?_, h⟩
    · unfold fX8_sheet_n; rw [z_bn a, if_neg z_01, z_bn w, if_pos rfl]
    · unfold fX9_sheet; rw [z_bn b, if_neg z_01, z_bn i, if_pos rfl]
  obtain ⟨q, hq, rfl⟩ := nI_of c1
  have c1' : ¬ nI q < (-1 : Int32) := by
    have e1 : ((-1 : Int32).toInt) = -1 := by decide
    rw [z_ltI, e1, nI_toInt hq]; omega
  have e1 : (-1 : Int64) = (-1 : Int32).toInt64 := by decide
  have e3 : (3 : Int64) = (nI 3).toInt64 := by decide
  by_cases c2 : nI 3 < nI q
  · have w : fX8_within (nI q) (-1 : Int32) (3 : Int32) = some 0 := by unfold fX8_within; rw [if_neg c1']; exact if_pos c2
    have i : fX9_isIn (nI q).toInt64 (-1 : Int64) (3 : Int64) = some 0 := by
      unfold fX9_isIn
      rw [e1, e3, if_neg (fun x => c1' ((fa_wide_lt _ _).mp ((lg_cmp_lt _ _).mp x))), if_pos ((lg_cmp_gt _ _).mpr ((fa_wide_lt _ _).mpr c2))]
    refine Or.inl ⟨-1, G, RM.sortOf, RM.sizeOf, RM.numbers, ?_, ?_, h⟩
    · unfold fX8_sheet_n; rw [z_bn a, if_neg z_01, z_bn w, if_pos rfl]
    · unfold fX9_sheet; rw [z_bn b, if_neg z_01, z_bn i, if_pos rfl]
  have hq3 : q ≤ 3 := Nat.le_of_not_lt (fun x => c2 (nI_lt x hq))
  have w : fX8_within (nI q) (-1 : Int32) (3 : Int32) = some 1 := by unfold fX8_within; rw [if_neg c1']; exact if_neg c2
  have i : fX9_isIn (nI q).toInt64 (-1 : Int64) (3 : Int64) = some 1 := by
    unfold fX9_isIn
    rw [e1, e3, if_neg (fun x => c1' ((fa_wide_lt _ _).mp ((lg_cmp_lt _ _).mp x))), if_neg (fun x => c2 ((fa_wide_lt _ _).mp ((lg_cmp_gt _ _).mp x)))]
  by_cases c3 : y3 ≤ (40 : Int32)
  · by_cases c4 : 0 ≤ y3
    · have c4' : ¬ y3 < 0 := by
        have e0 : ((0 : Int32).toInt) = 0 := by decide
        rw [z_leI, e0] at c4
        rw [z_ltI, e0]; omega
      obtain ⟨n, hn, rfl⟩ := nI_of c4'
      have hn40 : n ≤ 40 := by
        have c3' : nI n ≤ nI 40 := c3
        exact (nI_leI hn (by omega)).mp c3'
      obtain ⟨nu, e, h0, hnu⟩ := m_sheet44 (RM := RM) ht (nI q) (nI n)
      refine Or.inr ⟨t, q, n, upd RM.sortOf t (nI q), upd RM.sizeOf t (if 0 ≤ nI q then nI n else 0), nu, ht, rfl, rfl, hq3, rfl, hn40, ?_, ?_, fun j st' hj hst hsj => ?_⟩
      · unfold fX8_sheet_a; rw [z_bn a, if_neg z_01, z_bn w, if_neg z_01, if_neg em, if_pos c3, if_pos c4, z_gd (decide_eq_true ⟨c4', c3⟩), z_gd g]
      · unfold fX9_sheet fX9_sheet_b33; rw [z_bn b, if_neg z_01, z_bn i, if_neg z_01, if_neg c1, if_pos c3, if_neg c1, if_pos c4]; exact e
      · refine h.to ht (fun u e => pk_un e) (fun u e => pk_un e) hnu (fun u i hu e gi => hst i (fun x => ?_)) (fun u i hu e gi x => ?_) (Or.inr ⟨j, (nI q, fun _ => 0, n), q, up_s _ _ _, hsj, rfl, hq3, pk_us, hn40, ?_, fun k hk => ?_⟩)
        · subst x; exact hj u hu gi
        · cases x; exact hj u hu gi
        · rw [pk_us, if_pos (nI_pos' (by omega))]
        · show (0 : Int64) = (nu (40 * t + k)).toInt64
          have hk' : k < n := hk
          rw [h0 k (by omega)]; decide
    · refine Or.inl ⟨-14, G, RM.sortOf, RM.sizeOf, RM.numbers, ?_, ?_, h⟩
      · unfold fX8_sheet_n; rw [z_bn a, if_neg z_01, z_bn w, if_neg z_01, if_neg em, if_pos c3, if_neg c4]
      · unfold fX9_sheet fX9_sheet_b33; rw [z_bn b, if_neg z_01, z_bn i, if_neg z_01, if_neg c1, if_pos c3, if_neg c1, if_neg c4]
  · refine Or.inl ⟨-1, G, RM.sortOf, RM.sizeOf, RM.numbers, ?_, ?_, h⟩
    · unfold fX8_sheet_n; rw [z_bn a, if_neg z_01, z_bn w, if_neg z_01, if_neg em, if_neg c3]
    · unfold fX9_sheet; rw [z_bn b, if_neg z_01, z_bn i, if_neg z_01, if_neg c1, if_neg c3]
