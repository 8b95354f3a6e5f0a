set_option maxHeartbeats 4000000 in
set_option maxRecDepth 100000 in
theorem law_switch {p : Program} {l : Launch} {e : Env} {s : State} {m : MethodId} {below : List Frame} {meth : Method} {c : Code} {b L : Nat} {xs : Nat → Int32} {D : va_G} {K : Nat → ClassId} {aK aV : Nat → Nat} {Q : State → Prop} {H : Heap} {locs : List Loc} {ls : Array Slot} {x3 : Int32} {cc ss d : Nat} {j : Nat → Nat} {a : Nat → Nat → Nat} (hx : p.tables.exec = Jvm.exec) (hb : c.code = cL_law) (hml : c.maxLocals = 4) (hown : s.vm.findClass RL = some m.cls) (hts : ∀ w ∈ wsL_law, w.before #[Value.ref b] s = true) (hX : va_X b L xs s s.heap) (hbl : b < s.heap.size) (hK : va_K D vwCl (ht_tys K) s) (hE : ht_Str aK aV (fun q : Nat => s.heap.size ≤ q) s s.heap) (hcc : cc + 2 ≤ 600000) (hss : ss + 42 ≤ 7302249) (hi1 : vp_in (x3 + (1 : Int32)) L) (hi2 : vp_in (x3 + (2 : Int32)) L) (hi3 : vp_in (x3 + (3 : Int32)) L) (hi4 : vp_in (x3 + (4 : Int32)) L) (hd : d + 61 < 1000000) (hN : IN D K j a (fun q : Nat => s.heap.size ≤ q) d H) (hS : va_S (fun q : Nat => s.heap.size ≤ q) s.heap H locs) (hl : lv_has ls 4 [(0, .ref b), (1, .ref (j 0)), (2, .ref (j 14)), (3, .int x3)]) (kk : ∀ (H : Heap) (locs : List Loc) (cc1 ss1 : Nat), cc1 ≤ cc + 2 → ss1 ≤ ss + 42 → IN D K j a (fun q : Nat => s.heap.size ≤ q) (d + 60) H → va_S (fun q : Nat => s.heap.size ≤ q) s.heap H locs → W p l e room_1 s m #[Value.ref b] below meth c H locs cc1 ss1 Q (F0 m 1618 ls [])) (n : Nat) (hn : n < 64) : W p l e room_1 s m #[Value.ref b] below meth c H locs cc ss Q (F0 m 32 ls [.int (nI n)]) := by
  have hti : (nI n).toInt = (n : Int) := z_ti (by omega)
  by_cases h44 : 44 ≤ n
  · refine lv_tableOut (tgt := 1618) hx hb dL_law_32 (Or.inr (by rw [hti]; omega)) (by decide) ?_
    obtain ⟨RX, RN, RU, RT, RF, RP, RA, RJ, RR, RE, RG, RY, RZ, RM, rs, ⟨⟨A0, hI, hdy⟩, hKP, hO⟩, hP, hD⟩ := hN
    exact kk H locs cc ss (by omega) (by omega) ⟨RX, RN, RU, RT, RF, RP, RA, RJ, RR, RE, RG, RY, RZ, RM, rs, ⟨⟨A0, hI, by omega⟩, hKP.up (Nat.le_add_right d 60), hO⟩, hP, hD⟩ hS
  by_cases h_0 : n = 0
  · subst h_0
    exact lv_tableIn (tgt := 224) (off := 192) hx hb dL_law_32 (by rw [hti]; decide) (by rw [hti]; decide) (by rw [hti]; rfl) (by decide) (icL0 hx hb hml hown hts hX hbl hK hE hcc hss hi1 hi2 hi3 hi4 hd hN hS hl kk)
  by_cases h_1 : n = 1
  · subst h_1
    exact lv_tableIn (tgt := 287) (off := 255) hx hb dL_law_32 (by rw [hti]; decide) (by rw [hti]; decide) (by rw [hti]; rfl) (by decide) (icL1 hx hb hml hown hts hX hbl hK hE hcc hss hi1 hi2 hi3 hi4 hd hN hS hl kk)
  by_cases h_2 : n = 2
  · subst h_2
    exact lv_tableIn (tgt := 300) (off := 268) hx hb dL_law_32 (by rw [hti]; decide) (by rw [hti]; decide) (by rw [hti]; rfl) (by decide) (icL2 hx hb hml hown hts hX hbl hK hE hcc hss hi1 hi2 hi3 hi4 hd hN hS hl kk)
  by_cases h_3 : n = 3
  · subst h_3
    exact lv_tableIn (tgt := 333) (off := 301) hx hb dL_law_32 (by rw [hti]; decide) (by rw [hti]; decide) (by rw [hti]; rfl) (by decide) (icL3 hx hb hml hown hts hX hbl hK hE hcc hss hi1 hi2 hi3 hi4 hd hN hS hl kk)
  by_cases h_4 : n = 4
  · subst h_4
    exact lv_tableIn (tgt := 356) (off := 324) hx hb dL_law_32 (by rw [hti]; decide) (by rw [hti]; decide) (by rw [hti]; rfl) (by decide) (icL4 hx hb hml hown hts hX hbl hK hE hcc hss hi1 hi2 hi3 hi4 hd hN hS hl kk)
  by_cases h_5 : n = 5
  · subst h_5
    exact lv_tableIn (tgt := 409) (off := 377) hx hb dL_law_32 (by rw [hti]; decide) (by rw [hti]; decide) (by rw [hti]; rfl) (by decide) (icL5 hx hb hml hown hts hX hbl hK hE hcc hss hi1 hi2 hi3 hi4 hd hN hS hl kk)
  by_cases h_6 : n = 6
  · subst h_6
    exact lv_tableIn (tgt := 442) (off := 410) hx hb dL_law_32 (by rw [hti]; decide) (by rw [hti]; decide) (by rw [hti]; rfl) (by decide) (icL6 hx hb hml hown hts hX hbl hK hE hcc hss hi1 hi2 hi3 hi4 hd hN hS hl kk)
  by_cases h_7 : n = 7
  · subst h_7
    exact lv_tableIn (tgt := 475) (off := 443) hx hb dL_law_32 (by rw [hti]; decide) (by rw [hti]; decide) (by rw [hti]; rfl) (by decide) (icL7 hx hb hml hown hts hX hbl hK hE hcc hss hi1 hi2 hi3 hi4 hd hN hS hl kk)
  by_cases h_8 : n = 8
  · subst h_8
    exact lv_tableIn (tgt := 518) (off := 486) hx hb dL_law_32 (by rw [hti]; decide) (by rw [hti]; decide) (by rw [hti]; rfl) (by decide) (icL8 hx hb hml hown hts hX hbl hK hE hcc hss hi1 hi2 hi3 hi4 hd hN hS hl kk)
  by_cases h_9 : n = 9
  · subst h_9
    exact lv_tableIn (tgt := 561) (off := 529) hx hb dL_law_32 (by rw [hti]; decide) (by rw [hti]; decide) (by rw [hti]; rfl) (by decide) (icL9 hx hb hml hown hts hX hbl hK hE hcc hss hi1 hi2 hi3 hi4 hd hN hS hl kk)
  by_cases h_10 : n = 10
  · subst h_10
    exact lv_tableIn (tgt := 594) (off := 562) hx hb dL_law_32 (by rw [hti]; decide) (by rw [hti]; decide) (by rw [hti]; rfl) (by decide) (icL10 hx hb hml hown hts hX hbl hK hE hcc hss hi1 hi2 hi3 hi4 hd hN hS hl kk)
  by_cases h_11 : n = 11
  · subst h_11
    exact lv_tableIn (tgt := 617) (off := 585) hx hb dL_law_32 (by rw [hti]; decide) (by rw [hti]; decide) (by rw [hti]; rfl) (by decide) (icL11 hx hb hml hown hts hX hbl hK hE hcc hss hi1 hi2 hi3 hi4 hd hN hS hl kk)
  by_cases h_12 : n = 12
  · subst h_12
    exact lv_tableIn (tgt := 640) (off := 608) hx hb dL_law_32 (by rw [hti]; decide) (by rw [hti]; decide) (by rw [hti]; rfl) (by decide) (icL12 hx hb hml hown hts hX hbl hK hE hcc hss hi1 hi2 hi3 hi4 hd hN hS hl kk)
  by_cases h_13 : n = 13
  · subst h_13
    exact lv_tableIn (tgt := 663) (off := 631) hx hb dL_law_32 (by rw [hti]; decide) (by rw [hti]; decide) (by rw [hti]; rfl) (by decide) (icL13 hx hb hml hown hts hX hbl hK hE hcc hss hi1 hi2 hi3 hi4 hd hN hS hl kk)
  by_cases h_14 : n = 14
  · subst h_14
    exact lv_tableIn (tgt := 686) (off := 654) hx hb dL_law_32 (by rw [hti]; decide) (by rw [hti]; decide) (by rw [hti]; rfl) (by decide) (icL14 hx hb hml hown hts hX hbl hK hE hcc hss hi1 hi2 hi3 hi4 hd hN hS hl kk)
  by_cases h_15 : n = 15
  · subst h_15
    exact lv_tableIn (tgt := 699) (off := 667) hx hb dL_law_32 (by rw [hti]; decide) (by rw [hti]; decide) (by rw [hti]; rfl) (by decide) (icL15 hx hb hml hown hts hX hbl hK hE hcc hss hi1 hi2 hi3 hi4 hd hN hS hl kk)
  by_cases h_16 : n = 16
  · subst h_16
    exact lv_tableIn (tgt := 722) (off := 690) hx hb dL_law_32 (by rw [hti]; decide) (by rw [hti]; decide) (by rw [hti]; rfl) (by decide) (icL16 hx hb hml hown hts hX hbl hK hE hcc hss hi1 hi2 hi3 hi4 hd hN hS hl kk)
  by_cases h_17 : n = 17
  · subst h_17
    exact lv_tableIn (tgt := 745) (off := 713) hx hb dL_law_32 (by rw [hti]; decide) (by rw [hti]; decide) (by rw [hti]; rfl) (by decide) (icL17 hx hb hml hown hts hX hbl hK hE hcc hss hi1 hi2 hi3 hi4 hd hN hS hl kk)
  by_cases h_18 : n = 18
  · subst h_18
    exact lv_tableIn (tgt := 768) (off := 736) hx hb dL_law_32 (by rw [hti]; decide) (by rw [hti]; decide) (by rw [hti]; rfl) (by decide) (icL18 hx hb hml hown hts hX hbl hK hE hcc hss hi1 hi2 hi3 hi4 hd hN hS hl kk)
  by_cases h_19 : n = 19
  · subst h_19
    exact lv_tableIn (tgt := 791) (off := 759) hx hb dL_law_32 (by rw [hti]; decide) (by rw [hti]; decide) (by rw [hti]; rfl) (by decide) (icL19 hx hb hml hown hts hX hbl hK hE hcc hss hi1 hi2 hi3 hi4 hd hN hS hl kk)
  by_cases h_20 : n = 20
  · subst h_20
    exact lv_tableIn (tgt := 814) (off := 782) hx hb dL_law_32 (by rw [hti]; decide) (by rw [hti]; decide) (by rw [hti]; rfl) (by decide) (icL20 hx hb hml hown hts hX hbl hK hE hcc hss hi1 hi2 hi3 hi4 hd hN hS hl kk)
  by_cases h_21 : n = 21
  · subst h_21
    exact lv_tableIn (tgt := 827) (off := 795) hx hb dL_law_32 (by rw [hti]; decide) (by rw [hti]; decide) (by rw [hti]; rfl) (by decide) (icL21 hx hb hml hown hts hX hbl hK hE hcc hss hi1 hi2 hi3 hi4 hd hN hS hl kk)
  by_cases h_22 : n = 22
  · subst h_22
    exact lv_tableIn (tgt := 860) (off := 828) hx hb dL_law_32 (by rw [hti]; decide) (by rw [hti]; decide) (by rw [hti]; rfl) (by decide) (icL22 hx hb hml hown hts hX hbl hK hE hcc hss hi1 hi2 hi3 hi4 hd hN hS hl kk)
  by_cases h_23 : n = 23
  · subst h_23
    exact lv_tableIn (tgt := 893) (off := 861) hx hb dL_law_32 (by rw [hti]; decide) (by rw [hti]; decide) (by rw [hti]; rfl) (by decide) (icL23 hx hb hml hown hts hX hbl hK hE hcc hss hi1 hi2 hi3 hi4 hd hN hS hl kk)
  by_cases h_24 : n = 24
  · subst h_24
    exact lv_tableIn (tgt := 936) (off := 904) hx hb dL_law_32 (by rw [hti]; decide) (by rw [hti]; decide) (by rw [hti]; rfl) (by decide) (icL24 hx hb hml hown hts hX hbl hK hE hcc hss hi1 hi2 hi3 hi4 hd hN hS hl kk)
  by_cases h_25 : n = 25
  · subst h_25
    exact lv_tableIn (tgt := 959) (off := 927) hx hb dL_law_32 (by rw [hti]; decide) (by rw [hti]; decide) (by rw [hti]; rfl) (by decide) (icL25 hx hb hml hown hts hX hbl hK hE hcc hss hi1 hi2 hi3 hi4 hd hN hS hl kk)
  by_cases h_26 : n = 26
  · subst h_26
    exact lv_tableIn (tgt := 992) (off := 960) hx hb dL_law_32 (by rw [hti]; decide) (by rw [hti]; decide) (by rw [hti]; rfl) (by decide) (icL26 hx hb hml hown hts hX hbl hK hE hcc hss hi1 hi2 hi3 hi4 hd hN hS hl kk)
  by_cases h_27 : n = 27
  · subst h_27
    exact lv_tableIn (tgt := 1035) (off := 1003) hx hb dL_law_32 (by rw [hti]; decide) (by rw [hti]; decide) (by rw [hti]; rfl) (by decide) (icL27 hx hb hml hown hts hX hbl hK hE hcc hss hi1 hi2 hi3 hi4 hd hN hS hl kk)
  by_cases h_28 : n = 28
  · subst h_28
    exact lv_tableIn (tgt := 1079) (off := 1047) hx hb dL_law_32 (by rw [hti]; decide) (by rw [hti]; decide) (by rw [hti]; rfl) (by decide) (icL28 hx hb hml hown hts hX hbl hK hE hcc hss hi1 hi2 hi3 hi4 hd hN hS hl kk)
  by_cases h_29 : n = 29
  · subst h_29
    exact lv_tableIn (tgt := 1113) (off := 1081) hx hb dL_law_32 (by rw [hti]; decide) (by rw [hti]; decide) (by rw [hti]; rfl) (by decide) (icL29 hx hb hml hown hts hX hbl hK hE hcc hss hi1 hi2 hi3 hi4 hd hN hS hl kk)
  by_cases h_30 : n = 30
  · subst h_30
    exact lv_tableIn (tgt := 1146) (off := 1114) hx hb dL_law_32 (by rw [hti]; decide) (by rw [hti]; decide) (by rw [hti]; rfl) (by decide) (icL30 hx hb hml hown hts hX hbl hK hE hcc hss hi1 hi2 hi3 hi4 hd hN hS hl kk)
  by_cases h_31 : n = 31
  · subst h_31
    exact lv_tableIn (tgt := 1179) (off := 1147) hx hb dL_law_32 (by rw [hti]; decide) (by rw [hti]; decide) (by rw [hti]; rfl) (by decide) (icL31 hx hb hml hown hts hX hbl hK hE hcc hss hi1 hi2 hi3 hi4 hd hN hS hl kk)
  by_cases h_32 : n = 32
  · subst h_32
    exact lv_tableIn (tgt := 1222) (off := 1190) hx hb dL_law_32 (by rw [hti]; decide) (by rw [hti]; decide) (by rw [hti]; rfl) (by decide) (icL32 hx hb hml hown hts hX hbl hK hE hcc hss hi1 hi2 hi3 hi4 hd hN hS hl kk)
  by_cases h_33 : n = 33
  · subst h_33
    exact lv_tableIn (tgt := 1245) (off := 1213) hx hb dL_law_32 (by rw [hti]; decide) (by rw [hti]; decide) (by rw [hti]; rfl) (by decide) (icL33 hx hb hml hown hts hX hbl hK hE hcc hss hi1 hi2 hi3 hi4 hd hN hS hl kk)
  by_cases h_34 : n = 34
  · subst h_34
    exact lv_tableIn (tgt := 1298) (off := 1266) hx hb dL_law_32 (by rw [hti]; decide) (by rw [hti]; decide) (by rw [hti]; rfl) (by decide) (icL34 hx hb hml hown hts hX hbl hK hE hcc hss hi1 hi2 hi3 hi4 hd hN hS hl kk)
  by_cases h_35 : n = 35
  · subst h_35
    exact lv_tableIn (tgt := 1341) (off := 1309) hx hb dL_law_32 (by rw [hti]; decide) (by rw [hti]; decide) (by rw [hti]; rfl) (by decide) (icL35 hx hb hml hown hts hX hbl hK hE hcc hss hi1 hi2 hi3 hi4 hd hN hS hl kk)
  by_cases h_36 : n = 36
  · subst h_36
    exact lv_tableIn (tgt := 1384) (off := 1352) hx hb dL_law_32 (by rw [hti]; decide) (by rw [hti]; decide) (by rw [hti]; rfl) (by decide) (icL36 hx hb hml hown hts hX hbl hK hE hcc hss hi1 hi2 hi3 hi4 hd hN hS hl kk)
  by_cases h_37 : n = 37
  · subst h_37
    exact lv_tableIn (tgt := 1427) (off := 1395) hx hb dL_law_32 (by rw [hti]; decide) (by rw [hti]; decide) (by rw [hti]; rfl) (by decide) (icL37 hx hb hml hown hts hX hbl hK hE hcc hss hi1 hi2 hi3 hi4 hd hN hS hl kk)
  by_cases h_38 : n = 38
  · subst h_38
    exact lv_tableIn (tgt := 1470) (off := 1438) hx hb dL_law_32 (by rw [hti]; decide) (by rw [hti]; decide) (by rw [hti]; rfl) (by decide) (icL38 hx hb hml hown hts hX hbl hK hE hcc hss hi1 hi2 hi3 hi4 hd hN hS hl kk)
  by_cases h_39 : n = 39
  · subst h_39
    exact lv_tableIn (tgt := 1503) (off := 1471) hx hb dL_law_32 (by rw [hti]; decide) (by rw [hti]; decide) (by rw [hti]; rfl) (by decide) (icL39 hx hb hml hown hts hX hbl hK hE hcc hss hi1 hi2 hi3 hi4 hd hN hS hl kk)
  by_cases h_40 : n = 40
  · subst h_40
    exact lv_tableIn (tgt := 1546) (off := 1514) hx hb dL_law_32 (by rw [hti]; decide) (by rw [hti]; decide) (by rw [hti]; rfl) (by decide) (icL40 hx hb hml hown hts hX hbl hK hE hcc hss hi1 hi2 hi3 hi4 hd hN hS hl kk)
  by_cases h_41 : n = 41
  · subst h_41
    exact lv_tableIn (tgt := 1569) (off := 1537) hx hb dL_law_32 (by rw [hti]; decide) (by rw [hti]; decide) (by rw [hti]; rfl) (by decide) (icL41 hx hb hml hown hts hX hbl hK hE hcc hss hi1 hi2 hi3 hi4 hd hN hS hl kk)
  by_cases h_42 : n = 42
  · subst h_42
    exact lv_tableIn (tgt := 1592) (off := 1560) hx hb dL_law_32 (by rw [hti]; decide) (by rw [hti]; decide) (by rw [hti]; rfl) (by decide) (icL42 hx hb hml hown hts hX hbl hK hE hcc hss hi1 hi2 hi3 hi4 hd hN hS hl kk)
  by_cases h_43 : n = 43
  · subst h_43
    exact lv_tableIn (tgt := 1605) (off := 1573) hx hb dL_law_32 (by rw [hti]; decide) (by rw [hti]; decide) (by rw [hti]; rfl) (by decide) (icL43 hx hb hml hown hts hX hbl hK hE hcc hss hi1 hi2 hi3 hi4 hd hN hS hl kk)
  omega
set_option maxHeartbeats 4000000 in
set_option maxRecDepth 100000 in
theorem law_loop {p : Program} {l : Launch} {e : Env} {s : State} {m : MethodId} {below : List Frame} {meth : Method} {c : Code} {b L : Nat} {xs : Nat → Int32} {D : va_G} {K : Nat → ClassId} {aK aV : Nat → Nat} {j : Nat → Nat} {a : Nat → Nat → Nat} (hL : L ≤ 2560) (C0 : lw_At p s m meth c b L xs) (hK : va_K D vwCl (ht_tys K) s) (hE : ht_Str aK aV (fun q : Nat => s.heap.size ≤ q) s s.heap) :
    ∀ (n i cc ss d : Nat) (H : Heap) (locs : List Loc) (ls : Array Slot), 5 * i ≤ L → L < 5 * (i + n) → cc ≤ 100 + 2 * i → ss ≤ 2000 + 42 * i → d ≤ 60 * i → IN D K j a (fun q : Nat => s.heap.size ≤ q) d H → va_S (fun q : Nat => s.heap.size ≤ q) s.heap H locs → lv_has ls 4 [(0, .ref b), (1, .ref (j 0)), (2, .ref (j 14)), (3, .int (nI (5 * i)))] → W p l e room_1 s m #[Value.ref b] below meth c H locs cc ss (lw_Z below #[Value.ref b] s) (F0 m 18 ls []) := by
  obtain ⟨hx, hb0, hr, hml, hown, hts, hX, hbl, hlocks, hgv⟩ := C0
  have hb : c.code = cL_law := hb0
  have hA : ∀ q : Nat, s.heap.size ≤ q → (fun q : Nat => s.heap.size ≤ q) q := fun _ h => h
  have hbA : ¬ (fun q : Nat => s.heap.size ≤ q) b := Nat.not_le.mpr hbl
  have htsL : ∀ w ∈ wsL_law, w.before #[Value.ref b] s = true := fun w h => hts w (wsL_law_in w h)
  intro n
  induction n with
  | zero =>
    intro i cc ss d H locs ls h1 h2
    exact absurd h2 (by omega)
  | succ n ih =>
    intro i cc ss d H locs ls hi hin hc hs hd hN hS hl
    refine lv_iload_n hx hb dL_law_18 rfl (lv_at hl 3 rfl) ?_
    refine lv_aload_n hx hb dL_law_19 rfl (lv_at hl 0 rfl) ?_
    refine va_slen hx hb hX hbl hbA hS dL_law_20 ?_
    refine lv_iconst (v := 5) hx hb dL_law_21 (by decide) ?_
    refine lv_isub hx hb dL_law_22 ?_
    refine lv_icmp_gt (tgt := 1624) hx hb dL_law_23 (by decide) (fun cq => ?_) (fun cq => ?_)
    · refine lv_iconst (v := 1) hx hb dL_law_1624 (by decide) ?_
      refine va_forget (fun q hq => hS.2.2 q hq) ?_
      refine W.widen (k := 600000) (n := 7302249) (by omega) (by omega) ?_
      exact lw_ret hx hb0 hr hlocks (show decode code 1625 = .ok (.ireturn, 1) from dL_law_1625)
    · have h5 : 5 * i + 5 ≤ L := by
        rcases Nat.lt_or_ge L (5 * i + 5) with q | q
        · exact absurd ((z_five hL hi).mpr q) cq
        · exact q
      obtain ⟨z, hz, ez⟩ := and63 (xs (nI (5 * i)).toNatClampNeg)
      refine lv_aload_n hx hb dL_law_26 rfl (lv_at hl 0 rfl) ?_
      refine lv_iload_n hx hb dL_law_27 rfl (lv_at hl 3 rfl) ?_
      refine va_sld hx hb hX hbl hbA hS (vp_in_nI (by omega) (by omega)) dL_law_28 ?_
      refine lv_bipush (v := 63) hx hb dL_law_29 (by decide) ?_
      refine lv_iand hx hb dL_law_31 ?_
      rw [ez]
      refine law_switch hx hb hml hown htsL hX hbl hK hE (by omega) (by omega) (z_ink (k := 1) hL h5 (by omega)) (z_ink (k := 2) hL h5 (by omega)) (z_ink (k := 3) hL h5 (by omega)) (z_ink (k := 4) hL h5 (by omega)) (by omega) hN hS hl (fun H locs cc1 ss1 hc1 hs1 hN hS => ?_) z hz
      refine lv_iinc (v := nI (5 * (i + 1))) (lv' := [(3, .int (nI (5 * (i + 1)))), (0, .ref b), (1, .ref (j 0)), (2, .ref (j 14))]) hx hb dL_law_1618 hl (k := 3) rfl ((congrArg (fun t => nI (5 * i) + t) (show Int32.ofInt 5 = nI 5 by decide)).trans ((nI_add _ _).trans rfl)) (by decide) rfl (fun ls hl => ?_)
      refine lv_goto (tgt := 18) hx hb dL_law_1621 (by decide) ?_
      exact ih (i + 1) cc1 ss1 (d + 60) H locs ls (by omega) (by omega) (by omega) (by omega) (by omega) hN hS (lv_sub hl [1, 2, 3, 0] rfl)
