abbrev rmX2_takeOnly : Room := { frames := 3, cells := 0, slots := 0, locals := 65 }
theorem hdX2_takeOnly : yX2_takeOnly.cls = RX2 ∧ yX2_takeOnly.cls ≠ "java/lang/invoke/MethodHandle" ∧ yX2_takeOnly.cls ≠ "java/lang/invoke/VarHandle" ∧ (parseMethodDescriptor yX2_takeOnly.desc).map (fun d => d.parameters.length) = some 2 := by decide +kernel
def fX2_takeOnly (RP : PairV) (RN : TownV) (RW : TownV) (p0 : Int32) (p1 : Int32) : Option (AI × AI × AI × AI × AI × AI × AI × Int32 × Int32) := ht_bn (fX6_copyLawsAndDay RW RN) (fun o_1 => ht_gd (ht_ix p0 8) (ht_gd (ht_ix p0 8) (ht_gd (ht_ix p0 8) (ht_gd (ht_ix p0 8) (ht_bn (fX6_add (o_1.1, RW.kind, RW.need, RW.saved, RW.voice, RW.partner, RW.speaks, (0 : Int32), o_1.2, RW.heard, RW.geese, RW.z) (RN.kind p0.toNatClampNeg) (RN.need p0.toNatClampNeg) (RN.saved p0.toNatClampNeg) (RN.voice p0.toNatClampNeg)) (fun o_6 => if p0 = p1 then (some (o_1.1, o_6.1, o_6.2.1, o_6.2.2.1, o_6.2.2.2.1, o_6.2.2.2.2.1, o_6.2.2.2.2.2.1, o_6.2.2.2.2.2.2, o_1.2)) else (ht_gd (ht_ix p1 8) (ht_gd (ht_ix p1 8) (ht_gd (ht_ix p1 8) (ht_gd (ht_ix p1 8) (ht_bn (fX6_add (o_1.1, o_6.1, o_6.2.1, o_6.2.2.1, o_6.2.2.2.1, o_6.2.2.2.2.1, o_6.2.2.2.2.2.1, o_6.2.2.2.2.2.2, o_1.2, RW.heard, RW.geese, RW.z) (RN.kind p1.toNatClampNeg) (RN.need p1.toNatClampNeg) (RN.saved p1.toNatClampNeg) (RN.voice p1.toNatClampNeg)) (fun o_12 => ht_bn (fX6_join (o_1.1, o_12.1, o_12.2.1, o_12.2.2.1, o_12.2.2.2.1, o_12.2.2.2.2.1, o_12.2.2.2.2.2.1, o_12.2.2.2.2.2.2, o_1.2, RW.heard, RW.geese, RW.z) (0 : Int32) (1 : Int32)) (fun o_13 => some (o_1.1, o_12.1, o_12.2.1, o_12.2.2.1, o_12.2.2.2.1, o_13.1, o_13.2, o_12.2.2.2.2.2.2, o_1.2))))))))))))))
set_option maxHeartbeats 1000000 in
set_option maxRecDepth 100000 in
theorem ctX2_takeOnly (l : Launch) (D : va_G) (K : Nat → ClassId) (jP : Nat) (aP : Nat → Nat) (jN : Nat) (aN : Nat → Nat) (jW : Nat) (aW : Nat → Nat) (RP : PairV) (RN : TownV) (RW : TownV) (p0 : Int32) (p1 : Int32) (o : (AI × AI × AI × AI × AI × AI × AI × Int32 × Int32)) (hf : fX2_takeOnly RP RN RW p0 p1 = some o) (sz : Nat) : Met l yX2_takeOnly wsX2_takeOnly rmX2_takeOnly (ht_Pre D K [.ref jP, .int p0, .int p1] (wPa K jP aP jN jW RP.sounds RP.mostOfSet ++ (wTw K jN aN RN.laws RN.kind RN.need RN.saved RN.voice RN.partner RN.speaks RN.count RN.day RN.heard RN.geese RN.z ++ (wTw K jW aW RW.laws RW.kind RW.need RW.saved RW.voice RW.partner RW.speaks RW.count RW.day RW.heard RW.geese RW.z))) sz) (ht_Qv D K (wPa K jP aP jN jW RP.sounds RP.mostOfSet ++ (wTw K jN aN RN.laws RN.kind RN.need RN.saved RN.voice RN.partner RN.speaks RN.count RN.day RN.heard RN.geese RN.z ++ (wTw K jW aW o.1 o.2.1 o.2.2.1 o.2.2.2.1 o.2.2.2.2.1 o.2.2.2.2.2.1 o.2.2.2.2.2.2.1 o.2.2.2.2.2.2.2.1 o.2.2.2.2.2.2.2.2 RW.heard RW.geese RW.z))) (va_A (wPa K jP aP jN jW RP.sounds RP.mostOfSet ++ (wTw K jN aN RN.laws RN.kind RN.need RN.saved RN.voice RN.partner RN.speaks RN.count RN.day RN.heard RN.geese RN.z ++ (wTw K jW aW RW.laws RW.kind RW.need RW.saved RW.voice RW.partner RW.speaks RW.count RW.day RW.heard RW.geese RW.z))) sz)) 0 0 (va_A (wPa K jP aP jN jW RP.sounds RP.mostOfSet ++ (wTw K jN aN RN.laws RN.kind RN.need RN.saved RN.voice RN.partner RN.speaks RN.count RN.day RN.heard RN.geese RN.z ++ (wTw K jW aW RW.laws RW.kind RW.need RW.saved RW.voice RW.partner RW.speaks RW.count RW.day RW.heard RW.geese RW.z))) sz) := by
  refine ht_enter (Qf := ht_Qv D K (wPa K jP aP jN jW RP.sounds RP.mostOfSet ++ (wTw K jN aN RN.laws RN.kind RN.need RN.saved RN.voice RN.partner RN.speaks RN.count RN.day RN.heard RN.geese RN.z ++ (wTw K jW aW o.1 o.2.1 o.2.2.1 o.2.2.2.1 o.2.2.2.2.1 o.2.2.2.2.2.1 o.2.2.2.2.2.2.1 o.2.2.2.2.2.2.2.1 o.2.2.2.2.2.2.2.2 RW.heard RW.geese RW.z)))) (cc := cX2_takeOnly) (maxL := 3) (rt := none) (by decide) rfl (Nat.le_of_ble_eq_true rfl) ?_ sz
  intro p e s m below meth c A Q H locs ls hQ hx hb hr hlk hmn hml hown hts hA hK hP hD hS hl
  have hown : s.vm.findClass RX2 = some m.cls := hown
  have hF : CallFix p m c cX2_takeOnly 3 s ([.ref jP, .int p0, .int p1] : List Value).toArray wsX2_takeOnly RX2 := ⟨hx, hb, hml, hown, hts⟩
  have hl : lv_has ls 3 [(0, .ref jP), (1, .int p0), (2, .int p1)] := hl
  have iw2 : ∀ w ∈ u_ws RX2 TX2 4, w ∈ wsX2_takeOnly := by decide +kernel
  have kw1 := hts (.fieldLink RX2 12 "HeldTongues$Pairings" "few" "LHeldTongues$Town;") (by decide +kernel)
  have kw2 := hts (.fieldLink RX2 25 "HeldTongues$Pairings" "now" "LHeldTongues$Town;") (by decide +kernel)
  have iw6 : ∀ w ∈ u_ws RX6 TX6 12, w ∈ wsX2_takeOnly := by decide +kernel
  have kw4 := hts (.fieldLink RX2 28 "HeldTongues$Town" "count" "I") (by decide +kernel)
  have kw5 := hts (.fieldLink RX2 55 "HeldTongues$Town" "kind" "[I") (by decide +kernel)
  have kw6 := hts (.fieldLink RX2 58 "HeldTongues$Town" "need" "[I") (by decide +kernel)
  have kw7 := hts (.fieldLink RX2 61 "HeldTongues$Town" "saved" "[I") (by decide +kernel)
  have kw8 := hts (.fieldLink RX2 64 "HeldTongues$Town" "voice" "[I") (by decide +kernel)
  delta fX2_takeOnly at hf
  refine lv_aload_n hx hb dX2_takeOnly_0 rfl (lv_at hl 0 rfl) ?_
  refine va_get (D := D) (ci := 2) (v := .ref jW) (C := RX2) (T := TX2) (N := 4) hx hb hts iw2 hown hK hP 0 rfl rfl 1 (by decide) kw1 (fun _ h9 => h9) rfl dX2_takeOnly_1 ?_
  refine lv_aload_n hx hb dX2_takeOnly_4 rfl (lv_at hl 0 rfl) ?_
  refine va_get (D := D) (ci := 2) (v := .ref jN) (C := RX2) (T := TX2) (N := 4) hx hb hts iw2 hown hK hP 0 rfl rfl 0 (by decide) kw2 (fun _ h9 => h9) rfl dX2_takeOnly_5 ?_
  obtain ⟨o_1, ho_1, hf⟩ := ht_bn_ob hf
  refine ht_callVv (rest := []) (As := [.ref jN]) (wc := (wTw K jW aW RW.laws RW.kind RW.need RW.saved RW.voice RW.partner RW.speaks RW.count RW.day RW.heard RW.geese RW.z ++ (wTw K jN aN RN.laws RN.kind RN.need RN.saved RN.voice RN.partner RN.speaks RN.count RN.day RN.heard RN.geese RN.z))) (wr := (wPa K jP aP jN jW RP.sounds RP.mostOfSet)) (w1 := (wTw K jW aW o_1.1 RW.kind RW.need RW.saved RW.voice RW.partner RW.speaks RW.count o_1.2 RW.heard RW.geese RW.z ++ (wTw K jN aN RN.laws RN.kind RN.need RN.saved RN.voice RN.partner RN.speaks RN.count RN.day RN.heard RN.geese RN.z))) (w2 := (wPa K jP aP jN jW RP.sounds RP.mostOfSet ++ (wTw K jN aN RN.laws RN.kind RN.need RN.saved RN.voice RN.partner RN.speaks RN.count RN.day RN.heard RN.geese RN.z ++ (wTw K jW aW o_1.1 RW.kind RW.need RW.saved RW.voice RW.partner RW.speaks RW.count o_1.2 RW.heard RW.geese RW.z)))) hF (ctX6_copyLawsAndDay l D K jW aW jN aN RW RN o_1 ho_1 H.size) (cwV 1 hts gX2_takeOnly_X6_copyLawsAndDay rfl rfl rfl hdX6_copyLawsAndDay ⟨Nat.le_of_ble_eq_true rfl, Nat.le_of_ble_eq_true rfl⟩) hK hP hD hS hA [11, 12, 13, 14, 15, 16, 17, 18, 3, 4, 5, 6, 7, 8, 9, 10] [0, 1, 2] rfl rfl (by decide) (by decide) (by decide) [0, 1, 2, 11, 12, 13, 14, 15, 16, 17, 18, 3, 4, 5, 6, 7, 8, 9, 10] rfl (by decide) (va_recv hK hP (ci := 6) (q0 := 11) rfl rfl) rfl hl.1 rfl (Nat.le_of_ble_eq_true rfl) dX2_takeOnly_8 ⟨Nat.zero_le _, Nat.zero_le _⟩ (fun H locs hP hD hS => ?_)
  refine lv_aload_n hx hb dX2_takeOnly_11 rfl (lv_at hl 0 rfl) ?_
  refine va_get (D := D) (ci := 2) (v := .ref jW) (C := RX2) (T := TX2) (N := 4) hx hb hts iw2 hown hK hP 0 rfl rfl 1 (by decide) kw1 (fun _ h9 => h9) rfl dX2_takeOnly_12 ?_
  refine lv_iconst (v := 0) hx hb dX2_takeOnly_15 (by decide) ?_
  refine ht_put (ci := 6) (v := .int (0 : Int32)) (ty := .int) (C := RX6) (T := TX6) (N := 12) (w2 := (wPa K jP aP jN jW RP.sounds RP.mostOfSet ++ (wTw K jN aN RN.laws RN.kind RN.need RN.saved RN.voice RN.partner RN.speaks RN.count RN.day RN.heard RN.geese RN.z ++ (wTw K jW aW o_1.1 RW.kind RW.need RW.saved RW.voice RW.partner RW.speaks (0 : Int32) o_1.2 RW.heard RW.geese RW.z)))) hx hb hts iw6 tyX6 tyX6_ok nmX6 hown hK hP hD hS 11 rfl rfl 7 (by decide) kw4 (fun _ h9 => h9) rfl (by decide +kernel) rfl rfl (Nat.le_of_ble_eq_true rfl) dX2_takeOnly_16 rfl (fun H locs hP hD hS => ?_)
  refine lv_aload_n hx hb dX2_takeOnly_19 rfl (lv_at hl 0 rfl) ?_
  refine va_get (D := D) (ci := 2) (v := .ref jW) (C := RX2) (T := TX2) (N := 4) hx hb hts iw2 hown hK hP 0 rfl rfl 1 (by decide) kw1 (fun _ h9 => h9) rfl dX2_takeOnly_20 ?_
  refine lv_aload_n hx hb dX2_takeOnly_23 rfl (lv_at hl 0 rfl) ?_
  refine va_get (D := D) (ci := 2) (v := .ref jN) (C := RX2) (T := TX2) (N := 4) hx hb hts iw2 hown hK hP 0 rfl rfl 0 (by decide) kw2 (fun _ h9 => h9) rfl dX2_takeOnly_24 ?_
  refine va_get (D := D) (ci := 6) (v := .ref (aN 1)) (C := RX6) (T := TX6) (N := 12) hx hb hts iw6 hown hK hP 3 rfl rfl 1 (by decide) kw5 (fun _ h9 => h9) rfl dX2_takeOnly_27 ?_
  refine lv_iload_n hx hb dX2_takeOnly_30 rfl (lv_at hl 1 rfl) ?_
  obtain ⟨g_2, hf⟩ := ht_gd_ob hf
  refine va_iald hx hb hK hP 5 1 rfl rfl (ht_ix_in g_2) dX2_takeOnly_31 ?_
  refine lv_aload_n hx hb dX2_takeOnly_32 rfl (lv_at hl 0 rfl) ?_
  refine va_get (D := D) (ci := 2) (v := .ref jN) (C := RX2) (T := TX2) (N := 4) hx hb hts iw2 hown hK hP 0 rfl rfl 0 (by decide) kw2 (fun _ h9 => h9) rfl dX2_takeOnly_33 ?_
  refine va_get (D := D) (ci := 6) (v := .ref (aN 2)) (C := RX6) (T := TX6) (N := 12) hx hb hts iw6 hown hK hP 3 rfl rfl 2 (by decide) kw6 (fun _ h9 => h9) rfl dX2_takeOnly_36 ?_
  refine lv_iload_n hx hb dX2_takeOnly_39 rfl (lv_at hl 1 rfl) ?_
  obtain ⟨g_3, hf⟩ := ht_gd_ob hf
  refine va_iald hx hb hK hP 6 1 rfl rfl (ht_ix_in g_3) dX2_takeOnly_40 ?_
  refine lv_aload_n hx hb dX2_takeOnly_41 rfl (lv_at hl 0 rfl) ?_
  refine va_get (D := D) (ci := 2) (v := .ref jN) (C := RX2) (T := TX2) (N := 4) hx hb hts iw2 hown hK hP 0 rfl rfl 0 (by decide) kw2 (fun _ h9 => h9) rfl dX2_takeOnly_42 ?_
  refine va_get (D := D) (ci := 6) (v := .ref (aN 3)) (C := RX6) (T := TX6) (N := 12) hx hb hts iw6 hown hK hP 3 rfl rfl 3 (by decide) kw7 (fun _ h9 => h9) rfl dX2_takeOnly_45 ?_
  refine lv_iload_n hx hb dX2_takeOnly_48 rfl (lv_at hl 1 rfl) ?_
  obtain ⟨g_4, hf⟩ := ht_gd_ob hf
  refine va_iald hx hb hK hP 7 1 rfl rfl (ht_ix_in g_4) dX2_takeOnly_49 ?_
  refine lv_aload_n hx hb dX2_takeOnly_50 rfl (lv_at hl 0 rfl) ?_
  refine va_get (D := D) (ci := 2) (v := .ref jN) (C := RX2) (T := TX2) (N := 4) hx hb hts iw2 hown hK hP 0 rfl rfl 0 (by decide) kw2 (fun _ h9 => h9) rfl dX2_takeOnly_51 ?_
  refine va_get (D := D) (ci := 6) (v := .ref (aN 4)) (C := RX6) (T := TX6) (N := 12) hx hb hts iw6 hown hK hP 3 rfl rfl 4 (by decide) kw8 (fun _ h9 => h9) rfl dX2_takeOnly_54 ?_
  refine lv_iload_n hx hb dX2_takeOnly_57 rfl (lv_at hl 1 rfl) ?_
  obtain ⟨g_5, hf⟩ := ht_gd_ob hf
  refine va_iald hx hb hK hP 8 1 rfl rfl (ht_ix_in g_5) dX2_takeOnly_58 ?_
  obtain ⟨o_6, ho_6, hf⟩ := ht_bn_ob hf
  refine ht_callVv (rest := []) (As := [.int (RN.kind p0.toNatClampNeg), .int (RN.need p0.toNatClampNeg), .int (RN.saved p0.toNatClampNeg), .int (RN.voice p0.toNatClampNeg)]) (wc := (wTw K jW aW o_1.1 RW.kind RW.need RW.saved RW.voice RW.partner RW.speaks (0 : Int32) o_1.2 RW.heard RW.geese RW.z)) (wr := (wPa K jP aP jN jW RP.sounds RP.mostOfSet ++ (wTw K jN aN RN.laws RN.kind RN.need RN.saved RN.voice RN.partner RN.speaks RN.count RN.day RN.heard RN.geese RN.z))) (w1 := (wTw K jW aW o_1.1 o_6.1 o_6.2.1 o_6.2.2.1 o_6.2.2.2.1 o_6.2.2.2.2.1 o_6.2.2.2.2.2.1 o_6.2.2.2.2.2.2 o_1.2 RW.heard RW.geese RW.z)) (w2 := (wPa K jP aP jN jW RP.sounds RP.mostOfSet ++ (wTw K jN aN RN.laws RN.kind RN.need RN.saved RN.voice RN.partner RN.speaks RN.count RN.day RN.heard RN.geese RN.z ++ (wTw K jW aW o_1.1 o_6.1 o_6.2.1 o_6.2.2.1 o_6.2.2.2.1 o_6.2.2.2.2.1 o_6.2.2.2.2.2.1 o_6.2.2.2.2.2.2 o_1.2 RW.heard RW.geese RW.z)))) hF (ctX6_add l D K jW aW (o_1.1, RW.kind, RW.need, RW.saved, RW.voice, RW.partner, RW.speaks, (0 : Int32), o_1.2, RW.heard, RW.geese, RW.z) (RN.kind p0.toNatClampNeg) (RN.need p0.toNatClampNeg) (RN.saved p0.toNatClampNeg) (RN.voice p0.toNatClampNeg) o_6 ho_6 H.size) (cwV 4 hts gX2_takeOnly_X6_add rfl rfl rfl hdX6_add ⟨Nat.le_of_ble_eq_true rfl, Nat.le_of_ble_eq_true rfl⟩) hK hP hD hS hA [11, 12, 13, 14, 15, 16, 17, 18] [0, 1, 2, 3, 4, 5, 6, 7, 8, 9, 10] rfl rfl (by decide) (by decide) (by decide) [0, 1, 2, 3, 4, 5, 6, 7, 8, 9, 10, 11, 12, 13, 14, 15, 16, 17, 18] rfl (by decide) (va_recv hK hP (ci := 6) (q0 := 11) rfl rfl) rfl hl.1 rfl (Nat.le_of_ble_eq_true rfl) dX2_takeOnly_59 ⟨Nat.zero_le _, Nat.zero_le _⟩ (fun H locs hP hD hS => ?_)
  refine lv_iload_n hx hb dX2_takeOnly_62 rfl (lv_at hl 1 rfl) ?_
  refine lv_iload_n hx hb dX2_takeOnly_63 rfl (lv_at hl 2 rfl) ?_
  refine lv_icmp_eq (tgt := 119) hx hb dX2_takeOnly_64 (by decide) (fun c_7 => ?_) (fun c_7 => ?_)
  · replace hf := ht_t c_7 hf
    have ho := Option.some.inj hf
    subst ho; subst hQ
    exact ht_vret hx hb hr hlk hK hP hD hS dX2_takeOnly_119
  · replace hf := ht_f c_7 hf
    refine lv_aload_n hx hb dX2_takeOnly_67 rfl (lv_at hl 0 rfl) ?_
    refine va_get (D := D) (ci := 2) (v := .ref jW) (C := RX2) (T := TX2) (N := 4) hx hb hts iw2 hown hK hP 0 rfl rfl 1 (by decide) kw1 (fun _ h9 => h9) rfl dX2_takeOnly_68 ?_
    refine lv_aload_n hx hb dX2_takeOnly_71 rfl (lv_at hl 0 rfl) ?_
    refine va_get (D := D) (ci := 2) (v := .ref jN) (C := RX2) (T := TX2) (N := 4) hx hb hts iw2 hown hK hP 0 rfl rfl 0 (by decide) kw2 (fun _ h9 => h9) rfl dX2_takeOnly_72 ?_
    refine va_get (D := D) (ci := 6) (v := .ref (aN 1)) (C := RX6) (T := TX6) (N := 12) hx hb hts iw6 hown hK hP 3 rfl rfl 1 (by decide) kw5 (fun _ h9 => h9) rfl dX2_takeOnly_75 ?_
    refine lv_iload_n hx hb dX2_takeOnly_78 rfl (lv_at hl 2 rfl) ?_
    obtain ⟨g_8, hf⟩ := ht_gd_ob hf
    refine va_iald hx hb hK hP 5 1 rfl rfl (ht_ix_in g_8) dX2_takeOnly_79 ?_
    refine lv_aload_n hx hb dX2_takeOnly_80 rfl (lv_at hl 0 rfl) ?_
    refine va_get (D := D) (ci := 2) (v := .ref jN) (C := RX2) (T := TX2) (N := 4) hx hb hts iw2 hown hK hP 0 rfl rfl 0 (by decide) kw2 (fun _ h9 => h9) rfl dX2_takeOnly_81 ?_
    refine va_get (D := D) (ci := 6) (v := .ref (aN 2)) (C := RX6) (T := TX6) (N := 12) hx hb hts iw6 hown hK hP 3 rfl rfl 2 (by decide) kw6 (fun _ h9 => h9) rfl dX2_takeOnly_84 ?_
    refine lv_iload_n hx hb dX2_takeOnly_87 rfl (lv_at hl 2 rfl) ?_
    obtain ⟨g_9, hf⟩ := ht_gd_ob hf
    refine va_iald hx hb hK hP 6 1 rfl rfl (ht_ix_in g_9) dX2_takeOnly_88 ?_
    refine lv_aload_n hx hb dX2_takeOnly_89 rfl (lv_at hl 0 rfl) ?_
    refine va_get (D := D) (ci := 2) (v := .ref jN) (C := RX2) (T := TX2) (N := 4) hx hb hts iw2 hown hK hP 0 rfl rfl 0 (by decide) kw2 (fun _ h9 => h9) rfl dX2_takeOnly_90 ?_
    refine va_get (D := D) (ci := 6) (v := .ref (aN 3)) (C := RX6) (T := TX6) (N := 12) hx hb hts iw6 hown hK hP 3 rfl rfl 3 (by decide) kw7 (fun _ h9 => h9) rfl dX2_takeOnly_93 ?_
    refine lv_iload_n hx hb dX2_takeOnly_96 rfl (lv_at hl 2 rfl) ?_
    obtain ⟨g_10, hf⟩ := ht_gd_ob hf
    refine va_iald hx hb hK hP 7 1 rfl rfl (ht_ix_in g_10) dX2_takeOnly_97 ?_
    refine lv_aload_n hx hb dX2_takeOnly_98 rfl (lv_at hl 0 rfl) ?_
    refine va_get (D := D) (ci := 2) (v := .ref jN) (C := RX2) (T := TX2) (N := 4) hx hb hts iw2 hown hK hP 0 rfl rfl 0 (by decide) kw2 (fun _ h9 => h9) rfl dX2_takeOnly_99 ?_
    refine va_get (D := D) (ci := 6) (v := .ref (aN 4)) (C := RX6) (T := TX6) (N := 12) hx hb hts iw6 hown hK hP 3 rfl rfl 4 (by decide) kw8 (fun _ h9 => h9) rfl dX2_takeOnly_102 ?_
    refine lv_iload_n hx hb dX2_takeOnly_105 rfl (lv_at hl 2 rfl) ?_
    obtain ⟨g_11, hf⟩ := ht_gd_ob hf
    refine va_iald hx hb hK hP 8 1 rfl rfl (ht_ix_in g_11) dX2_takeOnly_106 ?_
    obtain ⟨o_12, ho_12, hf⟩ := ht_bn_ob hf
    refine ht_callVv (rest := []) (As := [.int (RN.kind p1.toNatClampNeg), .int (RN.need p1.toNatClampNeg), .int (RN.saved p1.toNatClampNeg), .int (RN.voice p1.toNatClampNeg)]) (wc := (wTw K jW aW o_1.1 o_6.1 o_6.2.1 o_6.2.2.1 o_6.2.2.2.1 o_6.2.2.2.2.1 o_6.2.2.2.2.2.1 o_6.2.2.2.2.2.2 o_1.2 RW.heard RW.geese RW.z)) (wr := (wPa K jP aP jN jW RP.sounds RP.mostOfSet ++ (wTw K jN aN RN.laws RN.kind RN.need RN.saved RN.voice RN.partner RN.speaks RN.count RN.day RN.heard RN.geese RN.z))) (w1 := (wTw K jW aW o_1.1 o_12.1 o_12.2.1 o_12.2.2.1 o_12.2.2.2.1 o_12.2.2.2.2.1 o_12.2.2.2.2.2.1 o_12.2.2.2.2.2.2 o_1.2 RW.heard RW.geese RW.z)) (w2 := (wPa K jP aP jN jW RP.sounds RP.mostOfSet ++ (wTw K jN aN RN.laws RN.kind RN.need RN.saved RN.voice RN.partner RN.speaks RN.count RN.day RN.heard RN.geese RN.z ++ (wTw K jW aW o_1.1 o_12.1 o_12.2.1 o_12.2.2.1 o_12.2.2.2.1 o_12.2.2.2.2.1 o_12.2.2.2.2.2.1 o_12.2.2.2.2.2.2 o_1.2 RW.heard RW.geese RW.z)))) hF (ctX6_add l D K jW aW (o_1.1, o_6.1, o_6.2.1, o_6.2.2.1, o_6.2.2.2.1, o_6.2.2.2.2.1, o_6.2.2.2.2.2.1, o_6.2.2.2.2.2.2, o_1.2, RW.heard, RW.geese, RW.z) (RN.kind p1.toNatClampNeg) (RN.need p1.toNatClampNeg) (RN.saved p1.toNatClampNeg) (RN.voice p1.toNatClampNeg) o_12 ho_12 H.size) (cwV 4 hts gX2_takeOnly_X6_add rfl rfl rfl hdX6_add ⟨Nat.le_of_ble_eq_true rfl, Nat.le_of_ble_eq_true rfl⟩) hK hP hD hS hA [11, 12, 13, 14, 15, 16, 17, 18] [0, 1, 2, 3, 4, 5, 6, 7, 8, 9, 10] rfl rfl (by decide) (by decide) (by decide) [0, 1, 2, 3, 4, 5, 6, 7, 8, 9, 10, 11, 12, 13, 14, 15, 16, 17, 18] rfl (by decide) (va_recv hK hP (ci := 6) (q0 := 11) rfl rfl) rfl hl.1 rfl (Nat.le_of_ble_eq_true rfl) dX2_takeOnly_107 ⟨Nat.zero_le _, Nat.zero_le _⟩ (fun H locs hP hD hS => ?_)
    refine lv_aload_n hx hb dX2_takeOnly_110 rfl (lv_at hl 0 rfl) ?_
    refine va_get (D := D) (ci := 2) (v := .ref jW) (C := RX2) (T := TX2) (N := 4) hx hb hts iw2 hown hK hP 0 rfl rfl 1 (by decide) kw1 (fun _ h9 => h9) rfl dX2_takeOnly_111 ?_
    refine lv_iconst (v := 0) hx hb dX2_takeOnly_114 (by decide) ?_
    refine lv_iconst (v := 1) hx hb dX2_takeOnly_115 (by decide) ?_
    obtain ⟨o_13, ho_13, hf⟩ := ht_bn_ob hf
    refine ht_callVv (rest := []) (As := [.int (0 : Int32), .int (1 : Int32)]) (wc := (wTw K jW aW o_1.1 o_12.1 o_12.2.1 o_12.2.2.1 o_12.2.2.2.1 o_12.2.2.2.2.1 o_12.2.2.2.2.2.1 o_12.2.2.2.2.2.2 o_1.2 RW.heard RW.geese RW.z)) (wr := (wPa K jP aP jN jW RP.sounds RP.mostOfSet ++ (wTw K jN aN RN.laws RN.kind RN.need RN.saved RN.voice RN.partner RN.speaks RN.count RN.day RN.heard RN.geese RN.z))) (w1 := (wTw K jW aW o_1.1 o_12.1 o_12.2.1 o_12.2.2.1 o_12.2.2.2.1 o_13.1 o_13.2 o_12.2.2.2.2.2.2 o_1.2 RW.heard RW.geese RW.z)) (w2 := (wPa K jP aP jN jW RP.sounds RP.mostOfSet ++ (wTw K jN aN RN.laws RN.kind RN.need RN.saved RN.voice RN.partner RN.speaks RN.count RN.day RN.heard RN.geese RN.z ++ (wTw K jW aW o_1.1 o_12.1 o_12.2.1 o_12.2.2.1 o_12.2.2.2.1 o_13.1 o_13.2 o_12.2.2.2.2.2.2 o_1.2 RW.heard RW.geese RW.z)))) hF (ctX6_join l D K jW aW (o_1.1, o_12.1, o_12.2.1, o_12.2.2.1, o_12.2.2.2.1, o_12.2.2.2.2.1, o_12.2.2.2.2.2.1, o_12.2.2.2.2.2.2, o_1.2, RW.heard, RW.geese, RW.z) (0 : Int32) (1 : Int32) o_13 ho_13 H.size) (cwV 2 hts gX2_takeOnly_X6_join rfl rfl rfl hdX6_join ⟨Nat.le_of_ble_eq_true rfl, Nat.le_of_ble_eq_true rfl⟩) hK hP hD hS hA [11, 12, 13, 14, 15, 16, 17, 18] [0, 1, 2, 3, 4, 5, 6, 7, 8, 9, 10] rfl rfl (by decide) (by decide) (by decide) [0, 1, 2, 3, 4, 5, 6, 7, 8, 9, 10, 11, 12, 13, 14, 15, 16, 17, 18] rfl (by decide) (va_recv hK hP (ci := 6) (q0 := 11) rfl rfl) rfl hl.1 rfl (Nat.le_of_ble_eq_true rfl) dX2_takeOnly_116 ⟨Nat.zero_le _, Nat.zero_le _⟩ (fun H locs hP hD hS => ?_)
    have ho := Option.some.inj hf
    subst ho; subst hQ
    exact ht_vret hx hb hr hlk hK hP hD hS dX2_takeOnly_119
abbrev rmX2_everyone : Room := { frames := 0, cells := 0, slots := 0, locals := 0 }
theorem hdX2_everyone : yX2_everyone.cls = RX2 ∧ yX2_everyone.cls ≠ "java/lang/invoke/MethodHandle" ∧ yX2_everyone.cls ≠ "java/lang/invoke/VarHandle" ∧ (parseMethodDescriptor yX2_everyone.desc).map (fun d => d.parameters.length) = some 0 := by decide +kernel
def fX2_everyone (RP : PairV) (RN : TownV) : Option Int32 := some (((1 : Int32) <<< (RN.count &&& 31)) - (1 : Int32))
set_option maxHeartbeats 1000000 in
set_option maxRecDepth 100000 in
theorem ctX2_everyone (l : Launch) (D : va_G) (K : Nat → ClassId) (jP : Nat) (aP : Nat → Nat) (jN : Nat) (aN : Nat → Nat) (kP_few : Nat) (RP : PairV) (RN : TownV) (o : Int32) (hf : fX2_everyone RP RN = some o) (sz : Nat) : Met l yX2_everyone wsX2_everyone rmX2_everyone (ht_Pre D K [.ref jP] (wPa K jP aP jN kP_few RP.sounds RP.mostOfSet ++ (wTw K jN aN RN.laws RN.kind RN.need RN.saved RN.voice RN.partner RN.speaks RN.count RN.day RN.heard RN.geese RN.z)) sz) (ht_Qi D K (wPa K jP aP jN kP_few RP.sounds RP.mostOfSet ++ (wTw K jN aN RN.laws RN.kind RN.need RN.saved RN.voice RN.partner RN.speaks RN.count RN.day RN.heard RN.geese RN.z)) o (va_A (wPa K jP aP jN kP_few RP.sounds RP.mostOfSet ++ (wTw K jN aN RN.laws RN.kind RN.need RN.saved RN.voice RN.partner RN.speaks RN.count RN.day RN.heard RN.geese RN.z)) sz)) 0 0 (va_A (wPa K jP aP jN kP_few RP.sounds RP.mostOfSet ++ (wTw K jN aN RN.laws RN.kind RN.need RN.saved RN.voice RN.partner RN.speaks RN.count RN.day RN.heard RN.geese RN.z)) sz) := by
  refine ht_enter (Qf := ht_Qi D K (wPa K jP aP jN kP_few RP.sounds RP.mostOfSet ++ (wTw K jN aN RN.laws RN.kind RN.need RN.saved RN.voice RN.partner RN.speaks RN.count RN.day RN.heard RN.geese RN.z)) o) (cc := cX2_everyone) (maxL := 1) (rt := (some .int)) (by decide) rfl (Nat.le_of_ble_eq_true rfl) ?_ sz
  intro p e s m below meth c A Q H locs ls hQ hx hb hr hlk hmn hml hown hts hA hK hP hD hS hl
  have hown : s.vm.findClass RX2 = some m.cls := hown
  have hF : CallFix p m c cX2_everyone 1 s ([.ref jP] : List Value).toArray wsX2_everyone RX2 := ⟨hx, hb, hml, hown, hts⟩
  have hl : lv_has ls 1 [(0, .ref jP)] := hl
  have iw2 : ∀ w ∈ u_ws RX2 TX2 4, w ∈ wsX2_everyone := by decide +kernel
  have kw1 := hts (.fieldLink RX2 25 "HeldTongues$Pairings" "now" "LHeldTongues$Town;") (by decide +kernel)
  have iw6 : ∀ w ∈ u_ws RX6 TX6 12, w ∈ wsX2_everyone := by decide +kernel
  have kw3 := hts (.fieldLink RX2 28 "HeldTongues$Town" "count" "I") (by decide +kernel)
  delta fX2_everyone at hf
  refine lv_iconst (v := 1) hx hb dX2_everyone_0 (by decide) ?_
  refine lv_aload_n hx hb dX2_everyone_1 rfl (lv_at hl 0 rfl) ?_
  refine va_get (D := D) (ci := 2) (v := .ref jN) (C := RX2) (T := TX2) (N := 4) hx hb hts iw2 hown hK hP 0 rfl rfl 0 (by decide) kw1 (fun _ h9 => h9) rfl dX2_everyone_2 ?_
  refine va_get (D := D) (ci := 6) (v := .int RN.count) (C := RX6) (T := TX6) (N := 12) hx hb hts iw6 hown hK hP 3 rfl rfl 7 (by decide) kw3 (fun _ h9 => h9) rfl dX2_everyone_5 ?_
  refine lv_ishl hx hb dX2_everyone_8 ?_
  refine lv_iconst (v := 1) hx hb dX2_everyone_9 (by decide) ?_
  refine lv_isub hx hb dX2_everyone_10 ?_
  have ho := Option.some.inj hf
  subst ho; subst hQ
  exact ht_iret hx hb hr hlk rfl hK hP hD hS dX2_everyone_11
abbrev rmX2_firstOf : Room := { frames := 0, cells := 0, slots := 0, locals := 0 }
theorem hdX2_firstOf : yX2_firstOf.cls = RX2 ∧ yX2_firstOf.cls ≠ "java/lang/invoke/MethodHandle" ∧ yX2_firstOf.cls ≠ "java/lang/invoke/VarHandle" ∧ (parseMethodDescriptor yX2_firstOf.desc).map (fun d => d.parameters.length) = some 1 := by decide +kernel
def fX2_firstOf_b2 (RP : PairV) (k2 : Int32 → Int32 → Option Int32) (x1 : Int32) (x2 : Int32) : Option Int32 := if (8 : Int32) ≤ x2 then (some (0 : Int32)) else (if ((x1 >>> (x2 &&& 31)) &&& (1 : Int32)) = (1 : Int32) then (some x2) else (ht_nm (x2 + (1 : Int32)) (fun x2_3 => k2 x1 x2_3)))
def fX2_firstOf (RP : PairV) (p0 : Int32) : Option Int32 := ht_lp2 (fX2_firstOf_b2 RP) FU p0 (0 : Int32)
set_option maxHeartbeats 1000000 in
set_option maxRecDepth 100000 in
theorem ctX2_firstOf (l : Launch) (D : va_G) (K : Nat → ClassId) (jP : Nat) (aP : Nat → Nat) (kP_now : Nat) (kP_few : Nat) (RP : PairV) (p0 : Int32) (o : Int32) (hf : fX2_firstOf RP p0 = some o) (sz : Nat) : Met l yX2_firstOf wsX2_firstOf rmX2_firstOf (ht_Pre D K [.ref jP, .int p0] (wPa K jP aP kP_now kP_few RP.sounds RP.mostOfSet) sz) (ht_Qi D K (wPa K jP aP kP_now kP_few RP.sounds RP.mostOfSet) o (va_A (wPa K jP aP kP_now kP_few RP.sounds RP.mostOfSet) sz)) 0 0 (va_A (wPa K jP aP kP_now kP_few RP.sounds RP.mostOfSet) sz) := by
  refine ht_enter (Qf := ht_Qi D K (wPa K jP aP kP_now kP_few RP.sounds RP.mostOfSet) o) (cc := cX2_firstOf) (maxL := 3) (rt := (some .int)) (by decide) rfl (Nat.le_of_ble_eq_true rfl) ?_ sz
  intro p e s m below meth c A Q H locs ls hQ hx hb hr hlk hmn hml hown hts hA hK hP hD hS hl
  have hown : s.vm.findClass RX2 = some m.cls := hown
  have hF : CallFix p m c cX2_firstOf 3 s ([.ref jP, .int p0] : List Value).toArray wsX2_firstOf RX2 := ⟨hx, hb, hml, hown, hts⟩
  have hl : lv_has ls 3 [(0, .ref jP), (1, .int p0)] := hl
  have b2 : ∀ (n : Nat) (x1 : Int32) (x2 : Int32) (H : Heap) (locs : List Loc) (ls : Array Slot), ht_lp2 (fX2_firstOf_b2 RP) n x1 x2 = some o → va_P D vwCl (wPa K jP aP kP_now kP_few RP.sounds RP.mostOfSet) H → va_D A (wPa K jP aP kP_now kP_few RP.sounds RP.mostOfSet) → va_S A s.heap H locs → lv_has ls 3 [(1, .int x1), (2, .int x2)] → W p l e (headSpec wsX2_firstOf rmX2_firstOf).room s m ([.ref jP, .int p0] : List Value).toArray below meth c H locs 0 0 Q (F0 m 2 ls []) := by
    intro n
    induction n with
    | zero =>
      intro x1 x2 H locs ls hf hP hD hS hl
      cases (show (none : Option Int32) = some o from hf)
    | succ n hk2 =>
      intro x1 x2 H locs ls hf hP hD hS hl
      replace hf : fX2_firstOf_b2 RP (ht_lp2 (fX2_firstOf_b2 RP) n) x1 x2 = some o := hf
      delta fX2_firstOf_b2 at hf
      refine lv_iload_n hx hb dX2_firstOf_2 rfl (lv_at hl 1 rfl) ?_
      refine lv_bipush (v := 8) hx hb dX2_firstOf_3 (by decide) ?_
      refine lv_icmp_ge (tgt := 25) hx hb dX2_firstOf_5 (by decide) (fun c_1 => ?_) (fun c_1 => ?_)
      · replace hf := ht_t c_1 hf
        refine lv_iconst (v := 0) hx hb dX2_firstOf_25 (by decide) ?_
        have ho := Option.some.inj hf
        subst ho; subst hQ
        exact ht_iret hx hb hr hlk rfl hK hP hD hS dX2_firstOf_26
      · replace hf := ht_f c_1 hf
        refine lv_iload_n hx hb dX2_firstOf_8 rfl (lv_at hl 0 rfl) ?_
        refine lv_iload_n hx hb dX2_firstOf_9 rfl (lv_at hl 1 rfl) ?_
        refine lv_ishr hx hb dX2_firstOf_10 ?_
        refine lv_iconst (v := 1) hx hb dX2_firstOf_11 (by decide) ?_
        refine lv_iand hx hb dX2_firstOf_12 ?_
        refine lv_iconst (v := 1) hx hb dX2_firstOf_13 (by decide) ?_
        refine lv_icmp_ne (tgt := 19) hx hb dX2_firstOf_14 (by decide) (fun c_2 => ?_) (fun c_2 => ?_)
        · replace hf := ht_f c_2 hf
          obtain ⟨x2_3, ex2_3, hf⟩ := ht_nm_ob hf
          refine lv_iinc (v := x2_3) (lv' := [(2, .int x2_3), (1, .int x1)]) hx hb dX2_firstOf_19 hl (k := 1) rfl (by rw [ex2_3]; rfl) (by decide) rfl (fun ls hl => ?_)
          refine lv_goto (tgt := 2) hx hb dX2_firstOf_22 (by decide) ?_
          exact hk2 x1 x2_3 _ _ _ hf hP hD hS (lv_sub hl [1, 0] rfl)
        · replace hf := ht_t c_2 hf
          refine lv_iload_n hx hb dX2_firstOf_17 rfl (lv_at hl 1 rfl) ?_
          have ho := Option.some.inj hf
          subst ho; subst hQ
          exact ht_iret hx hb hr hlk rfl hK hP hD hS dX2_firstOf_18
  delta fX2_firstOf at hf
  refine lv_iconst (v := 0) hx hb dX2_firstOf_0 (by decide) ?_
  refine lv_istore_n (lv' := [(2, .int (0 : Int32)), (0, .ref jP), (1, .int p0)]) hx hb dX2_firstOf_1 rfl hl (by decide) rfl (fun ls hl => ?_)
  exact b2  FU p0 (0 : Int32) _ _ _ hf hP hD hS (lv_sub hl [2, 0] rfl)
abbrev rmX2_without : Room := { frames := 0, cells := 0, slots := 0, locals := 0 }
theorem hdX2_without : yX2_without.cls = RX2 ∧ yX2_without.cls ≠ "java/lang/invoke/MethodHandle" ∧ yX2_without.cls ≠ "java/lang/invoke/VarHandle" ∧ (parseMethodDescriptor yX2_without.desc).map (fun d => d.parameters.length) = some 3 := by decide +kernel
def fX2_without (RP : PairV) (p0 : Int32) (p1 : Int32) (p2 : Int32) : Option Int32 := some (p2 &&& ((((1 : Int32) <<< (p0 &&& 31)) ||| ((1 : Int32) <<< (p1 &&& 31))) ^^^ (-1 : Int32)))
set_option maxHeartbeats 1000000 in
set_option maxRecDepth 100000 in
theorem ctX2_without (l : Launch) (D : va_G) (K : Nat → ClassId) (jP : Nat) (aP : Nat → Nat) (kP_now : Nat) (kP_few : Nat) (RP : PairV) (p0 : Int32) (p1 : Int32) (p2 : Int32) (o : Int32) (hf : fX2_without RP p0 p1 p2 = some o) (sz : Nat) : Met l yX2_without wsX2_without rmX2_without (ht_Pre D K [.ref jP, .int p0, .int p1, .int p2] (wPa K jP aP kP_now kP_few RP.sounds RP.mostOfSet) sz) (ht_Qi D K (wPa K jP aP kP_now kP_few RP.sounds RP.mostOfSet) o (va_A (wPa K jP aP kP_now kP_few RP.sounds RP.mostOfSet) sz)) 0 0 (va_A (wPa K jP aP kP_now kP_few RP.sounds RP.mostOfSet) sz) := by
  refine ht_enter (Qf := ht_Qi D K (wPa K jP aP kP_now kP_few RP.sounds RP.mostOfSet) o) (cc := cX2_without) (maxL := 4) (rt := (some .int)) (by decide) rfl (Nat.le_of_ble_eq_true rfl) ?_ sz
  intro p e s m below meth c A Q H locs ls hQ hx hb hr hlk hmn hml hown hts hA hK hP hD hS hl
  have hown : s.vm.findClass RX2 = some m.cls := hown
  have hF : CallFix p m c cX2_without 4 s ([.ref jP, .int p0, .int p1, .int p2] : List Value).toArray wsX2_without RX2 := ⟨hx, hb, hml, hown, hts⟩
  have hl : lv_has ls 4 [(0, .ref jP), (1, .int p0), (2, .int p1), (3, .int p2)] := hl
  delta fX2_without at hf
  refine lv_iload_n hx hb dX2_without_0 rfl (lv_at hl 3 rfl) ?_
  refine lv_iconst (v := 1) hx hb dX2_without_1 (by decide) ?_
  refine lv_iload_n hx hb dX2_without_2 rfl (lv_at hl 1 rfl) ?_
  refine lv_ishl hx hb dX2_without_3 ?_
  refine lv_iconst (v := 1) hx hb dX2_without_4 (by decide) ?_
  refine lv_iload_n hx hb dX2_without_5 rfl (lv_at hl 2 rfl) ?_
  refine lv_ishl hx hb dX2_without_6 ?_
  refine lv_ior hx hb dX2_without_7 ?_
  refine lv_iconst (v := -1) hx hb dX2_without_8 (by decide) ?_
  refine lv_ixor hx hb dX2_without_9 ?_
  refine lv_iand hx hb dX2_without_10 ?_
  have ho := Option.some.inj hf
  subst ho; subst hQ
  exact ht_iret hx hb hr hlk rfl hK hP hD hS dX2_without_11
abbrev rmX2_soundIf : Room := { frames := 1, cells := 0, slots := 0, locals := 23 }
theorem hdX2_soundIf : yX2_soundIf.cls = RX2 ∧ yX2_soundIf.cls ≠ "java/lang/invoke/MethodHandle" ∧ yX2_soundIf.cls ≠ "java/lang/invoke/VarHandle" ∧ (parseMethodDescriptor yX2_soundIf.desc).map (fun d => d.parameters.length) = some 3 := by decide +kernel
def fX2_soundIf (RP : PairV) (p0 : Int32) (p1 : Int32) (p2 : Int32) : Option Int32 := ht_gd (ht_ix ((p0 * (8 : Int32)) + p1) 64) (ht_bn (fX2_without RP p0 p1 p2) (fun o_2 => ht_gd (ht_ix o_2 256) (some ((RP.sounds ((p0 * (8 : Int32)) + p1).toNatClampNeg) + (RP.mostOfSet o_2.toNatClampNeg)))))
set_option maxHeartbeats 1000000 in
set_option maxRecDepth 100000 in
theorem ctX2_soundIf (l : Launch) (D : va_G) (K : Nat → ClassId) (jP : Nat) (aP : Nat → Nat) (kP_now : Nat) (kP_few : Nat) (RP : PairV) (p0 : Int32) (p1 : Int32) (p2 : Int32) (o : Int32) (hf : fX2_soundIf RP p0 p1 p2 = some o) (sz : Nat) : Met l yX2_soundIf wsX2_soundIf rmX2_soundIf (ht_Pre D K [.ref jP, .int p0, .int p1, .int p2] (wPa K jP aP kP_now kP_few RP.sounds RP.mostOfSet) sz) (ht_Qi D K (wPa K jP aP kP_now kP_few RP.sounds RP.mostOfSet) o (va_A (wPa K jP aP kP_now kP_few RP.sounds RP.mostOfSet) sz)) 0 0 (va_A (wPa K jP aP kP_now kP_few RP.sounds RP.mostOfSet) sz) := by
  refine ht_enter (Qf := ht_Qi D K (wPa K jP aP kP_now kP_few RP.sounds RP.mostOfSet) o) (cc := cX2_soundIf) (maxL := 4) (rt := (some .int)) (by decide) rfl (Nat.le_of_ble_eq_true rfl) ?_ sz
  intro p e s m below meth c A Q H locs ls hQ hx hb hr hlk hmn hml hown hts hA hK hP hD hS hl
  have hown : s.vm.findClass RX2 = some m.cls := hown
  have hF : CallFix p m c cX2_soundIf 4 s ([.ref jP, .int p0, .int p1, .int p2] : List Value).toArray wsX2_soundIf RX2 := ⟨hx, hb, hml, hown, hts⟩
  have hl : lv_has ls 4 [(0, .ref jP), (1, .int p0), (2, .int p1), (3, .int p2)] := hl
  have iw2 : ∀ w ∈ u_ws RX2 TX2 4, w ∈ wsX2_soundIf := by decide +kernel
  have kw1 := hts (.fieldLink RX2 18 "HeldTongues$Pairings" "sounds" "[I") (by decide +kernel)
  have kw2 := hts (.fieldLink RX2 22 "HeldTongues$Pairings" "mostOfSet" "[I") (by decide +kernel)
  delta fX2_soundIf at hf
  refine lv_aload_n hx hb dX2_soundIf_0 rfl (lv_at hl 0 rfl) ?_
  refine va_get (D := D) (ci := 2) (v := .ref (aP 0)) (C := RX2) (T := TX2) (N := 4) hx hb hts iw2 hown hK hP 0 rfl rfl 2 (by decide) kw1 (fun _ h9 => h9) rfl dX2_soundIf_1 ?_
  refine lv_iload_n hx hb dX2_soundIf_4 rfl (lv_at hl 1 rfl) ?_
  refine lv_bipush (v := 8) hx hb dX2_soundIf_5 (by decide) ?_
  refine lv_imul hx hb dX2_soundIf_7 ?_
  refine lv_iload_n hx hb dX2_soundIf_8 rfl (lv_at hl 2 rfl) ?_
  refine lv_iadd hx hb dX2_soundIf_9 ?_
  obtain ⟨g_1, hf⟩ := ht_gd_ob hf
  refine va_iald hx hb hK hP 1 1 rfl rfl (ht_ix_in g_1) dX2_soundIf_10 ?_
  refine lv_aload_n hx hb dX2_soundIf_11 rfl (lv_at hl 0 rfl) ?_
  refine va_get (D := D) (ci := 2) (v := .ref (aP 1)) (C := RX2) (T := TX2) (N := 4) hx hb hts iw2 hown hK hP 0 rfl rfl 3 (by decide) kw2 (fun _ h9 => h9) rfl dX2_soundIf_12 ?_
  refine lv_aload_n hx hb dX2_soundIf_15 rfl (lv_at hl 0 rfl) ?_
  refine lv_iload_n hx hb dX2_soundIf_16 rfl (lv_at hl 1 rfl) ?_
  refine lv_iload_n hx hb dX2_soundIf_17 rfl (lv_at hl 2 rfl) ?_
  refine lv_iload_n hx hb dX2_soundIf_18 rfl (lv_at hl 3 rfl) ?_
  obtain ⟨o_2, ho_2, hf⟩ := ht_bn_ob hf
  refine ht_callVi (r := o_2) (rest := [.ref (aP 1), .int (RP.sounds ((p0 * (8 : Int32)) + p1).toNatClampNeg)]) (As := [.int p0, .int p1, .int p2]) (wc := (wPa K jP aP kP_now kP_few RP.sounds RP.mostOfSet)) (wr := []) (w1 := (wPa K jP aP kP_now kP_few RP.sounds RP.mostOfSet)) (w2 := (wPa K jP aP kP_now kP_few RP.sounds RP.mostOfSet)) hF (ctX2_without l D K jP aP kP_now kP_few RP p0 p1 p2 o_2 ho_2 H.size) (cwV 3 hts gX2_soundIf_X2_without rfl rfl rfl hdX2_without ⟨Nat.le_of_ble_eq_true rfl, Nat.le_of_ble_eq_true rfl⟩) hK hP hD hS hA [0, 1, 2] [] rfl rfl (by decide) (by decide) (by decide) [0, 1, 2] rfl (by decide) (va_recv hK hP (ci := 2) (q0 := 0) rfl rfl) rfl hl.1 rfl (Nat.le_of_ble_eq_true rfl) dX2_soundIf_19 ⟨Nat.zero_le _, Nat.zero_le _⟩ (fun H locs hP hD hS => ?_)
  obtain ⟨g_3, hf⟩ := ht_gd_ob hf
  refine va_iald hx hb hK hP 2 1 rfl rfl (ht_ix_in g_3) dX2_soundIf_22 ?_
  refine lv_iadd hx hb dX2_soundIf_23 ?_
  have ho := Option.some.inj hf
  subst ho; subst hQ
  exact ht_iret hx hb hr hlk rfl hK hP hD hS dX2_soundIf_24
abbrev rmX2_mostWith : Room := { frames := 2, cells := 0, slots := 0, locals := 46 }
theorem hdX2_mostWith : yX2_mostWith.cls = RX2 ∧ yX2_mostWith.cls ≠ "java/lang/invoke/MethodHandle" ∧ yX2_mostWith.cls ≠ "java/lang/invoke/VarHandle" ∧ (parseMethodDescriptor yX2_mostWith.desc).map (fun d => d.parameters.length) = some 2 := by decide +kernel
def fX2_mostWith_b40 (RP : PairV) (RN : TownV) (k5 : Int32 → Int32 → Int32 → Int32 → Option Int32) (x1 : Int32) (x2 : Int32) (x3 : Int32) (x4 : Int32) : Option Int32 := ht_nm (x4 + (1 : Int32)) (fun x4_1 => k5 x1 x2 x3 x4_1)
def fX2_mostWith_b5 (RP : PairV) (RN : TownV) (k5 : Int32 → Int32 → Int32 → Int32 → Option Int32) (x1 : Int32) (x2 : Int32) (x3 : Int32) (x4 : Int32) : Option Int32 := if RN.count ≤ x4 then (some x3) else (if ((x2 >>> (x4 &&& 31)) &&& (1 : Int32)) = (1 : Int32) then (ht_bn (fX2_soundIf RP x1 x4 x2) (fun o_4 => ht_nm (if x3 < o_4 then o_4 else x3) (fun x3_5 => fX2_mostWith_b40 RP RN k5 x1 x2 x3_5 x4))) else (fX2_mostWith_b40 RP RN k5 x1 x2 x3 x4))
def fX2_mostWith (RP : PairV) (RN : TownV) (p0 : Int32) (p1 : Int32) : Option Int32 := ht_lp4 (fX2_mostWith_b5 RP RN) FU p0 p1 (0 : Int32) p0
set_option maxHeartbeats 1000000 in
set_option maxRecDepth 100000 in
theorem ctX2_mostWith (l : Launch) (D : va_G) (K : Nat → ClassId) (jP : Nat) (aP : Nat → Nat) (jN : Nat) (aN : Nat → Nat) (kP_few : Nat) (RP : PairV) (RN : TownV) (p0 : Int32) (p1 : Int32) (o : Int32) (hf : fX2_mostWith RP RN p0 p1 = some o) (sz : Nat) : Met l yX2_mostWith wsX2_mostWith rmX2_mostWith (ht_Pre D K [.ref jP, .int p0, .int p1] (wPa K jP aP jN kP_few RP.sounds RP.mostOfSet ++ (wTw K jN aN RN.laws RN.kind RN.need RN.saved RN.voice RN.partner RN.speaks RN.count RN.day RN.heard RN.geese RN.z)) sz) (ht_Qi D K (wPa K jP aP jN kP_few RP.sounds RP.mostOfSet ++ (wTw K jN aN RN.laws RN.kind RN.need RN.saved RN.voice RN.partner RN.speaks RN.count RN.day RN.heard RN.geese RN.z)) o (va_A (wPa K jP aP jN kP_few RP.sounds RP.mostOfSet ++ (wTw K jN aN RN.laws RN.kind RN.need RN.saved RN.voice RN.partner RN.speaks RN.count RN.day RN.heard RN.geese RN.z)) sz)) 0 0 (va_A (wPa K jP aP jN kP_few RP.sounds RP.mostOfSet ++ (wTw K jN aN RN.laws RN.kind RN.need RN.saved RN.voice RN.partner RN.speaks RN.count RN.day RN.heard RN.geese RN.z)) sz) := by
  refine ht_enter (Qf := ht_Qi D K (wPa K jP aP jN kP_few RP.sounds RP.mostOfSet ++ (wTw K jN aN RN.laws RN.kind RN.need RN.saved RN.voice RN.partner RN.speaks RN.count RN.day RN.heard RN.geese RN.z)) o) (cc := cX2_mostWith) (maxL := 5) (rt := (some .int)) (by decide) rfl (Nat.le_of_ble_eq_true rfl) ?_ sz
  intro p e s m below meth c A Q H locs ls hQ hx hb hr hlk hmn hml hown hts hA hK hP hD hS hl
  have hown : s.vm.findClass RX2 = some m.cls := hown
  have hF : CallFix p m c cX2_mostWith 5 s ([.ref jP, .int p0, .int p1] : List Value).toArray wsX2_mostWith RX2 := ⟨hx, hb, hml, hown, hts⟩
  have hl : lv_has ls 5 [(0, .ref jP), (1, .int p0), (2, .int p1)] := hl
  have iw2 : ∀ w ∈ u_ws RX2 TX2 4, w ∈ wsX2_mostWith := by decide +kernel
  have kw1 := hts (.fieldLink RX2 25 "HeldTongues$Pairings" "now" "LHeldTongues$Town;") (by decide +kernel)
  have iw6 : ∀ w ∈ u_ws RX6 TX6 12, w ∈ wsX2_mostWith := by decide +kernel
  have kw3 := hts (.fieldLink RX2 28 "HeldTongues$Town" "count" "I") (by decide +kernel)
  have kw4 := hts (.methodLink RX2 78 Lib.Math.max.name) (by decide +kernel)
  have kw5 := hts (.static Lib.Math.max.name) (by decide +kernel)
  have kw6 := hts (.initialized "java/lang/Math") (by decide +kernel)
  have kw7 := hts (.code Lib.Math.max.name Lib.Math.max.code 2 (some .int)) (by decide +kernel)
  have b40 : ∀ (k5 : Int32 → Int32 → Int32 → Int32 → Option Int32) (hk5 : ∀ (x1 : Int32) (x2 : Int32) (x3 : Int32) (x4 : Int32) (H : Heap) (locs : List Loc) (ls : Array Slot), k5 x1 x2 x3 x4 = some o → va_P D vwCl (wPa K jP aP jN kP_few RP.sounds RP.mostOfSet ++ (wTw K jN aN RN.laws RN.kind RN.need RN.saved RN.voice RN.partner RN.speaks RN.count RN.day RN.heard RN.geese RN.z)) H → va_D A (wPa K jP aP jN kP_few RP.sounds RP.mostOfSet ++ (wTw K jN aN RN.laws RN.kind RN.need RN.saved RN.voice RN.partner RN.speaks RN.count RN.day RN.heard RN.geese RN.z)) → va_S A s.heap H locs → lv_has ls 5 [(0, .ref jP), (1, .int x1), (2, .int x2), (3, .int x3), (4, .int x4)] → W p l e (headSpec wsX2_mostWith rmX2_mostWith).room s m ([.ref jP, .int p0, .int p1] : List Value).toArray below meth c H locs 0 0 Q (F0 m 5 ls [])) (x1 : Int32) (x2 : Int32) (x3 : Int32) (x4 : Int32) (H : Heap) (locs : List Loc) (ls : Array Slot), fX2_mostWith_b40 RP RN k5 x1 x2 x3 x4 = some o → va_P D vwCl (wPa K jP aP jN kP_few RP.sounds RP.mostOfSet ++ (wTw K jN aN RN.laws RN.kind RN.need RN.saved RN.voice RN.partner RN.speaks RN.count RN.day RN.heard RN.geese RN.z)) H → va_D A (wPa K jP aP jN kP_few RP.sounds RP.mostOfSet ++ (wTw K jN aN RN.laws RN.kind RN.need RN.saved RN.voice RN.partner RN.speaks RN.count RN.day RN.heard RN.geese RN.z)) → va_S A s.heap H locs → lv_has ls 5 [(0, .ref jP), (1, .int x1), (2, .int x2), (3, .int x3), (4, .int x4)] → W p l e (headSpec wsX2_mostWith rmX2_mostWith).room s m ([.ref jP, .int p0, .int p1] : List Value).toArray below meth c H locs 0 0 Q (F0 m 40 ls []) := by
    intro k5 hk5 x1 x2 x3 x4 H locs ls hf hP hD hS hl
    delta fX2_mostWith_b40 at hf
    obtain ⟨x4_1, ex4_1, hf⟩ := ht_nm_ob hf
    refine lv_iinc (v := x4_1) (lv' := [(4, .int x4_1), (0, .ref jP), (1, .int x1), (2, .int x2), (3, .int x3)]) hx hb dX2_mostWith_40 hl (k := 4) rfl (by rw [ex4_1]; rfl) (by decide) rfl (fun ls hl => ?_)
    refine lv_goto (tgt := 5) hx hb dX2_mostWith_43 (by decide) ?_
    exact hk5 x1 x2 x3 x4_1 _ _ _ hf hP hD hS (lv_sub hl [1, 2, 3, 4, 0] rfl)
  have b5 : ∀ (n : Nat) (x1 : Int32) (x2 : Int32) (x3 : Int32) (x4 : Int32) (H : Heap) (locs : List Loc) (ls : Array Slot), ht_lp4 (fX2_mostWith_b5 RP RN) n x1 x2 x3 x4 = some o → va_P D vwCl (wPa K jP aP jN kP_few RP.sounds RP.mostOfSet ++ (wTw K jN aN RN.laws RN.kind RN.need RN.saved RN.voice RN.partner RN.speaks RN.count RN.day RN.heard RN.geese RN.z)) H → va_D A (wPa K jP aP jN kP_few RP.sounds RP.mostOfSet ++ (wTw K jN aN RN.laws RN.kind RN.need RN.saved RN.voice RN.partner RN.speaks RN.count RN.day RN.heard RN.geese RN.z)) → va_S A s.heap H locs → lv_has ls 5 [(0, .ref jP), (1, .int x1), (2, .int x2), (3, .int x3), (4, .int x4)] → W p l e (headSpec wsX2_mostWith rmX2_mostWith).room s m ([.ref jP, .int p0, .int p1] : List Value).toArray below meth c H locs 0 0 Q (F0 m 5 ls []) := by
    intro n
    induction n with
    | zero =>
      intro x1 x2 x3 x4 H locs ls hf hP hD hS hl
      cases (show (none : Option Int32) = some o from hf)
    | succ n hk5 =>
      intro x1 x2 x3 x4 H locs ls hf hP hD hS hl
      replace hf : fX2_mostWith_b5 RP RN (ht_lp4 (fX2_mostWith_b5 RP RN) n) x1 x2 x3 x4 = some o := hf
      delta fX2_mostWith_b5 at hf
      refine lv_iload hx hb dX2_mostWith_5 (lv_at hl 4 rfl) ?_
      refine lv_aload_n hx hb dX2_mostWith_7 rfl (lv_at hl 0 rfl) ?_
      refine va_get (D := D) (ci := 2) (v := .ref jN) (C := RX2) (T := TX2) (N := 4) hx hb hts iw2 hown hK hP 0 rfl rfl 0 (by decide) kw1 (fun _ h9 => h9) rfl dX2_mostWith_8 ?_
      refine va_get (D := D) (ci := 6) (v := .int RN.count) (C := RX6) (T := TX6) (N := 12) hx hb hts iw6 hown hK hP 3 rfl rfl 7 (by decide) kw3 (fun _ h9 => h9) rfl dX2_mostWith_11 ?_
      refine lv_icmp_ge (tgt := 46) hx hb dX2_mostWith_14 (by decide) (fun c_2 => ?_) (fun c_2 => ?_)
      · replace hf := ht_t c_2 hf
        refine lv_iload_n hx hb dX2_mostWith_46 rfl (lv_at hl 3 rfl) ?_
        have ho := Option.some.inj hf
        subst ho; subst hQ
        exact ht_iret hx hb hr hlk rfl hK hP hD hS dX2_mostWith_47
      · replace hf := ht_f c_2 hf
        refine lv_iload_n hx hb dX2_mostWith_17 rfl (lv_at hl 2 rfl) ?_
        refine lv_iload hx hb dX2_mostWith_18 (lv_at hl 4 rfl) ?_
        refine lv_ishr hx hb dX2_mostWith_20 ?_
        refine lv_iconst (v := 1) hx hb dX2_mostWith_21 (by decide) ?_
        refine lv_iand hx hb dX2_mostWith_22 ?_
        refine lv_iconst (v := 1) hx hb dX2_mostWith_23 (by decide) ?_
        refine lv_icmp_ne (tgt := 40) hx hb dX2_mostWith_24 (by decide) (fun c_3 => ?_) (fun c_3 => ?_)
        · replace hf := ht_f c_3 hf
          exact b40 _ hk5 x1 x2 x3 x4 _ _ _ hf hP hD hS hl
        · replace hf := ht_t c_3 hf
          refine lv_iload_n hx hb dX2_mostWith_27 rfl (lv_at hl 3 rfl) ?_
          refine lv_aload_n hx hb dX2_mostWith_28 rfl (lv_at hl 0 rfl) ?_
          refine lv_iload_n hx hb dX2_mostWith_29 rfl (lv_at hl 1 rfl) ?_
          refine lv_iload hx hb dX2_mostWith_30 (lv_at hl 4 rfl) ?_
          refine lv_iload_n hx hb dX2_mostWith_32 rfl (lv_at hl 2 rfl) ?_
          obtain ⟨o_4, ho_4, hf⟩ := ht_bn_ob hf
          refine ht_callVi (r := o_4) (rest := [.int x3]) (As := [.int x1, .int x4, .int x2]) (wc := (wPa K jP aP jN kP_few RP.sounds RP.mostOfSet)) (wr := (wTw K jN aN RN.laws RN.kind RN.need RN.saved RN.voice RN.partner RN.speaks RN.count RN.day RN.heard RN.geese RN.z)) (w1 := (wPa K jP aP jN kP_few RP.sounds RP.mostOfSet)) (w2 := (wPa K jP aP jN kP_few RP.sounds RP.mostOfSet ++ (wTw K jN aN RN.laws RN.kind RN.need RN.saved RN.voice RN.partner RN.speaks RN.count RN.day RN.heard RN.geese RN.z))) hF (ctX2_soundIf l D K jP aP jN kP_few RP x1 x4 x2 o_4 ho_4 H.size) (cwV 3 hts gX2_mostWith_X2_soundIf rfl rfl rfl hdX2_soundIf ⟨Nat.le_of_ble_eq_true rfl, Nat.le_of_ble_eq_true rfl⟩) hK hP hD hS hA [0, 1, 2] [3, 4, 5, 6, 7, 8, 9, 10] rfl rfl (by decide) (by decide) (by decide) [8, 9, 10, 0, 1, 2, 3, 4, 5, 6, 7] rfl (by decide) (va_recv hK hP (ci := 2) (q0 := 0) rfl rfl) rfl hl.1 rfl (Nat.le_of_ble_eq_true rfl) dX2_mostWith_33 ⟨Nat.zero_le _, Nat.zero_le _⟩ (fun H locs hP hD hS => ?_)
          refine va_mmax hx hb (by rw [hml]; exact hl.1.symm) hown kw4 kw5 kw6 kw7 (Nat.le_of_ble_eq_true rfl) (Nat.le_of_ble_eq_true rfl) (Nat.zero_le _) (Nat.zero_le _) dX2_mostWith_36 ?_
          obtain ⟨x3_5, ex3_5, hf⟩ := ht_nm_ob hf
          rw [← ex3_5]
          refine lv_istore_n (lv' := [(3, .int x3_5), (0, .ref jP), (1, .int x1), (2, .int x2), (4, .int x4)]) hx hb dX2_mostWith_39 rfl hl (by decide) rfl (fun ls hl => ?_)
          exact b40 _ hk5 x1 x2 x3_5 x4 _ _ _ hf hP hD hS (lv_sub hl [1, 2, 3, 0, 4] rfl)
  delta fX2_mostWith at hf
  refine lv_iconst (v := 0) hx hb dX2_mostWith_0 (by decide) ?_
  refine lv_istore_n (lv' := [(3, .int (0 : Int32)), (0, .ref jP), (1, .int p0), (2, .int p1)]) hx hb dX2_mostWith_1 rfl hl (by decide) rfl (fun ls hl => ?_)
  refine lv_iload_n hx hb dX2_mostWith_2 rfl (lv_at hl 2 rfl) ?_
  refine lv_istore (lv' := [(4, .int p0), (3, .int (0 : Int32)), (0, .ref jP), (1, .int p0), (2, .int p1)]) hx hb dX2_mostWith_3 hl (by decide) rfl (fun ls hl => ?_)
  exact b5  FU p0 p1 (0 : Int32) p0 _ _ _ hf hP hD hS (lv_sub hl [2, 3, 4, 1, 0] rfl)
abbrev rmX2_weigh : Room := { frames := 5, cells := 0, slots := 0, locals := 112 }
theorem hdX2_weigh : yX2_weigh.cls = RX2 ∧ yX2_weigh.cls ≠ "java/lang/invoke/MethodHandle" ∧ yX2_weigh.cls ≠ "java/lang/invoke/VarHandle" ∧ (parseMethodDescriptor yX2_weigh.desc).map (fun d => d.parameters.length) = some 1 := by decide +kernel
def fX2_weigh_b77 (RP : PairV) (RN : TownV) (RW : TownV) (k77 : Int32 → Int32 → AI → AI → AI → AI → AI → AI → AI → AI → AI → Int32 → Int32 → Int32 → Int32 → Option (AI × AI × AI × AI × AI × AI × AI × AI × AI × Int32 × Int32 × Int32 × Int32)) (x2 : Int32) (x3 : Int32) (vP_sounds : AI) (vP_mostOfSet : AI) (vW_laws : AI) (vW_kind : AI) (vW_need : AI) (vW_saved : AI) (vW_voice : AI) (vW_partner : AI) (vW_speaks : AI) (vW_count : Int32) (vW_day : Int32) (vW_heard : Int32) (vW_geese : Int32) : Option (AI × AI × AI × AI × AI × AI × AI × AI × AI × Int32 × Int32 × Int32 × Int32) := if x2 < x3 then (some (vP_sounds, vP_mostOfSet, vW_laws, vW_kind, vW_need, vW_saved, vW_voice, vW_partner, vW_speaks, vW_count, vW_day, vW_heard, vW_geese)) else (ht_bn (fX2_firstOf (vP_sounds, vP_mostOfSet) x3) (fun o_2 => ht_bn (fX2_mostWith (vP_sounds, vP_mostOfSet) RN o_2 x3) (fun o_3 => ht_gd (ht_ix x3 256) (ht_nm (upd vP_mostOfSet x3.toNatClampNeg o_3) (fun vP_mostOfSet_5 => ht_nm (x3 + (1 : Int32)) (fun x3_6 => k77 x2 x3_6 vP_sounds vP_mostOfSet_5 vW_laws vW_kind vW_need vW_saved vW_voice vW_partner vW_speaks vW_count vW_day vW_heard vW_geese))))))
def fX2_weigh_b63 (RP : PairV) (RN : TownV) (RW : TownV) (vP_sounds : AI) (vP_mostOfSet : AI) (vW_laws : AI) (vW_kind : AI) (vW_need : AI) (vW_saved : AI) (vW_voice : AI) (vW_partner : AI) (vW_speaks : AI) (vW_count : Int32) (vW_day : Int32) (vW_heard : Int32) (vW_geese : Int32) : Option (AI × AI × AI × AI × AI × AI × AI × AI × AI × Int32 × Int32 × Int32 × Int32) := ht_gd (ht_ix (0 : Int32) 256) (ht_nm (upd vP_mostOfSet (0 : Int32).toNatClampNeg (0 : Int32)) (fun vP_mostOfSet_8 => ht_bn (fX2_everyone (vP_sounds, vP_mostOfSet_8) RN) (fun o_9 => ht_lp15 (fX2_weigh_b77 RP RN RW) FU o_9 (1 : Int32) vP_sounds vP_mostOfSet_8 vW_laws vW_kind vW_need vW_saved vW_voice vW_partner vW_speaks vW_count vW_day vW_heard vW_geese)))
def fX2_weigh_b57 (RP : PairV) (RN : TownV) (RW : TownV) (k2 : Int32 → Int32 → AI → AI → AI → AI → AI → AI → AI → AI → AI → Int32 → Int32 → Int32 → Int32 → Option (AI × AI × AI × AI × AI × AI × AI × AI × AI × Int32 × Int32 × Int32 × Int32)) (x1 : Int32) (x2 : Int32) (vP_sounds : AI) (vP_mostOfSet : AI) (vW_laws : AI) (vW_kind : AI) (vW_need : AI) (vW_saved : AI) (vW_voice : AI) (vW_partner : AI) (vW_speaks : AI) (vW_count : Int32) (vW_day : Int32) (vW_heard : Int32) (vW_geese : Int32) : Option (AI × AI × AI × AI × AI × AI × AI × AI × AI × Int32 × Int32 × Int32 × Int32) := ht_nm (x2 + (1 : Int32)) (fun x2_10 => k2 x1 x2_10 vP_sounds vP_mostOfSet vW_laws vW_kind vW_need vW_saved vW_voice vW_partner vW_speaks vW_count vW_day vW_heard vW_geese)
def fX2_weigh_b15 (RP : PairV) (RN : TownV) (RW : TownV) (k2 : Int32 → Int32 → AI → AI → AI → AI → AI → AI → AI → AI → AI → Int32 → Int32 → Int32 → Int32 → Option (AI × AI × AI × AI × AI × AI × AI × AI × AI × Int32 × Int32 × Int32 × Int32)) (k15 : Int32 → Int32 → Int32 → AI → AI → AI → AI → AI → AI → AI → AI → AI → Int32 → Int32 → Int32 → Int32 → Option (AI × AI × AI × AI × AI × AI × AI × AI × AI × Int32 × Int32 × Int32 × Int32)) (x1 : Int32) (x2 : Int32) (x3 : Int32) (vP_sounds : AI) (vP_mostOfSet : AI) (vW_laws : AI) (vW_kind : AI) (vW_need : AI) (vW_saved : AI) (vW_voice : AI) (vW_partner : AI) (vW_speaks : AI) (vW_count : Int32) (vW_day : Int32) (vW_heard : Int32) (vW_geese : Int32) : Option (AI × AI × AI × AI × AI × AI × AI × AI × AI × Int32 × Int32 × Int32 × Int32) := if RN.count ≤ x3 then (fX2_weigh_b57 RP RN RW k2 x1 x2 vP_sounds vP_mostOfSet vW_laws vW_kind vW_need vW_saved vW_voice vW_partner vW_speaks vW_count vW_day vW_heard vW_geese) else (ht_bn (fX2_takeOnly (vP_sounds, vP_mostOfSet) RN (vW_laws, vW_kind, vW_need, vW_saved, vW_voice, vW_partner, vW_speaks, vW_count, vW_day, vW_heard, vW_geese, RW.z) x2 x3) (fun o_12 => ht_bn (fX6_pass (o_12.1, o_12.2.1, o_12.2.2.1, o_12.2.2.2.1, o_12.2.2.2.2.1, o_12.2.2.2.2.2.1, o_12.2.2.2.2.2.2.1, o_12.2.2.2.2.2.2.2.1, o_12.2.2.2.2.2.2.2.2, vW_heard, vW_geese, RW.z) x1) (fun o_13 => ht_gd (ht_ix ((x2 * (8 : Int32)) + x3) 64) (ht_nm (upd vP_sounds ((x2 * (8 : Int32)) + x3).toNatClampNeg o_13.1) (fun vP_sounds_15 => ht_nm (x3 + (1 : Int32)) (fun x3_16 => k15 x1 x2 x3_16 vP_sounds_15 vP_mostOfSet o_12.1 o_12.2.1 o_13.2.1 o_13.2.2.1 o_12.2.2.2.2.1 o_12.2.2.2.2.2.1 o_13.2.2.2.1 o_12.2.2.2.2.2.2.2.1 o_13.2.2.2.2.1 o_13.2.2.2.2.2.1 o_13.2.2.2.2.2.2))))))
def fX2_weigh_b2 (RP : PairV) (RN : TownV) (RW : TownV) (k2 : Int32 → Int32 → AI → AI → AI → AI → AI → AI → AI → AI → AI → Int32 → Int32 → Int32 → Int32 → Option (AI × AI × AI × AI × AI × AI × AI × AI × AI × Int32 × Int32 × Int32 × Int32)) (x1 : Int32) (x2 : Int32) (vP_sounds : AI) (vP_mostOfSet : AI) (vW_laws : AI) (vW_kind : AI) (vW_need : AI) (vW_saved : AI) (vW_voice : AI) (vW_partner : AI) (vW_speaks : AI) (vW_count : Int32) (vW_day : Int32) (vW_heard : Int32) (vW_geese : Int32) : Option (AI × AI × AI × AI × AI × AI × AI × AI × AI × Int32 × Int32 × Int32 × Int32) := if RN.count ≤ x2 then (fX2_weigh_b63 RP RN RW vP_sounds vP_mostOfSet vW_laws vW_kind vW_need vW_saved vW_voice vW_partner vW_speaks vW_count vW_day vW_heard vW_geese) else (ht_lp16 (fX2_weigh_b15 RP RN RW k2) FU x1 x2 x2 vP_sounds vP_mostOfSet vW_laws vW_kind vW_need vW_saved vW_voice vW_partner vW_speaks vW_count vW_day vW_heard vW_geese)
def fX2_weigh (RP : PairV) (RN : TownV) (RW : TownV) (p0 : Int32) : Option (AI × AI × AI × AI × AI × AI × AI × AI × AI × Int32 × Int32 × Int32 × Int32) := ht_lp15 (fX2_weigh_b2 RP RN RW) FU p0 (0 : Int32) RP.sounds RP.mostOfSet RW.laws RW.kind RW.need RW.saved RW.voice RW.partner RW.speaks RW.count RW.day RW.heard RW.geese
set_option maxHeartbeats 1000000 in
set_option maxRecDepth 100000 in
theorem ctX2_weigh (l : Launch) (D : va_G) (K : Nat → ClassId) (jP : Nat) (aP : Nat → Nat) (jN : Nat) (aN : Nat → Nat) (jW : Nat) (aW : Nat → Nat) (RP : PairV) (RN : TownV) (RW : TownV) (p0 : Int32) (o : (AI × AI × AI × AI × AI × AI × AI × AI × AI × Int32 × Int32 × Int32 × Int32)) (hf : fX2_weigh RP RN RW p0 = some o) (sz : Nat) : Met l yX2_weigh wsX2_weigh rmX2_weigh (ht_Pre D K [.ref jP, .int p0] (wPa K jP aP jN jW RP.sounds RP.mostOfSet ++ (wTw K jN aN RN.laws RN.kind RN.need RN.saved RN.voice RN.partner RN.speaks RN.count RN.day RN.heard RN.geese RN.z ++ (wTw K jW aW RW.laws RW.kind RW.need RW.saved RW.voice RW.partner RW.speaks RW.count RW.day RW.heard RW.geese RW.z))) sz) (ht_Qv D K (wPa K jP aP jN jW o.1 o.2.1 ++ (wTw K jN aN RN.laws RN.kind RN.need RN.saved RN.voice RN.partner RN.speaks RN.count RN.day RN.heard RN.geese RN.z ++ (wTw K jW aW o.2.2.1 o.2.2.2.1 o.2.2.2.2.1 o.2.2.2.2.2.1 o.2.2.2.2.2.2.1 o.2.2.2.2.2.2.2.1 o.2.2.2.2.2.2.2.2.1 o.2.2.2.2.2.2.2.2.2.1 o.2.2.2.2.2.2.2.2.2.2.1 o.2.2.2.2.2.2.2.2.2.2.2.1 o.2.2.2.2.2.2.2.2.2.2.2.2 RW.z))) (va_A (wPa K jP aP jN jW RP.sounds RP.mostOfSet ++ (wTw K jN aN RN.laws RN.kind RN.need RN.saved RN.voice RN.partner RN.speaks RN.count RN.day RN.heard RN.geese RN.z ++ (wTw K jW aW RW.laws RW.kind RW.need RW.saved RW.voice RW.partner RW.speaks RW.count RW.day RW.heard RW.geese RW.z))) sz)) 0 0 (va_A (wPa K jP aP jN jW RP.sounds RP.mostOfSet ++ (wTw K jN aN RN.laws RN.kind RN.need RN.saved RN.voice RN.partner RN.speaks RN.count RN.day RN.heard RN.geese RN.z ++ (wTw K jW aW RW.laws RW.kind RW.need RW.saved RW.voice RW.partner RW.speaks RW.count RW.day RW.heard RW.geese RW.z))) sz) := by
  refine ht_enter (Qf := ht_Qv D K (wPa K jP aP jN jW o.1 o.2.1 ++ (wTw K jN aN RN.laws RN.kind RN.need RN.saved RN.voice RN.partner RN.speaks RN.count RN.day RN.heard RN.geese RN.z ++ (wTw K jW aW o.2.2.1 o.2.2.2.1 o.2.2.2.2.1 o.2.2.2.2.2.1 o.2.2.2.2.2.2.1 o.2.2.2.2.2.2.2.1 o.2.2.2.2.2.2.2.2.1 o.2.2.2.2.2.2.2.2.2.1 o.2.2.2.2.2.2.2.2.2.2.1 o.2.2.2.2.2.2.2.2.2.2.2.1 o.2.2.2.2.2.2.2.2.2.2.2.2 RW.z)))) (cc := cX2_weigh) (maxL := 4) (rt := none) (by decide) rfl (Nat.le_of_ble_eq_true rfl) ?_ sz
  intro p e s m below meth c A Q H locs ls hQ hx hb hr hlk hmn hml hown hts hA hK hP hD hS hl
  have hown : s.vm.findClass RX2 = some m.cls := hown
  have hF : CallFix p m c cX2_weigh 4 s ([.ref jP, .int p0] : List Value).toArray wsX2_weigh RX2 := ⟨hx, hb, hml, hown, hts⟩
  have hl : lv_has ls 4 [(0, .ref jP), (1, .int p0)] := hl
  have iw2 : ∀ w ∈ u_ws RX2 TX2 4, w ∈ wsX2_weigh := by decide +kernel
  have kw1 := hts (.fieldLink RX2 22 "HeldTongues$Pairings" "mostOfSet" "[I") (by decide +kernel)
  have kw2 := hts (.fieldLink RX2 25 "HeldTongues$Pairings" "now" "LHeldTongues$Town;") (by decide +kernel)
  have iw6 : ∀ w ∈ u_ws RX6 TX6 12, w ∈ wsX2_weigh := by decide +kernel
  have kw4 := hts (.fieldLink RX2 28 "HeldTongues$Town" "count" "I") (by decide +kernel)
  have kw5 := hts (.fieldLink RX2 18 "HeldTongues$Pairings" "sounds" "[I") (by decide +kernel)
  have kw6 := hts (.fieldLink RX2 12 "HeldTongues$Pairings" "few" "LHeldTongues$Town;") (by decide +kernel)
  have b77 : ∀ (n : Nat) (x2 : Int32) (x3 : Int32) (vP_sounds : AI) (vP_mostOfSet : AI) (vW_laws : AI) (vW_kind : AI) (vW_need : AI) (vW_saved : AI) (vW_voice : AI) (vW_partner : AI) (vW_speaks : AI) (vW_count : Int32) (vW_day : Int32) (vW_heard : Int32) (vW_geese : Int32) (H : Heap) (locs : List Loc) (ls : Array Slot), ht_lp15 (fX2_weigh_b77 RP RN RW) n x2 x3 vP_sounds vP_mostOfSet vW_laws vW_kind vW_need vW_saved vW_voice vW_partner vW_speaks vW_count vW_day vW_heard vW_geese = some o → va_P D vwCl (wPa K jP aP jN jW vP_sounds vP_mostOfSet ++ (wTw K jN aN RN.laws RN.kind RN.need RN.saved RN.voice RN.partner RN.speaks RN.count RN.day RN.heard RN.geese RN.z ++ (wTw K jW aW vW_laws vW_kind vW_need vW_saved vW_voice vW_partner vW_speaks vW_count vW_day vW_heard vW_geese RW.z))) H → va_D A (wPa K jP aP jN jW vP_sounds vP_mostOfSet ++ (wTw K jN aN RN.laws RN.kind RN.need RN.saved RN.voice RN.partner RN.speaks RN.count RN.day RN.heard RN.geese RN.z ++ (wTw K jW aW vW_laws vW_kind vW_need vW_saved vW_voice vW_partner vW_speaks vW_count vW_day vW_heard vW_geese RW.z))) → va_S A s.heap H locs → lv_has ls 4 [(0, .ref jP), (2, .int x2), (3, .int x3)] → W p l e (headSpec wsX2_weigh rmX2_weigh).room s m ([.ref jP, .int p0] : List Value).toArray below meth c H locs 0 0 Q (F0 m 77 ls []) := by
    intro n
    induction n with
    | zero =>
      intro x2 x3 vP_sounds vP_mostOfSet vW_laws vW_kind vW_need vW_saved vW_voice vW_partner vW_speaks vW_count vW_day vW_heard vW_geese H locs ls hf hP hD hS hl
      cases (show (none : Option (AI × AI × AI × AI × AI × AI × AI × AI × AI × Int32 × Int32 × Int32 × Int32)) = some o from hf)
    | succ n hk77 =>
      intro x2 x3 vP_sounds vP_mostOfSet vW_laws vW_kind vW_need vW_saved vW_voice vW_partner vW_speaks vW_count vW_day vW_heard vW_geese H locs ls hf hP hD hS hl
      replace hf : fX2_weigh_b77 RP RN RW (ht_lp15 (fX2_weigh_b77 RP RN RW) n) x2 x3 vP_sounds vP_mostOfSet vW_laws vW_kind vW_need vW_saved vW_voice vW_partner vW_speaks vW_count vW_day vW_heard vW_geese = some o := hf
      delta fX2_weigh_b77 at hf
      refine lv_iload_n hx hb dX2_weigh_77 rfl (lv_at hl 2 rfl) ?_
      refine lv_iload_n hx hb dX2_weigh_78 rfl (lv_at hl 1 rfl) ?_
      refine lv_icmp_gt (tgt := 104) hx hb dX2_weigh_79 (by decide) (fun c_1 => ?_) (fun c_1 => ?_)
      · replace hf := ht_t c_1 hf
        have ho := Option.some.inj hf
        subst ho; subst hQ
        exact ht_vret hx hb hr hlk hK hP hD hS dX2_weigh_104
      · replace hf := ht_f c_1 hf
        refine lv_aload_n hx hb dX2_weigh_82 rfl (lv_at hl 0 rfl) ?_
        refine va_get (D := D) (ci := 2) (v := .ref (aP 1)) (C := RX2) (T := TX2) (N := 4) hx hb hts iw2 hown hK hP 0 rfl rfl 3 (by decide) kw1 (fun _ h9 => h9) rfl dX2_weigh_83 ?_
        refine lv_iload_n hx hb dX2_weigh_86 rfl (lv_at hl 2 rfl) ?_
        refine lv_aload_n hx hb dX2_weigh_87 rfl (lv_at hl 0 rfl) ?_
        refine lv_aload_n hx hb dX2_weigh_88 rfl (lv_at hl 0 rfl) ?_
        refine lv_iload_n hx hb dX2_weigh_89 rfl (lv_at hl 2 rfl) ?_
        obtain ⟨o_2, ho_2, hf⟩ := ht_bn_ob hf
        refine ht_callVi (r := o_2) (rest := [.ref jP, .int x3, .ref (aP 1)]) (As := [.int x3]) (wc := (wPa K jP aP jN jW vP_sounds vP_mostOfSet)) (wr := (wTw K jN aN RN.laws RN.kind RN.need RN.saved RN.voice RN.partner RN.speaks RN.count RN.day RN.heard RN.geese RN.z ++ (wTw K jW aW vW_laws vW_kind vW_need vW_saved vW_voice vW_partner vW_speaks vW_count vW_day vW_heard vW_geese RW.z))) (w1 := (wPa K jP aP jN jW vP_sounds vP_mostOfSet)) (w2 := (wPa K jP aP jN jW vP_sounds vP_mostOfSet ++ (wTw K jN aN RN.laws RN.kind RN.need RN.saved RN.voice RN.partner RN.speaks RN.count RN.day RN.heard RN.geese RN.z ++ (wTw K jW aW vW_laws vW_kind vW_need vW_saved vW_voice vW_partner vW_speaks vW_count vW_day vW_heard vW_geese RW.z)))) hF (ctX2_firstOf l D K jP aP jN jW (vP_sounds, vP_mostOfSet) x3 o_2 ho_2 H.size) (cwV 1 hts gX2_weigh_X2_firstOf rfl rfl rfl hdX2_firstOf ⟨Nat.le_of_ble_eq_true rfl, Nat.le_of_ble_eq_true rfl⟩) hK hP hD hS hA [0, 1, 2] [3, 4, 5, 6, 7, 8, 9, 10, 11, 12, 13, 14, 15, 16, 17, 18] rfl rfl (by decide) (by decide) (by decide) [16, 17, 18, 0, 1, 2, 3, 4, 5, 6, 7, 8, 9, 10, 11, 12, 13, 14, 15] rfl (by decide) (va_recv hK hP (ci := 2) (q0 := 0) rfl rfl) rfl hl.1 rfl (Nat.le_of_ble_eq_true rfl) dX2_weigh_90 ⟨Nat.zero_le _, Nat.zero_le _⟩ (fun H locs hP hD hS => ?_)
        refine lv_iload_n hx hb dX2_weigh_93 rfl (lv_at hl 2 rfl) ?_
        obtain ⟨o_3, ho_3, hf⟩ := ht_bn_ob hf
        refine ht_callVi (r := o_3) (rest := [.int x3, .ref (aP 1)]) (As := [.int o_2, .int x3]) (wc := (wPa K jP aP jN jW vP_sounds vP_mostOfSet ++ (wTw K jN aN RN.laws RN.kind RN.need RN.saved RN.voice RN.partner RN.speaks RN.count RN.day RN.heard RN.geese RN.z))) (wr := (wTw K jW aW vW_laws vW_kind vW_need vW_saved vW_voice vW_partner vW_speaks vW_count vW_day vW_heard vW_geese RW.z)) (w1 := (wPa K jP aP jN jW vP_sounds vP_mostOfSet ++ (wTw K jN aN RN.laws RN.kind RN.need RN.saved RN.voice RN.partner RN.speaks RN.count RN.day RN.heard RN.geese RN.z))) (w2 := (wPa K jP aP jN jW vP_sounds vP_mostOfSet ++ (wTw K jN aN RN.laws RN.kind RN.need RN.saved RN.voice RN.partner RN.speaks RN.count RN.day RN.heard RN.geese RN.z ++ (wTw K jW aW vW_laws vW_kind vW_need vW_saved vW_voice vW_partner vW_speaks vW_count vW_day vW_heard vW_geese RW.z)))) hF (ctX2_mostWith l D K jP aP jN aN jW (vP_sounds, vP_mostOfSet) RN o_2 x3 o_3 ho_3 H.size) (cwV 2 hts gX2_weigh_X2_mostWith rfl rfl rfl hdX2_mostWith ⟨Nat.le_of_ble_eq_true rfl, Nat.le_of_ble_eq_true rfl⟩) hK hP hD hS hA [0, 1, 2, 3, 4, 5, 6, 7, 8, 9, 10] [11, 12, 13, 14, 15, 16, 17, 18] rfl rfl (by decide) (by decide) (by decide) [8, 9, 10, 11, 12, 13, 14, 15, 16, 17, 18, 0, 1, 2, 3, 4, 5, 6, 7] rfl (by decide) (va_recv hK hP (ci := 2) (q0 := 0) rfl rfl) rfl hl.1 rfl (Nat.le_of_ble_eq_true rfl) dX2_weigh_94 ⟨Nat.zero_le _, Nat.zero_le _⟩ (fun H locs hP hD hS => ?_)
        obtain ⟨g_4, hf⟩ := ht_gd_ob hf
        obtain ⟨vP_mostOfSet_5, evP_mostOfSet_5, hf⟩ := ht_nm_ob hf
        refine ht_iast (w2 := (wPa K jP aP jN jW vP_sounds vP_mostOfSet_5 ++ (wTw K jN aN RN.laws RN.kind RN.need RN.saved RN.voice RN.partner RN.speaks RN.count RN.day RN.heard RN.geese RN.z ++ (wTw K jW aW vW_laws vW_kind vW_need vW_saved vW_voice vW_partner vW_speaks vW_count vW_day vW_heard vW_geese RW.z)))) hx hb hK hP hD hS 2 1 rfl rfl g_4 dX2_weigh_97 evP_mostOfSet_5 rfl (fun H locs hP hD hS => ?_)
        obtain ⟨x3_6, ex3_6, hf⟩ := ht_nm_ob hf
        refine lv_iinc (v := x3_6) (lv' := [(3, .int x3_6), (0, .ref jP), (2, .int x2)]) hx hb dX2_weigh_98 hl (k := 2) rfl (by rw [ex3_6]; rfl) (by decide) rfl (fun ls hl => ?_)
        refine lv_goto (tgt := 77) hx hb dX2_weigh_101 (by decide) ?_
        exact hk77 x2 x3_6 vP_sounds vP_mostOfSet_5 vW_laws vW_kind vW_need vW_saved vW_voice vW_partner vW_speaks vW_count vW_day vW_heard vW_geese _ _ _ hf hP hD hS (lv_sub hl [1, 2, 0] rfl)
  have b63 : ∀ (vP_sounds : AI) (vP_mostOfSet : AI) (vW_laws : AI) (vW_kind : AI) (vW_need : AI) (vW_saved : AI) (vW_voice : AI) (vW_partner : AI) (vW_speaks : AI) (vW_count : Int32) (vW_day : Int32) (vW_heard : Int32) (vW_geese : Int32) (H : Heap) (locs : List Loc) (ls : Array Slot), fX2_weigh_b63 RP RN RW vP_sounds vP_mostOfSet vW_laws vW_kind vW_need vW_saved vW_voice vW_partner vW_speaks vW_count vW_day vW_heard vW_geese = some o → va_P D vwCl (wPa K jP aP jN jW vP_sounds vP_mostOfSet ++ (wTw K jN aN RN.laws RN.kind RN.need RN.saved RN.voice RN.partner RN.speaks RN.count RN.day RN.heard RN.geese RN.z ++ (wTw K jW aW vW_laws vW_kind vW_need vW_saved vW_voice vW_partner vW_speaks vW_count vW_day vW_heard vW_geese RW.z))) H → va_D A (wPa K jP aP jN jW vP_sounds vP_mostOfSet ++ (wTw K jN aN RN.laws RN.kind RN.need RN.saved RN.voice RN.partner RN.speaks RN.count RN.day RN.heard RN.geese RN.z ++ (wTw K jW aW vW_laws vW_kind vW_need vW_saved vW_voice vW_partner vW_speaks vW_count vW_day vW_heard vW_geese RW.z))) → va_S A s.heap H locs → lv_has ls 4 [(0, .ref jP)] → W p l e (headSpec wsX2_weigh rmX2_weigh).room s m ([.ref jP, .int p0] : List Value).toArray below meth c H locs 0 0 Q (F0 m 63 ls []) := by
    intro vP_sounds vP_mostOfSet vW_laws vW_kind vW_need vW_saved vW_voice vW_partner vW_speaks vW_count vW_day vW_heard vW_geese H locs ls hf hP hD hS hl
    delta fX2_weigh_b63 at hf
    refine lv_aload_n hx hb dX2_weigh_63 rfl (lv_at hl 0 rfl) ?_
    refine va_get (D := D) (ci := 2) (v := .ref (aP 1)) (C := RX2) (T := TX2) (N := 4) hx hb hts iw2 hown hK hP 0 rfl rfl 3 (by decide) kw1 (fun _ h9 => h9) rfl dX2_weigh_64 ?_
    refine lv_iconst (v := 0) hx hb dX2_weigh_67 (by decide) ?_
    refine lv_iconst (v := 0) hx hb dX2_weigh_68 (by decide) ?_
    obtain ⟨g_7, hf⟩ := ht_gd_ob hf
    obtain ⟨vP_mostOfSet_8, evP_mostOfSet_8, hf⟩ := ht_nm_ob hf
    refine ht_iast (w2 := (wPa K jP aP jN jW vP_sounds vP_mostOfSet_8 ++ (wTw K jN aN RN.laws RN.kind RN.need RN.saved RN.voice RN.partner RN.speaks RN.count RN.day RN.heard RN.geese RN.z ++ (wTw K jW aW vW_laws vW_kind vW_need vW_saved vW_voice vW_partner vW_speaks vW_count vW_day vW_heard vW_geese RW.z)))) hx hb hK hP hD hS 2 1 rfl rfl g_7 dX2_weigh_69 evP_mostOfSet_8 rfl (fun H locs hP hD hS => ?_)
    refine lv_aload_n hx hb dX2_weigh_70 rfl (lv_at hl 0 rfl) ?_
    obtain ⟨o_9, ho_9, hf⟩ := ht_bn_ob hf
    refine ht_callVi (r := o_9) (rest := []) (As := []) (wc := (wPa K jP aP jN jW vP_sounds vP_mostOfSet_8 ++ (wTw K jN aN RN.laws RN.kind RN.need RN.saved RN.voice RN.partner RN.speaks RN.count RN.day RN.heard RN.geese RN.z))) (wr := (wTw K jW aW vW_laws vW_kind vW_need vW_saved vW_voice vW_partner vW_speaks vW_count vW_day vW_heard vW_geese RW.z)) (w1 := (wPa K jP aP jN jW vP_sounds vP_mostOfSet_8 ++ (wTw K jN aN RN.laws RN.kind RN.need RN.saved RN.voice RN.partner RN.speaks RN.count RN.day RN.heard RN.geese RN.z))) (w2 := (wPa K jP aP jN jW vP_sounds vP_mostOfSet_8 ++ (wTw K jN aN RN.laws RN.kind RN.need RN.saved RN.voice RN.partner RN.speaks RN.count RN.day RN.heard RN.geese RN.z ++ (wTw K jW aW vW_laws vW_kind vW_need vW_saved vW_voice vW_partner vW_speaks vW_count vW_day vW_heard vW_geese RW.z)))) hF (ctX2_everyone l D K jP aP jN aN jW (vP_sounds, vP_mostOfSet_8) RN o_9 ho_9 H.size) (cwV 0 hts gX2_weigh_X2_everyone rfl rfl rfl hdX2_everyone ⟨Nat.le_of_ble_eq_true rfl, Nat.le_of_ble_eq_true rfl⟩) hK hP hD hS hA [0, 1, 2, 3, 4, 5, 6, 7, 8, 9, 10] [11, 12, 13, 14, 15, 16, 17, 18] rfl rfl (by decide) (by decide) (by decide) [8, 9, 10, 11, 12, 13, 14, 15, 16, 17, 18, 0, 1, 2, 3, 4, 5, 6, 7] rfl (by decide) (va_recv hK hP (ci := 2) (q0 := 0) rfl rfl) rfl hl.1 rfl (Nat.le_of_ble_eq_true rfl) dX2_weigh_71 ⟨Nat.zero_le _, Nat.zero_le _⟩ (fun H locs hP hD hS => ?_)
    refine lv_istore_n (lv' := [(2, .int o_9), (0, .ref jP)]) hx hb dX2_weigh_74 rfl hl (by decide) rfl (fun ls hl => ?_)
    refine lv_iconst (v := 1) hx hb dX2_weigh_75 (by decide) ?_
    refine lv_istore_n (lv' := [(3, .int (1 : Int32)), (2, .int o_9), (0, .ref jP)]) hx hb dX2_weigh_76 rfl hl (by decide) rfl (fun ls hl => ?_)
    exact b77  FU o_9 (1 : Int32) vP_sounds vP_mostOfSet_8 vW_laws vW_kind vW_need vW_saved vW_voice vW_partner vW_speaks vW_count vW_day vW_heard vW_geese _ _ _ hf hP hD hS (lv_sub hl [2, 1, 0] rfl)
  have b57 : ∀ (k2 : Int32 → Int32 → AI → AI → AI → AI → AI → AI → AI → AI → AI → Int32 → Int32 → Int32 → Int32 → Option (AI × AI × AI × AI × AI × AI × AI × AI × AI × Int32 × Int32 × Int32 × Int32)) (hk2 : ∀ (x1 : Int32) (x2 : Int32) (vP_sounds : AI) (vP_mostOfSet : AI) (vW_laws : AI) (vW_kind : AI) (vW_need : AI) (vW_saved : AI) (vW_voice : AI) (vW_partner : AI) (vW_speaks : AI) (vW_count : Int32) (vW_day : Int32) (vW_heard : Int32) (vW_geese : Int32) (H : Heap) (locs : List Loc) (ls : Array Slot), k2 x1 x2 vP_sounds vP_mostOfSet vW_laws vW_kind vW_need vW_saved vW_voice vW_partner vW_speaks vW_count vW_day vW_heard vW_geese = some o → va_P D vwCl (wPa K jP aP jN jW vP_sounds vP_mostOfSet ++ (wTw K jN aN RN.laws RN.kind RN.need RN.saved RN.voice RN.partner RN.speaks RN.count RN.day RN.heard RN.geese RN.z ++ (wTw K jW aW vW_laws vW_kind vW_need vW_saved vW_voice vW_partner vW_speaks vW_count vW_day vW_heard vW_geese RW.z))) H → va_D A (wPa K jP aP jN jW vP_sounds vP_mostOfSet ++ (wTw K jN aN RN.laws RN.kind RN.need RN.saved RN.voice RN.partner RN.speaks RN.count RN.day RN.heard RN.geese RN.z ++ (wTw K jW aW vW_laws vW_kind vW_need vW_saved vW_voice vW_partner vW_speaks vW_count vW_day vW_heard vW_geese RW.z))) → va_S A s.heap H locs → lv_has ls 4 [(0, .ref jP), (1, .int x1), (2, .int x2)] → W p l e (headSpec wsX2_weigh rmX2_weigh).room s m ([.ref jP, .int p0] : List Value).toArray below meth c H locs 0 0 Q (F0 m 2 ls [])) (x1 : Int32) (x2 : Int32) (vP_sounds : AI) (vP_mostOfSet : AI) (vW_laws : AI) (vW_kind : AI) (vW_need : AI) (vW_saved : AI) (vW_voice : AI) (vW_partner : AI) (vW_speaks : AI) (vW_count : Int32) (vW_day : Int32) (vW_heard : Int32) (vW_geese : Int32) (H : Heap) (locs : List Loc) (ls : Array Slot), fX2_weigh_b57 RP RN RW k2 x1 x2 vP_sounds vP_mostOfSet vW_laws vW_kind vW_need vW_saved vW_voice vW_partner vW_speaks vW_count vW_day vW_heard vW_geese = some o → va_P D vwCl (wPa K jP aP jN jW vP_sounds vP_mostOfSet ++ (wTw K jN aN RN.laws RN.kind RN.need RN.saved RN.voice RN.partner RN.speaks RN.count RN.day RN.heard RN.geese RN.z ++ (wTw K jW aW vW_laws vW_kind vW_need vW_saved vW_voice vW_partner vW_speaks vW_count vW_day vW_heard vW_geese RW.z))) H → va_D A (wPa K jP aP jN jW vP_sounds vP_mostOfSet ++ (wTw K jN aN RN.laws RN.kind RN.need RN.saved RN.voice RN.partner RN.speaks RN.count RN.day RN.heard RN.geese RN.z ++ (wTw K jW aW vW_laws vW_kind vW_need vW_saved vW_voice vW_partner vW_speaks vW_count vW_day vW_heard vW_geese RW.z))) → va_S A s.heap H locs → lv_has ls 4 [(0, .ref jP), (1, .int x1), (2, .int x2)] → W p l e (headSpec wsX2_weigh rmX2_weigh).room s m ([.ref jP, .int p0] : List Value).toArray below meth c H locs 0 0 Q (F0 m 57 ls []) := by
    intro k2 hk2 x1 x2 vP_sounds vP_mostOfSet vW_laws vW_kind vW_need vW_saved vW_voice vW_partner vW_speaks vW_count vW_day vW_heard vW_geese H locs ls hf hP hD hS hl
    delta fX2_weigh_b57 at hf
    obtain ⟨x2_10, ex2_10, hf⟩ := ht_nm_ob hf
    refine lv_iinc (v := x2_10) (lv' := [(2, .int x2_10), (0, .ref jP), (1, .int x1)]) hx hb dX2_weigh_57 hl (k := 2) rfl (by rw [ex2_10]; rfl) (by decide) rfl (fun ls hl => ?_)
    refine lv_goto (tgt := 2) hx hb dX2_weigh_60 (by decide) ?_
    exact hk2 x1 x2_10 vP_sounds vP_mostOfSet vW_laws vW_kind vW_need vW_saved vW_voice vW_partner vW_speaks vW_count vW_day vW_heard vW_geese _ _ _ hf hP hD hS (lv_sub hl [1, 2, 0] rfl)
  have b15 : ∀ (k2 : Int32 → Int32 → AI → AI → AI → AI → AI → AI → AI → AI → AI → Int32 → Int32 → Int32 → Int32 → Option (AI × AI × AI × AI × AI × AI × AI × AI × AI × Int32 × Int32 × Int32 × Int32)) (hk2 : ∀ (x1 : Int32) (x2 : Int32) (vP_sounds : AI) (vP_mostOfSet : AI) (vW_laws : AI) (vW_kind : AI) (vW_need : AI) (vW_saved : AI) (vW_voice : AI) (vW_partner : AI) (vW_speaks : AI) (vW_count : Int32) (vW_day : Int32) (vW_heard : Int32) (vW_geese : Int32) (H : Heap) (locs : List Loc) (ls : Array Slot), k2 x1 x2 vP_sounds vP_mostOfSet vW_laws vW_kind vW_need vW_saved vW_voice vW_partner vW_speaks vW_count vW_day vW_heard vW_geese = some o → va_P D vwCl (wPa K jP aP jN jW vP_sounds vP_mostOfSet ++ (wTw K jN aN RN.laws RN.kind RN.need RN.saved RN.voice RN.partner RN.speaks RN.count RN.day RN.heard RN.geese RN.z ++ (wTw K jW aW vW_laws vW_kind vW_need vW_saved vW_voice vW_partner vW_speaks vW_count vW_day vW_heard vW_geese RW.z))) H → va_D A (wPa K jP aP jN jW vP_sounds vP_mostOfSet ++ (wTw K jN aN RN.laws RN.kind RN.need RN.saved RN.voice RN.partner RN.speaks RN.count RN.day RN.heard RN.geese RN.z ++ (wTw K jW aW vW_laws vW_kind vW_need vW_saved vW_voice vW_partner vW_speaks vW_count vW_day vW_heard vW_geese RW.z))) → va_S A s.heap H locs → lv_has ls 4 [(0, .ref jP), (1, .int x1), (2, .int x2)] → W p l e (headSpec wsX2_weigh rmX2_weigh).room s m ([.ref jP, .int p0] : List Value).toArray below meth c H locs 0 0 Q (F0 m 2 ls [])) (n : Nat) (x1 : Int32) (x2 : Int32) (x3 : Int32) (vP_sounds : AI) (vP_mostOfSet : AI) (vW_laws : AI) (vW_kind : AI) (vW_need : AI) (vW_saved : AI) (vW_voice : AI) (vW_partner : AI) (vW_speaks : AI) (vW_count : Int32) (vW_day : Int32) (vW_heard : Int32) (vW_geese : Int32) (H : Heap) (locs : List Loc) (ls : Array Slot), ht_lp16 (fX2_weigh_b15 RP RN RW k2) n x1 x2 x3 vP_sounds vP_mostOfSet vW_laws vW_kind vW_need vW_saved vW_voice vW_partner vW_speaks vW_count vW_day vW_heard vW_geese = some o → va_P D vwCl (wPa K jP aP jN jW vP_sounds vP_mostOfSet ++ (wTw K jN aN RN.laws RN.kind RN.need RN.saved RN.voice RN.partner RN.speaks RN.count RN.day RN.heard RN.geese RN.z ++ (wTw K jW aW vW_laws vW_kind vW_need vW_saved vW_voice vW_partner vW_speaks vW_count vW_day vW_heard vW_geese RW.z))) H → va_D A (wPa K jP aP jN jW vP_sounds vP_mostOfSet ++ (wTw K jN aN RN.laws RN.kind RN.need RN.saved RN.voice RN.partner RN.speaks RN.count RN.day RN.heard RN.geese RN.z ++ (wTw K jW aW vW_laws vW_kind vW_need vW_saved vW_voice vW_partner vW_speaks vW_count vW_day vW_heard vW_geese RW.z))) → va_S A s.heap H locs → lv_has ls 4 [(0, .ref jP), (1, .int x1), (2, .int x2), (3, .int x3)] → W p l e (headSpec wsX2_weigh rmX2_weigh).room s m ([.ref jP, .int p0] : List Value).toArray below meth c H locs 0 0 Q (F0 m 15 ls []) := by
    intro k2 hk2 n
    induction n with
    | zero =>
      intro x1 x2 x3 vP_sounds vP_mostOfSet vW_laws vW_kind vW_need vW_saved vW_voice vW_partner vW_speaks vW_count vW_day vW_heard vW_geese H locs ls hf hP hD hS hl
      cases (show (none : Option (AI × AI × AI × AI × AI × AI × AI × AI × AI × Int32 × Int32 × Int32 × Int32)) = some o from hf)
    | succ n hk15 =>
      intro x1 x2 x3 vP_sounds vP_mostOfSet vW_laws vW_kind vW_need vW_saved vW_voice vW_partner vW_speaks vW_count vW_day vW_heard vW_geese H locs ls hf hP hD hS hl
      replace hf : fX2_weigh_b15 RP RN RW k2 (ht_lp16 (fX2_weigh_b15 RP RN RW k2) n) x1 x2 x3 vP_sounds vP_mostOfSet vW_laws vW_kind vW_need vW_saved vW_voice vW_partner vW_speaks vW_count vW_day vW_heard vW_geese = some o := hf
      delta fX2_weigh_b15 at hf
      refine lv_iload_n hx hb dX2_weigh_15 rfl (lv_at hl 3 rfl) ?_
      refine lv_aload_n hx hb dX2_weigh_16 rfl (lv_at hl 0 rfl) ?_
      refine va_get (D := D) (ci := 2) (v := .ref jN) (C := RX2) (T := TX2) (N := 4) hx hb hts iw2 hown hK hP 0 rfl rfl 0 (by decide) kw2 (fun _ h9 => h9) rfl dX2_weigh_17 ?_
      refine va_get (D := D) (ci := 6) (v := .int RN.count) (C := RX6) (T := TX6) (N := 12) hx hb hts iw6 hown hK hP 3 rfl rfl 7 (by decide) kw4 (fun _ h9 => h9) rfl dX2_weigh_20 ?_
      refine lv_icmp_ge (tgt := 57) hx hb dX2_weigh_23 (by decide) (fun c_11 => ?_) (fun c_11 => ?_)
      · replace hf := ht_t c_11 hf
        exact b57 _ hk2 x1 x2 vP_sounds vP_mostOfSet vW_laws vW_kind vW_need vW_saved vW_voice vW_partner vW_speaks vW_count vW_day vW_heard vW_geese _ _ _ hf hP hD hS (lv_sub hl [0, 1, 2] rfl)
      · replace hf := ht_f c_11 hf
        refine lv_aload_n hx hb dX2_weigh_26 rfl (lv_at hl 0 rfl) ?_
        refine lv_iload_n hx hb dX2_weigh_27 rfl (lv_at hl 2 rfl) ?_
        refine lv_iload_n hx hb dX2_weigh_28 rfl (lv_at hl 3 rfl) ?_
        obtain ⟨o_12, ho_12, hf⟩ := ht_bn_ob hf
        refine ht_callVv (rest := []) (As := [.int x2, .int x3]) (wc := (wPa K jP aP jN jW vP_sounds vP_mostOfSet ++ (wTw K jN aN RN.laws RN.kind RN.need RN.saved RN.voice RN.partner RN.speaks RN.count RN.day RN.heard RN.geese RN.z ++ (wTw K jW aW vW_laws vW_kind vW_need vW_saved vW_voice vW_partner vW_speaks vW_count vW_day vW_heard vW_geese RW.z)))) (wr := []) (w1 := (wPa K jP aP jN jW vP_sounds vP_mostOfSet ++ (wTw K jN aN RN.laws RN.kind RN.need RN.saved RN.voice RN.partner RN.speaks RN.count RN.day RN.heard RN.geese RN.z ++ (wTw K jW aW o_12.1 o_12.2.1 o_12.2.2.1 o_12.2.2.2.1 o_12.2.2.2.2.1 o_12.2.2.2.2.2.1 o_12.2.2.2.2.2.2.1 o_12.2.2.2.2.2.2.2.1 o_12.2.2.2.2.2.2.2.2 vW_heard vW_geese RW.z)))) (w2 := (wPa K jP aP jN jW vP_sounds vP_mostOfSet ++ (wTw K jN aN RN.laws RN.kind RN.need RN.saved RN.voice RN.partner RN.speaks RN.count RN.day RN.heard RN.geese RN.z ++ (wTw K jW aW o_12.1 o_12.2.1 o_12.2.2.1 o_12.2.2.2.1 o_12.2.2.2.2.1 o_12.2.2.2.2.2.1 o_12.2.2.2.2.2.2.1 o_12.2.2.2.2.2.2.2.1 o_12.2.2.2.2.2.2.2.2 vW_heard vW_geese RW.z)))) hF (ctX2_takeOnly l D K jP aP jN aN jW aW (vP_sounds, vP_mostOfSet) RN (vW_laws, vW_kind, vW_need, vW_saved, vW_voice, vW_partner, vW_speaks, vW_count, vW_day, vW_heard, vW_geese, RW.z) x2 x3 o_12 ho_12 H.size) (cwV 2 hts gX2_weigh_X2_takeOnly rfl rfl rfl hdX2_takeOnly ⟨Nat.le_of_ble_eq_true rfl, Nat.le_of_ble_eq_true rfl⟩) hK hP hD hS hA [0, 1, 2, 3, 4, 5, 6, 7, 8, 9, 10, 11, 12, 13, 14, 15, 16, 17, 18] [] rfl rfl (by decide) (by decide) (by decide) [0, 1, 2, 3, 4, 5, 6, 7, 8, 9, 10, 11, 12, 13, 14, 15, 16, 17, 18] rfl (by decide) (va_recv hK hP (ci := 2) (q0 := 0) rfl rfl) rfl hl.1 rfl (Nat.le_of_ble_eq_true rfl) dX2_weigh_29 ⟨Nat.zero_le _, Nat.zero_le _⟩ (fun H locs hP hD hS => ?_)
        refine lv_aload_n hx hb dX2_weigh_32 rfl (lv_at hl 0 rfl) ?_
        refine va_get (D := D) (ci := 2) (v := .ref (aP 0)) (C := RX2) (T := TX2) (N := 4) hx hb hts iw2 hown hK hP 0 rfl rfl 2 (by decide) kw5 (fun _ h9 => h9) rfl dX2_weigh_33 ?_
        refine lv_iload_n hx hb dX2_weigh_36 rfl (lv_at hl 2 rfl) ?_
        refine lv_bipush (v := 8) hx hb dX2_weigh_37 (by decide) ?_
        refine lv_imul hx hb dX2_weigh_39 ?_
        refine lv_iload_n hx hb dX2_weigh_40 rfl (lv_at hl 3 rfl) ?_
        refine lv_iadd hx hb dX2_weigh_41 ?_
        refine lv_aload_n hx hb dX2_weigh_42 rfl (lv_at hl 0 rfl) ?_
        refine va_get (D := D) (ci := 2) (v := .ref jW) (C := RX2) (T := TX2) (N := 4) hx hb hts iw2 hown hK hP 0 rfl rfl 1 (by decide) kw6 (fun _ h9 => h9) rfl dX2_weigh_43 ?_
        refine lv_iload_n hx hb dX2_weigh_46 rfl (lv_at hl 1 rfl) ?_
        obtain ⟨o_13, ho_13, hf⟩ := ht_bn_ob hf
        refine ht_callVi (r := o_13.1) (rest := [.int ((x2 * (8 : Int32)) + x3), .ref (aP 0)]) (As := [.int x1]) (wc := (wTw K jW aW o_12.1 o_12.2.1 o_12.2.2.1 o_12.2.2.2.1 o_12.2.2.2.2.1 o_12.2.2.2.2.2.1 o_12.2.2.2.2.2.2.1 o_12.2.2.2.2.2.2.2.1 o_12.2.2.2.2.2.2.2.2 vW_heard vW_geese RW.z)) (wr := (wPa K jP aP jN jW vP_sounds vP_mostOfSet ++ (wTw K jN aN RN.laws RN.kind RN.need RN.saved RN.voice RN.partner RN.speaks RN.count RN.day RN.heard RN.geese RN.z))) (w1 := (wTw K jW aW o_12.1 o_12.2.1 o_13.2.1 o_13.2.2.1 o_12.2.2.2.2.1 o_12.2.2.2.2.2.1 o_13.2.2.2.1 o_12.2.2.2.2.2.2.2.1 o_13.2.2.2.2.1 o_13.2.2.2.2.2.1 o_13.2.2.2.2.2.2 RW.z)) (w2 := (wPa K jP aP jN jW vP_sounds vP_mostOfSet ++ (wTw K jN aN RN.laws RN.kind RN.need RN.saved RN.voice RN.partner RN.speaks RN.count RN.day RN.heard RN.geese RN.z ++ (wTw K jW aW o_12.1 o_12.2.1 o_13.2.1 o_13.2.2.1 o_12.2.2.2.2.1 o_12.2.2.2.2.2.1 o_13.2.2.2.1 o_12.2.2.2.2.2.2.2.1 o_13.2.2.2.2.1 o_13.2.2.2.2.2.1 o_13.2.2.2.2.2.2 RW.z)))) hF (ctX6_pass l D K jW aW (o_12.1, o_12.2.1, o_12.2.2.1, o_12.2.2.2.1, o_12.2.2.2.2.1, o_12.2.2.2.2.2.1, o_12.2.2.2.2.2.2.1, o_12.2.2.2.2.2.2.2.1, o_12.2.2.2.2.2.2.2.2, vW_heard, vW_geese, RW.z) x1 o_13 ho_13 H.size) (cwV 1 hts gX2_weigh_X6_pass rfl rfl rfl hdX6_pass ⟨Nat.le_of_ble_eq_true rfl, Nat.le_of_ble_eq_true rfl⟩) hK hP hD hS hA [11, 12, 13, 14, 15, 16, 17, 18] [0, 1, 2, 3, 4, 5, 6, 7, 8, 9, 10] rfl rfl (by decide) (by decide) (by decide) [0, 1, 2, 3, 4, 5, 6, 7, 8, 9, 10, 11, 12, 13, 14, 15, 16, 17, 18] rfl (by decide) (va_recv hK hP (ci := 6) (q0 := 11) rfl rfl) rfl hl.1 rfl (Nat.le_of_ble_eq_true rfl) dX2_weigh_47 ⟨Nat.zero_le _, Nat.zero_le _⟩ (fun H locs hP hD hS => ?_)
        obtain ⟨g_14, hf⟩ := ht_gd_ob hf
        obtain ⟨vP_sounds_15, evP_sounds_15, hf⟩ := ht_nm_ob hf
        refine ht_iast (w2 := (wPa K jP aP jN jW vP_sounds_15 vP_mostOfSet ++ (wTw K jN aN RN.laws RN.kind RN.need RN.saved RN.voice RN.partner RN.speaks RN.count RN.day RN.heard RN.geese RN.z ++ (wTw K jW aW o_12.1 o_12.2.1 o_13.2.1 o_13.2.2.1 o_12.2.2.2.2.1 o_12.2.2.2.2.2.1 o_13.2.2.2.1 o_12.2.2.2.2.2.2.2.1 o_13.2.2.2.2.1 o_13.2.2.2.2.2.1 o_13.2.2.2.2.2.2 RW.z)))) hx hb hK hP hD hS 1 1 rfl rfl g_14 dX2_weigh_50 evP_sounds_15 rfl (fun H locs hP hD hS => ?_)
        obtain ⟨x3_16, ex3_16, hf⟩ := ht_nm_ob hf
        refine lv_iinc (v := x3_16) (lv' := [(3, .int x3_16), (0, .ref jP), (1, .int x1), (2, .int x2)]) hx hb dX2_weigh_51 hl (k := 3) rfl (by rw [ex3_16]; rfl) (by decide) rfl (fun ls hl => ?_)
        refine lv_goto (tgt := 15) hx hb dX2_weigh_54 (by decide) ?_
        exact hk15 x1 x2 x3_16 vP_sounds_15 vP_mostOfSet o_12.1 o_12.2.1 o_13.2.1 o_13.2.2.1 o_12.2.2.2.2.1 o_12.2.2.2.2.2.1 o_13.2.2.2.1 o_12.2.2.2.2.2.2.2.1 o_13.2.2.2.2.1 o_13.2.2.2.2.2.1 o_13.2.2.2.2.2.2 _ _ _ hf hP hD hS (lv_sub hl [1, 2, 3, 0] rfl)
  have b2 : ∀ (n : Nat) (x1 : Int32) (x2 : Int32) (vP_sounds : AI) (vP_mostOfSet : AI) (vW_laws : AI) (vW_kind : AI) (vW_need : AI) (vW_saved : AI) (vW_voice : AI) (vW_partner : AI) (vW_speaks : AI) (vW_count : Int32) (vW_day : Int32) (vW_heard : Int32) (vW_geese : Int32) (H : Heap) (locs : List Loc) (ls : Array Slot), ht_lp15 (fX2_weigh_b2 RP RN RW) n x1 x2 vP_sounds vP_mostOfSet vW_laws vW_kind vW_need vW_saved vW_voice vW_partner vW_speaks vW_count vW_day vW_heard vW_geese = some o → va_P D vwCl (wPa K jP aP jN jW vP_sounds vP_mostOfSet ++ (wTw K jN aN RN.laws RN.kind RN.need RN.saved RN.voice RN.partner RN.speaks RN.count RN.day RN.heard RN.geese RN.z ++ (wTw K jW aW vW_laws vW_kind vW_need vW_saved vW_voice vW_partner vW_speaks vW_count vW_day vW_heard vW_geese RW.z))) H → va_D A (wPa K jP aP jN jW vP_sounds vP_mostOfSet ++ (wTw K jN aN RN.laws RN.kind RN.need RN.saved RN.voice RN.partner RN.speaks RN.count RN.day RN.heard RN.geese RN.z ++ (wTw K jW aW vW_laws vW_kind vW_need vW_saved vW_voice vW_partner vW_speaks vW_count vW_day vW_heard vW_geese RW.z))) → va_S A s.heap H locs → lv_has ls 4 [(0, .ref jP), (1, .int x1), (2, .int x2)] → W p l e (headSpec wsX2_weigh rmX2_weigh).room s m ([.ref jP, .int p0] : List Value).toArray below meth c H locs 0 0 Q (F0 m 2 ls []) := by
    intro n
    induction n with
    | zero =>
      intro x1 x2 vP_sounds vP_mostOfSet vW_laws vW_kind vW_need vW_saved vW_voice vW_partner vW_speaks vW_count vW_day vW_heard vW_geese H locs ls hf hP hD hS hl
      cases (show (none : Option (AI × AI × AI × AI × AI × AI × AI × AI × AI × Int32 × Int32 × Int32 × Int32)) = some o from hf)
    | succ n hk2 =>
      intro x1 x2 vP_sounds vP_mostOfSet vW_laws vW_kind vW_need vW_saved vW_voice vW_partner vW_speaks vW_count vW_day vW_heard vW_geese H locs ls hf hP hD hS hl
      replace hf : fX2_weigh_b2 RP RN RW (ht_lp15 (fX2_weigh_b2 RP RN RW) n) x1 x2 vP_sounds vP_mostOfSet vW_laws vW_kind vW_need vW_saved vW_voice vW_partner vW_speaks vW_count vW_day vW_heard vW_geese = some o := hf
      delta fX2_weigh_b2 at hf
      refine lv_iload_n hx hb dX2_weigh_2 rfl (lv_at hl 2 rfl) ?_
      refine lv_aload_n hx hb dX2_weigh_3 rfl (lv_at hl 0 rfl) ?_
      refine va_get (D := D) (ci := 2) (v := .ref jN) (C := RX2) (T := TX2) (N := 4) hx hb hts iw2 hown hK hP 0 rfl rfl 0 (by decide) kw2 (fun _ h9 => h9) rfl dX2_weigh_4 ?_
      refine va_get (D := D) (ci := 6) (v := .int RN.count) (C := RX6) (T := TX6) (N := 12) hx hb hts iw6 hown hK hP 3 rfl rfl 7 (by decide) kw4 (fun _ h9 => h9) rfl dX2_weigh_7 ?_
      refine lv_icmp_ge (tgt := 63) hx hb dX2_weigh_10 (by decide) (fun c_17 => ?_) (fun c_17 => ?_)
      · replace hf := ht_t c_17 hf
        exact b63  vP_sounds vP_mostOfSet vW_laws vW_kind vW_need vW_saved vW_voice vW_partner vW_speaks vW_count vW_day vW_heard vW_geese _ _ _ hf hP hD hS (lv_sub hl [0] rfl)
      · replace hf := ht_f c_17 hf
        refine lv_iload_n hx hb dX2_weigh_13 rfl (lv_at hl 2 rfl) ?_
        refine lv_istore_n (lv' := [(3, .int x2), (0, .ref jP), (1, .int x1), (2, .int x2)]) hx hb dX2_weigh_14 rfl hl (by decide) rfl (fun ls hl => ?_)
        exact b15 _ hk2 FU x1 x2 x2 vP_sounds vP_mostOfSet vW_laws vW_kind vW_need vW_saved vW_voice vW_partner vW_speaks vW_count vW_day vW_heard vW_geese _ _ _ hf hP hD hS (lv_sub hl [1, 2, 3, 0] rfl)
  delta fX2_weigh at hf
  refine lv_iconst (v := 0) hx hb dX2_weigh_0 (by decide) ?_
  refine lv_istore_n (lv' := [(2, .int (0 : Int32)), (0, .ref jP), (1, .int p0)]) hx hb dX2_weigh_1 rfl hl (by decide) rfl (fun ls hl => ?_)
  exact b2  FU p0 (0 : Int32) RP.sounds RP.mostOfSet RW.laws RW.kind RW.need RW.saved RW.voice RW.partner RW.speaks RW.count RW.day RW.heard RW.geese _ _ _ hf hP hD hS (lv_sub hl [1, 2, 0] rfl)
abbrev rmX2_mostSound : Room := { frames := 1, cells := 0, slots := 0, locals := 20 }
theorem hdX2_mostSound : yX2_mostSound.cls = RX2 ∧ yX2_mostSound.cls ≠ "java/lang/invoke/MethodHandle" ∧ yX2_mostSound.cls ≠ "java/lang/invoke/VarHandle" ∧ (parseMethodDescriptor yX2_mostSound.desc).map (fun d => d.parameters.length) = some 0 := by decide +kernel
def fX2_mostSound (RP : PairV) (RN : TownV) : Option Int32 := ht_bn (fX2_everyone RP RN) (fun o_1 => ht_gd (ht_ix o_1 256) (some (RP.mostOfSet o_1.toNatClampNeg)))
set_option maxHeartbeats 1000000 in
set_option maxRecDepth 100000 in
theorem ctX2_mostSound (l : Launch) (D : va_G) (K : Nat → ClassId) (jP : Nat) (aP : Nat → Nat) (jN : Nat) (aN : Nat → Nat) (kP_few : Nat) (RP : PairV) (RN : TownV) (o : Int32) (hf : fX2_mostSound RP RN = some o) (sz : Nat) : Met l yX2_mostSound wsX2_mostSound rmX2_mostSound (ht_Pre D K [.ref jP] (wPa K jP aP jN kP_few RP.sounds RP.mostOfSet ++ (wTw K jN aN RN.laws RN.kind RN.need RN.saved RN.voice RN.partner RN.speaks RN.count RN.day RN.heard RN.geese RN.z)) sz) (ht_Qi D K (wPa K jP aP jN kP_few RP.sounds RP.mostOfSet ++ (wTw K jN aN RN.laws RN.kind RN.need RN.saved RN.voice RN.partner RN.speaks RN.count RN.day RN.heard RN.geese RN.z)) o (va_A (wPa K jP aP jN kP_few RP.sounds RP.mostOfSet ++ (wTw K jN aN RN.laws RN.kind RN.need RN.saved RN.voice RN.partner RN.speaks RN.count RN.day RN.heard RN.geese RN.z)) sz)) 0 0 (va_A (wPa K jP aP jN kP_few RP.sounds RP.mostOfSet ++ (wTw K jN aN RN.laws RN.kind RN.need RN.saved RN.voice RN.partner RN.speaks RN.count RN.day RN.heard RN.geese RN.z)) sz) := by
  refine ht_enter (Qf := ht_Qi D K (wPa K jP aP jN kP_few RP.sounds RP.mostOfSet ++ (wTw K jN aN RN.laws RN.kind RN.need RN.saved RN.voice RN.partner RN.speaks RN.count RN.day RN.heard RN.geese RN.z)) o) (cc := cX2_mostSound) (maxL := 1) (rt := (some .int)) (by decide) rfl (Nat.le_of_ble_eq_true rfl) ?_ sz
  intro p e s m below meth c A Q H locs ls hQ hx hb hr hlk hmn hml hown hts hA hK hP hD hS hl
  have hown : s.vm.findClass RX2 = some m.cls := hown
  have hF : CallFix p m c cX2_mostSound 1 s ([.ref jP] : List Value).toArray wsX2_mostSound RX2 := ⟨hx, hb, hml, hown, hts⟩
  have hl : lv_has ls 1 [(0, .ref jP)] := hl
  have iw2 : ∀ w ∈ u_ws RX2 TX2 4, w ∈ wsX2_mostSound := by decide +kernel
  have kw1 := hts (.fieldLink RX2 22 "HeldTongues$Pairings" "mostOfSet" "[I") (by decide +kernel)
  delta fX2_mostSound at hf
  refine lv_aload_n hx hb dX2_mostSound_0 rfl (lv_at hl 0 rfl) ?_
  refine va_get (D := D) (ci := 2) (v := .ref (aP 1)) (C := RX2) (T := TX2) (N := 4) hx hb hts iw2 hown hK hP 0 rfl rfl 3 (by decide) kw1 (fun _ h9 => h9) rfl dX2_mostSound_1 ?_
  refine lv_aload_n hx hb dX2_mostSound_4 rfl (lv_at hl 0 rfl) ?_
  obtain ⟨o_1, ho_1, hf⟩ := ht_bn_ob hf
  refine ht_callVi (r := o_1) (rest := [.ref (aP 1)]) (As := []) (wc := (wPa K jP aP jN kP_few RP.sounds RP.mostOfSet ++ (wTw K jN aN RN.laws RN.kind RN.need RN.saved RN.voice RN.partner RN.speaks RN.count RN.day RN.heard RN.geese RN.z))) (wr := []) (w1 := (wPa K jP aP jN kP_few RP.sounds RP.mostOfSet ++ (wTw K jN aN RN.laws RN.kind RN.need RN.saved RN.voice RN.partner RN.speaks RN.count RN.day RN.heard RN.geese RN.z))) (w2 := (wPa K jP aP jN kP_few RP.sounds RP.mostOfSet ++ (wTw K jN aN RN.laws RN.kind RN.need RN.saved RN.voice RN.partner RN.speaks RN.count RN.day RN.heard RN.geese RN.z))) hF (ctX2_everyone l D K jP aP jN aN kP_few RP RN o_1 ho_1 H.size) (cwV 0 hts gX2_mostSound_X2_everyone rfl rfl rfl hdX2_everyone ⟨Nat.le_of_ble_eq_true rfl, Nat.le_of_ble_eq_true rfl⟩) hK hP hD hS hA [0, 1, 2, 3, 4, 5, 6, 7, 8, 9, 10] [] rfl rfl (by decide) (by decide) (by decide) [0, 1, 2, 3, 4, 5, 6, 7, 8, 9, 10] rfl (by decide) (va_recv hK hP (ci := 2) (q0 := 0) rfl rfl) rfl hl.1 rfl (Nat.le_of_ble_eq_true rfl) dX2_mostSound_5 ⟨Nat.zero_le _, Nat.zero_le _⟩ (fun H locs hP hD hS => ?_)
  obtain ⟨g_2, hf⟩ := ht_gd_ob hf
  refine va_iald hx hb hK hP 2 1 rfl rfl (ht_ix_in g_2) dX2_mostSound_8 ?_
  have ho := Option.some.inj hf
  subst ho; subst hQ
  exact ht_iret hx hb hr hlk rfl hK hP hD hS dX2_mostSound_9
abbrev rmX2_firstChoice : Room := { frames := 2, cells := 0, slots := 0, locals := 46 }
theorem hdX2_firstChoice : yX2_firstChoice.cls = RX2 ∧ yX2_firstChoice.cls ≠ "java/lang/invoke/MethodHandle" ∧ yX2_firstChoice.cls ≠ "java/lang/invoke/VarHandle" ∧ (parseMethodDescriptor yX2_firstChoice.desc).map (fun d => d.parameters.length) = some 2 := by decide +kernel
def fX2_firstChoice_b40 (RP : PairV) (RN : TownV) (k2 : Int32 → Int32 → Int32 → Option Int32) (x1 : Int32) (x2 : Int32) (x3 : Int32) : Option Int32 := ht_nm (x3 + (1 : Int32)) (fun x3_1 => k2 x1 x2 x3_1)
def fX2_firstChoice_b2 (RP : PairV) (RN : TownV) (k2 : Int32 → Int32 → Int32 → Option Int32) (x1 : Int32) (x2 : Int32) (x3 : Int32) : Option Int32 := if RN.count ≤ x3 then (some x1) else (if ((x2 >>> (x3 &&& 31)) &&& (1 : Int32)) = (1 : Int32) then (ht_bn (fX2_soundIf RP x1 x3 x2) (fun o_4 => ht_gd (ht_ix x2 256) (if o_4 = (RP.mostOfSet x2.toNatClampNeg) then (some x3) else (fX2_firstChoice_b40 RP RN k2 x1 x2 x3)))) else (fX2_firstChoice_b40 RP RN k2 x1 x2 x3))
def fX2_firstChoice (RP : PairV) (RN : TownV) (p0 : Int32) (p1 : Int32) : Option Int32 := ht_lp3 (fX2_firstChoice_b2 RP RN) FU p0 p1 p0
set_option maxHeartbeats 1000000 in
set_option maxRecDepth 100000 in
theorem ctX2_firstChoice (l : Launch) (D : va_G) (K : Nat → ClassId) (jP : Nat) (aP : Nat → Nat) (jN : Nat) (aN : Nat → Nat) (kP_few : Nat) (RP : PairV) (RN : TownV) (p0 : Int32) (p1 : Int32) (o : Int32) (hf : fX2_firstChoice RP RN p0 p1 = some o) (sz : Nat) : Met l yX2_firstChoice wsX2_firstChoice rmX2_firstChoice (ht_Pre D K [.ref jP, .int p0, .int p1] (wPa K jP aP jN kP_few RP.sounds RP.mostOfSet ++ (wTw K jN aN RN.laws RN.kind RN.need RN.saved RN.voice RN.partner RN.speaks RN.count RN.day RN.heard RN.geese RN.z)) sz) (ht_Qi D K (wPa K jP aP jN kP_few RP.sounds RP.mostOfSet ++ (wTw K jN aN RN.laws RN.kind RN.need RN.saved RN.voice RN.partner RN.speaks RN.count RN.day RN.heard RN.geese RN.z)) o (va_A (wPa K jP aP jN kP_few RP.sounds RP.mostOfSet ++ (wTw K jN aN RN.laws RN.kind RN.need RN.saved RN.voice RN.partner RN.speaks RN.count RN.day RN.heard RN.geese RN.z)) sz)) 0 0 (va_A (wPa K jP aP jN kP_few RP.sounds RP.mostOfSet ++ (wTw K jN aN RN.laws RN.kind RN.need RN.saved RN.voice RN.partner RN.speaks RN.count RN.day RN.heard RN.geese RN.z)) sz) := by
  refine ht_enter (Qf := ht_Qi D K (wPa K jP aP jN kP_few RP.sounds RP.mostOfSet ++ (wTw K jN aN RN.laws RN.kind RN.need RN.saved RN.voice RN.partner RN.speaks RN.count RN.day RN.heard RN.geese RN.z)) o) (cc := cX2_firstChoice) (maxL := 4) (rt := (some .int)) (by decide) rfl (Nat.le_of_ble_eq_true rfl) ?_ sz
  intro p e s m below meth c A Q H locs ls hQ hx hb hr hlk hmn hml hown hts hA hK hP hD hS hl
  have hown : s.vm.findClass RX2 = some m.cls := hown
  have hF : CallFix p m c cX2_firstChoice 4 s ([.ref jP, .int p0, .int p1] : List Value).toArray wsX2_firstChoice RX2 := ⟨hx, hb, hml, hown, hts⟩
  have hl : lv_has ls 4 [(0, .ref jP), (1, .int p0), (2, .int p1)] := hl
  have iw2 : ∀ w ∈ u_ws RX2 TX2 4, w ∈ wsX2_firstChoice := by decide +kernel
  have kw1 := hts (.fieldLink RX2 25 "HeldTongues$Pairings" "now" "LHeldTongues$Town;") (by decide +kernel)
  have iw6 : ∀ w ∈ u_ws RX6 TX6 12, w ∈ wsX2_firstChoice := by decide +kernel
  have kw3 := hts (.fieldLink RX2 28 "HeldTongues$Town" "count" "I") (by decide +kernel)
  have kw4 := hts (.fieldLink RX2 22 "HeldTongues$Pairings" "mostOfSet" "[I") (by decide +kernel)
  have b40 : ∀ (k2 : Int32 → Int32 → Int32 → Option Int32) (hk2 : ∀ (x1 : Int32) (x2 : Int32) (x3 : Int32) (H : Heap) (locs : List Loc) (ls : Array Slot), k2 x1 x2 x3 = some o → va_P D vwCl (wPa K jP aP jN kP_few RP.sounds RP.mostOfSet ++ (wTw K jN aN RN.laws RN.kind RN.need RN.saved RN.voice RN.partner RN.speaks RN.count RN.day RN.heard RN.geese RN.z)) H → va_D A (wPa K jP aP jN kP_few RP.sounds RP.mostOfSet ++ (wTw K jN aN RN.laws RN.kind RN.need RN.saved RN.voice RN.partner RN.speaks RN.count RN.day RN.heard RN.geese RN.z)) → va_S A s.heap H locs → lv_has ls 4 [(0, .ref jP), (1, .int x1), (2, .int x2), (3, .int x3)] → W p l e (headSpec wsX2_firstChoice rmX2_firstChoice).room s m ([.ref jP, .int p0, .int p1] : List Value).toArray below meth c H locs 0 0 Q (F0 m 2 ls [])) (x1 : Int32) (x2 : Int32) (x3 : Int32) (H : Heap) (locs : List Loc) (ls : Array Slot), fX2_firstChoice_b40 RP RN k2 x1 x2 x3 = some o → va_P D vwCl (wPa K jP aP jN kP_few RP.sounds RP.mostOfSet ++ (wTw K jN aN RN.laws RN.kind RN.need RN.saved RN.voice RN.partner RN.speaks RN.count RN.day RN.heard RN.geese RN.z)) H → va_D A (wPa K jP aP jN kP_few RP.sounds RP.mostOfSet ++ (wTw K jN aN RN.laws RN.kind RN.need RN.saved RN.voice RN.partner RN.speaks RN.count RN.day RN.heard RN.geese RN.z)) → va_S A s.heap H locs → lv_has ls 4 [(0, .ref jP), (1, .int x1), (2, .int x2), (3, .int x3)] → W p l e (headSpec wsX2_firstChoice rmX2_firstChoice).room s m ([.ref jP, .int p0, .int p1] : List Value).toArray below meth c H locs 0 0 Q (F0 m 40 ls []) := by
    intro k2 hk2 x1 x2 x3 H locs ls hf hP hD hS hl
    delta fX2_firstChoice_b40 at hf
    obtain ⟨x3_1, ex3_1, hf⟩ := ht_nm_ob hf
    refine lv_iinc (v := x3_1) (lv' := [(3, .int x3_1), (0, .ref jP), (1, .int x1), (2, .int x2)]) hx hb dX2_firstChoice_40 hl (k := 3) rfl (by rw [ex3_1]; rfl) (by decide) rfl (fun ls hl => ?_)
    refine lv_goto (tgt := 2) hx hb dX2_firstChoice_43 (by decide) ?_
    exact hk2 x1 x2 x3_1 _ _ _ hf hP hD hS (lv_sub hl [1, 2, 3, 0] rfl)
  have b2 : ∀ (n : Nat) (x1 : Int32) (x2 : Int32) (x3 : Int32) (H : Heap) (locs : List Loc) (ls : Array Slot), ht_lp3 (fX2_firstChoice_b2 RP RN) n x1 x2 x3 = some o → va_P D vwCl (wPa K jP aP jN kP_few RP.sounds RP.mostOfSet ++ (wTw K jN aN RN.laws RN.kind RN.need RN.saved RN.voice RN.partner RN.speaks RN.count RN.day RN.heard RN.geese RN.z)) H → va_D A (wPa K jP aP jN kP_few RP.sounds RP.mostOfSet ++ (wTw K jN aN RN.laws RN.kind RN.need RN.saved RN.voice RN.partner RN.speaks RN.count RN.day RN.heard RN.geese RN.z)) → va_S A s.heap H locs → lv_has ls 4 [(0, .ref jP), (1, .int x1), (2, .int x2), (3, .int x3)] → W p l e (headSpec wsX2_firstChoice rmX2_firstChoice).room s m ([.ref jP, .int p0, .int p1] : List Value).toArray below meth c H locs 0 0 Q (F0 m 2 ls []) := by
    intro n
    induction n with
    | zero =>
      intro x1 x2 x3 H locs ls hf hP hD hS hl
      cases (show (none : Option Int32) = some o from hf)
    | succ n hk2 =>
      intro x1 x2 x3 H locs ls hf hP hD hS hl
      replace hf : fX2_firstChoice_b2 RP RN (ht_lp3 (fX2_firstChoice_b2 RP RN) n) x1 x2 x3 = some o := hf
      delta fX2_firstChoice_b2 at hf
      refine lv_iload_n hx hb dX2_firstChoice_2 rfl (lv_at hl 3 rfl) ?_
      refine lv_aload_n hx hb dX2_firstChoice_3 rfl (lv_at hl 0 rfl) ?_
      refine va_get (D := D) (ci := 2) (v := .ref jN) (C := RX2) (T := TX2) (N := 4) hx hb hts iw2 hown hK hP 0 rfl rfl 0 (by decide) kw1 (fun _ h9 => h9) rfl dX2_firstChoice_4 ?_
      refine va_get (D := D) (ci := 6) (v := .int RN.count) (C := RX6) (T := TX6) (N := 12) hx hb hts iw6 hown hK hP 3 rfl rfl 7 (by decide) kw3 (fun _ h9 => h9) rfl dX2_firstChoice_7 ?_
      refine lv_icmp_ge (tgt := 46) hx hb dX2_firstChoice_10 (by decide) (fun c_2 => ?_) (fun c_2 => ?_)
      · replace hf := ht_t c_2 hf
        refine lv_iload_n hx hb dX2_firstChoice_46 rfl (lv_at hl 1 rfl) ?_
        have ho := Option.some.inj hf
        subst ho; subst hQ
        exact ht_iret hx hb hr hlk rfl hK hP hD hS dX2_firstChoice_47
      · replace hf := ht_f c_2 hf
        refine lv_iload_n hx hb dX2_firstChoice_13 rfl (lv_at hl 2 rfl) ?_
        refine lv_iload_n hx hb dX2_firstChoice_14 rfl (lv_at hl 3 rfl) ?_
        refine lv_ishr hx hb dX2_firstChoice_15 ?_
        refine lv_iconst (v := 1) hx hb dX2_firstChoice_16 (by decide) ?_
        refine lv_iand hx hb dX2_firstChoice_17 ?_
        refine lv_iconst (v := 1) hx hb dX2_firstChoice_18 (by decide) ?_
        refine lv_icmp_ne (tgt := 40) hx hb dX2_firstChoice_19 (by decide) (fun c_3 => ?_) (fun c_3 => ?_)
        · replace hf := ht_f c_3 hf
          exact b40 _ hk2 x1 x2 x3 _ _ _ hf hP hD hS hl
        · replace hf := ht_t c_3 hf
          refine lv_aload_n hx hb dX2_firstChoice_22 rfl (lv_at hl 0 rfl) ?_
          refine lv_iload_n hx hb dX2_firstChoice_23 rfl (lv_at hl 1 rfl) ?_
          refine lv_iload_n hx hb dX2_firstChoice_24 rfl (lv_at hl 3 rfl) ?_
          refine lv_iload_n hx hb dX2_firstChoice_25 rfl (lv_at hl 2 rfl) ?_
          obtain ⟨o_4, ho_4, hf⟩ := ht_bn_ob hf
          refine ht_callVi (r := o_4) (rest := []) (As := [.int x1, .int x3, .int x2]) (wc := (wPa K jP aP jN kP_few RP.sounds RP.mostOfSet)) (wr := (wTw K jN aN RN.laws RN.kind RN.need RN.saved RN.voice RN.partner RN.speaks RN.count RN.day RN.heard RN.geese RN.z)) (w1 := (wPa K jP aP jN kP_few RP.sounds RP.mostOfSet)) (w2 := (wPa K jP aP jN kP_few RP.sounds RP.mostOfSet ++ (wTw K jN aN RN.laws RN.kind RN.need RN.saved RN.voice RN.partner RN.speaks RN.count RN.day RN.heard RN.geese RN.z))) hF (ctX2_soundIf l D K jP aP jN kP_few RP x1 x3 x2 o_4 ho_4 H.size) (cwV 3 hts gX2_firstChoice_X2_soundIf rfl rfl rfl hdX2_soundIf ⟨Nat.le_of_ble_eq_true rfl, Nat.le_of_ble_eq_true rfl⟩) hK hP hD hS hA [0, 1, 2] [3, 4, 5, 6, 7, 8, 9, 10] rfl rfl (by decide) (by decide) (by decide) [8, 9, 10, 0, 1, 2, 3, 4, 5, 6, 7] rfl (by decide) (va_recv hK hP (ci := 2) (q0 := 0) rfl rfl) rfl hl.1 rfl (Nat.le_of_ble_eq_true rfl) dX2_firstChoice_26 ⟨Nat.zero_le _, Nat.zero_le _⟩ (fun H locs hP hD hS => ?_)
          refine lv_aload_n hx hb dX2_firstChoice_29 rfl (lv_at hl 0 rfl) ?_
          refine va_get (D := D) (ci := 2) (v := .ref (aP 1)) (C := RX2) (T := TX2) (N := 4) hx hb hts iw2 hown hK hP 0 rfl rfl 3 (by decide) kw4 (fun _ h9 => h9) rfl dX2_firstChoice_30 ?_
          refine lv_iload_n hx hb dX2_firstChoice_33 rfl (lv_at hl 2 rfl) ?_
          obtain ⟨g_5, hf⟩ := ht_gd_ob hf
          refine va_iald hx hb hK hP 2 1 rfl rfl (ht_ix_in g_5) dX2_firstChoice_34 ?_
          refine lv_icmp_ne (tgt := 40) hx hb dX2_firstChoice_35 (by decide) (fun c_6 => ?_) (fun c_6 => ?_)
          · replace hf := ht_f c_6 hf
            exact b40 _ hk2 x1 x2 x3 _ _ _ hf hP hD hS hl
          · replace hf := ht_t c_6 hf
            refine lv_iload_n hx hb dX2_firstChoice_38 rfl (lv_at hl 3 rfl) ?_
            have ho := Option.some.inj hf
            subst ho; subst hQ
            exact ht_iret hx hb hr hlk rfl hK hP hD hS dX2_firstChoice_39
  delta fX2_firstChoice at hf
  refine lv_iload_n hx hb dX2_firstChoice_0 rfl (lv_at hl 1 rfl) ?_
  refine lv_istore_n (lv' := [(3, .int p0), (0, .ref jP), (1, .int p0), (2, .int p1)]) hx hb dX2_firstChoice_1 rfl hl (by decide) rfl (fun ls hl => ?_)
  exact b2  FU p0 p1 p0 _ _ _ hf hP hD hS (lv_sub hl [1, 2, 3, 0] rfl)
abbrev rmX2_partnerInFirstWay : Room := { frames := 3, cells := 0, slots := 0, locals := 69 }
theorem hdX2_partnerInFirstWay : yX2_partnerInFirstWay.cls = RX2 ∧ yX2_partnerInFirstWay.cls ≠ "java/lang/invoke/MethodHandle" ∧ yX2_partnerInFirstWay.cls ≠ "java/lang/invoke/VarHandle" ∧ (parseMethodDescriptor yX2_partnerInFirstWay.desc).map (fun d => d.parameters.length) = some 1 := by decide +kernel
def fX2_partnerInFirstWay_b60 (RP : PairV) (RN : TownV) (k7 : Int32 → Int32 → Int32 → Option Int32) (x1 : Int32) (x2 : Int32) (x3 : Int32) : Option Int32 := ht_nm (x3 + (1 : Int32)) (fun x3_1 => k7 x1 x2 x3_1)
def fX2_partnerInFirstWay_b40 (RP : PairV) (RN : TownV) (x4 : Int32) : Option Int32 := some x4
def fX2_partnerInFirstWay_b7 (RP : PairV) (RN : TownV) (k7 : Int32 → Int32 → Int32 → Option Int32) (x1 : Int32) (x2 : Int32) (x3 : Int32) : Option Int32 := if RN.count ≤ x3 then (some x1) else (if ((x2 >>> (x3 &&& 31)) &&& (1 : Int32)) = (1 : Int32) then (ht_bn (fX2_firstChoice RP RN x3 x2) (fun o_4 => if x3 = x1 then (fX2_partnerInFirstWay_b40 RP RN o_4) else (if o_4 = x1 then (some x3) else (ht_bn (fX2_without RP x3 o_4 x2) (fun o_7 => fX2_partnerInFirstWay_b60 RP RN k7 x1 o_7 x3))))) else (fX2_partnerInFirstWay_b60 RP RN k7 x1 x2 x3))
def fX2_partnerInFirstWay (RP : PairV) (RN : TownV) (p0 : Int32) : Option Int32 := ht_bn (fX2_everyone RP RN) (fun o_8 => ht_lp3 (fX2_partnerInFirstWay_b7 RP RN) FU p0 o_8 (0 : Int32))
set_option maxHeartbeats 1000000 in
set_option maxRecDepth 100000 in
theorem ctX2_partnerInFirstWay (l : Launch) (D : va_G) (K : Nat → ClassId) (jP : Nat) (aP : Nat → Nat) (jN : Nat) (aN : Nat → Nat) (kP_few : Nat) (RP : PairV) (RN : TownV) (p0 : Int32) (o : Int32) (hf : fX2_partnerInFirstWay RP RN p0 = some o) (sz : Nat) : Met l yX2_partnerInFirstWay wsX2_partnerInFirstWay rmX2_partnerInFirstWay (ht_Pre D K [.ref jP, .int p0] (wPa K jP aP jN kP_few RP.sounds RP.mostOfSet ++ (wTw K jN aN RN.laws RN.kind RN.need RN.saved RN.voice RN.partner RN.speaks RN.count RN.day RN.heard RN.geese RN.z)) sz) (ht_Qi D K (wPa K jP aP jN kP_few RP.sounds RP.mostOfSet ++ (wTw K jN aN RN.laws RN.kind RN.need RN.saved RN.voice RN.partner RN.speaks RN.count RN.day RN.heard RN.geese RN.z)) o (va_A (wPa K jP aP jN kP_few RP.sounds RP.mostOfSet ++ (wTw K jN aN RN.laws RN.kind RN.need RN.saved RN.voice RN.partner RN.speaks RN.count RN.day RN.heard RN.geese RN.z)) sz)) 0 0 (va_A (wPa K jP aP jN kP_few RP.sounds RP.mostOfSet ++ (wTw K jN aN RN.laws RN.kind RN.need RN.saved RN.voice RN.partner RN.speaks RN.count RN.day RN.heard RN.geese RN.z)) sz) := by
  refine ht_enter (Qf := ht_Qi D K (wPa K jP aP jN kP_few RP.sounds RP.mostOfSet ++ (wTw K jN aN RN.laws RN.kind RN.need RN.saved RN.voice RN.partner RN.speaks RN.count RN.day RN.heard RN.geese RN.z)) o) (cc := cX2_partnerInFirstWay) (maxL := 5) (rt := (some .int)) (by decide) rfl (Nat.le_of_ble_eq_true rfl) ?_ sz
  intro p e s m below meth c A Q H locs ls hQ hx hb hr hlk hmn hml hown hts hA hK hP hD hS hl
  have hown : s.vm.findClass RX2 = some m.cls := hown
  have hF : CallFix p m c cX2_partnerInFirstWay 5 s ([.ref jP, .int p0] : List Value).toArray wsX2_partnerInFirstWay RX2 := ⟨hx, hb, hml, hown, hts⟩
  have hl : lv_has ls 5 [(0, .ref jP), (1, .int p0)] := hl
  have iw2 : ∀ w ∈ u_ws RX2 TX2 4, w ∈ wsX2_partnerInFirstWay := by decide +kernel
  have kw1 := hts (.fieldLink RX2 25 "HeldTongues$Pairings" "now" "LHeldTongues$Town;") (by decide +kernel)
  have iw6 : ∀ w ∈ u_ws RX6 TX6 12, w ∈ wsX2_partnerInFirstWay := by decide +kernel
  have kw3 := hts (.fieldLink RX2 28 "HeldTongues$Town" "count" "I") (by decide +kernel)
  have b60 : ∀ (k7 : Int32 → Int32 → Int32 → Option Int32) (hk7 : ∀ (x1 : Int32) (x2 : Int32) (x3 : Int32) (H : Heap) (locs : List Loc) (ls : Array Slot), k7 x1 x2 x3 = some o → va_P D vwCl (wPa K jP aP jN kP_few RP.sounds RP.mostOfSet ++ (wTw K jN aN RN.laws RN.kind RN.need RN.saved RN.voice RN.partner RN.speaks RN.count RN.day RN.heard RN.geese RN.z)) H → va_D A (wPa K jP aP jN kP_few RP.sounds RP.mostOfSet ++ (wTw K jN aN RN.laws RN.kind RN.need RN.saved RN.voice RN.partner RN.speaks RN.count RN.day RN.heard RN.geese RN.z)) → va_S A s.heap H locs → lv_has ls 5 [(0, .ref jP), (1, .int x1), (2, .int x2), (3, .int x3)] → W p l e (headSpec wsX2_partnerInFirstWay rmX2_partnerInFirstWay).room s m ([.ref jP, .int p0] : List Value).toArray below meth c H locs 0 0 Q (F0 m 7 ls [])) (x1 : Int32) (x2 : Int32) (x3 : Int32) (H : Heap) (locs : List Loc) (ls : Array Slot), fX2_partnerInFirstWay_b60 RP RN k7 x1 x2 x3 = some o → va_P D vwCl (wPa K jP aP jN kP_few RP.sounds RP.mostOfSet ++ (wTw K jN aN RN.laws RN.kind RN.need RN.saved RN.voice RN.partner RN.speaks RN.count RN.day RN.heard RN.geese RN.z)) H → va_D A (wPa K jP aP jN kP_few RP.sounds RP.mostOfSet ++ (wTw K jN aN RN.laws RN.kind RN.need RN.saved RN.voice RN.partner RN.speaks RN.count RN.day RN.heard RN.geese RN.z)) → va_S A s.heap H locs → lv_has ls 5 [(0, .ref jP), (1, .int x1), (2, .int x2), (3, .int x3)] → W p l e (headSpec wsX2_partnerInFirstWay rmX2_partnerInFirstWay).room s m ([.ref jP, .int p0] : List Value).toArray below meth c H locs 0 0 Q (F0 m 60 ls []) := by
    intro k7 hk7 x1 x2 x3 H locs ls hf hP hD hS hl
    delta fX2_partnerInFirstWay_b60 at hf
    obtain ⟨x3_1, ex3_1, hf⟩ := ht_nm_ob hf
    refine lv_iinc (v := x3_1) (lv' := [(3, .int x3_1), (0, .ref jP), (1, .int x1), (2, .int x2)]) hx hb dX2_partnerInFirstWay_60 hl (k := 3) rfl (by rw [ex3_1]; rfl) (by decide) rfl (fun ls hl => ?_)
    refine lv_goto (tgt := 7) hx hb dX2_partnerInFirstWay_63 (by decide) ?_
    exact hk7 x1 x2 x3_1 _ _ _ hf hP hD hS (lv_sub hl [1, 2, 3, 0] rfl)
  have b40 : ∀ (x4 : Int32) (H : Heap) (locs : List Loc) (ls : Array Slot), fX2_partnerInFirstWay_b40 RP RN x4 = some o → va_P D vwCl (wPa K jP aP jN kP_few RP.sounds RP.mostOfSet ++ (wTw K jN aN RN.laws RN.kind RN.need RN.saved RN.voice RN.partner RN.speaks RN.count RN.day RN.heard RN.geese RN.z)) H → va_D A (wPa K jP aP jN kP_few RP.sounds RP.mostOfSet ++ (wTw K jN aN RN.laws RN.kind RN.need RN.saved RN.voice RN.partner RN.speaks RN.count RN.day RN.heard RN.geese RN.z)) → va_S A s.heap H locs → lv_has ls 5 [(4, .int x4)] → W p l e (headSpec wsX2_partnerInFirstWay rmX2_partnerInFirstWay).room s m ([.ref jP, .int p0] : List Value).toArray below meth c H locs 0 0 Q (F0 m 40 ls []) := by
    intro x4 H locs ls hf hP hD hS hl
    delta fX2_partnerInFirstWay_b40 at hf
    refine lv_iload hx hb dX2_partnerInFirstWay_40 (lv_at hl 0 rfl) ?_
    have ho := Option.some.inj hf
    subst ho; subst hQ
    exact ht_iret hx hb hr hlk rfl hK hP hD hS dX2_partnerInFirstWay_42
  have b7 : ∀ (n : Nat) (x1 : Int32) (x2 : Int32) (x3 : Int32) (H : Heap) (locs : List Loc) (ls : Array Slot), ht_lp3 (fX2_partnerInFirstWay_b7 RP RN) n x1 x2 x3 = some o → va_P D vwCl (wPa K jP aP jN kP_few RP.sounds RP.mostOfSet ++ (wTw K jN aN RN.laws RN.kind RN.need RN.saved RN.voice RN.partner RN.speaks RN.count RN.day RN.heard RN.geese RN.z)) H → va_D A (wPa K jP aP jN kP_few RP.sounds RP.mostOfSet ++ (wTw K jN aN RN.laws RN.kind RN.need RN.saved RN.voice RN.partner RN.speaks RN.count RN.day RN.heard RN.geese RN.z)) → va_S A s.heap H locs → lv_has ls 5 [(0, .ref jP), (1, .int x1), (2, .int x2), (3, .int x3)] → W p l e (headSpec wsX2_partnerInFirstWay rmX2_partnerInFirstWay).room s m ([.ref jP, .int p0] : List Value).toArray below meth c H locs 0 0 Q (F0 m 7 ls []) := by
    intro n
    induction n with
    | zero =>
      intro x1 x2 x3 H locs ls hf hP hD hS hl
      cases (show (none : Option Int32) = some o from hf)
    | succ n hk7 =>
      intro x1 x2 x3 H locs ls hf hP hD hS hl
      replace hf : fX2_partnerInFirstWay_b7 RP RN (ht_lp3 (fX2_partnerInFirstWay_b7 RP RN) n) x1 x2 x3 = some o := hf
      delta fX2_partnerInFirstWay_b7 at hf
      refine lv_iload_n hx hb dX2_partnerInFirstWay_7 rfl (lv_at hl 3 rfl) ?_
      refine lv_aload_n hx hb dX2_partnerInFirstWay_8 rfl (lv_at hl 0 rfl) ?_
      refine va_get (D := D) (ci := 2) (v := .ref jN) (C := RX2) (T := TX2) (N := 4) hx hb hts iw2 hown hK hP 0 rfl rfl 0 (by decide) kw1 (fun _ h9 => h9) rfl dX2_partnerInFirstWay_9 ?_
      refine va_get (D := D) (ci := 6) (v := .int RN.count) (C := RX6) (T := TX6) (N := 12) hx hb hts iw6 hown hK hP 3 rfl rfl 7 (by decide) kw3 (fun _ h9 => h9) rfl dX2_partnerInFirstWay_12 ?_
      refine lv_icmp_ge (tgt := 66) hx hb dX2_partnerInFirstWay_15 (by decide) (fun c_2 => ?_) (fun c_2 => ?_)
      · replace hf := ht_t c_2 hf
        refine lv_iload_n hx hb dX2_partnerInFirstWay_66 rfl (lv_at hl 1 rfl) ?_
        have ho := Option.some.inj hf
        subst ho; subst hQ
        exact ht_iret hx hb hr hlk rfl hK hP hD hS dX2_partnerInFirstWay_67
      · replace hf := ht_f c_2 hf
        refine lv_iload_n hx hb dX2_partnerInFirstWay_18 rfl (lv_at hl 2 rfl) ?_
        refine lv_iload_n hx hb dX2_partnerInFirstWay_19 rfl (lv_at hl 3 rfl) ?_
        refine lv_ishr hx hb dX2_partnerInFirstWay_20 ?_
        refine lv_iconst (v := 1) hx hb dX2_partnerInFirstWay_21 (by decide) ?_
        refine lv_iand hx hb dX2_partnerInFirstWay_22 ?_
        refine lv_iconst (v := 1) hx hb dX2_partnerInFirstWay_23 (by decide) ?_
        refine lv_icmp_ne (tgt := 60) hx hb dX2_partnerInFirstWay_24 (by decide) (fun c_3 => ?_) (fun c_3 => ?_)
        · replace hf := ht_f c_3 hf
          exact b60 _ hk7 x1 x2 x3 _ _ _ hf hP hD hS hl
        · replace hf := ht_t c_3 hf
          refine lv_aload_n hx hb dX2_partnerInFirstWay_27 rfl (lv_at hl 0 rfl) ?_
          refine lv_iload_n hx hb dX2_partnerInFirstWay_28 rfl (lv_at hl 3 rfl) ?_
          refine lv_iload_n hx hb dX2_partnerInFirstWay_29 rfl (lv_at hl 2 rfl) ?_
          obtain ⟨o_4, ho_4, hf⟩ := ht_bn_ob hf
          refine ht_callVi (r := o_4) (rest := []) (As := [.int x3, .int x2]) (wc := (wPa K jP aP jN kP_few RP.sounds RP.mostOfSet ++ (wTw K jN aN RN.laws RN.kind RN.need RN.saved RN.voice RN.partner RN.speaks RN.count RN.day RN.heard RN.geese RN.z))) (wr := []) (w1 := (wPa K jP aP jN kP_few RP.sounds RP.mostOfSet ++ (wTw K jN aN RN.laws RN.kind RN.need RN.saved RN.voice RN.partner RN.speaks RN.count RN.day RN.heard RN.geese RN.z))) (w2 := (wPa K jP aP jN kP_few RP.sounds RP.mostOfSet ++ (wTw K jN aN RN.laws RN.kind RN.need RN.saved RN.voice RN.partner RN.speaks RN.count RN.day RN.heard RN.geese RN.z))) hF (ctX2_firstChoice l D K jP aP jN aN kP_few RP RN x3 x2 o_4 ho_4 H.size) (cwV 2 hts gX2_partnerInFirstWay_X2_firstChoice rfl rfl rfl hdX2_firstChoice ⟨Nat.le_of_ble_eq_true rfl, Nat.le_of_ble_eq_true rfl⟩) hK hP hD hS hA [0, 1, 2, 3, 4, 5, 6, 7, 8, 9, 10] [] rfl rfl (by decide) (by decide) (by decide) [0, 1, 2, 3, 4, 5, 6, 7, 8, 9, 10] rfl (by decide) (va_recv hK hP (ci := 2) (q0 := 0) rfl rfl) rfl hl.1 rfl (Nat.le_of_ble_eq_true rfl) dX2_partnerInFirstWay_30 ⟨Nat.zero_le _, Nat.zero_le _⟩ (fun H locs hP hD hS => ?_)
          refine lv_istore (lv' := [(4, .int o_4), (0, .ref jP), (1, .int x1), (2, .int x2), (3, .int x3)]) hx hb dX2_partnerInFirstWay_33 hl (by decide) rfl (fun ls hl => ?_)
          refine lv_iload_n hx hb dX2_partnerInFirstWay_35 rfl (lv_at hl 4 rfl) ?_
          refine lv_iload_n hx hb dX2_partnerInFirstWay_36 rfl (lv_at hl 2 rfl) ?_
          refine lv_icmp_ne (tgt := 43) hx hb dX2_partnerInFirstWay_37 (by decide) (fun c_5 => ?_) (fun c_5 => ?_)
          · replace hf := ht_f c_5 hf
            refine lv_iload hx hb dX2_partnerInFirstWay_43 (lv_at hl 0 rfl) ?_
            refine lv_iload_n hx hb dX2_partnerInFirstWay_45 rfl (lv_at hl 2 rfl) ?_
            refine lv_icmp_ne (tgt := 51) hx hb dX2_partnerInFirstWay_46 (by decide) (fun c_6 => ?_) (fun c_6 => ?_)
            · replace hf := ht_f c_6 hf
              refine lv_aload_n hx hb dX2_partnerInFirstWay_51 rfl (lv_at hl 1 rfl) ?_
              refine lv_iload_n hx hb dX2_partnerInFirstWay_52 rfl (lv_at hl 4 rfl) ?_
              refine lv_iload hx hb dX2_partnerInFirstWay_53 (lv_at hl 0 rfl) ?_
              refine lv_iload_n hx hb dX2_partnerInFirstWay_55 rfl (lv_at hl 3 rfl) ?_
              obtain ⟨o_7, ho_7, hf⟩ := ht_bn_ob hf
              refine ht_callVi (r := o_7) (rest := []) (As := [.int x3, .int o_4, .int x2]) (wc := (wPa K jP aP jN kP_few RP.sounds RP.mostOfSet)) (wr := (wTw K jN aN RN.laws RN.kind RN.need RN.saved RN.voice RN.partner RN.speaks RN.count RN.day RN.heard RN.geese RN.z)) (w1 := (wPa K jP aP jN kP_few RP.sounds RP.mostOfSet)) (w2 := (wPa K jP aP jN kP_few RP.sounds RP.mostOfSet ++ (wTw K jN aN RN.laws RN.kind RN.need RN.saved RN.voice RN.partner RN.speaks RN.count RN.day RN.heard RN.geese RN.z))) hF (ctX2_without l D K jP aP jN kP_few RP x3 o_4 x2 o_7 ho_7 H.size) (cwV 3 hts gX2_partnerInFirstWay_X2_without rfl rfl rfl hdX2_without ⟨Nat.le_of_ble_eq_true rfl, Nat.le_of_ble_eq_true rfl⟩) hK hP hD hS hA [0, 1, 2] [3, 4, 5, 6, 7, 8, 9, 10] rfl rfl (by decide) (by decide) (by decide) [8, 9, 10, 0, 1, 2, 3, 4, 5, 6, 7] rfl (by decide) (va_recv hK hP (ci := 2) (q0 := 0) rfl rfl) rfl hl.1 rfl (Nat.le_of_ble_eq_true rfl) dX2_partnerInFirstWay_56 ⟨Nat.zero_le _, Nat.zero_le _⟩ (fun H locs hP hD hS => ?_)
              refine lv_istore_n (lv' := [(2, .int o_7), (4, .int o_4), (0, .ref jP), (1, .int x1), (3, .int x3)]) hx hb dX2_partnerInFirstWay_59 rfl hl (by decide) rfl (fun ls hl => ?_)
              exact b60 _ hk7 x1 o_7 x3 _ _ _ hf hP hD hS (lv_sub hl [2, 3, 0, 4] rfl)
            · replace hf := ht_t c_6 hf
              refine lv_iload_n hx hb dX2_partnerInFirstWay_49 rfl (lv_at hl 4 rfl) ?_
              have ho := Option.some.inj hf
              subst ho; subst hQ
              exact ht_iret hx hb hr hlk rfl hK hP hD hS dX2_partnerInFirstWay_50
          · replace hf := ht_t c_5 hf
            exact b40  o_4 _ _ _ hf hP hD hS (lv_sub hl [0] rfl)
  delta fX2_partnerInFirstWay at hf
  refine lv_aload_n hx hb dX2_partnerInFirstWay_0 rfl (lv_at hl 0 rfl) ?_
  obtain ⟨o_8, ho_8, hf⟩ := ht_bn_ob hf
  refine ht_callVi (r := o_8) (rest := []) (As := []) (wc := (wPa K jP aP jN kP_few RP.sounds RP.mostOfSet ++ (wTw K jN aN RN.laws RN.kind RN.need RN.saved RN.voice RN.partner RN.speaks RN.count RN.day RN.heard RN.geese RN.z))) (wr := []) (w1 := (wPa K jP aP jN kP_few RP.sounds RP.mostOfSet ++ (wTw K jN aN RN.laws RN.kind RN.need RN.saved RN.voice RN.partner RN.speaks RN.count RN.day RN.heard RN.geese RN.z))) (w2 := (wPa K jP aP jN kP_few RP.sounds RP.mostOfSet ++ (wTw K jN aN RN.laws RN.kind RN.need RN.saved RN.voice RN.partner RN.speaks RN.count RN.day RN.heard RN.geese RN.z))) hF (ctX2_everyone l D K jP aP jN aN kP_few RP RN o_8 ho_8 H.size) (cwV 0 hts gX2_partnerInFirstWay_X2_everyone rfl rfl rfl hdX2_everyone ⟨Nat.le_of_ble_eq_true rfl, Nat.le_of_ble_eq_true rfl⟩) hK hP hD hS hA [0, 1, 2, 3, 4, 5, 6, 7, 8, 9, 10] [] rfl rfl (by decide) (by decide) (by decide) [0, 1, 2, 3, 4, 5, 6, 7, 8, 9, 10] rfl (by decide) (va_recv hK hP (ci := 2) (q0 := 0) rfl rfl) rfl hl.1 rfl (Nat.le_of_ble_eq_true rfl) dX2_partnerInFirstWay_1 ⟨Nat.zero_le _, Nat.zero_le _⟩ (fun H locs hP hD hS => ?_)
  refine lv_istore_n (lv' := [(2, .int o_8), (0, .ref jP), (1, .int p0)]) hx hb dX2_partnerInFirstWay_4 rfl hl (by decide) rfl (fun ls hl => ?_)
  refine lv_iconst (v := 0) hx hb dX2_partnerInFirstWay_5 (by decide) ?_
  refine lv_istore_n (lv' := [(3, .int (0 : Int32)), (2, .int o_8), (0, .ref jP), (1, .int p0)]) hx hb dX2_partnerInFirstWay_6 rfl hl (by decide) rfl (fun ls hl => ?_)
  exact b7  FU p0 o_8 (0 : Int32) _ _ _ hf hP hD hS (lv_sub hl [2, 3, 1, 0] rfl)
