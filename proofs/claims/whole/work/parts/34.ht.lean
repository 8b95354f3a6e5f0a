abbrev rmX8_feed : Room := { frames := 1, cells := 0, slots := 0, locals := 24 }
theorem hdX8_feed : yX8_feed.cls = RX8 ∧ yX8_feed.cls ≠ "java/lang/invoke/MethodHandle" ∧ yX8_feed.cls ≠ "java/lang/invoke/VarHandle" ∧ (parseMethodDescriptor yX8_feed.desc).map (fun d => d.parameters.length) = some 2 := by decide +kernel
def fX8_feed (RX : HTV) (RA : TapeV) (p0 : Int64) (p1 : Int32) : Option (Int32 × AI × Int32) := ht_bn (fX8_within p1 (1 : Int32) (8 : Int32)) (fun o_1 => if o_1 = 0 then (some ((-1 : Int32), RA.bytes, RA.length)) else (if (RA.length + p1) ≤ (200 : Int32) then (ht_bn (fX4_take RA p0 p1) (fun o_4 => some (o_4.2, o_4.1, o_4.2))) else (some ((-2 : Int32), RA.bytes, RA.length))))
set_option maxHeartbeats 1000000 in
set_option maxRecDepth 100000 in
theorem ctX8_feed (l : Launch) (D : va_G) (K : Nat → ClassId) (jX : Nat) (jA : Nat) (aA : Nat → Nat) (kX_now : Nat) (kX_kept : Nat) (kX_tried : Nat) (kX_trials : Nat) (kX_pairings : Nat) (kX_telling : Nat) (kX_dayRows : Nat) (kX_deed : Nat) (kX_sheets : Nat) (kX_shelvedPerson : Nat) (kX_shelvedRow : Nat) (RX : HTV) (RA : TapeV) (p0 : Int64) (p1 : Int32) (o : (Int32 × AI × Int32)) (hf : fX8_feed RX RA p0 p1 = some o) (sz : Nat) : Met l yX8_feed wsX8_feed rmX8_feed (ht_Pre D K [.ref jX, .long p0, .int p1] (wHT K jX kX_now kX_kept kX_tried kX_trials kX_pairings jA kX_telling kX_dayRows kX_deed kX_sheets kX_shelvedPerson kX_shelvedRow RX.anythingKept ++ (wTa K jA aA RA.bytes RA.length)) sz) (ht_Qi D K (wHT K jX kX_now kX_kept kX_tried kX_trials kX_pairings jA kX_telling kX_dayRows kX_deed kX_sheets kX_shelvedPerson kX_shelvedRow RX.anythingKept ++ (wTa K jA aA o.2.1 o.2.2)) o.1 (va_A (wHT K jX kX_now kX_kept kX_tried kX_trials kX_pairings jA kX_telling kX_dayRows kX_deed kX_sheets kX_shelvedPerson kX_shelvedRow RX.anythingKept ++ (wTa K jA aA RA.bytes RA.length)) sz)) 0 0 (va_A (wHT K jX kX_now kX_kept kX_tried kX_trials kX_pairings jA kX_telling kX_dayRows kX_deed kX_sheets kX_shelvedPerson kX_shelvedRow RX.anythingKept ++ (wTa K jA aA RA.bytes RA.length)) sz) := by
  refine ht_enter (Qf := ht_Qi D K (wHT K jX kX_now kX_kept kX_tried kX_trials kX_pairings jA kX_telling kX_dayRows kX_deed kX_sheets kX_shelvedPerson kX_shelvedRow RX.anythingKept ++ (wTa K jA aA o.2.1 o.2.2)) o.1) (cc := cX8_feed) (maxL := 4) (rt := (some .int)) (by decide) rfl (Nat.le_of_ble_eq_true rfl) ?_ sz
  intro p e s m below meth c A Q H locs ls hQ hx hb hr hlk hmn hml hown hts hA hK hP hD hS hl
  have hown : s.vm.findClass RX8 = some m.cls := hown
  have hF : CallFix p m c cX8_feed 4 s ([.ref jX, .long p0, .int p1] : List Value).toArray wsX8_feed RX8 := ⟨hx, hb, hml, hown, hts⟩
  have hl : lv_has ls 4 [(0, .ref jX), (1, .long p0), (3, .int p1)] := hl
  have iw8 : ∀ w ∈ u_ws RX8 TX8 13, w ∈ wsX8_feed := by decide +kernel
  have kw1 := hts (.fieldLink RX8 43 "HeldTongues" "tape" "LHeldTongues$Tape;") (by decide +kernel)
  have iw4 : ∀ w ∈ u_ws RX4 TX4 2, w ∈ wsX8_feed := by decide +kernel
  have kw3 := hts (.fieldLink RX8 87 "HeldTongues$Tape" "length" "I") (by decide +kernel)
  delta fX8_feed at hf
  refine lv_iload_n hx hb dX8_feed_0 rfl (lv_at hl 2 rfl) ?_
  refine lv_iconst (v := 1) hx hb dX8_feed_1 (by decide) ?_
  refine lv_bipush (v := 8) hx hb dX8_feed_2 (by decide) ?_
  obtain ⟨o_1, ho_1, hf⟩ := ht_bn_ob hf
  refine ht_callSi (r := o_1) (rest := []) (As := [.int p1, .int (1 : Int32), .int (8 : Int32)]) (wc := []) (wr := (wHT K jX kX_now kX_kept kX_tried kX_trials kX_pairings jA kX_telling kX_dayRows kX_deed kX_sheets kX_shelvedPerson kX_shelvedRow RX.anythingKept ++ (wTa K jA aA RA.bytes RA.length))) (w1 := []) (w2 := (wHT K jX kX_now kX_kept kX_tried kX_trials kX_pairings jA kX_telling kX_dayRows kX_deed kX_sheets kX_shelvedPerson kX_shelvedRow RX.anythingKept ++ (wTa K jA aA RA.bytes RA.length))) hF (ctX8_within l D K p1 (1 : Int32) (8 : Int32) o_1 ho_1 H.size) (va_cwS 3 hts gX8_feed_X8_within rfl rfl rfl hdX8_within ⟨Nat.le_of_ble_eq_true rfl, Nat.le_of_ble_eq_true rfl⟩) hK hP hD hS hA [] [0, 1, 2] rfl rfl (by decide) (by decide) (by decide) [0, 1, 2] rfl (by decide) rfl hl.1 rfl (Nat.le_of_ble_eq_true rfl) dX8_feed_4 ⟨Nat.zero_le _, Nat.zero_le _⟩ (fun H locs hP hD hS => ?_)
  refine lv_if_ne (tgt := 12) hx hb dX8_feed_7 (by decide) (fun c_2 => ?_) (fun c_2 => ?_)
  · replace hf := ht_f c_2 hf
    refine lv_aload_n hx hb dX8_feed_12 rfl (lv_at hl 0 rfl) ?_
    refine va_get (D := D) (ci := 8) (v := .ref jA) (C := RX8) (T := TX8) (N := 13) hx hb hts iw8 hown hK hP 0 rfl rfl 5 (by decide) kw1 (fun _ h9 => h9) rfl dX8_feed_13 ?_
    refine va_get (D := D) (ci := 4) (v := .int RA.length) (C := RX4) (T := TX4) (N := 2) hx hb hts iw4 hown hK hP 1 rfl rfl 1 (by decide) kw3 (fun _ h9 => h9) rfl dX8_feed_16 ?_
    refine lv_iload_n hx hb dX8_feed_19 rfl (lv_at hl 2 rfl) ?_
    refine lv_iadd hx hb dX8_feed_20 ?_
    refine lv_sipush (v := 200) hx hb dX8_feed_21 (by decide) ?_
    refine lv_icmp_le (tgt := 30) hx hb dX8_feed_24 (by decide) (fun c_3 => ?_) (fun c_3 => ?_)
    · replace hf := ht_t c_3 hf
      refine lv_aload_n hx hb dX8_feed_30 rfl (lv_at hl 0 rfl) ?_
      refine va_get (D := D) (ci := 8) (v := .ref jA) (C := RX8) (T := TX8) (N := 13) hx hb hts iw8 hown hK hP 0 rfl rfl 5 (by decide) kw1 (fun _ h9 => h9) rfl dX8_feed_31 ?_
      refine lv_lload_n hx hb dX8_feed_34 rfl (lv_at hl 1 rfl) ?_
      refine lv_iload_n hx hb dX8_feed_35 rfl (lv_at hl 2 rfl) ?_
      obtain ⟨o_4, ho_4, hf⟩ := ht_bn_ob hf
      refine ht_callVv (rest := []) (As := [.long p0, .int p1]) (wc := (wTa K jA aA RA.bytes RA.length)) (wr := (wHT K jX kX_now kX_kept kX_tried kX_trials kX_pairings jA kX_telling kX_dayRows kX_deed kX_sheets kX_shelvedPerson kX_shelvedRow RX.anythingKept)) (w1 := (wTa K jA aA o_4.1 o_4.2)) (w2 := (wHT K jX kX_now kX_kept kX_tried kX_trials kX_pairings jA kX_telling kX_dayRows kX_deed kX_sheets kX_shelvedPerson kX_shelvedRow RX.anythingKept ++ (wTa K jA aA o_4.1 o_4.2))) hF (ctX4_take l D K jA aA RA p0 p1 o_4 ho_4 H.size) (cwV 2 hts gX8_feed_X4_take rfl rfl rfl hdX4_take ⟨Nat.le_of_ble_eq_true rfl, Nat.le_of_ble_eq_true rfl⟩) hK hP hD hS hA [1, 2] [0] rfl rfl (by decide) (by decide) (by decide) [0, 1, 2] rfl (by decide) (va_recv hK hP (ci := 4) (q0 := 1) rfl rfl) rfl hl.1 rfl (Nat.le_of_ble_eq_true rfl) dX8_feed_36 ⟨Nat.zero_le _, Nat.zero_le _⟩ (fun H locs hP hD hS => ?_)
      refine lv_aload_n hx hb dX8_feed_39 rfl (lv_at hl 0 rfl) ?_
      refine va_get (D := D) (ci := 8) (v := .ref jA) (C := RX8) (T := TX8) (N := 13) hx hb hts iw8 hown hK hP 0 rfl rfl 5 (by decide) kw1 (fun _ h9 => h9) rfl dX8_feed_40 ?_
      refine va_get (D := D) (ci := 4) (v := .int o_4.2) (C := RX4) (T := TX4) (N := 2) hx hb hts iw4 hown hK hP 1 rfl rfl 1 (by decide) kw3 (fun _ h9 => h9) rfl dX8_feed_43 ?_
      have ho := Option.some.inj hf
      subst ho; subst hQ
      exact ht_iret hx hb hr hlk rfl hK hP hD hS dX8_feed_46
    · replace hf := ht_f c_3 hf
      refine lv_bipush (v := -2) hx hb dX8_feed_27 (by decide) ?_
      have ho := Option.some.inj hf
      subst ho; subst hQ
      exact ht_iret hx hb hr hlk rfl hK hP hD hS dX8_feed_29
  · replace hf := ht_t c_2 hf
    refine lv_iconst (v := -1) hx hb dX8_feed_10 (by decide) ?_
    have ho := Option.some.inj hf
    subst ho; subst hQ
    exact ht_iret hx hb hr hlk rfl hK hP hD hS dX8_feed_11
abbrev rmX8_set : Room := { frames := 2, cells := 0, slots := 0, locals := 42 }
theorem hdX8_set : yX8_set.cls = RX8 ∧ yX8_set.cls ≠ "java/lang/invoke/MethodHandle" ∧ yX8_set.cls ≠ "java/lang/invoke/VarHandle" ∧ (parseMethodDescriptor yX8_set.desc).map (fun d => d.parameters.length) = some 2 := by decide +kernel
def fX8_set (RX : HTV) (RN : TownV) (p0 : Int32) (p1 : Int32) : Option (Int32 × AI) := ht_bn (fX8_isLaw p0) (fun o_1 => if o_1 = 0 then (some ((-1 : Int32), RN.laws)) else (ht_bn (fX8_mostOfLaw p0) (fun o_3 => ht_bn (fX8_within p1 (0 : Int32) o_3) (fun o_4 => if o_4 = 0 then (some ((-1 : Int32), RN.laws)) else (ht_gd (ht_ix p0 4) (ht_nm (RN.laws p0.toNatClampNeg) (fun x3_7 => ht_gd (ht_ix p0 4) (ht_nm (upd RN.laws p0.toNatClampNeg p1) (fun vN_laws_9 => some (x3_7, vN_laws_9))))))))))
set_option maxHeartbeats 1000000 in
set_option maxRecDepth 100000 in
theorem ctX8_set (l : Launch) (D : va_G) (K : Nat → ClassId) (jX : Nat) (jN : Nat) (aN : Nat → Nat) (kX_kept : Nat) (kX_tried : Nat) (kX_trials : Nat) (kX_pairings : Nat) (kX_tape : Nat) (kX_telling : Nat) (kX_dayRows : Nat) (kX_deed : Nat) (kX_sheets : Nat) (kX_shelvedPerson : Nat) (kX_shelvedRow : Nat) (RX : HTV) (RN : TownV) (p0 : Int32) (p1 : Int32) (o : (Int32 × AI)) (hf : fX8_set RX RN p0 p1 = some o) (sz : Nat) : Met l yX8_set wsX8_set rmX8_set (ht_Pre D K [.ref jX, .int p0, .int p1] (wHT K jX jN kX_kept kX_tried kX_trials kX_pairings kX_tape kX_telling kX_dayRows kX_deed kX_sheets kX_shelvedPerson kX_shelvedRow RX.anythingKept ++ (wTw K jN aN RN.laws RN.kind RN.need RN.saved RN.voice RN.partner RN.speaks RN.count RN.day RN.heard RN.geese RN.z)) sz) (ht_Qi D K (wHT K jX jN kX_kept kX_tried kX_trials kX_pairings kX_tape kX_telling kX_dayRows kX_deed kX_sheets kX_shelvedPerson kX_shelvedRow RX.anythingKept ++ (wTw K jN aN o.2 RN.kind RN.need RN.saved RN.voice RN.partner RN.speaks RN.count RN.day RN.heard RN.geese RN.z)) o.1 (va_A (wHT K jX jN kX_kept kX_tried kX_trials kX_pairings kX_tape kX_telling kX_dayRows kX_deed kX_sheets kX_shelvedPerson kX_shelvedRow RX.anythingKept ++ (wTw K jN aN RN.laws RN.kind RN.need RN.saved RN.voice RN.partner RN.speaks RN.count RN.day RN.heard RN.geese RN.z)) sz)) 0 0 (va_A (wHT K jX jN kX_kept kX_tried kX_trials kX_pairings kX_tape kX_telling kX_dayRows kX_deed kX_sheets kX_shelvedPerson kX_shelvedRow RX.anythingKept ++ (wTw K jN aN RN.laws RN.kind RN.need RN.saved RN.voice RN.partner RN.speaks RN.count RN.day RN.heard RN.geese RN.z)) sz) := by
  refine ht_enter (Qf := ht_Qi D K (wHT K jX jN kX_kept kX_tried kX_trials kX_pairings kX_tape kX_telling kX_dayRows kX_deed kX_sheets kX_shelvedPerson kX_shelvedRow RX.anythingKept ++ (wTw K jN aN o.2 RN.kind RN.need RN.saved RN.voice RN.partner RN.speaks RN.count RN.day RN.heard RN.geese RN.z)) o.1) (cc := cX8_set) (maxL := 4) (rt := (some .int)) (by decide) rfl (Nat.le_of_ble_eq_true rfl) ?_ sz
  intro p e s m below meth c A Q H locs ls hQ hx hb hr hlk hmn hml hown hts hA hK hP hD hS hl
  have hown : s.vm.findClass RX8 = some m.cls := hown
  have hF : CallFix p m c cX8_set 4 s ([.ref jX, .int p0, .int p1] : List Value).toArray wsX8_set RX8 := ⟨hx, hb, hml, hown, hts⟩
  have hl : lv_has ls 4 [(0, .ref jX), (1, .int p0), (2, .int p1)] := hl
  have iw8 : ∀ w ∈ u_ws RX8 TX8 13, w ∈ wsX8_set := by decide +kernel
  have kw1 := hts (.fieldLink RX8 10 "HeldTongues" "now" "LHeldTongues$Town;") (by decide +kernel)
  have iw6 : ∀ w ∈ u_ws RX6 TX6 12, w ∈ wsX8_set := by decide +kernel
  have kw3 := hts (.fieldLink RX8 123 "HeldTongues$Town" "laws" "[I") (by decide +kernel)
  delta fX8_set at hf
  refine lv_iload_n hx hb dX8_set_0 rfl (lv_at hl 1 rfl) ?_
  obtain ⟨o_1, ho_1, hf⟩ := ht_bn_ob hf
  refine ht_callSi (r := o_1) (rest := []) (As := [.int p0]) (wc := []) (wr := (wHT K jX jN kX_kept kX_tried kX_trials kX_pairings kX_tape kX_telling kX_dayRows kX_deed kX_sheets kX_shelvedPerson kX_shelvedRow RX.anythingKept ++ (wTw K jN aN RN.laws RN.kind RN.need RN.saved RN.voice RN.partner RN.speaks RN.count RN.day RN.heard RN.geese RN.z))) (w1 := []) (w2 := (wHT K jX jN kX_kept kX_tried kX_trials kX_pairings kX_tape kX_telling kX_dayRows kX_deed kX_sheets kX_shelvedPerson kX_shelvedRow RX.anythingKept ++ (wTw K jN aN RN.laws RN.kind RN.need RN.saved RN.voice RN.partner RN.speaks RN.count RN.day RN.heard RN.geese RN.z))) hF (ctX8_isLaw l D K p0 o_1 ho_1 H.size) (va_cwS 1 hts gX8_set_X8_isLaw rfl rfl rfl hdX8_isLaw ⟨Nat.le_of_ble_eq_true rfl, Nat.le_of_ble_eq_true rfl⟩) hK hP hD hS hA [] [0, 1, 2, 3, 4, 5, 6, 7, 8] rfl rfl (by decide) (by decide) (by decide) [0, 1, 2, 3, 4, 5, 6, 7, 8] rfl (by decide) rfl hl.1 rfl (Nat.le_of_ble_eq_true rfl) dX8_set_1 ⟨Nat.zero_le _, Nat.zero_le _⟩ (fun H locs hP hD hS => ?_)
  refine lv_if_eq (tgt := 19) hx hb dX8_set_4 (by decide) (fun c_2 => ?_) (fun c_2 => ?_)
  · replace hf := ht_t c_2 hf
    refine lv_iconst (v := -1) hx hb dX8_set_19 (by decide) ?_
    have ho := Option.some.inj hf
    subst ho; subst hQ
    exact ht_iret hx hb hr hlk rfl hK hP hD hS dX8_set_20
  · replace hf := ht_f c_2 hf
    refine lv_iload_n hx hb dX8_set_7 rfl (lv_at hl 2 rfl) ?_
    refine lv_iconst (v := 0) hx hb dX8_set_8 (by decide) ?_
    refine lv_iload_n hx hb dX8_set_9 rfl (lv_at hl 1 rfl) ?_
    obtain ⟨o_3, ho_3, hf⟩ := ht_bn_ob hf
    refine ht_callSi (r := o_3) (rest := [.int (0 : Int32), .int p1]) (As := [.int p0]) (wc := []) (wr := (wHT K jX jN kX_kept kX_tried kX_trials kX_pairings kX_tape kX_telling kX_dayRows kX_deed kX_sheets kX_shelvedPerson kX_shelvedRow RX.anythingKept ++ (wTw K jN aN RN.laws RN.kind RN.need RN.saved RN.voice RN.partner RN.speaks RN.count RN.day RN.heard RN.geese RN.z))) (w1 := []) (w2 := (wHT K jX jN kX_kept kX_tried kX_trials kX_pairings kX_tape kX_telling kX_dayRows kX_deed kX_sheets kX_shelvedPerson kX_shelvedRow RX.anythingKept ++ (wTw K jN aN RN.laws RN.kind RN.need RN.saved RN.voice RN.partner RN.speaks RN.count RN.day RN.heard RN.geese RN.z))) hF (ctX8_mostOfLaw l D K p0 o_3 ho_3 H.size) (va_cwS 1 hts gX8_set_X8_mostOfLaw rfl rfl rfl hdX8_mostOfLaw ⟨Nat.le_of_ble_eq_true rfl, Nat.le_of_ble_eq_true rfl⟩) hK hP hD hS hA [] [0, 1, 2, 3, 4, 5, 6, 7, 8] rfl rfl (by decide) (by decide) (by decide) [0, 1, 2, 3, 4, 5, 6, 7, 8] rfl (by decide) rfl hl.1 rfl (Nat.le_of_ble_eq_true rfl) dX8_set_10 ⟨Nat.zero_le _, Nat.zero_le _⟩ (fun H locs hP hD hS => ?_)
    obtain ⟨o_4, ho_4, hf⟩ := ht_bn_ob hf
    refine ht_callSi (r := o_4) (rest := []) (As := [.int p1, .int (0 : Int32), .int o_3]) (wc := []) (wr := (wHT K jX jN kX_kept kX_tried kX_trials kX_pairings kX_tape kX_telling kX_dayRows kX_deed kX_sheets kX_shelvedPerson kX_shelvedRow RX.anythingKept ++ (wTw K jN aN RN.laws RN.kind RN.need RN.saved RN.voice RN.partner RN.speaks RN.count RN.day RN.heard RN.geese RN.z))) (w1 := []) (w2 := (wHT K jX jN kX_kept kX_tried kX_trials kX_pairings kX_tape kX_telling kX_dayRows kX_deed kX_sheets kX_shelvedPerson kX_shelvedRow RX.anythingKept ++ (wTw K jN aN RN.laws RN.kind RN.need RN.saved RN.voice RN.partner RN.speaks RN.count RN.day RN.heard RN.geese RN.z))) hF (ctX8_within l D K p1 (0 : Int32) o_3 o_4 ho_4 H.size) (va_cwS 3 hts gX8_set_X8_within rfl rfl rfl hdX8_within ⟨Nat.le_of_ble_eq_true rfl, Nat.le_of_ble_eq_true rfl⟩) hK hP hD hS hA [] [0, 1, 2, 3, 4, 5, 6, 7, 8] rfl rfl (by decide) (by decide) (by decide) [0, 1, 2, 3, 4, 5, 6, 7, 8] rfl (by decide) rfl hl.1 rfl (Nat.le_of_ble_eq_true rfl) dX8_set_13 ⟨Nat.zero_le _, Nat.zero_le _⟩ (fun H locs hP hD hS => ?_)
    refine lv_if_ne (tgt := 21) hx hb dX8_set_16 (by decide) (fun c_5 => ?_) (fun c_5 => ?_)
    · replace hf := ht_f c_5 hf
      refine lv_aload_n hx hb dX8_set_21 rfl (lv_at hl 0 rfl) ?_
      refine va_get (D := D) (ci := 8) (v := .ref jN) (C := RX8) (T := TX8) (N := 13) hx hb hts iw8 hown hK hP 0 rfl rfl 0 (by decide) kw1 (fun _ h9 => h9) rfl dX8_set_22 ?_
      refine va_get (D := D) (ci := 6) (v := .ref (aN 0)) (C := RX6) (T := TX6) (N := 12) hx hb hts iw6 hown hK hP 1 rfl rfl 0 (by decide) kw3 (fun _ h9 => h9) rfl dX8_set_25 ?_
      refine lv_iload_n hx hb dX8_set_28 rfl (lv_at hl 1 rfl) ?_
      obtain ⟨g_6, hf⟩ := ht_gd_ob hf
      refine va_iald hx hb hK hP 2 1 rfl rfl (ht_ix_in g_6) dX8_set_29 ?_
      obtain ⟨x3_7, ex3_7, hf⟩ := ht_nm_ob hf
      rw [← ex3_7]
      refine lv_istore_n (lv' := [(3, .int x3_7), (0, .ref jX), (1, .int p0), (2, .int p1)]) hx hb dX8_set_30 rfl hl (by decide) rfl (fun ls hl => ?_)
      refine lv_aload_n hx hb dX8_set_31 rfl (lv_at hl 1 rfl) ?_
      refine va_get (D := D) (ci := 8) (v := .ref jN) (C := RX8) (T := TX8) (N := 13) hx hb hts iw8 hown hK hP 0 rfl rfl 0 (by decide) kw1 (fun _ h9 => h9) rfl dX8_set_32 ?_
      refine va_get (D := D) (ci := 6) (v := .ref (aN 0)) (C := RX6) (T := TX6) (N := 12) hx hb hts iw6 hown hK hP 1 rfl rfl 0 (by decide) kw3 (fun _ h9 => h9) rfl dX8_set_35 ?_
      refine lv_iload_n hx hb dX8_set_38 rfl (lv_at hl 2 rfl) ?_
      refine lv_iload_n hx hb dX8_set_39 rfl (lv_at hl 3 rfl) ?_
      obtain ⟨g_8, hf⟩ := ht_gd_ob hf
      obtain ⟨vN_laws_9, evN_laws_9, hf⟩ := ht_nm_ob hf
      refine ht_iast (w2 := (wHT K jX jN kX_kept kX_tried kX_trials kX_pairings kX_tape kX_telling kX_dayRows kX_deed kX_sheets kX_shelvedPerson kX_shelvedRow RX.anythingKept ++ (wTw K jN aN vN_laws_9 RN.kind RN.need RN.saved RN.voice RN.partner RN.speaks RN.count RN.day RN.heard RN.geese RN.z))) hx hb hK hP hD hS 2 1 rfl rfl g_8 dX8_set_40 evN_laws_9 rfl (fun H locs hP hD hS => ?_)
      refine lv_iload_n hx hb dX8_set_41 rfl (lv_at hl 0 rfl) ?_
      have ho := Option.some.inj hf
      subst ho; subst hQ
      exact ht_iret hx hb hr hlk rfl hK hP hD hS dX8_set_42
    · replace hf := ht_t c_5 hf
      refine lv_iconst (v := -1) hx hb dX8_set_19 (by decide) ?_
      have ho := Option.some.inj hf
      subst ho; subst hQ
      exact ht_iret hx hb hr hlk rfl hK hP hD hS dX8_set_20
abbrev rmX8_lawOf : Room := { frames := 2, cells := 0, slots := 0, locals := 42 }
theorem hdX8_lawOf : yX8_lawOf.cls = RX8 ∧ yX8_lawOf.cls ≠ "java/lang/invoke/MethodHandle" ∧ yX8_lawOf.cls ≠ "java/lang/invoke/VarHandle" ∧ (parseMethodDescriptor yX8_lawOf.desc).map (fun d => d.parameters.length) = some 1 := by decide +kernel
def fX8_lawOf (RX : HTV) (RN : TownV) (p0 : Int32) : Option Int32 := ht_bn (fX8_isLaw p0) (fun o_1 => if o_1 = 0 then (some (-1 : Int32)) else (ht_gd (ht_ix p0 4) (some (RN.laws p0.toNatClampNeg))))
set_option maxHeartbeats 1000000 in
set_option maxRecDepth 100000 in
theorem ctX8_lawOf (l : Launch) (D : va_G) (K : Nat → ClassId) (jX : Nat) (jN : Nat) (aN : Nat → Nat) (kX_kept : Nat) (kX_tried : Nat) (kX_trials : Nat) (kX_pairings : Nat) (kX_tape : Nat) (kX_telling : Nat) (kX_dayRows : Nat) (kX_deed : Nat) (kX_sheets : Nat) (kX_shelvedPerson : Nat) (kX_shelvedRow : Nat) (RX : HTV) (RN : TownV) (p0 : Int32) (o : Int32) (hf : fX8_lawOf RX RN p0 = some o) (sz : Nat) : Met l yX8_lawOf wsX8_lawOf rmX8_lawOf (ht_Pre D K [.ref jX, .int p0] (wHT K jX jN kX_kept kX_tried kX_trials kX_pairings kX_tape kX_telling kX_dayRows kX_deed kX_sheets kX_shelvedPerson kX_shelvedRow RX.anythingKept ++ (wTw K jN aN RN.laws RN.kind RN.need RN.saved RN.voice RN.partner RN.speaks RN.count RN.day RN.heard RN.geese RN.z)) sz) (ht_Qi D K (wHT K jX jN kX_kept kX_tried kX_trials kX_pairings kX_tape kX_telling kX_dayRows kX_deed kX_sheets kX_shelvedPerson kX_shelvedRow RX.anythingKept ++ (wTw K jN aN RN.laws RN.kind RN.need RN.saved RN.voice RN.partner RN.speaks RN.count RN.day RN.heard RN.geese RN.z)) o (va_A (wHT K jX jN kX_kept kX_tried kX_trials kX_pairings kX_tape kX_telling kX_dayRows kX_deed kX_sheets kX_shelvedPerson kX_shelvedRow RX.anythingKept ++ (wTw K jN aN RN.laws RN.kind RN.need RN.saved RN.voice RN.partner RN.speaks RN.count RN.day RN.heard RN.geese RN.z)) sz)) 0 0 (va_A (wHT K jX jN kX_kept kX_tried kX_trials kX_pairings kX_tape kX_telling kX_dayRows kX_deed kX_sheets kX_shelvedPerson kX_shelvedRow RX.anythingKept ++ (wTw K jN aN RN.laws RN.kind RN.need RN.saved RN.voice RN.partner RN.speaks RN.count RN.day RN.heard RN.geese RN.z)) sz) := by
  refine ht_enter (Qf := ht_Qi D K (wHT K jX jN kX_kept kX_tried kX_trials kX_pairings kX_tape kX_telling kX_dayRows kX_deed kX_sheets kX_shelvedPerson kX_shelvedRow RX.anythingKept ++ (wTw K jN aN RN.laws RN.kind RN.need RN.saved RN.voice RN.partner RN.speaks RN.count RN.day RN.heard RN.geese RN.z)) o) (cc := cX8_lawOf) (maxL := 2) (rt := (some .int)) (by decide) rfl (Nat.le_of_ble_eq_true rfl) ?_ sz
  intro p e s m below meth c A Q H locs ls hQ hx hb hr hlk hmn hml hown hts hA hK hP hD hS hl
  have hown : s.vm.findClass RX8 = some m.cls := hown
  have hF : CallFix p m c cX8_lawOf 2 s ([.ref jX, .int p0] : List Value).toArray wsX8_lawOf RX8 := ⟨hx, hb, hml, hown, hts⟩
  have hl : lv_has ls 2 [(0, .ref jX), (1, .int p0)] := hl
  have iw8 : ∀ w ∈ u_ws RX8 TX8 13, w ∈ wsX8_lawOf := by decide +kernel
  have kw1 := hts (.fieldLink RX8 10 "HeldTongues" "now" "LHeldTongues$Town;") (by decide +kernel)
  have iw6 : ∀ w ∈ u_ws RX6 TX6 12, w ∈ wsX8_lawOf := by decide +kernel
  have kw3 := hts (.fieldLink RX8 123 "HeldTongues$Town" "laws" "[I") (by decide +kernel)
  delta fX8_lawOf at hf
  refine lv_iload_n hx hb dX8_lawOf_0 rfl (lv_at hl 1 rfl) ?_
  obtain ⟨o_1, ho_1, hf⟩ := ht_bn_ob hf
  refine ht_callSi (r := o_1) (rest := []) (As := [.int p0]) (wc := []) (wr := (wHT K jX jN kX_kept kX_tried kX_trials kX_pairings kX_tape kX_telling kX_dayRows kX_deed kX_sheets kX_shelvedPerson kX_shelvedRow RX.anythingKept ++ (wTw K jN aN RN.laws RN.kind RN.need RN.saved RN.voice RN.partner RN.speaks RN.count RN.day RN.heard RN.geese RN.z))) (w1 := []) (w2 := (wHT K jX jN kX_kept kX_tried kX_trials kX_pairings kX_tape kX_telling kX_dayRows kX_deed kX_sheets kX_shelvedPerson kX_shelvedRow RX.anythingKept ++ (wTw K jN aN RN.laws RN.kind RN.need RN.saved RN.voice RN.partner RN.speaks RN.count RN.day RN.heard RN.geese RN.z))) hF (ctX8_isLaw l D K p0 o_1 ho_1 H.size) (va_cwS 1 hts gX8_lawOf_X8_isLaw rfl rfl rfl hdX8_isLaw ⟨Nat.le_of_ble_eq_true rfl, Nat.le_of_ble_eq_true rfl⟩) hK hP hD hS hA [] [0, 1, 2, 3, 4, 5, 6, 7, 8] rfl rfl (by decide) (by decide) (by decide) [0, 1, 2, 3, 4, 5, 6, 7, 8] rfl (by decide) rfl hl.1 rfl (Nat.le_of_ble_eq_true rfl) dX8_lawOf_1 ⟨Nat.zero_le _, Nat.zero_le _⟩ (fun H locs hP hD hS => ?_)
  refine lv_if_eq (tgt := 19) hx hb dX8_lawOf_4 (by decide) (fun c_2 => ?_) (fun c_2 => ?_)
  · replace hf := ht_t c_2 hf
    refine lv_iconst (v := -1) hx hb dX8_lawOf_19 (by decide) ?_
    have ho := Option.some.inj hf
    subst ho; subst hQ
    exact ht_iret hx hb hr hlk rfl hK hP hD hS dX8_lawOf_20
  · replace hf := ht_f c_2 hf
    refine lv_aload_n hx hb dX8_lawOf_7 rfl (lv_at hl 0 rfl) ?_
    refine va_get (D := D) (ci := 8) (v := .ref jN) (C := RX8) (T := TX8) (N := 13) hx hb hts iw8 hown hK hP 0 rfl rfl 0 (by decide) kw1 (fun _ h9 => h9) rfl dX8_lawOf_8 ?_
    refine va_get (D := D) (ci := 6) (v := .ref (aN 0)) (C := RX6) (T := TX6) (N := 12) hx hb hts iw6 hown hK hP 1 rfl rfl 0 (by decide) kw3 (fun _ h9 => h9) rfl dX8_lawOf_11 ?_
    refine lv_iload_n hx hb dX8_lawOf_14 rfl (lv_at hl 1 rfl) ?_
    obtain ⟨g_3, hf⟩ := ht_gd_ob hf
    refine va_iald hx hb hK hP 2 1 rfl rfl (ht_ix_in g_3) dX8_lawOf_15 ?_
    refine lv_goto (tgt := 20) hx hb dX8_lawOf_16 (by decide) ?_
    have ho := Option.some.inj hf
    subst ho; subst hQ
    exact ht_iret hx hb hr hlk rfl hK hP hD hS dX8_lawOf_20
abbrev rmX8_person : Room := { frames := 2, cells := 0, slots := 0, locals := 45 }
theorem hdX8_person : yX8_person.cls = RX8 ∧ yX8_person.cls ≠ "java/lang/invoke/MethodHandle" ∧ yX8_person.cls ≠ "java/lang/invoke/VarHandle" ∧ (parseMethodDescriptor yX8_person.desc).map (fun d => d.parameters.length) = some 4 := by decide +kernel
def fX8_person (RX : HTV) (RN : TownV) (p0 : Int32) (p1 : Int32) (p2 : Int32) (p3 : Int32) : Option (Int32 × AI × AI × AI × AI × AI × AI × Int32) := ht_bn (fX8_isKind p0) (fun o_1 => if o_1 = 0 then (some ((-1 : Int32), RN.kind, RN.need, RN.saved, RN.voice, RN.partner, RN.speaks, RN.count)) else (ht_bn (fX8_isVoice p3) (fun o_3 => if o_3 = 0 then (some ((-1 : Int32), RN.kind, RN.need, RN.saved, RN.voice, RN.partner, RN.speaks, RN.count)) else (ht_bn (fX8_within p1 (0 : Int32) (99 : Int32)) (fun o_5 => if o_5 = 0 then (some ((-1 : Int32), RN.kind, RN.need, RN.saved, RN.voice, RN.partner, RN.speaks, RN.count)) else (ht_bn (fX8_within p2 (0 : Int32) (99 : Int32)) (fun o_7 => if o_7 = 0 then (some ((-1 : Int32), RN.kind, RN.need, RN.saved, RN.voice, RN.partner, RN.speaks, RN.count)) else (if RN.count < (8 : Int32) then (ht_bn (fX6_add RN p0 p1 p2 p3) (fun o_10 => some ((o_10.2.2.2.2.2.2 - (1 : Int32)), o_10.1, o_10.2.1, o_10.2.2.1, o_10.2.2.2.1, o_10.2.2.2.2.1, o_10.2.2.2.2.2.1, o_10.2.2.2.2.2.2))) else (some ((-2 : Int32), RN.kind, RN.need, RN.saved, RN.voice, RN.partner, RN.speaks, RN.count))))))))))
set_option maxHeartbeats 1000000 in
set_option maxRecDepth 100000 in
theorem ctX8_person (l : Launch) (D : va_G) (K : Nat → ClassId) (jX : Nat) (jN : Nat) (aN : Nat → Nat) (kX_kept : Nat) (kX_tried : Nat) (kX_trials : Nat) (kX_pairings : Nat) (kX_tape : Nat) (kX_telling : Nat) (kX_dayRows : Nat) (kX_deed : Nat) (kX_sheets : Nat) (kX_shelvedPerson : Nat) (kX_shelvedRow : Nat) (RX : HTV) (RN : TownV) (p0 : Int32) (p1 : Int32) (p2 : Int32) (p3 : Int32) (o : (Int32 × AI × AI × AI × AI × AI × AI × Int32)) (hf : fX8_person RX RN p0 p1 p2 p3 = some o) (sz : Nat) : Met l yX8_person wsX8_person rmX8_person (ht_Pre D K [.ref jX, .int p0, .int p1, .int p2, .int p3] (wHT K jX jN kX_kept kX_tried kX_trials kX_pairings kX_tape kX_telling kX_dayRows kX_deed kX_sheets kX_shelvedPerson kX_shelvedRow RX.anythingKept ++ (wTw K jN aN RN.laws RN.kind RN.need RN.saved RN.voice RN.partner RN.speaks RN.count RN.day RN.heard RN.geese RN.z)) sz) (ht_Qi D K (wHT K jX jN kX_kept kX_tried kX_trials kX_pairings kX_tape kX_telling kX_dayRows kX_deed kX_sheets kX_shelvedPerson kX_shelvedRow RX.anythingKept ++ (wTw K jN aN RN.laws o.2.1 o.2.2.1 o.2.2.2.1 o.2.2.2.2.1 o.2.2.2.2.2.1 o.2.2.2.2.2.2.1 o.2.2.2.2.2.2.2 RN.day RN.heard RN.geese RN.z)) o.1 (va_A (wHT K jX jN kX_kept kX_tried kX_trials kX_pairings kX_tape kX_telling kX_dayRows kX_deed kX_sheets kX_shelvedPerson kX_shelvedRow RX.anythingKept ++ (wTw K jN aN RN.laws RN.kind RN.need RN.saved RN.voice RN.partner RN.speaks RN.count RN.day RN.heard RN.geese RN.z)) sz)) 0 0 (va_A (wHT K jX jN kX_kept kX_tried kX_trials kX_pairings kX_tape kX_telling kX_dayRows kX_deed kX_sheets kX_shelvedPerson kX_shelvedRow RX.anythingKept ++ (wTw K jN aN RN.laws RN.kind RN.need RN.saved RN.voice RN.partner RN.speaks RN.count RN.day RN.heard RN.geese RN.z)) sz) := by
  refine ht_enter (Qf := ht_Qi D K (wHT K jX jN kX_kept kX_tried kX_trials kX_pairings kX_tape kX_telling kX_dayRows kX_deed kX_sheets kX_shelvedPerson kX_shelvedRow RX.anythingKept ++ (wTw K jN aN RN.laws o.2.1 o.2.2.1 o.2.2.2.1 o.2.2.2.2.1 o.2.2.2.2.2.1 o.2.2.2.2.2.2.1 o.2.2.2.2.2.2.2 RN.day RN.heard RN.geese RN.z)) o.1) (cc := cX8_person) (maxL := 5) (rt := (some .int)) (by decide) rfl (Nat.le_of_ble_eq_true rfl) ?_ sz
  intro p e s m below meth c A Q H locs ls hQ hx hb hr hlk hmn hml hown hts hA hK hP hD hS hl
  have hown : s.vm.findClass RX8 = some m.cls := hown
  have hF : CallFix p m c cX8_person 5 s ([.ref jX, .int p0, .int p1, .int p2, .int p3] : List Value).toArray wsX8_person RX8 := ⟨hx, hb, hml, hown, hts⟩
  have hl : lv_has ls 5 [(0, .ref jX), (1, .int p0), (2, .int p1), (3, .int p2), (4, .int p3)] := hl
  have iw8 : ∀ w ∈ u_ws RX8 TX8 13, w ∈ wsX8_person := by decide +kernel
  have kw1 := hts (.fieldLink RX8 10 "HeldTongues" "now" "LHeldTongues$Town;") (by decide +kernel)
  have iw6 : ∀ w ∈ u_ws RX6 TX6 12, w ∈ wsX8_person := by decide +kernel
  have kw3 := hts (.fieldLink RX8 114 "HeldTongues$Town" "count" "I") (by decide +kernel)
  delta fX8_person at hf
  refine lv_iload_n hx hb dX8_person_0 rfl (lv_at hl 1 rfl) ?_
  obtain ⟨o_1, ho_1, hf⟩ := ht_bn_ob hf
  refine ht_callSi (r := o_1) (rest := []) (As := [.int p0]) (wc := []) (wr := (wHT K jX jN kX_kept kX_tried kX_trials kX_pairings kX_tape kX_telling kX_dayRows kX_deed kX_sheets kX_shelvedPerson kX_shelvedRow RX.anythingKept ++ (wTw K jN aN RN.laws RN.kind RN.need RN.saved RN.voice RN.partner RN.speaks RN.count RN.day RN.heard RN.geese RN.z))) (w1 := []) (w2 := (wHT K jX jN kX_kept kX_tried kX_trials kX_pairings kX_tape kX_telling kX_dayRows kX_deed kX_sheets kX_shelvedPerson kX_shelvedRow RX.anythingKept ++ (wTw K jN aN RN.laws RN.kind RN.need RN.saved RN.voice RN.partner RN.speaks RN.count RN.day RN.heard RN.geese RN.z))) hF (ctX8_isKind l D K p0 o_1 ho_1 H.size) (va_cwS 1 hts gX8_person_X8_isKind rfl rfl rfl hdX8_isKind ⟨Nat.le_of_ble_eq_true rfl, Nat.le_of_ble_eq_true rfl⟩) hK hP hD hS hA [] [0, 1, 2, 3, 4, 5, 6, 7, 8] rfl rfl (by decide) (by decide) (by decide) [0, 1, 2, 3, 4, 5, 6, 7, 8] rfl (by decide) rfl hl.1 rfl (Nat.le_of_ble_eq_true rfl) dX8_person_1 ⟨Nat.zero_le _, Nat.zero_le _⟩ (fun H locs hP hD hS => ?_)
  refine lv_if_eq (tgt := 15) hx hb dX8_person_4 (by decide) (fun c_2 => ?_) (fun c_2 => ?_)
  · replace hf := ht_t c_2 hf
    refine lv_iconst (v := -1) hx hb dX8_person_15 (by decide) ?_
    have ho := Option.some.inj hf
    subst ho; subst hQ
    exact ht_iret hx hb hr hlk rfl hK hP hD hS dX8_person_16
  · replace hf := ht_f c_2 hf
    refine lv_iload hx hb dX8_person_7 (lv_at hl 4 rfl) ?_
    obtain ⟨o_3, ho_3, hf⟩ := ht_bn_ob hf
    refine ht_callSi (r := o_3) (rest := []) (As := [.int p3]) (wc := []) (wr := (wHT K jX jN kX_kept kX_tried kX_trials kX_pairings kX_tape kX_telling kX_dayRows kX_deed kX_sheets kX_shelvedPerson kX_shelvedRow RX.anythingKept ++ (wTw K jN aN RN.laws RN.kind RN.need RN.saved RN.voice RN.partner RN.speaks RN.count RN.day RN.heard RN.geese RN.z))) (w1 := []) (w2 := (wHT K jX jN kX_kept kX_tried kX_trials kX_pairings kX_tape kX_telling kX_dayRows kX_deed kX_sheets kX_shelvedPerson kX_shelvedRow RX.anythingKept ++ (wTw K jN aN RN.laws RN.kind RN.need RN.saved RN.voice RN.partner RN.speaks RN.count RN.day RN.heard RN.geese RN.z))) hF (ctX8_isVoice l D K p3 o_3 ho_3 H.size) (va_cwS 1 hts gX8_person_X8_isVoice rfl rfl rfl hdX8_isVoice ⟨Nat.le_of_ble_eq_true rfl, Nat.le_of_ble_eq_true rfl⟩) hK hP hD hS hA [] [0, 1, 2, 3, 4, 5, 6, 7, 8] rfl rfl (by decide) (by decide) (by decide) [0, 1, 2, 3, 4, 5, 6, 7, 8] rfl (by decide) rfl hl.1 rfl (Nat.le_of_ble_eq_true rfl) dX8_person_9 ⟨Nat.zero_le _, Nat.zero_le _⟩ (fun H locs hP hD hS => ?_)
    refine lv_if_ne (tgt := 17) hx hb dX8_person_12 (by decide) (fun c_4 => ?_) (fun c_4 => ?_)
    · replace hf := ht_f c_4 hf
      refine lv_iload_n hx hb dX8_person_17 rfl (lv_at hl 2 rfl) ?_
      refine lv_iconst (v := 0) hx hb dX8_person_18 (by decide) ?_
      refine lv_bipush (v := 99) hx hb dX8_person_19 (by decide) ?_
      obtain ⟨o_5, ho_5, hf⟩ := ht_bn_ob hf
      refine ht_callSi (r := o_5) (rest := []) (As := [.int p1, .int (0 : Int32), .int (99 : Int32)]) (wc := []) (wr := (wHT K jX jN kX_kept kX_tried kX_trials kX_pairings kX_tape kX_telling kX_dayRows kX_deed kX_sheets kX_shelvedPerson kX_shelvedRow RX.anythingKept ++ (wTw K jN aN RN.laws RN.kind RN.need RN.saved RN.voice RN.partner RN.speaks RN.count RN.day RN.heard RN.geese RN.z))) (w1 := []) (w2 := (wHT K jX jN kX_kept kX_tried kX_trials kX_pairings kX_tape kX_telling kX_dayRows kX_deed kX_sheets kX_shelvedPerson kX_shelvedRow RX.anythingKept ++ (wTw K jN aN RN.laws RN.kind RN.need RN.saved RN.voice RN.partner RN.speaks RN.count RN.day RN.heard RN.geese RN.z))) hF (ctX8_within l D K p1 (0 : Int32) (99 : Int32) o_5 ho_5 H.size) (va_cwS 3 hts gX8_person_X8_within rfl rfl rfl hdX8_within ⟨Nat.le_of_ble_eq_true rfl, Nat.le_of_ble_eq_true rfl⟩) hK hP hD hS hA [] [0, 1, 2, 3, 4, 5, 6, 7, 8] rfl rfl (by decide) (by decide) (by decide) [0, 1, 2, 3, 4, 5, 6, 7, 8] rfl (by decide) rfl hl.1 rfl (Nat.le_of_ble_eq_true rfl) dX8_person_21 ⟨Nat.zero_le _, Nat.zero_le _⟩ (fun H locs hP hD hS => ?_)
      refine lv_if_eq (tgt := 37) hx hb dX8_person_24 (by decide) (fun c_6 => ?_) (fun c_6 => ?_)
      · replace hf := ht_t c_6 hf
        refine lv_iconst (v := -1) hx hb dX8_person_37 (by decide) ?_
        have ho := Option.some.inj hf
        subst ho; subst hQ
        exact ht_iret hx hb hr hlk rfl hK hP hD hS dX8_person_38
      · replace hf := ht_f c_6 hf
        refine lv_iload_n hx hb dX8_person_27 rfl (lv_at hl 3 rfl) ?_
        refine lv_iconst (v := 0) hx hb dX8_person_28 (by decide) ?_
        refine lv_bipush (v := 99) hx hb dX8_person_29 (by decide) ?_
        obtain ⟨o_7, ho_7, hf⟩ := ht_bn_ob hf
        refine ht_callSi (r := o_7) (rest := []) (As := [.int p2, .int (0 : Int32), .int (99 : Int32)]) (wc := []) (wr := (wHT K jX jN kX_kept kX_tried kX_trials kX_pairings kX_tape kX_telling kX_dayRows kX_deed kX_sheets kX_shelvedPerson kX_shelvedRow RX.anythingKept ++ (wTw K jN aN RN.laws RN.kind RN.need RN.saved RN.voice RN.partner RN.speaks RN.count RN.day RN.heard RN.geese RN.z))) (w1 := []) (w2 := (wHT K jX jN kX_kept kX_tried kX_trials kX_pairings kX_tape kX_telling kX_dayRows kX_deed kX_sheets kX_shelvedPerson kX_shelvedRow RX.anythingKept ++ (wTw K jN aN RN.laws RN.kind RN.need RN.saved RN.voice RN.partner RN.speaks RN.count RN.day RN.heard RN.geese RN.z))) hF (ctX8_within l D K p2 (0 : Int32) (99 : Int32) o_7 ho_7 H.size) (va_cwS 3 hts gX8_person_X8_within rfl rfl rfl hdX8_within ⟨Nat.le_of_ble_eq_true rfl, Nat.le_of_ble_eq_true rfl⟩) hK hP hD hS hA [] [0, 1, 2, 3, 4, 5, 6, 7, 8] rfl rfl (by decide) (by decide) (by decide) [0, 1, 2, 3, 4, 5, 6, 7, 8] rfl (by decide) rfl hl.1 rfl (Nat.le_of_ble_eq_true rfl) dX8_person_31 ⟨Nat.zero_le _, Nat.zero_le _⟩ (fun H locs hP hD hS => ?_)
        refine lv_if_ne (tgt := 39) hx hb dX8_person_34 (by decide) (fun c_8 => ?_) (fun c_8 => ?_)
        · replace hf := ht_f c_8 hf
          refine lv_aload_n hx hb dX8_person_39 rfl (lv_at hl 0 rfl) ?_
          refine va_get (D := D) (ci := 8) (v := .ref jN) (C := RX8) (T := TX8) (N := 13) hx hb hts iw8 hown hK hP 0 rfl rfl 0 (by decide) kw1 (fun _ h9 => h9) rfl dX8_person_40 ?_
          refine va_get (D := D) (ci := 6) (v := .int RN.count) (C := RX6) (T := TX6) (N := 12) hx hb hts iw6 hown hK hP 1 rfl rfl 7 (by decide) kw3 (fun _ h9 => h9) rfl dX8_person_43 ?_
          refine lv_bipush (v := 8) hx hb dX8_person_46 (by decide) ?_
          refine lv_icmp_lt (tgt := 54) hx hb dX8_person_48 (by decide) (fun c_9 => ?_) (fun c_9 => ?_)
          · replace hf := ht_t c_9 hf
            refine lv_aload_n hx hb dX8_person_54 rfl (lv_at hl 0 rfl) ?_
            refine va_get (D := D) (ci := 8) (v := .ref jN) (C := RX8) (T := TX8) (N := 13) hx hb hts iw8 hown hK hP 0 rfl rfl 0 (by decide) kw1 (fun _ h9 => h9) rfl dX8_person_55 ?_
            refine lv_iload_n hx hb dX8_person_58 rfl (lv_at hl 1 rfl) ?_
            refine lv_iload_n hx hb dX8_person_59 rfl (lv_at hl 2 rfl) ?_
            refine lv_iload_n hx hb dX8_person_60 rfl (lv_at hl 3 rfl) ?_
            refine lv_iload hx hb dX8_person_61 (lv_at hl 4 rfl) ?_
            obtain ⟨o_10, ho_10, hf⟩ := ht_bn_ob hf
            refine ht_callVv (rest := []) (As := [.int p0, .int p1, .int p2, .int p3]) (wc := (wTw K jN aN RN.laws RN.kind RN.need RN.saved RN.voice RN.partner RN.speaks RN.count RN.day RN.heard RN.geese RN.z)) (wr := (wHT K jX jN kX_kept kX_tried kX_trials kX_pairings kX_tape kX_telling kX_dayRows kX_deed kX_sheets kX_shelvedPerson kX_shelvedRow RX.anythingKept)) (w1 := (wTw K jN aN RN.laws o_10.1 o_10.2.1 o_10.2.2.1 o_10.2.2.2.1 o_10.2.2.2.2.1 o_10.2.2.2.2.2.1 o_10.2.2.2.2.2.2 RN.day RN.heard RN.geese RN.z)) (w2 := (wHT K jX jN kX_kept kX_tried kX_trials kX_pairings kX_tape kX_telling kX_dayRows kX_deed kX_sheets kX_shelvedPerson kX_shelvedRow RX.anythingKept ++ (wTw K jN aN RN.laws o_10.1 o_10.2.1 o_10.2.2.1 o_10.2.2.2.1 o_10.2.2.2.2.1 o_10.2.2.2.2.2.1 o_10.2.2.2.2.2.2 RN.day RN.heard RN.geese RN.z))) hF (ctX6_add l D K jN aN RN p0 p1 p2 p3 o_10 ho_10 H.size) (cwV 4 hts gX8_person_X6_add rfl rfl rfl hdX6_add ⟨Nat.le_of_ble_eq_true rfl, Nat.le_of_ble_eq_true rfl⟩) hK hP hD hS hA [1, 2, 3, 4, 5, 6, 7, 8] [0] rfl rfl (by decide) (by decide) (by decide) [0, 1, 2, 3, 4, 5, 6, 7, 8] rfl (by decide) (va_recv hK hP (ci := 6) (q0 := 1) rfl rfl) rfl hl.1 rfl (Nat.le_of_ble_eq_true rfl) dX8_person_63 ⟨Nat.zero_le _, Nat.zero_le _⟩ (fun H locs hP hD hS => ?_)
            refine lv_aload_n hx hb dX8_person_66 rfl (lv_at hl 0 rfl) ?_
            refine va_get (D := D) (ci := 8) (v := .ref jN) (C := RX8) (T := TX8) (N := 13) hx hb hts iw8 hown hK hP 0 rfl rfl 0 (by decide) kw1 (fun _ h9 => h9) rfl dX8_person_67 ?_
            refine va_get (D := D) (ci := 6) (v := .int o_10.2.2.2.2.2.2) (C := RX6) (T := TX6) (N := 12) hx hb hts iw6 hown hK hP 1 rfl rfl 7 (by decide) kw3 (fun _ h9 => h9) rfl dX8_person_70 ?_
            refine lv_iconst (v := 1) hx hb dX8_person_73 (by decide) ?_
            refine lv_isub hx hb dX8_person_74 ?_
            have ho := Option.some.inj hf
            subst ho; subst hQ
            exact ht_iret hx hb hr hlk rfl hK hP hD hS dX8_person_75
          · replace hf := ht_f c_9 hf
            refine lv_bipush (v := -2) hx hb dX8_person_51 (by decide) ?_
            have ho := Option.some.inj hf
            subst ho; subst hQ
            exact ht_iret hx hb hr hlk rfl hK hP hD hS dX8_person_53
        · replace hf := ht_t c_8 hf
          refine lv_iconst (v := -1) hx hb dX8_person_37 (by decide) ?_
          have ho := Option.some.inj hf
          subst ho; subst hQ
          exact ht_iret hx hb hr hlk rfl hK hP hD hS dX8_person_38
    · replace hf := ht_t c_4 hf
      refine lv_iconst (v := -1) hx hb dX8_person_15 (by decide) ?_
      have ho := Option.some.inj hf
      subst ho; subst hQ
      exact ht_iret hx hb hr hlk rfl hK hP hD hS dX8_person_16
abbrev rmX8_of : Room := { frames := 1, cells := 0, slots := 0, locals := 21 }
theorem hdX8_of : yX8_of.cls = RX8 ∧ yX8_of.cls ≠ "java/lang/invoke/MethodHandle" ∧ yX8_of.cls ≠ "java/lang/invoke/VarHandle" ∧ (parseMethodDescriptor yX8_of.desc).map (fun d => d.parameters.length) = some 2 := by decide +kernel
def fX8_of (RX : HTV) (RN : TownV) (p0 : Int32) (p1 : Int32) : Option Int32 := ht_bn (fX6_has RN p0) (fun o_1 => if o_1 = 0 then (some (-1 : Int32)) else (if p1 = 0 then (ht_gd (ht_ix p0 8) (some (RN.kind p0.toNatClampNeg))) else if p1 = 1 then (ht_gd (ht_ix p0 8) (some (RN.need p0.toNatClampNeg))) else if p1 = 2 then (ht_gd (ht_ix p0 8) (some (RN.saved p0.toNatClampNeg))) else if p1 = 3 then (ht_gd (ht_ix p0 8) (some (RN.voice p0.toNatClampNeg))) else if p1 = 4 then (ht_gd (ht_ix p0 8) (some ((RN.partner p0.toNatClampNeg) + (1 : Int32)))) else if p1 = 5 then (ht_gd (ht_ix p0 8) (if (RN.speaks p0.toNatClampNeg) = 0 then (some (0 : Int32)) else (some (1 : Int32)))) else (some (-1 : Int32))))
set_option maxHeartbeats 1000000 in
set_option maxRecDepth 100000 in
theorem ctX8_of (l : Launch) (D : va_G) (K : Nat → ClassId) (jX : Nat) (jN : Nat) (aN : Nat → Nat) (kX_kept : Nat) (kX_tried : Nat) (kX_trials : Nat) (kX_pairings : Nat) (kX_tape : Nat) (kX_telling : Nat) (kX_dayRows : Nat) (kX_deed : Nat) (kX_sheets : Nat) (kX_shelvedPerson : Nat) (kX_shelvedRow : Nat) (RX : HTV) (RN : TownV) (p0 : Int32) (p1 : Int32) (o : Int32) (hf : fX8_of RX RN p0 p1 = some o) (sz : Nat) : Met l yX8_of wsX8_of rmX8_of (ht_Pre D K [.ref jX, .int p0, .int p1] (wHT K jX jN kX_kept kX_tried kX_trials kX_pairings kX_tape kX_telling kX_dayRows kX_deed kX_sheets kX_shelvedPerson kX_shelvedRow RX.anythingKept ++ (wTw K jN aN RN.laws RN.kind RN.need RN.saved RN.voice RN.partner RN.speaks RN.count RN.day RN.heard RN.geese RN.z)) sz) (ht_Qi D K (wHT K jX jN kX_kept kX_tried kX_trials kX_pairings kX_tape kX_telling kX_dayRows kX_deed kX_sheets kX_shelvedPerson kX_shelvedRow RX.anythingKept ++ (wTw K jN aN RN.laws RN.kind RN.need RN.saved RN.voice RN.partner RN.speaks RN.count RN.day RN.heard RN.geese RN.z)) o (va_A (wHT K jX jN kX_kept kX_tried kX_trials kX_pairings kX_tape kX_telling kX_dayRows kX_deed kX_sheets kX_shelvedPerson kX_shelvedRow RX.anythingKept ++ (wTw K jN aN RN.laws RN.kind RN.need RN.saved RN.voice RN.partner RN.speaks RN.count RN.day RN.heard RN.geese RN.z)) sz)) 0 0 (va_A (wHT K jX jN kX_kept kX_tried kX_trials kX_pairings kX_tape kX_telling kX_dayRows kX_deed kX_sheets kX_shelvedPerson kX_shelvedRow RX.anythingKept ++ (wTw K jN aN RN.laws RN.kind RN.need RN.saved RN.voice RN.partner RN.speaks RN.count RN.day RN.heard RN.geese RN.z)) sz) := by
  refine ht_enter (Qf := ht_Qi D K (wHT K jX jN kX_kept kX_tried kX_trials kX_pairings kX_tape kX_telling kX_dayRows kX_deed kX_sheets kX_shelvedPerson kX_shelvedRow RX.anythingKept ++ (wTw K jN aN RN.laws RN.kind RN.need RN.saved RN.voice RN.partner RN.speaks RN.count RN.day RN.heard RN.geese RN.z)) o) (cc := cX8_of) (maxL := 3) (rt := (some .int)) (by decide) rfl (Nat.le_of_ble_eq_true rfl) ?_ sz
  intro p e s m below meth c A Q H locs ls hQ hx hb hr hlk hmn hml hown hts hA hK hP hD hS hl
  have hown : s.vm.findClass RX8 = some m.cls := hown
  have hF : CallFix p m c cX8_of 3 s ([.ref jX, .int p0, .int p1] : List Value).toArray wsX8_of RX8 := ⟨hx, hb, hml, hown, hts⟩
  have hl : lv_has ls 3 [(0, .ref jX), (1, .int p0), (2, .int p1)] := hl
  have iw8 : ∀ w ∈ u_ws RX8 TX8 13, w ∈ wsX8_of := by decide +kernel
  have kw1 := hts (.fieldLink RX8 10 "HeldTongues" "now" "LHeldTongues$Town;") (by decide +kernel)
  have iw6 : ∀ w ∈ u_ws RX6 TX6 12, w ∈ wsX8_of := by decide +kernel
  have kw3 := hts (.fieldLink RX8 139 "HeldTongues$Town" "kind" "[I") (by decide +kernel)
  have kw4 := hts (.fieldLink RX8 142 "HeldTongues$Town" "need" "[I") (by decide +kernel)
  have kw5 := hts (.fieldLink RX8 145 "HeldTongues$Town" "saved" "[I") (by decide +kernel)
  have kw6 := hts (.fieldLink RX8 148 "HeldTongues$Town" "voice" "[I") (by decide +kernel)
  have kw7 := hts (.fieldLink RX8 151 "HeldTongues$Town" "partner" "[I") (by decide +kernel)
  have kw8 := hts (.fieldLink RX8 154 "HeldTongues$Town" "speaks" "[Z") (by decide +kernel)
  delta fX8_of at hf
  refine lv_aload_n hx hb dX8_of_0 rfl (lv_at hl 0 rfl) ?_
  refine va_get (D := D) (ci := 8) (v := .ref jN) (C := RX8) (T := TX8) (N := 13) hx hb hts iw8 hown hK hP 0 rfl rfl 0 (by decide) kw1 (fun _ h9 => h9) rfl dX8_of_1 ?_
  refine lv_iload_n hx hb dX8_of_4 rfl (lv_at hl 1 rfl) ?_
  obtain ⟨o_1, ho_1, hf⟩ := ht_bn_ob hf
  refine ht_callVi (r := o_1) (rest := []) (As := [.int p0]) (wc := (wTw K jN aN RN.laws RN.kind RN.need RN.saved RN.voice RN.partner RN.speaks RN.count RN.day RN.heard RN.geese RN.z)) (wr := (wHT K jX jN kX_kept kX_tried kX_trials kX_pairings kX_tape kX_telling kX_dayRows kX_deed kX_sheets kX_shelvedPerson kX_shelvedRow RX.anythingKept)) (w1 := (wTw K jN aN RN.laws RN.kind RN.need RN.saved RN.voice RN.partner RN.speaks RN.count RN.day RN.heard RN.geese RN.z)) (w2 := (wHT K jX jN kX_kept kX_tried kX_trials kX_pairings kX_tape kX_telling kX_dayRows kX_deed kX_sheets kX_shelvedPerson kX_shelvedRow RX.anythingKept ++ (wTw K jN aN RN.laws RN.kind RN.need RN.saved RN.voice RN.partner RN.speaks RN.count RN.day RN.heard RN.geese RN.z))) hF (ctX6_has l D K jN aN RN p0 o_1 ho_1 H.size) (cwV 1 hts gX8_of_X6_has rfl rfl rfl hdX6_has ⟨Nat.le_of_ble_eq_true rfl, Nat.le_of_ble_eq_true rfl⟩) hK hP hD hS hA [1, 2, 3, 4, 5, 6, 7, 8] [0] rfl rfl (by decide) (by decide) (by decide) [0, 1, 2, 3, 4, 5, 6, 7, 8] rfl (by decide) (va_recv hK hP (ci := 6) (q0 := 1) rfl rfl) rfl hl.1 rfl (Nat.le_of_ble_eq_true rfl) dX8_of_5 ⟨Nat.zero_le _, Nat.zero_le _⟩ (fun H locs hP hD hS => ?_)
  refine lv_if_ne (tgt := 13) hx hb dX8_of_8 (by decide) (fun c_2 => ?_) (fun c_2 => ?_)
  · replace hf := ht_f c_2 hf
    refine lv_iload_n hx hb dX8_of_13 rfl (lv_at hl 2 rfl) ?_
    by_cases c_3 : p1 = 0
    · replace hf := ht_t c_3 hf
      refine lv_tableIn (tgt := 52) hx hb dX8_of_14 (by rw [c_3]; decide) (by rw [c_3]; decide) (by rw [c_3]; rfl) (by decide) ?_
      refine lv_aload_n hx hb dX8_of_52 rfl (lv_at hl 0 rfl) ?_
      refine va_get (D := D) (ci := 8) (v := .ref jN) (C := RX8) (T := TX8) (N := 13) hx hb hts iw8 hown hK hP 0 rfl rfl 0 (by decide) kw1 (fun _ h9 => h9) rfl dX8_of_53 ?_
      refine va_get (D := D) (ci := 6) (v := .ref (aN 1)) (C := RX6) (T := TX6) (N := 12) hx hb hts iw6 hown hK hP 1 rfl rfl 1 (by decide) kw3 (fun _ h9 => h9) rfl dX8_of_56 ?_
      refine lv_iload_n hx hb dX8_of_59 rfl (lv_at hl 1 rfl) ?_
      obtain ⟨g_4, hf⟩ := ht_gd_ob hf
      refine va_iald hx hb hK hP 3 1 rfl rfl (ht_ix_in g_4) dX8_of_60 ?_
      have ho := Option.some.inj hf
      subst ho; subst hQ
      exact ht_iret hx hb hr hlk rfl hK hP hD hS dX8_of_61
    replace hf := ht_f c_3 hf
    by_cases c_5 : p1 = 1
    · replace hf := ht_t c_5 hf
      refine lv_tableIn (tgt := 62) hx hb dX8_of_14 (by rw [c_5]; decide) (by rw [c_5]; decide) (by rw [c_5]; rfl) (by decide) ?_
      refine lv_aload_n hx hb dX8_of_62 rfl (lv_at hl 0 rfl) ?_
      refine va_get (D := D) (ci := 8) (v := .ref jN) (C := RX8) (T := TX8) (N := 13) hx hb hts iw8 hown hK hP 0 rfl rfl 0 (by decide) kw1 (fun _ h9 => h9) rfl dX8_of_63 ?_
      refine va_get (D := D) (ci := 6) (v := .ref (aN 2)) (C := RX6) (T := TX6) (N := 12) hx hb hts iw6 hown hK hP 1 rfl rfl 2 (by decide) kw4 (fun _ h9 => h9) rfl dX8_of_66 ?_
      refine lv_iload_n hx hb dX8_of_69 rfl (lv_at hl 1 rfl) ?_
      obtain ⟨g_6, hf⟩ := ht_gd_ob hf
      refine va_iald hx hb hK hP 4 1 rfl rfl (ht_ix_in g_6) dX8_of_70 ?_
      have ho := Option.some.inj hf
      subst ho; subst hQ
      exact ht_iret hx hb hr hlk rfl hK hP hD hS dX8_of_71
    replace hf := ht_f c_5 hf
    by_cases c_7 : p1 = 2
    · replace hf := ht_t c_7 hf
      refine lv_tableIn (tgt := 72) hx hb dX8_of_14 (by rw [c_7]; decide) (by rw [c_7]; decide) (by rw [c_7]; rfl) (by decide) ?_
      refine lv_aload_n hx hb dX8_of_72 rfl (lv_at hl 0 rfl) ?_
      refine va_get (D := D) (ci := 8) (v := .ref jN) (C := RX8) (T := TX8) (N := 13) hx hb hts iw8 hown hK hP 0 rfl rfl 0 (by decide) kw1 (fun _ h9 => h9) rfl dX8_of_73 ?_
      refine va_get (D := D) (ci := 6) (v := .ref (aN 3)) (C := RX6) (T := TX6) (N := 12) hx hb hts iw6 hown hK hP 1 rfl rfl 3 (by decide) kw5 (fun _ h9 => h9) rfl dX8_of_76 ?_
      refine lv_iload_n hx hb dX8_of_79 rfl (lv_at hl 1 rfl) ?_
      obtain ⟨g_8, hf⟩ := ht_gd_ob hf
      refine va_iald hx hb hK hP 5 1 rfl rfl (ht_ix_in g_8) dX8_of_80 ?_
      have ho := Option.some.inj hf
      subst ho; subst hQ
      exact ht_iret hx hb hr hlk rfl hK hP hD hS dX8_of_81
    replace hf := ht_f c_7 hf
    by_cases c_9 : p1 = 3
    · replace hf := ht_t c_9 hf
      refine lv_tableIn (tgt := 82) hx hb dX8_of_14 (by rw [c_9]; decide) (by rw [c_9]; decide) (by rw [c_9]; rfl) (by decide) ?_
      refine lv_aload_n hx hb dX8_of_82 rfl (lv_at hl 0 rfl) ?_
      refine va_get (D := D) (ci := 8) (v := .ref jN) (C := RX8) (T := TX8) (N := 13) hx hb hts iw8 hown hK hP 0 rfl rfl 0 (by decide) kw1 (fun _ h9 => h9) rfl dX8_of_83 ?_
      refine va_get (D := D) (ci := 6) (v := .ref (aN 4)) (C := RX6) (T := TX6) (N := 12) hx hb hts iw6 hown hK hP 1 rfl rfl 4 (by decide) kw6 (fun _ h9 => h9) rfl dX8_of_86 ?_
      refine lv_iload_n hx hb dX8_of_89 rfl (lv_at hl 1 rfl) ?_
      obtain ⟨g_10, hf⟩ := ht_gd_ob hf
      refine va_iald hx hb hK hP 6 1 rfl rfl (ht_ix_in g_10) dX8_of_90 ?_
      have ho := Option.some.inj hf
      subst ho; subst hQ
      exact ht_iret hx hb hr hlk rfl hK hP hD hS dX8_of_91
    replace hf := ht_f c_9 hf
    by_cases c_11 : p1 = 4
    · replace hf := ht_t c_11 hf
      refine lv_tableIn (tgt := 92) hx hb dX8_of_14 (by rw [c_11]; decide) (by rw [c_11]; decide) (by rw [c_11]; rfl) (by decide) ?_
      refine lv_aload_n hx hb dX8_of_92 rfl (lv_at hl 0 rfl) ?_
      refine va_get (D := D) (ci := 8) (v := .ref jN) (C := RX8) (T := TX8) (N := 13) hx hb hts iw8 hown hK hP 0 rfl rfl 0 (by decide) kw1 (fun _ h9 => h9) rfl dX8_of_93 ?_
      refine va_get (D := D) (ci := 6) (v := .ref (aN 5)) (C := RX6) (T := TX6) (N := 12) hx hb hts iw6 hown hK hP 1 rfl rfl 5 (by decide) kw7 (fun _ h9 => h9) rfl dX8_of_96 ?_
      refine lv_iload_n hx hb dX8_of_99 rfl (lv_at hl 1 rfl) ?_
      obtain ⟨g_12, hf⟩ := ht_gd_ob hf
      refine va_iald hx hb hK hP 7 1 rfl rfl (ht_ix_in g_12) dX8_of_100 ?_
      refine lv_iconst (v := 1) hx hb dX8_of_101 (by decide) ?_
      refine lv_iadd hx hb dX8_of_102 ?_
      have ho := Option.some.inj hf
      subst ho; subst hQ
      exact ht_iret hx hb hr hlk rfl hK hP hD hS dX8_of_103
    replace hf := ht_f c_11 hf
    by_cases c_13 : p1 = 5
    · replace hf := ht_t c_13 hf
      refine lv_tableIn (tgt := 104) hx hb dX8_of_14 (by rw [c_13]; decide) (by rw [c_13]; decide) (by rw [c_13]; rfl) (by decide) ?_
      refine lv_aload_n hx hb dX8_of_104 rfl (lv_at hl 0 rfl) ?_
      refine va_get (D := D) (ci := 8) (v := .ref jN) (C := RX8) (T := TX8) (N := 13) hx hb hts iw8 hown hK hP 0 rfl rfl 0 (by decide) kw1 (fun _ h9 => h9) rfl dX8_of_105 ?_
      refine va_get (D := D) (ci := 6) (v := .ref (aN 6)) (C := RX6) (T := TX6) (N := 12) hx hb hts iw6 hown hK hP 1 rfl rfl 6 (by decide) kw8 (fun _ h9 => h9) rfl dX8_of_108 ?_
      refine lv_iload_n hx hb dX8_of_111 rfl (lv_at hl 1 rfl) ?_
      obtain ⟨g_14, hf⟩ := ht_gd_ob hf
      refine va_zald hx hb hK hP 8 3 rfl rfl (ht_ix_in g_14) dX8_of_112 ?_
      refine lv_if_eq (tgt := 120) hx hb dX8_of_113 (by decide) (fun c_15 => ?_) (fun c_15 => ?_)
      · replace hf := ht_t c_15 hf
        refine lv_iconst (v := 0) hx hb dX8_of_120 (by decide) ?_
        have ho := Option.some.inj hf
        subst ho; subst hQ
        exact ht_iret hx hb hr hlk rfl hK hP hD hS dX8_of_121
      · replace hf := ht_f c_15 hf
        refine lv_iconst (v := 1) hx hb dX8_of_116 (by decide) ?_
        refine lv_goto (tgt := 121) hx hb dX8_of_117 (by decide) ?_
        have ho := Option.some.inj hf
        subst ho; subst hQ
        exact ht_iret hx hb hr hlk rfl hK hP hD hS dX8_of_121
    replace hf := ht_f c_13 hf
    refine lv_tableOut (tgt := 122) hx hb dX8_of_14 (by have := lv_neT c_3 (a := 0) rfl; have := lv_neT c_5 (a := 1) rfl; have := lv_neT c_7 (a := 2) rfl; have := lv_neT c_9 (a := 3) rfl; have := lv_neT c_11 (a := 4) rfl; have := lv_neT c_13 (a := 5) rfl; omega) (by decide) ?_
    refine lv_iconst (v := -1) hx hb dX8_of_122 (by decide) ?_
    have ho := Option.some.inj hf
    subst ho; subst hQ
    exact ht_iret hx hb hr hlk rfl hK hP hD hS dX8_of_123
  · replace hf := ht_t c_2 hf
    refine lv_iconst (v := -1) hx hb dX8_of_11 (by decide) ?_
    have ho := Option.some.inj hf
    subst ho; subst hQ
    exact ht_iret hx hb hr hlk rfl hK hP hD hS dX8_of_12
abbrev rmX8_does : Room := { frames := 2, cells := 0, slots := 0, locals := 42 }
theorem hdX8_does : yX8_does.cls = RX8 ∧ yX8_does.cls ≠ "java/lang/invoke/MethodHandle" ∧ yX8_does.cls ≠ "java/lang/invoke/VarHandle" ∧ (parseMethodDescriptor yX8_does.desc).map (fun d => d.parameters.length) = some 2 := by decide +kernel
def fX8_does (RX : HTV) (RN : TownV) (p0 : Int32) (p1 : Int32) : Option Int32 := ht_bn (fX6_has RN p0) (fun o_1 => if o_1 = 0 then (some (-1 : Int32)) else (if p1 = 0 then (ht_bn (fX6_saysOf RN p0) (fun o_4 => some ((1000 : Int32) + o_4))) else if p1 = 1 then (ht_bn (fX6_growsOf RN p0) (fun o_6 => some ((1000 : Int32) + o_6))) else if p1 = 2 then (ht_bn (fX6_savesOf RN p0) (fun o_8 => some ((1000 : Int32) + o_8))) else (some (-1 : Int32))))
set_option maxHeartbeats 1000000 in
set_option maxRecDepth 100000 in
theorem ctX8_does (l : Launch) (D : va_G) (K : Nat → ClassId) (jX : Nat) (jN : Nat) (aN : Nat → Nat) (kX_kept : Nat) (kX_tried : Nat) (kX_trials : Nat) (kX_pairings : Nat) (kX_tape : Nat) (kX_telling : Nat) (kX_dayRows : Nat) (kX_deed : Nat) (kX_sheets : Nat) (kX_shelvedPerson : Nat) (kX_shelvedRow : Nat) (RX : HTV) (RN : TownV) (p0 : Int32) (p1 : Int32) (o : Int32) (hf : fX8_does RX RN p0 p1 = some o) (sz : Nat) : Met l yX8_does wsX8_does rmX8_does (ht_Pre D K [.ref jX, .int p0, .int p1] (wHT K jX jN kX_kept kX_tried kX_trials kX_pairings kX_tape kX_telling kX_dayRows kX_deed kX_sheets kX_shelvedPerson kX_shelvedRow RX.anythingKept ++ (wTw K jN aN RN.laws RN.kind RN.need RN.saved RN.voice RN.partner RN.speaks RN.count RN.day RN.heard RN.geese RN.z)) sz) (ht_Qi D K (wHT K jX jN kX_kept kX_tried kX_trials kX_pairings kX_tape kX_telling kX_dayRows kX_deed kX_sheets kX_shelvedPerson kX_shelvedRow RX.anythingKept ++ (wTw K jN aN RN.laws RN.kind RN.need RN.saved RN.voice RN.partner RN.speaks RN.count RN.day RN.heard RN.geese RN.z)) o (va_A (wHT K jX jN kX_kept kX_tried kX_trials kX_pairings kX_tape kX_telling kX_dayRows kX_deed kX_sheets kX_shelvedPerson kX_shelvedRow RX.anythingKept ++ (wTw K jN aN RN.laws RN.kind RN.need RN.saved RN.voice RN.partner RN.speaks RN.count RN.day RN.heard RN.geese RN.z)) sz)) 0 0 (va_A (wHT K jX jN kX_kept kX_tried kX_trials kX_pairings kX_tape kX_telling kX_dayRows kX_deed kX_sheets kX_shelvedPerson kX_shelvedRow RX.anythingKept ++ (wTw K jN aN RN.laws RN.kind RN.need RN.saved RN.voice RN.partner RN.speaks RN.count RN.day RN.heard RN.geese RN.z)) sz) := by
  refine ht_enter (Qf := ht_Qi D K (wHT K jX jN kX_kept kX_tried kX_trials kX_pairings kX_tape kX_telling kX_dayRows kX_deed kX_sheets kX_shelvedPerson kX_shelvedRow RX.anythingKept ++ (wTw K jN aN RN.laws RN.kind RN.need RN.saved RN.voice RN.partner RN.speaks RN.count RN.day RN.heard RN.geese RN.z)) o) (cc := cX8_does) (maxL := 3) (rt := (some .int)) (by decide) rfl (Nat.le_of_ble_eq_true rfl) ?_ sz
  intro p e s m below meth c A Q H locs ls hQ hx hb hr hlk hmn hml hown hts hA hK hP hD hS hl
  have hown : s.vm.findClass RX8 = some m.cls := hown
  have hF : CallFix p m c cX8_does 3 s ([.ref jX, .int p0, .int p1] : List Value).toArray wsX8_does RX8 := ⟨hx, hb, hml, hown, hts⟩
  have hl : lv_has ls 3 [(0, .ref jX), (1, .int p0), (2, .int p1)] := hl
  have iw8 : ∀ w ∈ u_ws RX8 TX8 13, w ∈ wsX8_does := by decide +kernel
  have kw1 := hts (.fieldLink RX8 10 "HeldTongues" "now" "LHeldTongues$Town;") (by decide +kernel)
  delta fX8_does at hf
  refine lv_aload_n hx hb dX8_does_0 rfl (lv_at hl 0 rfl) ?_
  refine va_get (D := D) (ci := 8) (v := .ref jN) (C := RX8) (T := TX8) (N := 13) hx hb hts iw8 hown hK hP 0 rfl rfl 0 (by decide) kw1 (fun _ h9 => h9) rfl dX8_does_1 ?_
  refine lv_iload_n hx hb dX8_does_4 rfl (lv_at hl 1 rfl) ?_
  obtain ⟨o_1, ho_1, hf⟩ := ht_bn_ob hf
  refine ht_callVi (r := o_1) (rest := []) (As := [.int p0]) (wc := (wTw K jN aN RN.laws RN.kind RN.need RN.saved RN.voice RN.partner RN.speaks RN.count RN.day RN.heard RN.geese RN.z)) (wr := (wHT K jX jN kX_kept kX_tried kX_trials kX_pairings kX_tape kX_telling kX_dayRows kX_deed kX_sheets kX_shelvedPerson kX_shelvedRow RX.anythingKept)) (w1 := (wTw K jN aN RN.laws RN.kind RN.need RN.saved RN.voice RN.partner RN.speaks RN.count RN.day RN.heard RN.geese RN.z)) (w2 := (wHT K jX jN kX_kept kX_tried kX_trials kX_pairings kX_tape kX_telling kX_dayRows kX_deed kX_sheets kX_shelvedPerson kX_shelvedRow RX.anythingKept ++ (wTw K jN aN RN.laws RN.kind RN.need RN.saved RN.voice RN.partner RN.speaks RN.count RN.day RN.heard RN.geese RN.z))) hF (ctX6_has l D K jN aN RN p0 o_1 ho_1 H.size) (cwV 1 hts gX8_does_X6_has rfl rfl rfl hdX6_has ⟨Nat.le_of_ble_eq_true rfl, Nat.le_of_ble_eq_true rfl⟩) hK hP hD hS hA [1, 2, 3, 4, 5, 6, 7, 8] [0] rfl rfl (by decide) (by decide) (by decide) [0, 1, 2, 3, 4, 5, 6, 7, 8] rfl (by decide) (va_recv hK hP (ci := 6) (q0 := 1) rfl rfl) rfl hl.1 rfl (Nat.le_of_ble_eq_true rfl) dX8_does_5 ⟨Nat.zero_le _, Nat.zero_le _⟩ (fun H locs hP hD hS => ?_)
  refine lv_if_ne (tgt := 13) hx hb dX8_does_8 (by decide) (fun c_2 => ?_) (fun c_2 => ?_)
  · replace hf := ht_f c_2 hf
    refine lv_iload_n hx hb dX8_does_13 rfl (lv_at hl 2 rfl) ?_
    by_cases c_3 : p1 = 0
    · replace hf := ht_t c_3 hf
      refine lv_tableIn (tgt := 40) hx hb dX8_does_14 (by rw [c_3]; decide) (by rw [c_3]; decide) (by rw [c_3]; rfl) (by decide) ?_
      refine lv_sipush (v := 1000) hx hb dX8_does_40 (by decide) ?_
      refine lv_aload_n hx hb dX8_does_43 rfl (lv_at hl 0 rfl) ?_
      refine va_get (D := D) (ci := 8) (v := .ref jN) (C := RX8) (T := TX8) (N := 13) hx hb hts iw8 hown hK hP 0 rfl rfl 0 (by decide) kw1 (fun _ h9 => h9) rfl dX8_does_44 ?_
      refine lv_iload_n hx hb dX8_does_47 rfl (lv_at hl 1 rfl) ?_
      obtain ⟨o_4, ho_4, hf⟩ := ht_bn_ob hf
      refine ht_callVi (r := o_4) (rest := [.int (1000 : Int32)]) (As := [.int p0]) (wc := (wTw K jN aN RN.laws RN.kind RN.need RN.saved RN.voice RN.partner RN.speaks RN.count RN.day RN.heard RN.geese RN.z)) (wr := (wHT K jX jN kX_kept kX_tried kX_trials kX_pairings kX_tape kX_telling kX_dayRows kX_deed kX_sheets kX_shelvedPerson kX_shelvedRow RX.anythingKept)) (w1 := (wTw K jN aN RN.laws RN.kind RN.need RN.saved RN.voice RN.partner RN.speaks RN.count RN.day RN.heard RN.geese RN.z)) (w2 := (wHT K jX jN kX_kept kX_tried kX_trials kX_pairings kX_tape kX_telling kX_dayRows kX_deed kX_sheets kX_shelvedPerson kX_shelvedRow RX.anythingKept ++ (wTw K jN aN RN.laws RN.kind RN.need RN.saved RN.voice RN.partner RN.speaks RN.count RN.day RN.heard RN.geese RN.z))) hF (ctX6_saysOf l D K jN aN RN p0 o_4 ho_4 H.size) (cwV 1 hts gX8_does_X6_saysOf rfl rfl rfl hdX6_saysOf ⟨Nat.le_of_ble_eq_true rfl, Nat.le_of_ble_eq_true rfl⟩) hK hP hD hS hA [1, 2, 3, 4, 5, 6, 7, 8] [0] rfl rfl (by decide) (by decide) (by decide) [0, 1, 2, 3, 4, 5, 6, 7, 8] rfl (by decide) (va_recv hK hP (ci := 6) (q0 := 1) rfl rfl) rfl hl.1 rfl (Nat.le_of_ble_eq_true rfl) dX8_does_48 ⟨Nat.zero_le _, Nat.zero_le _⟩ (fun H locs hP hD hS => ?_)
      refine lv_iadd hx hb dX8_does_51 ?_
      have ho := Option.some.inj hf
      subst ho; subst hQ
      exact ht_iret hx hb hr hlk rfl hK hP hD hS dX8_does_52
    replace hf := ht_f c_3 hf
    by_cases c_5 : p1 = 1
    · replace hf := ht_t c_5 hf
      refine lv_tableIn (tgt := 53) hx hb dX8_does_14 (by rw [c_5]; decide) (by rw [c_5]; decide) (by rw [c_5]; rfl) (by decide) ?_
      refine lv_sipush (v := 1000) hx hb dX8_does_53 (by decide) ?_
      refine lv_aload_n hx hb dX8_does_56 rfl (lv_at hl 0 rfl) ?_
      refine va_get (D := D) (ci := 8) (v := .ref jN) (C := RX8) (T := TX8) (N := 13) hx hb hts iw8 hown hK hP 0 rfl rfl 0 (by decide) kw1 (fun _ h9 => h9) rfl dX8_does_57 ?_
      refine lv_iload_n hx hb dX8_does_60 rfl (lv_at hl 1 rfl) ?_
      obtain ⟨o_6, ho_6, hf⟩ := ht_bn_ob hf
      refine ht_callVi (r := o_6) (rest := [.int (1000 : Int32)]) (As := [.int p0]) (wc := (wTw K jN aN RN.laws RN.kind RN.need RN.saved RN.voice RN.partner RN.speaks RN.count RN.day RN.heard RN.geese RN.z)) (wr := (wHT K jX jN kX_kept kX_tried kX_trials kX_pairings kX_tape kX_telling kX_dayRows kX_deed kX_sheets kX_shelvedPerson kX_shelvedRow RX.anythingKept)) (w1 := (wTw K jN aN RN.laws RN.kind RN.need RN.saved RN.voice RN.partner RN.speaks RN.count RN.day RN.heard RN.geese RN.z)) (w2 := (wHT K jX jN kX_kept kX_tried kX_trials kX_pairings kX_tape kX_telling kX_dayRows kX_deed kX_sheets kX_shelvedPerson kX_shelvedRow RX.anythingKept ++ (wTw K jN aN RN.laws RN.kind RN.need RN.saved RN.voice RN.partner RN.speaks RN.count RN.day RN.heard RN.geese RN.z))) hF (ctX6_growsOf l D K jN aN RN p0 o_6 ho_6 H.size) (cwV 1 hts gX8_does_X6_growsOf rfl rfl rfl hdX6_growsOf ⟨Nat.le_of_ble_eq_true rfl, Nat.le_of_ble_eq_true rfl⟩) hK hP hD hS hA [1, 2, 3, 4, 5, 6, 7, 8] [0] rfl rfl (by decide) (by decide) (by decide) [0, 1, 2, 3, 4, 5, 6, 7, 8] rfl (by decide) (va_recv hK hP (ci := 6) (q0 := 1) rfl rfl) rfl hl.1 rfl (Nat.le_of_ble_eq_true rfl) dX8_does_61 ⟨Nat.zero_le _, Nat.zero_le _⟩ (fun H locs hP hD hS => ?_)
      refine lv_iadd hx hb dX8_does_64 ?_
      have ho := Option.some.inj hf
      subst ho; subst hQ
      exact ht_iret hx hb hr hlk rfl hK hP hD hS dX8_does_65
    replace hf := ht_f c_5 hf
    by_cases c_7 : p1 = 2
    · replace hf := ht_t c_7 hf
      refine lv_tableIn (tgt := 66) hx hb dX8_does_14 (by rw [c_7]; decide) (by rw [c_7]; decide) (by rw [c_7]; rfl) (by decide) ?_
      refine lv_sipush (v := 1000) hx hb dX8_does_66 (by decide) ?_
      refine lv_aload_n hx hb dX8_does_69 rfl (lv_at hl 0 rfl) ?_
      refine va_get (D := D) (ci := 8) (v := .ref jN) (C := RX8) (T := TX8) (N := 13) hx hb hts iw8 hown hK hP 0 rfl rfl 0 (by decide) kw1 (fun _ h9 => h9) rfl dX8_does_70 ?_
      refine lv_iload_n hx hb dX8_does_73 rfl (lv_at hl 1 rfl) ?_
      obtain ⟨o_8, ho_8, hf⟩ := ht_bn_ob hf
      refine ht_callVi (r := o_8) (rest := [.int (1000 : Int32)]) (As := [.int p0]) (wc := (wTw K jN aN RN.laws RN.kind RN.need RN.saved RN.voice RN.partner RN.speaks RN.count RN.day RN.heard RN.geese RN.z)) (wr := (wHT K jX jN kX_kept kX_tried kX_trials kX_pairings kX_tape kX_telling kX_dayRows kX_deed kX_sheets kX_shelvedPerson kX_shelvedRow RX.anythingKept)) (w1 := (wTw K jN aN RN.laws RN.kind RN.need RN.saved RN.voice RN.partner RN.speaks RN.count RN.day RN.heard RN.geese RN.z)) (w2 := (wHT K jX jN kX_kept kX_tried kX_trials kX_pairings kX_tape kX_telling kX_dayRows kX_deed kX_sheets kX_shelvedPerson kX_shelvedRow RX.anythingKept ++ (wTw K jN aN RN.laws RN.kind RN.need RN.saved RN.voice RN.partner RN.speaks RN.count RN.day RN.heard RN.geese RN.z))) hF (ctX6_savesOf l D K jN aN RN p0 o_8 ho_8 H.size) (cwV 1 hts gX8_does_X6_savesOf rfl rfl rfl hdX6_savesOf ⟨Nat.le_of_ble_eq_true rfl, Nat.le_of_ble_eq_true rfl⟩) hK hP hD hS hA [1, 2, 3, 4, 5, 6, 7, 8] [0] rfl rfl (by decide) (by decide) (by decide) [0, 1, 2, 3, 4, 5, 6, 7, 8] rfl (by decide) (va_recv hK hP (ci := 6) (q0 := 1) rfl rfl) rfl hl.1 rfl (Nat.le_of_ble_eq_true rfl) dX8_does_74 ⟨Nat.zero_le _, Nat.zero_le _⟩ (fun H locs hP hD hS => ?_)
      refine lv_iadd hx hb dX8_does_77 ?_
      have ho := Option.some.inj hf
      subst ho; subst hQ
      exact ht_iret hx hb hr hlk rfl hK hP hD hS dX8_does_78
    replace hf := ht_f c_7 hf
    refine lv_tableOut (tgt := 79) hx hb dX8_does_14 (by have := lv_neT c_3 (a := 0) rfl; have := lv_neT c_5 (a := 1) rfl; have := lv_neT c_7 (a := 2) rfl; omega) (by decide) ?_
    refine lv_iconst (v := -1) hx hb dX8_does_79 (by decide) ?_
    have ho := Option.some.inj hf
    subst ho; subst hQ
    exact ht_iret hx hb hr hlk rfl hK hP hD hS dX8_does_80
  · replace hf := ht_t c_2 hf
    refine lv_iconst (v := -1) hx hb dX8_does_11 (by decide) ?_
    have ho := Option.some.inj hf
    subst ho; subst hQ
    exact ht_iret hx hb hr hlk rfl hK hP hD hS dX8_does_12
abbrev rmX8_mind : Room := { frames := 2, cells := 0, slots := 0, locals := 42 }
theorem hdX8_mind : yX8_mind.cls = RX8 ∧ yX8_mind.cls ≠ "java/lang/invoke/MethodHandle" ∧ yX8_mind.cls ≠ "java/lang/invoke/VarHandle" ∧ (parseMethodDescriptor yX8_mind.desc).map (fun d => d.parameters.length) = some 3 := by decide +kernel
def fX8_mind (RX : HTV) (RN : TownV) (p0 : Int32) (p1 : Int32) (p2 : Int32) : Option (Int32 × AI × AI) := ht_bn (fX6_has RN p0) (fun o_1 => if o_1 = 0 then (some ((-1 : Int32), RN.kind, RN.voice)) else (ht_bn (fX8_isKind p1) (fun o_3 => if o_3 = 0 then (some ((-1 : Int32), RN.kind, RN.voice)) else (ht_bn (fX8_isVoice p2) (fun o_5 => if o_5 = 0 then (some ((-1 : Int32), RN.kind, RN.voice)) else (ht_gd (ht_ix p0 8) (ht_nm (RN.kind p0.toNatClampNeg) (fun x4_8 => ht_gd (ht_ix p0 8) (ht_nm (upd RN.kind p0.toNatClampNeg p1) (fun vN_kind_10 => ht_gd (ht_ix p0 8) (ht_nm (upd RN.voice p0.toNatClampNeg p2) (fun vN_voice_12 => some (x4_8, vN_kind_10, vN_voice_12)))))))))))))
set_option maxHeartbeats 1000000 in
set_option maxRecDepth 100000 in
theorem ctX8_mind (l : Launch) (D : va_G) (K : Nat → ClassId) (jX : Nat) (jN : Nat) (aN : Nat → Nat) (kX_kept : Nat) (kX_tried : Nat) (kX_trials : Nat) (kX_pairings : Nat) (kX_tape : Nat) (kX_telling : Nat) (kX_dayRows : Nat) (kX_deed : Nat) (kX_sheets : Nat) (kX_shelvedPerson : Nat) (kX_shelvedRow : Nat) (RX : HTV) (RN : TownV) (p0 : Int32) (p1 : Int32) (p2 : Int32) (o : (Int32 × AI × AI)) (hf : fX8_mind RX RN p0 p1 p2 = some o) (sz : Nat) : Met l yX8_mind wsX8_mind rmX8_mind (ht_Pre D K [.ref jX, .int p0, .int p1, .int p2] (wHT K jX jN kX_kept kX_tried kX_trials kX_pairings kX_tape kX_telling kX_dayRows kX_deed kX_sheets kX_shelvedPerson kX_shelvedRow RX.anythingKept ++ (wTw K jN aN RN.laws RN.kind RN.need RN.saved RN.voice RN.partner RN.speaks RN.count RN.day RN.heard RN.geese RN.z)) sz) (ht_Qi D K (wHT K jX jN kX_kept kX_tried kX_trials kX_pairings kX_tape kX_telling kX_dayRows kX_deed kX_sheets kX_shelvedPerson kX_shelvedRow RX.anythingKept ++ (wTw K jN aN RN.laws o.2.1 RN.need RN.saved o.2.2 RN.partner RN.speaks RN.count RN.day RN.heard RN.geese RN.z)) o.1 (va_A (wHT K jX jN kX_kept kX_tried kX_trials kX_pairings kX_tape kX_telling kX_dayRows kX_deed kX_sheets kX_shelvedPerson kX_shelvedRow RX.anythingKept ++ (wTw K jN aN RN.laws RN.kind RN.need RN.saved RN.voice RN.partner RN.speaks RN.count RN.day RN.heard RN.geese RN.z)) sz)) 0 0 (va_A (wHT K jX jN kX_kept kX_tried kX_trials kX_pairings kX_tape kX_telling kX_dayRows kX_deed kX_sheets kX_shelvedPerson kX_shelvedRow RX.anythingKept ++ (wTw K jN aN RN.laws RN.kind RN.need RN.saved RN.voice RN.partner RN.speaks RN.count RN.day RN.heard RN.geese RN.z)) sz) := by
  refine ht_enter (Qf := ht_Qi D K (wHT K jX jN kX_kept kX_tried kX_trials kX_pairings kX_tape kX_telling kX_dayRows kX_deed kX_sheets kX_shelvedPerson kX_shelvedRow RX.anythingKept ++ (wTw K jN aN RN.laws o.2.1 RN.need RN.saved o.2.2 RN.partner RN.speaks RN.count RN.day RN.heard RN.geese RN.z)) o.1) (cc := cX8_mind) (maxL := 5) (rt := (some .int)) (by decide) rfl (Nat.le_of_ble_eq_true rfl) ?_ sz
  intro p e s m below meth c A Q H locs ls hQ hx hb hr hlk hmn hml hown hts hA hK hP hD hS hl
  have hown : s.vm.findClass RX8 = some m.cls := hown
  have hF : CallFix p m c cX8_mind 5 s ([.ref jX, .int p0, .int p1, .int p2] : List Value).toArray wsX8_mind RX8 := ⟨hx, hb, hml, hown, hts⟩
  have hl : lv_has ls 5 [(0, .ref jX), (1, .int p0), (2, .int p1), (3, .int p2)] := hl
  have iw8 : ∀ w ∈ u_ws RX8 TX8 13, w ∈ wsX8_mind := by decide +kernel
  have kw1 := hts (.fieldLink RX8 10 "HeldTongues" "now" "LHeldTongues$Town;") (by decide +kernel)
  have iw6 : ∀ w ∈ u_ws RX6 TX6 12, w ∈ wsX8_mind := by decide +kernel
  have kw3 := hts (.fieldLink RX8 139 "HeldTongues$Town" "kind" "[I") (by decide +kernel)
  have kw4 := hts (.fieldLink RX8 148 "HeldTongues$Town" "voice" "[I") (by decide +kernel)
  delta fX8_mind at hf
  refine lv_aload_n hx hb dX8_mind_0 rfl (lv_at hl 0 rfl) ?_
  refine va_get (D := D) (ci := 8) (v := .ref jN) (C := RX8) (T := TX8) (N := 13) hx hb hts iw8 hown hK hP 0 rfl rfl 0 (by decide) kw1 (fun _ h9 => h9) rfl dX8_mind_1 ?_
  refine lv_iload_n hx hb dX8_mind_4 rfl (lv_at hl 1 rfl) ?_
  obtain ⟨o_1, ho_1, hf⟩ := ht_bn_ob hf
  refine ht_callVi (r := o_1) (rest := []) (As := [.int p0]) (wc := (wTw K jN aN RN.laws RN.kind RN.need RN.saved RN.voice RN.partner RN.speaks RN.count RN.day RN.heard RN.geese RN.z)) (wr := (wHT K jX jN kX_kept kX_tried kX_trials kX_pairings kX_tape kX_telling kX_dayRows kX_deed kX_sheets kX_shelvedPerson kX_shelvedRow RX.anythingKept)) (w1 := (wTw K jN aN RN.laws RN.kind RN.need RN.saved RN.voice RN.partner RN.speaks RN.count RN.day RN.heard RN.geese RN.z)) (w2 := (wHT K jX jN kX_kept kX_tried kX_trials kX_pairings kX_tape kX_telling kX_dayRows kX_deed kX_sheets kX_shelvedPerson kX_shelvedRow RX.anythingKept ++ (wTw K jN aN RN.laws RN.kind RN.need RN.saved RN.voice RN.partner RN.speaks RN.count RN.day RN.heard RN.geese RN.z))) hF (ctX6_has l D K jN aN RN p0 o_1 ho_1 H.size) (cwV 1 hts gX8_mind_X6_has rfl rfl rfl hdX6_has ⟨Nat.le_of_ble_eq_true rfl, Nat.le_of_ble_eq_true rfl⟩) hK hP hD hS hA [1, 2, 3, 4, 5, 6, 7, 8] [0] rfl rfl (by decide) (by decide) (by decide) [0, 1, 2, 3, 4, 5, 6, 7, 8] rfl (by decide) (va_recv hK hP (ci := 6) (q0 := 1) rfl rfl) rfl hl.1 rfl (Nat.le_of_ble_eq_true rfl) dX8_mind_5 ⟨Nat.zero_le _, Nat.zero_le _⟩ (fun H locs hP hD hS => ?_)
  refine lv_if_eq (tgt := 25) hx hb dX8_mind_8 (by decide) (fun c_2 => ?_) (fun c_2 => ?_)
  · replace hf := ht_t c_2 hf
    refine lv_iconst (v := -1) hx hb dX8_mind_25 (by decide) ?_
    have ho := Option.some.inj hf
    subst ho; subst hQ
    exact ht_iret hx hb hr hlk rfl hK hP hD hS dX8_mind_26
  · replace hf := ht_f c_2 hf
    refine lv_iload_n hx hb dX8_mind_11 rfl (lv_at hl 2 rfl) ?_
    obtain ⟨o_3, ho_3, hf⟩ := ht_bn_ob hf
    refine ht_callSi (r := o_3) (rest := []) (As := [.int p1]) (wc := []) (wr := (wHT K jX jN kX_kept kX_tried kX_trials kX_pairings kX_tape kX_telling kX_dayRows kX_deed kX_sheets kX_shelvedPerson kX_shelvedRow RX.anythingKept ++ (wTw K jN aN RN.laws RN.kind RN.need RN.saved RN.voice RN.partner RN.speaks RN.count RN.day RN.heard RN.geese RN.z))) (w1 := []) (w2 := (wHT K jX jN kX_kept kX_tried kX_trials kX_pairings kX_tape kX_telling kX_dayRows kX_deed kX_sheets kX_shelvedPerson kX_shelvedRow RX.anythingKept ++ (wTw K jN aN RN.laws RN.kind RN.need RN.saved RN.voice RN.partner RN.speaks RN.count RN.day RN.heard RN.geese RN.z))) hF (ctX8_isKind l D K p1 o_3 ho_3 H.size) (va_cwS 1 hts gX8_mind_X8_isKind rfl rfl rfl hdX8_isKind ⟨Nat.le_of_ble_eq_true rfl, Nat.le_of_ble_eq_true rfl⟩) hK hP hD hS hA [] [0, 1, 2, 3, 4, 5, 6, 7, 8] rfl rfl (by decide) (by decide) (by decide) [0, 1, 2, 3, 4, 5, 6, 7, 8] rfl (by decide) rfl hl.1 rfl (Nat.le_of_ble_eq_true rfl) dX8_mind_12 ⟨Nat.zero_le _, Nat.zero_le _⟩ (fun H locs hP hD hS => ?_)
    refine lv_if_eq (tgt := 25) hx hb dX8_mind_15 (by decide) (fun c_4 => ?_) (fun c_4 => ?_)
    · replace hf := ht_t c_4 hf
      refine lv_iconst (v := -1) hx hb dX8_mind_25 (by decide) ?_
      have ho := Option.some.inj hf
      subst ho; subst hQ
      exact ht_iret hx hb hr hlk rfl hK hP hD hS dX8_mind_26
    · replace hf := ht_f c_4 hf
      refine lv_iload_n hx hb dX8_mind_18 rfl (lv_at hl 3 rfl) ?_
      obtain ⟨o_5, ho_5, hf⟩ := ht_bn_ob hf
      refine ht_callSi (r := o_5) (rest := []) (As := [.int p2]) (wc := []) (wr := (wHT K jX jN kX_kept kX_tried kX_trials kX_pairings kX_tape kX_telling kX_dayRows kX_deed kX_sheets kX_shelvedPerson kX_shelvedRow RX.anythingKept ++ (wTw K jN aN RN.laws RN.kind RN.need RN.saved RN.voice RN.partner RN.speaks RN.count RN.day RN.heard RN.geese RN.z))) (w1 := []) (w2 := (wHT K jX jN kX_kept kX_tried kX_trials kX_pairings kX_tape kX_telling kX_dayRows kX_deed kX_sheets kX_shelvedPerson kX_shelvedRow RX.anythingKept ++ (wTw K jN aN RN.laws RN.kind RN.need RN.saved RN.voice RN.partner RN.speaks RN.count RN.day RN.heard RN.geese RN.z))) hF (ctX8_isVoice l D K p2 o_5 ho_5 H.size) (va_cwS 1 hts gX8_mind_X8_isVoice rfl rfl rfl hdX8_isVoice ⟨Nat.le_of_ble_eq_true rfl, Nat.le_of_ble_eq_true rfl⟩) hK hP hD hS hA [] [0, 1, 2, 3, 4, 5, 6, 7, 8] rfl rfl (by decide) (by decide) (by decide) [0, 1, 2, 3, 4, 5, 6, 7, 8] rfl (by decide) rfl hl.1 rfl (Nat.le_of_ble_eq_true rfl) dX8_mind_19 ⟨Nat.zero_le _, Nat.zero_le _⟩ (fun H locs hP hD hS => ?_)
      refine lv_if_ne (tgt := 27) hx hb dX8_mind_22 (by decide) (fun c_6 => ?_) (fun c_6 => ?_)
      · replace hf := ht_f c_6 hf
        refine lv_aload_n hx hb dX8_mind_27 rfl (lv_at hl 0 rfl) ?_
        refine va_get (D := D) (ci := 8) (v := .ref jN) (C := RX8) (T := TX8) (N := 13) hx hb hts iw8 hown hK hP 0 rfl rfl 0 (by decide) kw1 (fun _ h9 => h9) rfl dX8_mind_28 ?_
        refine va_get (D := D) (ci := 6) (v := .ref (aN 1)) (C := RX6) (T := TX6) (N := 12) hx hb hts iw6 hown hK hP 1 rfl rfl 1 (by decide) kw3 (fun _ h9 => h9) rfl dX8_mind_31 ?_
        refine lv_iload_n hx hb dX8_mind_34 rfl (lv_at hl 1 rfl) ?_
        obtain ⟨g_7, hf⟩ := ht_gd_ob hf
        refine va_iald hx hb hK hP 3 1 rfl rfl (ht_ix_in g_7) dX8_mind_35 ?_
        obtain ⟨x4_8, ex4_8, hf⟩ := ht_nm_ob hf
        rw [← ex4_8]
        refine lv_istore (lv' := [(4, .int x4_8), (0, .ref jX), (1, .int p0), (2, .int p1), (3, .int p2)]) hx hb dX8_mind_36 hl (by decide) rfl (fun ls hl => ?_)
        refine lv_aload_n hx hb dX8_mind_38 rfl (lv_at hl 1 rfl) ?_
        refine va_get (D := D) (ci := 8) (v := .ref jN) (C := RX8) (T := TX8) (N := 13) hx hb hts iw8 hown hK hP 0 rfl rfl 0 (by decide) kw1 (fun _ h9 => h9) rfl dX8_mind_39 ?_
        refine va_get (D := D) (ci := 6) (v := .ref (aN 1)) (C := RX6) (T := TX6) (N := 12) hx hb hts iw6 hown hK hP 1 rfl rfl 1 (by decide) kw3 (fun _ h9 => h9) rfl dX8_mind_42 ?_
        refine lv_iload_n hx hb dX8_mind_45 rfl (lv_at hl 2 rfl) ?_
        refine lv_iload_n hx hb dX8_mind_46 rfl (lv_at hl 3 rfl) ?_
        obtain ⟨g_9, hf⟩ := ht_gd_ob hf
        obtain ⟨vN_kind_10, evN_kind_10, hf⟩ := ht_nm_ob hf
        refine ht_iast (w2 := (wHT K jX jN kX_kept kX_tried kX_trials kX_pairings kX_tape kX_telling kX_dayRows kX_deed kX_sheets kX_shelvedPerson kX_shelvedRow RX.anythingKept ++ (wTw K jN aN RN.laws vN_kind_10 RN.need RN.saved RN.voice RN.partner RN.speaks RN.count RN.day RN.heard RN.geese RN.z))) hx hb hK hP hD hS 3 1 rfl rfl g_9 dX8_mind_47 evN_kind_10 rfl (fun H locs hP hD hS => ?_)
        refine lv_aload_n hx hb dX8_mind_48 rfl (lv_at hl 1 rfl) ?_
        refine va_get (D := D) (ci := 8) (v := .ref jN) (C := RX8) (T := TX8) (N := 13) hx hb hts iw8 hown hK hP 0 rfl rfl 0 (by decide) kw1 (fun _ h9 => h9) rfl dX8_mind_49 ?_
        refine va_get (D := D) (ci := 6) (v := .ref (aN 4)) (C := RX6) (T := TX6) (N := 12) hx hb hts iw6 hown hK hP 1 rfl rfl 4 (by decide) kw4 (fun _ h9 => h9) rfl dX8_mind_52 ?_
        refine lv_iload_n hx hb dX8_mind_55 rfl (lv_at hl 2 rfl) ?_
        refine lv_iload_n hx hb dX8_mind_56 rfl (lv_at hl 4 rfl) ?_
        obtain ⟨g_11, hf⟩ := ht_gd_ob hf
        obtain ⟨vN_voice_12, evN_voice_12, hf⟩ := ht_nm_ob hf
        refine ht_iast (w2 := (wHT K jX jN kX_kept kX_tried kX_trials kX_pairings kX_tape kX_telling kX_dayRows kX_deed kX_sheets kX_shelvedPerson kX_shelvedRow RX.anythingKept ++ (wTw K jN aN RN.laws vN_kind_10 RN.need RN.saved vN_voice_12 RN.partner RN.speaks RN.count RN.day RN.heard RN.geese RN.z))) hx hb hK hP hD hS 6 1 rfl rfl g_11 dX8_mind_57 evN_voice_12 rfl (fun H locs hP hD hS => ?_)
        refine lv_iload hx hb dX8_mind_58 (lv_at hl 0 rfl) ?_
        have ho := Option.some.inj hf
        subst ho; subst hQ
        exact ht_iret hx hb hr hlk rfl hK hP hD hS dX8_mind_60
      · replace hf := ht_t c_6 hf
        refine lv_iconst (v := -1) hx hb dX8_mind_25 (by decide) ?_
        have ho := Option.some.inj hf
        subst ho; subst hQ
        exact ht_iret hx hb hr hlk rfl hK hP hD hS dX8_mind_26
abbrev rmX8_change : Room := { frames := 1, cells := 0, slots := 0, locals := 22 }
theorem hdX8_change : yX8_change.cls = RX8 ∧ yX8_change.cls ≠ "java/lang/invoke/MethodHandle" ∧ yX8_change.cls ≠ "java/lang/invoke/VarHandle" ∧ (parseMethodDescriptor yX8_change.desc).map (fun d => d.parameters.length) = some 3 := by decide +kernel
def fX8_change_b52 (RX : HTV) (RN : TownV) (x1 : Int32) (x2 : Int32) (x3 : Int32) (vN_need : AI) (vN_saved : AI) : Option (Int32 × AI × AI) := if x2 = (2 : Int32) then (ht_bn (fX8_within x3 (0 : Int32) (99 : Int32)) (fun o_2 => if o_2 = 0 then (some ((-1 : Int32), vN_need, vN_saved)) else (ht_gd (ht_ix x1 8) (ht_nm (vN_saved x1.toNatClampNeg) (fun x4_5 => ht_gd (ht_ix x1 8) (ht_nm (upd vN_saved x1.toNatClampNeg x3) (fun vN_saved_7 => some (x4_5, vN_need, vN_saved_7)))))))) else (some ((-1 : Int32), vN_need, vN_saved))
def fX8_change (RX : HTV) (RN : TownV) (p0 : Int32) (p1 : Int32) (p2 : Int32) : Option (Int32 × AI × AI) := ht_bn (fX6_has RN p0) (fun o_8 => if o_8 = 0 then (some ((-1 : Int32), RN.need, RN.saved)) else (if p1 = (1 : Int32) then (ht_bn (fX8_within p2 (0 : Int32) (99 : Int32)) (fun o_11 => if o_11 = 0 then (fX8_change_b52 RX RN p0 p1 p2 RN.need RN.saved) else (ht_gd (ht_ix p0 8) (ht_nm (RN.need p0.toNatClampNeg) (fun x4_14 => ht_gd (ht_ix p0 8) (ht_nm (upd RN.need p0.toNatClampNeg p2) (fun vN_need_16 => some (x4_14, vN_need_16, RN.saved)))))))) else (fX8_change_b52 RX RN p0 p1 p2 RN.need RN.saved)))
set_option maxHeartbeats 1000000 in
set_option maxRecDepth 100000 in
theorem ctX8_change (l : Launch) (D : va_G) (K : Nat → ClassId) (jX : Nat) (jN : Nat) (aN : Nat → Nat) (kX_kept : Nat) (kX_tried : Nat) (kX_trials : Nat) (kX_pairings : Nat) (kX_tape : Nat) (kX_telling : Nat) (kX_dayRows : Nat) (kX_deed : Nat) (kX_sheets : Nat) (kX_shelvedPerson : Nat) (kX_shelvedRow : Nat) (RX : HTV) (RN : TownV) (p0 : Int32) (p1 : Int32) (p2 : Int32) (o : (Int32 × AI × AI)) (hf : fX8_change RX RN p0 p1 p2 = some o) (sz : Nat) : Met l yX8_change wsX8_change rmX8_change (ht_Pre D K [.ref jX, .int p0, .int p1, .int p2] (wHT K jX jN kX_kept kX_tried kX_trials kX_pairings kX_tape kX_telling kX_dayRows kX_deed kX_sheets kX_shelvedPerson kX_shelvedRow RX.anythingKept ++ (wTw K jN aN RN.laws RN.kind RN.need RN.saved RN.voice RN.partner RN.speaks RN.count RN.day RN.heard RN.geese RN.z)) sz) (ht_Qi D K (wHT K jX jN kX_kept kX_tried kX_trials kX_pairings kX_tape kX_telling kX_dayRows kX_deed kX_sheets kX_shelvedPerson kX_shelvedRow RX.anythingKept ++ (wTw K jN aN RN.laws RN.kind o.2.1 o.2.2 RN.voice RN.partner RN.speaks RN.count RN.day RN.heard RN.geese RN.z)) o.1 (va_A (wHT K jX jN kX_kept kX_tried kX_trials kX_pairings kX_tape kX_telling kX_dayRows kX_deed kX_sheets kX_shelvedPerson kX_shelvedRow RX.anythingKept ++ (wTw K jN aN RN.laws RN.kind RN.need RN.saved RN.voice RN.partner RN.speaks RN.count RN.day RN.heard RN.geese RN.z)) sz)) 0 0 (va_A (wHT K jX jN kX_kept kX_tried kX_trials kX_pairings kX_tape kX_telling kX_dayRows kX_deed kX_sheets kX_shelvedPerson kX_shelvedRow RX.anythingKept ++ (wTw K jN aN RN.laws RN.kind RN.need RN.saved RN.voice RN.partner RN.speaks RN.count RN.day RN.heard RN.geese RN.z)) sz) := by
  refine ht_enter (Qf := ht_Qi D K (wHT K jX jN kX_kept kX_tried kX_trials kX_pairings kX_tape kX_telling kX_dayRows kX_deed kX_sheets kX_shelvedPerson kX_shelvedRow RX.anythingKept ++ (wTw K jN aN RN.laws RN.kind o.2.1 o.2.2 RN.voice RN.partner RN.speaks RN.count RN.day RN.heard RN.geese RN.z)) o.1) (cc := cX8_change) (maxL := 5) (rt := (some .int)) (by decide) rfl (Nat.le_of_ble_eq_true rfl) ?_ sz
  intro p e s m below meth c A Q H locs ls hQ hx hb hr hlk hmn hml hown hts hA hK hP hD hS hl
  have hown : s.vm.findClass RX8 = some m.cls := hown
  have hF : CallFix p m c cX8_change 5 s ([.ref jX, .int p0, .int p1, .int p2] : List Value).toArray wsX8_change RX8 := ⟨hx, hb, hml, hown, hts⟩
  have hl : lv_has ls 5 [(0, .ref jX), (1, .int p0), (2, .int p1), (3, .int p2)] := hl
  have iw8 : ∀ w ∈ u_ws RX8 TX8 13, w ∈ wsX8_change := by decide +kernel
  have kw1 := hts (.fieldLink RX8 10 "HeldTongues" "now" "LHeldTongues$Town;") (by decide +kernel)
  have iw6 : ∀ w ∈ u_ws RX6 TX6 12, w ∈ wsX8_change := by decide +kernel
  have kw3 := hts (.fieldLink RX8 145 "HeldTongues$Town" "saved" "[I") (by decide +kernel)
  have kw4 := hts (.fieldLink RX8 142 "HeldTongues$Town" "need" "[I") (by decide +kernel)
  have b52 : ∀ (x1 : Int32) (x2 : Int32) (x3 : Int32) (vN_need : AI) (vN_saved : AI) (H : Heap) (locs : List Loc) (ls : Array Slot), fX8_change_b52 RX RN x1 x2 x3 vN_need vN_saved = some o → va_P D vwCl (wHT K jX jN kX_kept kX_tried kX_trials kX_pairings kX_tape kX_telling kX_dayRows kX_deed kX_sheets kX_shelvedPerson kX_shelvedRow RX.anythingKept ++ (wTw K jN aN RN.laws RN.kind vN_need vN_saved RN.voice RN.partner RN.speaks RN.count RN.day RN.heard RN.geese RN.z)) H → va_D A (wHT K jX jN kX_kept kX_tried kX_trials kX_pairings kX_tape kX_telling kX_dayRows kX_deed kX_sheets kX_shelvedPerson kX_shelvedRow RX.anythingKept ++ (wTw K jN aN RN.laws RN.kind vN_need vN_saved RN.voice RN.partner RN.speaks RN.count RN.day RN.heard RN.geese RN.z)) → va_S A s.heap H locs → lv_has ls 5 [(0, .ref jX), (1, .int x1), (2, .int x2), (3, .int x3)] → W p l e (headSpec wsX8_change rmX8_change).room s m ([.ref jX, .int p0, .int p1, .int p2] : List Value).toArray below meth c H locs 0 0 Q (F0 m 52 ls []) := by
    intro x1 x2 x3 vN_need vN_saved H locs ls hf hP hD hS hl
    delta fX8_change_b52 at hf
    refine lv_iload_n hx hb dX8_change_52 rfl (lv_at hl 2 rfl) ?_
    refine lv_iconst (v := 2) hx hb dX8_change_53 (by decide) ?_
    refine lv_icmp_ne (tgt := 91) hx hb dX8_change_54 (by decide) (fun c_1 => ?_) (fun c_1 => ?_)
    · replace hf := ht_f c_1 hf
      refine lv_iconst (v := -1) hx hb dX8_change_91 (by decide) ?_
      have ho := Option.some.inj hf
      subst ho; subst hQ
      exact ht_iret hx hb hr hlk rfl hK hP hD hS dX8_change_92
    · replace hf := ht_t c_1 hf
      refine lv_iload_n hx hb dX8_change_57 rfl (lv_at hl 3 rfl) ?_
      refine lv_iconst (v := 0) hx hb dX8_change_58 (by decide) ?_
      refine lv_bipush (v := 99) hx hb dX8_change_59 (by decide) ?_
      obtain ⟨o_2, ho_2, hf⟩ := ht_bn_ob hf
      refine ht_callSi (r := o_2) (rest := []) (As := [.int x3, .int (0 : Int32), .int (99 : Int32)]) (wc := []) (wr := (wHT K jX jN kX_kept kX_tried kX_trials kX_pairings kX_tape kX_telling kX_dayRows kX_deed kX_sheets kX_shelvedPerson kX_shelvedRow RX.anythingKept ++ (wTw K jN aN RN.laws RN.kind vN_need vN_saved RN.voice RN.partner RN.speaks RN.count RN.day RN.heard RN.geese RN.z))) (w1 := []) (w2 := (wHT K jX jN kX_kept kX_tried kX_trials kX_pairings kX_tape kX_telling kX_dayRows kX_deed kX_sheets kX_shelvedPerson kX_shelvedRow RX.anythingKept ++ (wTw K jN aN RN.laws RN.kind vN_need vN_saved RN.voice RN.partner RN.speaks RN.count RN.day RN.heard RN.geese RN.z))) hF (ctX8_within l D K x3 (0 : Int32) (99 : Int32) o_2 ho_2 H.size) (va_cwS 3 hts gX8_change_X8_within rfl rfl rfl hdX8_within ⟨Nat.le_of_ble_eq_true rfl, Nat.le_of_ble_eq_true rfl⟩) hK hP hD hS hA [] [0, 1, 2, 3, 4, 5, 6, 7, 8] rfl rfl (by decide) (by decide) (by decide) [0, 1, 2, 3, 4, 5, 6, 7, 8] rfl (by decide) rfl hl.1 rfl (Nat.le_of_ble_eq_true rfl) dX8_change_61 ⟨Nat.zero_le _, Nat.zero_le _⟩ (fun H locs hP hD hS => ?_)
      refine lv_if_eq (tgt := 91) hx hb dX8_change_64 (by decide) (fun c_3 => ?_) (fun c_3 => ?_)
      · replace hf := ht_t c_3 hf
        refine lv_iconst (v := -1) hx hb dX8_change_91 (by decide) ?_
        have ho := Option.some.inj hf
        subst ho; subst hQ
        exact ht_iret hx hb hr hlk rfl hK hP hD hS dX8_change_92
      · replace hf := ht_f c_3 hf
        refine lv_aload_n hx hb dX8_change_67 rfl (lv_at hl 0 rfl) ?_
        refine va_get (D := D) (ci := 8) (v := .ref jN) (C := RX8) (T := TX8) (N := 13) hx hb hts iw8 hown hK hP 0 rfl rfl 0 (by decide) kw1 (fun _ h9 => h9) rfl dX8_change_68 ?_
        refine va_get (D := D) (ci := 6) (v := .ref (aN 3)) (C := RX6) (T := TX6) (N := 12) hx hb hts iw6 hown hK hP 1 rfl rfl 3 (by decide) kw3 (fun _ h9 => h9) rfl dX8_change_71 ?_
        refine lv_iload_n hx hb dX8_change_74 rfl (lv_at hl 1 rfl) ?_
        obtain ⟨g_4, hf⟩ := ht_gd_ob hf
        refine va_iald hx hb hK hP 5 1 rfl rfl (ht_ix_in g_4) dX8_change_75 ?_
        obtain ⟨x4_5, ex4_5, hf⟩ := ht_nm_ob hf
        rw [← ex4_5]
        refine lv_istore (lv' := [(4, .int x4_5), (0, .ref jX), (1, .int x1), (2, .int x2), (3, .int x3)]) hx hb dX8_change_76 hl (by decide) rfl (fun ls hl => ?_)
        refine lv_aload_n hx hb dX8_change_78 rfl (lv_at hl 1 rfl) ?_
        refine va_get (D := D) (ci := 8) (v := .ref jN) (C := RX8) (T := TX8) (N := 13) hx hb hts iw8 hown hK hP 0 rfl rfl 0 (by decide) kw1 (fun _ h9 => h9) rfl dX8_change_79 ?_
        refine va_get (D := D) (ci := 6) (v := .ref (aN 3)) (C := RX6) (T := TX6) (N := 12) hx hb hts iw6 hown hK hP 1 rfl rfl 3 (by decide) kw3 (fun _ h9 => h9) rfl dX8_change_82 ?_
        refine lv_iload_n hx hb dX8_change_85 rfl (lv_at hl 2 rfl) ?_
        refine lv_iload_n hx hb dX8_change_86 rfl (lv_at hl 4 rfl) ?_
        obtain ⟨g_6, hf⟩ := ht_gd_ob hf
        obtain ⟨vN_saved_7, evN_saved_7, hf⟩ := ht_nm_ob hf
        refine ht_iast (w2 := (wHT K jX jN kX_kept kX_tried kX_trials kX_pairings kX_tape kX_telling kX_dayRows kX_deed kX_sheets kX_shelvedPerson kX_shelvedRow RX.anythingKept ++ (wTw K jN aN RN.laws RN.kind vN_need vN_saved_7 RN.voice RN.partner RN.speaks RN.count RN.day RN.heard RN.geese RN.z))) hx hb hK hP hD hS 5 1 rfl rfl g_6 dX8_change_87 evN_saved_7 rfl (fun H locs hP hD hS => ?_)
        refine lv_iload hx hb dX8_change_88 (lv_at hl 0 rfl) ?_
        have ho := Option.some.inj hf
        subst ho; subst hQ
        exact ht_iret hx hb hr hlk rfl hK hP hD hS dX8_change_90
  delta fX8_change at hf
  refine lv_aload_n hx hb dX8_change_0 rfl (lv_at hl 0 rfl) ?_
  refine va_get (D := D) (ci := 8) (v := .ref jN) (C := RX8) (T := TX8) (N := 13) hx hb hts iw8 hown hK hP 0 rfl rfl 0 (by decide) kw1 (fun _ h9 => h9) rfl dX8_change_1 ?_
  refine lv_iload_n hx hb dX8_change_4 rfl (lv_at hl 1 rfl) ?_
  obtain ⟨o_8, ho_8, hf⟩ := ht_bn_ob hf
  refine ht_callVi (r := o_8) (rest := []) (As := [.int p0]) (wc := (wTw K jN aN RN.laws RN.kind RN.need RN.saved RN.voice RN.partner RN.speaks RN.count RN.day RN.heard RN.geese RN.z)) (wr := (wHT K jX jN kX_kept kX_tried kX_trials kX_pairings kX_tape kX_telling kX_dayRows kX_deed kX_sheets kX_shelvedPerson kX_shelvedRow RX.anythingKept)) (w1 := (wTw K jN aN RN.laws RN.kind RN.need RN.saved RN.voice RN.partner RN.speaks RN.count RN.day RN.heard RN.geese RN.z)) (w2 := (wHT K jX jN kX_kept kX_tried kX_trials kX_pairings kX_tape kX_telling kX_dayRows kX_deed kX_sheets kX_shelvedPerson kX_shelvedRow RX.anythingKept ++ (wTw K jN aN RN.laws RN.kind RN.need RN.saved RN.voice RN.partner RN.speaks RN.count RN.day RN.heard RN.geese RN.z))) hF (ctX6_has l D K jN aN RN p0 o_8 ho_8 H.size) (cwV 1 hts gX8_change_X6_has rfl rfl rfl hdX6_has ⟨Nat.le_of_ble_eq_true rfl, Nat.le_of_ble_eq_true rfl⟩) hK hP hD hS hA [1, 2, 3, 4, 5, 6, 7, 8] [0] rfl rfl (by decide) (by decide) (by decide) [0, 1, 2, 3, 4, 5, 6, 7, 8] rfl (by decide) (va_recv hK hP (ci := 6) (q0 := 1) rfl rfl) rfl hl.1 rfl (Nat.le_of_ble_eq_true rfl) dX8_change_5 ⟨Nat.zero_le _, Nat.zero_le _⟩ (fun H locs hP hD hS => ?_)
  refine lv_if_ne (tgt := 13) hx hb dX8_change_8 (by decide) (fun c_9 => ?_) (fun c_9 => ?_)
  · replace hf := ht_f c_9 hf
    refine lv_iload_n hx hb dX8_change_13 rfl (lv_at hl 2 rfl) ?_
    refine lv_iconst (v := 1) hx hb dX8_change_14 (by decide) ?_
    refine lv_icmp_ne (tgt := 52) hx hb dX8_change_15 (by decide) (fun c_10 => ?_) (fun c_10 => ?_)
    · replace hf := ht_f c_10 hf
      exact b52  p0 p1 p2 RN.need RN.saved _ _ _ hf hP hD hS hl
    · replace hf := ht_t c_10 hf
      refine lv_iload_n hx hb dX8_change_18 rfl (lv_at hl 3 rfl) ?_
      refine lv_iconst (v := 0) hx hb dX8_change_19 (by decide) ?_
      refine lv_bipush (v := 99) hx hb dX8_change_20 (by decide) ?_
      obtain ⟨o_11, ho_11, hf⟩ := ht_bn_ob hf
      refine ht_callSi (r := o_11) (rest := []) (As := [.int p2, .int (0 : Int32), .int (99 : Int32)]) (wc := []) (wr := (wHT K jX jN kX_kept kX_tried kX_trials kX_pairings kX_tape kX_telling kX_dayRows kX_deed kX_sheets kX_shelvedPerson kX_shelvedRow RX.anythingKept ++ (wTw K jN aN RN.laws RN.kind RN.need RN.saved RN.voice RN.partner RN.speaks RN.count RN.day RN.heard RN.geese RN.z))) (w1 := []) (w2 := (wHT K jX jN kX_kept kX_tried kX_trials kX_pairings kX_tape kX_telling kX_dayRows kX_deed kX_sheets kX_shelvedPerson kX_shelvedRow RX.anythingKept ++ (wTw K jN aN RN.laws RN.kind RN.need RN.saved RN.voice RN.partner RN.speaks RN.count RN.day RN.heard RN.geese RN.z))) hF (ctX8_within l D K p2 (0 : Int32) (99 : Int32) o_11 ho_11 H.size) (va_cwS 3 hts gX8_change_X8_within rfl rfl rfl hdX8_within ⟨Nat.le_of_ble_eq_true rfl, Nat.le_of_ble_eq_true rfl⟩) hK hP hD hS hA [] [0, 1, 2, 3, 4, 5, 6, 7, 8] rfl rfl (by decide) (by decide) (by decide) [0, 1, 2, 3, 4, 5, 6, 7, 8] rfl (by decide) rfl hl.1 rfl (Nat.le_of_ble_eq_true rfl) dX8_change_22 ⟨Nat.zero_le _, Nat.zero_le _⟩ (fun H locs hP hD hS => ?_)
      refine lv_if_eq (tgt := 52) hx hb dX8_change_25 (by decide) (fun c_12 => ?_) (fun c_12 => ?_)
      · replace hf := ht_t c_12 hf
        exact b52  p0 p1 p2 RN.need RN.saved _ _ _ hf hP hD hS hl
      · replace hf := ht_f c_12 hf
        refine lv_aload_n hx hb dX8_change_28 rfl (lv_at hl 0 rfl) ?_
        refine va_get (D := D) (ci := 8) (v := .ref jN) (C := RX8) (T := TX8) (N := 13) hx hb hts iw8 hown hK hP 0 rfl rfl 0 (by decide) kw1 (fun _ h9 => h9) rfl dX8_change_29 ?_
        refine va_get (D := D) (ci := 6) (v := .ref (aN 2)) (C := RX6) (T := TX6) (N := 12) hx hb hts iw6 hown hK hP 1 rfl rfl 2 (by decide) kw4 (fun _ h9 => h9) rfl dX8_change_32 ?_
        refine lv_iload_n hx hb dX8_change_35 rfl (lv_at hl 1 rfl) ?_
        obtain ⟨g_13, hf⟩ := ht_gd_ob hf
        refine va_iald hx hb hK hP 4 1 rfl rfl (ht_ix_in g_13) dX8_change_36 ?_
        obtain ⟨x4_14, ex4_14, hf⟩ := ht_nm_ob hf
        rw [← ex4_14]
        refine lv_istore (lv' := [(4, .int x4_14), (0, .ref jX), (1, .int p0), (2, .int p1), (3, .int p2)]) hx hb dX8_change_37 hl (by decide) rfl (fun ls hl => ?_)
        refine lv_aload_n hx hb dX8_change_39 rfl (lv_at hl 1 rfl) ?_
        refine va_get (D := D) (ci := 8) (v := .ref jN) (C := RX8) (T := TX8) (N := 13) hx hb hts iw8 hown hK hP 0 rfl rfl 0 (by decide) kw1 (fun _ h9 => h9) rfl dX8_change_40 ?_
        refine va_get (D := D) (ci := 6) (v := .ref (aN 2)) (C := RX6) (T := TX6) (N := 12) hx hb hts iw6 hown hK hP 1 rfl rfl 2 (by decide) kw4 (fun _ h9 => h9) rfl dX8_change_43 ?_
        refine lv_iload_n hx hb dX8_change_46 rfl (lv_at hl 2 rfl) ?_
        refine lv_iload_n hx hb dX8_change_47 rfl (lv_at hl 4 rfl) ?_
        obtain ⟨g_15, hf⟩ := ht_gd_ob hf
        obtain ⟨vN_need_16, evN_need_16, hf⟩ := ht_nm_ob hf
        refine ht_iast (w2 := (wHT K jX jN kX_kept kX_tried kX_trials kX_pairings kX_tape kX_telling kX_dayRows kX_deed kX_sheets kX_shelvedPerson kX_shelvedRow RX.anythingKept ++ (wTw K jN aN RN.laws RN.kind vN_need_16 RN.saved RN.voice RN.partner RN.speaks RN.count RN.day RN.heard RN.geese RN.z))) hx hb hK hP hD hS 4 1 rfl rfl g_15 dX8_change_48 evN_need_16 rfl (fun H locs hP hD hS => ?_)
        refine lv_iload hx hb dX8_change_49 (lv_at hl 0 rfl) ?_
        have ho := Option.some.inj hf
        subst ho; subst hQ
        exact ht_iret hx hb hr hlk rfl hK hP hD hS dX8_change_51
  · replace hf := ht_t c_9 hf
    refine lv_iconst (v := -1) hx hb dX8_change_11 (by decide) ?_
    have ho := Option.some.inj hf
    subst ho; subst hQ
    exact ht_iret hx hb hr hlk rfl hK hP hD hS dX8_change_12
abbrev rmX8_pair : Room := { frames := 3, cells := 0, slots := 0, locals := 65 }
theorem hdX8_pair : yX8_pair.cls = RX8 ∧ yX8_pair.cls ≠ "java/lang/invoke/MethodHandle" ∧ yX8_pair.cls ≠ "java/lang/invoke/VarHandle" ∧ (parseMethodDescriptor yX8_pair.desc).map (fun d => d.parameters.length) = some 2 := by decide +kernel
def fX8_pair_b47 (RX : HTV) (RN : TownV) (x1 : Int32) (x2 : Int32) (t0 : Int32) (vN_partner : AI) (vN_speaks : AI) : Option (Int32 × AI × AI) := ht_bn (fX6_join (RN.laws, RN.kind, RN.need, RN.saved, RN.voice, vN_partner, vN_speaks, RN.count, RN.day, RN.heard, RN.geese, RN.z) x1 x2) (fun o_1 => if t0 = 0 then (some ((0 : Int32), o_1.1, o_1.2)) else (some ((1 : Int32), o_1.1, o_1.2)))
def fX8_pair (RX : HTV) (RN : TownV) (p0 : Int32) (p1 : Int32) : Option (Int32 × AI × AI) := ht_bn (fX6_has RN p0) (fun o_3 => if o_3 = 0 then (some ((-1 : Int32), RN.partner, RN.speaks)) else (ht_bn (fX6_has RN p1) (fun o_5 => if o_5 = 0 then (some ((-1 : Int32), RN.partner, RN.speaks)) else (if p0 = p1 then (some ((-1 : Int32), RN.partner, RN.speaks)) else (ht_gd (ht_ix p0 8) (if (RN.partner p0.toNatClampNeg) = p1 then (fX8_pair_b47 RX RN p0 p1 (1 : Int32) RN.partner RN.speaks) else (fX8_pair_b47 RX RN p0 p1 (0 : Int32) RN.partner RN.speaks)))))))
set_option maxHeartbeats 1000000 in
set_option maxRecDepth 100000 in
theorem ctX8_pair (l : Launch) (D : va_G) (K : Nat → ClassId) (jX : Nat) (jN : Nat) (aN : Nat → Nat) (kX_kept : Nat) (kX_tried : Nat) (kX_trials : Nat) (kX_pairings : Nat) (kX_tape : Nat) (kX_telling : Nat) (kX_dayRows : Nat) (kX_deed : Nat) (kX_sheets : Nat) (kX_shelvedPerson : Nat) (kX_shelvedRow : Nat) (RX : HTV) (RN : TownV) (p0 : Int32) (p1 : Int32) (o : (Int32 × AI × AI)) (hf : fX8_pair RX RN p0 p1 = some o) (sz : Nat) : Met l yX8_pair wsX8_pair rmX8_pair (ht_Pre D K [.ref jX, .int p0, .int p1] (wHT K jX jN kX_kept kX_tried kX_trials kX_pairings kX_tape kX_telling kX_dayRows kX_deed kX_sheets kX_shelvedPerson kX_shelvedRow RX.anythingKept ++ (wTw K jN aN RN.laws RN.kind RN.need RN.saved RN.voice RN.partner RN.speaks RN.count RN.day RN.heard RN.geese RN.z)) sz) (ht_Qi D K (wHT K jX jN kX_kept kX_tried kX_trials kX_pairings kX_tape kX_telling kX_dayRows kX_deed kX_sheets kX_shelvedPerson kX_shelvedRow RX.anythingKept ++ (wTw K jN aN RN.laws RN.kind RN.need RN.saved RN.voice o.2.1 o.2.2 RN.count RN.day RN.heard RN.geese RN.z)) o.1 (va_A (wHT K jX jN kX_kept kX_tried kX_trials kX_pairings kX_tape kX_telling kX_dayRows kX_deed kX_sheets kX_shelvedPerson kX_shelvedRow RX.anythingKept ++ (wTw K jN aN RN.laws RN.kind RN.need RN.saved RN.voice RN.partner RN.speaks RN.count RN.day RN.heard RN.geese RN.z)) sz)) 0 0 (va_A (wHT K jX jN kX_kept kX_tried kX_trials kX_pairings kX_tape kX_telling kX_dayRows kX_deed kX_sheets kX_shelvedPerson kX_shelvedRow RX.anythingKept ++ (wTw K jN aN RN.laws RN.kind RN.need RN.saved RN.voice RN.partner RN.speaks RN.count RN.day RN.heard RN.geese RN.z)) sz) := by
  refine ht_enter (Qf := ht_Qi D K (wHT K jX jN kX_kept kX_tried kX_trials kX_pairings kX_tape kX_telling kX_dayRows kX_deed kX_sheets kX_shelvedPerson kX_shelvedRow RX.anythingKept ++ (wTw K jN aN RN.laws RN.kind RN.need RN.saved RN.voice o.2.1 o.2.2 RN.count RN.day RN.heard RN.geese RN.z)) o.1) (cc := cX8_pair) (maxL := 4) (rt := (some .int)) (by decide) rfl (Nat.le_of_ble_eq_true rfl) ?_ sz
  intro p e s m below meth c A Q H locs ls hQ hx hb hr hlk hmn hml hown hts hA hK hP hD hS hl
  have hown : s.vm.findClass RX8 = some m.cls := hown
  have hF : CallFix p m c cX8_pair 4 s ([.ref jX, .int p0, .int p1] : List Value).toArray wsX8_pair RX8 := ⟨hx, hb, hml, hown, hts⟩
  have hl : lv_has ls 4 [(0, .ref jX), (1, .int p0), (2, .int p1)] := hl
  have iw8 : ∀ w ∈ u_ws RX8 TX8 13, w ∈ wsX8_pair := by decide +kernel
  have kw1 := hts (.fieldLink RX8 10 "HeldTongues" "now" "LHeldTongues$Town;") (by decide +kernel)
  have iw6 : ∀ w ∈ u_ws RX6 TX6 12, w ∈ wsX8_pair := by decide +kernel
  have kw3 := hts (.fieldLink RX8 151 "HeldTongues$Town" "partner" "[I") (by decide +kernel)
  have b47 : ∀ (x1 : Int32) (x2 : Int32) (t0 : Int32) (vN_partner : AI) (vN_speaks : AI) (H : Heap) (locs : List Loc) (ls : Array Slot), fX8_pair_b47 RX RN x1 x2 t0 vN_partner vN_speaks = some o → va_P D vwCl (wHT K jX jN kX_kept kX_tried kX_trials kX_pairings kX_tape kX_telling kX_dayRows kX_deed kX_sheets kX_shelvedPerson kX_shelvedRow RX.anythingKept ++ (wTw K jN aN RN.laws RN.kind RN.need RN.saved RN.voice vN_partner vN_speaks RN.count RN.day RN.heard RN.geese RN.z)) H → va_D A (wHT K jX jN kX_kept kX_tried kX_trials kX_pairings kX_tape kX_telling kX_dayRows kX_deed kX_sheets kX_shelvedPerson kX_shelvedRow RX.anythingKept ++ (wTw K jN aN RN.laws RN.kind RN.need RN.saved RN.voice vN_partner vN_speaks RN.count RN.day RN.heard RN.geese RN.z)) → va_S A s.heap H locs → lv_has ls 4 [(0, .ref jX), (1, .int x1), (2, .int x2)] → W p l e (headSpec wsX8_pair rmX8_pair).room s m ([.ref jX, .int p0, .int p1] : List Value).toArray below meth c H locs 0 0 Q (F0 m 47 ls [.int t0]) := by
    intro x1 x2 t0 vN_partner vN_speaks H locs ls hf hP hD hS hl
    delta fX8_pair_b47 at hf
    refine lv_istore_n (lv' := [(3, .int t0), (0, .ref jX), (1, .int x1), (2, .int x2)]) hx hb dX8_pair_47 rfl hl (by decide) rfl (fun ls hl => ?_)
    refine lv_aload_n hx hb dX8_pair_48 rfl (lv_at hl 1 rfl) ?_
    refine va_get (D := D) (ci := 8) (v := .ref jN) (C := RX8) (T := TX8) (N := 13) hx hb hts iw8 hown hK hP 0 rfl rfl 0 (by decide) kw1 (fun _ h9 => h9) rfl dX8_pair_49 ?_
    refine lv_iload_n hx hb dX8_pair_52 rfl (lv_at hl 2 rfl) ?_
    refine lv_iload_n hx hb dX8_pair_53 rfl (lv_at hl 3 rfl) ?_
    obtain ⟨o_1, ho_1, hf⟩ := ht_bn_ob hf
    refine ht_callVv (rest := []) (As := [.int x1, .int x2]) (wc := (wTw K jN aN RN.laws RN.kind RN.need RN.saved RN.voice vN_partner vN_speaks RN.count RN.day RN.heard RN.geese RN.z)) (wr := (wHT K jX jN kX_kept kX_tried kX_trials kX_pairings kX_tape kX_telling kX_dayRows kX_deed kX_sheets kX_shelvedPerson kX_shelvedRow RX.anythingKept)) (w1 := (wTw K jN aN RN.laws RN.kind RN.need RN.saved RN.voice o_1.1 o_1.2 RN.count RN.day RN.heard RN.geese RN.z)) (w2 := (wHT K jX jN kX_kept kX_tried kX_trials kX_pairings kX_tape kX_telling kX_dayRows kX_deed kX_sheets kX_shelvedPerson kX_shelvedRow RX.anythingKept ++ (wTw K jN aN RN.laws RN.kind RN.need RN.saved RN.voice o_1.1 o_1.2 RN.count RN.day RN.heard RN.geese RN.z))) hF (ctX6_join l D K jN aN (RN.laws, RN.kind, RN.need, RN.saved, RN.voice, vN_partner, vN_speaks, RN.count, RN.day, RN.heard, RN.geese, RN.z) x1 x2 o_1 ho_1 H.size) (cwV 2 hts gX8_pair_X6_join rfl rfl rfl hdX6_join ⟨Nat.le_of_ble_eq_true rfl, Nat.le_of_ble_eq_true rfl⟩) hK hP hD hS hA [1, 2, 3, 4, 5, 6, 7, 8] [0] rfl rfl (by decide) (by decide) (by decide) [0, 1, 2, 3, 4, 5, 6, 7, 8] rfl (by decide) (va_recv hK hP (ci := 6) (q0 := 1) rfl rfl) rfl hl.1 rfl (Nat.le_of_ble_eq_true rfl) dX8_pair_54 ⟨Nat.zero_le _, Nat.zero_le _⟩ (fun H locs hP hD hS => ?_)
    refine lv_iload_n hx hb dX8_pair_57 rfl (lv_at hl 0 rfl) ?_
    refine lv_if_eq (tgt := 65) hx hb dX8_pair_58 (by decide) (fun c_2 => ?_) (fun c_2 => ?_)
    · replace hf := ht_t c_2 hf
      refine lv_iconst (v := 0) hx hb dX8_pair_65 (by decide) ?_
      have ho := Option.some.inj hf
      subst ho; subst hQ
      exact ht_iret hx hb hr hlk rfl hK hP hD hS dX8_pair_66
    · replace hf := ht_f c_2 hf
      refine lv_iconst (v := 1) hx hb dX8_pair_61 (by decide) ?_
      refine lv_goto (tgt := 66) hx hb dX8_pair_62 (by decide) ?_
      have ho := Option.some.inj hf
      subst ho; subst hQ
      exact ht_iret hx hb hr hlk rfl hK hP hD hS dX8_pair_66
  delta fX8_pair at hf
  refine lv_aload_n hx hb dX8_pair_0 rfl (lv_at hl 0 rfl) ?_
  refine va_get (D := D) (ci := 8) (v := .ref jN) (C := RX8) (T := TX8) (N := 13) hx hb hts iw8 hown hK hP 0 rfl rfl 0 (by decide) kw1 (fun _ h9 => h9) rfl dX8_pair_1 ?_
  refine lv_iload_n hx hb dX8_pair_4 rfl (lv_at hl 1 rfl) ?_
  obtain ⟨o_3, ho_3, hf⟩ := ht_bn_ob hf
  refine ht_callVi (r := o_3) (rest := []) (As := [.int p0]) (wc := (wTw K jN aN RN.laws RN.kind RN.need RN.saved RN.voice RN.partner RN.speaks RN.count RN.day RN.heard RN.geese RN.z)) (wr := (wHT K jX jN kX_kept kX_tried kX_trials kX_pairings kX_tape kX_telling kX_dayRows kX_deed kX_sheets kX_shelvedPerson kX_shelvedRow RX.anythingKept)) (w1 := (wTw K jN aN RN.laws RN.kind RN.need RN.saved RN.voice RN.partner RN.speaks RN.count RN.day RN.heard RN.geese RN.z)) (w2 := (wHT K jX jN kX_kept kX_tried kX_trials kX_pairings kX_tape kX_telling kX_dayRows kX_deed kX_sheets kX_shelvedPerson kX_shelvedRow RX.anythingKept ++ (wTw K jN aN RN.laws RN.kind RN.need RN.saved RN.voice RN.partner RN.speaks RN.count RN.day RN.heard RN.geese RN.z))) hF (ctX6_has l D K jN aN RN p0 o_3 ho_3 H.size) (cwV 1 hts gX8_pair_X6_has rfl rfl rfl hdX6_has ⟨Nat.le_of_ble_eq_true rfl, Nat.le_of_ble_eq_true rfl⟩) hK hP hD hS hA [1, 2, 3, 4, 5, 6, 7, 8] [0] rfl rfl (by decide) (by decide) (by decide) [0, 1, 2, 3, 4, 5, 6, 7, 8] rfl (by decide) (va_recv hK hP (ci := 6) (q0 := 1) rfl rfl) rfl hl.1 rfl (Nat.le_of_ble_eq_true rfl) dX8_pair_5 ⟨Nat.zero_le _, Nat.zero_le _⟩ (fun H locs hP hD hS => ?_)
  refine lv_if_eq (tgt := 27) hx hb dX8_pair_8 (by decide) (fun c_4 => ?_) (fun c_4 => ?_)
  · replace hf := ht_t c_4 hf
    refine lv_iconst (v := -1) hx hb dX8_pair_27 (by decide) ?_
    have ho := Option.some.inj hf
    subst ho; subst hQ
    exact ht_iret hx hb hr hlk rfl hK hP hD hS dX8_pair_28
  · replace hf := ht_f c_4 hf
    refine lv_aload_n hx hb dX8_pair_11 rfl (lv_at hl 0 rfl) ?_
    refine va_get (D := D) (ci := 8) (v := .ref jN) (C := RX8) (T := TX8) (N := 13) hx hb hts iw8 hown hK hP 0 rfl rfl 0 (by decide) kw1 (fun _ h9 => h9) rfl dX8_pair_12 ?_
    refine lv_iload_n hx hb dX8_pair_15 rfl (lv_at hl 2 rfl) ?_
    obtain ⟨o_5, ho_5, hf⟩ := ht_bn_ob hf
    refine ht_callVi (r := o_5) (rest := []) (As := [.int p1]) (wc := (wTw K jN aN RN.laws RN.kind RN.need RN.saved RN.voice RN.partner RN.speaks RN.count RN.day RN.heard RN.geese RN.z)) (wr := (wHT K jX jN kX_kept kX_tried kX_trials kX_pairings kX_tape kX_telling kX_dayRows kX_deed kX_sheets kX_shelvedPerson kX_shelvedRow RX.anythingKept)) (w1 := (wTw K jN aN RN.laws RN.kind RN.need RN.saved RN.voice RN.partner RN.speaks RN.count RN.day RN.heard RN.geese RN.z)) (w2 := (wHT K jX jN kX_kept kX_tried kX_trials kX_pairings kX_tape kX_telling kX_dayRows kX_deed kX_sheets kX_shelvedPerson kX_shelvedRow RX.anythingKept ++ (wTw K jN aN RN.laws RN.kind RN.need RN.saved RN.voice RN.partner RN.speaks RN.count RN.day RN.heard RN.geese RN.z))) hF (ctX6_has l D K jN aN RN p1 o_5 ho_5 H.size) (cwV 1 hts gX8_pair_X6_has rfl rfl rfl hdX6_has ⟨Nat.le_of_ble_eq_true rfl, Nat.le_of_ble_eq_true rfl⟩) hK hP hD hS hA [1, 2, 3, 4, 5, 6, 7, 8] [0] rfl rfl (by decide) (by decide) (by decide) [0, 1, 2, 3, 4, 5, 6, 7, 8] rfl (by decide) (va_recv hK hP (ci := 6) (q0 := 1) rfl rfl) rfl hl.1 rfl (Nat.le_of_ble_eq_true rfl) dX8_pair_16 ⟨Nat.zero_le _, Nat.zero_le _⟩ (fun H locs hP hD hS => ?_)
    refine lv_if_eq (tgt := 27) hx hb dX8_pair_19 (by decide) (fun c_6 => ?_) (fun c_6 => ?_)
    · replace hf := ht_t c_6 hf
      refine lv_iconst (v := -1) hx hb dX8_pair_27 (by decide) ?_
      have ho := Option.some.inj hf
      subst ho; subst hQ
      exact ht_iret hx hb hr hlk rfl hK hP hD hS dX8_pair_28
    · replace hf := ht_f c_6 hf
      refine lv_iload_n hx hb dX8_pair_22 rfl (lv_at hl 1 rfl) ?_
      refine lv_iload_n hx hb dX8_pair_23 rfl (lv_at hl 2 rfl) ?_
      refine lv_icmp_ne (tgt := 29) hx hb dX8_pair_24 (by decide) (fun c_7 => ?_) (fun c_7 => ?_)
      · replace hf := ht_f c_7 hf
        refine lv_aload_n hx hb dX8_pair_29 rfl (lv_at hl 0 rfl) ?_
        refine va_get (D := D) (ci := 8) (v := .ref jN) (C := RX8) (T := TX8) (N := 13) hx hb hts iw8 hown hK hP 0 rfl rfl 0 (by decide) kw1 (fun _ h9 => h9) rfl dX8_pair_30 ?_
        refine va_get (D := D) (ci := 6) (v := .ref (aN 5)) (C := RX6) (T := TX6) (N := 12) hx hb hts iw6 hown hK hP 1 rfl rfl 5 (by decide) kw3 (fun _ h9 => h9) rfl dX8_pair_33 ?_
        refine lv_iload_n hx hb dX8_pair_36 rfl (lv_at hl 1 rfl) ?_
        obtain ⟨g_8, hf⟩ := ht_gd_ob hf
        refine va_iald hx hb hK hP 7 1 rfl rfl (ht_ix_in g_8) dX8_pair_37 ?_
        refine lv_iload_n hx hb dX8_pair_38 rfl (lv_at hl 2 rfl) ?_
        refine lv_icmp_ne (tgt := 46) hx hb dX8_pair_39 (by decide) (fun c_9 => ?_) (fun c_9 => ?_)
        · replace hf := ht_f c_9 hf
          refine lv_iconst (v := 0) hx hb dX8_pair_46 (by decide) ?_
          exact b47  p0 p1 (0 : Int32) RN.partner RN.speaks _ _ _ hf hP hD hS hl
        · replace hf := ht_t c_9 hf
          refine lv_iconst (v := 1) hx hb dX8_pair_42 (by decide) ?_
          refine lv_goto (tgt := 47) hx hb dX8_pair_43 (by decide) ?_
          exact b47  p0 p1 (1 : Int32) RN.partner RN.speaks _ _ _ hf hP hD hS hl
      · replace hf := ht_t c_7 hf
        refine lv_iconst (v := -1) hx hb dX8_pair_27 (by decide) ?_
        have ho := Option.some.inj hf
        subst ho; subst hQ
        exact ht_iret hx hb hr hlk rfl hK hP hD hS dX8_pair_28
abbrev rmX8_leave : Room := { frames := 2, cells := 0, slots := 0, locals := 43 }
theorem hdX8_leave : yX8_leave.cls = RX8 ∧ yX8_leave.cls ≠ "java/lang/invoke/MethodHandle" ∧ yX8_leave.cls ≠ "java/lang/invoke/VarHandle" ∧ (parseMethodDescriptor yX8_leave.desc).map (fun d => d.parameters.length) = some 1 := by decide +kernel
def fX8_leave_b31 (RX : HTV) (RN : TownV) (x1 : Int32) (t0 : Int32) (vN_partner : AI) (vN_speaks : AI) : Option (Int32 × AI × AI) := ht_bn (fX6_unjoin (RN.laws, RN.kind, RN.need, RN.saved, RN.voice, vN_partner, vN_speaks, RN.count, RN.day, RN.heard, RN.geese, RN.z) x1) (fun o_1 => if t0 = 0 then (some ((0 : Int32), o_1.1, o_1.2)) else (some ((1 : Int32), o_1.1, o_1.2)))
def fX8_leave (RX : HTV) (RN : TownV) (p0 : Int32) : Option (Int32 × AI × AI) := ht_bn (fX6_has RN p0) (fun o_3 => if o_3 = 0 then (some ((-1 : Int32), RN.partner, RN.speaks)) else (ht_gd (ht_ix p0 8) (if (RN.partner p0.toNatClampNeg) = (-1 : Int32) then (fX8_leave_b31 RX RN p0 (0 : Int32) RN.partner RN.speaks) else (fX8_leave_b31 RX RN p0 (1 : Int32) RN.partner RN.speaks))))
set_option maxHeartbeats 1000000 in
set_option maxRecDepth 100000 in
theorem ctX8_leave (l : Launch) (D : va_G) (K : Nat → ClassId) (jX : Nat) (jN : Nat) (aN : Nat → Nat) (kX_kept : Nat) (kX_tried : Nat) (kX_trials : Nat) (kX_pairings : Nat) (kX_tape : Nat) (kX_telling : Nat) (kX_dayRows : Nat) (kX_deed : Nat) (kX_sheets : Nat) (kX_shelvedPerson : Nat) (kX_shelvedRow : Nat) (RX : HTV) (RN : TownV) (p0 : Int32) (o : (Int32 × AI × AI)) (hf : fX8_leave RX RN p0 = some o) (sz : Nat) : Met l yX8_leave wsX8_leave rmX8_leave (ht_Pre D K [.ref jX, .int p0] (wHT K jX jN kX_kept kX_tried kX_trials kX_pairings kX_tape kX_telling kX_dayRows kX_deed kX_sheets kX_shelvedPerson kX_shelvedRow RX.anythingKept ++ (wTw K jN aN RN.laws RN.kind RN.need RN.saved RN.voice RN.partner RN.speaks RN.count RN.day RN.heard RN.geese RN.z)) sz) (ht_Qi D K (wHT K jX jN kX_kept kX_tried kX_trials kX_pairings kX_tape kX_telling kX_dayRows kX_deed kX_sheets kX_shelvedPerson kX_shelvedRow RX.anythingKept ++ (wTw K jN aN RN.laws RN.kind RN.need RN.saved RN.voice o.2.1 o.2.2 RN.count RN.day RN.heard RN.geese RN.z)) o.1 (va_A (wHT K jX jN kX_kept kX_tried kX_trials kX_pairings kX_tape kX_telling kX_dayRows kX_deed kX_sheets kX_shelvedPerson kX_shelvedRow RX.anythingKept ++ (wTw K jN aN RN.laws RN.kind RN.need RN.saved RN.voice RN.partner RN.speaks RN.count RN.day RN.heard RN.geese RN.z)) sz)) 0 0 (va_A (wHT K jX jN kX_kept kX_tried kX_trials kX_pairings kX_tape kX_telling kX_dayRows kX_deed kX_sheets kX_shelvedPerson kX_shelvedRow RX.anythingKept ++ (wTw K jN aN RN.laws RN.kind RN.need RN.saved RN.voice RN.partner RN.speaks RN.count RN.day RN.heard RN.geese RN.z)) sz) := by
  refine ht_enter (Qf := ht_Qi D K (wHT K jX jN kX_kept kX_tried kX_trials kX_pairings kX_tape kX_telling kX_dayRows kX_deed kX_sheets kX_shelvedPerson kX_shelvedRow RX.anythingKept ++ (wTw K jN aN RN.laws RN.kind RN.need RN.saved RN.voice o.2.1 o.2.2 RN.count RN.day RN.heard RN.geese RN.z)) o.1) (cc := cX8_leave) (maxL := 3) (rt := (some .int)) (by decide) rfl (Nat.le_of_ble_eq_true rfl) ?_ sz
  intro p e s m below meth c A Q H locs ls hQ hx hb hr hlk hmn hml hown hts hA hK hP hD hS hl
  have hown : s.vm.findClass RX8 = some m.cls := hown
  have hF : CallFix p m c cX8_leave 3 s ([.ref jX, .int p0] : List Value).toArray wsX8_leave RX8 := ⟨hx, hb, hml, hown, hts⟩
  have hl : lv_has ls 3 [(0, .ref jX), (1, .int p0)] := hl
  have iw8 : ∀ w ∈ u_ws RX8 TX8 13, w ∈ wsX8_leave := by decide +kernel
  have kw1 := hts (.fieldLink RX8 10 "HeldTongues" "now" "LHeldTongues$Town;") (by decide +kernel)
  have iw6 : ∀ w ∈ u_ws RX6 TX6 12, w ∈ wsX8_leave := by decide +kernel
  have kw3 := hts (.fieldLink RX8 151 "HeldTongues$Town" "partner" "[I") (by decide +kernel)
  have b31 : ∀ (x1 : Int32) (t0 : Int32) (vN_partner : AI) (vN_speaks : AI) (H : Heap) (locs : List Loc) (ls : Array Slot), fX8_leave_b31 RX RN x1 t0 vN_partner vN_speaks = some o → va_P D vwCl (wHT K jX jN kX_kept kX_tried kX_trials kX_pairings kX_tape kX_telling kX_dayRows kX_deed kX_sheets kX_shelvedPerson kX_shelvedRow RX.anythingKept ++ (wTw K jN aN RN.laws RN.kind RN.need RN.saved RN.voice vN_partner vN_speaks RN.count RN.day RN.heard RN.geese RN.z)) H → va_D A (wHT K jX jN kX_kept kX_tried kX_trials kX_pairings kX_tape kX_telling kX_dayRows kX_deed kX_sheets kX_shelvedPerson kX_shelvedRow RX.anythingKept ++ (wTw K jN aN RN.laws RN.kind RN.need RN.saved RN.voice vN_partner vN_speaks RN.count RN.day RN.heard RN.geese RN.z)) → va_S A s.heap H locs → lv_has ls 3 [(0, .ref jX), (1, .int x1)] → W p l e (headSpec wsX8_leave rmX8_leave).room s m ([.ref jX, .int p0] : List Value).toArray below meth c H locs 0 0 Q (F0 m 31 ls [.int t0]) := by
    intro x1 t0 vN_partner vN_speaks H locs ls hf hP hD hS hl
    delta fX8_leave_b31 at hf
    refine lv_istore_n (lv' := [(2, .int t0), (0, .ref jX), (1, .int x1)]) hx hb dX8_leave_31 rfl hl (by decide) rfl (fun ls hl => ?_)
    refine lv_aload_n hx hb dX8_leave_32 rfl (lv_at hl 1 rfl) ?_
    refine va_get (D := D) (ci := 8) (v := .ref jN) (C := RX8) (T := TX8) (N := 13) hx hb hts iw8 hown hK hP 0 rfl rfl 0 (by decide) kw1 (fun _ h9 => h9) rfl dX8_leave_33 ?_
    refine lv_iload_n hx hb dX8_leave_36 rfl (lv_at hl 2 rfl) ?_
    obtain ⟨o_1, ho_1, hf⟩ := ht_bn_ob hf
    refine ht_callVv (rest := []) (As := [.int x1]) (wc := (wTw K jN aN RN.laws RN.kind RN.need RN.saved RN.voice vN_partner vN_speaks RN.count RN.day RN.heard RN.geese RN.z)) (wr := (wHT K jX jN kX_kept kX_tried kX_trials kX_pairings kX_tape kX_telling kX_dayRows kX_deed kX_sheets kX_shelvedPerson kX_shelvedRow RX.anythingKept)) (w1 := (wTw K jN aN RN.laws RN.kind RN.need RN.saved RN.voice o_1.1 o_1.2 RN.count RN.day RN.heard RN.geese RN.z)) (w2 := (wHT K jX jN kX_kept kX_tried kX_trials kX_pairings kX_tape kX_telling kX_dayRows kX_deed kX_sheets kX_shelvedPerson kX_shelvedRow RX.anythingKept ++ (wTw K jN aN RN.laws RN.kind RN.need RN.saved RN.voice o_1.1 o_1.2 RN.count RN.day RN.heard RN.geese RN.z))) hF (ctX6_unjoin l D K jN aN (RN.laws, RN.kind, RN.need, RN.saved, RN.voice, vN_partner, vN_speaks, RN.count, RN.day, RN.heard, RN.geese, RN.z) x1 o_1 ho_1 H.size) (cwV 1 hts gX8_leave_X6_unjoin rfl rfl rfl hdX6_unjoin ⟨Nat.le_of_ble_eq_true rfl, Nat.le_of_ble_eq_true rfl⟩) hK hP hD hS hA [1, 2, 3, 4, 5, 6, 7, 8] [0] rfl rfl (by decide) (by decide) (by decide) [0, 1, 2, 3, 4, 5, 6, 7, 8] rfl (by decide) (va_recv hK hP (ci := 6) (q0 := 1) rfl rfl) rfl hl.1 rfl (Nat.le_of_ble_eq_true rfl) dX8_leave_37 ⟨Nat.zero_le _, Nat.zero_le _⟩ (fun H locs hP hD hS => ?_)
    refine lv_iload_n hx hb dX8_leave_40 rfl (lv_at hl 0 rfl) ?_
    refine lv_if_eq (tgt := 48) hx hb dX8_leave_41 (by decide) (fun c_2 => ?_) (fun c_2 => ?_)
    · replace hf := ht_t c_2 hf
      refine lv_iconst (v := 0) hx hb dX8_leave_48 (by decide) ?_
      have ho := Option.some.inj hf
      subst ho; subst hQ
      exact ht_iret hx hb hr hlk rfl hK hP hD hS dX8_leave_49
    · replace hf := ht_f c_2 hf
      refine lv_iconst (v := 1) hx hb dX8_leave_44 (by decide) ?_
      refine lv_goto (tgt := 49) hx hb dX8_leave_45 (by decide) ?_
      have ho := Option.some.inj hf
      subst ho; subst hQ
      exact ht_iret hx hb hr hlk rfl hK hP hD hS dX8_leave_49
  delta fX8_leave at hf
  refine lv_aload_n hx hb dX8_leave_0 rfl (lv_at hl 0 rfl) ?_
  refine va_get (D := D) (ci := 8) (v := .ref jN) (C := RX8) (T := TX8) (N := 13) hx hb hts iw8 hown hK hP 0 rfl rfl 0 (by decide) kw1 (fun _ h9 => h9) rfl dX8_leave_1 ?_
  refine lv_iload_n hx hb dX8_leave_4 rfl (lv_at hl 1 rfl) ?_
  obtain ⟨o_3, ho_3, hf⟩ := ht_bn_ob hf
  refine ht_callVi (r := o_3) (rest := []) (As := [.int p0]) (wc := (wTw K jN aN RN.laws RN.kind RN.need RN.saved RN.voice RN.partner RN.speaks RN.count RN.day RN.heard RN.geese RN.z)) (wr := (wHT K jX jN kX_kept kX_tried kX_trials kX_pairings kX_tape kX_telling kX_dayRows kX_deed kX_sheets kX_shelvedPerson kX_shelvedRow RX.anythingKept)) (w1 := (wTw K jN aN RN.laws RN.kind RN.need RN.saved RN.voice RN.partner RN.speaks RN.count RN.day RN.heard RN.geese RN.z)) (w2 := (wHT K jX jN kX_kept kX_tried kX_trials kX_pairings kX_tape kX_telling kX_dayRows kX_deed kX_sheets kX_shelvedPerson kX_shelvedRow RX.anythingKept ++ (wTw K jN aN RN.laws RN.kind RN.need RN.saved RN.voice RN.partner RN.speaks RN.count RN.day RN.heard RN.geese RN.z))) hF (ctX6_has l D K jN aN RN p0 o_3 ho_3 H.size) (cwV 1 hts gX8_leave_X6_has rfl rfl rfl hdX6_has ⟨Nat.le_of_ble_eq_true rfl, Nat.le_of_ble_eq_true rfl⟩) hK hP hD hS hA [1, 2, 3, 4, 5, 6, 7, 8] [0] rfl rfl (by decide) (by decide) (by decide) [0, 1, 2, 3, 4, 5, 6, 7, 8] rfl (by decide) (va_recv hK hP (ci := 6) (q0 := 1) rfl rfl) rfl hl.1 rfl (Nat.le_of_ble_eq_true rfl) dX8_leave_5 ⟨Nat.zero_le _, Nat.zero_le _⟩ (fun H locs hP hD hS => ?_)
  refine lv_if_ne (tgt := 13) hx hb dX8_leave_8 (by decide) (fun c_4 => ?_) (fun c_4 => ?_)
  · replace hf := ht_f c_4 hf
    refine lv_aload_n hx hb dX8_leave_13 rfl (lv_at hl 0 rfl) ?_
    refine va_get (D := D) (ci := 8) (v := .ref jN) (C := RX8) (T := TX8) (N := 13) hx hb hts iw8 hown hK hP 0 rfl rfl 0 (by decide) kw1 (fun _ h9 => h9) rfl dX8_leave_14 ?_
    refine va_get (D := D) (ci := 6) (v := .ref (aN 5)) (C := RX6) (T := TX6) (N := 12) hx hb hts iw6 hown hK hP 1 rfl rfl 5 (by decide) kw3 (fun _ h9 => h9) rfl dX8_leave_17 ?_
    refine lv_iload_n hx hb dX8_leave_20 rfl (lv_at hl 1 rfl) ?_
    obtain ⟨g_5, hf⟩ := ht_gd_ob hf
    refine va_iald hx hb hK hP 7 1 rfl rfl (ht_ix_in g_5) dX8_leave_21 ?_
    refine lv_iconst (v := -1) hx hb dX8_leave_22 (by decide) ?_
    refine lv_icmp_eq (tgt := 30) hx hb dX8_leave_23 (by decide) (fun c_6 => ?_) (fun c_6 => ?_)
    · replace hf := ht_t c_6 hf
      refine lv_iconst (v := 0) hx hb dX8_leave_30 (by decide) ?_
      exact b31  p0 (0 : Int32) RN.partner RN.speaks _ _ _ hf hP hD hS hl
    · replace hf := ht_f c_6 hf
      refine lv_iconst (v := 1) hx hb dX8_leave_26 (by decide) ?_
      refine lv_goto (tgt := 31) hx hb dX8_leave_27 (by decide) ?_
      exact b31  p0 (1 : Int32) RN.partner RN.speaks _ _ _ hf hP hD hS hl
  · replace hf := ht_t c_4 hf
    refine lv_iconst (v := -1) hx hb dX8_leave_11 (by decide) ?_
    have ho := Option.some.inj hf
    subst ho; subst hQ
    exact ht_iret hx hb hr hlk rfl hK hP hD hS dX8_leave_12
abbrev rmX8_spend : Room := { frames := 1, cells := 0, slots := 0, locals := 21 }
theorem hdX8_spend : yX8_spend.cls = RX8 ∧ yX8_spend.cls ≠ "java/lang/invoke/MethodHandle" ∧ yX8_spend.cls ≠ "java/lang/invoke/VarHandle" ∧ (parseMethodDescriptor yX8_spend.desc).map (fun d => d.parameters.length) = some 1 := by decide +kernel
def fX8_spend (RX : HTV) (RN : TownV) (p0 : Int32) : Option (Int32 × AI × AI) := ht_bn (fX6_has RN p0) (fun o_1 => if o_1 = 0 then (some ((-1 : Int32), RN.need, RN.saved)) else (ht_gd (ht_ix p0 8) (ht_gd (ht_ix p0 8) (ht_nm (if ((99 : Int32) - (RN.need p0.toNatClampNeg)) < (RN.saved p0.toNatClampNeg) then ((99 : Int32) - (RN.need p0.toNatClampNeg)) else (RN.saved p0.toNatClampNeg)) (fun x2_5 => ht_gd (ht_ix p0 8) (ht_gd (ht_ix p0 8) (ht_nm (upd RN.saved p0.toNatClampNeg ((RN.saved p0.toNatClampNeg) - x2_5)) (fun vN_saved_8 => ht_gd (ht_ix p0 8) (ht_gd (ht_ix p0 8) (ht_nm (upd RN.need p0.toNatClampNeg ((RN.need p0.toNatClampNeg) + x2_5)) (fun vN_need_11 => ht_gd (ht_ix p0 8) (some ((vN_need_11 p0.toNatClampNeg), vN_need_11, vN_saved_8)))))))))))))
set_option maxHeartbeats 1000000 in
set_option maxRecDepth 100000 in
theorem ctX8_spend (l : Launch) (D : va_G) (K : Nat → ClassId) (jX : Nat) (jN : Nat) (aN : Nat → Nat) (kX_kept : Nat) (kX_tried : Nat) (kX_trials : Nat) (kX_pairings : Nat) (kX_tape : Nat) (kX_telling : Nat) (kX_dayRows : Nat) (kX_deed : Nat) (kX_sheets : Nat) (kX_shelvedPerson : Nat) (kX_shelvedRow : Nat) (RX : HTV) (RN : TownV) (p0 : Int32) (o : (Int32 × AI × AI)) (hf : fX8_spend RX RN p0 = some o) (sz : Nat) : Met l yX8_spend wsX8_spend rmX8_spend (ht_Pre D K [.ref jX, .int p0] (wHT K jX jN kX_kept kX_tried kX_trials kX_pairings kX_tape kX_telling kX_dayRows kX_deed kX_sheets kX_shelvedPerson kX_shelvedRow RX.anythingKept ++ (wTw K jN aN RN.laws RN.kind RN.need RN.saved RN.voice RN.partner RN.speaks RN.count RN.day RN.heard RN.geese RN.z)) sz) (ht_Qi D K (wHT K jX jN kX_kept kX_tried kX_trials kX_pairings kX_tape kX_telling kX_dayRows kX_deed kX_sheets kX_shelvedPerson kX_shelvedRow RX.anythingKept ++ (wTw K jN aN RN.laws RN.kind o.2.1 o.2.2 RN.voice RN.partner RN.speaks RN.count RN.day RN.heard RN.geese RN.z)) o.1 (va_A (wHT K jX jN kX_kept kX_tried kX_trials kX_pairings kX_tape kX_telling kX_dayRows kX_deed kX_sheets kX_shelvedPerson kX_shelvedRow RX.anythingKept ++ (wTw K jN aN RN.laws RN.kind RN.need RN.saved RN.voice RN.partner RN.speaks RN.count RN.day RN.heard RN.geese RN.z)) sz)) 0 0 (va_A (wHT K jX jN kX_kept kX_tried kX_trials kX_pairings kX_tape kX_telling kX_dayRows kX_deed kX_sheets kX_shelvedPerson kX_shelvedRow RX.anythingKept ++ (wTw K jN aN RN.laws RN.kind RN.need RN.saved RN.voice RN.partner RN.speaks RN.count RN.day RN.heard RN.geese RN.z)) sz) := by
  refine ht_enter (Qf := ht_Qi D K (wHT K jX jN kX_kept kX_tried kX_trials kX_pairings kX_tape kX_telling kX_dayRows kX_deed kX_sheets kX_shelvedPerson kX_shelvedRow RX.anythingKept ++ (wTw K jN aN RN.laws RN.kind o.2.1 o.2.2 RN.voice RN.partner RN.speaks RN.count RN.day RN.heard RN.geese RN.z)) o.1) (cc := cX8_spend) (maxL := 3) (rt := (some .int)) (by decide) rfl (Nat.le_of_ble_eq_true rfl) ?_ sz
  intro p e s m below meth c A Q H locs ls hQ hx hb hr hlk hmn hml hown hts hA hK hP hD hS hl
  have hown : s.vm.findClass RX8 = some m.cls := hown
  have hF : CallFix p m c cX8_spend 3 s ([.ref jX, .int p0] : List Value).toArray wsX8_spend RX8 := ⟨hx, hb, hml, hown, hts⟩
  have hl : lv_has ls 3 [(0, .ref jX), (1, .int p0)] := hl
  have iw8 : ∀ w ∈ u_ws RX8 TX8 13, w ∈ wsX8_spend := by decide +kernel
  have kw1 := hts (.fieldLink RX8 10 "HeldTongues" "now" "LHeldTongues$Town;") (by decide +kernel)
  have iw6 : ∀ w ∈ u_ws RX6 TX6 12, w ∈ wsX8_spend := by decide +kernel
  have kw3 := hts (.fieldLink RX8 145 "HeldTongues$Town" "saved" "[I") (by decide +kernel)
  have kw4 := hts (.fieldLink RX8 142 "HeldTongues$Town" "need" "[I") (by decide +kernel)
  have kw5 := hts (.methodLink RX8 175 Lib.Math.min.name) (by decide +kernel)
  have kw6 := hts (.static Lib.Math.min.name) (by decide +kernel)
  have kw7 := hts (.initialized "java/lang/Math") (by decide +kernel)
  have kw8 := hts (.code Lib.Math.min.name Lib.Math.min.code 2 (some .int)) (by decide +kernel)
  delta fX8_spend at hf
  refine lv_aload_n hx hb dX8_spend_0 rfl (lv_at hl 0 rfl) ?_
  refine va_get (D := D) (ci := 8) (v := .ref jN) (C := RX8) (T := TX8) (N := 13) hx hb hts iw8 hown hK hP 0 rfl rfl 0 (by decide) kw1 (fun _ h9 => h9) rfl dX8_spend_1 ?_
  refine lv_iload_n hx hb dX8_spend_4 rfl (lv_at hl 1 rfl) ?_
  obtain ⟨o_1, ho_1, hf⟩ := ht_bn_ob hf
  refine ht_callVi (r := o_1) (rest := []) (As := [.int p0]) (wc := (wTw K jN aN RN.laws RN.kind RN.need RN.saved RN.voice RN.partner RN.speaks RN.count RN.day RN.heard RN.geese RN.z)) (wr := (wHT K jX jN kX_kept kX_tried kX_trials kX_pairings kX_tape kX_telling kX_dayRows kX_deed kX_sheets kX_shelvedPerson kX_shelvedRow RX.anythingKept)) (w1 := (wTw K jN aN RN.laws RN.kind RN.need RN.saved RN.voice RN.partner RN.speaks RN.count RN.day RN.heard RN.geese RN.z)) (w2 := (wHT K jX jN kX_kept kX_tried kX_trials kX_pairings kX_tape kX_telling kX_dayRows kX_deed kX_sheets kX_shelvedPerson kX_shelvedRow RX.anythingKept ++ (wTw K jN aN RN.laws RN.kind RN.need RN.saved RN.voice RN.partner RN.speaks RN.count RN.day RN.heard RN.geese RN.z))) hF (ctX6_has l D K jN aN RN p0 o_1 ho_1 H.size) (cwV 1 hts gX8_spend_X6_has rfl rfl rfl hdX6_has ⟨Nat.le_of_ble_eq_true rfl, Nat.le_of_ble_eq_true rfl⟩) hK hP hD hS hA [1, 2, 3, 4, 5, 6, 7, 8] [0] rfl rfl (by decide) (by decide) (by decide) [0, 1, 2, 3, 4, 5, 6, 7, 8] rfl (by decide) (va_recv hK hP (ci := 6) (q0 := 1) rfl rfl) rfl hl.1 rfl (Nat.le_of_ble_eq_true rfl) dX8_spend_5 ⟨Nat.zero_le _, Nat.zero_le _⟩ (fun H locs hP hD hS => ?_)
  refine lv_if_ne (tgt := 13) hx hb dX8_spend_8 (by decide) (fun c_2 => ?_) (fun c_2 => ?_)
  · replace hf := ht_f c_2 hf
    refine lv_aload_n hx hb dX8_spend_13 rfl (lv_at hl 0 rfl) ?_
    refine va_get (D := D) (ci := 8) (v := .ref jN) (C := RX8) (T := TX8) (N := 13) hx hb hts iw8 hown hK hP 0 rfl rfl 0 (by decide) kw1 (fun _ h9 => h9) rfl dX8_spend_14 ?_
    refine va_get (D := D) (ci := 6) (v := .ref (aN 3)) (C := RX6) (T := TX6) (N := 12) hx hb hts iw6 hown hK hP 1 rfl rfl 3 (by decide) kw3 (fun _ h9 => h9) rfl dX8_spend_17 ?_
    refine lv_iload_n hx hb dX8_spend_20 rfl (lv_at hl 1 rfl) ?_
    obtain ⟨g_3, hf⟩ := ht_gd_ob hf
    refine va_iald hx hb hK hP 5 1 rfl rfl (ht_ix_in g_3) dX8_spend_21 ?_
    refine lv_bipush (v := 99) hx hb dX8_spend_22 (by decide) ?_
    refine lv_aload_n hx hb dX8_spend_24 rfl (lv_at hl 0 rfl) ?_
    refine va_get (D := D) (ci := 8) (v := .ref jN) (C := RX8) (T := TX8) (N := 13) hx hb hts iw8 hown hK hP 0 rfl rfl 0 (by decide) kw1 (fun _ h9 => h9) rfl dX8_spend_25 ?_
    refine va_get (D := D) (ci := 6) (v := .ref (aN 2)) (C := RX6) (T := TX6) (N := 12) hx hb hts iw6 hown hK hP 1 rfl rfl 2 (by decide) kw4 (fun _ h9 => h9) rfl dX8_spend_28 ?_
    refine lv_iload_n hx hb dX8_spend_31 rfl (lv_at hl 1 rfl) ?_
    obtain ⟨g_4, hf⟩ := ht_gd_ob hf
    refine va_iald hx hb hK hP 4 1 rfl rfl (ht_ix_in g_4) dX8_spend_32 ?_
    refine lv_isub hx hb dX8_spend_33 ?_
    refine va_mmin hx hb (by rw [hml]; exact hl.1.symm) hown kw5 kw6 kw7 kw8 (Nat.le_of_ble_eq_true rfl) (Nat.le_of_ble_eq_true rfl) (Nat.zero_le _) (Nat.zero_le _) dX8_spend_34 ?_
    obtain ⟨x2_5, ex2_5, hf⟩ := ht_nm_ob hf
    rw [← ex2_5]
    refine lv_istore_n (lv' := [(2, .int x2_5), (0, .ref jX), (1, .int p0)]) hx hb dX8_spend_37 rfl hl (by decide) rfl (fun ls hl => ?_)
    refine lv_aload_n hx hb dX8_spend_38 rfl (lv_at hl 1 rfl) ?_
    refine va_get (D := D) (ci := 8) (v := .ref jN) (C := RX8) (T := TX8) (N := 13) hx hb hts iw8 hown hK hP 0 rfl rfl 0 (by decide) kw1 (fun _ h9 => h9) rfl dX8_spend_39 ?_
    refine va_get (D := D) (ci := 6) (v := .ref (aN 3)) (C := RX6) (T := TX6) (N := 12) hx hb hts iw6 hown hK hP 1 rfl rfl 3 (by decide) kw3 (fun _ h9 => h9) rfl dX8_spend_42 ?_
    refine lv_iload_n hx hb dX8_spend_45 rfl (lv_at hl 2 rfl) ?_
    refine lv_dup2_11 hx hb dX8_spend_46 rfl rfl ?_
    obtain ⟨g_6, hf⟩ := ht_gd_ob hf
    refine va_iald hx hb hK hP 5 1 rfl rfl (ht_ix_in g_6) dX8_spend_47 ?_
    refine lv_iload_n hx hb dX8_spend_48 rfl (lv_at hl 0 rfl) ?_
    refine lv_isub hx hb dX8_spend_49 ?_
    obtain ⟨g_7, hf⟩ := ht_gd_ob hf
    obtain ⟨vN_saved_8, evN_saved_8, hf⟩ := ht_nm_ob hf
    refine ht_iast (w2 := (wHT K jX jN kX_kept kX_tried kX_trials kX_pairings kX_tape kX_telling kX_dayRows kX_deed kX_sheets kX_shelvedPerson kX_shelvedRow RX.anythingKept ++ (wTw K jN aN RN.laws RN.kind RN.need vN_saved_8 RN.voice RN.partner RN.speaks RN.count RN.day RN.heard RN.geese RN.z))) hx hb hK hP hD hS 5 1 rfl rfl g_7 dX8_spend_50 evN_saved_8 rfl (fun H locs hP hD hS => ?_)
    refine lv_aload_n hx hb dX8_spend_51 rfl (lv_at hl 1 rfl) ?_
    refine va_get (D := D) (ci := 8) (v := .ref jN) (C := RX8) (T := TX8) (N := 13) hx hb hts iw8 hown hK hP 0 rfl rfl 0 (by decide) kw1 (fun _ h9 => h9) rfl dX8_spend_52 ?_
    refine va_get (D := D) (ci := 6) (v := .ref (aN 2)) (C := RX6) (T := TX6) (N := 12) hx hb hts iw6 hown hK hP 1 rfl rfl 2 (by decide) kw4 (fun _ h9 => h9) rfl dX8_spend_55 ?_
    refine lv_iload_n hx hb dX8_spend_58 rfl (lv_at hl 2 rfl) ?_
    refine lv_dup2_11 hx hb dX8_spend_59 rfl rfl ?_
    obtain ⟨g_9, hf⟩ := ht_gd_ob hf
    refine va_iald hx hb hK hP 4 1 rfl rfl (ht_ix_in g_9) dX8_spend_60 ?_
    refine lv_iload_n hx hb dX8_spend_61 rfl (lv_at hl 0 rfl) ?_
    refine lv_iadd hx hb dX8_spend_62 ?_
    obtain ⟨g_10, hf⟩ := ht_gd_ob hf
    obtain ⟨vN_need_11, evN_need_11, hf⟩ := ht_nm_ob hf
    refine ht_iast (w2 := (wHT K jX jN kX_kept kX_tried kX_trials kX_pairings kX_tape kX_telling kX_dayRows kX_deed kX_sheets kX_shelvedPerson kX_shelvedRow RX.anythingKept ++ (wTw K jN aN RN.laws RN.kind vN_need_11 vN_saved_8 RN.voice RN.partner RN.speaks RN.count RN.day RN.heard RN.geese RN.z))) hx hb hK hP hD hS 4 1 rfl rfl g_10 dX8_spend_63 evN_need_11 rfl (fun H locs hP hD hS => ?_)
    refine lv_aload_n hx hb dX8_spend_64 rfl (lv_at hl 1 rfl) ?_
    refine va_get (D := D) (ci := 8) (v := .ref jN) (C := RX8) (T := TX8) (N := 13) hx hb hts iw8 hown hK hP 0 rfl rfl 0 (by decide) kw1 (fun _ h9 => h9) rfl dX8_spend_65 ?_
    refine va_get (D := D) (ci := 6) (v := .ref (aN 2)) (C := RX6) (T := TX6) (N := 12) hx hb hts iw6 hown hK hP 1 rfl rfl 2 (by decide) kw4 (fun _ h9 => h9) rfl dX8_spend_68 ?_
    refine lv_iload_n hx hb dX8_spend_71 rfl (lv_at hl 2 rfl) ?_
    obtain ⟨g_12, hf⟩ := ht_gd_ob hf
    refine va_iald hx hb hK hP 4 1 rfl rfl (ht_ix_in g_12) dX8_spend_72 ?_
    have ho := Option.some.inj hf
    subst ho; subst hQ
    exact ht_iret hx hb hr hlk rfl hK hP hD hS dX8_spend_73
  · replace hf := ht_t c_2 hf
    refine lv_iconst (v := -1) hx hb dX8_spend_11 (by decide) ?_
    have ho := Option.some.inj hf
    subst ho; subst hQ
    exact ht_iret hx hb hr hlk rfl hK hP hD hS dX8_spend_12
abbrev rmX8_days : Room := { frames := 5, cells := 0, slots := 0, locals := 112 }
theorem hdX8_days : yX8_days.cls = RX8 ∧ yX8_days.cls ≠ "java/lang/invoke/MethodHandle" ∧ yX8_days.cls ≠ "java/lang/invoke/VarHandle" ∧ (parseMethodDescriptor yX8_days.desc).map (fun d => d.parameters.length) = some 1 := by decide +kernel
def fX8_days (RX : HTV) (RN : TownV) (p0 : Int32) : Option (Int32 × AI × AI × AI × Int32 × Int32 × Int32) := ht_bn (fX8_within p0 (1 : Int32) (60 : Int32)) (fun o_1 => if o_1 = 0 then (some ((-1 : Int32), RN.need, RN.saved, RN.speaks, RN.day, RN.heard, RN.geese)) else (ht_bn (fX6_pass RN p0) (fun o_3 => some (o_3.2.2.2.2.2.1, o_3.2.1, o_3.2.2.1, o_3.2.2.2.1, o_3.2.2.2.2.1, o_3.2.2.2.2.2.1, o_3.2.2.2.2.2.2))))
set_option maxHeartbeats 1000000 in
set_option maxRecDepth 100000 in
theorem ctX8_days (l : Launch) (D : va_G) (K : Nat → ClassId) (jX : Nat) (jN : Nat) (aN : Nat → Nat) (kX_kept : Nat) (kX_tried : Nat) (kX_trials : Nat) (kX_pairings : Nat) (kX_tape : Nat) (kX_telling : Nat) (kX_dayRows : Nat) (kX_deed : Nat) (kX_sheets : Nat) (kX_shelvedPerson : Nat) (kX_shelvedRow : Nat) (RX : HTV) (RN : TownV) (p0 : Int32) (o : (Int32 × AI × AI × AI × Int32 × Int32 × Int32)) (hf : fX8_days RX RN p0 = some o) (sz : Nat) : Met l yX8_days wsX8_days rmX8_days (ht_Pre D K [.ref jX, .int p0] (wHT K jX jN kX_kept kX_tried kX_trials kX_pairings kX_tape kX_telling kX_dayRows kX_deed kX_sheets kX_shelvedPerson kX_shelvedRow RX.anythingKept ++ (wTw K jN aN RN.laws RN.kind RN.need RN.saved RN.voice RN.partner RN.speaks RN.count RN.day RN.heard RN.geese RN.z)) sz) (ht_Qi D K (wHT K jX jN kX_kept kX_tried kX_trials kX_pairings kX_tape kX_telling kX_dayRows kX_deed kX_sheets kX_shelvedPerson kX_shelvedRow RX.anythingKept ++ (wTw K jN aN RN.laws RN.kind o.2.1 o.2.2.1 RN.voice RN.partner o.2.2.2.1 RN.count o.2.2.2.2.1 o.2.2.2.2.2.1 o.2.2.2.2.2.2 RN.z)) o.1 (va_A (wHT K jX jN kX_kept kX_tried kX_trials kX_pairings kX_tape kX_telling kX_dayRows kX_deed kX_sheets kX_shelvedPerson kX_shelvedRow RX.anythingKept ++ (wTw K jN aN RN.laws RN.kind RN.need RN.saved RN.voice RN.partner RN.speaks RN.count RN.day RN.heard RN.geese RN.z)) sz)) 0 0 (va_A (wHT K jX jN kX_kept kX_tried kX_trials kX_pairings kX_tape kX_telling kX_dayRows kX_deed kX_sheets kX_shelvedPerson kX_shelvedRow RX.anythingKept ++ (wTw K jN aN RN.laws RN.kind RN.need RN.saved RN.voice RN.partner RN.speaks RN.count RN.day RN.heard RN.geese RN.z)) sz) := by
  refine ht_enter (Qf := ht_Qi D K (wHT K jX jN kX_kept kX_tried kX_trials kX_pairings kX_tape kX_telling kX_dayRows kX_deed kX_sheets kX_shelvedPerson kX_shelvedRow RX.anythingKept ++ (wTw K jN aN RN.laws RN.kind o.2.1 o.2.2.1 RN.voice RN.partner o.2.2.2.1 RN.count o.2.2.2.2.1 o.2.2.2.2.2.1 o.2.2.2.2.2.2 RN.z)) o.1) (cc := cX8_days) (maxL := 2) (rt := (some .int)) (by decide) rfl (Nat.le_of_ble_eq_true rfl) ?_ sz
  intro p e s m below meth c A Q H locs ls hQ hx hb hr hlk hmn hml hown hts hA hK hP hD hS hl
  have hown : s.vm.findClass RX8 = some m.cls := hown
  have hF : CallFix p m c cX8_days 2 s ([.ref jX, .int p0] : List Value).toArray wsX8_days RX8 := ⟨hx, hb, hml, hown, hts⟩
  have hl : lv_has ls 2 [(0, .ref jX), (1, .int p0)] := hl
  have iw8 : ∀ w ∈ u_ws RX8 TX8 13, w ∈ wsX8_days := by decide +kernel
  have kw1 := hts (.fieldLink RX8 10 "HeldTongues" "now" "LHeldTongues$Town;") (by decide +kernel)
  have iw6 : ∀ w ∈ u_ws RX6 TX6 12, w ∈ wsX8_days := by decide +kernel
  have kw3 := hts (.fieldLink RX8 184 "HeldTongues$Town" "heard" "I") (by decide +kernel)
  delta fX8_days at hf
  refine lv_iload_n hx hb dX8_days_0 rfl (lv_at hl 1 rfl) ?_
  refine lv_iconst (v := 1) hx hb dX8_days_1 (by decide) ?_
  refine lv_bipush (v := 60) hx hb dX8_days_2 (by decide) ?_
  obtain ⟨o_1, ho_1, hf⟩ := ht_bn_ob hf
  refine ht_callSi (r := o_1) (rest := []) (As := [.int p0, .int (1 : Int32), .int (60 : Int32)]) (wc := []) (wr := (wHT K jX jN kX_kept kX_tried kX_trials kX_pairings kX_tape kX_telling kX_dayRows kX_deed kX_sheets kX_shelvedPerson kX_shelvedRow RX.anythingKept ++ (wTw K jN aN RN.laws RN.kind RN.need RN.saved RN.voice RN.partner RN.speaks RN.count RN.day RN.heard RN.geese RN.z))) (w1 := []) (w2 := (wHT K jX jN kX_kept kX_tried kX_trials kX_pairings kX_tape kX_telling kX_dayRows kX_deed kX_sheets kX_shelvedPerson kX_shelvedRow RX.anythingKept ++ (wTw K jN aN RN.laws RN.kind RN.need RN.saved RN.voice RN.partner RN.speaks RN.count RN.day RN.heard RN.geese RN.z))) hF (ctX8_within l D K p0 (1 : Int32) (60 : Int32) o_1 ho_1 H.size) (va_cwS 3 hts gX8_days_X8_within rfl rfl rfl hdX8_within ⟨Nat.le_of_ble_eq_true rfl, Nat.le_of_ble_eq_true rfl⟩) hK hP hD hS hA [] [0, 1, 2, 3, 4, 5, 6, 7, 8] rfl rfl (by decide) (by decide) (by decide) [0, 1, 2, 3, 4, 5, 6, 7, 8] rfl (by decide) rfl hl.1 rfl (Nat.le_of_ble_eq_true rfl) dX8_days_4 ⟨Nat.zero_le _, Nat.zero_le _⟩ (fun H locs hP hD hS => ?_)
  refine lv_if_ne (tgt := 12) hx hb dX8_days_7 (by decide) (fun c_2 => ?_) (fun c_2 => ?_)
  · replace hf := ht_f c_2 hf
    refine lv_aload_n hx hb dX8_days_12 rfl (lv_at hl 0 rfl) ?_
    refine va_get (D := D) (ci := 8) (v := .ref jN) (C := RX8) (T := TX8) (N := 13) hx hb hts iw8 hown hK hP 0 rfl rfl 0 (by decide) kw1 (fun _ h9 => h9) rfl dX8_days_13 ?_
    refine lv_iload_n hx hb dX8_days_16 rfl (lv_at hl 1 rfl) ?_
    obtain ⟨o_3, ho_3, hf⟩ := ht_bn_ob hf
    refine ht_callVi (r := o_3.1) (rest := []) (As := [.int p0]) (wc := (wTw K jN aN RN.laws RN.kind RN.need RN.saved RN.voice RN.partner RN.speaks RN.count RN.day RN.heard RN.geese RN.z)) (wr := (wHT K jX jN kX_kept kX_tried kX_trials kX_pairings kX_tape kX_telling kX_dayRows kX_deed kX_sheets kX_shelvedPerson kX_shelvedRow RX.anythingKept)) (w1 := (wTw K jN aN RN.laws RN.kind o_3.2.1 o_3.2.2.1 RN.voice RN.partner o_3.2.2.2.1 RN.count o_3.2.2.2.2.1 o_3.2.2.2.2.2.1 o_3.2.2.2.2.2.2 RN.z)) (w2 := (wHT K jX jN kX_kept kX_tried kX_trials kX_pairings kX_tape kX_telling kX_dayRows kX_deed kX_sheets kX_shelvedPerson kX_shelvedRow RX.anythingKept ++ (wTw K jN aN RN.laws RN.kind o_3.2.1 o_3.2.2.1 RN.voice RN.partner o_3.2.2.2.1 RN.count o_3.2.2.2.2.1 o_3.2.2.2.2.2.1 o_3.2.2.2.2.2.2 RN.z))) hF (ctX6_pass l D K jN aN RN p0 o_3 ho_3 H.size) (cwV 1 hts gX8_days_X6_pass rfl rfl rfl hdX6_pass ⟨Nat.le_of_ble_eq_true rfl, Nat.le_of_ble_eq_true rfl⟩) hK hP hD hS hA [1, 2, 3, 4, 5, 6, 7, 8] [0] rfl rfl (by decide) (by decide) (by decide) [0, 1, 2, 3, 4, 5, 6, 7, 8] rfl (by decide) (va_recv hK hP (ci := 6) (q0 := 1) rfl rfl) rfl hl.1 rfl (Nat.le_of_ble_eq_true rfl) dX8_days_17 ⟨Nat.zero_le _, Nat.zero_le _⟩ (fun H locs hP hD hS => ?_)
    refine lv_pop hx hb dX8_days_20 rfl ?_
    refine lv_aload_n hx hb dX8_days_21 rfl (lv_at hl 0 rfl) ?_
    refine va_get (D := D) (ci := 8) (v := .ref jN) (C := RX8) (T := TX8) (N := 13) hx hb hts iw8 hown hK hP 0 rfl rfl 0 (by decide) kw1 (fun _ h9 => h9) rfl dX8_days_22 ?_
    refine va_get (D := D) (ci := 6) (v := .int o_3.2.2.2.2.2.1) (C := RX6) (T := TX6) (N := 12) hx hb hts iw6 hown hK hP 1 rfl rfl 9 (by decide) kw3 (fun _ h9 => h9) rfl dX8_days_25 ?_
    have ho := Option.some.inj hf
    subst ho; subst hQ
    exact ht_iret hx hb hr hlk rfl hK hP hD hS dX8_days_28
  · replace hf := ht_t c_2 hf
    refine lv_iconst (v := -1) hx hb dX8_days_10 (by decide) ?_
    have ho := Option.some.inj hf
    subst ho; subst hQ
    exact ht_iret hx hb hr hlk rfl hK hP hD hS dX8_days_11
abbrev rmX8_seed : Room := { frames := 0, cells := 0, slots := 0, locals := 0 }
theorem hdX8_seed : yX8_seed.cls = RX8 ∧ yX8_seed.cls ≠ "java/lang/invoke/MethodHandle" ∧ yX8_seed.cls ≠ "java/lang/invoke/VarHandle" ∧ (parseMethodDescriptor yX8_seed.desc).map (fun d => d.parameters.length) = some 1 := by decide +kernel
def fX8_seed (RX : HTV) (RN : TownV) (p0 : Int32) : Option (Int32 × Int32) := ht_nm RN.z (fun x2_1 => some (x2_1, p0))
set_option maxHeartbeats 1000000 in
set_option maxRecDepth 100000 in
theorem ctX8_seed (l : Launch) (D : va_G) (K : Nat → ClassId) (jX : Nat) (jN : Nat) (aN : Nat → Nat) (kX_kept : Nat) (kX_tried : Nat) (kX_trials : Nat) (kX_pairings : Nat) (kX_tape : Nat) (kX_telling : Nat) (kX_dayRows : Nat) (kX_deed : Nat) (kX_sheets : Nat) (kX_shelvedPerson : Nat) (kX_shelvedRow : Nat) (RX : HTV) (RN : TownV) (p0 : Int32) (o : (Int32 × Int32)) (hf : fX8_seed RX RN p0 = some o) (sz : Nat) : Met l yX8_seed wsX8_seed rmX8_seed (ht_Pre D K [.ref jX, .int p0] (wHT K jX jN kX_kept kX_tried kX_trials kX_pairings kX_tape kX_telling kX_dayRows kX_deed kX_sheets kX_shelvedPerson kX_shelvedRow RX.anythingKept ++ (wTw K jN aN RN.laws RN.kind RN.need RN.saved RN.voice RN.partner RN.speaks RN.count RN.day RN.heard RN.geese RN.z)) sz) (ht_Qi D K (wHT K jX jN kX_kept kX_tried kX_trials kX_pairings kX_tape kX_telling kX_dayRows kX_deed kX_sheets kX_shelvedPerson kX_shelvedRow RX.anythingKept ++ (wTw K jN aN RN.laws RN.kind RN.need RN.saved RN.voice RN.partner RN.speaks RN.count RN.day RN.heard RN.geese o.2)) o.1 (va_A (wHT K jX jN kX_kept kX_tried kX_trials kX_pairings kX_tape kX_telling kX_dayRows kX_deed kX_sheets kX_shelvedPerson kX_shelvedRow RX.anythingKept ++ (wTw K jN aN RN.laws RN.kind RN.need RN.saved RN.voice RN.partner RN.speaks RN.count RN.day RN.heard RN.geese RN.z)) sz)) 0 0 (va_A (wHT K jX jN kX_kept kX_tried kX_trials kX_pairings kX_tape kX_telling kX_dayRows kX_deed kX_sheets kX_shelvedPerson kX_shelvedRow RX.anythingKept ++ (wTw K jN aN RN.laws RN.kind RN.need RN.saved RN.voice RN.partner RN.speaks RN.count RN.day RN.heard RN.geese RN.z)) sz) := by
  refine ht_enter (Qf := ht_Qi D K (wHT K jX jN kX_kept kX_tried kX_trials kX_pairings kX_tape kX_telling kX_dayRows kX_deed kX_sheets kX_shelvedPerson kX_shelvedRow RX.anythingKept ++ (wTw K jN aN RN.laws RN.kind RN.need RN.saved RN.voice RN.partner RN.speaks RN.count RN.day RN.heard RN.geese o.2)) o.1) (cc := cX8_seed) (maxL := 3) (rt := (some .int)) (by decide) rfl (Nat.le_of_ble_eq_true rfl) ?_ sz
  intro p e s m below meth c A Q H locs ls hQ hx hb hr hlk hmn hml hown hts hA hK hP hD hS hl
  have hown : s.vm.findClass RX8 = some m.cls := hown
  have hF : CallFix p m c cX8_seed 3 s ([.ref jX, .int p0] : List Value).toArray wsX8_seed RX8 := ⟨hx, hb, hml, hown, hts⟩
  have hl : lv_has ls 3 [(0, .ref jX), (1, .int p0)] := hl
  have iw8 : ∀ w ∈ u_ws RX8 TX8 13, w ∈ wsX8_seed := by decide +kernel
  have kw1 := hts (.fieldLink RX8 10 "HeldTongues" "now" "LHeldTongues$Town;") (by decide +kernel)
  have iw6 : ∀ w ∈ u_ws RX6 TX6 12, w ∈ wsX8_seed := by decide +kernel
  have kw3 := hts (.fieldLink RX8 98 "HeldTongues$Town" "z" "I") (by decide +kernel)
  delta fX8_seed at hf
  refine lv_aload_n hx hb dX8_seed_0 rfl (lv_at hl 0 rfl) ?_
  refine va_get (D := D) (ci := 8) (v := .ref jN) (C := RX8) (T := TX8) (N := 13) hx hb hts iw8 hown hK hP 0 rfl rfl 0 (by decide) kw1 (fun _ h9 => h9) rfl dX8_seed_1 ?_
  refine va_get (D := D) (ci := 6) (v := .int RN.z) (C := RX6) (T := TX6) (N := 12) hx hb hts iw6 hown hK hP 1 rfl rfl 11 (by decide) kw3 (fun _ h9 => h9) rfl dX8_seed_4 ?_
  obtain ⟨x2_1, ex2_1, hf⟩ := ht_nm_ob hf
  rw [← ex2_1]
  refine lv_istore_n (lv' := [(2, .int x2_1), (0, .ref jX), (1, .int p0)]) hx hb dX8_seed_7 rfl hl (by decide) rfl (fun ls hl => ?_)
  refine lv_aload_n hx hb dX8_seed_8 rfl (lv_at hl 1 rfl) ?_
  refine va_get (D := D) (ci := 8) (v := .ref jN) (C := RX8) (T := TX8) (N := 13) hx hb hts iw8 hown hK hP 0 rfl rfl 0 (by decide) kw1 (fun _ h9 => h9) rfl dX8_seed_9 ?_
  refine lv_iload_n hx hb dX8_seed_12 rfl (lv_at hl 2 rfl) ?_
  refine ht_put (ci := 6) (v := .int p0) (ty := .int) (C := RX6) (T := TX6) (N := 12) (w2 := (wHT K jX jN kX_kept kX_tried kX_trials kX_pairings kX_tape kX_telling kX_dayRows kX_deed kX_sheets kX_shelvedPerson kX_shelvedRow RX.anythingKept ++ (wTw K jN aN RN.laws RN.kind RN.need RN.saved RN.voice RN.partner RN.speaks RN.count RN.day RN.heard RN.geese p0))) hx hb hts iw6 tyX6 tyX6_ok nmX6 hown hK hP hD hS 1 rfl rfl 11 (by decide) kw3 (fun _ h9 => h9) rfl (by decide +kernel) rfl rfl (Nat.le_of_ble_eq_true rfl) dX8_seed_13 rfl (fun H locs hP hD hS => ?_)
  refine lv_iload_n hx hb dX8_seed_16 rfl (lv_at hl 0 rfl) ?_
  have ho := Option.some.inj hf
  subst ho; subst hQ
  exact ht_iret hx hb hr hlk rfl hK hP hD hS dX8_seed_17
abbrev rmX8_day : Room := { frames := 5, cells := 0, slots := 0, locals := 110 }
theorem hdX8_day : yX8_day.cls = RX8 ∧ yX8_day.cls ≠ "java/lang/invoke/MethodHandle" ∧ yX8_day.cls ≠ "java/lang/invoke/VarHandle" ∧ (parseMethodDescriptor yX8_day.desc).map (fun d => d.parameters.length) = some 0 := by decide +kernel
def fX8_day (RX : HTV) (RN : TownV) : Option (Int32 × AI × AI × AI × AI × Int32 × Int32 × Int32 × Int32) := ht_bn (fX6_passDayByDraws RN) (fun o_1 => some (o_1.1, o_1.2.1, o_1.2.2.1, o_1.2.2.2.1, o_1.2.2.2.2.1, o_1.2.2.2.2.2.1, o_1.2.2.2.2.2.2.1, o_1.2.2.2.2.2.2.2.1, o_1.2.2.2.2.2.2.2.2))
set_option maxHeartbeats 1000000 in
set_option maxRecDepth 100000 in
theorem ctX8_day (l : Launch) (D : va_G) (K : Nat → ClassId) (jX : Nat) (jN : Nat) (aN : Nat → Nat) (kX_kept : Nat) (kX_tried : Nat) (kX_trials : Nat) (kX_pairings : Nat) (kX_tape : Nat) (kX_telling : Nat) (kX_dayRows : Nat) (kX_deed : Nat) (kX_sheets : Nat) (kX_shelvedPerson : Nat) (kX_shelvedRow : Nat) (RX : HTV) (RN : TownV) (o : (Int32 × AI × AI × AI × AI × Int32 × Int32 × Int32 × Int32)) (hf : fX8_day RX RN = some o) (sz : Nat) : Met l yX8_day wsX8_day rmX8_day (ht_Pre D K [.ref jX] (wHT K jX jN kX_kept kX_tried kX_trials kX_pairings kX_tape kX_telling kX_dayRows kX_deed kX_sheets kX_shelvedPerson kX_shelvedRow RX.anythingKept ++ (wTw K jN aN RN.laws RN.kind RN.need RN.saved RN.voice RN.partner RN.speaks RN.count RN.day RN.heard RN.geese RN.z)) sz) (ht_Qi D K (wHT K jX jN kX_kept kX_tried kX_trials kX_pairings kX_tape kX_telling kX_dayRows kX_deed kX_sheets kX_shelvedPerson kX_shelvedRow RX.anythingKept ++ (wTw K jN aN RN.laws RN.kind o.2.1 o.2.2.1 RN.voice o.2.2.2.1 o.2.2.2.2.1 RN.count o.2.2.2.2.2.1 o.2.2.2.2.2.2.1 o.2.2.2.2.2.2.2.1 o.2.2.2.2.2.2.2.2)) o.1 (va_A (wHT K jX jN kX_kept kX_tried kX_trials kX_pairings kX_tape kX_telling kX_dayRows kX_deed kX_sheets kX_shelvedPerson kX_shelvedRow RX.anythingKept ++ (wTw K jN aN RN.laws RN.kind RN.need RN.saved RN.voice RN.partner RN.speaks RN.count RN.day RN.heard RN.geese RN.z)) sz)) 0 0 (va_A (wHT K jX jN kX_kept kX_tried kX_trials kX_pairings kX_tape kX_telling kX_dayRows kX_deed kX_sheets kX_shelvedPerson kX_shelvedRow RX.anythingKept ++ (wTw K jN aN RN.laws RN.kind RN.need RN.saved RN.voice RN.partner RN.speaks RN.count RN.day RN.heard RN.geese RN.z)) sz) := by
  refine ht_enter (Qf := ht_Qi D K (wHT K jX jN kX_kept kX_tried kX_trials kX_pairings kX_tape kX_telling kX_dayRows kX_deed kX_sheets kX_shelvedPerson kX_shelvedRow RX.anythingKept ++ (wTw K jN aN RN.laws RN.kind o.2.1 o.2.2.1 RN.voice o.2.2.2.1 o.2.2.2.2.1 RN.count o.2.2.2.2.2.1 o.2.2.2.2.2.2.1 o.2.2.2.2.2.2.2.1 o.2.2.2.2.2.2.2.2)) o.1) (cc := cX8_day) (maxL := 1) (rt := (some .int)) (by decide) rfl (Nat.le_of_ble_eq_true rfl) ?_ sz
  intro p e s m below meth c A Q H locs ls hQ hx hb hr hlk hmn hml hown hts hA hK hP hD hS hl
  have hown : s.vm.findClass RX8 = some m.cls := hown
  have hF : CallFix p m c cX8_day 1 s ([.ref jX] : List Value).toArray wsX8_day RX8 := ⟨hx, hb, hml, hown, hts⟩
  have hl : lv_has ls 1 [(0, .ref jX)] := hl
  have iw8 : ∀ w ∈ u_ws RX8 TX8 13, w ∈ wsX8_day := by decide +kernel
  have kw1 := hts (.fieldLink RX8 10 "HeldTongues" "now" "LHeldTongues$Town;") (by decide +kernel)
  delta fX8_day at hf
  refine lv_aload_n hx hb dX8_day_0 rfl (lv_at hl 0 rfl) ?_
  refine va_get (D := D) (ci := 8) (v := .ref jN) (C := RX8) (T := TX8) (N := 13) hx hb hts iw8 hown hK hP 0 rfl rfl 0 (by decide) kw1 (fun _ h9 => h9) rfl dX8_day_1 ?_
  obtain ⟨o_1, ho_1, hf⟩ := ht_bn_ob hf
  refine ht_callVi (r := o_1.1) (rest := []) (As := []) (wc := (wTw K jN aN RN.laws RN.kind RN.need RN.saved RN.voice RN.partner RN.speaks RN.count RN.day RN.heard RN.geese RN.z)) (wr := (wHT K jX jN kX_kept kX_tried kX_trials kX_pairings kX_tape kX_telling kX_dayRows kX_deed kX_sheets kX_shelvedPerson kX_shelvedRow RX.anythingKept)) (w1 := (wTw K jN aN RN.laws RN.kind o_1.2.1 o_1.2.2.1 RN.voice o_1.2.2.2.1 o_1.2.2.2.2.1 RN.count o_1.2.2.2.2.2.1 o_1.2.2.2.2.2.2.1 o_1.2.2.2.2.2.2.2.1 o_1.2.2.2.2.2.2.2.2)) (w2 := (wHT K jX jN kX_kept kX_tried kX_trials kX_pairings kX_tape kX_telling kX_dayRows kX_deed kX_sheets kX_shelvedPerson kX_shelvedRow RX.anythingKept ++ (wTw K jN aN RN.laws RN.kind o_1.2.1 o_1.2.2.1 RN.voice o_1.2.2.2.1 o_1.2.2.2.2.1 RN.count o_1.2.2.2.2.2.1 o_1.2.2.2.2.2.2.1 o_1.2.2.2.2.2.2.2.1 o_1.2.2.2.2.2.2.2.2))) hF (ctX6_passDayByDraws l D K jN aN RN o_1 ho_1 H.size) (cwV 0 hts gX8_day_X6_passDayByDraws rfl rfl rfl hdX6_passDayByDraws ⟨Nat.le_of_ble_eq_true rfl, Nat.le_of_ble_eq_true rfl⟩) hK hP hD hS hA [1, 2, 3, 4, 5, 6, 7, 8] [0] rfl rfl (by decide) (by decide) (by decide) [0, 1, 2, 3, 4, 5, 6, 7, 8] rfl (by decide) (va_recv hK hP (ci := 6) (q0 := 1) rfl rfl) rfl hl.1 rfl (Nat.le_of_ble_eq_true rfl) dX8_day_4 ⟨Nat.zero_le _, Nat.zero_le _⟩ (fun H locs hP hD hS => ?_)
  have ho := Option.some.inj hf
  subst ho; subst hQ
  exact ht_iret hx hb hr hlk rfl hK hP hD hS dX8_day_7
abbrev rmX8_state : Room := { frames := 1, cells := 0, slots := 0, locals := 22 }
theorem hdX8_state : yX8_state.cls = RX8 ∧ yX8_state.cls ≠ "java/lang/invoke/MethodHandle" ∧ yX8_state.cls ≠ "java/lang/invoke/VarHandle" ∧ (parseMethodDescriptor yX8_state.desc).map (fun d => d.parameters.length) = some 1 := by decide +kernel
def fX8_state (RX : HTV) (RN : TownV) (p0 : Int32) : Option Int32 := if p0 = 0 then (some RN.day) else if p0 = 1 then (some RN.heard) else if p0 = 2 then (some RN.geese) else if p0 = 3 then (ht_bn (fX6_allNeed RN) (fun o_5 => some o_5)) else if p0 = 4 then (ht_bn (fX6_allSaved RN) (fun o_7 => some o_7)) else if p0 = 5 then (ht_bn (fX6_speakers RN) (fun o_9 => some o_9)) else (some (-1 : Int32))
set_option maxHeartbeats 1000000 in
set_option maxRecDepth 100000 in
theorem ctX8_state (l : Launch) (D : va_G) (K : Nat → ClassId) (jX : Nat) (jN : Nat) (aN : Nat → Nat) (kX_kept : Nat) (kX_tried : Nat) (kX_trials : Nat) (kX_pairings : Nat) (kX_tape : Nat) (kX_telling : Nat) (kX_dayRows : Nat) (kX_deed : Nat) (kX_sheets : Nat) (kX_shelvedPerson : Nat) (kX_shelvedRow : Nat) (RX : HTV) (RN : TownV) (p0 : Int32) (o : Int32) (hf : fX8_state RX RN p0 = some o) (sz : Nat) : Met l yX8_state wsX8_state rmX8_state (ht_Pre D K [.ref jX, .int p0] (wHT K jX jN kX_kept kX_tried kX_trials kX_pairings kX_tape kX_telling kX_dayRows kX_deed kX_sheets kX_shelvedPerson kX_shelvedRow RX.anythingKept ++ (wTw K jN aN RN.laws RN.kind RN.need RN.saved RN.voice RN.partner RN.speaks RN.count RN.day RN.heard RN.geese RN.z)) sz) (ht_Qi D K (wHT K jX jN kX_kept kX_tried kX_trials kX_pairings kX_tape kX_telling kX_dayRows kX_deed kX_sheets kX_shelvedPerson kX_shelvedRow RX.anythingKept ++ (wTw K jN aN RN.laws RN.kind RN.need RN.saved RN.voice RN.partner RN.speaks RN.count RN.day RN.heard RN.geese RN.z)) o (va_A (wHT K jX jN kX_kept kX_tried kX_trials kX_pairings kX_tape kX_telling kX_dayRows kX_deed kX_sheets kX_shelvedPerson kX_shelvedRow RX.anythingKept ++ (wTw K jN aN RN.laws RN.kind RN.need RN.saved RN.voice RN.partner RN.speaks RN.count RN.day RN.heard RN.geese RN.z)) sz)) 0 0 (va_A (wHT K jX jN kX_kept kX_tried kX_trials kX_pairings kX_tape kX_telling kX_dayRows kX_deed kX_sheets kX_shelvedPerson kX_shelvedRow RX.anythingKept ++ (wTw K jN aN RN.laws RN.kind RN.need RN.saved RN.voice RN.partner RN.speaks RN.count RN.day RN.heard RN.geese RN.z)) sz) := by
  refine ht_enter (Qf := ht_Qi D K (wHT K jX jN kX_kept kX_tried kX_trials kX_pairings kX_tape kX_telling kX_dayRows kX_deed kX_sheets kX_shelvedPerson kX_shelvedRow RX.anythingKept ++ (wTw K jN aN RN.laws RN.kind RN.need RN.saved RN.voice RN.partner RN.speaks RN.count RN.day RN.heard RN.geese RN.z)) o) (cc := cX8_state) (maxL := 2) (rt := (some .int)) (by decide) rfl (Nat.le_of_ble_eq_true rfl) ?_ sz
  intro p e s m below meth c A Q H locs ls hQ hx hb hr hlk hmn hml hown hts hA hK hP hD hS hl
  have hown : s.vm.findClass RX8 = some m.cls := hown
  have hF : CallFix p m c cX8_state 2 s ([.ref jX, .int p0] : List Value).toArray wsX8_state RX8 := ⟨hx, hb, hml, hown, hts⟩
  have hl : lv_has ls 2 [(0, .ref jX), (1, .int p0)] := hl
  have iw8 : ∀ w ∈ u_ws RX8 TX8 13, w ∈ wsX8_state := by decide +kernel
  have kw1 := hts (.fieldLink RX8 10 "HeldTongues" "now" "LHeldTongues$Town;") (by decide +kernel)
  have iw6 : ∀ w ∈ u_ws RX6 TX6 12, w ∈ wsX8_state := by decide +kernel
  have kw3 := hts (.fieldLink RX8 194 "HeldTongues$Town" "day" "I") (by decide +kernel)
  have kw4 := hts (.fieldLink RX8 184 "HeldTongues$Town" "heard" "I") (by decide +kernel)
  have kw5 := hts (.fieldLink RX8 197 "HeldTongues$Town" "geese" "I") (by decide +kernel)
  delta fX8_state at hf
  refine lv_iload_n hx hb dX8_state_0 rfl (lv_at hl 1 rfl) ?_
  by_cases c_1 : p0 = 0
  · replace hf := ht_t c_1 hf
    refine lv_tableIn (tgt := 40) hx hb dX8_state_1 (by rw [c_1]; decide) (by rw [c_1]; decide) (by rw [c_1]; rfl) (by decide) ?_
    refine lv_aload_n hx hb dX8_state_40 rfl (lv_at hl 0 rfl) ?_
    refine va_get (D := D) (ci := 8) (v := .ref jN) (C := RX8) (T := TX8) (N := 13) hx hb hts iw8 hown hK hP 0 rfl rfl 0 (by decide) kw1 (fun _ h9 => h9) rfl dX8_state_41 ?_
    refine va_get (D := D) (ci := 6) (v := .int RN.day) (C := RX6) (T := TX6) (N := 12) hx hb hts iw6 hown hK hP 1 rfl rfl 8 (by decide) kw3 (fun _ h9 => h9) rfl dX8_state_44 ?_
    have ho := Option.some.inj hf
    subst ho; subst hQ
    exact ht_iret hx hb hr hlk rfl hK hP hD hS dX8_state_47
  replace hf := ht_f c_1 hf
  by_cases c_2 : p0 = 1
  · replace hf := ht_t c_2 hf
    refine lv_tableIn (tgt := 48) hx hb dX8_state_1 (by rw [c_2]; decide) (by rw [c_2]; decide) (by rw [c_2]; rfl) (by decide) ?_
    refine lv_aload_n hx hb dX8_state_48 rfl (lv_at hl 0 rfl) ?_
    refine va_get (D := D) (ci := 8) (v := .ref jN) (C := RX8) (T := TX8) (N := 13) hx hb hts iw8 hown hK hP 0 rfl rfl 0 (by decide) kw1 (fun _ h9 => h9) rfl dX8_state_49 ?_
    refine va_get (D := D) (ci := 6) (v := .int RN.heard) (C := RX6) (T := TX6) (N := 12) hx hb hts iw6 hown hK hP 1 rfl rfl 9 (by decide) kw4 (fun _ h9 => h9) rfl dX8_state_52 ?_
    have ho := Option.some.inj hf
    subst ho; subst hQ
    exact ht_iret hx hb hr hlk rfl hK hP hD hS dX8_state_55
  replace hf := ht_f c_2 hf
  by_cases c_3 : p0 = 2
  · replace hf := ht_t c_3 hf
    refine lv_tableIn (tgt := 56) hx hb dX8_state_1 (by rw [c_3]; decide) (by rw [c_3]; decide) (by rw [c_3]; rfl) (by decide) ?_
    refine lv_aload_n hx hb dX8_state_56 rfl (lv_at hl 0 rfl) ?_
    refine va_get (D := D) (ci := 8) (v := .ref jN) (C := RX8) (T := TX8) (N := 13) hx hb hts iw8 hown hK hP 0 rfl rfl 0 (by decide) kw1 (fun _ h9 => h9) rfl dX8_state_57 ?_
    refine va_get (D := D) (ci := 6) (v := .int RN.geese) (C := RX6) (T := TX6) (N := 12) hx hb hts iw6 hown hK hP 1 rfl rfl 10 (by decide) kw5 (fun _ h9 => h9) rfl dX8_state_60 ?_
    have ho := Option.some.inj hf
    subst ho; subst hQ
    exact ht_iret hx hb hr hlk rfl hK hP hD hS dX8_state_63
  replace hf := ht_f c_3 hf
  by_cases c_4 : p0 = 3
  · replace hf := ht_t c_4 hf
    refine lv_tableIn (tgt := 64) hx hb dX8_state_1 (by rw [c_4]; decide) (by rw [c_4]; decide) (by rw [c_4]; rfl) (by decide) ?_
    refine lv_aload_n hx hb dX8_state_64 rfl (lv_at hl 0 rfl) ?_
    refine va_get (D := D) (ci := 8) (v := .ref jN) (C := RX8) (T := TX8) (N := 13) hx hb hts iw8 hown hK hP 0 rfl rfl 0 (by decide) kw1 (fun _ h9 => h9) rfl dX8_state_65 ?_
    obtain ⟨o_5, ho_5, hf⟩ := ht_bn_ob hf
    refine ht_callVi (r := o_5) (rest := []) (As := []) (wc := (wTw K jN aN RN.laws RN.kind RN.need RN.saved RN.voice RN.partner RN.speaks RN.count RN.day RN.heard RN.geese RN.z)) (wr := (wHT K jX jN kX_kept kX_tried kX_trials kX_pairings kX_tape kX_telling kX_dayRows kX_deed kX_sheets kX_shelvedPerson kX_shelvedRow RX.anythingKept)) (w1 := (wTw K jN aN RN.laws RN.kind RN.need RN.saved RN.voice RN.partner RN.speaks RN.count RN.day RN.heard RN.geese RN.z)) (w2 := (wHT K jX jN kX_kept kX_tried kX_trials kX_pairings kX_tape kX_telling kX_dayRows kX_deed kX_sheets kX_shelvedPerson kX_shelvedRow RX.anythingKept ++ (wTw K jN aN RN.laws RN.kind RN.need RN.saved RN.voice RN.partner RN.speaks RN.count RN.day RN.heard RN.geese RN.z))) hF (ctX6_allNeed l D K jN aN RN o_5 ho_5 H.size) (cwV 0 hts gX8_state_X6_allNeed rfl rfl rfl hdX6_allNeed ⟨Nat.le_of_ble_eq_true rfl, Nat.le_of_ble_eq_true rfl⟩) hK hP hD hS hA [1, 2, 3, 4, 5, 6, 7, 8] [0] rfl rfl (by decide) (by decide) (by decide) [0, 1, 2, 3, 4, 5, 6, 7, 8] rfl (by decide) (va_recv hK hP (ci := 6) (q0 := 1) rfl rfl) rfl hl.1 rfl (Nat.le_of_ble_eq_true rfl) dX8_state_68 ⟨Nat.zero_le _, Nat.zero_le _⟩ (fun H locs hP hD hS => ?_)
    have ho := Option.some.inj hf
    subst ho; subst hQ
    exact ht_iret hx hb hr hlk rfl hK hP hD hS dX8_state_71
  replace hf := ht_f c_4 hf
  by_cases c_6 : p0 = 4
  · replace hf := ht_t c_6 hf
    refine lv_tableIn (tgt := 72) hx hb dX8_state_1 (by rw [c_6]; decide) (by rw [c_6]; decide) (by rw [c_6]; rfl) (by decide) ?_
    refine lv_aload_n hx hb dX8_state_72 rfl (lv_at hl 0 rfl) ?_
    refine va_get (D := D) (ci := 8) (v := .ref jN) (C := RX8) (T := TX8) (N := 13) hx hb hts iw8 hown hK hP 0 rfl rfl 0 (by decide) kw1 (fun _ h9 => h9) rfl dX8_state_73 ?_
    obtain ⟨o_7, ho_7, hf⟩ := ht_bn_ob hf
    refine ht_callVi (r := o_7) (rest := []) (As := []) (wc := (wTw K jN aN RN.laws RN.kind RN.need RN.saved RN.voice RN.partner RN.speaks RN.count RN.day RN.heard RN.geese RN.z)) (wr := (wHT K jX jN kX_kept kX_tried kX_trials kX_pairings kX_tape kX_telling kX_dayRows kX_deed kX_sheets kX_shelvedPerson kX_shelvedRow RX.anythingKept)) (w1 := (wTw K jN aN RN.laws RN.kind RN.need RN.saved RN.voice RN.partner RN.speaks RN.count RN.day RN.heard RN.geese RN.z)) (w2 := (wHT K jX jN kX_kept kX_tried kX_trials kX_pairings kX_tape kX_telling kX_dayRows kX_deed kX_sheets kX_shelvedPerson kX_shelvedRow RX.anythingKept ++ (wTw K jN aN RN.laws RN.kind RN.need RN.saved RN.voice RN.partner RN.speaks RN.count RN.day RN.heard RN.geese RN.z))) hF (ctX6_allSaved l D K jN aN RN o_7 ho_7 H.size) (cwV 0 hts gX8_state_X6_allSaved rfl rfl rfl hdX6_allSaved ⟨Nat.le_of_ble_eq_true rfl, Nat.le_of_ble_eq_true rfl⟩) hK hP hD hS hA [1, 2, 3, 4, 5, 6, 7, 8] [0] rfl rfl (by decide) (by decide) (by decide) [0, 1, 2, 3, 4, 5, 6, 7, 8] rfl (by decide) (va_recv hK hP (ci := 6) (q0 := 1) rfl rfl) rfl hl.1 rfl (Nat.le_of_ble_eq_true rfl) dX8_state_76 ⟨Nat.zero_le _, Nat.zero_le _⟩ (fun H locs hP hD hS => ?_)
    have ho := Option.some.inj hf
    subst ho; subst hQ
    exact ht_iret hx hb hr hlk rfl hK hP hD hS dX8_state_79
  replace hf := ht_f c_6 hf
  by_cases c_8 : p0 = 5
  · replace hf := ht_t c_8 hf
    refine lv_tableIn (tgt := 80) hx hb dX8_state_1 (by rw [c_8]; decide) (by rw [c_8]; decide) (by rw [c_8]; rfl) (by decide) ?_
    refine lv_aload_n hx hb dX8_state_80 rfl (lv_at hl 0 rfl) ?_
    refine va_get (D := D) (ci := 8) (v := .ref jN) (C := RX8) (T := TX8) (N := 13) hx hb hts iw8 hown hK hP 0 rfl rfl 0 (by decide) kw1 (fun _ h9 => h9) rfl dX8_state_81 ?_
    obtain ⟨o_9, ho_9, hf⟩ := ht_bn_ob hf
    refine ht_callVi (r := o_9) (rest := []) (As := []) (wc := (wTw K jN aN RN.laws RN.kind RN.need RN.saved RN.voice RN.partner RN.speaks RN.count RN.day RN.heard RN.geese RN.z)) (wr := (wHT K jX jN kX_kept kX_tried kX_trials kX_pairings kX_tape kX_telling kX_dayRows kX_deed kX_sheets kX_shelvedPerson kX_shelvedRow RX.anythingKept)) (w1 := (wTw K jN aN RN.laws RN.kind RN.need RN.saved RN.voice RN.partner RN.speaks RN.count RN.day RN.heard RN.geese RN.z)) (w2 := (wHT K jX jN kX_kept kX_tried kX_trials kX_pairings kX_tape kX_telling kX_dayRows kX_deed kX_sheets kX_shelvedPerson kX_shelvedRow RX.anythingKept ++ (wTw K jN aN RN.laws RN.kind RN.need RN.saved RN.voice RN.partner RN.speaks RN.count RN.day RN.heard RN.geese RN.z))) hF (ctX6_speakers l D K jN aN RN o_9 ho_9 H.size) (cwV 0 hts gX8_state_X6_speakers rfl rfl rfl hdX6_speakers ⟨Nat.le_of_ble_eq_true rfl, Nat.le_of_ble_eq_true rfl⟩) hK hP hD hS hA [1, 2, 3, 4, 5, 6, 7, 8] [0] rfl rfl (by decide) (by decide) (by decide) [0, 1, 2, 3, 4, 5, 6, 7, 8] rfl (by decide) (va_recv hK hP (ci := 6) (q0 := 1) rfl rfl) rfl hl.1 rfl (Nat.le_of_ble_eq_true rfl) dX8_state_84 ⟨Nat.zero_le _, Nat.zero_le _⟩ (fun H locs hP hD hS => ?_)
    have ho := Option.some.inj hf
    subst ho; subst hQ
    exact ht_iret hx hb hr hlk rfl hK hP hD hS dX8_state_87
  replace hf := ht_f c_8 hf
  refine lv_tableOut (tgt := 88) hx hb dX8_state_1 (by have := lv_neT c_1 (a := 0) rfl; have := lv_neT c_2 (a := 1) rfl; have := lv_neT c_3 (a := 2) rfl; have := lv_neT c_4 (a := 3) rfl; have := lv_neT c_6 (a := 4) rfl; have := lv_neT c_8 (a := 5) rfl; omega) (by decide) ?_
  refine lv_iconst (v := -1) hx hb dX8_state_88 (by decide) ?_
  have ho := Option.some.inj hf
  subst ho; subst hQ
  exact ht_iret hx hb hr hlk rfl hK hP hD hS dX8_state_89
abbrev rmX8_luck : Room := { frames := 6, cells := 0, slots := 0, locals := 135 }
theorem hdX8_luck : yX8_luck.cls = RX8 ∧ yX8_luck.cls ≠ "java/lang/invoke/MethodHandle" ∧ yX8_luck.cls ≠ "java/lang/invoke/VarHandle" ∧ (parseMethodDescriptor yX8_luck.desc).map (fun d => d.parameters.length) = some 1 := by decide +kernel
def fX8_luck (RX : HTV) (RN : TownV) (RT : TownV) (p0 : Int32) : Option (Int32 × AI × AI × AI × AI × AI × AI × AI × Int32 × Int32 × Int32 × Int32 × Int32) := ht_bn (fX8_within p0 (1 : Int32) (30 : Int32)) (fun o_1 => if o_1 = 0 then (some ((-1 : Int32), RT.laws, RT.kind, RT.need, RT.saved, RT.voice, RT.partner, RT.speaks, RT.count, RT.day, RT.heard, RT.geese, RT.z)) else (ht_bn (fX7_luckyDays RN RT p0) (fun o_3 => some (o_3.1, o_3.2.1, o_3.2.2.1, o_3.2.2.2.1, o_3.2.2.2.2.1, o_3.2.2.2.2.2.1, o_3.2.2.2.2.2.2.1, o_3.2.2.2.2.2.2.2.1, o_3.2.2.2.2.2.2.2.2.1, o_3.2.2.2.2.2.2.2.2.2.1, o_3.2.2.2.2.2.2.2.2.2.2.1, o_3.2.2.2.2.2.2.2.2.2.2.2.1, o_3.2.2.2.2.2.2.2.2.2.2.2.2))))
set_option maxHeartbeats 1000000 in
set_option maxRecDepth 100000 in
theorem ctX8_luck (l : Launch) (D : va_G) (K : Nat → ClassId) (jX : Nat) (jS : Nat) (jN : Nat) (aN : Nat → Nat) (jT : Nat) (aT : Nat → Nat) (kX_kept : Nat) (kX_pairings : Nat) (kX_tape : Nat) (kX_telling : Nat) (kX_dayRows : Nat) (kX_deed : Nat) (kX_sheets : Nat) (kX_shelvedPerson : Nat) (kX_shelvedRow : Nat) (RX : HTV) (RN : TownV) (RT : TownV) (p0 : Int32) (o : (Int32 × AI × AI × AI × AI × AI × AI × AI × Int32 × Int32 × Int32 × Int32 × Int32)) (hf : fX8_luck RX RN RT p0 = some o) (sz : Nat) : Met l yX8_luck wsX8_luck rmX8_luck (ht_Pre D K [.ref jX, .int p0] (wHT K jX jN kX_kept jT jS kX_pairings kX_tape kX_telling kX_dayRows kX_deed kX_sheets kX_shelvedPerson kX_shelvedRow RX.anythingKept ++ (wTr K jS jN jT ++ (wTw K jN aN RN.laws RN.kind RN.need RN.saved RN.voice RN.partner RN.speaks RN.count RN.day RN.heard RN.geese RN.z ++ (wTw K jT aT RT.laws RT.kind RT.need RT.saved RT.voice RT.partner RT.speaks RT.count RT.day RT.heard RT.geese RT.z)))) sz) (ht_Qi D K (wHT K jX jN kX_kept jT jS kX_pairings kX_tape kX_telling kX_dayRows kX_deed kX_sheets kX_shelvedPerson kX_shelvedRow RX.anythingKept ++ (wTr K jS jN jT ++ (wTw K jN aN RN.laws RN.kind RN.need RN.saved RN.voice RN.partner RN.speaks RN.count RN.day RN.heard RN.geese RN.z ++ (wTw K jT aT o.2.1 o.2.2.1 o.2.2.2.1 o.2.2.2.2.1 o.2.2.2.2.2.1 o.2.2.2.2.2.2.1 o.2.2.2.2.2.2.2.1 o.2.2.2.2.2.2.2.2.1 o.2.2.2.2.2.2.2.2.2.1 o.2.2.2.2.2.2.2.2.2.2.1 o.2.2.2.2.2.2.2.2.2.2.2.1 o.2.2.2.2.2.2.2.2.2.2.2.2)))) o.1 (va_A (wHT K jX jN kX_kept jT jS kX_pairings kX_tape kX_telling kX_dayRows kX_deed kX_sheets kX_shelvedPerson kX_shelvedRow RX.anythingKept ++ (wTr K jS jN jT ++ (wTw K jN aN RN.laws RN.kind RN.need RN.saved RN.voice RN.partner RN.speaks RN.count RN.day RN.heard RN.geese RN.z ++ (wTw K jT aT RT.laws RT.kind RT.need RT.saved RT.voice RT.partner RT.speaks RT.count RT.day RT.heard RT.geese RT.z)))) sz)) 0 0 (va_A (wHT K jX jN kX_kept jT jS kX_pairings kX_tape kX_telling kX_dayRows kX_deed kX_sheets kX_shelvedPerson kX_shelvedRow RX.anythingKept ++ (wTr K jS jN jT ++ (wTw K jN aN RN.laws RN.kind RN.need RN.saved RN.voice RN.partner RN.speaks RN.count RN.day RN.heard RN.geese RN.z ++ (wTw K jT aT RT.laws RT.kind RT.need RT.saved RT.voice RT.partner RT.speaks RT.count RT.day RT.heard RT.geese RT.z)))) sz) := by
  refine ht_enter (Qf := ht_Qi D K (wHT K jX jN kX_kept jT jS kX_pairings kX_tape kX_telling kX_dayRows kX_deed kX_sheets kX_shelvedPerson kX_shelvedRow RX.anythingKept ++ (wTr K jS jN jT ++ (wTw K jN aN RN.laws RN.kind RN.need RN.saved RN.voice RN.partner RN.speaks RN.count RN.day RN.heard RN.geese RN.z ++ (wTw K jT aT o.2.1 o.2.2.1 o.2.2.2.1 o.2.2.2.2.1 o.2.2.2.2.2.1 o.2.2.2.2.2.2.1 o.2.2.2.2.2.2.2.1 o.2.2.2.2.2.2.2.2.1 o.2.2.2.2.2.2.2.2.2.1 o.2.2.2.2.2.2.2.2.2.2.1 o.2.2.2.2.2.2.2.2.2.2.2.1 o.2.2.2.2.2.2.2.2.2.2.2.2)))) o.1) (cc := cX8_luck) (maxL := 2) (rt := (some .int)) (by decide) rfl (Nat.le_of_ble_eq_true rfl) ?_ sz
  intro p e s m below meth c A Q H locs ls hQ hx hb hr hlk hmn hml hown hts hA hK hP hD hS hl
  have hown : s.vm.findClass RX8 = some m.cls := hown
  have hF : CallFix p m c cX8_luck 2 s ([.ref jX, .int p0] : List Value).toArray wsX8_luck RX8 := ⟨hx, hb, hml, hown, hts⟩
  have hl : lv_has ls 2 [(0, .ref jX), (1, .int p0)] := hl
  have iw8 : ∀ w ∈ u_ws RX8 TX8 13, w ∈ wsX8_luck := by decide +kernel
  have kw1 := hts (.fieldLink RX8 27 "HeldTongues" "trials" "LHeldTongues$Trials;") (by decide +kernel)
  delta fX8_luck at hf
  refine lv_iload_n hx hb dX8_luck_0 rfl (lv_at hl 1 rfl) ?_
  refine lv_iconst (v := 1) hx hb dX8_luck_1 (by decide) ?_
  refine lv_bipush (v := 30) hx hb dX8_luck_2 (by decide) ?_
  obtain ⟨o_1, ho_1, hf⟩ := ht_bn_ob hf
  refine ht_callSi (r := o_1) (rest := []) (As := [.int p0, .int (1 : Int32), .int (30 : Int32)]) (wc := []) (wr := (wHT K jX jN kX_kept jT jS kX_pairings kX_tape kX_telling kX_dayRows kX_deed kX_sheets kX_shelvedPerson kX_shelvedRow RX.anythingKept ++ (wTr K jS jN jT ++ (wTw K jN aN RN.laws RN.kind RN.need RN.saved RN.voice RN.partner RN.speaks RN.count RN.day RN.heard RN.geese RN.z ++ (wTw K jT aT RT.laws RT.kind RT.need RT.saved RT.voice RT.partner RT.speaks RT.count RT.day RT.heard RT.geese RT.z))))) (w1 := []) (w2 := (wHT K jX jN kX_kept jT jS kX_pairings kX_tape kX_telling kX_dayRows kX_deed kX_sheets kX_shelvedPerson kX_shelvedRow RX.anythingKept ++ (wTr K jS jN jT ++ (wTw K jN aN RN.laws RN.kind RN.need RN.saved RN.voice RN.partner RN.speaks RN.count RN.day RN.heard RN.geese RN.z ++ (wTw K jT aT RT.laws RT.kind RT.need RT.saved RT.voice RT.partner RT.speaks RT.count RT.day RT.heard RT.geese RT.z))))) hF (ctX8_within l D K p0 (1 : Int32) (30 : Int32) o_1 ho_1 H.size) (va_cwS 3 hts gX8_luck_X8_within rfl rfl rfl hdX8_within ⟨Nat.le_of_ble_eq_true rfl, Nat.le_of_ble_eq_true rfl⟩) hK hP hD hS hA [] [0, 1, 2, 3, 4, 5, 6, 7, 8, 9, 10, 11, 12, 13, 14, 15, 16, 17] rfl rfl (by decide) (by decide) (by decide) [0, 1, 2, 3, 4, 5, 6, 7, 8, 9, 10, 11, 12, 13, 14, 15, 16, 17] rfl (by decide) rfl hl.1 rfl (Nat.le_of_ble_eq_true rfl) dX8_luck_4 ⟨Nat.zero_le _, Nat.zero_le _⟩ (fun H locs hP hD hS => ?_)
  refine lv_if_eq (tgt := 21) hx hb dX8_luck_7 (by decide) (fun c_2 => ?_) (fun c_2 => ?_)
  · replace hf := ht_t c_2 hf
    refine lv_iconst (v := -1) hx hb dX8_luck_21 (by decide) ?_
    have ho := Option.some.inj hf
    subst ho; subst hQ
    exact ht_iret hx hb hr hlk rfl hK hP hD hS dX8_luck_22
  · replace hf := ht_f c_2 hf
    refine lv_aload_n hx hb dX8_luck_10 rfl (lv_at hl 0 rfl) ?_
    refine va_get (D := D) (ci := 8) (v := .ref jS) (C := RX8) (T := TX8) (N := 13) hx hb hts iw8 hown hK hP 0 rfl rfl 3 (by decide) kw1 (fun _ h9 => h9) rfl dX8_luck_11 ?_
    refine lv_iload_n hx hb dX8_luck_14 rfl (lv_at hl 1 rfl) ?_
    obtain ⟨o_3, ho_3, hf⟩ := ht_bn_ob hf
    refine ht_callVi (r := o_3.1) (rest := []) (As := [.int p0]) (wc := (wTr K jS jN jT ++ (wTw K jN aN RN.laws RN.kind RN.need RN.saved RN.voice RN.partner RN.speaks RN.count RN.day RN.heard RN.geese RN.z ++ (wTw K jT aT RT.laws RT.kind RT.need RT.saved RT.voice RT.partner RT.speaks RT.count RT.day RT.heard RT.geese RT.z)))) (wr := (wHT K jX jN kX_kept jT jS kX_pairings kX_tape kX_telling kX_dayRows kX_deed kX_sheets kX_shelvedPerson kX_shelvedRow RX.anythingKept)) (w1 := (wTr K jS jN jT ++ (wTw K jN aN RN.laws RN.kind RN.need RN.saved RN.voice RN.partner RN.speaks RN.count RN.day RN.heard RN.geese RN.z ++ (wTw K jT aT o_3.2.1 o_3.2.2.1 o_3.2.2.2.1 o_3.2.2.2.2.1 o_3.2.2.2.2.2.1 o_3.2.2.2.2.2.2.1 o_3.2.2.2.2.2.2.2.1 o_3.2.2.2.2.2.2.2.2.1 o_3.2.2.2.2.2.2.2.2.2.1 o_3.2.2.2.2.2.2.2.2.2.2.1 o_3.2.2.2.2.2.2.2.2.2.2.2.1 o_3.2.2.2.2.2.2.2.2.2.2.2.2)))) (w2 := (wHT K jX jN kX_kept jT jS kX_pairings kX_tape kX_telling kX_dayRows kX_deed kX_sheets kX_shelvedPerson kX_shelvedRow RX.anythingKept ++ (wTr K jS jN jT ++ (wTw K jN aN RN.laws RN.kind RN.need RN.saved RN.voice RN.partner RN.speaks RN.count RN.day RN.heard RN.geese RN.z ++ (wTw K jT aT o_3.2.1 o_3.2.2.1 o_3.2.2.2.1 o_3.2.2.2.2.1 o_3.2.2.2.2.2.1 o_3.2.2.2.2.2.2.1 o_3.2.2.2.2.2.2.2.1 o_3.2.2.2.2.2.2.2.2.1 o_3.2.2.2.2.2.2.2.2.2.1 o_3.2.2.2.2.2.2.2.2.2.2.1 o_3.2.2.2.2.2.2.2.2.2.2.2.1 o_3.2.2.2.2.2.2.2.2.2.2.2.2))))) hF (ctX7_luckyDays l D K jS jN aN jT aT RN RT p0 o_3 ho_3 H.size) (cwV 1 hts gX8_luck_X7_luckyDays rfl rfl rfl hdX7_luckyDays ⟨Nat.le_of_ble_eq_true rfl, Nat.le_of_ble_eq_true rfl⟩) hK hP hD hS hA [1, 2, 3, 4, 5, 6, 7, 8, 9, 10, 11, 12, 13, 14, 15, 16, 17] [0] rfl rfl (by decide) (by decide) (by decide) [0, 1, 2, 3, 4, 5, 6, 7, 8, 9, 10, 11, 12, 13, 14, 15, 16, 17] rfl (by decide) (va_recv hK hP (ci := 7) (q0 := 1) rfl rfl) rfl hl.1 rfl (Nat.le_of_ble_eq_true rfl) dX8_luck_15 ⟨Nat.zero_le _, Nat.zero_le _⟩ (fun H locs hP hD hS => ?_)
    refine lv_goto (tgt := 22) hx hb dX8_luck_18 (by decide) ?_
    have ho := Option.some.inj hf
    subst ho; subst hQ
    exact ht_iret hx hb hr hlk rfl hK hP hD hS dX8_luck_22
abbrev rmX8_sound : Room := { frames := 6, cells := 0, slots := 0, locals := 133 }
theorem hdX8_sound : yX8_sound.cls = RX8 ∧ yX8_sound.cls ≠ "java/lang/invoke/MethodHandle" ∧ yX8_sound.cls ≠ "java/lang/invoke/VarHandle" ∧ (parseMethodDescriptor yX8_sound.desc).map (fun d => d.parameters.length) = some 1 := by decide +kernel
def fX8_sound (RX : HTV) (RN : TownV) (RT : TownV) (p0 : Int32) : Option (Int32 × AI × AI × AI × AI × AI × AI × AI × Int32 × Int32 × Int32 × Int32 × Int32) := ht_bn (fX8_within p0 (0 : Int32) (60 : Int32)) (fun o_1 => if o_1 = 0 then (some ((-1 : Int32), RT.laws, RT.kind, RT.need, RT.saved, RT.voice, RT.partner, RT.speaks, RT.count, RT.day, RT.heard, RT.geese, RT.z)) else (ht_bn (fX7_soundBy RN RT p0) (fun o_3 => some (o_3.1, o_3.2.1, o_3.2.2.1, o_3.2.2.2.1, o_3.2.2.2.2.1, o_3.2.2.2.2.2.1, o_3.2.2.2.2.2.2.1, o_3.2.2.2.2.2.2.2.1, o_3.2.2.2.2.2.2.2.2.1, o_3.2.2.2.2.2.2.2.2.2.1, o_3.2.2.2.2.2.2.2.2.2.2.1, o_3.2.2.2.2.2.2.2.2.2.2.2.1, o_3.2.2.2.2.2.2.2.2.2.2.2.2))))
set_option maxHeartbeats 1000000 in
set_option maxRecDepth 100000 in
theorem ctX8_sound (l : Launch) (D : va_G) (K : Nat → ClassId) (jX : Nat) (jS : Nat) (jN : Nat) (aN : Nat → Nat) (jT : Nat) (aT : Nat → Nat) (kX_kept : Nat) (kX_pairings : Nat) (kX_tape : Nat) (kX_telling : Nat) (kX_dayRows : Nat) (kX_deed : Nat) (kX_sheets : Nat) (kX_shelvedPerson : Nat) (kX_shelvedRow : Nat) (RX : HTV) (RN : TownV) (RT : TownV) (p0 : Int32) (o : (Int32 × AI × AI × AI × AI × AI × AI × AI × Int32 × Int32 × Int32 × Int32 × Int32)) (hf : fX8_sound RX RN RT p0 = some o) (sz : Nat) : Met l yX8_sound wsX8_sound rmX8_sound (ht_Pre D K [.ref jX, .int p0] (wHT K jX jN kX_kept jT jS kX_pairings kX_tape kX_telling kX_dayRows kX_deed kX_sheets kX_shelvedPerson kX_shelvedRow RX.anythingKept ++ (wTr K jS jN jT ++ (wTw K jN aN RN.laws RN.kind RN.need RN.saved RN.voice RN.partner RN.speaks RN.count RN.day RN.heard RN.geese RN.z ++ (wTw K jT aT RT.laws RT.kind RT.need RT.saved RT.voice RT.partner RT.speaks RT.count RT.day RT.heard RT.geese RT.z)))) sz) (ht_Qi D K (wHT K jX jN kX_kept jT jS kX_pairings kX_tape kX_telling kX_dayRows kX_deed kX_sheets kX_shelvedPerson kX_shelvedRow RX.anythingKept ++ (wTr K jS jN jT ++ (wTw K jN aN RN.laws RN.kind RN.need RN.saved RN.voice RN.partner RN.speaks RN.count RN.day RN.heard RN.geese RN.z ++ (wTw K jT aT o.2.1 o.2.2.1 o.2.2.2.1 o.2.2.2.2.1 o.2.2.2.2.2.1 o.2.2.2.2.2.2.1 o.2.2.2.2.2.2.2.1 o.2.2.2.2.2.2.2.2.1 o.2.2.2.2.2.2.2.2.2.1 o.2.2.2.2.2.2.2.2.2.2.1 o.2.2.2.2.2.2.2.2.2.2.2.1 o.2.2.2.2.2.2.2.2.2.2.2.2)))) o.1 (va_A (wHT K jX jN kX_kept jT jS kX_pairings kX_tape kX_telling kX_dayRows kX_deed kX_sheets kX_shelvedPerson kX_shelvedRow RX.anythingKept ++ (wTr K jS jN jT ++ (wTw K jN aN RN.laws RN.kind RN.need RN.saved RN.voice RN.partner RN.speaks RN.count RN.day RN.heard RN.geese RN.z ++ (wTw K jT aT RT.laws RT.kind RT.need RT.saved RT.voice RT.partner RT.speaks RT.count RT.day RT.heard RT.geese RT.z)))) sz)) 0 0 (va_A (wHT K jX jN kX_kept jT jS kX_pairings kX_tape kX_telling kX_dayRows kX_deed kX_sheets kX_shelvedPerson kX_shelvedRow RX.anythingKept ++ (wTr K jS jN jT ++ (wTw K jN aN RN.laws RN.kind RN.need RN.saved RN.voice RN.partner RN.speaks RN.count RN.day RN.heard RN.geese RN.z ++ (wTw K jT aT RT.laws RT.kind RT.need RT.saved RT.voice RT.partner RT.speaks RT.count RT.day RT.heard RT.geese RT.z)))) sz) := by
  refine ht_enter (Qf := ht_Qi D K (wHT K jX jN kX_kept jT jS kX_pairings kX_tape kX_telling kX_dayRows kX_deed kX_sheets kX_shelvedPerson kX_shelvedRow RX.anythingKept ++ (wTr K jS jN jT ++ (wTw K jN aN RN.laws RN.kind RN.need RN.saved RN.voice RN.partner RN.speaks RN.count RN.day RN.heard RN.geese RN.z ++ (wTw K jT aT o.2.1 o.2.2.1 o.2.2.2.1 o.2.2.2.2.1 o.2.2.2.2.2.1 o.2.2.2.2.2.2.1 o.2.2.2.2.2.2.2.1 o.2.2.2.2.2.2.2.2.1 o.2.2.2.2.2.2.2.2.2.1 o.2.2.2.2.2.2.2.2.2.2.1 o.2.2.2.2.2.2.2.2.2.2.2.1 o.2.2.2.2.2.2.2.2.2.2.2.2)))) o.1) (cc := cX8_sound) (maxL := 2) (rt := (some .int)) (by decide) rfl (Nat.le_of_ble_eq_true rfl) ?_ sz
  intro p e s m below meth c A Q H locs ls hQ hx hb hr hlk hmn hml hown hts hA hK hP hD hS hl
  have hown : s.vm.findClass RX8 = some m.cls := hown
  have hF : CallFix p m c cX8_sound 2 s ([.ref jX, .int p0] : List Value).toArray wsX8_sound RX8 := ⟨hx, hb, hml, hown, hts⟩
  have hl : lv_has ls 2 [(0, .ref jX), (1, .int p0)] := hl
  have iw8 : ∀ w ∈ u_ws RX8 TX8 13, w ∈ wsX8_sound := by decide +kernel
  have kw1 := hts (.fieldLink RX8 27 "HeldTongues" "trials" "LHeldTongues$Trials;") (by decide +kernel)
  delta fX8_sound at hf
  refine lv_iload_n hx hb dX8_sound_0 rfl (lv_at hl 1 rfl) ?_
  refine lv_iconst (v := 0) hx hb dX8_sound_1 (by decide) ?_
  refine lv_bipush (v := 60) hx hb dX8_sound_2 (by decide) ?_
  obtain ⟨o_1, ho_1, hf⟩ := ht_bn_ob hf
  refine ht_callSi (r := o_1) (rest := []) (As := [.int p0, .int (0 : Int32), .int (60 : Int32)]) (wc := []) (wr := (wHT K jX jN kX_kept jT jS kX_pairings kX_tape kX_telling kX_dayRows kX_deed kX_sheets kX_shelvedPerson kX_shelvedRow RX.anythingKept ++ (wTr K jS jN jT ++ (wTw K jN aN RN.laws RN.kind RN.need RN.saved RN.voice RN.partner RN.speaks RN.count RN.day RN.heard RN.geese RN.z ++ (wTw K jT aT RT.laws RT.kind RT.need RT.saved RT.voice RT.partner RT.speaks RT.count RT.day RT.heard RT.geese RT.z))))) (w1 := []) (w2 := (wHT K jX jN kX_kept jT jS kX_pairings kX_tape kX_telling kX_dayRows kX_deed kX_sheets kX_shelvedPerson kX_shelvedRow RX.anythingKept ++ (wTr K jS jN jT ++ (wTw K jN aN RN.laws RN.kind RN.need RN.saved RN.voice RN.partner RN.speaks RN.count RN.day RN.heard RN.geese RN.z ++ (wTw K jT aT RT.laws RT.kind RT.need RT.saved RT.voice RT.partner RT.speaks RT.count RT.day RT.heard RT.geese RT.z))))) hF (ctX8_within l D K p0 (0 : Int32) (60 : Int32) o_1 ho_1 H.size) (va_cwS 3 hts gX8_sound_X8_within rfl rfl rfl hdX8_within ⟨Nat.le_of_ble_eq_true rfl, Nat.le_of_ble_eq_true rfl⟩) hK hP hD hS hA [] [0, 1, 2, 3, 4, 5, 6, 7, 8, 9, 10, 11, 12, 13, 14, 15, 16, 17] rfl rfl (by decide) (by decide) (by decide) [0, 1, 2, 3, 4, 5, 6, 7, 8, 9, 10, 11, 12, 13, 14, 15, 16, 17] rfl (by decide) rfl hl.1 rfl (Nat.le_of_ble_eq_true rfl) dX8_sound_4 ⟨Nat.zero_le _, Nat.zero_le _⟩ (fun H locs hP hD hS => ?_)
  refine lv_if_eq (tgt := 21) hx hb dX8_sound_7 (by decide) (fun c_2 => ?_) (fun c_2 => ?_)
  · replace hf := ht_t c_2 hf
    refine lv_iconst (v := -1) hx hb dX8_sound_21 (by decide) ?_
    have ho := Option.some.inj hf
    subst ho; subst hQ
    exact ht_iret hx hb hr hlk rfl hK hP hD hS dX8_sound_22
  · replace hf := ht_f c_2 hf
    refine lv_aload_n hx hb dX8_sound_10 rfl (lv_at hl 0 rfl) ?_
    refine va_get (D := D) (ci := 8) (v := .ref jS) (C := RX8) (T := TX8) (N := 13) hx hb hts iw8 hown hK hP 0 rfl rfl 3 (by decide) kw1 (fun _ h9 => h9) rfl dX8_sound_11 ?_
    refine lv_iload_n hx hb dX8_sound_14 rfl (lv_at hl 1 rfl) ?_
    obtain ⟨o_3, ho_3, hf⟩ := ht_bn_ob hf
    refine ht_callVi (r := o_3.1) (rest := []) (As := [.int p0]) (wc := (wTr K jS jN jT ++ (wTw K jN aN RN.laws RN.kind RN.need RN.saved RN.voice RN.partner RN.speaks RN.count RN.day RN.heard RN.geese RN.z ++ (wTw K jT aT RT.laws RT.kind RT.need RT.saved RT.voice RT.partner RT.speaks RT.count RT.day RT.heard RT.geese RT.z)))) (wr := (wHT K jX jN kX_kept jT jS kX_pairings kX_tape kX_telling kX_dayRows kX_deed kX_sheets kX_shelvedPerson kX_shelvedRow RX.anythingKept)) (w1 := (wTr K jS jN jT ++ (wTw K jN aN RN.laws RN.kind RN.need RN.saved RN.voice RN.partner RN.speaks RN.count RN.day RN.heard RN.geese RN.z ++ (wTw K jT aT o_3.2.1 o_3.2.2.1 o_3.2.2.2.1 o_3.2.2.2.2.1 o_3.2.2.2.2.2.1 o_3.2.2.2.2.2.2.1 o_3.2.2.2.2.2.2.2.1 o_3.2.2.2.2.2.2.2.2.1 o_3.2.2.2.2.2.2.2.2.2.1 o_3.2.2.2.2.2.2.2.2.2.2.1 o_3.2.2.2.2.2.2.2.2.2.2.2.1 o_3.2.2.2.2.2.2.2.2.2.2.2.2)))) (w2 := (wHT K jX jN kX_kept jT jS kX_pairings kX_tape kX_telling kX_dayRows kX_deed kX_sheets kX_shelvedPerson kX_shelvedRow RX.anythingKept ++ (wTr K jS jN jT ++ (wTw K jN aN RN.laws RN.kind RN.need RN.saved RN.voice RN.partner RN.speaks RN.count RN.day RN.heard RN.geese RN.z ++ (wTw K jT aT o_3.2.1 o_3.2.2.1 o_3.2.2.2.1 o_3.2.2.2.2.1 o_3.2.2.2.2.2.1 o_3.2.2.2.2.2.2.1 o_3.2.2.2.2.2.2.2.1 o_3.2.2.2.2.2.2.2.2.1 o_3.2.2.2.2.2.2.2.2.2.1 o_3.2.2.2.2.2.2.2.2.2.2.1 o_3.2.2.2.2.2.2.2.2.2.2.2.1 o_3.2.2.2.2.2.2.2.2.2.2.2.2))))) hF (ctX7_soundBy l D K jS jN aN jT aT RN RT p0 o_3 ho_3 H.size) (cwV 1 hts gX8_sound_X7_soundBy rfl rfl rfl hdX7_soundBy ⟨Nat.le_of_ble_eq_true rfl, Nat.le_of_ble_eq_true rfl⟩) hK hP hD hS hA [1, 2, 3, 4, 5, 6, 7, 8, 9, 10, 11, 12, 13, 14, 15, 16, 17] [0] rfl rfl (by decide) (by decide) (by decide) [0, 1, 2, 3, 4, 5, 6, 7, 8, 9, 10, 11, 12, 13, 14, 15, 16, 17] rfl (by decide) (va_recv hK hP (ci := 7) (q0 := 1) rfl rfl) rfl hl.1 rfl (Nat.le_of_ble_eq_true rfl) dX8_sound_15 ⟨Nat.zero_le _, Nat.zero_le _⟩ (fun H locs hP hD hS => ?_)
    refine lv_goto (tgt := 22) hx hb dX8_sound_18 (by decide) ?_
    have ho := Option.some.inj hf
    subst ho; subst hQ
    exact ht_iret hx hb hr hlk rfl hK hP hD hS dX8_sound_22
abbrev rmX8_eased : Room := { frames := 5, cells := 0, slots := 0, locals := 112 }
theorem hdX8_eased : yX8_eased.cls = RX8 ∧ yX8_eased.cls ≠ "java/lang/invoke/MethodHandle" ∧ yX8_eased.cls ≠ "java/lang/invoke/VarHandle" ∧ (parseMethodDescriptor yX8_eased.desc).map (fun d => d.parameters.length) = some 1 := by decide +kernel
def fX8_eased (RX : HTV) (RN : TownV) (RT : TownV) (p0 : Int32) : Option (Int32 × AI × AI × AI × AI × AI × AI × AI × Int32 × Int32 × Int32 × Int32 × Int32) := ht_bn (fX6_has RN p0) (fun o_1 => if o_1 = 0 then (some ((-1 : Int32), RT.laws, RT.kind, RT.need, RT.saved, RT.voice, RT.partner, RT.speaks, RT.count, RT.day, RT.heard, RT.geese, RT.z)) else (ht_bn (fX7_daysUntilNeed RN RT p0 (0 : Int32)) (fun o_3 => some (o_3.1, o_3.2.1, o_3.2.2.1, o_3.2.2.2.1, o_3.2.2.2.2.1, o_3.2.2.2.2.2.1, o_3.2.2.2.2.2.2.1, o_3.2.2.2.2.2.2.2.1, o_3.2.2.2.2.2.2.2.2.1, o_3.2.2.2.2.2.2.2.2.2.1, o_3.2.2.2.2.2.2.2.2.2.2.1, o_3.2.2.2.2.2.2.2.2.2.2.2.1, o_3.2.2.2.2.2.2.2.2.2.2.2.2))))
set_option maxHeartbeats 1000000 in
set_option maxRecDepth 100000 in
theorem ctX8_eased (l : Launch) (D : va_G) (K : Nat → ClassId) (jX : Nat) (jS : Nat) (jN : Nat) (aN : Nat → Nat) (jT : Nat) (aT : Nat → Nat) (kX_kept : Nat) (kX_pairings : Nat) (kX_tape : Nat) (kX_telling : Nat) (kX_dayRows : Nat) (kX_deed : Nat) (kX_sheets : Nat) (kX_shelvedPerson : Nat) (kX_shelvedRow : Nat) (RX : HTV) (RN : TownV) (RT : TownV) (p0 : Int32) (o : (Int32 × AI × AI × AI × AI × AI × AI × AI × Int32 × Int32 × Int32 × Int32 × Int32)) (hf : fX8_eased RX RN RT p0 = some o) (sz : Nat) : Met l yX8_eased wsX8_eased rmX8_eased (ht_Pre D K [.ref jX, .int p0] (wHT K jX jN kX_kept jT jS kX_pairings kX_tape kX_telling kX_dayRows kX_deed kX_sheets kX_shelvedPerson kX_shelvedRow RX.anythingKept ++ (wTr K jS jN jT ++ (wTw K jN aN RN.laws RN.kind RN.need RN.saved RN.voice RN.partner RN.speaks RN.count RN.day RN.heard RN.geese RN.z ++ (wTw K jT aT RT.laws RT.kind RT.need RT.saved RT.voice RT.partner RT.speaks RT.count RT.day RT.heard RT.geese RT.z)))) sz) (ht_Qi D K (wHT K jX jN kX_kept jT jS kX_pairings kX_tape kX_telling kX_dayRows kX_deed kX_sheets kX_shelvedPerson kX_shelvedRow RX.anythingKept ++ (wTr K jS jN jT ++ (wTw K jN aN RN.laws RN.kind RN.need RN.saved RN.voice RN.partner RN.speaks RN.count RN.day RN.heard RN.geese RN.z ++ (wTw K jT aT o.2.1 o.2.2.1 o.2.2.2.1 o.2.2.2.2.1 o.2.2.2.2.2.1 o.2.2.2.2.2.2.1 o.2.2.2.2.2.2.2.1 o.2.2.2.2.2.2.2.2.1 o.2.2.2.2.2.2.2.2.2.1 o.2.2.2.2.2.2.2.2.2.2.1 o.2.2.2.2.2.2.2.2.2.2.2.1 o.2.2.2.2.2.2.2.2.2.2.2.2)))) o.1 (va_A (wHT K jX jN kX_kept jT jS kX_pairings kX_tape kX_telling kX_dayRows kX_deed kX_sheets kX_shelvedPerson kX_shelvedRow RX.anythingKept ++ (wTr K jS jN jT ++ (wTw K jN aN RN.laws RN.kind RN.need RN.saved RN.voice RN.partner RN.speaks RN.count RN.day RN.heard RN.geese RN.z ++ (wTw K jT aT RT.laws RT.kind RT.need RT.saved RT.voice RT.partner RT.speaks RT.count RT.day RT.heard RT.geese RT.z)))) sz)) 0 0 (va_A (wHT K jX jN kX_kept jT jS kX_pairings kX_tape kX_telling kX_dayRows kX_deed kX_sheets kX_shelvedPerson kX_shelvedRow RX.anythingKept ++ (wTr K jS jN jT ++ (wTw K jN aN RN.laws RN.kind RN.need RN.saved RN.voice RN.partner RN.speaks RN.count RN.day RN.heard RN.geese RN.z ++ (wTw K jT aT RT.laws RT.kind RT.need RT.saved RT.voice RT.partner RT.speaks RT.count RT.day RT.heard RT.geese RT.z)))) sz) := by
  refine ht_enter (Qf := ht_Qi D K (wHT K jX jN kX_kept jT jS kX_pairings kX_tape kX_telling kX_dayRows kX_deed kX_sheets kX_shelvedPerson kX_shelvedRow RX.anythingKept ++ (wTr K jS jN jT ++ (wTw K jN aN RN.laws RN.kind RN.need RN.saved RN.voice RN.partner RN.speaks RN.count RN.day RN.heard RN.geese RN.z ++ (wTw K jT aT o.2.1 o.2.2.1 o.2.2.2.1 o.2.2.2.2.1 o.2.2.2.2.2.1 o.2.2.2.2.2.2.1 o.2.2.2.2.2.2.2.1 o.2.2.2.2.2.2.2.2.1 o.2.2.2.2.2.2.2.2.2.1 o.2.2.2.2.2.2.2.2.2.2.1 o.2.2.2.2.2.2.2.2.2.2.2.1 o.2.2.2.2.2.2.2.2.2.2.2.2)))) o.1) (cc := cX8_eased) (maxL := 2) (rt := (some .int)) (by decide) rfl (Nat.le_of_ble_eq_true rfl) ?_ sz
  intro p e s m below meth c A Q H locs ls hQ hx hb hr hlk hmn hml hown hts hA hK hP hD hS hl
  have hown : s.vm.findClass RX8 = some m.cls := hown
  have hF : CallFix p m c cX8_eased 2 s ([.ref jX, .int p0] : List Value).toArray wsX8_eased RX8 := ⟨hx, hb, hml, hown, hts⟩
  have hl : lv_has ls 2 [(0, .ref jX), (1, .int p0)] := hl
  have iw8 : ∀ w ∈ u_ws RX8 TX8 13, w ∈ wsX8_eased := by decide +kernel
  have kw1 := hts (.fieldLink RX8 10 "HeldTongues" "now" "LHeldTongues$Town;") (by decide +kernel)
  have kw2 := hts (.fieldLink RX8 27 "HeldTongues" "trials" "LHeldTongues$Trials;") (by decide +kernel)
  delta fX8_eased at hf
  refine lv_aload_n hx hb dX8_eased_0 rfl (lv_at hl 0 rfl) ?_
  refine va_get (D := D) (ci := 8) (v := .ref jN) (C := RX8) (T := TX8) (N := 13) hx hb hts iw8 hown hK hP 0 rfl rfl 0 (by decide) kw1 (fun _ h9 => h9) rfl dX8_eased_1 ?_
  refine lv_iload_n hx hb dX8_eased_4 rfl (lv_at hl 1 rfl) ?_
  obtain ⟨o_1, ho_1, hf⟩ := ht_bn_ob hf
  refine ht_callVi (r := o_1) (rest := []) (As := [.int p0]) (wc := (wTw K jN aN RN.laws RN.kind RN.need RN.saved RN.voice RN.partner RN.speaks RN.count RN.day RN.heard RN.geese RN.z)) (wr := (wHT K jX jN kX_kept jT jS kX_pairings kX_tape kX_telling kX_dayRows kX_deed kX_sheets kX_shelvedPerson kX_shelvedRow RX.anythingKept ++ (wTr K jS jN jT ++ (wTw K jT aT RT.laws RT.kind RT.need RT.saved RT.voice RT.partner RT.speaks RT.count RT.day RT.heard RT.geese RT.z)))) (w1 := (wTw K jN aN RN.laws RN.kind RN.need RN.saved RN.voice RN.partner RN.speaks RN.count RN.day RN.heard RN.geese RN.z)) (w2 := (wHT K jX jN kX_kept jT jS kX_pairings kX_tape kX_telling kX_dayRows kX_deed kX_sheets kX_shelvedPerson kX_shelvedRow RX.anythingKept ++ (wTr K jS jN jT ++ (wTw K jN aN RN.laws RN.kind RN.need RN.saved RN.voice RN.partner RN.speaks RN.count RN.day RN.heard RN.geese RN.z ++ (wTw K jT aT RT.laws RT.kind RT.need RT.saved RT.voice RT.partner RT.speaks RT.count RT.day RT.heard RT.geese RT.z))))) hF (ctX6_has l D K jN aN RN p0 o_1 ho_1 H.size) (cwV 1 hts gX8_eased_X6_has rfl rfl rfl hdX6_has ⟨Nat.le_of_ble_eq_true rfl, Nat.le_of_ble_eq_true rfl⟩) hK hP hD hS hA [2, 3, 4, 5, 6, 7, 8, 9] [0, 1, 10, 11, 12, 13, 14, 15, 16, 17] rfl rfl (by decide) (by decide) (by decide) [0, 1, 10, 11, 12, 13, 14, 15, 16, 17, 2, 3, 4, 5, 6, 7, 8, 9] rfl (by decide) (va_recv hK hP (ci := 6) (q0 := 2) rfl rfl) rfl hl.1 rfl (Nat.le_of_ble_eq_true rfl) dX8_eased_5 ⟨Nat.zero_le _, Nat.zero_le _⟩ (fun H locs hP hD hS => ?_)
  refine lv_if_eq (tgt := 23) hx hb dX8_eased_8 (by decide) (fun c_2 => ?_) (fun c_2 => ?_)
  · replace hf := ht_t c_2 hf
    refine lv_iconst (v := -1) hx hb dX8_eased_23 (by decide) ?_
    have ho := Option.some.inj hf
    subst ho; subst hQ
    exact ht_iret hx hb hr hlk rfl hK hP hD hS dX8_eased_24
  · replace hf := ht_f c_2 hf
    refine lv_aload_n hx hb dX8_eased_11 rfl (lv_at hl 0 rfl) ?_
    refine va_get (D := D) (ci := 8) (v := .ref jS) (C := RX8) (T := TX8) (N := 13) hx hb hts iw8 hown hK hP 0 rfl rfl 3 (by decide) kw2 (fun _ h9 => h9) rfl dX8_eased_12 ?_
    refine lv_iload_n hx hb dX8_eased_15 rfl (lv_at hl 1 rfl) ?_
    refine lv_iconst (v := 0) hx hb dX8_eased_16 (by decide) ?_
    obtain ⟨o_3, ho_3, hf⟩ := ht_bn_ob hf
    refine ht_callVi (r := o_3.1) (rest := []) (As := [.int p0, .int (0 : Int32)]) (wc := (wTr K jS jN jT ++ (wTw K jN aN RN.laws RN.kind RN.need RN.saved RN.voice RN.partner RN.speaks RN.count RN.day RN.heard RN.geese RN.z ++ (wTw K jT aT RT.laws RT.kind RT.need RT.saved RT.voice RT.partner RT.speaks RT.count RT.day RT.heard RT.geese RT.z)))) (wr := (wHT K jX jN kX_kept jT jS kX_pairings kX_tape kX_telling kX_dayRows kX_deed kX_sheets kX_shelvedPerson kX_shelvedRow RX.anythingKept)) (w1 := (wTr K jS jN jT ++ (wTw K jN aN RN.laws RN.kind RN.need RN.saved RN.voice RN.partner RN.speaks RN.count RN.day RN.heard RN.geese RN.z ++ (wTw K jT aT o_3.2.1 o_3.2.2.1 o_3.2.2.2.1 o_3.2.2.2.2.1 o_3.2.2.2.2.2.1 o_3.2.2.2.2.2.2.1 o_3.2.2.2.2.2.2.2.1 o_3.2.2.2.2.2.2.2.2.1 o_3.2.2.2.2.2.2.2.2.2.1 o_3.2.2.2.2.2.2.2.2.2.2.1 o_3.2.2.2.2.2.2.2.2.2.2.2.1 o_3.2.2.2.2.2.2.2.2.2.2.2.2)))) (w2 := (wHT K jX jN kX_kept jT jS kX_pairings kX_tape kX_telling kX_dayRows kX_deed kX_sheets kX_shelvedPerson kX_shelvedRow RX.anythingKept ++ (wTr K jS jN jT ++ (wTw K jN aN RN.laws RN.kind RN.need RN.saved RN.voice RN.partner RN.speaks RN.count RN.day RN.heard RN.geese RN.z ++ (wTw K jT aT o_3.2.1 o_3.2.2.1 o_3.2.2.2.1 o_3.2.2.2.2.1 o_3.2.2.2.2.2.1 o_3.2.2.2.2.2.2.1 o_3.2.2.2.2.2.2.2.1 o_3.2.2.2.2.2.2.2.2.1 o_3.2.2.2.2.2.2.2.2.2.1 o_3.2.2.2.2.2.2.2.2.2.2.1 o_3.2.2.2.2.2.2.2.2.2.2.2.1 o_3.2.2.2.2.2.2.2.2.2.2.2.2))))) hF (ctX7_daysUntilNeed l D K jS jN aN jT aT RN RT p0 (0 : Int32) o_3 ho_3 H.size) (cwV 2 hts gX8_eased_X7_daysUntilNeed rfl rfl rfl hdX7_daysUntilNeed ⟨Nat.le_of_ble_eq_true rfl, Nat.le_of_ble_eq_true rfl⟩) hK hP hD hS hA [1, 2, 3, 4, 5, 6, 7, 8, 9, 10, 11, 12, 13, 14, 15, 16, 17] [0] rfl rfl (by decide) (by decide) (by decide) [0, 1, 2, 3, 4, 5, 6, 7, 8, 9, 10, 11, 12, 13, 14, 15, 16, 17] rfl (by decide) (va_recv hK hP (ci := 7) (q0 := 1) rfl rfl) rfl hl.1 rfl (Nat.le_of_ble_eq_true rfl) dX8_eased_17 ⟨Nat.zero_le _, Nat.zero_le _⟩ (fun H locs hP hD hS => ?_)
    refine lv_goto (tgt := 24) hx hb dX8_eased_20 (by decide) ?_
    have ho := Option.some.inj hf
    subst ho; subst hQ
    exact ht_iret hx hb hr hlk rfl hK hP hD hS dX8_eased_24
abbrev rmX8_full : Room := { frames := 5, cells := 0, slots := 0, locals := 112 }
theorem hdX8_full : yX8_full.cls = RX8 ∧ yX8_full.cls ≠ "java/lang/invoke/MethodHandle" ∧ yX8_full.cls ≠ "java/lang/invoke/VarHandle" ∧ (parseMethodDescriptor yX8_full.desc).map (fun d => d.parameters.length) = some 1 := by decide +kernel
def fX8_full (RX : HTV) (RN : TownV) (RT : TownV) (p0 : Int32) : Option (Int32 × AI × AI × AI × AI × AI × AI × AI × Int32 × Int32 × Int32 × Int32 × Int32) := ht_bn (fX6_has RN p0) (fun o_1 => if o_1 = 0 then (some ((-1 : Int32), RT.laws, RT.kind, RT.need, RT.saved, RT.voice, RT.partner, RT.speaks, RT.count, RT.day, RT.heard, RT.geese, RT.z)) else (ht_bn (fX7_daysUntilNeed RN RT p0 (99 : Int32)) (fun o_3 => some (o_3.1, o_3.2.1, o_3.2.2.1, o_3.2.2.2.1, o_3.2.2.2.2.1, o_3.2.2.2.2.2.1, o_3.2.2.2.2.2.2.1, o_3.2.2.2.2.2.2.2.1, o_3.2.2.2.2.2.2.2.2.1, o_3.2.2.2.2.2.2.2.2.2.1, o_3.2.2.2.2.2.2.2.2.2.2.1, o_3.2.2.2.2.2.2.2.2.2.2.2.1, o_3.2.2.2.2.2.2.2.2.2.2.2.2))))
set_option maxHeartbeats 1000000 in
set_option maxRecDepth 100000 in
theorem ctX8_full (l : Launch) (D : va_G) (K : Nat → ClassId) (jX : Nat) (jS : Nat) (jN : Nat) (aN : Nat → Nat) (jT : Nat) (aT : Nat → Nat) (kX_kept : Nat) (kX_pairings : Nat) (kX_tape : Nat) (kX_telling : Nat) (kX_dayRows : Nat) (kX_deed : Nat) (kX_sheets : Nat) (kX_shelvedPerson : Nat) (kX_shelvedRow : Nat) (RX : HTV) (RN : TownV) (RT : TownV) (p0 : Int32) (o : (Int32 × AI × AI × AI × AI × AI × AI × AI × Int32 × Int32 × Int32 × Int32 × Int32)) (hf : fX8_full RX RN RT p0 = some o) (sz : Nat) : Met l yX8_full wsX8_full rmX8_full (ht_Pre D K [.ref jX, .int p0] (wHT K jX jN kX_kept jT jS kX_pairings kX_tape kX_telling kX_dayRows kX_deed kX_sheets kX_shelvedPerson kX_shelvedRow RX.anythingKept ++ (wTr K jS jN jT ++ (wTw K jN aN RN.laws RN.kind RN.need RN.saved RN.voice RN.partner RN.speaks RN.count RN.day RN.heard RN.geese RN.z ++ (wTw K jT aT RT.laws RT.kind RT.need RT.saved RT.voice RT.partner RT.speaks RT.count RT.day RT.heard RT.geese RT.z)))) sz) (ht_Qi D K (wHT K jX jN kX_kept jT jS kX_pairings kX_tape kX_telling kX_dayRows kX_deed kX_sheets kX_shelvedPerson kX_shelvedRow RX.anythingKept ++ (wTr K jS jN jT ++ (wTw K jN aN RN.laws RN.kind RN.need RN.saved RN.voice RN.partner RN.speaks RN.count RN.day RN.heard RN.geese RN.z ++ (wTw K jT aT o.2.1 o.2.2.1 o.2.2.2.1 o.2.2.2.2.1 o.2.2.2.2.2.1 o.2.2.2.2.2.2.1 o.2.2.2.2.2.2.2.1 o.2.2.2.2.2.2.2.2.1 o.2.2.2.2.2.2.2.2.2.1 o.2.2.2.2.2.2.2.2.2.2.1 o.2.2.2.2.2.2.2.2.2.2.2.1 o.2.2.2.2.2.2.2.2.2.2.2.2)))) o.1 (va_A (wHT K jX jN kX_kept jT jS kX_pairings kX_tape kX_telling kX_dayRows kX_deed kX_sheets kX_shelvedPerson kX_shelvedRow RX.anythingKept ++ (wTr K jS jN jT ++ (wTw K jN aN RN.laws RN.kind RN.need RN.saved RN.voice RN.partner RN.speaks RN.count RN.day RN.heard RN.geese RN.z ++ (wTw K jT aT RT.laws RT.kind RT.need RT.saved RT.voice RT.partner RT.speaks RT.count RT.day RT.heard RT.geese RT.z)))) sz)) 0 0 (va_A (wHT K jX jN kX_kept jT jS kX_pairings kX_tape kX_telling kX_dayRows kX_deed kX_sheets kX_shelvedPerson kX_shelvedRow RX.anythingKept ++ (wTr K jS jN jT ++ (wTw K jN aN RN.laws RN.kind RN.need RN.saved RN.voice RN.partner RN.speaks RN.count RN.day RN.heard RN.geese RN.z ++ (wTw K jT aT RT.laws RT.kind RT.need RT.saved RT.voice RT.partner RT.speaks RT.count RT.day RT.heard RT.geese RT.z)))) sz) := by
  refine ht_enter (Qf := ht_Qi D K (wHT K jX jN kX_kept jT jS kX_pairings kX_tape kX_telling kX_dayRows kX_deed kX_sheets kX_shelvedPerson kX_shelvedRow RX.anythingKept ++ (wTr K jS jN jT ++ (wTw K jN aN RN.laws RN.kind RN.need RN.saved RN.voice RN.partner RN.speaks RN.count RN.day RN.heard RN.geese RN.z ++ (wTw K jT aT o.2.1 o.2.2.1 o.2.2.2.1 o.2.2.2.2.1 o.2.2.2.2.2.1 o.2.2.2.2.2.2.1 o.2.2.2.2.2.2.2.1 o.2.2.2.2.2.2.2.2.1 o.2.2.2.2.2.2.2.2.2.1 o.2.2.2.2.2.2.2.2.2.2.1 o.2.2.2.2.2.2.2.2.2.2.2.1 o.2.2.2.2.2.2.2.2.2.2.2.2)))) o.1) (cc := cX8_full) (maxL := 2) (rt := (some .int)) (by decide) rfl (Nat.le_of_ble_eq_true rfl) ?_ sz
  intro p e s m below meth c A Q H locs ls hQ hx hb hr hlk hmn hml hown hts hA hK hP hD hS hl
  have hown : s.vm.findClass RX8 = some m.cls := hown
  have hF : CallFix p m c cX8_full 2 s ([.ref jX, .int p0] : List Value).toArray wsX8_full RX8 := ⟨hx, hb, hml, hown, hts⟩
  have hl : lv_has ls 2 [(0, .ref jX), (1, .int p0)] := hl
  have iw8 : ∀ w ∈ u_ws RX8 TX8 13, w ∈ wsX8_full := by decide +kernel
  have kw1 := hts (.fieldLink RX8 10 "HeldTongues" "now" "LHeldTongues$Town;") (by decide +kernel)
  have kw2 := hts (.fieldLink RX8 27 "HeldTongues" "trials" "LHeldTongues$Trials;") (by decide +kernel)
  delta fX8_full at hf
  refine lv_aload_n hx hb dX8_full_0 rfl (lv_at hl 0 rfl) ?_
  refine va_get (D := D) (ci := 8) (v := .ref jN) (C := RX8) (T := TX8) (N := 13) hx hb hts iw8 hown hK hP 0 rfl rfl 0 (by decide) kw1 (fun _ h9 => h9) rfl dX8_full_1 ?_
  refine lv_iload_n hx hb dX8_full_4 rfl (lv_at hl 1 rfl) ?_
  obtain ⟨o_1, ho_1, hf⟩ := ht_bn_ob hf
  refine ht_callVi (r := o_1) (rest := []) (As := [.int p0]) (wc := (wTw K jN aN RN.laws RN.kind RN.need RN.saved RN.voice RN.partner RN.speaks RN.count RN.day RN.heard RN.geese RN.z)) (wr := (wHT K jX jN kX_kept jT jS kX_pairings kX_tape kX_telling kX_dayRows kX_deed kX_sheets kX_shelvedPerson kX_shelvedRow RX.anythingKept ++ (wTr K jS jN jT ++ (wTw K jT aT RT.laws RT.kind RT.need RT.saved RT.voice RT.partner RT.speaks RT.count RT.day RT.heard RT.geese RT.z)))) (w1 := (wTw K jN aN RN.laws RN.kind RN.need RN.saved RN.voice RN.partner RN.speaks RN.count RN.day RN.heard RN.geese RN.z)) (w2 := (wHT K jX jN kX_kept jT jS kX_pairings kX_tape kX_telling kX_dayRows kX_deed kX_sheets kX_shelvedPerson kX_shelvedRow RX.anythingKept ++ (wTr K jS jN jT ++ (wTw K jN aN RN.laws RN.kind RN.need RN.saved RN.voice RN.partner RN.speaks RN.count RN.day RN.heard RN.geese RN.z ++ (wTw K jT aT RT.laws RT.kind RT.need RT.saved RT.voice RT.partner RT.speaks RT.count RT.day RT.heard RT.geese RT.z))))) hF (ctX6_has l D K jN aN RN p0 o_1 ho_1 H.size) (cwV 1 hts gX8_full_X6_has rfl rfl rfl hdX6_has ⟨Nat.le_of_ble_eq_true rfl, Nat.le_of_ble_eq_true rfl⟩) hK hP hD hS hA [2, 3, 4, 5, 6, 7, 8, 9] [0, 1, 10, 11, 12, 13, 14, 15, 16, 17] rfl rfl (by decide) (by decide) (by decide) [0, 1, 10, 11, 12, 13, 14, 15, 16, 17, 2, 3, 4, 5, 6, 7, 8, 9] rfl (by decide) (va_recv hK hP (ci := 6) (q0 := 2) rfl rfl) rfl hl.1 rfl (Nat.le_of_ble_eq_true rfl) dX8_full_5 ⟨Nat.zero_le _, Nat.zero_le _⟩ (fun H locs hP hD hS => ?_)
  refine lv_if_eq (tgt := 24) hx hb dX8_full_8 (by decide) (fun c_2 => ?_) (fun c_2 => ?_)
  · replace hf := ht_t c_2 hf
    refine lv_iconst (v := -1) hx hb dX8_full_24 (by decide) ?_
    have ho := Option.some.inj hf
    subst ho; subst hQ
    exact ht_iret hx hb hr hlk rfl hK hP hD hS dX8_full_25
  · replace hf := ht_f c_2 hf
    refine lv_aload_n hx hb dX8_full_11 rfl (lv_at hl 0 rfl) ?_
    refine va_get (D := D) (ci := 8) (v := .ref jS) (C := RX8) (T := TX8) (N := 13) hx hb hts iw8 hown hK hP 0 rfl rfl 3 (by decide) kw2 (fun _ h9 => h9) rfl dX8_full_12 ?_
    refine lv_iload_n hx hb dX8_full_15 rfl (lv_at hl 1 rfl) ?_
    refine lv_bipush (v := 99) hx hb dX8_full_16 (by decide) ?_
    obtain ⟨o_3, ho_3, hf⟩ := ht_bn_ob hf
    refine ht_callVi (r := o_3.1) (rest := []) (As := [.int p0, .int (99 : Int32)]) (wc := (wTr K jS jN jT ++ (wTw K jN aN RN.laws RN.kind RN.need RN.saved RN.voice RN.partner RN.speaks RN.count RN.day RN.heard RN.geese RN.z ++ (wTw K jT aT RT.laws RT.kind RT.need RT.saved RT.voice RT.partner RT.speaks RT.count RT.day RT.heard RT.geese RT.z)))) (wr := (wHT K jX jN kX_kept jT jS kX_pairings kX_tape kX_telling kX_dayRows kX_deed kX_sheets kX_shelvedPerson kX_shelvedRow RX.anythingKept)) (w1 := (wTr K jS jN jT ++ (wTw K jN aN RN.laws RN.kind RN.need RN.saved RN.voice RN.partner RN.speaks RN.count RN.day RN.heard RN.geese RN.z ++ (wTw K jT aT o_3.2.1 o_3.2.2.1 o_3.2.2.2.1 o_3.2.2.2.2.1 o_3.2.2.2.2.2.1 o_3.2.2.2.2.2.2.1 o_3.2.2.2.2.2.2.2.1 o_3.2.2.2.2.2.2.2.2.1 o_3.2.2.2.2.2.2.2.2.2.1 o_3.2.2.2.2.2.2.2.2.2.2.1 o_3.2.2.2.2.2.2.2.2.2.2.2.1 o_3.2.2.2.2.2.2.2.2.2.2.2.2)))) (w2 := (wHT K jX jN kX_kept jT jS kX_pairings kX_tape kX_telling kX_dayRows kX_deed kX_sheets kX_shelvedPerson kX_shelvedRow RX.anythingKept ++ (wTr K jS jN jT ++ (wTw K jN aN RN.laws RN.kind RN.need RN.saved RN.voice RN.partner RN.speaks RN.count RN.day RN.heard RN.geese RN.z ++ (wTw K jT aT o_3.2.1 o_3.2.2.1 o_3.2.2.2.1 o_3.2.2.2.2.1 o_3.2.2.2.2.2.1 o_3.2.2.2.2.2.2.1 o_3.2.2.2.2.2.2.2.1 o_3.2.2.2.2.2.2.2.2.1 o_3.2.2.2.2.2.2.2.2.2.1 o_3.2.2.2.2.2.2.2.2.2.2.1 o_3.2.2.2.2.2.2.2.2.2.2.2.1 o_3.2.2.2.2.2.2.2.2.2.2.2.2))))) hF (ctX7_daysUntilNeed l D K jS jN aN jT aT RN RT p0 (99 : Int32) o_3 ho_3 H.size) (cwV 2 hts gX8_full_X7_daysUntilNeed rfl rfl rfl hdX7_daysUntilNeed ⟨Nat.le_of_ble_eq_true rfl, Nat.le_of_ble_eq_true rfl⟩) hK hP hD hS hA [1, 2, 3, 4, 5, 6, 7, 8, 9, 10, 11, 12, 13, 14, 15, 16, 17] [0] rfl rfl (by decide) (by decide) (by decide) [0, 1, 2, 3, 4, 5, 6, 7, 8, 9, 10, 11, 12, 13, 14, 15, 16, 17] rfl (by decide) (va_recv hK hP (ci := 7) (q0 := 1) rfl rfl) rfl hl.1 rfl (Nat.le_of_ble_eq_true rfl) dX8_full_18 ⟨Nat.zero_le _, Nat.zero_le _⟩ (fun H locs hP hD hS => ?_)
    refine lv_goto (tgt := 25) hx hb dX8_full_21 (by decide) ?_
    have ho := Option.some.inj hf
    subst ho; subst hQ
    exact ht_iret hx hb hr hlk rfl hK hP hD hS dX8_full_25
abbrev rmX8_hush : Room := { frames := 5, cells := 0, slots := 0, locals := 110 }
theorem hdX8_hush : yX8_hush.cls = RX8 ∧ yX8_hush.cls ≠ "java/lang/invoke/MethodHandle" ∧ yX8_hush.cls ≠ "java/lang/invoke/VarHandle" ∧ (parseMethodDescriptor yX8_hush.desc).map (fun d => d.parameters.length) = some 0 := by decide +kernel
def fX8_hush (RX : HTV) (RN : TownV) (RT : TownV) : Option (Int32 × AI × AI × AI × AI × AI × AI × AI × Int32 × Int32 × Int32 × Int32 × Int32) := ht_bn (fX7_daysUntilHush RN RT) (fun o_1 => some (o_1.1, o_1.2.1, o_1.2.2.1, o_1.2.2.2.1, o_1.2.2.2.2.1, o_1.2.2.2.2.2.1, o_1.2.2.2.2.2.2.1, o_1.2.2.2.2.2.2.2.1, o_1.2.2.2.2.2.2.2.2.1, o_1.2.2.2.2.2.2.2.2.2.1, o_1.2.2.2.2.2.2.2.2.2.2.1, o_1.2.2.2.2.2.2.2.2.2.2.2.1, o_1.2.2.2.2.2.2.2.2.2.2.2.2))
set_option maxHeartbeats 1000000 in
set_option maxRecDepth 100000 in
theorem ctX8_hush (l : Launch) (D : va_G) (K : Nat → ClassId) (jX : Nat) (jS : Nat) (jN : Nat) (aN : Nat → Nat) (jT : Nat) (aT : Nat → Nat) (kX_kept : Nat) (kX_pairings : Nat) (kX_tape : Nat) (kX_telling : Nat) (kX_dayRows : Nat) (kX_deed : Nat) (kX_sheets : Nat) (kX_shelvedPerson : Nat) (kX_shelvedRow : Nat) (RX : HTV) (RN : TownV) (RT : TownV) (o : (Int32 × AI × AI × AI × AI × AI × AI × AI × Int32 × Int32 × Int32 × Int32 × Int32)) (hf : fX8_hush RX RN RT = some o) (sz : Nat) : Met l yX8_hush wsX8_hush rmX8_hush (ht_Pre D K [.ref jX] (wHT K jX jN kX_kept jT jS kX_pairings kX_tape kX_telling kX_dayRows kX_deed kX_sheets kX_shelvedPerson kX_shelvedRow RX.anythingKept ++ (wTr K jS jN jT ++ (wTw K jN aN RN.laws RN.kind RN.need RN.saved RN.voice RN.partner RN.speaks RN.count RN.day RN.heard RN.geese RN.z ++ (wTw K jT aT RT.laws RT.kind RT.need RT.saved RT.voice RT.partner RT.speaks RT.count RT.day RT.heard RT.geese RT.z)))) sz) (ht_Qi D K (wHT K jX jN kX_kept jT jS kX_pairings kX_tape kX_telling kX_dayRows kX_deed kX_sheets kX_shelvedPerson kX_shelvedRow RX.anythingKept ++ (wTr K jS jN jT ++ (wTw K jN aN RN.laws RN.kind RN.need RN.saved RN.voice RN.partner RN.speaks RN.count RN.day RN.heard RN.geese RN.z ++ (wTw K jT aT o.2.1 o.2.2.1 o.2.2.2.1 o.2.2.2.2.1 o.2.2.2.2.2.1 o.2.2.2.2.2.2.1 o.2.2.2.2.2.2.2.1 o.2.2.2.2.2.2.2.2.1 o.2.2.2.2.2.2.2.2.2.1 o.2.2.2.2.2.2.2.2.2.2.1 o.2.2.2.2.2.2.2.2.2.2.2.1 o.2.2.2.2.2.2.2.2.2.2.2.2)))) o.1 (va_A (wHT K jX jN kX_kept jT jS kX_pairings kX_tape kX_telling kX_dayRows kX_deed kX_sheets kX_shelvedPerson kX_shelvedRow RX.anythingKept ++ (wTr K jS jN jT ++ (wTw K jN aN RN.laws RN.kind RN.need RN.saved RN.voice RN.partner RN.speaks RN.count RN.day RN.heard RN.geese RN.z ++ (wTw K jT aT RT.laws RT.kind RT.need RT.saved RT.voice RT.partner RT.speaks RT.count RT.day RT.heard RT.geese RT.z)))) sz)) 0 0 (va_A (wHT K jX jN kX_kept jT jS kX_pairings kX_tape kX_telling kX_dayRows kX_deed kX_sheets kX_shelvedPerson kX_shelvedRow RX.anythingKept ++ (wTr K jS jN jT ++ (wTw K jN aN RN.laws RN.kind RN.need RN.saved RN.voice RN.partner RN.speaks RN.count RN.day RN.heard RN.geese RN.z ++ (wTw K jT aT RT.laws RT.kind RT.need RT.saved RT.voice RT.partner RT.speaks RT.count RT.day RT.heard RT.geese RT.z)))) sz) := by
  refine ht_enter (Qf := ht_Qi D K (wHT K jX jN kX_kept jT jS kX_pairings kX_tape kX_telling kX_dayRows kX_deed kX_sheets kX_shelvedPerson kX_shelvedRow RX.anythingKept ++ (wTr K jS jN jT ++ (wTw K jN aN RN.laws RN.kind RN.need RN.saved RN.voice RN.partner RN.speaks RN.count RN.day RN.heard RN.geese RN.z ++ (wTw K jT aT o.2.1 o.2.2.1 o.2.2.2.1 o.2.2.2.2.1 o.2.2.2.2.2.1 o.2.2.2.2.2.2.1 o.2.2.2.2.2.2.2.1 o.2.2.2.2.2.2.2.2.1 o.2.2.2.2.2.2.2.2.2.1 o.2.2.2.2.2.2.2.2.2.2.1 o.2.2.2.2.2.2.2.2.2.2.2.1 o.2.2.2.2.2.2.2.2.2.2.2.2)))) o.1) (cc := cX8_hush) (maxL := 1) (rt := (some .int)) (by decide) rfl (Nat.le_of_ble_eq_true rfl) ?_ sz
  intro p e s m below meth c A Q H locs ls hQ hx hb hr hlk hmn hml hown hts hA hK hP hD hS hl
  have hown : s.vm.findClass RX8 = some m.cls := hown
  have hF : CallFix p m c cX8_hush 1 s ([.ref jX] : List Value).toArray wsX8_hush RX8 := ⟨hx, hb, hml, hown, hts⟩
  have hl : lv_has ls 1 [(0, .ref jX)] := hl
  have iw8 : ∀ w ∈ u_ws RX8 TX8 13, w ∈ wsX8_hush := by decide +kernel
  have kw1 := hts (.fieldLink RX8 27 "HeldTongues" "trials" "LHeldTongues$Trials;") (by decide +kernel)
  delta fX8_hush at hf
  refine lv_aload_n hx hb dX8_hush_0 rfl (lv_at hl 0 rfl) ?_
  refine va_get (D := D) (ci := 8) (v := .ref jS) (C := RX8) (T := TX8) (N := 13) hx hb hts iw8 hown hK hP 0 rfl rfl 3 (by decide) kw1 (fun _ h9 => h9) rfl dX8_hush_1 ?_
  obtain ⟨o_1, ho_1, hf⟩ := ht_bn_ob hf
  refine ht_callVi (r := o_1.1) (rest := []) (As := []) (wc := (wTr K jS jN jT ++ (wTw K jN aN RN.laws RN.kind RN.need RN.saved RN.voice RN.partner RN.speaks RN.count RN.day RN.heard RN.geese RN.z ++ (wTw K jT aT RT.laws RT.kind RT.need RT.saved RT.voice RT.partner RT.speaks RT.count RT.day RT.heard RT.geese RT.z)))) (wr := (wHT K jX jN kX_kept jT jS kX_pairings kX_tape kX_telling kX_dayRows kX_deed kX_sheets kX_shelvedPerson kX_shelvedRow RX.anythingKept)) (w1 := (wTr K jS jN jT ++ (wTw K jN aN RN.laws RN.kind RN.need RN.saved RN.voice RN.partner RN.speaks RN.count RN.day RN.heard RN.geese RN.z ++ (wTw K jT aT o_1.2.1 o_1.2.2.1 o_1.2.2.2.1 o_1.2.2.2.2.1 o_1.2.2.2.2.2.1 o_1.2.2.2.2.2.2.1 o_1.2.2.2.2.2.2.2.1 o_1.2.2.2.2.2.2.2.2.1 o_1.2.2.2.2.2.2.2.2.2.1 o_1.2.2.2.2.2.2.2.2.2.2.1 o_1.2.2.2.2.2.2.2.2.2.2.2.1 o_1.2.2.2.2.2.2.2.2.2.2.2.2)))) (w2 := (wHT K jX jN kX_kept jT jS kX_pairings kX_tape kX_telling kX_dayRows kX_deed kX_sheets kX_shelvedPerson kX_shelvedRow RX.anythingKept ++ (wTr K jS jN jT ++ (wTw K jN aN RN.laws RN.kind RN.need RN.saved RN.voice RN.partner RN.speaks RN.count RN.day RN.heard RN.geese RN.z ++ (wTw K jT aT o_1.2.1 o_1.2.2.1 o_1.2.2.2.1 o_1.2.2.2.2.1 o_1.2.2.2.2.2.1 o_1.2.2.2.2.2.2.1 o_1.2.2.2.2.2.2.2.1 o_1.2.2.2.2.2.2.2.2.1 o_1.2.2.2.2.2.2.2.2.2.1 o_1.2.2.2.2.2.2.2.2.2.2.1 o_1.2.2.2.2.2.2.2.2.2.2.2.1 o_1.2.2.2.2.2.2.2.2.2.2.2.2))))) hF (ctX7_daysUntilHush l D K jS jN aN jT aT RN RT o_1 ho_1 H.size) (cwV 0 hts gX8_hush_X7_daysUntilHush rfl rfl rfl hdX7_daysUntilHush ⟨Nat.le_of_ble_eq_true rfl, Nat.le_of_ble_eq_true rfl⟩) hK hP hD hS hA [1, 2, 3, 4, 5, 6, 7, 8, 9, 10, 11, 12, 13, 14, 15, 16, 17] [0] rfl rfl (by decide) (by decide) (by decide) [0, 1, 2, 3, 4, 5, 6, 7, 8, 9, 10, 11, 12, 13, 14, 15, 16, 17] rfl (by decide) (va_recv hK hP (ci := 7) (q0 := 1) rfl rfl) rfl hl.1 rfl (Nat.le_of_ble_eq_true rfl) dX8_hush_4 ⟨Nat.zero_le _, Nat.zero_le _⟩ (fun H locs hP hD hS => ?_)
  have ho := Option.some.inj hf
  subst ho; subst hQ
  exact ht_iret hx hb hr hlk rfl hK hP hD hS dX8_hush_7
abbrev rmX8_partnerFor : Room := { frames := 6, cells := 0, slots := 0, locals := 138 }
theorem hdX8_partnerFor : yX8_partnerFor.cls = RX8 ∧ yX8_partnerFor.cls ≠ "java/lang/invoke/MethodHandle" ∧ yX8_partnerFor.cls ≠ "java/lang/invoke/VarHandle" ∧ (parseMethodDescriptor yX8_partnerFor.desc).map (fun d => d.parameters.length) = some 2 := by decide +kernel
def fX8_partnerFor (RX : HTV) (RN : TownV) (RT : TownV) (p0 : Int32) (p1 : Int32) : Option (Int32 × AI × AI × AI × AI × AI × AI × AI × Int32 × Int32 × Int32 × Int32 × Int32) := ht_bn (fX6_has RN p0) (fun o_1 => if o_1 = 0 then (some ((-1 : Int32), RT.laws, RT.kind, RT.need, RT.saved, RT.voice, RT.partner, RT.speaks, RT.count, RT.day, RT.heard, RT.geese, RT.z)) else (ht_bn (fX8_within p1 (1 : Int32) (20 : Int32)) (fun o_3 => if o_3 = 0 then (some ((-1 : Int32), RT.laws, RT.kind, RT.need, RT.saved, RT.voice, RT.partner, RT.speaks, RT.count, RT.day, RT.heard, RT.geese, RT.z)) else (ht_bn (fX7_loudestPartner RN RT p0 p1) (fun o_5 => some (o_5.1, o_5.2.1, o_5.2.2.1, o_5.2.2.2.1, o_5.2.2.2.2.1, o_5.2.2.2.2.2.1, o_5.2.2.2.2.2.2.1, o_5.2.2.2.2.2.2.2.1, o_5.2.2.2.2.2.2.2.2.1, o_5.2.2.2.2.2.2.2.2.2.1, o_5.2.2.2.2.2.2.2.2.2.2.1, o_5.2.2.2.2.2.2.2.2.2.2.2.1, o_5.2.2.2.2.2.2.2.2.2.2.2.2))))))
set_option maxHeartbeats 1000000 in
set_option maxRecDepth 100000 in
theorem ctX8_partnerFor (l : Launch) (D : va_G) (K : Nat → ClassId) (jX : Nat) (jS : Nat) (jN : Nat) (aN : Nat → Nat) (jT : Nat) (aT : Nat → Nat) (kX_kept : Nat) (kX_pairings : Nat) (kX_tape : Nat) (kX_telling : Nat) (kX_dayRows : Nat) (kX_deed : Nat) (kX_sheets : Nat) (kX_shelvedPerson : Nat) (kX_shelvedRow : Nat) (RX : HTV) (RN : TownV) (RT : TownV) (p0 : Int32) (p1 : Int32) (o : (Int32 × AI × AI × AI × AI × AI × AI × AI × Int32 × Int32 × Int32 × Int32 × Int32)) (hf : fX8_partnerFor RX RN RT p0 p1 = some o) (sz : Nat) : Met l yX8_partnerFor wsX8_partnerFor rmX8_partnerFor (ht_Pre D K [.ref jX, .int p0, .int p1] (wHT K jX jN kX_kept jT jS kX_pairings kX_tape kX_telling kX_dayRows kX_deed kX_sheets kX_shelvedPerson kX_shelvedRow RX.anythingKept ++ (wTr K jS jN jT ++ (wTw K jN aN RN.laws RN.kind RN.need RN.saved RN.voice RN.partner RN.speaks RN.count RN.day RN.heard RN.geese RN.z ++ (wTw K jT aT RT.laws RT.kind RT.need RT.saved RT.voice RT.partner RT.speaks RT.count RT.day RT.heard RT.geese RT.z)))) sz) (ht_Qi D K (wHT K jX jN kX_kept jT jS kX_pairings kX_tape kX_telling kX_dayRows kX_deed kX_sheets kX_shelvedPerson kX_shelvedRow RX.anythingKept ++ (wTr K jS jN jT ++ (wTw K jN aN RN.laws RN.kind RN.need RN.saved RN.voice RN.partner RN.speaks RN.count RN.day RN.heard RN.geese RN.z ++ (wTw K jT aT o.2.1 o.2.2.1 o.2.2.2.1 o.2.2.2.2.1 o.2.2.2.2.2.1 o.2.2.2.2.2.2.1 o.2.2.2.2.2.2.2.1 o.2.2.2.2.2.2.2.2.1 o.2.2.2.2.2.2.2.2.2.1 o.2.2.2.2.2.2.2.2.2.2.1 o.2.2.2.2.2.2.2.2.2.2.2.1 o.2.2.2.2.2.2.2.2.2.2.2.2)))) o.1 (va_A (wHT K jX jN kX_kept jT jS kX_pairings kX_tape kX_telling kX_dayRows kX_deed kX_sheets kX_shelvedPerson kX_shelvedRow RX.anythingKept ++ (wTr K jS jN jT ++ (wTw K jN aN RN.laws RN.kind RN.need RN.saved RN.voice RN.partner RN.speaks RN.count RN.day RN.heard RN.geese RN.z ++ (wTw K jT aT RT.laws RT.kind RT.need RT.saved RT.voice RT.partner RT.speaks RT.count RT.day RT.heard RT.geese RT.z)))) sz)) 0 0 (va_A (wHT K jX jN kX_kept jT jS kX_pairings kX_tape kX_telling kX_dayRows kX_deed kX_sheets kX_shelvedPerson kX_shelvedRow RX.anythingKept ++ (wTr K jS jN jT ++ (wTw K jN aN RN.laws RN.kind RN.need RN.saved RN.voice RN.partner RN.speaks RN.count RN.day RN.heard RN.geese RN.z ++ (wTw K jT aT RT.laws RT.kind RT.need RT.saved RT.voice RT.partner RT.speaks RT.count RT.day RT.heard RT.geese RT.z)))) sz) := by
  refine ht_enter (Qf := ht_Qi D K (wHT K jX jN kX_kept jT jS kX_pairings kX_tape kX_telling kX_dayRows kX_deed kX_sheets kX_shelvedPerson kX_shelvedRow RX.anythingKept ++ (wTr K jS jN jT ++ (wTw K jN aN RN.laws RN.kind RN.need RN.saved RN.voice RN.partner RN.speaks RN.count RN.day RN.heard RN.geese RN.z ++ (wTw K jT aT o.2.1 o.2.2.1 o.2.2.2.1 o.2.2.2.2.1 o.2.2.2.2.2.1 o.2.2.2.2.2.2.1 o.2.2.2.2.2.2.2.1 o.2.2.2.2.2.2.2.2.1 o.2.2.2.2.2.2.2.2.2.1 o.2.2.2.2.2.2.2.2.2.2.1 o.2.2.2.2.2.2.2.2.2.2.2.1 o.2.2.2.2.2.2.2.2.2.2.2.2)))) o.1) (cc := cX8_partnerFor) (maxL := 3) (rt := (some .int)) (by decide) rfl (Nat.le_of_ble_eq_true rfl) ?_ sz
  intro p e s m below meth c A Q H locs ls hQ hx hb hr hlk hmn hml hown hts hA hK hP hD hS hl
  have hown : s.vm.findClass RX8 = some m.cls := hown
  have hF : CallFix p m c cX8_partnerFor 3 s ([.ref jX, .int p0, .int p1] : List Value).toArray wsX8_partnerFor RX8 := ⟨hx, hb, hml, hown, hts⟩
  have hl : lv_has ls 3 [(0, .ref jX), (1, .int p0), (2, .int p1)] := hl
  have iw8 : ∀ w ∈ u_ws RX8 TX8 13, w ∈ wsX8_partnerFor := by decide +kernel
  have kw1 := hts (.fieldLink RX8 10 "HeldTongues" "now" "LHeldTongues$Town;") (by decide +kernel)
  have kw2 := hts (.fieldLink RX8 27 "HeldTongues" "trials" "LHeldTongues$Trials;") (by decide +kernel)
  delta fX8_partnerFor at hf
  refine lv_aload_n hx hb dX8_partnerFor_0 rfl (lv_at hl 0 rfl) ?_
  refine va_get (D := D) (ci := 8) (v := .ref jN) (C := RX8) (T := TX8) (N := 13) hx hb hts iw8 hown hK hP 0 rfl rfl 0 (by decide) kw1 (fun _ h9 => h9) rfl dX8_partnerFor_1 ?_
  refine lv_iload_n hx hb dX8_partnerFor_4 rfl (lv_at hl 1 rfl) ?_
  obtain ⟨o_1, ho_1, hf⟩ := ht_bn_ob hf
  refine ht_callVi (r := o_1) (rest := []) (As := [.int p0]) (wc := (wTw K jN aN RN.laws RN.kind RN.need RN.saved RN.voice RN.partner RN.speaks RN.count RN.day RN.heard RN.geese RN.z)) (wr := (wHT K jX jN kX_kept jT jS kX_pairings kX_tape kX_telling kX_dayRows kX_deed kX_sheets kX_shelvedPerson kX_shelvedRow RX.anythingKept ++ (wTr K jS jN jT ++ (wTw K jT aT RT.laws RT.kind RT.need RT.saved RT.voice RT.partner RT.speaks RT.count RT.day RT.heard RT.geese RT.z)))) (w1 := (wTw K jN aN RN.laws RN.kind RN.need RN.saved RN.voice RN.partner RN.speaks RN.count RN.day RN.heard RN.geese RN.z)) (w2 := (wHT K jX jN kX_kept jT jS kX_pairings kX_tape kX_telling kX_dayRows kX_deed kX_sheets kX_shelvedPerson kX_shelvedRow RX.anythingKept ++ (wTr K jS jN jT ++ (wTw K jN aN RN.laws RN.kind RN.need RN.saved RN.voice RN.partner RN.speaks RN.count RN.day RN.heard RN.geese RN.z ++ (wTw K jT aT RT.laws RT.kind RT.need RT.saved RT.voice RT.partner RT.speaks RT.count RT.day RT.heard RT.geese RT.z))))) hF (ctX6_has l D K jN aN RN p0 o_1 ho_1 H.size) (cwV 1 hts gX8_partnerFor_X6_has rfl rfl rfl hdX6_has ⟨Nat.le_of_ble_eq_true rfl, Nat.le_of_ble_eq_true rfl⟩) hK hP hD hS hA [2, 3, 4, 5, 6, 7, 8, 9] [0, 1, 10, 11, 12, 13, 14, 15, 16, 17] rfl rfl (by decide) (by decide) (by decide) [0, 1, 10, 11, 12, 13, 14, 15, 16, 17, 2, 3, 4, 5, 6, 7, 8, 9] rfl (by decide) (va_recv hK hP (ci := 6) (q0 := 2) rfl rfl) rfl hl.1 rfl (Nat.le_of_ble_eq_true rfl) dX8_partnerFor_5 ⟨Nat.zero_le _, Nat.zero_le _⟩ (fun H locs hP hD hS => ?_)
  refine lv_if_eq (tgt := 21) hx hb dX8_partnerFor_8 (by decide) (fun c_2 => ?_) (fun c_2 => ?_)
  · replace hf := ht_t c_2 hf
    refine lv_iconst (v := -1) hx hb dX8_partnerFor_21 (by decide) ?_
    have ho := Option.some.inj hf
    subst ho; subst hQ
    exact ht_iret hx hb hr hlk rfl hK hP hD hS dX8_partnerFor_22
  · replace hf := ht_f c_2 hf
    refine lv_iload_n hx hb dX8_partnerFor_11 rfl (lv_at hl 2 rfl) ?_
    refine lv_iconst (v := 1) hx hb dX8_partnerFor_12 (by decide) ?_
    refine lv_bipush (v := 20) hx hb dX8_partnerFor_13 (by decide) ?_
    obtain ⟨o_3, ho_3, hf⟩ := ht_bn_ob hf
    refine ht_callSi (r := o_3) (rest := []) (As := [.int p1, .int (1 : Int32), .int (20 : Int32)]) (wc := []) (wr := (wHT K jX jN kX_kept jT jS kX_pairings kX_tape kX_telling kX_dayRows kX_deed kX_sheets kX_shelvedPerson kX_shelvedRow RX.anythingKept ++ (wTr K jS jN jT ++ (wTw K jN aN RN.laws RN.kind RN.need RN.saved RN.voice RN.partner RN.speaks RN.count RN.day RN.heard RN.geese RN.z ++ (wTw K jT aT RT.laws RT.kind RT.need RT.saved RT.voice RT.partner RT.speaks RT.count RT.day RT.heard RT.geese RT.z))))) (w1 := []) (w2 := (wHT K jX jN kX_kept jT jS kX_pairings kX_tape kX_telling kX_dayRows kX_deed kX_sheets kX_shelvedPerson kX_shelvedRow RX.anythingKept ++ (wTr K jS jN jT ++ (wTw K jN aN RN.laws RN.kind RN.need RN.saved RN.voice RN.partner RN.speaks RN.count RN.day RN.heard RN.geese RN.z ++ (wTw K jT aT RT.laws RT.kind RT.need RT.saved RT.voice RT.partner RT.speaks RT.count RT.day RT.heard RT.geese RT.z))))) hF (ctX8_within l D K p1 (1 : Int32) (20 : Int32) o_3 ho_3 H.size) (va_cwS 3 hts gX8_partnerFor_X8_within rfl rfl rfl hdX8_within ⟨Nat.le_of_ble_eq_true rfl, Nat.le_of_ble_eq_true rfl⟩) hK hP hD hS hA [] [0, 1, 2, 3, 4, 5, 6, 7, 8, 9, 10, 11, 12, 13, 14, 15, 16, 17] rfl rfl (by decide) (by decide) (by decide) [0, 1, 2, 3, 4, 5, 6, 7, 8, 9, 10, 11, 12, 13, 14, 15, 16, 17] rfl (by decide) rfl hl.1 rfl (Nat.le_of_ble_eq_true rfl) dX8_partnerFor_15 ⟨Nat.zero_le _, Nat.zero_le _⟩ (fun H locs hP hD hS => ?_)
    refine lv_if_ne (tgt := 23) hx hb dX8_partnerFor_18 (by decide) (fun c_4 => ?_) (fun c_4 => ?_)
    · replace hf := ht_f c_4 hf
      refine lv_aload_n hx hb dX8_partnerFor_23 rfl (lv_at hl 0 rfl) ?_
      refine va_get (D := D) (ci := 8) (v := .ref jS) (C := RX8) (T := TX8) (N := 13) hx hb hts iw8 hown hK hP 0 rfl rfl 3 (by decide) kw2 (fun _ h9 => h9) rfl dX8_partnerFor_24 ?_
      refine lv_iload_n hx hb dX8_partnerFor_27 rfl (lv_at hl 1 rfl) ?_
      refine lv_iload_n hx hb dX8_partnerFor_28 rfl (lv_at hl 2 rfl) ?_
      obtain ⟨o_5, ho_5, hf⟩ := ht_bn_ob hf
      refine ht_callVi (r := o_5.1) (rest := []) (As := [.int p0, .int p1]) (wc := (wTr K jS jN jT ++ (wTw K jN aN RN.laws RN.kind RN.need RN.saved RN.voice RN.partner RN.speaks RN.count RN.day RN.heard RN.geese RN.z ++ (wTw K jT aT RT.laws RT.kind RT.need RT.saved RT.voice RT.partner RT.speaks RT.count RT.day RT.heard RT.geese RT.z)))) (wr := (wHT K jX jN kX_kept jT jS kX_pairings kX_tape kX_telling kX_dayRows kX_deed kX_sheets kX_shelvedPerson kX_shelvedRow RX.anythingKept)) (w1 := (wTr K jS jN jT ++ (wTw K jN aN RN.laws RN.kind RN.need RN.saved RN.voice RN.partner RN.speaks RN.count RN.day RN.heard RN.geese RN.z ++ (wTw K jT aT o_5.2.1 o_5.2.2.1 o_5.2.2.2.1 o_5.2.2.2.2.1 o_5.2.2.2.2.2.1 o_5.2.2.2.2.2.2.1 o_5.2.2.2.2.2.2.2.1 o_5.2.2.2.2.2.2.2.2.1 o_5.2.2.2.2.2.2.2.2.2.1 o_5.2.2.2.2.2.2.2.2.2.2.1 o_5.2.2.2.2.2.2.2.2.2.2.2.1 o_5.2.2.2.2.2.2.2.2.2.2.2.2)))) (w2 := (wHT K jX jN kX_kept jT jS kX_pairings kX_tape kX_telling kX_dayRows kX_deed kX_sheets kX_shelvedPerson kX_shelvedRow RX.anythingKept ++ (wTr K jS jN jT ++ (wTw K jN aN RN.laws RN.kind RN.need RN.saved RN.voice RN.partner RN.speaks RN.count RN.day RN.heard RN.geese RN.z ++ (wTw K jT aT o_5.2.1 o_5.2.2.1 o_5.2.2.2.1 o_5.2.2.2.2.1 o_5.2.2.2.2.2.1 o_5.2.2.2.2.2.2.1 o_5.2.2.2.2.2.2.2.1 o_5.2.2.2.2.2.2.2.2.1 o_5.2.2.2.2.2.2.2.2.2.1 o_5.2.2.2.2.2.2.2.2.2.2.1 o_5.2.2.2.2.2.2.2.2.2.2.2.1 o_5.2.2.2.2.2.2.2.2.2.2.2.2))))) hF (ctX7_loudestPartner l D K jS jN aN jT aT RN RT p0 p1 o_5 ho_5 H.size) (cwV 2 hts gX8_partnerFor_X7_loudestPartner rfl rfl rfl hdX7_loudestPartner ⟨Nat.le_of_ble_eq_true rfl, Nat.le_of_ble_eq_true rfl⟩) hK hP hD hS hA [1, 2, 3, 4, 5, 6, 7, 8, 9, 10, 11, 12, 13, 14, 15, 16, 17] [0] rfl rfl (by decide) (by decide) (by decide) [0, 1, 2, 3, 4, 5, 6, 7, 8, 9, 10, 11, 12, 13, 14, 15, 16, 17] rfl (by decide) (va_recv hK hP (ci := 7) (q0 := 1) rfl rfl) rfl hl.1 rfl (Nat.le_of_ble_eq_true rfl) dX8_partnerFor_29 ⟨Nat.zero_le _, Nat.zero_le _⟩ (fun H locs hP hD hS => ?_)
      have ho := Option.some.inj hf
      subst ho; subst hQ
      exact ht_iret hx hb hr hlk rfl hK hP hD hS dX8_partnerFor_32
    · replace hf := ht_t c_4 hf
      refine lv_iconst (v := -1) hx hb dX8_partnerFor_21 (by decide) ?_
      have ho := Option.some.inj hf
      subst ho; subst hQ
      exact ht_iret hx hb hr hlk rfl hK hP hD hS dX8_partnerFor_22
abbrev rmX8_kindFor : Room := { frames := 6, cells := 0, slots := 0, locals := 138 }
theorem hdX8_kindFor : yX8_kindFor.cls = RX8 ∧ yX8_kindFor.cls ≠ "java/lang/invoke/MethodHandle" ∧ yX8_kindFor.cls ≠ "java/lang/invoke/VarHandle" ∧ (parseMethodDescriptor yX8_kindFor.desc).map (fun d => d.parameters.length) = some 2 := by decide +kernel
def fX8_kindFor (RX : HTV) (RN : TownV) (RT : TownV) (p0 : Int32) (p1 : Int32) : Option (Int32 × AI × AI × AI × AI × AI × AI × AI × Int32 × Int32 × Int32 × Int32 × Int32) := ht_bn (fX6_has RN p0) (fun o_1 => if o_1 = 0 then (some ((-1 : Int32), RT.laws, RT.kind, RT.need, RT.saved, RT.voice, RT.partner, RT.speaks, RT.count, RT.day, RT.heard, RT.geese, RT.z)) else (ht_bn (fX8_within p1 (1 : Int32) (20 : Int32)) (fun o_3 => if o_3 = 0 then (some ((-1 : Int32), RT.laws, RT.kind, RT.need, RT.saved, RT.voice, RT.partner, RT.speaks, RT.count, RT.day, RT.heard, RT.geese, RT.z)) else (ht_bn (fX7_loudestKind RN RT p0 p1) (fun o_5 => some (o_5.1, o_5.2.1, o_5.2.2.1, o_5.2.2.2.1, o_5.2.2.2.2.1, o_5.2.2.2.2.2.1, o_5.2.2.2.2.2.2.1, o_5.2.2.2.2.2.2.2.1, o_5.2.2.2.2.2.2.2.2.1, o_5.2.2.2.2.2.2.2.2.2.1, o_5.2.2.2.2.2.2.2.2.2.2.1, o_5.2.2.2.2.2.2.2.2.2.2.2.1, o_5.2.2.2.2.2.2.2.2.2.2.2.2))))))
set_option maxHeartbeats 1000000 in
set_option maxRecDepth 100000 in
theorem ctX8_kindFor (l : Launch) (D : va_G) (K : Nat → ClassId) (jX : Nat) (jS : Nat) (jN : Nat) (aN : Nat → Nat) (jT : Nat) (aT : Nat → Nat) (kX_kept : Nat) (kX_pairings : Nat) (kX_tape : Nat) (kX_telling : Nat) (kX_dayRows : Nat) (kX_deed : Nat) (kX_sheets : Nat) (kX_shelvedPerson : Nat) (kX_shelvedRow : Nat) (RX : HTV) (RN : TownV) (RT : TownV) (p0 : Int32) (p1 : Int32) (o : (Int32 × AI × AI × AI × AI × AI × AI × AI × Int32 × Int32 × Int32 × Int32 × Int32)) (hf : fX8_kindFor RX RN RT p0 p1 = some o) (sz : Nat) : Met l yX8_kindFor wsX8_kindFor rmX8_kindFor (ht_Pre D K [.ref jX, .int p0, .int p1] (wHT K jX jN kX_kept jT jS kX_pairings kX_tape kX_telling kX_dayRows kX_deed kX_sheets kX_shelvedPerson kX_shelvedRow RX.anythingKept ++ (wTr K jS jN jT ++ (wTw K jN aN RN.laws RN.kind RN.need RN.saved RN.voice RN.partner RN.speaks RN.count RN.day RN.heard RN.geese RN.z ++ (wTw K jT aT RT.laws RT.kind RT.need RT.saved RT.voice RT.partner RT.speaks RT.count RT.day RT.heard RT.geese RT.z)))) sz) (ht_Qi D K (wHT K jX jN kX_kept jT jS kX_pairings kX_tape kX_telling kX_dayRows kX_deed kX_sheets kX_shelvedPerson kX_shelvedRow RX.anythingKept ++ (wTr K jS jN jT ++ (wTw K jN aN RN.laws RN.kind RN.need RN.saved RN.voice RN.partner RN.speaks RN.count RN.day RN.heard RN.geese RN.z ++ (wTw K jT aT o.2.1 o.2.2.1 o.2.2.2.1 o.2.2.2.2.1 o.2.2.2.2.2.1 o.2.2.2.2.2.2.1 o.2.2.2.2.2.2.2.1 o.2.2.2.2.2.2.2.2.1 o.2.2.2.2.2.2.2.2.2.1 o.2.2.2.2.2.2.2.2.2.2.1 o.2.2.2.2.2.2.2.2.2.2.2.1 o.2.2.2.2.2.2.2.2.2.2.2.2)))) o.1 (va_A (wHT K jX jN kX_kept jT jS kX_pairings kX_tape kX_telling kX_dayRows kX_deed kX_sheets kX_shelvedPerson kX_shelvedRow RX.anythingKept ++ (wTr K jS jN jT ++ (wTw K jN aN RN.laws RN.kind RN.need RN.saved RN.voice RN.partner RN.speaks RN.count RN.day RN.heard RN.geese RN.z ++ (wTw K jT aT RT.laws RT.kind RT.need RT.saved RT.voice RT.partner RT.speaks RT.count RT.day RT.heard RT.geese RT.z)))) sz)) 0 0 (va_A (wHT K jX jN kX_kept jT jS kX_pairings kX_tape kX_telling kX_dayRows kX_deed kX_sheets kX_shelvedPerson kX_shelvedRow RX.anythingKept ++ (wTr K jS jN jT ++ (wTw K jN aN RN.laws RN.kind RN.need RN.saved RN.voice RN.partner RN.speaks RN.count RN.day RN.heard RN.geese RN.z ++ (wTw K jT aT RT.laws RT.kind RT.need RT.saved RT.voice RT.partner RT.speaks RT.count RT.day RT.heard RT.geese RT.z)))) sz) := by
  refine ht_enter (Qf := ht_Qi D K (wHT K jX jN kX_kept jT jS kX_pairings kX_tape kX_telling kX_dayRows kX_deed kX_sheets kX_shelvedPerson kX_shelvedRow RX.anythingKept ++ (wTr K jS jN jT ++ (wTw K jN aN RN.laws RN.kind RN.need RN.saved RN.voice RN.partner RN.speaks RN.count RN.day RN.heard RN.geese RN.z ++ (wTw K jT aT o.2.1 o.2.2.1 o.2.2.2.1 o.2.2.2.2.1 o.2.2.2.2.2.1 o.2.2.2.2.2.2.1 o.2.2.2.2.2.2.2.1 o.2.2.2.2.2.2.2.2.1 o.2.2.2.2.2.2.2.2.2.1 o.2.2.2.2.2.2.2.2.2.2.1 o.2.2.2.2.2.2.2.2.2.2.2.1 o.2.2.2.2.2.2.2.2.2.2.2.2)))) o.1) (cc := cX8_kindFor) (maxL := 3) (rt := (some .int)) (by decide) rfl (Nat.le_of_ble_eq_true rfl) ?_ sz
  intro p e s m below meth c A Q H locs ls hQ hx hb hr hlk hmn hml hown hts hA hK hP hD hS hl
  have hown : s.vm.findClass RX8 = some m.cls := hown
  have hF : CallFix p m c cX8_kindFor 3 s ([.ref jX, .int p0, .int p1] : List Value).toArray wsX8_kindFor RX8 := ⟨hx, hb, hml, hown, hts⟩
  have hl : lv_has ls 3 [(0, .ref jX), (1, .int p0), (2, .int p1)] := hl
  have iw8 : ∀ w ∈ u_ws RX8 TX8 13, w ∈ wsX8_kindFor := by decide +kernel
  have kw1 := hts (.fieldLink RX8 10 "HeldTongues" "now" "LHeldTongues$Town;") (by decide +kernel)
  have kw2 := hts (.fieldLink RX8 27 "HeldTongues" "trials" "LHeldTongues$Trials;") (by decide +kernel)
  delta fX8_kindFor at hf
  refine lv_aload_n hx hb dX8_kindFor_0 rfl (lv_at hl 0 rfl) ?_
  refine va_get (D := D) (ci := 8) (v := .ref jN) (C := RX8) (T := TX8) (N := 13) hx hb hts iw8 hown hK hP 0 rfl rfl 0 (by decide) kw1 (fun _ h9 => h9) rfl dX8_kindFor_1 ?_
  refine lv_iload_n hx hb dX8_kindFor_4 rfl (lv_at hl 1 rfl) ?_
  obtain ⟨o_1, ho_1, hf⟩ := ht_bn_ob hf
  refine ht_callVi (r := o_1) (rest := []) (As := [.int p0]) (wc := (wTw K jN aN RN.laws RN.kind RN.need RN.saved RN.voice RN.partner RN.speaks RN.count RN.day RN.heard RN.geese RN.z)) (wr := (wHT K jX jN kX_kept jT jS kX_pairings kX_tape kX_telling kX_dayRows kX_deed kX_sheets kX_shelvedPerson kX_shelvedRow RX.anythingKept ++ (wTr K jS jN jT ++ (wTw K jT aT RT.laws RT.kind RT.need RT.saved RT.voice RT.partner RT.speaks RT.count RT.day RT.heard RT.geese RT.z)))) (w1 := (wTw K jN aN RN.laws RN.kind RN.need RN.saved RN.voice RN.partner RN.speaks RN.count RN.day RN.heard RN.geese RN.z)) (w2 := (wHT K jX jN kX_kept jT jS kX_pairings kX_tape kX_telling kX_dayRows kX_deed kX_sheets kX_shelvedPerson kX_shelvedRow RX.anythingKept ++ (wTr K jS jN jT ++ (wTw K jN aN RN.laws RN.kind RN.need RN.saved RN.voice RN.partner RN.speaks RN.count RN.day RN.heard RN.geese RN.z ++ (wTw K jT aT RT.laws RT.kind RT.need RT.saved RT.voice RT.partner RT.speaks RT.count RT.day RT.heard RT.geese RT.z))))) hF (ctX6_has l D K jN aN RN p0 o_1 ho_1 H.size) (cwV 1 hts gX8_kindFor_X6_has rfl rfl rfl hdX6_has ⟨Nat.le_of_ble_eq_true rfl, Nat.le_of_ble_eq_true rfl⟩) hK hP hD hS hA [2, 3, 4, 5, 6, 7, 8, 9] [0, 1, 10, 11, 12, 13, 14, 15, 16, 17] rfl rfl (by decide) (by decide) (by decide) [0, 1, 10, 11, 12, 13, 14, 15, 16, 17, 2, 3, 4, 5, 6, 7, 8, 9] rfl (by decide) (va_recv hK hP (ci := 6) (q0 := 2) rfl rfl) rfl hl.1 rfl (Nat.le_of_ble_eq_true rfl) dX8_kindFor_5 ⟨Nat.zero_le _, Nat.zero_le _⟩ (fun H locs hP hD hS => ?_)
  refine lv_if_eq (tgt := 21) hx hb dX8_kindFor_8 (by decide) (fun c_2 => ?_) (fun c_2 => ?_)
  · replace hf := ht_t c_2 hf
    refine lv_iconst (v := -1) hx hb dX8_kindFor_21 (by decide) ?_
    have ho := Option.some.inj hf
    subst ho; subst hQ
    exact ht_iret hx hb hr hlk rfl hK hP hD hS dX8_kindFor_22
  · replace hf := ht_f c_2 hf
    refine lv_iload_n hx hb dX8_kindFor_11 rfl (lv_at hl 2 rfl) ?_
    refine lv_iconst (v := 1) hx hb dX8_kindFor_12 (by decide) ?_
    refine lv_bipush (v := 20) hx hb dX8_kindFor_13 (by decide) ?_
    obtain ⟨o_3, ho_3, hf⟩ := ht_bn_ob hf
    refine ht_callSi (r := o_3) (rest := []) (As := [.int p1, .int (1 : Int32), .int (20 : Int32)]) (wc := []) (wr := (wHT K jX jN kX_kept jT jS kX_pairings kX_tape kX_telling kX_dayRows kX_deed kX_sheets kX_shelvedPerson kX_shelvedRow RX.anythingKept ++ (wTr K jS jN jT ++ (wTw K jN aN RN.laws RN.kind RN.need RN.saved RN.voice RN.partner RN.speaks RN.count RN.day RN.heard RN.geese RN.z ++ (wTw K jT aT RT.laws RT.kind RT.need RT.saved RT.voice RT.partner RT.speaks RT.count RT.day RT.heard RT.geese RT.z))))) (w1 := []) (w2 := (wHT K jX jN kX_kept jT jS kX_pairings kX_tape kX_telling kX_dayRows kX_deed kX_sheets kX_shelvedPerson kX_shelvedRow RX.anythingKept ++ (wTr K jS jN jT ++ (wTw K jN aN RN.laws RN.kind RN.need RN.saved RN.voice RN.partner RN.speaks RN.count RN.day RN.heard RN.geese RN.z ++ (wTw K jT aT RT.laws RT.kind RT.need RT.saved RT.voice RT.partner RT.speaks RT.count RT.day RT.heard RT.geese RT.z))))) hF (ctX8_within l D K p1 (1 : Int32) (20 : Int32) o_3 ho_3 H.size) (va_cwS 3 hts gX8_kindFor_X8_within rfl rfl rfl hdX8_within ⟨Nat.le_of_ble_eq_true rfl, Nat.le_of_ble_eq_true rfl⟩) hK hP hD hS hA [] [0, 1, 2, 3, 4, 5, 6, 7, 8, 9, 10, 11, 12, 13, 14, 15, 16, 17] rfl rfl (by decide) (by decide) (by decide) [0, 1, 2, 3, 4, 5, 6, 7, 8, 9, 10, 11, 12, 13, 14, 15, 16, 17] rfl (by decide) rfl hl.1 rfl (Nat.le_of_ble_eq_true rfl) dX8_kindFor_15 ⟨Nat.zero_le _, Nat.zero_le _⟩ (fun H locs hP hD hS => ?_)
    refine lv_if_ne (tgt := 23) hx hb dX8_kindFor_18 (by decide) (fun c_4 => ?_) (fun c_4 => ?_)
    · replace hf := ht_f c_4 hf
      refine lv_aload_n hx hb dX8_kindFor_23 rfl (lv_at hl 0 rfl) ?_
      refine va_get (D := D) (ci := 8) (v := .ref jS) (C := RX8) (T := TX8) (N := 13) hx hb hts iw8 hown hK hP 0 rfl rfl 3 (by decide) kw2 (fun _ h9 => h9) rfl dX8_kindFor_24 ?_
      refine lv_iload_n hx hb dX8_kindFor_27 rfl (lv_at hl 1 rfl) ?_
      refine lv_iload_n hx hb dX8_kindFor_28 rfl (lv_at hl 2 rfl) ?_
      obtain ⟨o_5, ho_5, hf⟩ := ht_bn_ob hf
      refine ht_callVi (r := o_5.1) (rest := []) (As := [.int p0, .int p1]) (wc := (wTr K jS jN jT ++ (wTw K jN aN RN.laws RN.kind RN.need RN.saved RN.voice RN.partner RN.speaks RN.count RN.day RN.heard RN.geese RN.z ++ (wTw K jT aT RT.laws RT.kind RT.need RT.saved RT.voice RT.partner RT.speaks RT.count RT.day RT.heard RT.geese RT.z)))) (wr := (wHT K jX jN kX_kept jT jS kX_pairings kX_tape kX_telling kX_dayRows kX_deed kX_sheets kX_shelvedPerson kX_shelvedRow RX.anythingKept)) (w1 := (wTr K jS jN jT ++ (wTw K jN aN RN.laws RN.kind RN.need RN.saved RN.voice RN.partner RN.speaks RN.count RN.day RN.heard RN.geese RN.z ++ (wTw K jT aT o_5.2.1 o_5.2.2.1 o_5.2.2.2.1 o_5.2.2.2.2.1 o_5.2.2.2.2.2.1 o_5.2.2.2.2.2.2.1 o_5.2.2.2.2.2.2.2.1 o_5.2.2.2.2.2.2.2.2.1 o_5.2.2.2.2.2.2.2.2.2.1 o_5.2.2.2.2.2.2.2.2.2.2.1 o_5.2.2.2.2.2.2.2.2.2.2.2.1 o_5.2.2.2.2.2.2.2.2.2.2.2.2)))) (w2 := (wHT K jX jN kX_kept jT jS kX_pairings kX_tape kX_telling kX_dayRows kX_deed kX_sheets kX_shelvedPerson kX_shelvedRow RX.anythingKept ++ (wTr K jS jN jT ++ (wTw K jN aN RN.laws RN.kind RN.need RN.saved RN.voice RN.partner RN.speaks RN.count RN.day RN.heard RN.geese RN.z ++ (wTw K jT aT o_5.2.1 o_5.2.2.1 o_5.2.2.2.1 o_5.2.2.2.2.1 o_5.2.2.2.2.2.1 o_5.2.2.2.2.2.2.1 o_5.2.2.2.2.2.2.2.1 o_5.2.2.2.2.2.2.2.2.1 o_5.2.2.2.2.2.2.2.2.2.1 o_5.2.2.2.2.2.2.2.2.2.2.1 o_5.2.2.2.2.2.2.2.2.2.2.2.1 o_5.2.2.2.2.2.2.2.2.2.2.2.2))))) hF (ctX7_loudestKind l D K jS jN aN jT aT RN RT p0 p1 o_5 ho_5 H.size) (cwV 2 hts gX8_kindFor_X7_loudestKind rfl rfl rfl hdX7_loudestKind ⟨Nat.le_of_ble_eq_true rfl, Nat.le_of_ble_eq_true rfl⟩) hK hP hD hS hA [1, 2, 3, 4, 5, 6, 7, 8, 9, 10, 11, 12, 13, 14, 15, 16, 17] [0] rfl rfl (by decide) (by decide) (by decide) [0, 1, 2, 3, 4, 5, 6, 7, 8, 9, 10, 11, 12, 13, 14, 15, 16, 17] rfl (by decide) (va_recv hK hP (ci := 7) (q0 := 1) rfl rfl) rfl hl.1 rfl (Nat.le_of_ble_eq_true rfl) dX8_kindFor_29 ⟨Nat.zero_le _, Nat.zero_le _⟩ (fun H locs hP hD hS => ?_)
      have ho := Option.some.inj hf
      subst ho; subst hQ
      exact ht_iret hx hb hr hlk rfl hK hP hD hS dX8_kindFor_32
    · replace hf := ht_t c_4 hf
      refine lv_iconst (v := -1) hx hb dX8_kindFor_21 (by decide) ?_
      have ho := Option.some.inj hf
      subst ho; subst hQ
      exact ht_iret hx hb hr hlk rfl hK hP hD hS dX8_kindFor_22
abbrev rmX8_voiceFor : Room := { frames := 6, cells := 0, slots := 0, locals := 136 }
theorem hdX8_voiceFor : yX8_voiceFor.cls = RX8 ∧ yX8_voiceFor.cls ≠ "java/lang/invoke/MethodHandle" ∧ yX8_voiceFor.cls ≠ "java/lang/invoke/VarHandle" ∧ (parseMethodDescriptor yX8_voiceFor.desc).map (fun d => d.parameters.length) = some 3 := by decide +kernel
def fX8_voiceFor (RX : HTV) (RN : TownV) (RT : TownV) (p0 : Int32) (p1 : Int32) (p2 : Int32) : Option (Int32 × AI × AI × AI × AI × AI × AI × AI × Int32 × Int32 × Int32 × Int32 × Int32) := ht_bn (fX6_has RN p0) (fun o_1 => if o_1 = 0 then (some ((-1 : Int32), RT.laws, RT.kind, RT.need, RT.saved, RT.voice, RT.partner, RT.speaks, RT.count, RT.day, RT.heard, RT.geese, RT.z)) else (ht_bn (fX8_within p1 (1 : Int32) (20 : Int32)) (fun o_3 => if o_3 = 0 then (some ((-1 : Int32), RT.laws, RT.kind, RT.need, RT.saved, RT.voice, RT.partner, RT.speaks, RT.count, RT.day, RT.heard, RT.geese, RT.z)) else (ht_bn (fX8_within p2 (0 : Int32) (9999 : Int32)) (fun o_5 => if o_5 = 0 then (some ((-1 : Int32), RT.laws, RT.kind, RT.need, RT.saved, RT.voice, RT.partner, RT.speaks, RT.count, RT.day, RT.heard, RT.geese, RT.z)) else (ht_bn (fX7_leastVoice RN RT p0 p1 p2) (fun o_7 => some (o_7.1, o_7.2.1, o_7.2.2.1, o_7.2.2.2.1, o_7.2.2.2.2.1, o_7.2.2.2.2.2.1, o_7.2.2.2.2.2.2.1, o_7.2.2.2.2.2.2.2.1, o_7.2.2.2.2.2.2.2.2.1, o_7.2.2.2.2.2.2.2.2.2.1, o_7.2.2.2.2.2.2.2.2.2.2.1, o_7.2.2.2.2.2.2.2.2.2.2.2.1, o_7.2.2.2.2.2.2.2.2.2.2.2.2))))))))
set_option maxHeartbeats 1000000 in
set_option maxRecDepth 100000 in
theorem ctX8_voiceFor (l : Launch) (D : va_G) (K : Nat → ClassId) (jX : Nat) (jS : Nat) (jN : Nat) (aN : Nat → Nat) (jT : Nat) (aT : Nat → Nat) (kX_kept : Nat) (kX_pairings : Nat) (kX_tape : Nat) (kX_telling : Nat) (kX_dayRows : Nat) (kX_deed : Nat) (kX_sheets : Nat) (kX_shelvedPerson : Nat) (kX_shelvedRow : Nat) (RX : HTV) (RN : TownV) (RT : TownV) (p0 : Int32) (p1 : Int32) (p2 : Int32) (o : (Int32 × AI × AI × AI × AI × AI × AI × AI × Int32 × Int32 × Int32 × Int32 × Int32)) (hf : fX8_voiceFor RX RN RT p0 p1 p2 = some o) (sz : Nat) : Met l yX8_voiceFor wsX8_voiceFor rmX8_voiceFor (ht_Pre D K [.ref jX, .int p0, .int p1, .int p2] (wHT K jX jN kX_kept jT jS kX_pairings kX_tape kX_telling kX_dayRows kX_deed kX_sheets kX_shelvedPerson kX_shelvedRow RX.anythingKept ++ (wTr K jS jN jT ++ (wTw K jN aN RN.laws RN.kind RN.need RN.saved RN.voice RN.partner RN.speaks RN.count RN.day RN.heard RN.geese RN.z ++ (wTw K jT aT RT.laws RT.kind RT.need RT.saved RT.voice RT.partner RT.speaks RT.count RT.day RT.heard RT.geese RT.z)))) sz) (ht_Qi D K (wHT K jX jN kX_kept jT jS kX_pairings kX_tape kX_telling kX_dayRows kX_deed kX_sheets kX_shelvedPerson kX_shelvedRow RX.anythingKept ++ (wTr K jS jN jT ++ (wTw K jN aN RN.laws RN.kind RN.need RN.saved RN.voice RN.partner RN.speaks RN.count RN.day RN.heard RN.geese RN.z ++ (wTw K jT aT o.2.1 o.2.2.1 o.2.2.2.1 o.2.2.2.2.1 o.2.2.2.2.2.1 o.2.2.2.2.2.2.1 o.2.2.2.2.2.2.2.1 o.2.2.2.2.2.2.2.2.1 o.2.2.2.2.2.2.2.2.2.1 o.2.2.2.2.2.2.2.2.2.2.1 o.2.2.2.2.2.2.2.2.2.2.2.1 o.2.2.2.2.2.2.2.2.2.2.2.2)))) o.1 (va_A (wHT K jX jN kX_kept jT jS kX_pairings kX_tape kX_telling kX_dayRows kX_deed kX_sheets kX_shelvedPerson kX_shelvedRow RX.anythingKept ++ (wTr K jS jN jT ++ (wTw K jN aN RN.laws RN.kind RN.need RN.saved RN.voice RN.partner RN.speaks RN.count RN.day RN.heard RN.geese RN.z ++ (wTw K jT aT RT.laws RT.kind RT.need RT.saved RT.voice RT.partner RT.speaks RT.count RT.day RT.heard RT.geese RT.z)))) sz)) 0 0 (va_A (wHT K jX jN kX_kept jT jS kX_pairings kX_tape kX_telling kX_dayRows kX_deed kX_sheets kX_shelvedPerson kX_shelvedRow RX.anythingKept ++ (wTr K jS jN jT ++ (wTw K jN aN RN.laws RN.kind RN.need RN.saved RN.voice RN.partner RN.speaks RN.count RN.day RN.heard RN.geese RN.z ++ (wTw K jT aT RT.laws RT.kind RT.need RT.saved RT.voice RT.partner RT.speaks RT.count RT.day RT.heard RT.geese RT.z)))) sz) := by
  refine ht_enter (Qf := ht_Qi D K (wHT K jX jN kX_kept jT jS kX_pairings kX_tape kX_telling kX_dayRows kX_deed kX_sheets kX_shelvedPerson kX_shelvedRow RX.anythingKept ++ (wTr K jS jN jT ++ (wTw K jN aN RN.laws RN.kind RN.need RN.saved RN.voice RN.partner RN.speaks RN.count RN.day RN.heard RN.geese RN.z ++ (wTw K jT aT o.2.1 o.2.2.1 o.2.2.2.1 o.2.2.2.2.1 o.2.2.2.2.2.1 o.2.2.2.2.2.2.1 o.2.2.2.2.2.2.2.1 o.2.2.2.2.2.2.2.2.1 o.2.2.2.2.2.2.2.2.2.1 o.2.2.2.2.2.2.2.2.2.2.1 o.2.2.2.2.2.2.2.2.2.2.2.1 o.2.2.2.2.2.2.2.2.2.2.2.2)))) o.1) (cc := cX8_voiceFor) (maxL := 4) (rt := (some .int)) (by decide) rfl (Nat.le_of_ble_eq_true rfl) ?_ sz
  intro p e s m below meth c A Q H locs ls hQ hx hb hr hlk hmn hml hown hts hA hK hP hD hS hl
  have hown : s.vm.findClass RX8 = some m.cls := hown
  have hF : CallFix p m c cX8_voiceFor 4 s ([.ref jX, .int p0, .int p1, .int p2] : List Value).toArray wsX8_voiceFor RX8 := ⟨hx, hb, hml, hown, hts⟩
  have hl : lv_has ls 4 [(0, .ref jX), (1, .int p0), (2, .int p1), (3, .int p2)] := hl
  have iw8 : ∀ w ∈ u_ws RX8 TX8 13, w ∈ wsX8_voiceFor := by decide +kernel
  have kw1 := hts (.fieldLink RX8 10 "HeldTongues" "now" "LHeldTongues$Town;") (by decide +kernel)
  have kw2 := hts (.fieldLink RX8 27 "HeldTongues" "trials" "LHeldTongues$Trials;") (by decide +kernel)
  delta fX8_voiceFor at hf
  refine lv_aload_n hx hb dX8_voiceFor_0 rfl (lv_at hl 0 rfl) ?_
  refine va_get (D := D) (ci := 8) (v := .ref jN) (C := RX8) (T := TX8) (N := 13) hx hb hts iw8 hown hK hP 0 rfl rfl 0 (by decide) kw1 (fun _ h9 => h9) rfl dX8_voiceFor_1 ?_
  refine lv_iload_n hx hb dX8_voiceFor_4 rfl (lv_at hl 1 rfl) ?_
  obtain ⟨o_1, ho_1, hf⟩ := ht_bn_ob hf
  refine ht_callVi (r := o_1) (rest := []) (As := [.int p0]) (wc := (wTw K jN aN RN.laws RN.kind RN.need RN.saved RN.voice RN.partner RN.speaks RN.count RN.day RN.heard RN.geese RN.z)) (wr := (wHT K jX jN kX_kept jT jS kX_pairings kX_tape kX_telling kX_dayRows kX_deed kX_sheets kX_shelvedPerson kX_shelvedRow RX.anythingKept ++ (wTr K jS jN jT ++ (wTw K jT aT RT.laws RT.kind RT.need RT.saved RT.voice RT.partner RT.speaks RT.count RT.day RT.heard RT.geese RT.z)))) (w1 := (wTw K jN aN RN.laws RN.kind RN.need RN.saved RN.voice RN.partner RN.speaks RN.count RN.day RN.heard RN.geese RN.z)) (w2 := (wHT K jX jN kX_kept jT jS kX_pairings kX_tape kX_telling kX_dayRows kX_deed kX_sheets kX_shelvedPerson kX_shelvedRow RX.anythingKept ++ (wTr K jS jN jT ++ (wTw K jN aN RN.laws RN.kind RN.need RN.saved RN.voice RN.partner RN.speaks RN.count RN.day RN.heard RN.geese RN.z ++ (wTw K jT aT RT.laws RT.kind RT.need RT.saved RT.voice RT.partner RT.speaks RT.count RT.day RT.heard RT.geese RT.z))))) hF (ctX6_has l D K jN aN RN p0 o_1 ho_1 H.size) (cwV 1 hts gX8_voiceFor_X6_has rfl rfl rfl hdX6_has ⟨Nat.le_of_ble_eq_true rfl, Nat.le_of_ble_eq_true rfl⟩) hK hP hD hS hA [2, 3, 4, 5, 6, 7, 8, 9] [0, 1, 10, 11, 12, 13, 14, 15, 16, 17] rfl rfl (by decide) (by decide) (by decide) [0, 1, 10, 11, 12, 13, 14, 15, 16, 17, 2, 3, 4, 5, 6, 7, 8, 9] rfl (by decide) (va_recv hK hP (ci := 6) (q0 := 2) rfl rfl) rfl hl.1 rfl (Nat.le_of_ble_eq_true rfl) dX8_voiceFor_5 ⟨Nat.zero_le _, Nat.zero_le _⟩ (fun H locs hP hD hS => ?_)
  refine lv_if_eq (tgt := 32) hx hb dX8_voiceFor_8 (by decide) (fun c_2 => ?_) (fun c_2 => ?_)
  · replace hf := ht_t c_2 hf
    refine lv_iconst (v := -1) hx hb dX8_voiceFor_32 (by decide) ?_
    have ho := Option.some.inj hf
    subst ho; subst hQ
    exact ht_iret hx hb hr hlk rfl hK hP hD hS dX8_voiceFor_33
  · replace hf := ht_f c_2 hf
    refine lv_iload_n hx hb dX8_voiceFor_11 rfl (lv_at hl 2 rfl) ?_
    refine lv_iconst (v := 1) hx hb dX8_voiceFor_12 (by decide) ?_
    refine lv_bipush (v := 20) hx hb dX8_voiceFor_13 (by decide) ?_
    obtain ⟨o_3, ho_3, hf⟩ := ht_bn_ob hf
    refine ht_callSi (r := o_3) (rest := []) (As := [.int p1, .int (1 : Int32), .int (20 : Int32)]) (wc := []) (wr := (wHT K jX jN kX_kept jT jS kX_pairings kX_tape kX_telling kX_dayRows kX_deed kX_sheets kX_shelvedPerson kX_shelvedRow RX.anythingKept ++ (wTr K jS jN jT ++ (wTw K jN aN RN.laws RN.kind RN.need RN.saved RN.voice RN.partner RN.speaks RN.count RN.day RN.heard RN.geese RN.z ++ (wTw K jT aT RT.laws RT.kind RT.need RT.saved RT.voice RT.partner RT.speaks RT.count RT.day RT.heard RT.geese RT.z))))) (w1 := []) (w2 := (wHT K jX jN kX_kept jT jS kX_pairings kX_tape kX_telling kX_dayRows kX_deed kX_sheets kX_shelvedPerson kX_shelvedRow RX.anythingKept ++ (wTr K jS jN jT ++ (wTw K jN aN RN.laws RN.kind RN.need RN.saved RN.voice RN.partner RN.speaks RN.count RN.day RN.heard RN.geese RN.z ++ (wTw K jT aT RT.laws RT.kind RT.need RT.saved RT.voice RT.partner RT.speaks RT.count RT.day RT.heard RT.geese RT.z))))) hF (ctX8_within l D K p1 (1 : Int32) (20 : Int32) o_3 ho_3 H.size) (va_cwS 3 hts gX8_voiceFor_X8_within rfl rfl rfl hdX8_within ⟨Nat.le_of_ble_eq_true rfl, Nat.le_of_ble_eq_true rfl⟩) hK hP hD hS hA [] [0, 1, 2, 3, 4, 5, 6, 7, 8, 9, 10, 11, 12, 13, 14, 15, 16, 17] rfl rfl (by decide) (by decide) (by decide) [0, 1, 2, 3, 4, 5, 6, 7, 8, 9, 10, 11, 12, 13, 14, 15, 16, 17] rfl (by decide) rfl hl.1 rfl (Nat.le_of_ble_eq_true rfl) dX8_voiceFor_15 ⟨Nat.zero_le _, Nat.zero_le _⟩ (fun H locs hP hD hS => ?_)
    refine lv_if_eq (tgt := 32) hx hb dX8_voiceFor_18 (by decide) (fun c_4 => ?_) (fun c_4 => ?_)
    · replace hf := ht_t c_4 hf
      refine lv_iconst (v := -1) hx hb dX8_voiceFor_32 (by decide) ?_
      have ho := Option.some.inj hf
      subst ho; subst hQ
      exact ht_iret hx hb hr hlk rfl hK hP hD hS dX8_voiceFor_33
    · replace hf := ht_f c_4 hf
      refine lv_iload_n hx hb dX8_voiceFor_21 rfl (lv_at hl 3 rfl) ?_
      refine lv_iconst (v := 0) hx hb dX8_voiceFor_22 (by decide) ?_
      refine lv_sipush (v := 9999) hx hb dX8_voiceFor_23 (by decide) ?_
      obtain ⟨o_5, ho_5, hf⟩ := ht_bn_ob hf
      refine ht_callSi (r := o_5) (rest := []) (As := [.int p2, .int (0 : Int32), .int (9999 : Int32)]) (wc := []) (wr := (wHT K jX jN kX_kept jT jS kX_pairings kX_tape kX_telling kX_dayRows kX_deed kX_sheets kX_shelvedPerson kX_shelvedRow RX.anythingKept ++ (wTr K jS jN jT ++ (wTw K jN aN RN.laws RN.kind RN.need RN.saved RN.voice RN.partner RN.speaks RN.count RN.day RN.heard RN.geese RN.z ++ (wTw K jT aT RT.laws RT.kind RT.need RT.saved RT.voice RT.partner RT.speaks RT.count RT.day RT.heard RT.geese RT.z))))) (w1 := []) (w2 := (wHT K jX jN kX_kept jT jS kX_pairings kX_tape kX_telling kX_dayRows kX_deed kX_sheets kX_shelvedPerson kX_shelvedRow RX.anythingKept ++ (wTr K jS jN jT ++ (wTw K jN aN RN.laws RN.kind RN.need RN.saved RN.voice RN.partner RN.speaks RN.count RN.day RN.heard RN.geese RN.z ++ (wTw K jT aT RT.laws RT.kind RT.need RT.saved RT.voice RT.partner RT.speaks RT.count RT.day RT.heard RT.geese RT.z))))) hF (ctX8_within l D K p2 (0 : Int32) (9999 : Int32) o_5 ho_5 H.size) (va_cwS 3 hts gX8_voiceFor_X8_within rfl rfl rfl hdX8_within ⟨Nat.le_of_ble_eq_true rfl, Nat.le_of_ble_eq_true rfl⟩) hK hP hD hS hA [] [0, 1, 2, 3, 4, 5, 6, 7, 8, 9, 10, 11, 12, 13, 14, 15, 16, 17] rfl rfl (by decide) (by decide) (by decide) [0, 1, 2, 3, 4, 5, 6, 7, 8, 9, 10, 11, 12, 13, 14, 15, 16, 17] rfl (by decide) rfl hl.1 rfl (Nat.le_of_ble_eq_true rfl) dX8_voiceFor_26 ⟨Nat.zero_le _, Nat.zero_le _⟩ (fun H locs hP hD hS => ?_)
      refine lv_if_ne (tgt := 34) hx hb dX8_voiceFor_29 (by decide) (fun c_6 => ?_) (fun c_6 => ?_)
      · replace hf := ht_f c_6 hf
        refine lv_aload_n hx hb dX8_voiceFor_34 rfl (lv_at hl 0 rfl) ?_
        refine va_get (D := D) (ci := 8) (v := .ref jS) (C := RX8) (T := TX8) (N := 13) hx hb hts iw8 hown hK hP 0 rfl rfl 3 (by decide) kw2 (fun _ h9 => h9) rfl dX8_voiceFor_35 ?_
        refine lv_iload_n hx hb dX8_voiceFor_38 rfl (lv_at hl 1 rfl) ?_
        refine lv_iload_n hx hb dX8_voiceFor_39 rfl (lv_at hl 2 rfl) ?_
        refine lv_iload_n hx hb dX8_voiceFor_40 rfl (lv_at hl 3 rfl) ?_
        obtain ⟨o_7, ho_7, hf⟩ := ht_bn_ob hf
        refine ht_callVi (r := o_7.1) (rest := []) (As := [.int p0, .int p1, .int p2]) (wc := (wTr K jS jN jT ++ (wTw K jN aN RN.laws RN.kind RN.need RN.saved RN.voice RN.partner RN.speaks RN.count RN.day RN.heard RN.geese RN.z ++ (wTw K jT aT RT.laws RT.kind RT.need RT.saved RT.voice RT.partner RT.speaks RT.count RT.day RT.heard RT.geese RT.z)))) (wr := (wHT K jX jN kX_kept jT jS kX_pairings kX_tape kX_telling kX_dayRows kX_deed kX_sheets kX_shelvedPerson kX_shelvedRow RX.anythingKept)) (w1 := (wTr K jS jN jT ++ (wTw K jN aN RN.laws RN.kind RN.need RN.saved RN.voice RN.partner RN.speaks RN.count RN.day RN.heard RN.geese RN.z ++ (wTw K jT aT o_7.2.1 o_7.2.2.1 o_7.2.2.2.1 o_7.2.2.2.2.1 o_7.2.2.2.2.2.1 o_7.2.2.2.2.2.2.1 o_7.2.2.2.2.2.2.2.1 o_7.2.2.2.2.2.2.2.2.1 o_7.2.2.2.2.2.2.2.2.2.1 o_7.2.2.2.2.2.2.2.2.2.2.1 o_7.2.2.2.2.2.2.2.2.2.2.2.1 o_7.2.2.2.2.2.2.2.2.2.2.2.2)))) (w2 := (wHT K jX jN kX_kept jT jS kX_pairings kX_tape kX_telling kX_dayRows kX_deed kX_sheets kX_shelvedPerson kX_shelvedRow RX.anythingKept ++ (wTr K jS jN jT ++ (wTw K jN aN RN.laws RN.kind RN.need RN.saved RN.voice RN.partner RN.speaks RN.count RN.day RN.heard RN.geese RN.z ++ (wTw K jT aT o_7.2.1 o_7.2.2.1 o_7.2.2.2.1 o_7.2.2.2.2.1 o_7.2.2.2.2.2.1 o_7.2.2.2.2.2.2.1 o_7.2.2.2.2.2.2.2.1 o_7.2.2.2.2.2.2.2.2.1 o_7.2.2.2.2.2.2.2.2.2.1 o_7.2.2.2.2.2.2.2.2.2.2.1 o_7.2.2.2.2.2.2.2.2.2.2.2.1 o_7.2.2.2.2.2.2.2.2.2.2.2.2))))) hF (ctX7_leastVoice l D K jS jN aN jT aT RN RT p0 p1 p2 o_7 ho_7 H.size) (cwV 3 hts gX8_voiceFor_X7_leastVoice rfl rfl rfl hdX7_leastVoice ⟨Nat.le_of_ble_eq_true rfl, Nat.le_of_ble_eq_true rfl⟩) hK hP hD hS hA [1, 2, 3, 4, 5, 6, 7, 8, 9, 10, 11, 12, 13, 14, 15, 16, 17] [0] rfl rfl (by decide) (by decide) (by decide) [0, 1, 2, 3, 4, 5, 6, 7, 8, 9, 10, 11, 12, 13, 14, 15, 16, 17] rfl (by decide) (va_recv hK hP (ci := 7) (q0 := 1) rfl rfl) rfl hl.1 rfl (Nat.le_of_ble_eq_true rfl) dX8_voiceFor_41 ⟨Nat.zero_le _, Nat.zero_le _⟩ (fun H locs hP hD hS => ?_)
        have ho := Option.some.inj hf
        subst ho; subst hQ
        exact ht_iret hx hb hr hlk rfl hK hP hD hS dX8_voiceFor_44
      · replace hf := ht_t c_6 hf
        refine lv_iconst (v := -1) hx hb dX8_voiceFor_32 (by decide) ?_
        have ho := Option.some.inj hf
        subst ho; subst hQ
        exact ht_iret hx hb hr hlk rfl hK hP hD hS dX8_voiceFor_33
abbrev rmX8_best : Room := { frames := 6, cells := 0, slots := 0, locals := 135 }
theorem hdX8_best : yX8_best.cls = RX8 ∧ yX8_best.cls ≠ "java/lang/invoke/MethodHandle" ∧ yX8_best.cls ≠ "java/lang/invoke/VarHandle" ∧ (parseMethodDescriptor yX8_best.desc).map (fun d => d.parameters.length) = some 1 := by decide +kernel
def fX8_best (RX : HTV) (RP : PairV) (RN : TownV) (RW : TownV) (p0 : Int32) : Option (Int32 × AI × AI × AI × AI × AI × AI × AI × AI × AI × Int32 × Int32 × Int32 × Int32) := ht_bn (fX8_within p0 (1 : Int32) (5 : Int32)) (fun o_1 => if o_1 = 0 then (some ((-1 : Int32), RP.sounds, RP.mostOfSet, RW.laws, RW.kind, RW.need, RW.saved, RW.voice, RW.partner, RW.speaks, RW.count, RW.day, RW.heard, RW.geese)) else (ht_bn (fX2_weigh RP RN RW p0) (fun o_3 => ht_bn (fX2_mostSound (o_3.1, o_3.2.1) RN) (fun o_4 => some (o_4, o_3.1, o_3.2.1, o_3.2.2.1, o_3.2.2.2.1, o_3.2.2.2.2.1, o_3.2.2.2.2.2.1, o_3.2.2.2.2.2.2.1, o_3.2.2.2.2.2.2.2.1, o_3.2.2.2.2.2.2.2.2.1, o_3.2.2.2.2.2.2.2.2.2.1, o_3.2.2.2.2.2.2.2.2.2.2.1, o_3.2.2.2.2.2.2.2.2.2.2.2.1, o_3.2.2.2.2.2.2.2.2.2.2.2.2)))))
set_option maxHeartbeats 1000000 in
set_option maxRecDepth 100000 in
theorem ctX8_best (l : Launch) (D : va_G) (K : Nat → ClassId) (jX : Nat) (jP : Nat) (aP : Nat → Nat) (jN : Nat) (aN : Nat → Nat) (jW : Nat) (aW : Nat → Nat) (kX_kept : Nat) (kX_tried : Nat) (kX_trials : Nat) (kX_tape : Nat) (kX_telling : Nat) (kX_dayRows : Nat) (kX_deed : Nat) (kX_sheets : Nat) (kX_shelvedPerson : Nat) (kX_shelvedRow : Nat) (RX : HTV) (RP : PairV) (RN : TownV) (RW : TownV) (p0 : Int32) (o : (Int32 × AI × AI × AI × AI × AI × AI × AI × AI × AI × Int32 × Int32 × Int32 × Int32)) (hf : fX8_best RX RP RN RW p0 = some o) (sz : Nat) : Met l yX8_best wsX8_best rmX8_best (ht_Pre D K [.ref jX, .int p0] (wHT K jX jN kX_kept kX_tried kX_trials jP kX_tape kX_telling kX_dayRows kX_deed kX_sheets kX_shelvedPerson kX_shelvedRow RX.anythingKept ++ (wPa K jP aP jN jW RP.sounds RP.mostOfSet ++ (wTw K jN aN RN.laws RN.kind RN.need RN.saved RN.voice RN.partner RN.speaks RN.count RN.day RN.heard RN.geese RN.z ++ (wTw K jW aW RW.laws RW.kind RW.need RW.saved RW.voice RW.partner RW.speaks RW.count RW.day RW.heard RW.geese RW.z)))) sz) (ht_Qi D K (wHT K jX jN kX_kept kX_tried kX_trials jP kX_tape kX_telling kX_dayRows kX_deed kX_sheets kX_shelvedPerson kX_shelvedRow RX.anythingKept ++ (wPa K jP aP jN jW o.2.1 o.2.2.1 ++ (wTw K jN aN RN.laws RN.kind RN.need RN.saved RN.voice RN.partner RN.speaks RN.count RN.day RN.heard RN.geese RN.z ++ (wTw K jW aW o.2.2.2.1 o.2.2.2.2.1 o.2.2.2.2.2.1 o.2.2.2.2.2.2.1 o.2.2.2.2.2.2.2.1 o.2.2.2.2.2.2.2.2.1 o.2.2.2.2.2.2.2.2.2.1 o.2.2.2.2.2.2.2.2.2.2.1 o.2.2.2.2.2.2.2.2.2.2.2.1 o.2.2.2.2.2.2.2.2.2.2.2.2.1 o.2.2.2.2.2.2.2.2.2.2.2.2.2 RW.z)))) o.1 (va_A (wHT K jX jN kX_kept kX_tried kX_trials jP kX_tape kX_telling kX_dayRows kX_deed kX_sheets kX_shelvedPerson kX_shelvedRow RX.anythingKept ++ (wPa K jP aP jN jW RP.sounds RP.mostOfSet ++ (wTw K jN aN RN.laws RN.kind RN.need RN.saved RN.voice RN.partner RN.speaks RN.count RN.day RN.heard RN.geese RN.z ++ (wTw K jW aW RW.laws RW.kind RW.need RW.saved RW.voice RW.partner RW.speaks RW.count RW.day RW.heard RW.geese RW.z)))) sz)) 0 0 (va_A (wHT K jX jN kX_kept kX_tried kX_trials jP kX_tape kX_telling kX_dayRows kX_deed kX_sheets kX_shelvedPerson kX_shelvedRow RX.anythingKept ++ (wPa K jP aP jN jW RP.sounds RP.mostOfSet ++ (wTw K jN aN RN.laws RN.kind RN.need RN.saved RN.voice RN.partner RN.speaks RN.count RN.day RN.heard RN.geese RN.z ++ (wTw K jW aW RW.laws RW.kind RW.need RW.saved RW.voice RW.partner RW.speaks RW.count RW.day RW.heard RW.geese RW.z)))) sz) := by
  refine ht_enter (Qf := ht_Qi D K (wHT K jX jN kX_kept kX_tried kX_trials jP kX_tape kX_telling kX_dayRows kX_deed kX_sheets kX_shelvedPerson kX_shelvedRow RX.anythingKept ++ (wPa K jP aP jN jW o.2.1 o.2.2.1 ++ (wTw K jN aN RN.laws RN.kind RN.need RN.saved RN.voice RN.partner RN.speaks RN.count RN.day RN.heard RN.geese RN.z ++ (wTw K jW aW o.2.2.2.1 o.2.2.2.2.1 o.2.2.2.2.2.1 o.2.2.2.2.2.2.1 o.2.2.2.2.2.2.2.1 o.2.2.2.2.2.2.2.2.1 o.2.2.2.2.2.2.2.2.2.1 o.2.2.2.2.2.2.2.2.2.2.1 o.2.2.2.2.2.2.2.2.2.2.2.1 o.2.2.2.2.2.2.2.2.2.2.2.2.1 o.2.2.2.2.2.2.2.2.2.2.2.2.2 RW.z)))) o.1) (cc := cX8_best) (maxL := 2) (rt := (some .int)) (by decide) rfl (Nat.le_of_ble_eq_true rfl) ?_ sz
  intro p e s m below meth c A Q H locs ls hQ hx hb hr hlk hmn hml hown hts hA hK hP hD hS hl
  have hown : s.vm.findClass RX8 = some m.cls := hown
  have hF : CallFix p m c cX8_best 2 s ([.ref jX, .int p0] : List Value).toArray wsX8_best RX8 := ⟨hx, hb, hml, hown, hts⟩
  have hl : lv_has ls 2 [(0, .ref jX), (1, .int p0)] := hl
  have iw8 : ∀ w ∈ u_ws RX8 TX8 13, w ∈ wsX8_best := by decide +kernel
  have kw1 := hts (.fieldLink RX8 36 "HeldTongues" "pairings" "LHeldTongues$Pairings;") (by decide +kernel)
  delta fX8_best at hf
  refine lv_iload_n hx hb dX8_best_0 rfl (lv_at hl 1 rfl) ?_
  refine lv_iconst (v := 1) hx hb dX8_best_1 (by decide) ?_
  refine lv_iconst (v := 5) hx hb dX8_best_2 (by decide) ?_
  obtain ⟨o_1, ho_1, hf⟩ := ht_bn_ob hf
  refine ht_callSi (r := o_1) (rest := []) (As := [.int p0, .int (1 : Int32), .int (5 : Int32)]) (wc := []) (wr := (wHT K jX jN kX_kept kX_tried kX_trials jP kX_tape kX_telling kX_dayRows kX_deed kX_sheets kX_shelvedPerson kX_shelvedRow RX.anythingKept ++ (wPa K jP aP jN jW RP.sounds RP.mostOfSet ++ (wTw K jN aN RN.laws RN.kind RN.need RN.saved RN.voice RN.partner RN.speaks RN.count RN.day RN.heard RN.geese RN.z ++ (wTw K jW aW RW.laws RW.kind RW.need RW.saved RW.voice RW.partner RW.speaks RW.count RW.day RW.heard RW.geese RW.z))))) (w1 := []) (w2 := (wHT K jX jN kX_kept kX_tried kX_trials jP kX_tape kX_telling kX_dayRows kX_deed kX_sheets kX_shelvedPerson kX_shelvedRow RX.anythingKept ++ (wPa K jP aP jN jW RP.sounds RP.mostOfSet ++ (wTw K jN aN RN.laws RN.kind RN.need RN.saved RN.voice RN.partner RN.speaks RN.count RN.day RN.heard RN.geese RN.z ++ (wTw K jW aW RW.laws RW.kind RW.need RW.saved RW.voice RW.partner RW.speaks RW.count RW.day RW.heard RW.geese RW.z))))) hF (ctX8_within l D K p0 (1 : Int32) (5 : Int32) o_1 ho_1 H.size) (va_cwS 3 hts gX8_best_X8_within rfl rfl rfl hdX8_within ⟨Nat.le_of_ble_eq_true rfl, Nat.le_of_ble_eq_true rfl⟩) hK hP hD hS hA [] [0, 1, 2, 3, 4, 5, 6, 7, 8, 9, 10, 11, 12, 13, 14, 15, 16, 17, 18, 19] rfl rfl (by decide) (by decide) (by decide) [0, 1, 2, 3, 4, 5, 6, 7, 8, 9, 10, 11, 12, 13, 14, 15, 16, 17, 18, 19] rfl (by decide) rfl hl.1 rfl (Nat.le_of_ble_eq_true rfl) dX8_best_3 ⟨Nat.zero_le _, Nat.zero_le _⟩ (fun H locs hP hD hS => ?_)
  refine lv_if_ne (tgt := 11) hx hb dX8_best_6 (by decide) (fun c_2 => ?_) (fun c_2 => ?_)
  · replace hf := ht_f c_2 hf
    refine lv_aload_n hx hb dX8_best_11 rfl (lv_at hl 0 rfl) ?_
    refine va_get (D := D) (ci := 8) (v := .ref jP) (C := RX8) (T := TX8) (N := 13) hx hb hts iw8 hown hK hP 0 rfl rfl 4 (by decide) kw1 (fun _ h9 => h9) rfl dX8_best_12 ?_
    refine lv_iload_n hx hb dX8_best_15 rfl (lv_at hl 1 rfl) ?_
    obtain ⟨o_3, ho_3, hf⟩ := ht_bn_ob hf
    refine ht_callVv (rest := []) (As := [.int p0]) (wc := (wPa K jP aP jN jW RP.sounds RP.mostOfSet ++ (wTw K jN aN RN.laws RN.kind RN.need RN.saved RN.voice RN.partner RN.speaks RN.count RN.day RN.heard RN.geese RN.z ++ (wTw K jW aW RW.laws RW.kind RW.need RW.saved RW.voice RW.partner RW.speaks RW.count RW.day RW.heard RW.geese RW.z)))) (wr := (wHT K jX jN kX_kept kX_tried kX_trials jP kX_tape kX_telling kX_dayRows kX_deed kX_sheets kX_shelvedPerson kX_shelvedRow RX.anythingKept)) (w1 := (wPa K jP aP jN jW o_3.1 o_3.2.1 ++ (wTw K jN aN RN.laws RN.kind RN.need RN.saved RN.voice RN.partner RN.speaks RN.count RN.day RN.heard RN.geese RN.z ++ (wTw K jW aW o_3.2.2.1 o_3.2.2.2.1 o_3.2.2.2.2.1 o_3.2.2.2.2.2.1 o_3.2.2.2.2.2.2.1 o_3.2.2.2.2.2.2.2.1 o_3.2.2.2.2.2.2.2.2.1 o_3.2.2.2.2.2.2.2.2.2.1 o_3.2.2.2.2.2.2.2.2.2.2.1 o_3.2.2.2.2.2.2.2.2.2.2.2.1 o_3.2.2.2.2.2.2.2.2.2.2.2.2 RW.z)))) (w2 := (wHT K jX jN kX_kept kX_tried kX_trials jP kX_tape kX_telling kX_dayRows kX_deed kX_sheets kX_shelvedPerson kX_shelvedRow RX.anythingKept ++ (wPa K jP aP jN jW o_3.1 o_3.2.1 ++ (wTw K jN aN RN.laws RN.kind RN.need RN.saved RN.voice RN.partner RN.speaks RN.count RN.day RN.heard RN.geese RN.z ++ (wTw K jW aW o_3.2.2.1 o_3.2.2.2.1 o_3.2.2.2.2.1 o_3.2.2.2.2.2.1 o_3.2.2.2.2.2.2.1 o_3.2.2.2.2.2.2.2.1 o_3.2.2.2.2.2.2.2.2.1 o_3.2.2.2.2.2.2.2.2.2.1 o_3.2.2.2.2.2.2.2.2.2.2.1 o_3.2.2.2.2.2.2.2.2.2.2.2.1 o_3.2.2.2.2.2.2.2.2.2.2.2.2 RW.z))))) hF (ctX2_weigh l D K jP aP jN aN jW aW RP RN RW p0 o_3 ho_3 H.size) (cwV 1 hts gX8_best_X2_weigh rfl rfl rfl hdX2_weigh ⟨Nat.le_of_ble_eq_true rfl, Nat.le_of_ble_eq_true rfl⟩) hK hP hD hS hA [1, 2, 3, 4, 5, 6, 7, 8, 9, 10, 11, 12, 13, 14, 15, 16, 17, 18, 19] [0] rfl rfl (by decide) (by decide) (by decide) [0, 1, 2, 3, 4, 5, 6, 7, 8, 9, 10, 11, 12, 13, 14, 15, 16, 17, 18, 19] rfl (by decide) (va_recv hK hP (ci := 2) (q0 := 1) rfl rfl) rfl hl.1 rfl (Nat.le_of_ble_eq_true rfl) dX8_best_16 ⟨Nat.zero_le _, Nat.zero_le _⟩ (fun H locs hP hD hS => ?_)
    refine lv_aload_n hx hb dX8_best_19 rfl (lv_at hl 0 rfl) ?_
    refine va_get (D := D) (ci := 8) (v := .ref jP) (C := RX8) (T := TX8) (N := 13) hx hb hts iw8 hown hK hP 0 rfl rfl 4 (by decide) kw1 (fun _ h9 => h9) rfl dX8_best_20 ?_
    obtain ⟨o_4, ho_4, hf⟩ := ht_bn_ob hf
    refine ht_callVi (r := o_4) (rest := []) (As := []) (wc := (wPa K jP aP jN jW o_3.1 o_3.2.1 ++ (wTw K jN aN RN.laws RN.kind RN.need RN.saved RN.voice RN.partner RN.speaks RN.count RN.day RN.heard RN.geese RN.z))) (wr := (wHT K jX jN kX_kept kX_tried kX_trials jP kX_tape kX_telling kX_dayRows kX_deed kX_sheets kX_shelvedPerson kX_shelvedRow RX.anythingKept ++ (wTw K jW aW o_3.2.2.1 o_3.2.2.2.1 o_3.2.2.2.2.1 o_3.2.2.2.2.2.1 o_3.2.2.2.2.2.2.1 o_3.2.2.2.2.2.2.2.1 o_3.2.2.2.2.2.2.2.2.1 o_3.2.2.2.2.2.2.2.2.2.1 o_3.2.2.2.2.2.2.2.2.2.2.1 o_3.2.2.2.2.2.2.2.2.2.2.2.1 o_3.2.2.2.2.2.2.2.2.2.2.2.2 RW.z))) (w1 := (wPa K jP aP jN jW o_3.1 o_3.2.1 ++ (wTw K jN aN RN.laws RN.kind RN.need RN.saved RN.voice RN.partner RN.speaks RN.count RN.day RN.heard RN.geese RN.z))) (w2 := (wHT K jX jN kX_kept kX_tried kX_trials jP kX_tape kX_telling kX_dayRows kX_deed kX_sheets kX_shelvedPerson kX_shelvedRow RX.anythingKept ++ (wPa K jP aP jN jW o_3.1 o_3.2.1 ++ (wTw K jN aN RN.laws RN.kind RN.need RN.saved RN.voice RN.partner RN.speaks RN.count RN.day RN.heard RN.geese RN.z ++ (wTw K jW aW o_3.2.2.1 o_3.2.2.2.1 o_3.2.2.2.2.1 o_3.2.2.2.2.2.1 o_3.2.2.2.2.2.2.1 o_3.2.2.2.2.2.2.2.1 o_3.2.2.2.2.2.2.2.2.1 o_3.2.2.2.2.2.2.2.2.2.1 o_3.2.2.2.2.2.2.2.2.2.2.1 o_3.2.2.2.2.2.2.2.2.2.2.2.1 o_3.2.2.2.2.2.2.2.2.2.2.2.2 RW.z))))) hF (ctX2_mostSound l D K jP aP jN aN jW (o_3.1, o_3.2.1) RN o_4 ho_4 H.size) (cwV 0 hts gX8_best_X2_mostSound rfl rfl rfl hdX2_mostSound ⟨Nat.le_of_ble_eq_true rfl, Nat.le_of_ble_eq_true rfl⟩) hK hP hD hS hA [1, 2, 3, 4, 5, 6, 7, 8, 9, 10, 11] [0, 12, 13, 14, 15, 16, 17, 18, 19] rfl rfl (by decide) (by decide) (by decide) [0, 9, 10, 11, 12, 13, 14, 15, 16, 17, 18, 19, 1, 2, 3, 4, 5, 6, 7, 8] rfl (by decide) (va_recv hK hP (ci := 2) (q0 := 1) rfl rfl) rfl hl.1 rfl (Nat.le_of_ble_eq_true rfl) dX8_best_23 ⟨Nat.zero_le _, Nat.zero_le _⟩ (fun H locs hP hD hS => ?_)
    have ho := Option.some.inj hf
    subst ho; subst hQ
    exact ht_iret hx hb hr hlk rfl hK hP hD hS dX8_best_26
  · replace hf := ht_t c_2 hf
    refine lv_iconst (v := -1) hx hb dX8_best_9 (by decide) ?_
    have ho := Option.some.inj hf
    subst ho; subst hQ
    exact ht_iret hx hb hr hlk rfl hK hP hD hS dX8_best_10
abbrev rmX8_bestOf : Room := { frames := 6, cells := 0, slots := 0, locals := 135 }
theorem hdX8_bestOf : yX8_bestOf.cls = RX8 ∧ yX8_bestOf.cls ≠ "java/lang/invoke/MethodHandle" ∧ yX8_bestOf.cls ≠ "java/lang/invoke/VarHandle" ∧ (parseMethodDescriptor yX8_bestOf.desc).map (fun d => d.parameters.length) = some 2 := by decide +kernel
def fX8_bestOf (RX : HTV) (RP : PairV) (RN : TownV) (RW : TownV) (p0 : Int32) (p1 : Int32) : Option (Int32 × AI × AI × AI × AI × AI × AI × AI × AI × AI × Int32 × Int32 × Int32 × Int32) := ht_bn (fX8_within p0 (1 : Int32) (5 : Int32)) (fun o_1 => if o_1 = 0 then (some ((-1 : Int32), RP.sounds, RP.mostOfSet, RW.laws, RW.kind, RW.need, RW.saved, RW.voice, RW.partner, RW.speaks, RW.count, RW.day, RW.heard, RW.geese)) else (ht_bn (fX6_has RN p1) (fun o_3 => if o_3 = 0 then (some ((-1 : Int32), RP.sounds, RP.mostOfSet, RW.laws, RW.kind, RW.need, RW.saved, RW.voice, RW.partner, RW.speaks, RW.count, RW.day, RW.heard, RW.geese)) else (ht_bn (fX2_weigh RP RN RW p0) (fun o_5 => ht_bn (fX2_partnerInFirstWay (o_5.1, o_5.2.1) RN p1) (fun o_6 => if o_6 = p1 then (some ((0 : Int32), o_5.1, o_5.2.1, o_5.2.2.1, o_5.2.2.2.1, o_5.2.2.2.2.1, o_5.2.2.2.2.2.1, o_5.2.2.2.2.2.2.1, o_5.2.2.2.2.2.2.2.1, o_5.2.2.2.2.2.2.2.2.1, o_5.2.2.2.2.2.2.2.2.2.1, o_5.2.2.2.2.2.2.2.2.2.2.1, o_5.2.2.2.2.2.2.2.2.2.2.2.1, o_5.2.2.2.2.2.2.2.2.2.2.2.2)) else (some ((o_6 + (1 : Int32)), o_5.1, o_5.2.1, o_5.2.2.1, o_5.2.2.2.1, o_5.2.2.2.2.1, o_5.2.2.2.2.2.1, o_5.2.2.2.2.2.2.1, o_5.2.2.2.2.2.2.2.1, o_5.2.2.2.2.2.2.2.2.1, o_5.2.2.2.2.2.2.2.2.2.1, o_5.2.2.2.2.2.2.2.2.2.2.1, o_5.2.2.2.2.2.2.2.2.2.2.2.1, o_5.2.2.2.2.2.2.2.2.2.2.2.2))))))))
set_option maxHeartbeats 1000000 in
set_option maxRecDepth 100000 in
theorem ctX8_bestOf (l : Launch) (D : va_G) (K : Nat → ClassId) (jX : Nat) (jP : Nat) (aP : Nat → Nat) (jN : Nat) (aN : Nat → Nat) (jW : Nat) (aW : Nat → Nat) (kX_kept : Nat) (kX_tried : Nat) (kX_trials : Nat) (kX_tape : Nat) (kX_telling : Nat) (kX_dayRows : Nat) (kX_deed : Nat) (kX_sheets : Nat) (kX_shelvedPerson : Nat) (kX_shelvedRow : Nat) (RX : HTV) (RP : PairV) (RN : TownV) (RW : TownV) (p0 : Int32) (p1 : Int32) (o : (Int32 × AI × AI × AI × AI × AI × AI × AI × AI × AI × Int32 × Int32 × Int32 × Int32)) (hf : fX8_bestOf RX RP RN RW p0 p1 = some o) (sz : Nat) : Met l yX8_bestOf wsX8_bestOf rmX8_bestOf (ht_Pre D K [.ref jX, .int p0, .int p1] (wHT K jX jN kX_kept kX_tried kX_trials jP kX_tape kX_telling kX_dayRows kX_deed kX_sheets kX_shelvedPerson kX_shelvedRow RX.anythingKept ++ (wPa K jP aP jN jW RP.sounds RP.mostOfSet ++ (wTw K jN aN RN.laws RN.kind RN.need RN.saved RN.voice RN.partner RN.speaks RN.count RN.day RN.heard RN.geese RN.z ++ (wTw K jW aW RW.laws RW.kind RW.need RW.saved RW.voice RW.partner RW.speaks RW.count RW.day RW.heard RW.geese RW.z)))) sz) (ht_Qi D K (wHT K jX jN kX_kept kX_tried kX_trials jP kX_tape kX_telling kX_dayRows kX_deed kX_sheets kX_shelvedPerson kX_shelvedRow RX.anythingKept ++ (wPa K jP aP jN jW o.2.1 o.2.2.1 ++ (wTw K jN aN RN.laws RN.kind RN.need RN.saved RN.voice RN.partner RN.speaks RN.count RN.day RN.heard RN.geese RN.z ++ (wTw K jW aW o.2.2.2.1 o.2.2.2.2.1 o.2.2.2.2.2.1 o.2.2.2.2.2.2.1 o.2.2.2.2.2.2.2.1 o.2.2.2.2.2.2.2.2.1 o.2.2.2.2.2.2.2.2.2.1 o.2.2.2.2.2.2.2.2.2.2.1 o.2.2.2.2.2.2.2.2.2.2.2.1 o.2.2.2.2.2.2.2.2.2.2.2.2.1 o.2.2.2.2.2.2.2.2.2.2.2.2.2 RW.z)))) o.1 (va_A (wHT K jX jN kX_kept kX_tried kX_trials jP kX_tape kX_telling kX_dayRows kX_deed kX_sheets kX_shelvedPerson kX_shelvedRow RX.anythingKept ++ (wPa K jP aP jN jW RP.sounds RP.mostOfSet ++ (wTw K jN aN RN.laws RN.kind RN.need RN.saved RN.voice RN.partner RN.speaks RN.count RN.day RN.heard RN.geese RN.z ++ (wTw K jW aW RW.laws RW.kind RW.need RW.saved RW.voice RW.partner RW.speaks RW.count RW.day RW.heard RW.geese RW.z)))) sz)) 0 0 (va_A (wHT K jX jN kX_kept kX_tried kX_trials jP kX_tape kX_telling kX_dayRows kX_deed kX_sheets kX_shelvedPerson kX_shelvedRow RX.anythingKept ++ (wPa K jP aP jN jW RP.sounds RP.mostOfSet ++ (wTw K jN aN RN.laws RN.kind RN.need RN.saved RN.voice RN.partner RN.speaks RN.count RN.day RN.heard RN.geese RN.z ++ (wTw K jW aW RW.laws RW.kind RW.need RW.saved RW.voice RW.partner RW.speaks RW.count RW.day RW.heard RW.geese RW.z)))) sz) := by
  refine ht_enter (Qf := ht_Qi D K (wHT K jX jN kX_kept kX_tried kX_trials jP kX_tape kX_telling kX_dayRows kX_deed kX_sheets kX_shelvedPerson kX_shelvedRow RX.anythingKept ++ (wPa K jP aP jN jW o.2.1 o.2.2.1 ++ (wTw K jN aN RN.laws RN.kind RN.need RN.saved RN.voice RN.partner RN.speaks RN.count RN.day RN.heard RN.geese RN.z ++ (wTw K jW aW o.2.2.2.1 o.2.2.2.2.1 o.2.2.2.2.2.1 o.2.2.2.2.2.2.1 o.2.2.2.2.2.2.2.1 o.2.2.2.2.2.2.2.2.1 o.2.2.2.2.2.2.2.2.2.1 o.2.2.2.2.2.2.2.2.2.2.1 o.2.2.2.2.2.2.2.2.2.2.2.1 o.2.2.2.2.2.2.2.2.2.2.2.2.1 o.2.2.2.2.2.2.2.2.2.2.2.2.2 RW.z)))) o.1) (cc := cX8_bestOf) (maxL := 4) (rt := (some .int)) (by decide) rfl (Nat.le_of_ble_eq_true rfl) ?_ sz
  intro p e s m below meth c A Q H locs ls hQ hx hb hr hlk hmn hml hown hts hA hK hP hD hS hl
  have hown : s.vm.findClass RX8 = some m.cls := hown
  have hF : CallFix p m c cX8_bestOf 4 s ([.ref jX, .int p0, .int p1] : List Value).toArray wsX8_bestOf RX8 := ⟨hx, hb, hml, hown, hts⟩
  have hl : lv_has ls 4 [(0, .ref jX), (1, .int p0), (2, .int p1)] := hl
  have iw8 : ∀ w ∈ u_ws RX8 TX8 13, w ∈ wsX8_bestOf := by decide +kernel
  have kw1 := hts (.fieldLink RX8 10 "HeldTongues" "now" "LHeldTongues$Town;") (by decide +kernel)
  have kw2 := hts (.fieldLink RX8 36 "HeldTongues" "pairings" "LHeldTongues$Pairings;") (by decide +kernel)
  delta fX8_bestOf at hf
  refine lv_iload_n hx hb dX8_bestOf_0 rfl (lv_at hl 1 rfl) ?_
  refine lv_iconst (v := 1) hx hb dX8_bestOf_1 (by decide) ?_
  refine lv_iconst (v := 5) hx hb dX8_bestOf_2 (by decide) ?_
  obtain ⟨o_1, ho_1, hf⟩ := ht_bn_ob hf
  refine ht_callSi (r := o_1) (rest := []) (As := [.int p0, .int (1 : Int32), .int (5 : Int32)]) (wc := []) (wr := (wHT K jX jN kX_kept kX_tried kX_trials jP kX_tape kX_telling kX_dayRows kX_deed kX_sheets kX_shelvedPerson kX_shelvedRow RX.anythingKept ++ (wPa K jP aP jN jW RP.sounds RP.mostOfSet ++ (wTw K jN aN RN.laws RN.kind RN.need RN.saved RN.voice RN.partner RN.speaks RN.count RN.day RN.heard RN.geese RN.z ++ (wTw K jW aW RW.laws RW.kind RW.need RW.saved RW.voice RW.partner RW.speaks RW.count RW.day RW.heard RW.geese RW.z))))) (w1 := []) (w2 := (wHT K jX jN kX_kept kX_tried kX_trials jP kX_tape kX_telling kX_dayRows kX_deed kX_sheets kX_shelvedPerson kX_shelvedRow RX.anythingKept ++ (wPa K jP aP jN jW RP.sounds RP.mostOfSet ++ (wTw K jN aN RN.laws RN.kind RN.need RN.saved RN.voice RN.partner RN.speaks RN.count RN.day RN.heard RN.geese RN.z ++ (wTw K jW aW RW.laws RW.kind RW.need RW.saved RW.voice RW.partner RW.speaks RW.count RW.day RW.heard RW.geese RW.z))))) hF (ctX8_within l D K p0 (1 : Int32) (5 : Int32) o_1 ho_1 H.size) (va_cwS 3 hts gX8_bestOf_X8_within rfl rfl rfl hdX8_within ⟨Nat.le_of_ble_eq_true rfl, Nat.le_of_ble_eq_true rfl⟩) hK hP hD hS hA [] [0, 1, 2, 3, 4, 5, 6, 7, 8, 9, 10, 11, 12, 13, 14, 15, 16, 17, 18, 19] rfl rfl (by decide) (by decide) (by decide) [0, 1, 2, 3, 4, 5, 6, 7, 8, 9, 10, 11, 12, 13, 14, 15, 16, 17, 18, 19] rfl (by decide) rfl hl.1 rfl (Nat.le_of_ble_eq_true rfl) dX8_bestOf_3 ⟨Nat.zero_le _, Nat.zero_le _⟩ (fun H locs hP hD hS => ?_)
  refine lv_if_eq (tgt := 20) hx hb dX8_bestOf_6 (by decide) (fun c_2 => ?_) (fun c_2 => ?_)
  · replace hf := ht_t c_2 hf
    refine lv_iconst (v := -1) hx hb dX8_bestOf_20 (by decide) ?_
    have ho := Option.some.inj hf
    subst ho; subst hQ
    exact ht_iret hx hb hr hlk rfl hK hP hD hS dX8_bestOf_21
  · replace hf := ht_f c_2 hf
    refine lv_aload_n hx hb dX8_bestOf_9 rfl (lv_at hl 0 rfl) ?_
    refine va_get (D := D) (ci := 8) (v := .ref jN) (C := RX8) (T := TX8) (N := 13) hx hb hts iw8 hown hK hP 0 rfl rfl 0 (by decide) kw1 (fun _ h9 => h9) rfl dX8_bestOf_10 ?_
    refine lv_iload_n hx hb dX8_bestOf_13 rfl (lv_at hl 2 rfl) ?_
    obtain ⟨o_3, ho_3, hf⟩ := ht_bn_ob hf
    refine ht_callVi (r := o_3) (rest := []) (As := [.int p1]) (wc := (wTw K jN aN RN.laws RN.kind RN.need RN.saved RN.voice RN.partner RN.speaks RN.count RN.day RN.heard RN.geese RN.z)) (wr := (wHT K jX jN kX_kept kX_tried kX_trials jP kX_tape kX_telling kX_dayRows kX_deed kX_sheets kX_shelvedPerson kX_shelvedRow RX.anythingKept ++ (wPa K jP aP jN jW RP.sounds RP.mostOfSet ++ (wTw K jW aW RW.laws RW.kind RW.need RW.saved RW.voice RW.partner RW.speaks RW.count RW.day RW.heard RW.geese RW.z)))) (w1 := (wTw K jN aN RN.laws RN.kind RN.need RN.saved RN.voice RN.partner RN.speaks RN.count RN.day RN.heard RN.geese RN.z)) (w2 := (wHT K jX jN kX_kept kX_tried kX_trials jP kX_tape kX_telling kX_dayRows kX_deed kX_sheets kX_shelvedPerson kX_shelvedRow RX.anythingKept ++ (wPa K jP aP jN jW RP.sounds RP.mostOfSet ++ (wTw K jN aN RN.laws RN.kind RN.need RN.saved RN.voice RN.partner RN.speaks RN.count RN.day RN.heard RN.geese RN.z ++ (wTw K jW aW RW.laws RW.kind RW.need RW.saved RW.voice RW.partner RW.speaks RW.count RW.day RW.heard RW.geese RW.z))))) hF (ctX6_has l D K jN aN RN p1 o_3 ho_3 H.size) (cwV 1 hts gX8_bestOf_X6_has rfl rfl rfl hdX6_has ⟨Nat.le_of_ble_eq_true rfl, Nat.le_of_ble_eq_true rfl⟩) hK hP hD hS hA [4, 5, 6, 7, 8, 9, 10, 11] [0, 1, 2, 3, 12, 13, 14, 15, 16, 17, 18, 19] rfl rfl (by decide) (by decide) (by decide) [0, 1, 2, 3, 12, 13, 14, 15, 16, 17, 18, 19, 4, 5, 6, 7, 8, 9, 10, 11] rfl (by decide) (va_recv hK hP (ci := 6) (q0 := 4) rfl rfl) rfl hl.1 rfl (Nat.le_of_ble_eq_true rfl) dX8_bestOf_14 ⟨Nat.zero_le _, Nat.zero_le _⟩ (fun H locs hP hD hS => ?_)
    refine lv_if_ne (tgt := 22) hx hb dX8_bestOf_17 (by decide) (fun c_4 => ?_) (fun c_4 => ?_)
    · replace hf := ht_f c_4 hf
      refine lv_aload_n hx hb dX8_bestOf_22 rfl (lv_at hl 0 rfl) ?_
      refine va_get (D := D) (ci := 8) (v := .ref jP) (C := RX8) (T := TX8) (N := 13) hx hb hts iw8 hown hK hP 0 rfl rfl 4 (by decide) kw2 (fun _ h9 => h9) rfl dX8_bestOf_23 ?_
      refine lv_iload_n hx hb dX8_bestOf_26 rfl (lv_at hl 1 rfl) ?_
      obtain ⟨o_5, ho_5, hf⟩ := ht_bn_ob hf
      refine ht_callVv (rest := []) (As := [.int p0]) (wc := (wPa K jP aP jN jW RP.sounds RP.mostOfSet ++ (wTw K jN aN RN.laws RN.kind RN.need RN.saved RN.voice RN.partner RN.speaks RN.count RN.day RN.heard RN.geese RN.z ++ (wTw K jW aW RW.laws RW.kind RW.need RW.saved RW.voice RW.partner RW.speaks RW.count RW.day RW.heard RW.geese RW.z)))) (wr := (wHT K jX jN kX_kept kX_tried kX_trials jP kX_tape kX_telling kX_dayRows kX_deed kX_sheets kX_shelvedPerson kX_shelvedRow RX.anythingKept)) (w1 := (wPa K jP aP jN jW o_5.1 o_5.2.1 ++ (wTw K jN aN RN.laws RN.kind RN.need RN.saved RN.voice RN.partner RN.speaks RN.count RN.day RN.heard RN.geese RN.z ++ (wTw K jW aW o_5.2.2.1 o_5.2.2.2.1 o_5.2.2.2.2.1 o_5.2.2.2.2.2.1 o_5.2.2.2.2.2.2.1 o_5.2.2.2.2.2.2.2.1 o_5.2.2.2.2.2.2.2.2.1 o_5.2.2.2.2.2.2.2.2.2.1 o_5.2.2.2.2.2.2.2.2.2.2.1 o_5.2.2.2.2.2.2.2.2.2.2.2.1 o_5.2.2.2.2.2.2.2.2.2.2.2.2 RW.z)))) (w2 := (wHT K jX jN kX_kept kX_tried kX_trials jP kX_tape kX_telling kX_dayRows kX_deed kX_sheets kX_shelvedPerson kX_shelvedRow RX.anythingKept ++ (wPa K jP aP jN jW o_5.1 o_5.2.1 ++ (wTw K jN aN RN.laws RN.kind RN.need RN.saved RN.voice RN.partner RN.speaks RN.count RN.day RN.heard RN.geese RN.z ++ (wTw K jW aW o_5.2.2.1 o_5.2.2.2.1 o_5.2.2.2.2.1 o_5.2.2.2.2.2.1 o_5.2.2.2.2.2.2.1 o_5.2.2.2.2.2.2.2.1 o_5.2.2.2.2.2.2.2.2.1 o_5.2.2.2.2.2.2.2.2.2.1 o_5.2.2.2.2.2.2.2.2.2.2.1 o_5.2.2.2.2.2.2.2.2.2.2.2.1 o_5.2.2.2.2.2.2.2.2.2.2.2.2 RW.z))))) hF (ctX2_weigh l D K jP aP jN aN jW aW RP RN RW p0 o_5 ho_5 H.size) (cwV 1 hts gX8_bestOf_X2_weigh rfl rfl rfl hdX2_weigh ⟨Nat.le_of_ble_eq_true rfl, Nat.le_of_ble_eq_true rfl⟩) hK hP hD hS hA [1, 2, 3, 4, 5, 6, 7, 8, 9, 10, 11, 12, 13, 14, 15, 16, 17, 18, 19] [0] rfl rfl (by decide) (by decide) (by decide) [0, 1, 2, 3, 4, 5, 6, 7, 8, 9, 10, 11, 12, 13, 14, 15, 16, 17, 18, 19] rfl (by decide) (va_recv hK hP (ci := 2) (q0 := 1) rfl rfl) rfl hl.1 rfl (Nat.le_of_ble_eq_true rfl) dX8_bestOf_27 ⟨Nat.zero_le _, Nat.zero_le _⟩ (fun H locs hP hD hS => ?_)
      refine lv_aload_n hx hb dX8_bestOf_30 rfl (lv_at hl 0 rfl) ?_
      refine va_get (D := D) (ci := 8) (v := .ref jP) (C := RX8) (T := TX8) (N := 13) hx hb hts iw8 hown hK hP 0 rfl rfl 4 (by decide) kw2 (fun _ h9 => h9) rfl dX8_bestOf_31 ?_
      refine lv_iload_n hx hb dX8_bestOf_34 rfl (lv_at hl 2 rfl) ?_
      obtain ⟨o_6, ho_6, hf⟩ := ht_bn_ob hf
      refine ht_callVi (r := o_6) (rest := []) (As := [.int p1]) (wc := (wPa K jP aP jN jW o_5.1 o_5.2.1 ++ (wTw K jN aN RN.laws RN.kind RN.need RN.saved RN.voice RN.partner RN.speaks RN.count RN.day RN.heard RN.geese RN.z))) (wr := (wHT K jX jN kX_kept kX_tried kX_trials jP kX_tape kX_telling kX_dayRows kX_deed kX_sheets kX_shelvedPerson kX_shelvedRow RX.anythingKept ++ (wTw K jW aW o_5.2.2.1 o_5.2.2.2.1 o_5.2.2.2.2.1 o_5.2.2.2.2.2.1 o_5.2.2.2.2.2.2.1 o_5.2.2.2.2.2.2.2.1 o_5.2.2.2.2.2.2.2.2.1 o_5.2.2.2.2.2.2.2.2.2.1 o_5.2.2.2.2.2.2.2.2.2.2.1 o_5.2.2.2.2.2.2.2.2.2.2.2.1 o_5.2.2.2.2.2.2.2.2.2.2.2.2 RW.z))) (w1 := (wPa K jP aP jN jW o_5.1 o_5.2.1 ++ (wTw K jN aN RN.laws RN.kind RN.need RN.saved RN.voice RN.partner RN.speaks RN.count RN.day RN.heard RN.geese RN.z))) (w2 := (wHT K jX jN kX_kept kX_tried kX_trials jP kX_tape kX_telling kX_dayRows kX_deed kX_sheets kX_shelvedPerson kX_shelvedRow RX.anythingKept ++ (wPa K jP aP jN jW o_5.1 o_5.2.1 ++ (wTw K jN aN RN.laws RN.kind RN.need RN.saved RN.voice RN.partner RN.speaks RN.count RN.day RN.heard RN.geese RN.z ++ (wTw K jW aW o_5.2.2.1 o_5.2.2.2.1 o_5.2.2.2.2.1 o_5.2.2.2.2.2.1 o_5.2.2.2.2.2.2.1 o_5.2.2.2.2.2.2.2.1 o_5.2.2.2.2.2.2.2.2.1 o_5.2.2.2.2.2.2.2.2.2.1 o_5.2.2.2.2.2.2.2.2.2.2.1 o_5.2.2.2.2.2.2.2.2.2.2.2.1 o_5.2.2.2.2.2.2.2.2.2.2.2.2 RW.z))))) hF (ctX2_partnerInFirstWay l D K jP aP jN aN jW (o_5.1, o_5.2.1) RN p1 o_6 ho_6 H.size) (cwV 1 hts gX8_bestOf_X2_partnerInFirstWay rfl rfl rfl hdX2_partnerInFirstWay ⟨Nat.le_of_ble_eq_true rfl, Nat.le_of_ble_eq_true rfl⟩) hK hP hD hS hA [1, 2, 3, 4, 5, 6, 7, 8, 9, 10, 11] [0, 12, 13, 14, 15, 16, 17, 18, 19] rfl rfl (by decide) (by decide) (by decide) [0, 9, 10, 11, 12, 13, 14, 15, 16, 17, 18, 19, 1, 2, 3, 4, 5, 6, 7, 8] rfl (by decide) (va_recv hK hP (ci := 2) (q0 := 1) rfl rfl) rfl hl.1 rfl (Nat.le_of_ble_eq_true rfl) dX8_bestOf_35 ⟨Nat.zero_le _, Nat.zero_le _⟩ (fun H locs hP hD hS => ?_)
      refine lv_istore_n (lv' := [(3, .int o_6), (0, .ref jX), (1, .int p0), (2, .int p1)]) hx hb dX8_bestOf_38 rfl hl (by decide) rfl (fun ls hl => ?_)
      refine lv_iload_n hx hb dX8_bestOf_39 rfl (lv_at hl 0 rfl) ?_
      refine lv_iload_n hx hb dX8_bestOf_40 rfl (lv_at hl 3 rfl) ?_
      refine lv_icmp_ne (tgt := 48) hx hb dX8_bestOf_41 (by decide) (fun c_7 => ?_) (fun c_7 => ?_)
      · replace hf := ht_f c_7 hf
        refine lv_iload_n hx hb dX8_bestOf_48 rfl (lv_at hl 0 rfl) ?_
        refine lv_iconst (v := 1) hx hb dX8_bestOf_49 (by decide) ?_
        refine lv_iadd hx hb dX8_bestOf_50 ?_
        have ho := Option.some.inj hf
        subst ho; subst hQ
        exact ht_iret hx hb hr hlk rfl hK hP hD hS dX8_bestOf_51
      · replace hf := ht_t c_7 hf
        refine lv_iconst (v := 0) hx hb dX8_bestOf_44 (by decide) ?_
        refine lv_goto (tgt := 51) hx hb dX8_bestOf_45 (by decide) ?_
        have ho := Option.some.inj hf
        subst ho; subst hQ
        exact ht_iret hx hb hr hlk rfl hK hP hD hS dX8_bestOf_51
    · replace hf := ht_t c_4 hf
      refine lv_iconst (v := -1) hx hb dX8_bestOf_20 (by decide) ?_
      have ho := Option.some.inj hf
      subst ho; subst hQ
      exact ht_iret hx hb hr hlk rfl hK hP hD hS dX8_bestOf_21
abbrev rmX8_odds : Room := { frames := 2, cells := 0, slots := 0, locals := 56 }
theorem hdX8_odds : yX8_odds.cls = RX8 ∧ yX8_odds.cls ≠ "java/lang/invoke/MethodHandle" ∧ yX8_odds.cls ≠ "java/lang/invoke/VarHandle" ∧ (parseMethodDescriptor yX8_odds.desc).map (fun d => d.parameters.length) = some 3 := by decide +kernel
def fX8_odds (RX : HTV) (RN : TownV) (p0 : Int32) (p1 : Int32) (p2 : Int32) : Option Int64 := ht_bn (fX8_within p0 (0 : Int32) (8 : Int32)) (fun o_1 => if o_1 = 0 then (some (-1 : Int64)) else (ht_bn (fX8_within p1 (0 : Int32) p0) (fun o_3 => if o_3 = 0 then (some (-1 : Int64)) else (ht_bn (fX8_within p2 (0 : Int32) (1 : Int32)) (fun o_5 => if o_5 = 0 then (some (-1 : Int64)) else (ht_gd (ht_ix (3 : Int32) 4) (ht_nm ((RN.laws (3 : Int32).toNatClampNeg).toInt64) (fun x4_8 => ht_bn (fX8_waysToDraw p0 p1) (fun o_9 => ht_bn (fX8_power x4_8 p1) (fun o_10 => ht_bn (fX8_power ((100 : Int64) - x4_8) (p0 - p1)) (fun o_11 => ht_nm ((o_9 * o_10) * o_11) (fun x6_12 => ht_bn (fX8_power (100 : Int64) p0) (fun o_13 => ht_bn (fX8_partOf x6_12 o_13 p2) (fun o_14 => some o_14))))))))))))))
set_option maxHeartbeats 1000000 in
set_option maxRecDepth 100000 in
theorem ctX8_odds (l : Launch) (D : va_G) (K : Nat → ClassId) (jX : Nat) (jN : Nat) (aN : Nat → Nat) (kX_kept : Nat) (kX_tried : Nat) (kX_trials : Nat) (kX_pairings : Nat) (kX_tape : Nat) (kX_telling : Nat) (kX_dayRows : Nat) (kX_deed : Nat) (kX_sheets : Nat) (kX_shelvedPerson : Nat) (kX_shelvedRow : Nat) (RX : HTV) (RN : TownV) (p0 : Int32) (p1 : Int32) (p2 : Int32) (o : Int64) (hf : fX8_odds RX RN p0 p1 p2 = some o) (sz : Nat) : Met l yX8_odds wsX8_odds rmX8_odds (ht_Pre D K [.ref jX, .int p0, .int p1, .int p2] (wHT K jX jN kX_kept kX_tried kX_trials kX_pairings kX_tape kX_telling kX_dayRows kX_deed kX_sheets kX_shelvedPerson kX_shelvedRow RX.anythingKept ++ (wTw K jN aN RN.laws RN.kind RN.need RN.saved RN.voice RN.partner RN.speaks RN.count RN.day RN.heard RN.geese RN.z)) sz) (ht_Ql D K (wHT K jX jN kX_kept kX_tried kX_trials kX_pairings kX_tape kX_telling kX_dayRows kX_deed kX_sheets kX_shelvedPerson kX_shelvedRow RX.anythingKept ++ (wTw K jN aN RN.laws RN.kind RN.need RN.saved RN.voice RN.partner RN.speaks RN.count RN.day RN.heard RN.geese RN.z)) o (va_A (wHT K jX jN kX_kept kX_tried kX_trials kX_pairings kX_tape kX_telling kX_dayRows kX_deed kX_sheets kX_shelvedPerson kX_shelvedRow RX.anythingKept ++ (wTw K jN aN RN.laws RN.kind RN.need RN.saved RN.voice RN.partner RN.speaks RN.count RN.day RN.heard RN.geese RN.z)) sz)) 0 0 (va_A (wHT K jX jN kX_kept kX_tried kX_trials kX_pairings kX_tape kX_telling kX_dayRows kX_deed kX_sheets kX_shelvedPerson kX_shelvedRow RX.anythingKept ++ (wTw K jN aN RN.laws RN.kind RN.need RN.saved RN.voice RN.partner RN.speaks RN.count RN.day RN.heard RN.geese RN.z)) sz) := by
  refine ht_enter (Qf := ht_Ql D K (wHT K jX jN kX_kept kX_tried kX_trials kX_pairings kX_tape kX_telling kX_dayRows kX_deed kX_sheets kX_shelvedPerson kX_shelvedRow RX.anythingKept ++ (wTw K jN aN RN.laws RN.kind RN.need RN.saved RN.voice RN.partner RN.speaks RN.count RN.day RN.heard RN.geese RN.z)) o) (cc := cX8_odds) (maxL := 8) (rt := (some .long)) (by decide) rfl (Nat.le_of_ble_eq_true rfl) ?_ sz
  intro p e s m below meth c A Q H locs ls hQ hx hb hr hlk hmn hml hown hts hA hK hP hD hS hl
  have hown : s.vm.findClass RX8 = some m.cls := hown
  have hF : CallFix p m c cX8_odds 8 s ([.ref jX, .int p0, .int p1, .int p2] : List Value).toArray wsX8_odds RX8 := ⟨hx, hb, hml, hown, hts⟩
  have hl : lv_has ls 8 [(0, .ref jX), (1, .int p0), (2, .int p1), (3, .int p2)] := hl
  have kw0 := hts (.constantLong RX8 247 (-1)) (by decide +kernel)
  have iw8 : ∀ w ∈ u_ws RX8 TX8 13, w ∈ wsX8_odds := by decide +kernel
  have kw2 := hts (.fieldLink RX8 10 "HeldTongues" "now" "LHeldTongues$Town;") (by decide +kernel)
  have iw6 : ∀ w ∈ u_ws RX6 TX6 12, w ∈ wsX8_odds := by decide +kernel
  have kw4 := hts (.fieldLink RX8 123 "HeldTongues$Town" "laws" "[I") (by decide +kernel)
  have kw5 := hts (.constantLong RX8 257 (100)) (by decide +kernel)
  delta fX8_odds at hf
  refine lv_iload_n hx hb dX8_odds_0 rfl (lv_at hl 1 rfl) ?_
  refine lv_iconst (v := 0) hx hb dX8_odds_1 (by decide) ?_
  refine lv_bipush (v := 8) hx hb dX8_odds_2 (by decide) ?_
  obtain ⟨o_1, ho_1, hf⟩ := ht_bn_ob hf
  refine ht_callSi (r := o_1) (rest := []) (As := [.int p0, .int (0 : Int32), .int (8 : Int32)]) (wc := []) (wr := (wHT K jX jN kX_kept kX_tried kX_trials kX_pairings kX_tape kX_telling kX_dayRows kX_deed kX_sheets kX_shelvedPerson kX_shelvedRow RX.anythingKept ++ (wTw K jN aN RN.laws RN.kind RN.need RN.saved RN.voice RN.partner RN.speaks RN.count RN.day RN.heard RN.geese RN.z))) (w1 := []) (w2 := (wHT K jX jN kX_kept kX_tried kX_trials kX_pairings kX_tape kX_telling kX_dayRows kX_deed kX_sheets kX_shelvedPerson kX_shelvedRow RX.anythingKept ++ (wTw K jN aN RN.laws RN.kind RN.need RN.saved RN.voice RN.partner RN.speaks RN.count RN.day RN.heard RN.geese RN.z))) hF (ctX8_within l D K p0 (0 : Int32) (8 : Int32) o_1 ho_1 H.size) (va_cwS 3 hts gX8_odds_X8_within rfl rfl rfl hdX8_within ⟨Nat.le_of_ble_eq_true rfl, Nat.le_of_ble_eq_true rfl⟩) hK hP hD hS hA [] [0, 1, 2, 3, 4, 5, 6, 7, 8] rfl rfl (by decide) (by decide) (by decide) [0, 1, 2, 3, 4, 5, 6, 7, 8] rfl (by decide) rfl hl.1 rfl (Nat.le_of_ble_eq_true rfl) dX8_odds_4 ⟨Nat.zero_le _, Nat.zero_le _⟩ (fun H locs hP hD hS => ?_)
  refine lv_if_eq (tgt := 28) hx hb dX8_odds_7 (by decide) (fun c_2 => ?_) (fun c_2 => ?_)
  · replace hf := ht_t c_2 hf
    refine lv_ldc2 hx hb hown kw0 dX8_odds_28 ?_
    have ho := Option.some.inj hf
    subst ho; subst hQ
    exact ht_lret hx hb hr hlk hK hP hD hS dX8_odds_31
  · replace hf := ht_f c_2 hf
    refine lv_iload_n hx hb dX8_odds_10 rfl (lv_at hl 2 rfl) ?_
    refine lv_iconst (v := 0) hx hb dX8_odds_11 (by decide) ?_
    refine lv_iload_n hx hb dX8_odds_12 rfl (lv_at hl 1 rfl) ?_
    obtain ⟨o_3, ho_3, hf⟩ := ht_bn_ob hf
    refine ht_callSi (r := o_3) (rest := []) (As := [.int p1, .int (0 : Int32), .int p0]) (wc := []) (wr := (wHT K jX jN kX_kept kX_tried kX_trials kX_pairings kX_tape kX_telling kX_dayRows kX_deed kX_sheets kX_shelvedPerson kX_shelvedRow RX.anythingKept ++ (wTw K jN aN RN.laws RN.kind RN.need RN.saved RN.voice RN.partner RN.speaks RN.count RN.day RN.heard RN.geese RN.z))) (w1 := []) (w2 := (wHT K jX jN kX_kept kX_tried kX_trials kX_pairings kX_tape kX_telling kX_dayRows kX_deed kX_sheets kX_shelvedPerson kX_shelvedRow RX.anythingKept ++ (wTw K jN aN RN.laws RN.kind RN.need RN.saved RN.voice RN.partner RN.speaks RN.count RN.day RN.heard RN.geese RN.z))) hF (ctX8_within l D K p1 (0 : Int32) p0 o_3 ho_3 H.size) (va_cwS 3 hts gX8_odds_X8_within rfl rfl rfl hdX8_within ⟨Nat.le_of_ble_eq_true rfl, Nat.le_of_ble_eq_true rfl⟩) hK hP hD hS hA [] [0, 1, 2, 3, 4, 5, 6, 7, 8] rfl rfl (by decide) (by decide) (by decide) [0, 1, 2, 3, 4, 5, 6, 7, 8] rfl (by decide) rfl hl.1 rfl (Nat.le_of_ble_eq_true rfl) dX8_odds_13 ⟨Nat.zero_le _, Nat.zero_le _⟩ (fun H locs hP hD hS => ?_)
    refine lv_if_eq (tgt := 28) hx hb dX8_odds_16 (by decide) (fun c_4 => ?_) (fun c_4 => ?_)
    · replace hf := ht_t c_4 hf
      refine lv_ldc2 hx hb hown kw0 dX8_odds_28 ?_
      have ho := Option.some.inj hf
      subst ho; subst hQ
      exact ht_lret hx hb hr hlk hK hP hD hS dX8_odds_31
    · replace hf := ht_f c_4 hf
      refine lv_iload_n hx hb dX8_odds_19 rfl (lv_at hl 3 rfl) ?_
      refine lv_iconst (v := 0) hx hb dX8_odds_20 (by decide) ?_
      refine lv_iconst (v := 1) hx hb dX8_odds_21 (by decide) ?_
      obtain ⟨o_5, ho_5, hf⟩ := ht_bn_ob hf
      refine ht_callSi (r := o_5) (rest := []) (As := [.int p2, .int (0 : Int32), .int (1 : Int32)]) (wc := []) (wr := (wHT K jX jN kX_kept kX_tried kX_trials kX_pairings kX_tape kX_telling kX_dayRows kX_deed kX_sheets kX_shelvedPerson kX_shelvedRow RX.anythingKept ++ (wTw K jN aN RN.laws RN.kind RN.need RN.saved RN.voice RN.partner RN.speaks RN.count RN.day RN.heard RN.geese RN.z))) (w1 := []) (w2 := (wHT K jX jN kX_kept kX_tried kX_trials kX_pairings kX_tape kX_telling kX_dayRows kX_deed kX_sheets kX_shelvedPerson kX_shelvedRow RX.anythingKept ++ (wTw K jN aN RN.laws RN.kind RN.need RN.saved RN.voice RN.partner RN.speaks RN.count RN.day RN.heard RN.geese RN.z))) hF (ctX8_within l D K p2 (0 : Int32) (1 : Int32) o_5 ho_5 H.size) (va_cwS 3 hts gX8_odds_X8_within rfl rfl rfl hdX8_within ⟨Nat.le_of_ble_eq_true rfl, Nat.le_of_ble_eq_true rfl⟩) hK hP hD hS hA [] [0, 1, 2, 3, 4, 5, 6, 7, 8] rfl rfl (by decide) (by decide) (by decide) [0, 1, 2, 3, 4, 5, 6, 7, 8] rfl (by decide) rfl hl.1 rfl (Nat.le_of_ble_eq_true rfl) dX8_odds_22 ⟨Nat.zero_le _, Nat.zero_le _⟩ (fun H locs hP hD hS => ?_)
      refine lv_if_ne (tgt := 32) hx hb dX8_odds_25 (by decide) (fun c_6 => ?_) (fun c_6 => ?_)
      · replace hf := ht_f c_6 hf
        refine lv_aload_n hx hb dX8_odds_32 rfl (lv_at hl 0 rfl) ?_
        refine va_get (D := D) (ci := 8) (v := .ref jN) (C := RX8) (T := TX8) (N := 13) hx hb hts iw8 hown hK hP 0 rfl rfl 0 (by decide) kw2 (fun _ h9 => h9) rfl dX8_odds_33 ?_
        refine va_get (D := D) (ci := 6) (v := .ref (aN 0)) (C := RX6) (T := TX6) (N := 12) hx hb hts iw6 hown hK hP 1 rfl rfl 0 (by decide) kw4 (fun _ h9 => h9) rfl dX8_odds_36 ?_
        refine lv_iconst (v := 3) hx hb dX8_odds_39 (by decide) ?_
        obtain ⟨g_7, hf⟩ := ht_gd_ob hf
        refine va_iald hx hb hK hP 2 1 rfl rfl (ht_ix_in g_7) dX8_odds_40 ?_
        refine lv_i2l hx hb dX8_odds_41 rfl ?_
        obtain ⟨x4_8, ex4_8, hf⟩ := ht_nm_ob hf
        rw [← ex4_8]
        refine lv_lstore (lv' := [(4, .long x4_8), (0, .ref jX), (1, .int p0), (2, .int p1), (3, .int p2)]) hx hb dX8_odds_42 hl (by decide) rfl (fun ls hl => ?_)
        refine lv_iload_n hx hb dX8_odds_44 rfl (lv_at hl 2 rfl) ?_
        refine lv_iload_n hx hb dX8_odds_45 rfl (lv_at hl 3 rfl) ?_
        obtain ⟨o_9, ho_9, hf⟩ := ht_bn_ob hf
        refine ht_callSl (r := o_9) (rest := []) (As := [.int p0, .int p1]) (wc := []) (wr := (wHT K jX jN kX_kept kX_tried kX_trials kX_pairings kX_tape kX_telling kX_dayRows kX_deed kX_sheets kX_shelvedPerson kX_shelvedRow RX.anythingKept ++ (wTw K jN aN RN.laws RN.kind RN.need RN.saved RN.voice RN.partner RN.speaks RN.count RN.day RN.heard RN.geese RN.z))) (w1 := []) (w2 := (wHT K jX jN kX_kept kX_tried kX_trials kX_pairings kX_tape kX_telling kX_dayRows kX_deed kX_sheets kX_shelvedPerson kX_shelvedRow RX.anythingKept ++ (wTw K jN aN RN.laws RN.kind RN.need RN.saved RN.voice RN.partner RN.speaks RN.count RN.day RN.heard RN.geese RN.z))) hF (ctX8_waysToDraw l D K p0 p1 o_9 ho_9 H.size) (va_cwS 2 hts gX8_odds_X8_waysToDraw rfl rfl rfl hdX8_waysToDraw ⟨Nat.le_of_ble_eq_true rfl, Nat.le_of_ble_eq_true rfl⟩) hK hP hD hS hA [] [0, 1, 2, 3, 4, 5, 6, 7, 8] rfl rfl (by decide) (by decide) (by decide) [0, 1, 2, 3, 4, 5, 6, 7, 8] rfl (by decide) rfl hl.1 rfl (Nat.le_of_ble_eq_true rfl) dX8_odds_46 ⟨Nat.zero_le _, Nat.zero_le _⟩ (fun H locs hP hD hS => ?_)
        refine lv_lload hx hb dX8_odds_49 (lv_at hl 0 rfl) ?_
        refine lv_iload_n hx hb dX8_odds_51 rfl (lv_at hl 3 rfl) ?_
        obtain ⟨o_10, ho_10, hf⟩ := ht_bn_ob hf
        refine ht_callSl (r := o_10) (rest := [.long o_9]) (As := [.long x4_8, .int p1]) (wc := []) (wr := (wHT K jX jN kX_kept kX_tried kX_trials kX_pairings kX_tape kX_telling kX_dayRows kX_deed kX_sheets kX_shelvedPerson kX_shelvedRow RX.anythingKept ++ (wTw K jN aN RN.laws RN.kind RN.need RN.saved RN.voice RN.partner RN.speaks RN.count RN.day RN.heard RN.geese RN.z))) (w1 := []) (w2 := (wHT K jX jN kX_kept kX_tried kX_trials kX_pairings kX_tape kX_telling kX_dayRows kX_deed kX_sheets kX_shelvedPerson kX_shelvedRow RX.anythingKept ++ (wTw K jN aN RN.laws RN.kind RN.need RN.saved RN.voice RN.partner RN.speaks RN.count RN.day RN.heard RN.geese RN.z))) hF (ctX8_power l D K x4_8 p1 o_10 ho_10 H.size) (va_cwS 2 hts gX8_odds_X8_power rfl rfl rfl hdX8_power ⟨Nat.le_of_ble_eq_true rfl, Nat.le_of_ble_eq_true rfl⟩) hK hP hD hS hA [] [0, 1, 2, 3, 4, 5, 6, 7, 8] rfl rfl (by decide) (by decide) (by decide) [0, 1, 2, 3, 4, 5, 6, 7, 8] rfl (by decide) rfl hl.1 rfl (Nat.le_of_ble_eq_true rfl) dX8_odds_52 ⟨Nat.zero_le _, Nat.zero_le _⟩ (fun H locs hP hD hS => ?_)
        refine lv_lmul hx hb dX8_odds_55 ?_
        refine lv_ldc2 hx hb hown kw5 dX8_odds_56 ?_
        refine lv_lload hx hb dX8_odds_59 (lv_at hl 0 rfl) ?_
        refine lv_lsub hx hb dX8_odds_61 ?_
        refine lv_iload_n hx hb dX8_odds_62 rfl (lv_at hl 2 rfl) ?_
        refine lv_iload_n hx hb dX8_odds_63 rfl (lv_at hl 3 rfl) ?_
        refine lv_isub hx hb dX8_odds_64 ?_
        obtain ⟨o_11, ho_11, hf⟩ := ht_bn_ob hf
        refine ht_callSl (r := o_11) (rest := [.long (o_9 * o_10)]) (As := [.long ((100 : Int64) - x4_8), .int (p0 - p1)]) (wc := []) (wr := (wHT K jX jN kX_kept kX_tried kX_trials kX_pairings kX_tape kX_telling kX_dayRows kX_deed kX_sheets kX_shelvedPerson kX_shelvedRow RX.anythingKept ++ (wTw K jN aN RN.laws RN.kind RN.need RN.saved RN.voice RN.partner RN.speaks RN.count RN.day RN.heard RN.geese RN.z))) (w1 := []) (w2 := (wHT K jX jN kX_kept kX_tried kX_trials kX_pairings kX_tape kX_telling kX_dayRows kX_deed kX_sheets kX_shelvedPerson kX_shelvedRow RX.anythingKept ++ (wTw K jN aN RN.laws RN.kind RN.need RN.saved RN.voice RN.partner RN.speaks RN.count RN.day RN.heard RN.geese RN.z))) hF (ctX8_power l D K ((100 : Int64) - x4_8) (p0 - p1) o_11 ho_11 H.size) (va_cwS 2 hts gX8_odds_X8_power rfl rfl rfl hdX8_power ⟨Nat.le_of_ble_eq_true rfl, Nat.le_of_ble_eq_true rfl⟩) hK hP hD hS hA [] [0, 1, 2, 3, 4, 5, 6, 7, 8] rfl rfl (by decide) (by decide) (by decide) [0, 1, 2, 3, 4, 5, 6, 7, 8] rfl (by decide) rfl hl.1 rfl (Nat.le_of_ble_eq_true rfl) dX8_odds_65 ⟨Nat.zero_le _, Nat.zero_le _⟩ (fun H locs hP hD hS => ?_)
        refine lv_lmul hx hb dX8_odds_68 ?_
        obtain ⟨x6_12, ex6_12, hf⟩ := ht_nm_ob hf
        rw [← ex6_12]
        refine lv_lstore (lv' := [(6, .long x6_12), (4, .long x4_8), (0, .ref jX), (1, .int p0), (2, .int p1), (3, .int p2)]) hx hb dX8_odds_69 hl (by decide) rfl (fun ls hl => ?_)
        refine lv_lload hx hb dX8_odds_71 (lv_at hl 0 rfl) ?_
        refine lv_ldc2 hx hb hown kw5 dX8_odds_73 ?_
        refine lv_iload_n hx hb dX8_odds_76 rfl (lv_at hl 3 rfl) ?_
        obtain ⟨o_13, ho_13, hf⟩ := ht_bn_ob hf
        refine ht_callSl (r := o_13) (rest := [.long x6_12]) (As := [.long (100 : Int64), .int p0]) (wc := []) (wr := (wHT K jX jN kX_kept kX_tried kX_trials kX_pairings kX_tape kX_telling kX_dayRows kX_deed kX_sheets kX_shelvedPerson kX_shelvedRow RX.anythingKept ++ (wTw K jN aN RN.laws RN.kind RN.need RN.saved RN.voice RN.partner RN.speaks RN.count RN.day RN.heard RN.geese RN.z))) (w1 := []) (w2 := (wHT K jX jN kX_kept kX_tried kX_trials kX_pairings kX_tape kX_telling kX_dayRows kX_deed kX_sheets kX_shelvedPerson kX_shelvedRow RX.anythingKept ++ (wTw K jN aN RN.laws RN.kind RN.need RN.saved RN.voice RN.partner RN.speaks RN.count RN.day RN.heard RN.geese RN.z))) hF (ctX8_power l D K (100 : Int64) p0 o_13 ho_13 H.size) (va_cwS 2 hts gX8_odds_X8_power rfl rfl rfl hdX8_power ⟨Nat.le_of_ble_eq_true rfl, Nat.le_of_ble_eq_true rfl⟩) hK hP hD hS hA [] [0, 1, 2, 3, 4, 5, 6, 7, 8] rfl rfl (by decide) (by decide) (by decide) [0, 1, 2, 3, 4, 5, 6, 7, 8] rfl (by decide) rfl hl.1 rfl (Nat.le_of_ble_eq_true rfl) dX8_odds_77 ⟨Nat.zero_le _, Nat.zero_le _⟩ (fun H locs hP hD hS => ?_)
        refine lv_iload_n hx hb dX8_odds_80 rfl (lv_at hl 5 rfl) ?_
        obtain ⟨o_14, ho_14, hf⟩ := ht_bn_ob hf
        refine ht_callSl (r := o_14) (rest := []) (As := [.long x6_12, .long o_13, .int p2]) (wc := []) (wr := (wHT K jX jN kX_kept kX_tried kX_trials kX_pairings kX_tape kX_telling kX_dayRows kX_deed kX_sheets kX_shelvedPerson kX_shelvedRow RX.anythingKept ++ (wTw K jN aN RN.laws RN.kind RN.need RN.saved RN.voice RN.partner RN.speaks RN.count RN.day RN.heard RN.geese RN.z))) (w1 := []) (w2 := (wHT K jX jN kX_kept kX_tried kX_trials kX_pairings kX_tape kX_telling kX_dayRows kX_deed kX_sheets kX_shelvedPerson kX_shelvedRow RX.anythingKept ++ (wTw K jN aN RN.laws RN.kind RN.need RN.saved RN.voice RN.partner RN.speaks RN.count RN.day RN.heard RN.geese RN.z))) hF (ctX8_partOf l D K x6_12 o_13 p2 o_14 ho_14 H.size) (va_cwS 3 hts gX8_odds_X8_partOf rfl rfl rfl hdX8_partOf ⟨Nat.le_of_ble_eq_true rfl, Nat.le_of_ble_eq_true rfl⟩) hK hP hD hS hA [] [0, 1, 2, 3, 4, 5, 6, 7, 8] rfl rfl (by decide) (by decide) (by decide) [0, 1, 2, 3, 4, 5, 6, 7, 8] rfl (by decide) rfl hl.1 rfl (Nat.le_of_ble_eq_true rfl) dX8_odds_81 ⟨Nat.zero_le _, Nat.zero_le _⟩ (fun H locs hP hD hS => ?_)
        have ho := Option.some.inj hf
        subst ho; subst hQ
        exact ht_lret hx hb hr hlk hK hP hD hS dX8_odds_84
      · replace hf := ht_t c_6 hf
        refine lv_ldc2 hx hb hown kw0 dX8_odds_28 ?_
        have ho := Option.some.inj hf
        subst ho; subst hQ
        exact ht_lret hx hb hr hlk hK hP hD hS dX8_odds_31
abbrev rmX8_hope : Room := { frames := 2, cells := 0, slots := 0, locals := 56 }
theorem hdX8_hope : yX8_hope.cls = RX8 ∧ yX8_hope.cls ≠ "java/lang/invoke/MethodHandle" ∧ yX8_hope.cls ≠ "java/lang/invoke/VarHandle" ∧ (parseMethodDescriptor yX8_hope.desc).map (fun d => d.parameters.length) = some 2 := by decide +kernel
def fX8_hope (RX : HTV) (RN : TownV) (p0 : Int32) (p1 : Int32) : Option Int64 := ht_bn (fX8_within p0 (0 : Int32) (99 : Int32)) (fun o_1 => if o_1 = 0 then (some (-1 : Int64)) else (ht_bn (fX8_within p1 (0 : Int32) (1 : Int32)) (fun o_3 => if o_3 = 0 then (some (-1 : Int64)) else (ht_gd (ht_ix (3 : Int32) 4) (ht_bn (fX8_partOf (p0.toInt64 * (RN.laws (3 : Int32).toNatClampNeg).toInt64) (100 : Int64) p1) (fun o_6 => some o_6))))))
set_option maxHeartbeats 1000000 in
set_option maxRecDepth 100000 in
theorem ctX8_hope (l : Launch) (D : va_G) (K : Nat → ClassId) (jX : Nat) (jN : Nat) (aN : Nat → Nat) (kX_kept : Nat) (kX_tried : Nat) (kX_trials : Nat) (kX_pairings : Nat) (kX_tape : Nat) (kX_telling : Nat) (kX_dayRows : Nat) (kX_deed : Nat) (kX_sheets : Nat) (kX_shelvedPerson : Nat) (kX_shelvedRow : Nat) (RX : HTV) (RN : TownV) (p0 : Int32) (p1 : Int32) (o : Int64) (hf : fX8_hope RX RN p0 p1 = some o) (sz : Nat) : Met l yX8_hope wsX8_hope rmX8_hope (ht_Pre D K [.ref jX, .int p0, .int p1] (wHT K jX jN kX_kept kX_tried kX_trials kX_pairings kX_tape kX_telling kX_dayRows kX_deed kX_sheets kX_shelvedPerson kX_shelvedRow RX.anythingKept ++ (wTw K jN aN RN.laws RN.kind RN.need RN.saved RN.voice RN.partner RN.speaks RN.count RN.day RN.heard RN.geese RN.z)) sz) (ht_Ql D K (wHT K jX jN kX_kept kX_tried kX_trials kX_pairings kX_tape kX_telling kX_dayRows kX_deed kX_sheets kX_shelvedPerson kX_shelvedRow RX.anythingKept ++ (wTw K jN aN RN.laws RN.kind RN.need RN.saved RN.voice RN.partner RN.speaks RN.count RN.day RN.heard RN.geese RN.z)) o (va_A (wHT K jX jN kX_kept kX_tried kX_trials kX_pairings kX_tape kX_telling kX_dayRows kX_deed kX_sheets kX_shelvedPerson kX_shelvedRow RX.anythingKept ++ (wTw K jN aN RN.laws RN.kind RN.need RN.saved RN.voice RN.partner RN.speaks RN.count RN.day RN.heard RN.geese RN.z)) sz)) 0 0 (va_A (wHT K jX jN kX_kept kX_tried kX_trials kX_pairings kX_tape kX_telling kX_dayRows kX_deed kX_sheets kX_shelvedPerson kX_shelvedRow RX.anythingKept ++ (wTw K jN aN RN.laws RN.kind RN.need RN.saved RN.voice RN.partner RN.speaks RN.count RN.day RN.heard RN.geese RN.z)) sz) := by
  refine ht_enter (Qf := ht_Ql D K (wHT K jX jN kX_kept kX_tried kX_trials kX_pairings kX_tape kX_telling kX_dayRows kX_deed kX_sheets kX_shelvedPerson kX_shelvedRow RX.anythingKept ++ (wTw K jN aN RN.laws RN.kind RN.need RN.saved RN.voice RN.partner RN.speaks RN.count RN.day RN.heard RN.geese RN.z)) o) (cc := cX8_hope) (maxL := 3) (rt := (some .long)) (by decide) rfl (Nat.le_of_ble_eq_true rfl) ?_ sz
  intro p e s m below meth c A Q H locs ls hQ hx hb hr hlk hmn hml hown hts hA hK hP hD hS hl
  have hown : s.vm.findClass RX8 = some m.cls := hown
  have hF : CallFix p m c cX8_hope 3 s ([.ref jX, .int p0, .int p1] : List Value).toArray wsX8_hope RX8 := ⟨hx, hb, hml, hown, hts⟩
  have hl : lv_has ls 3 [(0, .ref jX), (1, .int p0), (2, .int p1)] := hl
  have kw0 := hts (.constantLong RX8 247 (-1)) (by decide +kernel)
  have iw8 : ∀ w ∈ u_ws RX8 TX8 13, w ∈ wsX8_hope := by decide +kernel
  have kw2 := hts (.fieldLink RX8 10 "HeldTongues" "now" "LHeldTongues$Town;") (by decide +kernel)
  have iw6 : ∀ w ∈ u_ws RX6 TX6 12, w ∈ wsX8_hope := by decide +kernel
  have kw4 := hts (.fieldLink RX8 123 "HeldTongues$Town" "laws" "[I") (by decide +kernel)
  have kw5 := hts (.constantLong RX8 257 (100)) (by decide +kernel)
  delta fX8_hope at hf
  refine lv_iload_n hx hb dX8_hope_0 rfl (lv_at hl 1 rfl) ?_
  refine lv_iconst (v := 0) hx hb dX8_hope_1 (by decide) ?_
  refine lv_bipush (v := 99) hx hb dX8_hope_2 (by decide) ?_
  obtain ⟨o_1, ho_1, hf⟩ := ht_bn_ob hf
  refine ht_callSi (r := o_1) (rest := []) (As := [.int p0, .int (0 : Int32), .int (99 : Int32)]) (wc := []) (wr := (wHT K jX jN kX_kept kX_tried kX_trials kX_pairings kX_tape kX_telling kX_dayRows kX_deed kX_sheets kX_shelvedPerson kX_shelvedRow RX.anythingKept ++ (wTw K jN aN RN.laws RN.kind RN.need RN.saved RN.voice RN.partner RN.speaks RN.count RN.day RN.heard RN.geese RN.z))) (w1 := []) (w2 := (wHT K jX jN kX_kept kX_tried kX_trials kX_pairings kX_tape kX_telling kX_dayRows kX_deed kX_sheets kX_shelvedPerson kX_shelvedRow RX.anythingKept ++ (wTw K jN aN RN.laws RN.kind RN.need RN.saved RN.voice RN.partner RN.speaks RN.count RN.day RN.heard RN.geese RN.z))) hF (ctX8_within l D K p0 (0 : Int32) (99 : Int32) o_1 ho_1 H.size) (va_cwS 3 hts gX8_hope_X8_within rfl rfl rfl hdX8_within ⟨Nat.le_of_ble_eq_true rfl, Nat.le_of_ble_eq_true rfl⟩) hK hP hD hS hA [] [0, 1, 2, 3, 4, 5, 6, 7, 8] rfl rfl (by decide) (by decide) (by decide) [0, 1, 2, 3, 4, 5, 6, 7, 8] rfl (by decide) rfl hl.1 rfl (Nat.le_of_ble_eq_true rfl) dX8_hope_4 ⟨Nat.zero_le _, Nat.zero_le _⟩ (fun H locs hP hD hS => ?_)
  refine lv_if_eq (tgt := 19) hx hb dX8_hope_7 (by decide) (fun c_2 => ?_) (fun c_2 => ?_)
  · replace hf := ht_t c_2 hf
    refine lv_ldc2 hx hb hown kw0 dX8_hope_19 ?_
    have ho := Option.some.inj hf
    subst ho; subst hQ
    exact ht_lret hx hb hr hlk hK hP hD hS dX8_hope_22
  · replace hf := ht_f c_2 hf
    refine lv_iload_n hx hb dX8_hope_10 rfl (lv_at hl 2 rfl) ?_
    refine lv_iconst (v := 0) hx hb dX8_hope_11 (by decide) ?_
    refine lv_iconst (v := 1) hx hb dX8_hope_12 (by decide) ?_
    obtain ⟨o_3, ho_3, hf⟩ := ht_bn_ob hf
    refine ht_callSi (r := o_3) (rest := []) (As := [.int p1, .int (0 : Int32), .int (1 : Int32)]) (wc := []) (wr := (wHT K jX jN kX_kept kX_tried kX_trials kX_pairings kX_tape kX_telling kX_dayRows kX_deed kX_sheets kX_shelvedPerson kX_shelvedRow RX.anythingKept ++ (wTw K jN aN RN.laws RN.kind RN.need RN.saved RN.voice RN.partner RN.speaks RN.count RN.day RN.heard RN.geese RN.z))) (w1 := []) (w2 := (wHT K jX jN kX_kept kX_tried kX_trials kX_pairings kX_tape kX_telling kX_dayRows kX_deed kX_sheets kX_shelvedPerson kX_shelvedRow RX.anythingKept ++ (wTw K jN aN RN.laws RN.kind RN.need RN.saved RN.voice RN.partner RN.speaks RN.count RN.day RN.heard RN.geese RN.z))) hF (ctX8_within l D K p1 (0 : Int32) (1 : Int32) o_3 ho_3 H.size) (va_cwS 3 hts gX8_hope_X8_within rfl rfl rfl hdX8_within ⟨Nat.le_of_ble_eq_true rfl, Nat.le_of_ble_eq_true rfl⟩) hK hP hD hS hA [] [0, 1, 2, 3, 4, 5, 6, 7, 8] rfl rfl (by decide) (by decide) (by decide) [0, 1, 2, 3, 4, 5, 6, 7, 8] rfl (by decide) rfl hl.1 rfl (Nat.le_of_ble_eq_true rfl) dX8_hope_13 ⟨Nat.zero_le _, Nat.zero_le _⟩ (fun H locs hP hD hS => ?_)
    refine lv_if_ne (tgt := 23) hx hb dX8_hope_16 (by decide) (fun c_4 => ?_) (fun c_4 => ?_)
    · replace hf := ht_f c_4 hf
      refine lv_iload_n hx hb dX8_hope_23 rfl (lv_at hl 1 rfl) ?_
      refine lv_i2l hx hb dX8_hope_24 rfl ?_
      refine lv_aload_n hx hb dX8_hope_25 rfl (lv_at hl 0 rfl) ?_
      refine va_get (D := D) (ci := 8) (v := .ref jN) (C := RX8) (T := TX8) (N := 13) hx hb hts iw8 hown hK hP 0 rfl rfl 0 (by decide) kw2 (fun _ h9 => h9) rfl dX8_hope_26 ?_
      refine va_get (D := D) (ci := 6) (v := .ref (aN 0)) (C := RX6) (T := TX6) (N := 12) hx hb hts iw6 hown hK hP 1 rfl rfl 0 (by decide) kw4 (fun _ h9 => h9) rfl dX8_hope_29 ?_
      refine lv_iconst (v := 3) hx hb dX8_hope_32 (by decide) ?_
      obtain ⟨g_5, hf⟩ := ht_gd_ob hf
      refine va_iald hx hb hK hP 2 1 rfl rfl (ht_ix_in g_5) dX8_hope_33 ?_
      refine lv_i2l hx hb dX8_hope_34 rfl ?_
      refine lv_lmul hx hb dX8_hope_35 ?_
      refine lv_ldc2 hx hb hown kw5 dX8_hope_36 ?_
      refine lv_iload_n hx hb dX8_hope_39 rfl (lv_at hl 2 rfl) ?_
      obtain ⟨o_6, ho_6, hf⟩ := ht_bn_ob hf
      refine ht_callSl (r := o_6) (rest := []) (As := [.long (p0.toInt64 * (RN.laws (3 : Int32).toNatClampNeg).toInt64), .long (100 : Int64), .int p1]) (wc := []) (wr := (wHT K jX jN kX_kept kX_tried kX_trials kX_pairings kX_tape kX_telling kX_dayRows kX_deed kX_sheets kX_shelvedPerson kX_shelvedRow RX.anythingKept ++ (wTw K jN aN RN.laws RN.kind RN.need RN.saved RN.voice RN.partner RN.speaks RN.count RN.day RN.heard RN.geese RN.z))) (w1 := []) (w2 := (wHT K jX jN kX_kept kX_tried kX_trials kX_pairings kX_tape kX_telling kX_dayRows kX_deed kX_sheets kX_shelvedPerson kX_shelvedRow RX.anythingKept ++ (wTw K jN aN RN.laws RN.kind RN.need RN.saved RN.voice RN.partner RN.speaks RN.count RN.day RN.heard RN.geese RN.z))) hF (ctX8_partOf l D K (p0.toInt64 * (RN.laws (3 : Int32).toNatClampNeg).toInt64) (100 : Int64) p1 o_6 ho_6 H.size) (va_cwS 3 hts gX8_hope_X8_partOf rfl rfl rfl hdX8_partOf ⟨Nat.le_of_ble_eq_true rfl, Nat.le_of_ble_eq_true rfl⟩) hK hP hD hS hA [] [0, 1, 2, 3, 4, 5, 6, 7, 8] rfl rfl (by decide) (by decide) (by decide) [0, 1, 2, 3, 4, 5, 6, 7, 8] rfl (by decide) rfl hl.1 rfl (Nat.le_of_ble_eq_true rfl) dX8_hope_40 ⟨Nat.zero_le _, Nat.zero_le _⟩ (fun H locs hP hD hS => ?_)
      have ho := Option.some.inj hf
      subst ho; subst hQ
      exact ht_lret hx hb hr hlk hK hP hD hS dX8_hope_43
    · replace hf := ht_t c_4 hf
      refine lv_ldc2 hx hb hown kw0 dX8_hope_19 ?_
      have ho := Option.some.inj hf
      subst ho; subst hQ
      exact ht_lret hx hb hr hlk hK hP hD hS dX8_hope_22
abbrev rmX8_prove : Room := { frames := 5, cells := 0, slots := 0, locals := 113 }
theorem hdX8_prove : yX8_prove.cls = RX8 ∧ yX8_prove.cls ≠ "java/lang/invoke/MethodHandle" ∧ yX8_prove.cls ≠ "java/lang/invoke/VarHandle" ∧ (parseMethodDescriptor yX8_prove.desc).map (fun d => d.parameters.length) = some 2 := by decide +kernel
def fX8_prove (RX : HTV) (RR : DayV) (RN : TownV) (RT : TownV) (p0 : Int32) (p1 : Int32) : Option (Int32 × AI × Int32 × AI × AI × AI × AI × AI × AI × AI × Int32 × Int32 × Int32 × Int32 × Int32) := ht_bn (fX6_has RN p0) (fun o_1 => if o_1 = 0 then (some ((-1 : Int32), RR.numbers, RR.count, RT.laws, RT.kind, RT.need, RT.saved, RT.voice, RT.partner, RT.speaks, RT.count, RT.day, RT.heard, RT.geese, RT.z)) else (ht_bn (fX8_within p1 (1 : Int32) (10 : Int32)) (fun o_3 => if o_3 = 0 then (some ((-1 : Int32), RR.numbers, RR.count, RT.laws, RT.kind, RT.need, RT.saved, RT.voice, RT.partner, RT.speaks, RT.count, RT.day, RT.heard, RT.geese, RT.z)) else (ht_bn (fX0_write RR RN RT p0 p1) (fun o_5 => some (p1, o_5.1, o_5.2.1, o_5.2.2.1, o_5.2.2.2.1, o_5.2.2.2.2.1, o_5.2.2.2.2.2.1, o_5.2.2.2.2.2.2.1, o_5.2.2.2.2.2.2.2.1, o_5.2.2.2.2.2.2.2.2.1, o_5.2.2.2.2.2.2.2.2.2.1, o_5.2.2.2.2.2.2.2.2.2.2.1, o_5.2.2.2.2.2.2.2.2.2.2.2.1, o_5.2.2.2.2.2.2.2.2.2.2.2.2.1, o_5.2.2.2.2.2.2.2.2.2.2.2.2.2))))))
set_option maxHeartbeats 1000000 in
set_option maxRecDepth 100000 in
theorem ctX8_prove (l : Launch) (D : va_G) (K : Nat → ClassId) (jX : Nat) (jR : Nat) (aR : Nat → Nat) (jN : Nat) (aN : Nat → Nat) (jT : Nat) (aT : Nat → Nat) (kX_kept : Nat) (kX_trials : Nat) (kX_pairings : Nat) (kX_tape : Nat) (kX_telling : Nat) (kX_deed : Nat) (kX_sheets : Nat) (kX_shelvedPerson : Nat) (kX_shelvedRow : Nat) (RX : HTV) (RR : DayV) (RN : TownV) (RT : TownV) (p0 : Int32) (p1 : Int32) (o : (Int32 × AI × Int32 × AI × AI × AI × AI × AI × AI × AI × Int32 × Int32 × Int32 × Int32 × Int32)) (hf : fX8_prove RX RR RN RT p0 p1 = some o) (sz : Nat) : Met l yX8_prove wsX8_prove rmX8_prove (ht_Pre D K [.ref jX, .int p0, .int p1] (wHT K jX jN kX_kept jT kX_trials kX_pairings kX_tape kX_telling jR kX_deed kX_sheets kX_shelvedPerson kX_shelvedRow RX.anythingKept ++ (wDr K jR aR jN jT RR.numbers RR.count ++ (wTw K jN aN RN.laws RN.kind RN.need RN.saved RN.voice RN.partner RN.speaks RN.count RN.day RN.heard RN.geese RN.z ++ (wTw K jT aT RT.laws RT.kind RT.need RT.saved RT.voice RT.partner RT.speaks RT.count RT.day RT.heard RT.geese RT.z)))) sz) (ht_Qi D K (wHT K jX jN kX_kept jT kX_trials kX_pairings kX_tape kX_telling jR kX_deed kX_sheets kX_shelvedPerson kX_shelvedRow RX.anythingKept ++ (wDr K jR aR jN jT o.2.1 o.2.2.1 ++ (wTw K jN aN RN.laws RN.kind RN.need RN.saved RN.voice RN.partner RN.speaks RN.count RN.day RN.heard RN.geese RN.z ++ (wTw K jT aT o.2.2.2.1 o.2.2.2.2.1 o.2.2.2.2.2.1 o.2.2.2.2.2.2.1 o.2.2.2.2.2.2.2.1 o.2.2.2.2.2.2.2.2.1 o.2.2.2.2.2.2.2.2.2.1 o.2.2.2.2.2.2.2.2.2.2.1 o.2.2.2.2.2.2.2.2.2.2.2.1 o.2.2.2.2.2.2.2.2.2.2.2.2.1 o.2.2.2.2.2.2.2.2.2.2.2.2.2.1 o.2.2.2.2.2.2.2.2.2.2.2.2.2.2)))) o.1 (va_A (wHT K jX jN kX_kept jT kX_trials kX_pairings kX_tape kX_telling jR kX_deed kX_sheets kX_shelvedPerson kX_shelvedRow RX.anythingKept ++ (wDr K jR aR jN jT RR.numbers RR.count ++ (wTw K jN aN RN.laws RN.kind RN.need RN.saved RN.voice RN.partner RN.speaks RN.count RN.day RN.heard RN.geese RN.z ++ (wTw K jT aT RT.laws RT.kind RT.need RT.saved RT.voice RT.partner RT.speaks RT.count RT.day RT.heard RT.geese RT.z)))) sz)) 0 0 (va_A (wHT K jX jN kX_kept jT kX_trials kX_pairings kX_tape kX_telling jR kX_deed kX_sheets kX_shelvedPerson kX_shelvedRow RX.anythingKept ++ (wDr K jR aR jN jT RR.numbers RR.count ++ (wTw K jN aN RN.laws RN.kind RN.need RN.saved RN.voice RN.partner RN.speaks RN.count RN.day RN.heard RN.geese RN.z ++ (wTw K jT aT RT.laws RT.kind RT.need RT.saved RT.voice RT.partner RT.speaks RT.count RT.day RT.heard RT.geese RT.z)))) sz) := by
  refine ht_enter (Qf := ht_Qi D K (wHT K jX jN kX_kept jT kX_trials kX_pairings kX_tape kX_telling jR kX_deed kX_sheets kX_shelvedPerson kX_shelvedRow RX.anythingKept ++ (wDr K jR aR jN jT o.2.1 o.2.2.1 ++ (wTw K jN aN RN.laws RN.kind RN.need RN.saved RN.voice RN.partner RN.speaks RN.count RN.day RN.heard RN.geese RN.z ++ (wTw K jT aT o.2.2.2.1 o.2.2.2.2.1 o.2.2.2.2.2.1 o.2.2.2.2.2.2.1 o.2.2.2.2.2.2.2.1 o.2.2.2.2.2.2.2.2.1 o.2.2.2.2.2.2.2.2.2.1 o.2.2.2.2.2.2.2.2.2.2.1 o.2.2.2.2.2.2.2.2.2.2.2.1 o.2.2.2.2.2.2.2.2.2.2.2.2.1 o.2.2.2.2.2.2.2.2.2.2.2.2.2.1 o.2.2.2.2.2.2.2.2.2.2.2.2.2.2)))) o.1) (cc := cX8_prove) (maxL := 3) (rt := (some .int)) (by decide) rfl (Nat.le_of_ble_eq_true rfl) ?_ sz
  intro p e s m below meth c A Q H locs ls hQ hx hb hr hlk hmn hml hown hts hA hK hP hD hS hl
  have hown : s.vm.findClass RX8 = some m.cls := hown
  have hF : CallFix p m c cX8_prove 3 s ([.ref jX, .int p0, .int p1] : List Value).toArray wsX8_prove RX8 := ⟨hx, hb, hml, hown, hts⟩
  have hl : lv_has ls 3 [(0, .ref jX), (1, .int p0), (2, .int p1)] := hl
  have iw8 : ∀ w ∈ u_ws RX8 TX8 13, w ∈ wsX8_prove := by decide +kernel
  have kw1 := hts (.fieldLink RX8 10 "HeldTongues" "now" "LHeldTongues$Town;") (by decide +kernel)
  have kw2 := hts (.fieldLink RX8 59 "HeldTongues" "dayRows" "LHeldTongues$DayRows;") (by decide +kernel)
  delta fX8_prove at hf
  refine lv_aload_n hx hb dX8_prove_0 rfl (lv_at hl 0 rfl) ?_
  refine va_get (D := D) (ci := 8) (v := .ref jN) (C := RX8) (T := TX8) (N := 13) hx hb hts iw8 hown hK hP 0 rfl rfl 0 (by decide) kw1 (fun _ h9 => h9) rfl dX8_prove_1 ?_
  refine lv_iload_n hx hb dX8_prove_4 rfl (lv_at hl 1 rfl) ?_
  obtain ⟨o_1, ho_1, hf⟩ := ht_bn_ob hf
  refine ht_callVi (r := o_1) (rest := []) (As := [.int p0]) (wc := (wTw K jN aN RN.laws RN.kind RN.need RN.saved RN.voice RN.partner RN.speaks RN.count RN.day RN.heard RN.geese RN.z)) (wr := (wHT K jX jN kX_kept jT kX_trials kX_pairings kX_tape kX_telling jR kX_deed kX_sheets kX_shelvedPerson kX_shelvedRow RX.anythingKept ++ (wDr K jR aR jN jT RR.numbers RR.count ++ (wTw K jT aT RT.laws RT.kind RT.need RT.saved RT.voice RT.partner RT.speaks RT.count RT.day RT.heard RT.geese RT.z)))) (w1 := (wTw K jN aN RN.laws RN.kind RN.need RN.saved RN.voice RN.partner RN.speaks RN.count RN.day RN.heard RN.geese RN.z)) (w2 := (wHT K jX jN kX_kept jT kX_trials kX_pairings kX_tape kX_telling jR kX_deed kX_sheets kX_shelvedPerson kX_shelvedRow RX.anythingKept ++ (wDr K jR aR jN jT RR.numbers RR.count ++ (wTw K jN aN RN.laws RN.kind RN.need RN.saved RN.voice RN.partner RN.speaks RN.count RN.day RN.heard RN.geese RN.z ++ (wTw K jT aT RT.laws RT.kind RT.need RT.saved RT.voice RT.partner RT.speaks RT.count RT.day RT.heard RT.geese RT.z))))) hF (ctX6_has l D K jN aN RN p0 o_1 ho_1 H.size) (cwV 1 hts gX8_prove_X6_has rfl rfl rfl hdX6_has ⟨Nat.le_of_ble_eq_true rfl, Nat.le_of_ble_eq_true rfl⟩) hK hP hD hS hA [3, 4, 5, 6, 7, 8, 9, 10] [0, 1, 2, 11, 12, 13, 14, 15, 16, 17, 18] rfl rfl (by decide) (by decide) (by decide) [0, 1, 2, 11, 12, 13, 14, 15, 16, 17, 18, 3, 4, 5, 6, 7, 8, 9, 10] rfl (by decide) (va_recv hK hP (ci := 6) (q0 := 3) rfl rfl) rfl hl.1 rfl (Nat.le_of_ble_eq_true rfl) dX8_prove_5 ⟨Nat.zero_le _, Nat.zero_le _⟩ (fun H locs hP hD hS => ?_)
  refine lv_if_eq (tgt := 21) hx hb dX8_prove_8 (by decide) (fun c_2 => ?_) (fun c_2 => ?_)
  · replace hf := ht_t c_2 hf
    refine lv_iconst (v := -1) hx hb dX8_prove_21 (by decide) ?_
    have ho := Option.some.inj hf
    subst ho; subst hQ
    exact ht_iret hx hb hr hlk rfl hK hP hD hS dX8_prove_22
  · replace hf := ht_f c_2 hf
    refine lv_iload_n hx hb dX8_prove_11 rfl (lv_at hl 2 rfl) ?_
    refine lv_iconst (v := 1) hx hb dX8_prove_12 (by decide) ?_
    refine lv_bipush (v := 10) hx hb dX8_prove_13 (by decide) ?_
    obtain ⟨o_3, ho_3, hf⟩ := ht_bn_ob hf
    refine ht_callSi (r := o_3) (rest := []) (As := [.int p1, .int (1 : Int32), .int (10 : Int32)]) (wc := []) (wr := (wHT K jX jN kX_kept jT kX_trials kX_pairings kX_tape kX_telling jR kX_deed kX_sheets kX_shelvedPerson kX_shelvedRow RX.anythingKept ++ (wDr K jR aR jN jT RR.numbers RR.count ++ (wTw K jN aN RN.laws RN.kind RN.need RN.saved RN.voice RN.partner RN.speaks RN.count RN.day RN.heard RN.geese RN.z ++ (wTw K jT aT RT.laws RT.kind RT.need RT.saved RT.voice RT.partner RT.speaks RT.count RT.day RT.heard RT.geese RT.z))))) (w1 := []) (w2 := (wHT K jX jN kX_kept jT kX_trials kX_pairings kX_tape kX_telling jR kX_deed kX_sheets kX_shelvedPerson kX_shelvedRow RX.anythingKept ++ (wDr K jR aR jN jT RR.numbers RR.count ++ (wTw K jN aN RN.laws RN.kind RN.need RN.saved RN.voice RN.partner RN.speaks RN.count RN.day RN.heard RN.geese RN.z ++ (wTw K jT aT RT.laws RT.kind RT.need RT.saved RT.voice RT.partner RT.speaks RT.count RT.day RT.heard RT.geese RT.z))))) hF (ctX8_within l D K p1 (1 : Int32) (10 : Int32) o_3 ho_3 H.size) (va_cwS 3 hts gX8_prove_X8_within rfl rfl rfl hdX8_within ⟨Nat.le_of_ble_eq_true rfl, Nat.le_of_ble_eq_true rfl⟩) hK hP hD hS hA [] [0, 1, 2, 3, 4, 5, 6, 7, 8, 9, 10, 11, 12, 13, 14, 15, 16, 17, 18] rfl rfl (by decide) (by decide) (by decide) [0, 1, 2, 3, 4, 5, 6, 7, 8, 9, 10, 11, 12, 13, 14, 15, 16, 17, 18] rfl (by decide) rfl hl.1 rfl (Nat.le_of_ble_eq_true rfl) dX8_prove_15 ⟨Nat.zero_le _, Nat.zero_le _⟩ (fun H locs hP hD hS => ?_)
    refine lv_if_ne (tgt := 23) hx hb dX8_prove_18 (by decide) (fun c_4 => ?_) (fun c_4 => ?_)
    · replace hf := ht_f c_4 hf
      refine lv_aload_n hx hb dX8_prove_23 rfl (lv_at hl 0 rfl) ?_
      refine va_get (D := D) (ci := 8) (v := .ref jR) (C := RX8) (T := TX8) (N := 13) hx hb hts iw8 hown hK hP 0 rfl rfl 7 (by decide) kw2 (fun _ h9 => h9) rfl dX8_prove_24 ?_
      refine lv_iload_n hx hb dX8_prove_27 rfl (lv_at hl 1 rfl) ?_
      refine lv_iload_n hx hb dX8_prove_28 rfl (lv_at hl 2 rfl) ?_
      obtain ⟨o_5, ho_5, hf⟩ := ht_bn_ob hf
      refine ht_callVv (rest := []) (As := [.int p0, .int p1]) (wc := (wDr K jR aR jN jT RR.numbers RR.count ++ (wTw K jN aN RN.laws RN.kind RN.need RN.saved RN.voice RN.partner RN.speaks RN.count RN.day RN.heard RN.geese RN.z ++ (wTw K jT aT RT.laws RT.kind RT.need RT.saved RT.voice RT.partner RT.speaks RT.count RT.day RT.heard RT.geese RT.z)))) (wr := (wHT K jX jN kX_kept jT kX_trials kX_pairings kX_tape kX_telling jR kX_deed kX_sheets kX_shelvedPerson kX_shelvedRow RX.anythingKept)) (w1 := (wDr K jR aR jN jT o_5.1 o_5.2.1 ++ (wTw K jN aN RN.laws RN.kind RN.need RN.saved RN.voice RN.partner RN.speaks RN.count RN.day RN.heard RN.geese RN.z ++ (wTw K jT aT o_5.2.2.1 o_5.2.2.2.1 o_5.2.2.2.2.1 o_5.2.2.2.2.2.1 o_5.2.2.2.2.2.2.1 o_5.2.2.2.2.2.2.2.1 o_5.2.2.2.2.2.2.2.2.1 o_5.2.2.2.2.2.2.2.2.2.1 o_5.2.2.2.2.2.2.2.2.2.2.1 o_5.2.2.2.2.2.2.2.2.2.2.2.1 o_5.2.2.2.2.2.2.2.2.2.2.2.2.1 o_5.2.2.2.2.2.2.2.2.2.2.2.2.2)))) (w2 := (wHT K jX jN kX_kept jT kX_trials kX_pairings kX_tape kX_telling jR kX_deed kX_sheets kX_shelvedPerson kX_shelvedRow RX.anythingKept ++ (wDr K jR aR jN jT o_5.1 o_5.2.1 ++ (wTw K jN aN RN.laws RN.kind RN.need RN.saved RN.voice RN.partner RN.speaks RN.count RN.day RN.heard RN.geese RN.z ++ (wTw K jT aT o_5.2.2.1 o_5.2.2.2.1 o_5.2.2.2.2.1 o_5.2.2.2.2.2.1 o_5.2.2.2.2.2.2.1 o_5.2.2.2.2.2.2.2.1 o_5.2.2.2.2.2.2.2.2.1 o_5.2.2.2.2.2.2.2.2.2.1 o_5.2.2.2.2.2.2.2.2.2.2.1 o_5.2.2.2.2.2.2.2.2.2.2.2.1 o_5.2.2.2.2.2.2.2.2.2.2.2.2.1 o_5.2.2.2.2.2.2.2.2.2.2.2.2.2))))) hF (ctX0_write l D K jR aR jN aN jT aT RR RN RT p0 p1 o_5 ho_5 H.size) (cwV 2 hts gX8_prove_X0_write rfl rfl rfl hdX0_write ⟨Nat.le_of_ble_eq_true rfl, Nat.le_of_ble_eq_true rfl⟩) hK hP hD hS hA [1, 2, 3, 4, 5, 6, 7, 8, 9, 10, 11, 12, 13, 14, 15, 16, 17, 18] [0] rfl rfl (by decide) (by decide) (by decide) [0, 1, 2, 3, 4, 5, 6, 7, 8, 9, 10, 11, 12, 13, 14, 15, 16, 17, 18] rfl (by decide) (va_recv hK hP (ci := 0) (q0 := 1) rfl rfl) rfl hl.1 rfl (Nat.le_of_ble_eq_true rfl) dX8_prove_29 ⟨Nat.zero_le _, Nat.zero_le _⟩ (fun H locs hP hD hS => ?_)
      refine lv_iload_n hx hb dX8_prove_32 rfl (lv_at hl 2 rfl) ?_
      have ho := Option.some.inj hf
      subst ho; subst hQ
      exact ht_iret hx hb hr hlk rfl hK hP hD hS dX8_prove_33
    · replace hf := ht_t c_4 hf
      refine lv_iconst (v := -1) hx hb dX8_prove_21 (by decide) ?_
      have ho := Option.some.inj hf
      subst ho; subst hQ
      exact ht_iret hx hb hr hlk rfl hK hP hD hS dX8_prove_22
abbrev rmX8_row : Room := { frames := 1, cells := 0, slots := 0, locals := 22 }
theorem hdX8_row : yX8_row.cls = RX8 ∧ yX8_row.cls ≠ "java/lang/invoke/MethodHandle" ∧ yX8_row.cls ≠ "java/lang/invoke/VarHandle" ∧ (parseMethodDescriptor yX8_row.desc).map (fun d => d.parameters.length) = some 2 := by decide +kernel
def fX8_row (RX : HTV) (RR : DayV) (p0 : Int32) (p1 : Int32) : Option Int32 := ht_bn (fX0_has RR p0 p1) (fun o_1 => if o_1 = 0 then (some (-9 : Int32)) else (ht_bn (fX0_placeOf RR p0 p1) (fun o_3 => ht_gd (ht_ix o_3 30) (some (RR.numbers o_3.toNatClampNeg)))))
set_option maxHeartbeats 1000000 in
set_option maxRecDepth 100000 in
theorem ctX8_row (l : Launch) (D : va_G) (K : Nat → ClassId) (jX : Nat) (jR : Nat) (aR : Nat → Nat) (kX_now : Nat) (kX_kept : Nat) (kX_tried : Nat) (kX_trials : Nat) (kX_pairings : Nat) (kX_tape : Nat) (kX_telling : Nat) (kX_deed : Nat) (kX_sheets : Nat) (kX_shelvedPerson : Nat) (kX_shelvedRow : Nat) (kR_now : Nat) (kR_tried : Nat) (RX : HTV) (RR : DayV) (p0 : Int32) (p1 : Int32) (o : Int32) (hf : fX8_row RX RR p0 p1 = some o) (sz : Nat) : Met l yX8_row wsX8_row rmX8_row (ht_Pre D K [.ref jX, .int p0, .int p1] (wHT K jX kX_now kX_kept kX_tried kX_trials kX_pairings kX_tape kX_telling jR kX_deed kX_sheets kX_shelvedPerson kX_shelvedRow RX.anythingKept ++ (wDr K jR aR kR_now kR_tried RR.numbers RR.count)) sz) (ht_Qi D K (wHT K jX kX_now kX_kept kX_tried kX_trials kX_pairings kX_tape kX_telling jR kX_deed kX_sheets kX_shelvedPerson kX_shelvedRow RX.anythingKept ++ (wDr K jR aR kR_now kR_tried RR.numbers RR.count)) o (va_A (wHT K jX kX_now kX_kept kX_tried kX_trials kX_pairings kX_tape kX_telling jR kX_deed kX_sheets kX_shelvedPerson kX_shelvedRow RX.anythingKept ++ (wDr K jR aR kR_now kR_tried RR.numbers RR.count)) sz)) 0 0 (va_A (wHT K jX kX_now kX_kept kX_tried kX_trials kX_pairings kX_tape kX_telling jR kX_deed kX_sheets kX_shelvedPerson kX_shelvedRow RX.anythingKept ++ (wDr K jR aR kR_now kR_tried RR.numbers RR.count)) sz) := by
  refine ht_enter (Qf := ht_Qi D K (wHT K jX kX_now kX_kept kX_tried kX_trials kX_pairings kX_tape kX_telling jR kX_deed kX_sheets kX_shelvedPerson kX_shelvedRow RX.anythingKept ++ (wDr K jR aR kR_now kR_tried RR.numbers RR.count)) o) (cc := cX8_row) (maxL := 3) (rt := (some .int)) (by decide) rfl (Nat.le_of_ble_eq_true rfl) ?_ sz
  intro p e s m below meth c A Q H locs ls hQ hx hb hr hlk hmn hml hown hts hA hK hP hD hS hl
  have hown : s.vm.findClass RX8 = some m.cls := hown
  have hF : CallFix p m c cX8_row 3 s ([.ref jX, .int p0, .int p1] : List Value).toArray wsX8_row RX8 := ⟨hx, hb, hml, hown, hts⟩
  have hl : lv_has ls 3 [(0, .ref jX), (1, .int p0), (2, .int p1)] := hl
  have iw8 : ∀ w ∈ u_ws RX8 TX8 13, w ∈ wsX8_row := by decide +kernel
  have kw1 := hts (.fieldLink RX8 59 "HeldTongues" "dayRows" "LHeldTongues$DayRows;") (by decide +kernel)
  have iw0 : ∀ w ∈ u_ws RX0 TX0 4, w ∈ wsX8_row := by decide +kernel
  have kw3 := hts (.fieldLink RX8 269 "HeldTongues$DayRows" "numbers" "[I") (by decide +kernel)
  delta fX8_row at hf
  refine lv_aload_n hx hb dX8_row_0 rfl (lv_at hl 0 rfl) ?_
  refine va_get (D := D) (ci := 8) (v := .ref jR) (C := RX8) (T := TX8) (N := 13) hx hb hts iw8 hown hK hP 0 rfl rfl 7 (by decide) kw1 (fun _ h9 => h9) rfl dX8_row_1 ?_
  refine lv_iload_n hx hb dX8_row_4 rfl (lv_at hl 1 rfl) ?_
  refine lv_iload_n hx hb dX8_row_5 rfl (lv_at hl 2 rfl) ?_
  obtain ⟨o_1, ho_1, hf⟩ := ht_bn_ob hf
  refine ht_callVi (r := o_1) (rest := []) (As := [.int p0, .int p1]) (wc := (wDr K jR aR kR_now kR_tried RR.numbers RR.count)) (wr := (wHT K jX kX_now kX_kept kX_tried kX_trials kX_pairings kX_tape kX_telling jR kX_deed kX_sheets kX_shelvedPerson kX_shelvedRow RX.anythingKept)) (w1 := (wDr K jR aR kR_now kR_tried RR.numbers RR.count)) (w2 := (wHT K jX kX_now kX_kept kX_tried kX_trials kX_pairings kX_tape kX_telling jR kX_deed kX_sheets kX_shelvedPerson kX_shelvedRow RX.anythingKept ++ (wDr K jR aR kR_now kR_tried RR.numbers RR.count))) hF (ctX0_has l D K jR aR kR_now kR_tried RR p0 p1 o_1 ho_1 H.size) (cwV 2 hts gX8_row_X0_has rfl rfl rfl hdX0_has ⟨Nat.le_of_ble_eq_true rfl, Nat.le_of_ble_eq_true rfl⟩) hK hP hD hS hA [1, 2] [0] rfl rfl (by decide) (by decide) (by decide) [0, 1, 2] rfl (by decide) (va_recv hK hP (ci := 0) (q0 := 1) rfl rfl) rfl hl.1 rfl (Nat.le_of_ble_eq_true rfl) dX8_row_6 ⟨Nat.zero_le _, Nat.zero_le _⟩ (fun H locs hP hD hS => ?_)
  refine lv_if_eq (tgt := 32) hx hb dX8_row_9 (by decide) (fun c_2 => ?_) (fun c_2 => ?_)
  · replace hf := ht_t c_2 hf
    refine lv_bipush (v := -9) hx hb dX8_row_32 (by decide) ?_
    have ho := Option.some.inj hf
    subst ho; subst hQ
    exact ht_iret hx hb hr hlk rfl hK hP hD hS dX8_row_34
  · replace hf := ht_f c_2 hf
    refine lv_aload_n hx hb dX8_row_12 rfl (lv_at hl 0 rfl) ?_
    refine va_get (D := D) (ci := 8) (v := .ref jR) (C := RX8) (T := TX8) (N := 13) hx hb hts iw8 hown hK hP 0 rfl rfl 7 (by decide) kw1 (fun _ h9 => h9) rfl dX8_row_13 ?_
    refine va_get (D := D) (ci := 0) (v := .ref (aR 0)) (C := RX0) (T := TX0) (N := 4) hx hb hts iw0 hown hK hP 1 rfl rfl 2 (by decide) kw3 (fun _ h9 => h9) rfl dX8_row_16 ?_
    refine lv_aload_n hx hb dX8_row_19 rfl (lv_at hl 0 rfl) ?_
    refine va_get (D := D) (ci := 8) (v := .ref jR) (C := RX8) (T := TX8) (N := 13) hx hb hts iw8 hown hK hP 0 rfl rfl 7 (by decide) kw1 (fun _ h9 => h9) rfl dX8_row_20 ?_
    refine lv_iload_n hx hb dX8_row_23 rfl (lv_at hl 1 rfl) ?_
    refine lv_iload_n hx hb dX8_row_24 rfl (lv_at hl 2 rfl) ?_
    obtain ⟨o_3, ho_3, hf⟩ := ht_bn_ob hf
    refine ht_callVi (r := o_3) (rest := [.ref (aR 0)]) (As := [.int p0, .int p1]) (wc := (wDr K jR aR kR_now kR_tried RR.numbers RR.count)) (wr := (wHT K jX kX_now kX_kept kX_tried kX_trials kX_pairings kX_tape kX_telling jR kX_deed kX_sheets kX_shelvedPerson kX_shelvedRow RX.anythingKept)) (w1 := (wDr K jR aR kR_now kR_tried RR.numbers RR.count)) (w2 := (wHT K jX kX_now kX_kept kX_tried kX_trials kX_pairings kX_tape kX_telling jR kX_deed kX_sheets kX_shelvedPerson kX_shelvedRow RX.anythingKept ++ (wDr K jR aR kR_now kR_tried RR.numbers RR.count))) hF (ctX0_placeOf l D K jR aR kR_now kR_tried RR p0 p1 o_3 ho_3 H.size) (cwV 2 hts gX8_row_X0_placeOf rfl rfl rfl hdX0_placeOf ⟨Nat.le_of_ble_eq_true rfl, Nat.le_of_ble_eq_true rfl⟩) hK hP hD hS hA [1, 2] [0] rfl rfl (by decide) (by decide) (by decide) [0, 1, 2] rfl (by decide) (va_recv hK hP (ci := 0) (q0 := 1) rfl rfl) rfl hl.1 rfl (Nat.le_of_ble_eq_true rfl) dX8_row_25 ⟨Nat.zero_le _, Nat.zero_le _⟩ (fun H locs hP hD hS => ?_)
    obtain ⟨g_4, hf⟩ := ht_gd_ob hf
    refine va_iald hx hb hK hP 2 1 rfl rfl (ht_ix_in g_4) dX8_row_28 ?_
    refine lv_goto (tgt := 34) hx hb dX8_row_29 (by decide) ?_
    have ho := Option.some.inj hf
    subst ho; subst hQ
    exact ht_iret hx hb hr hlk rfl hK hP hD hS dX8_row_34
abbrev rmX8_alterRow : Room := { frames := 1, cells := 0, slots := 0, locals := 22 }
theorem hdX8_alterRow : yX8_alterRow.cls = RX8 ∧ yX8_alterRow.cls ≠ "java/lang/invoke/MethodHandle" ∧ yX8_alterRow.cls ≠ "java/lang/invoke/VarHandle" ∧ (parseMethodDescriptor yX8_alterRow.desc).map (fun d => d.parameters.length) = some 3 := by decide +kernel
def fX8_alterRow (RX : HTV) (RR : DayV) (p0 : Int32) (p1 : Int32) (p2 : Int32) : Option (Int32 × AI) := ht_bn (fX0_has RR p0 p1) (fun o_1 => if o_1 = 0 then (some ((-9 : Int32), RR.numbers)) else (ht_bn (fX0_placeOf RR p0 p1) (fun o_3 => ht_gd (ht_ix o_3 30) (ht_nm (RR.numbers o_3.toNatClampNeg) (fun x5_5 => ht_gd (ht_ix o_3 30) (ht_nm (upd RR.numbers o_3.toNatClampNeg p2) (fun vR_numbers_7 => some (x5_5, vR_numbers_7))))))))
set_option maxHeartbeats 1000000 in
set_option maxRecDepth 100000 in
theorem ctX8_alterRow (l : Launch) (D : va_G) (K : Nat → ClassId) (jX : Nat) (jR : Nat) (aR : Nat → Nat) (kX_now : Nat) (kX_kept : Nat) (kX_tried : Nat) (kX_trials : Nat) (kX_pairings : Nat) (kX_tape : Nat) (kX_telling : Nat) (kX_deed : Nat) (kX_sheets : Nat) (kX_shelvedPerson : Nat) (kX_shelvedRow : Nat) (kR_now : Nat) (kR_tried : Nat) (RX : HTV) (RR : DayV) (p0 : Int32) (p1 : Int32) (p2 : Int32) (o : (Int32 × AI)) (hf : fX8_alterRow RX RR p0 p1 p2 = some o) (sz : Nat) : Met l yX8_alterRow wsX8_alterRow rmX8_alterRow (ht_Pre D K [.ref jX, .int p0, .int p1, .int p2] (wHT K jX kX_now kX_kept kX_tried kX_trials kX_pairings kX_tape kX_telling jR kX_deed kX_sheets kX_shelvedPerson kX_shelvedRow RX.anythingKept ++ (wDr K jR aR kR_now kR_tried RR.numbers RR.count)) sz) (ht_Qi D K (wHT K jX kX_now kX_kept kX_tried kX_trials kX_pairings kX_tape kX_telling jR kX_deed kX_sheets kX_shelvedPerson kX_shelvedRow RX.anythingKept ++ (wDr K jR aR kR_now kR_tried o.2 RR.count)) o.1 (va_A (wHT K jX kX_now kX_kept kX_tried kX_trials kX_pairings kX_tape kX_telling jR kX_deed kX_sheets kX_shelvedPerson kX_shelvedRow RX.anythingKept ++ (wDr K jR aR kR_now kR_tried RR.numbers RR.count)) sz)) 0 0 (va_A (wHT K jX kX_now kX_kept kX_tried kX_trials kX_pairings kX_tape kX_telling jR kX_deed kX_sheets kX_shelvedPerson kX_shelvedRow RX.anythingKept ++ (wDr K jR aR kR_now kR_tried RR.numbers RR.count)) sz) := by
  refine ht_enter (Qf := ht_Qi D K (wHT K jX kX_now kX_kept kX_tried kX_trials kX_pairings kX_tape kX_telling jR kX_deed kX_sheets kX_shelvedPerson kX_shelvedRow RX.anythingKept ++ (wDr K jR aR kR_now kR_tried o.2 RR.count)) o.1) (cc := cX8_alterRow) (maxL := 6) (rt := (some .int)) (by decide) rfl (Nat.le_of_ble_eq_true rfl) ?_ sz
  intro p e s m below meth c A Q H locs ls hQ hx hb hr hlk hmn hml hown hts hA hK hP hD hS hl
  have hown : s.vm.findClass RX8 = some m.cls := hown
  have hF : CallFix p m c cX8_alterRow 6 s ([.ref jX, .int p0, .int p1, .int p2] : List Value).toArray wsX8_alterRow RX8 := ⟨hx, hb, hml, hown, hts⟩
  have hl : lv_has ls 6 [(0, .ref jX), (1, .int p0), (2, .int p1), (3, .int p2)] := hl
  have iw8 : ∀ w ∈ u_ws RX8 TX8 13, w ∈ wsX8_alterRow := by decide +kernel
  have kw1 := hts (.fieldLink RX8 59 "HeldTongues" "dayRows" "LHeldTongues$DayRows;") (by decide +kernel)
  have iw0 : ∀ w ∈ u_ws RX0 TX0 4, w ∈ wsX8_alterRow := by decide +kernel
  have kw3 := hts (.fieldLink RX8 269 "HeldTongues$DayRows" "numbers" "[I") (by decide +kernel)
  delta fX8_alterRow at hf
  refine lv_aload_n hx hb dX8_alterRow_0 rfl (lv_at hl 0 rfl) ?_
  refine va_get (D := D) (ci := 8) (v := .ref jR) (C := RX8) (T := TX8) (N := 13) hx hb hts iw8 hown hK hP 0 rfl rfl 7 (by decide) kw1 (fun _ h9 => h9) rfl dX8_alterRow_1 ?_
  refine lv_iload_n hx hb dX8_alterRow_4 rfl (lv_at hl 1 rfl) ?_
  refine lv_iload_n hx hb dX8_alterRow_5 rfl (lv_at hl 2 rfl) ?_
  obtain ⟨o_1, ho_1, hf⟩ := ht_bn_ob hf
  refine ht_callVi (r := o_1) (rest := []) (As := [.int p0, .int p1]) (wc := (wDr K jR aR kR_now kR_tried RR.numbers RR.count)) (wr := (wHT K jX kX_now kX_kept kX_tried kX_trials kX_pairings kX_tape kX_telling jR kX_deed kX_sheets kX_shelvedPerson kX_shelvedRow RX.anythingKept)) (w1 := (wDr K jR aR kR_now kR_tried RR.numbers RR.count)) (w2 := (wHT K jX kX_now kX_kept kX_tried kX_trials kX_pairings kX_tape kX_telling jR kX_deed kX_sheets kX_shelvedPerson kX_shelvedRow RX.anythingKept ++ (wDr K jR aR kR_now kR_tried RR.numbers RR.count))) hF (ctX0_has l D K jR aR kR_now kR_tried RR p0 p1 o_1 ho_1 H.size) (cwV 2 hts gX8_alterRow_X0_has rfl rfl rfl hdX0_has ⟨Nat.le_of_ble_eq_true rfl, Nat.le_of_ble_eq_true rfl⟩) hK hP hD hS hA [1, 2] [0] rfl rfl (by decide) (by decide) (by decide) [0, 1, 2] rfl (by decide) (va_recv hK hP (ci := 0) (q0 := 1) rfl rfl) rfl hl.1 rfl (Nat.le_of_ble_eq_true rfl) dX8_alterRow_6 ⟨Nat.zero_le _, Nat.zero_le _⟩ (fun H locs hP hD hS => ?_)
  refine lv_if_ne (tgt := 15) hx hb dX8_alterRow_9 (by decide) (fun c_2 => ?_) (fun c_2 => ?_)
  · replace hf := ht_f c_2 hf
    refine lv_aload_n hx hb dX8_alterRow_15 rfl (lv_at hl 0 rfl) ?_
    refine va_get (D := D) (ci := 8) (v := .ref jR) (C := RX8) (T := TX8) (N := 13) hx hb hts iw8 hown hK hP 0 rfl rfl 7 (by decide) kw1 (fun _ h9 => h9) rfl dX8_alterRow_16 ?_
    refine lv_iload_n hx hb dX8_alterRow_19 rfl (lv_at hl 1 rfl) ?_
    refine lv_iload_n hx hb dX8_alterRow_20 rfl (lv_at hl 2 rfl) ?_
    obtain ⟨o_3, ho_3, hf⟩ := ht_bn_ob hf
    refine ht_callVi (r := o_3) (rest := []) (As := [.int p0, .int p1]) (wc := (wDr K jR aR kR_now kR_tried RR.numbers RR.count)) (wr := (wHT K jX kX_now kX_kept kX_tried kX_trials kX_pairings kX_tape kX_telling jR kX_deed kX_sheets kX_shelvedPerson kX_shelvedRow RX.anythingKept)) (w1 := (wDr K jR aR kR_now kR_tried RR.numbers RR.count)) (w2 := (wHT K jX kX_now kX_kept kX_tried kX_trials kX_pairings kX_tape kX_telling jR kX_deed kX_sheets kX_shelvedPerson kX_shelvedRow RX.anythingKept ++ (wDr K jR aR kR_now kR_tried RR.numbers RR.count))) hF (ctX0_placeOf l D K jR aR kR_now kR_tried RR p0 p1 o_3 ho_3 H.size) (cwV 2 hts gX8_alterRow_X0_placeOf rfl rfl rfl hdX0_placeOf ⟨Nat.le_of_ble_eq_true rfl, Nat.le_of_ble_eq_true rfl⟩) hK hP hD hS hA [1, 2] [0] rfl rfl (by decide) (by decide) (by decide) [0, 1, 2] rfl (by decide) (va_recv hK hP (ci := 0) (q0 := 1) rfl rfl) rfl hl.1 rfl (Nat.le_of_ble_eq_true rfl) dX8_alterRow_21 ⟨Nat.zero_le _, Nat.zero_le _⟩ (fun H locs hP hD hS => ?_)
    refine lv_istore (lv' := [(4, .int o_3), (0, .ref jX), (1, .int p0), (2, .int p1), (3, .int p2)]) hx hb dX8_alterRow_24 hl (by decide) rfl (fun ls hl => ?_)
    refine lv_aload_n hx hb dX8_alterRow_26 rfl (lv_at hl 1 rfl) ?_
    refine va_get (D := D) (ci := 8) (v := .ref jR) (C := RX8) (T := TX8) (N := 13) hx hb hts iw8 hown hK hP 0 rfl rfl 7 (by decide) kw1 (fun _ h9 => h9) rfl dX8_alterRow_27 ?_
    refine va_get (D := D) (ci := 0) (v := .ref (aR 0)) (C := RX0) (T := TX0) (N := 4) hx hb hts iw0 hown hK hP 1 rfl rfl 2 (by decide) kw3 (fun _ h9 => h9) rfl dX8_alterRow_30 ?_
    refine lv_iload hx hb dX8_alterRow_33 (lv_at hl 0 rfl) ?_
    obtain ⟨g_4, hf⟩ := ht_gd_ob hf
    refine va_iald hx hb hK hP 2 1 rfl rfl (ht_ix_in g_4) dX8_alterRow_35 ?_
    obtain ⟨x5_5, ex5_5, hf⟩ := ht_nm_ob hf
    rw [← ex5_5]
    refine lv_istore (lv' := [(5, .int x5_5), (4, .int o_3), (0, .ref jX), (1, .int p0), (2, .int p1), (3, .int p2)]) hx hb dX8_alterRow_36 hl (by decide) rfl (fun ls hl => ?_)
    refine lv_aload_n hx hb dX8_alterRow_38 rfl (lv_at hl 2 rfl) ?_
    refine va_get (D := D) (ci := 8) (v := .ref jR) (C := RX8) (T := TX8) (N := 13) hx hb hts iw8 hown hK hP 0 rfl rfl 7 (by decide) kw1 (fun _ h9 => h9) rfl dX8_alterRow_39 ?_
    refine va_get (D := D) (ci := 0) (v := .ref (aR 0)) (C := RX0) (T := TX0) (N := 4) hx hb hts iw0 hown hK hP 1 rfl rfl 2 (by decide) kw3 (fun _ h9 => h9) rfl dX8_alterRow_42 ?_
    refine lv_iload hx hb dX8_alterRow_45 (lv_at hl 1 rfl) ?_
    refine lv_iload_n hx hb dX8_alterRow_47 rfl (lv_at hl 5 rfl) ?_
    obtain ⟨g_6, hf⟩ := ht_gd_ob hf
    obtain ⟨vR_numbers_7, evR_numbers_7, hf⟩ := ht_nm_ob hf
    refine ht_iast (w2 := (wHT K jX kX_now kX_kept kX_tried kX_trials kX_pairings kX_tape kX_telling jR kX_deed kX_sheets kX_shelvedPerson kX_shelvedRow RX.anythingKept ++ (wDr K jR aR kR_now kR_tried vR_numbers_7 RR.count))) hx hb hK hP hD hS 2 1 rfl rfl g_6 dX8_alterRow_48 evR_numbers_7 rfl (fun H locs hP hD hS => ?_)
    refine lv_iload hx hb dX8_alterRow_49 (lv_at hl 0 rfl) ?_
    have ho := Option.some.inj hf
    subst ho; subst hQ
    exact ht_iret hx hb hr hlk rfl hK hP hD hS dX8_alterRow_51
  · replace hf := ht_t c_2 hf
    refine lv_bipush (v := -9) hx hb dX8_alterRow_12 (by decide) ?_
    have ho := Option.some.inj hf
    subst ho; subst hQ
    exact ht_iret hx hb hr hlk rfl hK hP hD hS dX8_alterRow_14
abbrev rmX8_judge : Room := { frames := 5, cells := 0, slots := 0, locals := 112 }
theorem hdX8_judge : yX8_judge.cls = RX8 ∧ yX8_judge.cls ≠ "java/lang/invoke/MethodHandle" ∧ yX8_judge.cls ≠ "java/lang/invoke/VarHandle" ∧ (parseMethodDescriptor yX8_judge.desc).map (fun d => d.parameters.length) = some 1 := by decide +kernel
def fX8_judge (RX : HTV) (RR : DayV) (RN : TownV) (RT : TownV) (p0 : Int32) : Option (Int32 × AI × AI × AI × AI × AI × AI × AI × Int32 × Int32 × Int32 × Int32 × Int32) := ht_bn (fX6_has RN p0) (fun o_1 => if o_1 = 0 then (some ((-1 : Int32), RT.laws, RT.kind, RT.need, RT.saved, RT.voice, RT.partner, RT.speaks, RT.count, RT.day, RT.heard, RT.geese, RT.z)) else (ht_bn (fX0_firstWrong RR RN RT p0) (fun o_3 => some (o_3.1, o_3.2.1, o_3.2.2.1, o_3.2.2.2.1, o_3.2.2.2.2.1, o_3.2.2.2.2.2.1, o_3.2.2.2.2.2.2.1, o_3.2.2.2.2.2.2.2.1, o_3.2.2.2.2.2.2.2.2.1, o_3.2.2.2.2.2.2.2.2.2.1, o_3.2.2.2.2.2.2.2.2.2.2.1, o_3.2.2.2.2.2.2.2.2.2.2.2.1, o_3.2.2.2.2.2.2.2.2.2.2.2.2))))
set_option maxHeartbeats 1000000 in
set_option maxRecDepth 100000 in
theorem ctX8_judge (l : Launch) (D : va_G) (K : Nat → ClassId) (jX : Nat) (jR : Nat) (aR : Nat → Nat) (jN : Nat) (aN : Nat → Nat) (jT : Nat) (aT : Nat → Nat) (kX_kept : Nat) (kX_trials : Nat) (kX_pairings : Nat) (kX_tape : Nat) (kX_telling : Nat) (kX_deed : Nat) (kX_sheets : Nat) (kX_shelvedPerson : Nat) (kX_shelvedRow : Nat) (RX : HTV) (RR : DayV) (RN : TownV) (RT : TownV) (p0 : Int32) (o : (Int32 × AI × AI × AI × AI × AI × AI × AI × Int32 × Int32 × Int32 × Int32 × Int32)) (hf : fX8_judge RX RR RN RT p0 = some o) (sz : Nat) : Met l yX8_judge wsX8_judge rmX8_judge (ht_Pre D K [.ref jX, .int p0] (wHT K jX jN kX_kept jT kX_trials kX_pairings kX_tape kX_telling jR kX_deed kX_sheets kX_shelvedPerson kX_shelvedRow RX.anythingKept ++ (wDr K jR aR jN jT RR.numbers RR.count ++ (wTw K jN aN RN.laws RN.kind RN.need RN.saved RN.voice RN.partner RN.speaks RN.count RN.day RN.heard RN.geese RN.z ++ (wTw K jT aT RT.laws RT.kind RT.need RT.saved RT.voice RT.partner RT.speaks RT.count RT.day RT.heard RT.geese RT.z)))) sz) (ht_Qi D K (wHT K jX jN kX_kept jT kX_trials kX_pairings kX_tape kX_telling jR kX_deed kX_sheets kX_shelvedPerson kX_shelvedRow RX.anythingKept ++ (wDr K jR aR jN jT RR.numbers RR.count ++ (wTw K jN aN RN.laws RN.kind RN.need RN.saved RN.voice RN.partner RN.speaks RN.count RN.day RN.heard RN.geese RN.z ++ (wTw K jT aT o.2.1 o.2.2.1 o.2.2.2.1 o.2.2.2.2.1 o.2.2.2.2.2.1 o.2.2.2.2.2.2.1 o.2.2.2.2.2.2.2.1 o.2.2.2.2.2.2.2.2.1 o.2.2.2.2.2.2.2.2.2.1 o.2.2.2.2.2.2.2.2.2.2.1 o.2.2.2.2.2.2.2.2.2.2.2.1 o.2.2.2.2.2.2.2.2.2.2.2.2)))) o.1 (va_A (wHT K jX jN kX_kept jT kX_trials kX_pairings kX_tape kX_telling jR kX_deed kX_sheets kX_shelvedPerson kX_shelvedRow RX.anythingKept ++ (wDr K jR aR jN jT RR.numbers RR.count ++ (wTw K jN aN RN.laws RN.kind RN.need RN.saved RN.voice RN.partner RN.speaks RN.count RN.day RN.heard RN.geese RN.z ++ (wTw K jT aT RT.laws RT.kind RT.need RT.saved RT.voice RT.partner RT.speaks RT.count RT.day RT.heard RT.geese RT.z)))) sz)) 0 0 (va_A (wHT K jX jN kX_kept jT kX_trials kX_pairings kX_tape kX_telling jR kX_deed kX_sheets kX_shelvedPerson kX_shelvedRow RX.anythingKept ++ (wDr K jR aR jN jT RR.numbers RR.count ++ (wTw K jN aN RN.laws RN.kind RN.need RN.saved RN.voice RN.partner RN.speaks RN.count RN.day RN.heard RN.geese RN.z ++ (wTw K jT aT RT.laws RT.kind RT.need RT.saved RT.voice RT.partner RT.speaks RT.count RT.day RT.heard RT.geese RT.z)))) sz) := by
  refine ht_enter (Qf := ht_Qi D K (wHT K jX jN kX_kept jT kX_trials kX_pairings kX_tape kX_telling jR kX_deed kX_sheets kX_shelvedPerson kX_shelvedRow RX.anythingKept ++ (wDr K jR aR jN jT RR.numbers RR.count ++ (wTw K jN aN RN.laws RN.kind RN.need RN.saved RN.voice RN.partner RN.speaks RN.count RN.day RN.heard RN.geese RN.z ++ (wTw K jT aT o.2.1 o.2.2.1 o.2.2.2.1 o.2.2.2.2.1 o.2.2.2.2.2.1 o.2.2.2.2.2.2.1 o.2.2.2.2.2.2.2.1 o.2.2.2.2.2.2.2.2.1 o.2.2.2.2.2.2.2.2.2.1 o.2.2.2.2.2.2.2.2.2.2.1 o.2.2.2.2.2.2.2.2.2.2.2.1 o.2.2.2.2.2.2.2.2.2.2.2.2)))) o.1) (cc := cX8_judge) (maxL := 2) (rt := (some .int)) (by decide) rfl (Nat.le_of_ble_eq_true rfl) ?_ sz
  intro p e s m below meth c A Q H locs ls hQ hx hb hr hlk hmn hml hown hts hA hK hP hD hS hl
  have hown : s.vm.findClass RX8 = some m.cls := hown
  have hF : CallFix p m c cX8_judge 2 s ([.ref jX, .int p0] : List Value).toArray wsX8_judge RX8 := ⟨hx, hb, hml, hown, hts⟩
  have hl : lv_has ls 2 [(0, .ref jX), (1, .int p0)] := hl
  have iw8 : ∀ w ∈ u_ws RX8 TX8 13, w ∈ wsX8_judge := by decide +kernel
  have kw1 := hts (.fieldLink RX8 10 "HeldTongues" "now" "LHeldTongues$Town;") (by decide +kernel)
  have kw2 := hts (.fieldLink RX8 59 "HeldTongues" "dayRows" "LHeldTongues$DayRows;") (by decide +kernel)
  delta fX8_judge at hf
  refine lv_aload_n hx hb dX8_judge_0 rfl (lv_at hl 0 rfl) ?_
  refine va_get (D := D) (ci := 8) (v := .ref jN) (C := RX8) (T := TX8) (N := 13) hx hb hts iw8 hown hK hP 0 rfl rfl 0 (by decide) kw1 (fun _ h9 => h9) rfl dX8_judge_1 ?_
  refine lv_iload_n hx hb dX8_judge_4 rfl (lv_at hl 1 rfl) ?_
  obtain ⟨o_1, ho_1, hf⟩ := ht_bn_ob hf
  refine ht_callVi (r := o_1) (rest := []) (As := [.int p0]) (wc := (wTw K jN aN RN.laws RN.kind RN.need RN.saved RN.voice RN.partner RN.speaks RN.count RN.day RN.heard RN.geese RN.z)) (wr := (wHT K jX jN kX_kept jT kX_trials kX_pairings kX_tape kX_telling jR kX_deed kX_sheets kX_shelvedPerson kX_shelvedRow RX.anythingKept ++ (wDr K jR aR jN jT RR.numbers RR.count ++ (wTw K jT aT RT.laws RT.kind RT.need RT.saved RT.voice RT.partner RT.speaks RT.count RT.day RT.heard RT.geese RT.z)))) (w1 := (wTw K jN aN RN.laws RN.kind RN.need RN.saved RN.voice RN.partner RN.speaks RN.count RN.day RN.heard RN.geese RN.z)) (w2 := (wHT K jX jN kX_kept jT kX_trials kX_pairings kX_tape kX_telling jR kX_deed kX_sheets kX_shelvedPerson kX_shelvedRow RX.anythingKept ++ (wDr K jR aR jN jT RR.numbers RR.count ++ (wTw K jN aN RN.laws RN.kind RN.need RN.saved RN.voice RN.partner RN.speaks RN.count RN.day RN.heard RN.geese RN.z ++ (wTw K jT aT RT.laws RT.kind RT.need RT.saved RT.voice RT.partner RT.speaks RT.count RT.day RT.heard RT.geese RT.z))))) hF (ctX6_has l D K jN aN RN p0 o_1 ho_1 H.size) (cwV 1 hts gX8_judge_X6_has rfl rfl rfl hdX6_has ⟨Nat.le_of_ble_eq_true rfl, Nat.le_of_ble_eq_true rfl⟩) hK hP hD hS hA [3, 4, 5, 6, 7, 8, 9, 10] [0, 1, 2, 11, 12, 13, 14, 15, 16, 17, 18] rfl rfl (by decide) (by decide) (by decide) [0, 1, 2, 11, 12, 13, 14, 15, 16, 17, 18, 3, 4, 5, 6, 7, 8, 9, 10] rfl (by decide) (va_recv hK hP (ci := 6) (q0 := 3) rfl rfl) rfl hl.1 rfl (Nat.le_of_ble_eq_true rfl) dX8_judge_5 ⟨Nat.zero_le _, Nat.zero_le _⟩ (fun H locs hP hD hS => ?_)
  refine lv_if_eq (tgt := 22) hx hb dX8_judge_8 (by decide) (fun c_2 => ?_) (fun c_2 => ?_)
  · replace hf := ht_t c_2 hf
    refine lv_iconst (v := -1) hx hb dX8_judge_22 (by decide) ?_
    have ho := Option.some.inj hf
    subst ho; subst hQ
    exact ht_iret hx hb hr hlk rfl hK hP hD hS dX8_judge_23
  · replace hf := ht_f c_2 hf
    refine lv_aload_n hx hb dX8_judge_11 rfl (lv_at hl 0 rfl) ?_
    refine va_get (D := D) (ci := 8) (v := .ref jR) (C := RX8) (T := TX8) (N := 13) hx hb hts iw8 hown hK hP 0 rfl rfl 7 (by decide) kw2 (fun _ h9 => h9) rfl dX8_judge_12 ?_
    refine lv_iload_n hx hb dX8_judge_15 rfl (lv_at hl 1 rfl) ?_
    obtain ⟨o_3, ho_3, hf⟩ := ht_bn_ob hf
    refine ht_callVi (r := o_3.1) (rest := []) (As := [.int p0]) (wc := (wDr K jR aR jN jT RR.numbers RR.count ++ (wTw K jN aN RN.laws RN.kind RN.need RN.saved RN.voice RN.partner RN.speaks RN.count RN.day RN.heard RN.geese RN.z ++ (wTw K jT aT RT.laws RT.kind RT.need RT.saved RT.voice RT.partner RT.speaks RT.count RT.day RT.heard RT.geese RT.z)))) (wr := (wHT K jX jN kX_kept jT kX_trials kX_pairings kX_tape kX_telling jR kX_deed kX_sheets kX_shelvedPerson kX_shelvedRow RX.anythingKept)) (w1 := (wDr K jR aR jN jT RR.numbers RR.count ++ (wTw K jN aN RN.laws RN.kind RN.need RN.saved RN.voice RN.partner RN.speaks RN.count RN.day RN.heard RN.geese RN.z ++ (wTw K jT aT o_3.2.1 o_3.2.2.1 o_3.2.2.2.1 o_3.2.2.2.2.1 o_3.2.2.2.2.2.1 o_3.2.2.2.2.2.2.1 o_3.2.2.2.2.2.2.2.1 o_3.2.2.2.2.2.2.2.2.1 o_3.2.2.2.2.2.2.2.2.2.1 o_3.2.2.2.2.2.2.2.2.2.2.1 o_3.2.2.2.2.2.2.2.2.2.2.2.1 o_3.2.2.2.2.2.2.2.2.2.2.2.2)))) (w2 := (wHT K jX jN kX_kept jT kX_trials kX_pairings kX_tape kX_telling jR kX_deed kX_sheets kX_shelvedPerson kX_shelvedRow RX.anythingKept ++ (wDr K jR aR jN jT RR.numbers RR.count ++ (wTw K jN aN RN.laws RN.kind RN.need RN.saved RN.voice RN.partner RN.speaks RN.count RN.day RN.heard RN.geese RN.z ++ (wTw K jT aT o_3.2.1 o_3.2.2.1 o_3.2.2.2.1 o_3.2.2.2.2.1 o_3.2.2.2.2.2.1 o_3.2.2.2.2.2.2.1 o_3.2.2.2.2.2.2.2.1 o_3.2.2.2.2.2.2.2.2.1 o_3.2.2.2.2.2.2.2.2.2.1 o_3.2.2.2.2.2.2.2.2.2.2.1 o_3.2.2.2.2.2.2.2.2.2.2.2.1 o_3.2.2.2.2.2.2.2.2.2.2.2.2))))) hF (ctX0_firstWrong l D K jR aR jN aN jT aT RR RN RT p0 o_3 ho_3 H.size) (cwV 1 hts gX8_judge_X0_firstWrong rfl rfl rfl hdX0_firstWrong ⟨Nat.le_of_ble_eq_true rfl, Nat.le_of_ble_eq_true rfl⟩) hK hP hD hS hA [1, 2, 3, 4, 5, 6, 7, 8, 9, 10, 11, 12, 13, 14, 15, 16, 17, 18] [0] rfl rfl (by decide) (by decide) (by decide) [0, 1, 2, 3, 4, 5, 6, 7, 8, 9, 10, 11, 12, 13, 14, 15, 16, 17, 18] rfl (by decide) (va_recv hK hP (ci := 0) (q0 := 1) rfl rfl) rfl hl.1 rfl (Nat.le_of_ble_eq_true rfl) dX8_judge_16 ⟨Nat.zero_le _, Nat.zero_le _⟩ (fun H locs hP hD hS => ?_)
    refine lv_goto (tgt := 23) hx hb dX8_judge_19 (by decide) ?_
    have ho := Option.some.inj hf
    subst ho; subst hQ
    exact ht_iret hx hb hr hlk rfl hK hP hD hS dX8_judge_23
abbrev rmX8_act : Room := { frames := 5, cells := 0, slots := 0, locals := 111 }
theorem hdX8_act : yX8_act.cls = RX8 ∧ yX8_act.cls ≠ "java/lang/invoke/MethodHandle" ∧ yX8_act.cls ≠ "java/lang/invoke/VarHandle" ∧ (parseMethodDescriptor yX8_act.desc).map (fun d => d.parameters.length) = some 3 := by decide +kernel
def fX8_act (RX : HTV) (RE : DeedV) (RN : TownV) (RY : AI) (p0 : Int32) (p1 : Int32) (p2 : Int32) : Option (Int32 × AI × Int32 × Int32 × Int32 × Int32 × Int32) := ht_bn (fX1_forget RE) (fun o_1 => ht_bn (fX8_isShelf p0) (fun o_2 => if o_2 = 0 then (some ((0 : Int32), RE.bodies, o_1.1, o_1.2, RE.kind, RE.number, RE.voice)) else (ht_bn (fX8_within p1 (0 : Int32) (3 : Int32)) (fun o_4 => if o_4 = 0 then (some ((0 : Int32), RE.bodies, o_1.1, o_1.2, RE.kind, RE.number, RE.voice)) else (ht_gd (ht_ix p0 4) (ht_nm (RY p0.toNatClampNeg) (fun x4_7 => ht_bn (fX6_has RN x4_7) (fun o_8 => if o_8 = 0 then (some ((0 : Int32), RE.bodies, o_1.1, o_1.2, RE.kind, RE.number, RE.voice)) else (ht_bn (fX1_run (RE.bodies, o_1.1, o_1.2, RE.kind, RE.number, RE.voice) RN x4_7 p1 p2) (fun o_10 => ht_nm o_10.1 (fun x5_11 => if o_10.2.2.2.1 = 0 then (some (x5_11, o_10.2.1, o_10.2.2.1, o_10.2.2.2.1, o_10.2.2.2.2.1, o_10.2.2.2.2.2.1, o_10.2.2.2.2.2.2)) else (some ((-15 : Int32), o_10.2.1, o_10.2.2.1, o_10.2.2.2.1, o_10.2.2.2.2.1, o_10.2.2.2.2.2.1, o_10.2.2.2.2.2.2)))))))))))))
set_option maxHeartbeats 1000000 in
set_option maxRecDepth 100000 in
theorem ctX8_act (l : Launch) (D : va_G) (K : Nat → ClassId) (jX : Nat) (jE : Nat) (aE : Nat → Nat) (jN : Nat) (aN : Nat → Nat) (jY : Nat) (kX_kept : Nat) (kX_tried : Nat) (kX_trials : Nat) (kX_pairings : Nat) (kX_tape : Nat) (kX_telling : Nat) (kX_dayRows : Nat) (kX_sheets : Nat) (kX_shelvedRow : Nat) (RX : HTV) (RE : DeedV) (RN : TownV) (RY : AI) (p0 : Int32) (p1 : Int32) (p2 : Int32) (o : (Int32 × AI × Int32 × Int32 × Int32 × Int32 × Int32)) (hf : fX8_act RX RE RN RY p0 p1 p2 = some o) (sz : Nat) : Met l yX8_act wsX8_act rmX8_act (ht_Pre D K [.ref jX, .int p0, .int p1, .int p2] (wHT K jX jN kX_kept kX_tried kX_trials kX_pairings kX_tape kX_telling kX_dayRows jE kX_sheets jY kX_shelvedRow RX.anythingKept ++ (wDe K jE aE RE.bodies RE.begun RE.partedByZero RE.kind RE.number RE.voice ++ (wTw K jN aN RN.laws RN.kind RN.need RN.saved RN.voice RN.partner RN.speaks RN.count RN.day RN.heard RN.geese RN.z ++ (wAr K 4 jY RY)))) sz) (ht_Qi D K (wHT K jX jN kX_kept kX_tried kX_trials kX_pairings kX_tape kX_telling kX_dayRows jE kX_sheets jY kX_shelvedRow RX.anythingKept ++ (wDe K jE aE o.2.1 o.2.2.1 o.2.2.2.1 o.2.2.2.2.1 o.2.2.2.2.2.1 o.2.2.2.2.2.2 ++ (wTw K jN aN RN.laws RN.kind RN.need RN.saved RN.voice RN.partner RN.speaks RN.count RN.day RN.heard RN.geese RN.z ++ (wAr K 4 jY RY)))) o.1 (va_A (wHT K jX jN kX_kept kX_tried kX_trials kX_pairings kX_tape kX_telling kX_dayRows jE kX_sheets jY kX_shelvedRow RX.anythingKept ++ (wDe K jE aE RE.bodies RE.begun RE.partedByZero RE.kind RE.number RE.voice ++ (wTw K jN aN RN.laws RN.kind RN.need RN.saved RN.voice RN.partner RN.speaks RN.count RN.day RN.heard RN.geese RN.z ++ (wAr K 4 jY RY)))) sz)) 0 0 (va_A (wHT K jX jN kX_kept kX_tried kX_trials kX_pairings kX_tape kX_telling kX_dayRows jE kX_sheets jY kX_shelvedRow RX.anythingKept ++ (wDe K jE aE RE.bodies RE.begun RE.partedByZero RE.kind RE.number RE.voice ++ (wTw K jN aN RN.laws RN.kind RN.need RN.saved RN.voice RN.partner RN.speaks RN.count RN.day RN.heard RN.geese RN.z ++ (wAr K 4 jY RY)))) sz) := by
  refine ht_enter (Qf := ht_Qi D K (wHT K jX jN kX_kept kX_tried kX_trials kX_pairings kX_tape kX_telling kX_dayRows jE kX_sheets jY kX_shelvedRow RX.anythingKept ++ (wDe K jE aE o.2.1 o.2.2.1 o.2.2.2.1 o.2.2.2.2.1 o.2.2.2.2.2.1 o.2.2.2.2.2.2 ++ (wTw K jN aN RN.laws RN.kind RN.need RN.saved RN.voice RN.partner RN.speaks RN.count RN.day RN.heard RN.geese RN.z ++ (wAr K 4 jY RY)))) o.1) (cc := cX8_act) (maxL := 6) (rt := (some .int)) (by decide) rfl (Nat.le_of_ble_eq_true rfl) ?_ sz
  intro p e s m below meth c A Q H locs ls hQ hx hb hr hlk hmn hml hown hts hA hK hP hD hS hl
  have hown : s.vm.findClass RX8 = some m.cls := hown
  have hF : CallFix p m c cX8_act 6 s ([.ref jX, .int p0, .int p1, .int p2] : List Value).toArray wsX8_act RX8 := ⟨hx, hb, hml, hown, hts⟩
  have hl : lv_has ls 6 [(0, .ref jX), (1, .int p0), (2, .int p1), (3, .int p2)] := hl
  have iw8 : ∀ w ∈ u_ws RX8 TX8 13, w ∈ wsX8_act := by decide +kernel
  have kw1 := hts (.fieldLink RX8 66 "HeldTongues" "deed" "LHeldTongues$Deed;") (by decide +kernel)
  have kw2 := hts (.fieldLink RX8 76 "HeldTongues" "shelvedPerson" "[I") (by decide +kernel)
  have kw3 := hts (.fieldLink RX8 10 "HeldTongues" "now" "LHeldTongues$Town;") (by decide +kernel)
  have iw1 : ∀ w ∈ u_ws RX1 TX1 6, w ∈ wsX8_act := by decide +kernel
  have kw5 := hts (.fieldLink RX8 312 "HeldTongues$Deed" "partedByZero" "Z") (by decide +kernel)
  delta fX8_act at hf
  refine lv_aload_n hx hb dX8_act_0 rfl (lv_at hl 0 rfl) ?_
  refine va_get (D := D) (ci := 8) (v := .ref jE) (C := RX8) (T := TX8) (N := 13) hx hb hts iw8 hown hK hP 0 rfl rfl 8 (by decide) kw1 (fun _ h9 => h9) rfl dX8_act_1 ?_
  obtain ⟨o_1, ho_1, hf⟩ := ht_bn_ob hf
  refine ht_callVv (rest := []) (As := []) (wc := (wDe K jE aE RE.bodies RE.begun RE.partedByZero RE.kind RE.number RE.voice)) (wr := (wHT K jX jN kX_kept kX_tried kX_trials kX_pairings kX_tape kX_telling kX_dayRows jE kX_sheets jY kX_shelvedRow RX.anythingKept ++ (wTw K jN aN RN.laws RN.kind RN.need RN.saved RN.voice RN.partner RN.speaks RN.count RN.day RN.heard RN.geese RN.z ++ (wAr K 4 jY RY)))) (w1 := (wDe K jE aE RE.bodies o_1.1 o_1.2 RE.kind RE.number RE.voice)) (w2 := (wHT K jX jN kX_kept kX_tried kX_trials kX_pairings kX_tape kX_telling kX_dayRows jE kX_sheets jY kX_shelvedRow RX.anythingKept ++ (wDe K jE aE RE.bodies o_1.1 o_1.2 RE.kind RE.number RE.voice ++ (wTw K jN aN RN.laws RN.kind RN.need RN.saved RN.voice RN.partner RN.speaks RN.count RN.day RN.heard RN.geese RN.z ++ (wAr K 4 jY RY))))) hF (ctX1_forget l D K jE aE RE o_1 ho_1 H.size) (cwV 0 hts gX8_act_X1_forget rfl rfl rfl hdX1_forget ⟨Nat.le_of_ble_eq_true rfl, Nat.le_of_ble_eq_true rfl⟩) hK hP hD hS hA [1, 2] [0, 3, 4, 5, 6, 7, 8, 9, 10, 11] rfl rfl (by decide) (by decide) (by decide) [0, 10, 11, 1, 2, 3, 4, 5, 6, 7, 8, 9] rfl (by decide) (va_recv hK hP (ci := 1) (q0 := 1) rfl rfl) rfl hl.1 rfl (Nat.le_of_ble_eq_true rfl) dX8_act_4 ⟨Nat.zero_le _, Nat.zero_le _⟩ (fun H locs hP hD hS => ?_)
  refine lv_iload_n hx hb dX8_act_7 rfl (lv_at hl 1 rfl) ?_
  obtain ⟨o_2, ho_2, hf⟩ := ht_bn_ob hf
  refine ht_callSi (r := o_2) (rest := []) (As := [.int p0]) (wc := []) (wr := (wHT K jX jN kX_kept kX_tried kX_trials kX_pairings kX_tape kX_telling kX_dayRows jE kX_sheets jY kX_shelvedRow RX.anythingKept ++ (wDe K jE aE RE.bodies o_1.1 o_1.2 RE.kind RE.number RE.voice ++ (wTw K jN aN RN.laws RN.kind RN.need RN.saved RN.voice RN.partner RN.speaks RN.count RN.day RN.heard RN.geese RN.z ++ (wAr K 4 jY RY))))) (w1 := []) (w2 := (wHT K jX jN kX_kept kX_tried kX_trials kX_pairings kX_tape kX_telling kX_dayRows jE kX_sheets jY kX_shelvedRow RX.anythingKept ++ (wDe K jE aE RE.bodies o_1.1 o_1.2 RE.kind RE.number RE.voice ++ (wTw K jN aN RN.laws RN.kind RN.need RN.saved RN.voice RN.partner RN.speaks RN.count RN.day RN.heard RN.geese RN.z ++ (wAr K 4 jY RY))))) hF (ctX8_isShelf l D K p0 o_2 ho_2 H.size) (va_cwS 1 hts gX8_act_X8_isShelf rfl rfl rfl hdX8_isShelf ⟨Nat.le_of_ble_eq_true rfl, Nat.le_of_ble_eq_true rfl⟩) hK hP hD hS hA [] [0, 1, 2, 3, 4, 5, 6, 7, 8, 9, 10, 11] rfl rfl (by decide) (by decide) (by decide) [0, 1, 2, 3, 4, 5, 6, 7, 8, 9, 10, 11] rfl (by decide) rfl hl.1 rfl (Nat.le_of_ble_eq_true rfl) dX8_act_8 ⟨Nat.zero_le _, Nat.zero_le _⟩ (fun H locs hP hD hS => ?_)
  refine lv_if_eq (tgt := 23) hx hb dX8_act_11 (by decide) (fun c_3 => ?_) (fun c_3 => ?_)
  · replace hf := ht_t c_3 hf
    refine lv_iconst (v := 0) hx hb dX8_act_23 (by decide) ?_
    have ho := Option.some.inj hf
    subst ho; subst hQ
    exact ht_iret hx hb hr hlk rfl hK hP hD hS dX8_act_24
  · replace hf := ht_f c_3 hf
    refine lv_iload_n hx hb dX8_act_14 rfl (lv_at hl 2 rfl) ?_
    refine lv_iconst (v := 0) hx hb dX8_act_15 (by decide) ?_
    refine lv_iconst (v := 3) hx hb dX8_act_16 (by decide) ?_
    obtain ⟨o_4, ho_4, hf⟩ := ht_bn_ob hf
    refine ht_callSi (r := o_4) (rest := []) (As := [.int p1, .int (0 : Int32), .int (3 : Int32)]) (wc := []) (wr := (wHT K jX jN kX_kept kX_tried kX_trials kX_pairings kX_tape kX_telling kX_dayRows jE kX_sheets jY kX_shelvedRow RX.anythingKept ++ (wDe K jE aE RE.bodies o_1.1 o_1.2 RE.kind RE.number RE.voice ++ (wTw K jN aN RN.laws RN.kind RN.need RN.saved RN.voice RN.partner RN.speaks RN.count RN.day RN.heard RN.geese RN.z ++ (wAr K 4 jY RY))))) (w1 := []) (w2 := (wHT K jX jN kX_kept kX_tried kX_trials kX_pairings kX_tape kX_telling kX_dayRows jE kX_sheets jY kX_shelvedRow RX.anythingKept ++ (wDe K jE aE RE.bodies o_1.1 o_1.2 RE.kind RE.number RE.voice ++ (wTw K jN aN RN.laws RN.kind RN.need RN.saved RN.voice RN.partner RN.speaks RN.count RN.day RN.heard RN.geese RN.z ++ (wAr K 4 jY RY))))) hF (ctX8_within l D K p1 (0 : Int32) (3 : Int32) o_4 ho_4 H.size) (va_cwS 3 hts gX8_act_X8_within rfl rfl rfl hdX8_within ⟨Nat.le_of_ble_eq_true rfl, Nat.le_of_ble_eq_true rfl⟩) hK hP hD hS hA [] [0, 1, 2, 3, 4, 5, 6, 7, 8, 9, 10, 11] rfl rfl (by decide) (by decide) (by decide) [0, 1, 2, 3, 4, 5, 6, 7, 8, 9, 10, 11] rfl (by decide) rfl hl.1 rfl (Nat.le_of_ble_eq_true rfl) dX8_act_17 ⟨Nat.zero_le _, Nat.zero_le _⟩ (fun H locs hP hD hS => ?_)
    refine lv_if_ne (tgt := 25) hx hb dX8_act_20 (by decide) (fun c_5 => ?_) (fun c_5 => ?_)
    · replace hf := ht_f c_5 hf
      refine lv_aload_n hx hb dX8_act_25 rfl (lv_at hl 0 rfl) ?_
      refine va_get (D := D) (ci := 8) (v := .ref jY) (C := RX8) (T := TX8) (N := 13) hx hb hts iw8 hown hK hP 0 rfl rfl 10 (by decide) kw2 (fun _ h9 => h9) rfl dX8_act_26 ?_
      refine lv_iload_n hx hb dX8_act_29 rfl (lv_at hl 1 rfl) ?_
      obtain ⟨g_6, hf⟩ := ht_gd_ob hf
      refine va_iald hx hb hK hP 11 1 rfl rfl (ht_ix_in g_6) dX8_act_30 ?_
      obtain ⟨x4_7, ex4_7, hf⟩ := ht_nm_ob hf
      rw [← ex4_7]
      refine lv_istore (lv' := [(4, .int x4_7), (0, .ref jX), (1, .int p0), (2, .int p1), (3, .int p2)]) hx hb dX8_act_31 hl (by decide) rfl (fun ls hl => ?_)
      refine lv_aload_n hx hb dX8_act_33 rfl (lv_at hl 1 rfl) ?_
      refine va_get (D := D) (ci := 8) (v := .ref jN) (C := RX8) (T := TX8) (N := 13) hx hb hts iw8 hown hK hP 0 rfl rfl 0 (by decide) kw3 (fun _ h9 => h9) rfl dX8_act_34 ?_
      refine lv_iload hx hb dX8_act_37 (lv_at hl 0 rfl) ?_
      obtain ⟨o_8, ho_8, hf⟩ := ht_bn_ob hf
      refine ht_callVi (r := o_8) (rest := []) (As := [.int x4_7]) (wc := (wTw K jN aN RN.laws RN.kind RN.need RN.saved RN.voice RN.partner RN.speaks RN.count RN.day RN.heard RN.geese RN.z)) (wr := (wHT K jX jN kX_kept kX_tried kX_trials kX_pairings kX_tape kX_telling kX_dayRows jE kX_sheets jY kX_shelvedRow RX.anythingKept ++ (wDe K jE aE RE.bodies o_1.1 o_1.2 RE.kind RE.number RE.voice ++ (wAr K 4 jY RY)))) (w1 := (wTw K jN aN RN.laws RN.kind RN.need RN.saved RN.voice RN.partner RN.speaks RN.count RN.day RN.heard RN.geese RN.z)) (w2 := (wHT K jX jN kX_kept kX_tried kX_trials kX_pairings kX_tape kX_telling kX_dayRows jE kX_sheets jY kX_shelvedRow RX.anythingKept ++ (wDe K jE aE RE.bodies o_1.1 o_1.2 RE.kind RE.number RE.voice ++ (wTw K jN aN RN.laws RN.kind RN.need RN.saved RN.voice RN.partner RN.speaks RN.count RN.day RN.heard RN.geese RN.z ++ (wAr K 4 jY RY))))) hF (ctX6_has l D K jN aN RN x4_7 o_8 ho_8 H.size) (cwV 1 hts gX8_act_X6_has rfl rfl rfl hdX6_has ⟨Nat.le_of_ble_eq_true rfl, Nat.le_of_ble_eq_true rfl⟩) hK hP hD hS hA [3, 4, 5, 6, 7, 8, 9, 10] [0, 1, 2, 11] rfl rfl (by decide) (by decide) (by decide) [0, 1, 2, 4, 5, 6, 7, 8, 9, 10, 11, 3] rfl (by decide) (va_recv hK hP (ci := 6) (q0 := 3) rfl rfl) rfl hl.1 rfl (Nat.le_of_ble_eq_true rfl) dX8_act_39 ⟨Nat.zero_le _, Nat.zero_le _⟩ (fun H locs hP hD hS => ?_)
      refine lv_if_ne (tgt := 47) hx hb dX8_act_42 (by decide) (fun c_9 => ?_) (fun c_9 => ?_)
      · replace hf := ht_f c_9 hf
        refine lv_aload_n hx hb dX8_act_47 rfl (lv_at hl 1 rfl) ?_
        refine va_get (D := D) (ci := 8) (v := .ref jE) (C := RX8) (T := TX8) (N := 13) hx hb hts iw8 hown hK hP 0 rfl rfl 8 (by decide) kw1 (fun _ h9 => h9) rfl dX8_act_48 ?_
        refine lv_aload_n hx hb dX8_act_51 rfl (lv_at hl 1 rfl) ?_
        refine va_get (D := D) (ci := 8) (v := .ref jN) (C := RX8) (T := TX8) (N := 13) hx hb hts iw8 hown hK hP 0 rfl rfl 0 (by decide) kw3 (fun _ h9 => h9) rfl dX8_act_52 ?_
        refine lv_iload hx hb dX8_act_55 (lv_at hl 0 rfl) ?_
        refine lv_iload_n hx hb dX8_act_57 rfl (lv_at hl 3 rfl) ?_
        refine lv_iload_n hx hb dX8_act_58 rfl (lv_at hl 4 rfl) ?_
        obtain ⟨o_10, ho_10, hf⟩ := ht_bn_ob hf
        refine ht_callVi (r := o_10.1) (rest := []) (As := [.ref jN, .int x4_7, .int p1, .int p2]) (wc := (wDe K jE aE RE.bodies o_1.1 o_1.2 RE.kind RE.number RE.voice ++ (wTw K jN aN RN.laws RN.kind RN.need RN.saved RN.voice RN.partner RN.speaks RN.count RN.day RN.heard RN.geese RN.z))) (wr := (wHT K jX jN kX_kept kX_tried kX_trials kX_pairings kX_tape kX_telling kX_dayRows jE kX_sheets jY kX_shelvedRow RX.anythingKept ++ (wAr K 4 jY RY))) (w1 := (wDe K jE aE o_10.2.1 o_10.2.2.1 o_10.2.2.2.1 o_10.2.2.2.2.1 o_10.2.2.2.2.2.1 o_10.2.2.2.2.2.2 ++ (wTw K jN aN RN.laws RN.kind RN.need RN.saved RN.voice RN.partner RN.speaks RN.count RN.day RN.heard RN.geese RN.z))) (w2 := (wHT K jX jN kX_kept kX_tried kX_trials kX_pairings kX_tape kX_telling kX_dayRows jE kX_sheets jY kX_shelvedRow RX.anythingKept ++ (wDe K jE aE o_10.2.1 o_10.2.2.1 o_10.2.2.2.1 o_10.2.2.2.2.1 o_10.2.2.2.2.2.1 o_10.2.2.2.2.2.2 ++ (wTw K jN aN RN.laws RN.kind RN.need RN.saved RN.voice RN.partner RN.speaks RN.count RN.day RN.heard RN.geese RN.z ++ (wAr K 4 jY RY))))) hF (ctX1_run l D K jE aE jN aN (RE.bodies, o_1.1, o_1.2, RE.kind, RE.number, RE.voice) RN x4_7 p1 p2 o_10 ho_10 H.size) (cwV 4 hts gX8_act_X1_run rfl rfl rfl hdX1_run ⟨Nat.le_of_ble_eq_true rfl, Nat.le_of_ble_eq_true rfl⟩) hK hP hD hS hA [1, 2, 3, 4, 5, 6, 7, 8, 9, 10] [0, 11] rfl rfl (by decide) (by decide) (by decide) [0, 2, 3, 4, 5, 6, 7, 8, 9, 10, 11, 1] rfl (by decide) (va_recv hK hP (ci := 1) (q0 := 1) rfl rfl) rfl hl.1 rfl (Nat.le_of_ble_eq_true rfl) dX8_act_59 ⟨Nat.zero_le _, Nat.zero_le _⟩ (fun H locs hP hD hS => ?_)
        obtain ⟨x5_11, ex5_11, hf⟩ := ht_nm_ob hf
        rw [← ex5_11]
        refine lv_istore (lv' := [(5, .int x5_11), (4, .int x4_7), (0, .ref jX), (1, .int p0), (2, .int p1), (3, .int p2)]) hx hb dX8_act_62 hl (by decide) rfl (fun ls hl => ?_)
        refine lv_aload_n hx hb dX8_act_64 rfl (lv_at hl 2 rfl) ?_
        refine va_get (D := D) (ci := 8) (v := .ref jE) (C := RX8) (T := TX8) (N := 13) hx hb hts iw8 hown hK hP 0 rfl rfl 8 (by decide) kw1 (fun _ h9 => h9) rfl dX8_act_65 ?_
        refine va_get (D := D) (ci := 1) (v := .int o_10.2.2.2.1) (C := RX1) (T := TX1) (N := 6) hx hb hts iw1 hown hK hP 1 rfl rfl 2 (by decide) kw5 (fun _ h9 => h9) rfl dX8_act_68 ?_
        refine lv_if_eq (tgt := 79) hx hb dX8_act_71 (by decide) (fun c_12 => ?_) (fun c_12 => ?_)
        · replace hf := ht_t c_12 hf
          refine lv_iload hx hb dX8_act_79 (lv_at hl 0 rfl) ?_
          have ho := Option.some.inj hf
          subst ho; subst hQ
          exact ht_iret hx hb hr hlk rfl hK hP hD hS dX8_act_81
        · replace hf := ht_f c_12 hf
          refine lv_bipush (v := -15) hx hb dX8_act_74 (by decide) ?_
          refine lv_goto (tgt := 81) hx hb dX8_act_76 (by decide) ?_
          have ho := Option.some.inj hf
          subst ho; subst hQ
          exact ht_iret hx hb hr hlk rfl hK hP hD hS dX8_act_81
      · replace hf := ht_t c_9 hf
        refine lv_iconst (v := 0) hx hb dX8_act_45 (by decide) ?_
        have ho := Option.some.inj hf
        subst ho; subst hQ
        exact ht_iret hx hb hr hlk rfl hK hP hD hS dX8_act_46
    · replace hf := ht_t c_5 hf
      refine lv_iconst (v := 0) hx hb dX8_act_23 (by decide) ?_
      have ho := Option.some.inj hf
      subst ho; subst hQ
      exact ht_iret hx hb hr hlk rfl hK hP hD hS dX8_act_24
abbrev rmX8_trace : Room := { frames := 1, cells := 0, slots := 0, locals := 22 }
theorem hdX8_trace : yX8_trace.cls = RX8 ∧ yX8_trace.cls ≠ "java/lang/invoke/MethodHandle" ∧ yX8_trace.cls ≠ "java/lang/invoke/VarHandle" ∧ (parseMethodDescriptor yX8_trace.desc).map (fun d => d.parameters.length) = some 1 := by decide +kernel
def fX8_trace (RX : HTV) (RE : DeedV) (p0 : Int32) : Option Int32 := ht_bn (fX8_within p0 (0 : Int32) (RE.begun - (1 : Int32))) (fun o_1 => if o_1 = 0 then (some (-3 : Int32)) else (ht_gd (ht_ix p0 30) (some (RE.bodies p0.toNatClampNeg))))
set_option maxHeartbeats 1000000 in
set_option maxRecDepth 100000 in
theorem ctX8_trace (l : Launch) (D : va_G) (K : Nat → ClassId) (jX : Nat) (jE : Nat) (aE : Nat → Nat) (kX_now : Nat) (kX_kept : Nat) (kX_tried : Nat) (kX_trials : Nat) (kX_pairings : Nat) (kX_tape : Nat) (kX_telling : Nat) (kX_dayRows : Nat) (kX_sheets : Nat) (kX_shelvedPerson : Nat) (kX_shelvedRow : Nat) (RX : HTV) (RE : DeedV) (p0 : Int32) (o : Int32) (hf : fX8_trace RX RE p0 = some o) (sz : Nat) : Met l yX8_trace wsX8_trace rmX8_trace (ht_Pre D K [.ref jX, .int p0] (wHT K jX kX_now kX_kept kX_tried kX_trials kX_pairings kX_tape kX_telling kX_dayRows jE kX_sheets kX_shelvedPerson kX_shelvedRow RX.anythingKept ++ (wDe K jE aE RE.bodies RE.begun RE.partedByZero RE.kind RE.number RE.voice)) sz) (ht_Qi D K (wHT K jX kX_now kX_kept kX_tried kX_trials kX_pairings kX_tape kX_telling kX_dayRows jE kX_sheets kX_shelvedPerson kX_shelvedRow RX.anythingKept ++ (wDe K jE aE RE.bodies RE.begun RE.partedByZero RE.kind RE.number RE.voice)) o (va_A (wHT K jX kX_now kX_kept kX_tried kX_trials kX_pairings kX_tape kX_telling kX_dayRows jE kX_sheets kX_shelvedPerson kX_shelvedRow RX.anythingKept ++ (wDe K jE aE RE.bodies RE.begun RE.partedByZero RE.kind RE.number RE.voice)) sz)) 0 0 (va_A (wHT K jX kX_now kX_kept kX_tried kX_trials kX_pairings kX_tape kX_telling kX_dayRows jE kX_sheets kX_shelvedPerson kX_shelvedRow RX.anythingKept ++ (wDe K jE aE RE.bodies RE.begun RE.partedByZero RE.kind RE.number RE.voice)) sz) := by
  refine ht_enter (Qf := ht_Qi D K (wHT K jX kX_now kX_kept kX_tried kX_trials kX_pairings kX_tape kX_telling kX_dayRows jE kX_sheets kX_shelvedPerson kX_shelvedRow RX.anythingKept ++ (wDe K jE aE RE.bodies RE.begun RE.partedByZero RE.kind RE.number RE.voice)) o) (cc := cX8_trace) (maxL := 2) (rt := (some .int)) (by decide) rfl (Nat.le_of_ble_eq_true rfl) ?_ sz
  intro p e s m below meth c A Q H locs ls hQ hx hb hr hlk hmn hml hown hts hA hK hP hD hS hl
  have hown : s.vm.findClass RX8 = some m.cls := hown
  have hF : CallFix p m c cX8_trace 2 s ([.ref jX, .int p0] : List Value).toArray wsX8_trace RX8 := ⟨hx, hb, hml, hown, hts⟩
  have hl : lv_has ls 2 [(0, .ref jX), (1, .int p0)] := hl
  have iw8 : ∀ w ∈ u_ws RX8 TX8 13, w ∈ wsX8_trace := by decide +kernel
  have kw1 := hts (.fieldLink RX8 66 "HeldTongues" "deed" "LHeldTongues$Deed;") (by decide +kernel)
  have iw1 : ∀ w ∈ u_ws RX1 TX1 6, w ∈ wsX8_trace := by decide +kernel
  have kw3 := hts (.fieldLink RX8 316 "HeldTongues$Deed" "begun" "I") (by decide +kernel)
  have kw4 := hts (.fieldLink RX8 319 "HeldTongues$Deed" "bodies" "[I") (by decide +kernel)
  delta fX8_trace at hf
  refine lv_iload_n hx hb dX8_trace_0 rfl (lv_at hl 1 rfl) ?_
  refine lv_iconst (v := 0) hx hb dX8_trace_1 (by decide) ?_
  refine lv_aload_n hx hb dX8_trace_2 rfl (lv_at hl 0 rfl) ?_
  refine va_get (D := D) (ci := 8) (v := .ref jE) (C := RX8) (T := TX8) (N := 13) hx hb hts iw8 hown hK hP 0 rfl rfl 8 (by decide) kw1 (fun _ h9 => h9) rfl dX8_trace_3 ?_
  refine va_get (D := D) (ci := 1) (v := .int RE.begun) (C := RX1) (T := TX1) (N := 6) hx hb hts iw1 hown hK hP 1 rfl rfl 1 (by decide) kw3 (fun _ h9 => h9) rfl dX8_trace_6 ?_
  refine lv_iconst (v := 1) hx hb dX8_trace_9 (by decide) ?_
  refine lv_isub hx hb dX8_trace_10 ?_
  obtain ⟨o_1, ho_1, hf⟩ := ht_bn_ob hf
  refine ht_callSi (r := o_1) (rest := []) (As := [.int p0, .int (0 : Int32), .int (RE.begun - (1 : Int32))]) (wc := []) (wr := (wHT K jX kX_now kX_kept kX_tried kX_trials kX_pairings kX_tape kX_telling kX_dayRows jE kX_sheets kX_shelvedPerson kX_shelvedRow RX.anythingKept ++ (wDe K jE aE RE.bodies RE.begun RE.partedByZero RE.kind RE.number RE.voice))) (w1 := []) (w2 := (wHT K jX kX_now kX_kept kX_tried kX_trials kX_pairings kX_tape kX_telling kX_dayRows jE kX_sheets kX_shelvedPerson kX_shelvedRow RX.anythingKept ++ (wDe K jE aE RE.bodies RE.begun RE.partedByZero RE.kind RE.number RE.voice))) hF (ctX8_within l D K p0 (0 : Int32) (RE.begun - (1 : Int32)) o_1 ho_1 H.size) (va_cwS 3 hts gX8_trace_X8_within rfl rfl rfl hdX8_within ⟨Nat.le_of_ble_eq_true rfl, Nat.le_of_ble_eq_true rfl⟩) hK hP hD hS hA [] [0, 1, 2] rfl rfl (by decide) (by decide) (by decide) [0, 1, 2] rfl (by decide) rfl hl.1 rfl (Nat.le_of_ble_eq_true rfl) dX8_trace_11 ⟨Nat.zero_le _, Nat.zero_le _⟩ (fun H locs hP hD hS => ?_)
  refine lv_if_eq (tgt := 29) hx hb dX8_trace_14 (by decide) (fun c_2 => ?_) (fun c_2 => ?_)
  · replace hf := ht_t c_2 hf
    refine lv_bipush (v := -3) hx hb dX8_trace_29 (by decide) ?_
    have ho := Option.some.inj hf
    subst ho; subst hQ
    exact ht_iret hx hb hr hlk rfl hK hP hD hS dX8_trace_31
  · replace hf := ht_f c_2 hf
    refine lv_aload_n hx hb dX8_trace_17 rfl (lv_at hl 0 rfl) ?_
    refine va_get (D := D) (ci := 8) (v := .ref jE) (C := RX8) (T := TX8) (N := 13) hx hb hts iw8 hown hK hP 0 rfl rfl 8 (by decide) kw1 (fun _ h9 => h9) rfl dX8_trace_18 ?_
    refine va_get (D := D) (ci := 1) (v := .ref (aE 0)) (C := RX1) (T := TX1) (N := 6) hx hb hts iw1 hown hK hP 1 rfl rfl 0 (by decide) kw4 (fun _ h9 => h9) rfl dX8_trace_21 ?_
    refine lv_iload_n hx hb dX8_trace_24 rfl (lv_at hl 1 rfl) ?_
    obtain ⟨g_3, hf⟩ := ht_gd_ob hf
    refine va_iald hx hb hK hP 2 1 rfl rfl (ht_ix_in g_3) dX8_trace_25 ?_
    refine lv_goto (tgt := 31) hx hb dX8_trace_26 (by decide) ?_
    have ho := Option.some.inj hf
    subst ho; subst hQ
    exact ht_iret hx hb hr hlk rfl hK hP hD hS dX8_trace_31
abbrev rmJ6_bitCount_0f7a4 : Room := { frames := 0, cells := 0, slots := 0, locals := 0 }
theorem hdJ6_bitCount_0f7a4 : yJ6_bitCount_0f7a4.cls ≠ "java/lang/invoke/MethodHandle" ∧ yJ6_bitCount_0f7a4.cls ≠ "java/lang/invoke/VarHandle" ∧ (parseMethodDescriptor yJ6_bitCount_0f7a4.desc).map (fun d => d.parameters.length) = some 1 := by decide +kernel
def fJ6_bitCount_0f7a4 (p0 : Int32) : Option Int32 := ht_nm (p0 - ((p0.toUInt32 >>> ((1 : Int32).toUInt32 &&& Int32.toUInt32 31)).toInt32 &&& (1431655765 : Int32))) (fun x0_1 => ht_nm ((x0_1 &&& (858993459 : Int32)) + ((x0_1.toUInt32 >>> ((2 : Int32).toUInt32 &&& Int32.toUInt32 31)).toInt32 &&& (858993459 : Int32))) (fun x0_2 => ht_nm ((x0_2 + (x0_2.toUInt32 >>> ((4 : Int32).toUInt32 &&& Int32.toUInt32 31)).toInt32) &&& (252645135 : Int32)) (fun x0_3 => ht_nm (x0_3 + (x0_3.toUInt32 >>> ((8 : Int32).toUInt32 &&& Int32.toUInt32 31)).toInt32) (fun x0_4 => ht_nm (x0_4 + (x0_4.toUInt32 >>> ((16 : Int32).toUInt32 &&& Int32.toUInt32 31)).toInt32) (fun x0_5 => some (x0_5 &&& (63 : Int32)))))))
set_option maxHeartbeats 1000000 in
set_option maxRecDepth 100000 in
theorem ctJ6_bitCount_0f7a4 (l : Launch) (D : va_G) (K : Nat → ClassId)  (p0 : Int32) (o : Int32) (hf : fJ6_bitCount_0f7a4 p0 = some o) (sz : Nat) : Met l yJ6_bitCount_0f7a4 wsJ6_bitCount_0f7a4 rmJ6_bitCount_0f7a4 (ht_Pre D K [.int p0] [] sz) (ht_Qi D K [] o (va_A [] sz)) 0 0 (va_A [] sz) := by
  refine ht_enter (Qf := ht_Qi D K [] o) (cc := cJ6_bitCount_0f7a4) (maxL := 1) (rt := (some .int)) (by decide) rfl (Nat.le_of_ble_eq_true rfl) ?_ sz
  intro p e s m below meth c A Q H locs ls hQ hx hb hr hlk hmn hml hown hts hA hK hP hD hS hl
  have hown : s.vm.findClass RJ6 = some m.cls := hown
  have hF : CallFix p m c cJ6_bitCount_0f7a4 1 s ([.int p0] : List Value).toArray wsJ6_bitCount_0f7a4 RJ6 := ⟨hx, hb, hml, hown, hts⟩
  have hl : lv_has ls 1 [(0, .int p0)] := hl
  have kw0 := hts (.constant RJ6 265 (1431655765)) (by decide +kernel)
  have kw1 := hts (.constant RJ6 266 (858993459)) (by decide +kernel)
  have kw2 := hts (.constant RJ6 267 (252645135)) (by decide +kernel)
  delta fJ6_bitCount_0f7a4 at hf
  refine lv_iload_n hx hb dJ6_bitCount_0f7a4_0 rfl (lv_at hl 0 rfl) ?_
  refine lv_iload_n hx hb dJ6_bitCount_0f7a4_1 rfl (lv_at hl 0 rfl) ?_
  refine lv_iconst (v := 1) hx hb dJ6_bitCount_0f7a4_2 (by decide) ?_
  refine lv_iushr hx hb dJ6_bitCount_0f7a4_3 rfl ?_
  refine lv_ldcw hx hb hown kw0 dJ6_bitCount_0f7a4_4 ?_
  refine lv_iand hx hb dJ6_bitCount_0f7a4_7 ?_
  refine lv_isub hx hb dJ6_bitCount_0f7a4_8 ?_
  obtain ⟨x0_1, ex0_1, hf⟩ := ht_nm_ob hf
  rw [← ex0_1]
  refine lv_istore_n (lv' := [(0, .int x0_1)]) hx hb dJ6_bitCount_0f7a4_9 rfl hl (by decide) rfl (fun ls hl => ?_)
  refine lv_iload_n hx hb dJ6_bitCount_0f7a4_10 rfl (lv_at hl 0 rfl) ?_
  refine lv_ldcw hx hb hown kw1 dJ6_bitCount_0f7a4_11 ?_
  refine lv_iand hx hb dJ6_bitCount_0f7a4_14 ?_
  refine lv_iload_n hx hb dJ6_bitCount_0f7a4_15 rfl (lv_at hl 0 rfl) ?_
  refine lv_iconst (v := 2) hx hb dJ6_bitCount_0f7a4_16 (by decide) ?_
  refine lv_iushr hx hb dJ6_bitCount_0f7a4_17 rfl ?_
  refine lv_ldcw hx hb hown kw1 dJ6_bitCount_0f7a4_18 ?_
  refine lv_iand hx hb dJ6_bitCount_0f7a4_21 ?_
  refine lv_iadd hx hb dJ6_bitCount_0f7a4_22 ?_
  obtain ⟨x0_2, ex0_2, hf⟩ := ht_nm_ob hf
  rw [← ex0_2]
  refine lv_istore_n (lv' := [(0, .int x0_2)]) hx hb dJ6_bitCount_0f7a4_23 rfl hl (by decide) rfl (fun ls hl => ?_)
  refine lv_iload_n hx hb dJ6_bitCount_0f7a4_24 rfl (lv_at hl 0 rfl) ?_
  refine lv_iload_n hx hb dJ6_bitCount_0f7a4_25 rfl (lv_at hl 0 rfl) ?_
  refine lv_iconst (v := 4) hx hb dJ6_bitCount_0f7a4_26 (by decide) ?_
  refine lv_iushr hx hb dJ6_bitCount_0f7a4_27 rfl ?_
  refine lv_iadd hx hb dJ6_bitCount_0f7a4_28 ?_
  refine lv_ldcw hx hb hown kw2 dJ6_bitCount_0f7a4_29 ?_
  refine lv_iand hx hb dJ6_bitCount_0f7a4_32 ?_
  obtain ⟨x0_3, ex0_3, hf⟩ := ht_nm_ob hf
  rw [← ex0_3]
  refine lv_istore_n (lv' := [(0, .int x0_3)]) hx hb dJ6_bitCount_0f7a4_33 rfl hl (by decide) rfl (fun ls hl => ?_)
  refine lv_iload_n hx hb dJ6_bitCount_0f7a4_34 rfl (lv_at hl 0 rfl) ?_
  refine lv_iload_n hx hb dJ6_bitCount_0f7a4_35 rfl (lv_at hl 0 rfl) ?_
  refine lv_bipush (v := 8) hx hb dJ6_bitCount_0f7a4_36 (by decide) ?_
  refine lv_iushr hx hb dJ6_bitCount_0f7a4_38 rfl ?_
  refine lv_iadd hx hb dJ6_bitCount_0f7a4_39 ?_
  obtain ⟨x0_4, ex0_4, hf⟩ := ht_nm_ob hf
  rw [← ex0_4]
  refine lv_istore_n (lv' := [(0, .int x0_4)]) hx hb dJ6_bitCount_0f7a4_40 rfl hl (by decide) rfl (fun ls hl => ?_)
  refine lv_iload_n hx hb dJ6_bitCount_0f7a4_41 rfl (lv_at hl 0 rfl) ?_
  refine lv_iload_n hx hb dJ6_bitCount_0f7a4_42 rfl (lv_at hl 0 rfl) ?_
  refine lv_bipush (v := 16) hx hb dJ6_bitCount_0f7a4_43 (by decide) ?_
  refine lv_iushr hx hb dJ6_bitCount_0f7a4_45 rfl ?_
  refine lv_iadd hx hb dJ6_bitCount_0f7a4_46 ?_
  obtain ⟨x0_5, ex0_5, hf⟩ := ht_nm_ob hf
  rw [← ex0_5]
  refine lv_istore_n (lv' := [(0, .int x0_5)]) hx hb dJ6_bitCount_0f7a4_47 rfl hl (by decide) rfl (fun ls hl => ?_)
  refine lv_iload_n hx hb dJ6_bitCount_0f7a4_48 rfl (lv_at hl 0 rfl) ?_
  refine lv_bipush (v := 63) hx hb dJ6_bitCount_0f7a4_49 (by decide) ?_
  refine lv_iand hx hb dJ6_bitCount_0f7a4_51 ?_
  have ho := Option.some.inj hf
  subst ho; subst hQ
  exact ht_iret hx hb hr hlk rfl hK hP hD hS dJ6_bitCount_0f7a4_52
abbrev rmX8_many : Room := { frames := 1, cells := 0, slots := 0, locals := 22 }
theorem hdX8_many : yX8_many.cls = RX8 ∧ yX8_many.cls ≠ "java/lang/invoke/MethodHandle" ∧ yX8_many.cls ≠ "java/lang/invoke/VarHandle" ∧ (parseMethodDescriptor yX8_many.desc).map (fun d => d.parameters.length) = some 1 := by decide +kernel
def fX8_many (RX : HTV) (RN : TownV) (RR : DayV) (RA : TapeV) (RE : DeedV) (p0 : Int32) : Option Int32 := if p0 = 0 then (some RN.count) else if p0 = 1 then (ht_bn (fX6_pairs RN) (fun o_3 => some o_3)) else if p0 = 2 then (ht_bn (fX6_speakers RN) (fun o_5 => ht_bn (fJ6_bitCount_0f7a4 o_5) (fun o_6 => some o_6))) else if p0 = 3 then (ht_bn (fX6_fullOnes RN) (fun o_8 => some o_8)) else if p0 = 4 then (some RR.count) else if p0 = 5 then (some RA.length) else if p0 = 6 then (some RE.begun) else (some (-1 : Int32))
set_option maxHeartbeats 1000000 in
set_option maxRecDepth 100000 in
theorem ctX8_many (l : Launch) (D : va_G) (K : Nat → ClassId) (jX : Nat) (jN : Nat) (aN : Nat → Nat) (jR : Nat) (aR : Nat → Nat) (jA : Nat) (aA : Nat → Nat) (jE : Nat) (aE : Nat → Nat) (kX_kept : Nat) (kX_tried : Nat) (kX_trials : Nat) (kX_pairings : Nat) (kX_telling : Nat) (kX_sheets : Nat) (kX_shelvedPerson : Nat) (kX_shelvedRow : Nat) (kR_now : Nat) (kR_tried : Nat) (RX : HTV) (RN : TownV) (RR : DayV) (RA : TapeV) (RE : DeedV) (p0 : Int32) (o : Int32) (hf : fX8_many RX RN RR RA RE p0 = some o) (sz : Nat) : Met l yX8_many wsX8_many rmX8_many (ht_Pre D K [.ref jX, .int p0] (wHT K jX jN kX_kept kX_tried kX_trials kX_pairings jA kX_telling jR jE kX_sheets kX_shelvedPerson kX_shelvedRow RX.anythingKept ++ (wTw K jN aN RN.laws RN.kind RN.need RN.saved RN.voice RN.partner RN.speaks RN.count RN.day RN.heard RN.geese RN.z ++ (wDr K jR aR kR_now kR_tried RR.numbers RR.count ++ (wTa K jA aA RA.bytes RA.length ++ (wDe K jE aE RE.bodies RE.begun RE.partedByZero RE.kind RE.number RE.voice))))) sz) (ht_Qi D K (wHT K jX jN kX_kept kX_tried kX_trials kX_pairings jA kX_telling jR jE kX_sheets kX_shelvedPerson kX_shelvedRow RX.anythingKept ++ (wTw K jN aN RN.laws RN.kind RN.need RN.saved RN.voice RN.partner RN.speaks RN.count RN.day RN.heard RN.geese RN.z ++ (wDr K jR aR kR_now kR_tried RR.numbers RR.count ++ (wTa K jA aA RA.bytes RA.length ++ (wDe K jE aE RE.bodies RE.begun RE.partedByZero RE.kind RE.number RE.voice))))) o (va_A (wHT K jX jN kX_kept kX_tried kX_trials kX_pairings jA kX_telling jR jE kX_sheets kX_shelvedPerson kX_shelvedRow RX.anythingKept ++ (wTw K jN aN RN.laws RN.kind RN.need RN.saved RN.voice RN.partner RN.speaks RN.count RN.day RN.heard RN.geese RN.z ++ (wDr K jR aR kR_now kR_tried RR.numbers RR.count ++ (wTa K jA aA RA.bytes RA.length ++ (wDe K jE aE RE.bodies RE.begun RE.partedByZero RE.kind RE.number RE.voice))))) sz)) 0 0 (va_A (wHT K jX jN kX_kept kX_tried kX_trials kX_pairings jA kX_telling jR jE kX_sheets kX_shelvedPerson kX_shelvedRow RX.anythingKept ++ (wTw K jN aN RN.laws RN.kind RN.need RN.saved RN.voice RN.partner RN.speaks RN.count RN.day RN.heard RN.geese RN.z ++ (wDr K jR aR kR_now kR_tried RR.numbers RR.count ++ (wTa K jA aA RA.bytes RA.length ++ (wDe K jE aE RE.bodies RE.begun RE.partedByZero RE.kind RE.number RE.voice))))) sz) := by
  refine ht_enter (Qf := ht_Qi D K (wHT K jX jN kX_kept kX_tried kX_trials kX_pairings jA kX_telling jR jE kX_sheets kX_shelvedPerson kX_shelvedRow RX.anythingKept ++ (wTw K jN aN RN.laws RN.kind RN.need RN.saved RN.voice RN.partner RN.speaks RN.count RN.day RN.heard RN.geese RN.z ++ (wDr K jR aR kR_now kR_tried RR.numbers RR.count ++ (wTa K jA aA RA.bytes RA.length ++ (wDe K jE aE RE.bodies RE.begun RE.partedByZero RE.kind RE.number RE.voice))))) o) (cc := cX8_many) (maxL := 2) (rt := (some .int)) (by decide) rfl (Nat.le_of_ble_eq_true rfl) ?_ sz
  intro p e s m below meth c A Q H locs ls hQ hx hb hr hlk hmn hml hown hts hA hK hP hD hS hl
  have hown : s.vm.findClass RX8 = some m.cls := hown
  have hF : CallFix p m c cX8_many 2 s ([.ref jX, .int p0] : List Value).toArray wsX8_many RX8 := ⟨hx, hb, hml, hown, hts⟩
  have hl : lv_has ls 2 [(0, .ref jX), (1, .int p0)] := hl
  have iw8 : ∀ w ∈ u_ws RX8 TX8 13, w ∈ wsX8_many := by decide +kernel
  have kw1 := hts (.fieldLink RX8 10 "HeldTongues" "now" "LHeldTongues$Town;") (by decide +kernel)
  have iw6 : ∀ w ∈ u_ws RX6 TX6 12, w ∈ wsX8_many := by decide +kernel
  have kw3 := hts (.fieldLink RX8 114 "HeldTongues$Town" "count" "I") (by decide +kernel)
  have kw4 := hts (.fieldLink RX8 59 "HeldTongues" "dayRows" "LHeldTongues$DayRows;") (by decide +kernel)
  have iw0 : ∀ w ∈ u_ws RX0 TX0 4, w ∈ wsX8_many := by decide +kernel
  have kw6 := hts (.fieldLink RX8 111 "HeldTongues$DayRows" "count" "I") (by decide +kernel)
  have kw7 := hts (.fieldLink RX8 43 "HeldTongues" "tape" "LHeldTongues$Tape;") (by decide +kernel)
  have iw4 : ∀ w ∈ u_ws RX4 TX4 2, w ∈ wsX8_many := by decide +kernel
  have kw9 := hts (.fieldLink RX8 87 "HeldTongues$Tape" "length" "I") (by decide +kernel)
  have kw10 := hts (.fieldLink RX8 66 "HeldTongues" "deed" "LHeldTongues$Deed;") (by decide +kernel)
  have iw1 : ∀ w ∈ u_ws RX1 TX1 6, w ∈ wsX8_many := by decide +kernel
  have kw12 := hts (.fieldLink RX8 316 "HeldTongues$Deed" "begun" "I") (by decide +kernel)
  delta fX8_many at hf
  refine lv_iload_n hx hb dX8_many_0 rfl (lv_at hl 1 rfl) ?_
  by_cases c_1 : p0 = 0
  · replace hf := ht_t c_1 hf
    refine lv_tableIn (tgt := 44) hx hb dX8_many_1 (by rw [c_1]; decide) (by rw [c_1]; decide) (by rw [c_1]; rfl) (by decide) ?_
    refine lv_aload_n hx hb dX8_many_44 rfl (lv_at hl 0 rfl) ?_
    refine va_get (D := D) (ci := 8) (v := .ref jN) (C := RX8) (T := TX8) (N := 13) hx hb hts iw8 hown hK hP 0 rfl rfl 0 (by decide) kw1 (fun _ h9 => h9) rfl dX8_many_45 ?_
    refine va_get (D := D) (ci := 6) (v := .int RN.count) (C := RX6) (T := TX6) (N := 12) hx hb hts iw6 hown hK hP 1 rfl rfl 7 (by decide) kw3 (fun _ h9 => h9) rfl dX8_many_48 ?_
    have ho := Option.some.inj hf
    subst ho; subst hQ
    exact ht_iret hx hb hr hlk rfl hK hP hD hS dX8_many_51
  replace hf := ht_f c_1 hf
  by_cases c_2 : p0 = 1
  · replace hf := ht_t c_2 hf
    refine lv_tableIn (tgt := 52) hx hb dX8_many_1 (by rw [c_2]; decide) (by rw [c_2]; decide) (by rw [c_2]; rfl) (by decide) ?_
    refine lv_aload_n hx hb dX8_many_52 rfl (lv_at hl 0 rfl) ?_
    refine va_get (D := D) (ci := 8) (v := .ref jN) (C := RX8) (T := TX8) (N := 13) hx hb hts iw8 hown hK hP 0 rfl rfl 0 (by decide) kw1 (fun _ h9 => h9) rfl dX8_many_53 ?_
    obtain ⟨o_3, ho_3, hf⟩ := ht_bn_ob hf
    refine ht_callVi (r := o_3) (rest := []) (As := []) (wc := (wTw K jN aN RN.laws RN.kind RN.need RN.saved RN.voice RN.partner RN.speaks RN.count RN.day RN.heard RN.geese RN.z)) (wr := (wHT K jX jN kX_kept kX_tried kX_trials kX_pairings jA kX_telling jR jE kX_sheets kX_shelvedPerson kX_shelvedRow RX.anythingKept ++ (wDr K jR aR kR_now kR_tried RR.numbers RR.count ++ (wTa K jA aA RA.bytes RA.length ++ (wDe K jE aE RE.bodies RE.begun RE.partedByZero RE.kind RE.number RE.voice))))) (w1 := (wTw K jN aN RN.laws RN.kind RN.need RN.saved RN.voice RN.partner RN.speaks RN.count RN.day RN.heard RN.geese RN.z)) (w2 := (wHT K jX jN kX_kept kX_tried kX_trials kX_pairings jA kX_telling jR jE kX_sheets kX_shelvedPerson kX_shelvedRow RX.anythingKept ++ (wTw K jN aN RN.laws RN.kind RN.need RN.saved RN.voice RN.partner RN.speaks RN.count RN.day RN.heard RN.geese RN.z ++ (wDr K jR aR kR_now kR_tried RR.numbers RR.count ++ (wTa K jA aA RA.bytes RA.length ++ (wDe K jE aE RE.bodies RE.begun RE.partedByZero RE.kind RE.number RE.voice)))))) hF (ctX6_pairs l D K jN aN RN o_3 ho_3 H.size) (cwV 0 hts gX8_many_X6_pairs rfl rfl rfl hdX6_pairs ⟨Nat.le_of_ble_eq_true rfl, Nat.le_of_ble_eq_true rfl⟩) hK hP hD hS hA [1, 2, 3, 4, 5, 6, 7, 8] [0, 9, 10, 11, 12, 13, 14] rfl rfl (by decide) (by decide) (by decide) [0, 7, 8, 9, 10, 11, 12, 13, 14, 1, 2, 3, 4, 5, 6] rfl (by decide) (va_recv hK hP (ci := 6) (q0 := 1) rfl rfl) rfl hl.1 rfl (Nat.le_of_ble_eq_true rfl) dX8_many_56 ⟨Nat.zero_le _, Nat.zero_le _⟩ (fun H locs hP hD hS => ?_)
    have ho := Option.some.inj hf
    subst ho; subst hQ
    exact ht_iret hx hb hr hlk rfl hK hP hD hS dX8_many_59
  replace hf := ht_f c_2 hf
  by_cases c_4 : p0 = 2
  · replace hf := ht_t c_4 hf
    refine lv_tableIn (tgt := 60) hx hb dX8_many_1 (by rw [c_4]; decide) (by rw [c_4]; decide) (by rw [c_4]; rfl) (by decide) ?_
    refine lv_aload_n hx hb dX8_many_60 rfl (lv_at hl 0 rfl) ?_
    refine va_get (D := D) (ci := 8) (v := .ref jN) (C := RX8) (T := TX8) (N := 13) hx hb hts iw8 hown hK hP 0 rfl rfl 0 (by decide) kw1 (fun _ h9 => h9) rfl dX8_many_61 ?_
    obtain ⟨o_5, ho_5, hf⟩ := ht_bn_ob hf
    refine ht_callVi (r := o_5) (rest := []) (As := []) (wc := (wTw K jN aN RN.laws RN.kind RN.need RN.saved RN.voice RN.partner RN.speaks RN.count RN.day RN.heard RN.geese RN.z)) (wr := (wHT K jX jN kX_kept kX_tried kX_trials kX_pairings jA kX_telling jR jE kX_sheets kX_shelvedPerson kX_shelvedRow RX.anythingKept ++ (wDr K jR aR kR_now kR_tried RR.numbers RR.count ++ (wTa K jA aA RA.bytes RA.length ++ (wDe K jE aE RE.bodies RE.begun RE.partedByZero RE.kind RE.number RE.voice))))) (w1 := (wTw K jN aN RN.laws RN.kind RN.need RN.saved RN.voice RN.partner RN.speaks RN.count RN.day RN.heard RN.geese RN.z)) (w2 := (wHT K jX jN kX_kept kX_tried kX_trials kX_pairings jA kX_telling jR jE kX_sheets kX_shelvedPerson kX_shelvedRow RX.anythingKept ++ (wTw K jN aN RN.laws RN.kind RN.need RN.saved RN.voice RN.partner RN.speaks RN.count RN.day RN.heard RN.geese RN.z ++ (wDr K jR aR kR_now kR_tried RR.numbers RR.count ++ (wTa K jA aA RA.bytes RA.length ++ (wDe K jE aE RE.bodies RE.begun RE.partedByZero RE.kind RE.number RE.voice)))))) hF (ctX6_speakers l D K jN aN RN o_5 ho_5 H.size) (cwV 0 hts gX8_many_X6_speakers rfl rfl rfl hdX6_speakers ⟨Nat.le_of_ble_eq_true rfl, Nat.le_of_ble_eq_true rfl⟩) hK hP hD hS hA [1, 2, 3, 4, 5, 6, 7, 8] [0, 9, 10, 11, 12, 13, 14] rfl rfl (by decide) (by decide) (by decide) [0, 7, 8, 9, 10, 11, 12, 13, 14, 1, 2, 3, 4, 5, 6] rfl (by decide) (va_recv hK hP (ci := 6) (q0 := 1) rfl rfl) rfl hl.1 rfl (Nat.le_of_ble_eq_true rfl) dX8_many_64 ⟨Nat.zero_le _, Nat.zero_le _⟩ (fun H locs hP hD hS => ?_)
    obtain ⟨o_6, ho_6, hf⟩ := ht_bn_ob hf
    refine ht_callSi (r := o_6) (rest := []) (As := [.int o_5]) (wc := []) (wr := (wHT K jX jN kX_kept kX_tried kX_trials kX_pairings jA kX_telling jR jE kX_sheets kX_shelvedPerson kX_shelvedRow RX.anythingKept ++ (wTw K jN aN RN.laws RN.kind RN.need RN.saved RN.voice RN.partner RN.speaks RN.count RN.day RN.heard RN.geese RN.z ++ (wDr K jR aR kR_now kR_tried RR.numbers RR.count ++ (wTa K jA aA RA.bytes RA.length ++ (wDe K jE aE RE.bodies RE.begun RE.partedByZero RE.kind RE.number RE.voice)))))) (w1 := []) (w2 := (wHT K jX jN kX_kept kX_tried kX_trials kX_pairings jA kX_telling jR jE kX_sheets kX_shelvedPerson kX_shelvedRow RX.anythingKept ++ (wTw K jN aN RN.laws RN.kind RN.need RN.saved RN.voice RN.partner RN.speaks RN.count RN.day RN.heard RN.geese RN.z ++ (wDr K jR aR kR_now kR_tried RR.numbers RR.count ++ (wTa K jA aA RA.bytes RA.length ++ (wDe K jE aE RE.bodies RE.begun RE.partedByZero RE.kind RE.number RE.voice)))))) hF (ctJ6_bitCount_0f7a4 l D K o_5 o_6 ho_6 H.size) (va_cwS 1 hts gX8_many_J6_bitCount_0f7a4 rfl rfl rfl hdJ6_bitCount_0f7a4 ⟨Nat.le_of_ble_eq_true rfl, Nat.le_of_ble_eq_true rfl⟩) hK hP hD hS hA [] [0, 1, 2, 3, 4, 5, 6, 7, 8, 9, 10, 11, 12, 13, 14] rfl rfl (by decide) (by decide) (by decide) [0, 1, 2, 3, 4, 5, 6, 7, 8, 9, 10, 11, 12, 13, 14] rfl (by decide) rfl hl.1 rfl (Nat.le_of_ble_eq_true rfl) dX8_many_67 ⟨Nat.zero_le _, Nat.zero_le _⟩ (fun H locs hP hD hS => ?_)
    have ho := Option.some.inj hf
    subst ho; subst hQ
    exact ht_iret hx hb hr hlk rfl hK hP hD hS dX8_many_70
  replace hf := ht_f c_4 hf
  by_cases c_7 : p0 = 3
  · replace hf := ht_t c_7 hf
    refine lv_tableIn (tgt := 71) hx hb dX8_many_1 (by rw [c_7]; decide) (by rw [c_7]; decide) (by rw [c_7]; rfl) (by decide) ?_
    refine lv_aload_n hx hb dX8_many_71 rfl (lv_at hl 0 rfl) ?_
    refine va_get (D := D) (ci := 8) (v := .ref jN) (C := RX8) (T := TX8) (N := 13) hx hb hts iw8 hown hK hP 0 rfl rfl 0 (by decide) kw1 (fun _ h9 => h9) rfl dX8_many_72 ?_
    obtain ⟨o_8, ho_8, hf⟩ := ht_bn_ob hf
    refine ht_callVi (r := o_8) (rest := []) (As := []) (wc := (wTw K jN aN RN.laws RN.kind RN.need RN.saved RN.voice RN.partner RN.speaks RN.count RN.day RN.heard RN.geese RN.z)) (wr := (wHT K jX jN kX_kept kX_tried kX_trials kX_pairings jA kX_telling jR jE kX_sheets kX_shelvedPerson kX_shelvedRow RX.anythingKept ++ (wDr K jR aR kR_now kR_tried RR.numbers RR.count ++ (wTa K jA aA RA.bytes RA.length ++ (wDe K jE aE RE.bodies RE.begun RE.partedByZero RE.kind RE.number RE.voice))))) (w1 := (wTw K jN aN RN.laws RN.kind RN.need RN.saved RN.voice RN.partner RN.speaks RN.count RN.day RN.heard RN.geese RN.z)) (w2 := (wHT K jX jN kX_kept kX_tried kX_trials kX_pairings jA kX_telling jR jE kX_sheets kX_shelvedPerson kX_shelvedRow RX.anythingKept ++ (wTw K jN aN RN.laws RN.kind RN.need RN.saved RN.voice RN.partner RN.speaks RN.count RN.day RN.heard RN.geese RN.z ++ (wDr K jR aR kR_now kR_tried RR.numbers RR.count ++ (wTa K jA aA RA.bytes RA.length ++ (wDe K jE aE RE.bodies RE.begun RE.partedByZero RE.kind RE.number RE.voice)))))) hF (ctX6_fullOnes l D K jN aN RN o_8 ho_8 H.size) (cwV 0 hts gX8_many_X6_fullOnes rfl rfl rfl hdX6_fullOnes ⟨Nat.le_of_ble_eq_true rfl, Nat.le_of_ble_eq_true rfl⟩) hK hP hD hS hA [1, 2, 3, 4, 5, 6, 7, 8] [0, 9, 10, 11, 12, 13, 14] rfl rfl (by decide) (by decide) (by decide) [0, 7, 8, 9, 10, 11, 12, 13, 14, 1, 2, 3, 4, 5, 6] rfl (by decide) (va_recv hK hP (ci := 6) (q0 := 1) rfl rfl) rfl hl.1 rfl (Nat.le_of_ble_eq_true rfl) dX8_many_75 ⟨Nat.zero_le _, Nat.zero_le _⟩ (fun H locs hP hD hS => ?_)
    have ho := Option.some.inj hf
    subst ho; subst hQ
    exact ht_iret hx hb hr hlk rfl hK hP hD hS dX8_many_78
  replace hf := ht_f c_7 hf
  by_cases c_9 : p0 = 4
  · replace hf := ht_t c_9 hf
    refine lv_tableIn (tgt := 79) hx hb dX8_many_1 (by rw [c_9]; decide) (by rw [c_9]; decide) (by rw [c_9]; rfl) (by decide) ?_
    refine lv_aload_n hx hb dX8_many_79 rfl (lv_at hl 0 rfl) ?_
    refine va_get (D := D) (ci := 8) (v := .ref jR) (C := RX8) (T := TX8) (N := 13) hx hb hts iw8 hown hK hP 0 rfl rfl 7 (by decide) kw4 (fun _ h9 => h9) rfl dX8_many_80 ?_
    refine va_get (D := D) (ci := 0) (v := .int RR.count) (C := RX0) (T := TX0) (N := 4) hx hb hts iw0 hown hK hP 9 rfl rfl 3 (by decide) kw6 (fun _ h9 => h9) rfl dX8_many_83 ?_
    have ho := Option.some.inj hf
    subst ho; subst hQ
    exact ht_iret hx hb hr hlk rfl hK hP hD hS dX8_many_86
  replace hf := ht_f c_9 hf
  by_cases c_10 : p0 = 5
  · replace hf := ht_t c_10 hf
    refine lv_tableIn (tgt := 87) hx hb dX8_many_1 (by rw [c_10]; decide) (by rw [c_10]; decide) (by rw [c_10]; rfl) (by decide) ?_
    refine lv_aload_n hx hb dX8_many_87 rfl (lv_at hl 0 rfl) ?_
    refine va_get (D := D) (ci := 8) (v := .ref jA) (C := RX8) (T := TX8) (N := 13) hx hb hts iw8 hown hK hP 0 rfl rfl 5 (by decide) kw7 (fun _ h9 => h9) rfl dX8_many_88 ?_
    refine va_get (D := D) (ci := 4) (v := .int RA.length) (C := RX4) (T := TX4) (N := 2) hx hb hts iw4 hown hK hP 11 rfl rfl 1 (by decide) kw9 (fun _ h9 => h9) rfl dX8_many_91 ?_
    have ho := Option.some.inj hf
    subst ho; subst hQ
    exact ht_iret hx hb hr hlk rfl hK hP hD hS dX8_many_94
  replace hf := ht_f c_10 hf
  by_cases c_11 : p0 = 6
  · replace hf := ht_t c_11 hf
    refine lv_tableIn (tgt := 95) hx hb dX8_many_1 (by rw [c_11]; decide) (by rw [c_11]; decide) (by rw [c_11]; rfl) (by decide) ?_
    refine lv_aload_n hx hb dX8_many_95 rfl (lv_at hl 0 rfl) ?_
    refine va_get (D := D) (ci := 8) (v := .ref jE) (C := RX8) (T := TX8) (N := 13) hx hb hts iw8 hown hK hP 0 rfl rfl 8 (by decide) kw10 (fun _ h9 => h9) rfl dX8_many_96 ?_
    refine va_get (D := D) (ci := 1) (v := .int RE.begun) (C := RX1) (T := TX1) (N := 6) hx hb hts iw1 hown hK hP 13 rfl rfl 1 (by decide) kw12 (fun _ h9 => h9) rfl dX8_many_99 ?_
    have ho := Option.some.inj hf
    subst ho; subst hQ
    exact ht_iret hx hb hr hlk rfl hK hP hD hS dX8_many_102
  replace hf := ht_f c_11 hf
  refine lv_tableOut (tgt := 103) hx hb dX8_many_1 (by have := lv_neT c_1 (a := 0) rfl; have := lv_neT c_2 (a := 1) rfl; have := lv_neT c_4 (a := 2) rfl; have := lv_neT c_7 (a := 3) rfl; have := lv_neT c_9 (a := 4) rfl; have := lv_neT c_10 (a := 5) rfl; have := lv_neT c_11 (a := 6) rfl; omega) (by decide) ?_
  refine lv_iconst (v := -1) hx hb dX8_many_103 (by decide) ?_
  have ho := Option.some.inj hf
  subst ho; subst hQ
  exact ht_iret hx hb hr hlk rfl hK hP hD hS dX8_many_104
abbrev rmX8_keep : Room := { frames := 2, cells := 0, slots := 0, locals := 44 }
theorem hdX8_keep : yX8_keep.cls = RX8 ∧ yX8_keep.cls ≠ "java/lang/invoke/MethodHandle" ∧ yX8_keep.cls ≠ "java/lang/invoke/VarHandle" ∧ (parseMethodDescriptor yX8_keep.desc).map (fun d => d.parameters.length) = some 0 := by decide +kernel
def fX8_keep (RX : HTV) (RN : TownV) (RU : TownV) : Option (Int32 × Int32 × AI × AI × AI × AI × AI × AI × AI × Int32 × Int32 × Int32 × Int32 × Int32) := ht_bn (fX6_copyFrom RU RN) (fun o_1 => some ((1 : Int32), (1 : Int32), o_1.1, o_1.2.1, o_1.2.2.1, o_1.2.2.2.1, o_1.2.2.2.2.1, o_1.2.2.2.2.2.1, o_1.2.2.2.2.2.2.1, o_1.2.2.2.2.2.2.2.1, o_1.2.2.2.2.2.2.2.2.1, o_1.2.2.2.2.2.2.2.2.2.1, o_1.2.2.2.2.2.2.2.2.2.2.1, o_1.2.2.2.2.2.2.2.2.2.2.2))
set_option maxHeartbeats 1000000 in
set_option maxRecDepth 100000 in
theorem ctX8_keep (l : Launch) (D : va_G) (K : Nat → ClassId) (jX : Nat) (jN : Nat) (aN : Nat → Nat) (jU : Nat) (aU : Nat → Nat) (kX_tried : Nat) (kX_trials : Nat) (kX_pairings : Nat) (kX_tape : Nat) (kX_telling : Nat) (kX_dayRows : Nat) (kX_deed : Nat) (kX_sheets : Nat) (kX_shelvedPerson : Nat) (kX_shelvedRow : Nat) (RX : HTV) (RN : TownV) (RU : TownV) (o : (Int32 × Int32 × AI × AI × AI × AI × AI × AI × AI × Int32 × Int32 × Int32 × Int32 × Int32)) (hf : fX8_keep RX RN RU = some o) (sz : Nat) : Met l yX8_keep wsX8_keep rmX8_keep (ht_Pre D K [.ref jX] (wHT K jX jN jU kX_tried kX_trials kX_pairings kX_tape kX_telling kX_dayRows kX_deed kX_sheets kX_shelvedPerson kX_shelvedRow RX.anythingKept ++ (wTw K jN aN RN.laws RN.kind RN.need RN.saved RN.voice RN.partner RN.speaks RN.count RN.day RN.heard RN.geese RN.z ++ (wTw K jU aU RU.laws RU.kind RU.need RU.saved RU.voice RU.partner RU.speaks RU.count RU.day RU.heard RU.geese RU.z))) sz) (ht_Qi D K (wHT K jX jN jU kX_tried kX_trials kX_pairings kX_tape kX_telling kX_dayRows kX_deed kX_sheets kX_shelvedPerson kX_shelvedRow o.2.1 ++ (wTw K jN aN RN.laws RN.kind RN.need RN.saved RN.voice RN.partner RN.speaks RN.count RN.day RN.heard RN.geese RN.z ++ (wTw K jU aU o.2.2.1 o.2.2.2.1 o.2.2.2.2.1 o.2.2.2.2.2.1 o.2.2.2.2.2.2.1 o.2.2.2.2.2.2.2.1 o.2.2.2.2.2.2.2.2.1 o.2.2.2.2.2.2.2.2.2.1 o.2.2.2.2.2.2.2.2.2.2.1 o.2.2.2.2.2.2.2.2.2.2.2.1 o.2.2.2.2.2.2.2.2.2.2.2.2.1 o.2.2.2.2.2.2.2.2.2.2.2.2.2))) o.1 (va_A (wHT K jX jN jU kX_tried kX_trials kX_pairings kX_tape kX_telling kX_dayRows kX_deed kX_sheets kX_shelvedPerson kX_shelvedRow RX.anythingKept ++ (wTw K jN aN RN.laws RN.kind RN.need RN.saved RN.voice RN.partner RN.speaks RN.count RN.day RN.heard RN.geese RN.z ++ (wTw K jU aU RU.laws RU.kind RU.need RU.saved RU.voice RU.partner RU.speaks RU.count RU.day RU.heard RU.geese RU.z))) sz)) 0 0 (va_A (wHT K jX jN jU kX_tried kX_trials kX_pairings kX_tape kX_telling kX_dayRows kX_deed kX_sheets kX_shelvedPerson kX_shelvedRow RX.anythingKept ++ (wTw K jN aN RN.laws RN.kind RN.need RN.saved RN.voice RN.partner RN.speaks RN.count RN.day RN.heard RN.geese RN.z ++ (wTw K jU aU RU.laws RU.kind RU.need RU.saved RU.voice RU.partner RU.speaks RU.count RU.day RU.heard RU.geese RU.z))) sz) := by
  refine ht_enter (Qf := ht_Qi D K (wHT K jX jN jU kX_tried kX_trials kX_pairings kX_tape kX_telling kX_dayRows kX_deed kX_sheets kX_shelvedPerson kX_shelvedRow o.2.1 ++ (wTw K jN aN RN.laws RN.kind RN.need RN.saved RN.voice RN.partner RN.speaks RN.count RN.day RN.heard RN.geese RN.z ++ (wTw K jU aU o.2.2.1 o.2.2.2.1 o.2.2.2.2.1 o.2.2.2.2.2.1 o.2.2.2.2.2.2.1 o.2.2.2.2.2.2.2.1 o.2.2.2.2.2.2.2.2.1 o.2.2.2.2.2.2.2.2.2.1 o.2.2.2.2.2.2.2.2.2.2.1 o.2.2.2.2.2.2.2.2.2.2.2.1 o.2.2.2.2.2.2.2.2.2.2.2.2.1 o.2.2.2.2.2.2.2.2.2.2.2.2.2))) o.1) (cc := cX8_keep) (maxL := 1) (rt := (some .int)) (by decide) rfl (Nat.le_of_ble_eq_true rfl) ?_ sz
  intro p e s m below meth c A Q H locs ls hQ hx hb hr hlk hmn hml hown hts hA hK hP hD hS hl
  have hown : s.vm.findClass RX8 = some m.cls := hown
  have hF : CallFix p m c cX8_keep 1 s ([.ref jX] : List Value).toArray wsX8_keep RX8 := ⟨hx, hb, hml, hown, hts⟩
  have hl : lv_has ls 1 [(0, .ref jX)] := hl
  have iw8 : ∀ w ∈ u_ws RX8 TX8 13, w ∈ wsX8_keep := by decide +kernel
  have kw1 := hts (.fieldLink RX8 16 "HeldTongues" "kept" "LHeldTongues$Town;") (by decide +kernel)
  have kw2 := hts (.fieldLink RX8 10 "HeldTongues" "now" "LHeldTongues$Town;") (by decide +kernel)
  have kw3 := hts (.fieldLink RX8 333 "HeldTongues" "anythingKept" "Z") (by decide +kernel)
  delta fX8_keep at hf
  refine lv_aload_n hx hb dX8_keep_0 rfl (lv_at hl 0 rfl) ?_
  refine va_get (D := D) (ci := 8) (v := .ref jU) (C := RX8) (T := TX8) (N := 13) hx hb hts iw8 hown hK hP 0 rfl rfl 1 (by decide) kw1 (fun _ h9 => h9) rfl dX8_keep_1 ?_
  refine lv_aload_n hx hb dX8_keep_4 rfl (lv_at hl 0 rfl) ?_
  refine va_get (D := D) (ci := 8) (v := .ref jN) (C := RX8) (T := TX8) (N := 13) hx hb hts iw8 hown hK hP 0 rfl rfl 0 (by decide) kw2 (fun _ h9 => h9) rfl dX8_keep_5 ?_
  obtain ⟨o_1, ho_1, hf⟩ := ht_bn_ob hf
  refine ht_callVv (rest := []) (As := [.ref jN]) (wc := (wTw K jU aU RU.laws RU.kind RU.need RU.saved RU.voice RU.partner RU.speaks RU.count RU.day RU.heard RU.geese RU.z ++ (wTw K jN aN RN.laws RN.kind RN.need RN.saved RN.voice RN.partner RN.speaks RN.count RN.day RN.heard RN.geese RN.z))) (wr := (wHT K jX jN jU kX_tried kX_trials kX_pairings kX_tape kX_telling kX_dayRows kX_deed kX_sheets kX_shelvedPerson kX_shelvedRow RX.anythingKept)) (w1 := (wTw K jU aU o_1.1 o_1.2.1 o_1.2.2.1 o_1.2.2.2.1 o_1.2.2.2.2.1 o_1.2.2.2.2.2.1 o_1.2.2.2.2.2.2.1 o_1.2.2.2.2.2.2.2.1 o_1.2.2.2.2.2.2.2.2.1 o_1.2.2.2.2.2.2.2.2.2.1 o_1.2.2.2.2.2.2.2.2.2.2.1 o_1.2.2.2.2.2.2.2.2.2.2.2 ++ (wTw K jN aN RN.laws RN.kind RN.need RN.saved RN.voice RN.partner RN.speaks RN.count RN.day RN.heard RN.geese RN.z))) (w2 := (wHT K jX jN jU kX_tried kX_trials kX_pairings kX_tape kX_telling kX_dayRows kX_deed kX_sheets kX_shelvedPerson kX_shelvedRow RX.anythingKept ++ (wTw K jN aN RN.laws RN.kind RN.need RN.saved RN.voice RN.partner RN.speaks RN.count RN.day RN.heard RN.geese RN.z ++ (wTw K jU aU o_1.1 o_1.2.1 o_1.2.2.1 o_1.2.2.2.1 o_1.2.2.2.2.1 o_1.2.2.2.2.2.1 o_1.2.2.2.2.2.2.1 o_1.2.2.2.2.2.2.2.1 o_1.2.2.2.2.2.2.2.2.1 o_1.2.2.2.2.2.2.2.2.2.1 o_1.2.2.2.2.2.2.2.2.2.2.1 o_1.2.2.2.2.2.2.2.2.2.2.2)))) hF (ctX6_copyFrom l D K jU aU jN aN RU RN o_1 ho_1 H.size) (cwV 1 hts gX8_keep_X6_copyFrom rfl rfl rfl hdX6_copyFrom ⟨Nat.le_of_ble_eq_true rfl, Nat.le_of_ble_eq_true rfl⟩) hK hP hD hS hA [9, 10, 11, 12, 13, 14, 15, 16, 1, 2, 3, 4, 5, 6, 7, 8] [0] rfl rfl (by decide) (by decide) (by decide) [0, 9, 10, 11, 12, 13, 14, 15, 16, 1, 2, 3, 4, 5, 6, 7, 8] rfl (by decide) (va_recv hK hP (ci := 6) (q0 := 9) rfl rfl) rfl hl.1 rfl (Nat.le_of_ble_eq_true rfl) dX8_keep_8 ⟨Nat.zero_le _, Nat.zero_le _⟩ (fun H locs hP hD hS => ?_)
  refine lv_aload_n hx hb dX8_keep_11 rfl (lv_at hl 0 rfl) ?_
  refine lv_iconst (v := 1) hx hb dX8_keep_12 (by decide) ?_
  refine ht_put (ci := 8) (v := .int (1 : Int32)) (ty := .boolean) (C := RX8) (T := TX8) (N := 13) (w2 := (wHT K jX jN jU kX_tried kX_trials kX_pairings kX_tape kX_telling kX_dayRows kX_deed kX_sheets kX_shelvedPerson kX_shelvedRow (1 : Int32) ++ (wTw K jN aN RN.laws RN.kind RN.need RN.saved RN.voice RN.partner RN.speaks RN.count RN.day RN.heard RN.geese RN.z ++ (wTw K jU aU o_1.1 o_1.2.1 o_1.2.2.1 o_1.2.2.2.1 o_1.2.2.2.2.1 o_1.2.2.2.2.2.1 o_1.2.2.2.2.2.2.1 o_1.2.2.2.2.2.2.2.1 o_1.2.2.2.2.2.2.2.2.1 o_1.2.2.2.2.2.2.2.2.2.1 o_1.2.2.2.2.2.2.2.2.2.2.1 o_1.2.2.2.2.2.2.2.2.2.2.2)))) hx hb hts iw8 tyX8 tyX8_ok nmX8 hown hK hP hD hS 0 rfl rfl 12 (by decide) kw3 (fun _ h9 => h9) rfl (by decide +kernel) rfl rfl (Nat.le_of_ble_eq_true rfl) dX8_keep_13 rfl (fun H locs hP hD hS => ?_)
  refine lv_iconst (v := 1) hx hb dX8_keep_16 (by decide) ?_
  have ho := Option.some.inj hf
  subst ho; subst hQ
  exact ht_iret hx hb hr hlk rfl hK hP hD hS dX8_keep_17
abbrev rmX8_again : Room := { frames := 2, cells := 0, slots := 0, locals := 44 }
theorem hdX8_again : yX8_again.cls = RX8 ∧ yX8_again.cls ≠ "java/lang/invoke/MethodHandle" ∧ yX8_again.cls ≠ "java/lang/invoke/VarHandle" ∧ (parseMethodDescriptor yX8_again.desc).map (fun d => d.parameters.length) = some 0 := by decide +kernel
def fX8_again (RX : HTV) (RN : TownV) (RU : TownV) : Option (Int32 × AI × AI × AI × AI × AI × AI × AI × Int32 × Int32 × Int32 × Int32 × Int32) := if RX.anythingKept = 0 then (some ((-3 : Int32), RN.laws, RN.kind, RN.need, RN.saved, RN.voice, RN.partner, RN.speaks, RN.count, RN.day, RN.heard, RN.geese, RN.z)) else (ht_bn (fX6_copyFrom RN RU) (fun o_2 => some (o_2.2.2.2.2.2.2.2.1, o_2.1, o_2.2.1, o_2.2.2.1, o_2.2.2.2.1, o_2.2.2.2.2.1, o_2.2.2.2.2.2.1, o_2.2.2.2.2.2.2.1, o_2.2.2.2.2.2.2.2.1, o_2.2.2.2.2.2.2.2.2.1, o_2.2.2.2.2.2.2.2.2.2.1, o_2.2.2.2.2.2.2.2.2.2.2.1, o_2.2.2.2.2.2.2.2.2.2.2.2)))
set_option maxHeartbeats 1000000 in
set_option maxRecDepth 100000 in
theorem ctX8_again (l : Launch) (D : va_G) (K : Nat → ClassId) (jX : Nat) (jN : Nat) (aN : Nat → Nat) (jU : Nat) (aU : Nat → Nat) (kX_tried : Nat) (kX_trials : Nat) (kX_pairings : Nat) (kX_tape : Nat) (kX_telling : Nat) (kX_dayRows : Nat) (kX_deed : Nat) (kX_sheets : Nat) (kX_shelvedPerson : Nat) (kX_shelvedRow : Nat) (RX : HTV) (RN : TownV) (RU : TownV) (o : (Int32 × AI × AI × AI × AI × AI × AI × AI × Int32 × Int32 × Int32 × Int32 × Int32)) (hf : fX8_again RX RN RU = some o) (sz : Nat) : Met l yX8_again wsX8_again rmX8_again (ht_Pre D K [.ref jX] (wHT K jX jN jU kX_tried kX_trials kX_pairings kX_tape kX_telling kX_dayRows kX_deed kX_sheets kX_shelvedPerson kX_shelvedRow RX.anythingKept ++ (wTw K jN aN RN.laws RN.kind RN.need RN.saved RN.voice RN.partner RN.speaks RN.count RN.day RN.heard RN.geese RN.z ++ (wTw K jU aU RU.laws RU.kind RU.need RU.saved RU.voice RU.partner RU.speaks RU.count RU.day RU.heard RU.geese RU.z))) sz) (ht_Qi D K (wHT K jX jN jU kX_tried kX_trials kX_pairings kX_tape kX_telling kX_dayRows kX_deed kX_sheets kX_shelvedPerson kX_shelvedRow RX.anythingKept ++ (wTw K jN aN o.2.1 o.2.2.1 o.2.2.2.1 o.2.2.2.2.1 o.2.2.2.2.2.1 o.2.2.2.2.2.2.1 o.2.2.2.2.2.2.2.1 o.2.2.2.2.2.2.2.2.1 o.2.2.2.2.2.2.2.2.2.1 o.2.2.2.2.2.2.2.2.2.2.1 o.2.2.2.2.2.2.2.2.2.2.2.1 o.2.2.2.2.2.2.2.2.2.2.2.2 ++ (wTw K jU aU RU.laws RU.kind RU.need RU.saved RU.voice RU.partner RU.speaks RU.count RU.day RU.heard RU.geese RU.z))) o.1 (va_A (wHT K jX jN jU kX_tried kX_trials kX_pairings kX_tape kX_telling kX_dayRows kX_deed kX_sheets kX_shelvedPerson kX_shelvedRow RX.anythingKept ++ (wTw K jN aN RN.laws RN.kind RN.need RN.saved RN.voice RN.partner RN.speaks RN.count RN.day RN.heard RN.geese RN.z ++ (wTw K jU aU RU.laws RU.kind RU.need RU.saved RU.voice RU.partner RU.speaks RU.count RU.day RU.heard RU.geese RU.z))) sz)) 0 0 (va_A (wHT K jX jN jU kX_tried kX_trials kX_pairings kX_tape kX_telling kX_dayRows kX_deed kX_sheets kX_shelvedPerson kX_shelvedRow RX.anythingKept ++ (wTw K jN aN RN.laws RN.kind RN.need RN.saved RN.voice RN.partner RN.speaks RN.count RN.day RN.heard RN.geese RN.z ++ (wTw K jU aU RU.laws RU.kind RU.need RU.saved RU.voice RU.partner RU.speaks RU.count RU.day RU.heard RU.geese RU.z))) sz) := by
  refine ht_enter (Qf := ht_Qi D K (wHT K jX jN jU kX_tried kX_trials kX_pairings kX_tape kX_telling kX_dayRows kX_deed kX_sheets kX_shelvedPerson kX_shelvedRow RX.anythingKept ++ (wTw K jN aN o.2.1 o.2.2.1 o.2.2.2.1 o.2.2.2.2.1 o.2.2.2.2.2.1 o.2.2.2.2.2.2.1 o.2.2.2.2.2.2.2.1 o.2.2.2.2.2.2.2.2.1 o.2.2.2.2.2.2.2.2.2.1 o.2.2.2.2.2.2.2.2.2.2.1 o.2.2.2.2.2.2.2.2.2.2.2.1 o.2.2.2.2.2.2.2.2.2.2.2.2 ++ (wTw K jU aU RU.laws RU.kind RU.need RU.saved RU.voice RU.partner RU.speaks RU.count RU.day RU.heard RU.geese RU.z))) o.1) (cc := cX8_again) (maxL := 1) (rt := (some .int)) (by decide) rfl (Nat.le_of_ble_eq_true rfl) ?_ sz
  intro p e s m below meth c A Q H locs ls hQ hx hb hr hlk hmn hml hown hts hA hK hP hD hS hl
  have hown : s.vm.findClass RX8 = some m.cls := hown
  have hF : CallFix p m c cX8_again 1 s ([.ref jX] : List Value).toArray wsX8_again RX8 := ⟨hx, hb, hml, hown, hts⟩
  have hl : lv_has ls 1 [(0, .ref jX)] := hl
  have iw8 : ∀ w ∈ u_ws RX8 TX8 13, w ∈ wsX8_again := by decide +kernel
  have kw1 := hts (.fieldLink RX8 333 "HeldTongues" "anythingKept" "Z") (by decide +kernel)
  have kw2 := hts (.fieldLink RX8 10 "HeldTongues" "now" "LHeldTongues$Town;") (by decide +kernel)
  have kw3 := hts (.fieldLink RX8 16 "HeldTongues" "kept" "LHeldTongues$Town;") (by decide +kernel)
  have iw6 : ∀ w ∈ u_ws RX6 TX6 12, w ∈ wsX8_again := by decide +kernel
  have kw5 := hts (.fieldLink RX8 114 "HeldTongues$Town" "count" "I") (by decide +kernel)
  delta fX8_again at hf
  refine lv_aload_n hx hb dX8_again_0 rfl (lv_at hl 0 rfl) ?_
  refine va_get (D := D) (ci := 8) (v := .int RX.anythingKept) (C := RX8) (T := TX8) (N := 13) hx hb hts iw8 hown hK hP 0 rfl rfl 12 (by decide) kw1 (fun _ h9 => h9) rfl dX8_again_1 ?_
  refine lv_if_ne (tgt := 10) hx hb dX8_again_4 (by decide) (fun c_1 => ?_) (fun c_1 => ?_)
  · replace hf := ht_f c_1 hf
    refine lv_aload_n hx hb dX8_again_10 rfl (lv_at hl 0 rfl) ?_
    refine va_get (D := D) (ci := 8) (v := .ref jN) (C := RX8) (T := TX8) (N := 13) hx hb hts iw8 hown hK hP 0 rfl rfl 0 (by decide) kw2 (fun _ h9 => h9) rfl dX8_again_11 ?_
    refine lv_aload_n hx hb dX8_again_14 rfl (lv_at hl 0 rfl) ?_
    refine va_get (D := D) (ci := 8) (v := .ref jU) (C := RX8) (T := TX8) (N := 13) hx hb hts iw8 hown hK hP 0 rfl rfl 1 (by decide) kw3 (fun _ h9 => h9) rfl dX8_again_15 ?_
    obtain ⟨o_2, ho_2, hf⟩ := ht_bn_ob hf
    refine ht_callVv (rest := []) (As := [.ref jU]) (wc := (wTw K jN aN RN.laws RN.kind RN.need RN.saved RN.voice RN.partner RN.speaks RN.count RN.day RN.heard RN.geese RN.z ++ (wTw K jU aU RU.laws RU.kind RU.need RU.saved RU.voice RU.partner RU.speaks RU.count RU.day RU.heard RU.geese RU.z))) (wr := (wHT K jX jN jU kX_tried kX_trials kX_pairings kX_tape kX_telling kX_dayRows kX_deed kX_sheets kX_shelvedPerson kX_shelvedRow RX.anythingKept)) (w1 := (wTw K jN aN o_2.1 o_2.2.1 o_2.2.2.1 o_2.2.2.2.1 o_2.2.2.2.2.1 o_2.2.2.2.2.2.1 o_2.2.2.2.2.2.2.1 o_2.2.2.2.2.2.2.2.1 o_2.2.2.2.2.2.2.2.2.1 o_2.2.2.2.2.2.2.2.2.2.1 o_2.2.2.2.2.2.2.2.2.2.2.1 o_2.2.2.2.2.2.2.2.2.2.2.2 ++ (wTw K jU aU RU.laws RU.kind RU.need RU.saved RU.voice RU.partner RU.speaks RU.count RU.day RU.heard RU.geese RU.z))) (w2 := (wHT K jX jN jU kX_tried kX_trials kX_pairings kX_tape kX_telling kX_dayRows kX_deed kX_sheets kX_shelvedPerson kX_shelvedRow RX.anythingKept ++ (wTw K jN aN o_2.1 o_2.2.1 o_2.2.2.1 o_2.2.2.2.1 o_2.2.2.2.2.1 o_2.2.2.2.2.2.1 o_2.2.2.2.2.2.2.1 o_2.2.2.2.2.2.2.2.1 o_2.2.2.2.2.2.2.2.2.1 o_2.2.2.2.2.2.2.2.2.2.1 o_2.2.2.2.2.2.2.2.2.2.2.1 o_2.2.2.2.2.2.2.2.2.2.2.2 ++ (wTw K jU aU RU.laws RU.kind RU.need RU.saved RU.voice RU.partner RU.speaks RU.count RU.day RU.heard RU.geese RU.z)))) hF (ctX6_copyFrom l D K jN aN jU aU RN RU o_2 ho_2 H.size) (cwV 1 hts gX8_again_X6_copyFrom rfl rfl rfl hdX6_copyFrom ⟨Nat.le_of_ble_eq_true rfl, Nat.le_of_ble_eq_true rfl⟩) hK hP hD hS hA [1, 2, 3, 4, 5, 6, 7, 8, 9, 10, 11, 12, 13, 14, 15, 16] [0] rfl rfl (by decide) (by decide) (by decide) [0, 1, 2, 3, 4, 5, 6, 7, 8, 9, 10, 11, 12, 13, 14, 15, 16] rfl (by decide) (va_recv hK hP (ci := 6) (q0 := 1) rfl rfl) rfl hl.1 rfl (Nat.le_of_ble_eq_true rfl) dX8_again_18 ⟨Nat.zero_le _, Nat.zero_le _⟩ (fun H locs hP hD hS => ?_)
    refine lv_aload_n hx hb dX8_again_21 rfl (lv_at hl 0 rfl) ?_
    refine va_get (D := D) (ci := 8) (v := .ref jN) (C := RX8) (T := TX8) (N := 13) hx hb hts iw8 hown hK hP 0 rfl rfl 0 (by decide) kw2 (fun _ h9 => h9) rfl dX8_again_22 ?_
    refine va_get (D := D) (ci := 6) (v := .int o_2.2.2.2.2.2.2.2.1) (C := RX6) (T := TX6) (N := 12) hx hb hts iw6 hown hK hP 1 rfl rfl 7 (by decide) kw5 (fun _ h9 => h9) rfl dX8_again_25 ?_
    have ho := Option.some.inj hf
    subst ho; subst hQ
    exact ht_iret hx hb hr hlk rfl hK hP hD hS dX8_again_28
  · replace hf := ht_t c_1 hf
    refine lv_bipush (v := -3) hx hb dX8_again_7 (by decide) ?_
    have ho := Option.some.inj hf
    subst ho; subst hQ
    exact ht_iret hx hb hr hlk rfl hK hP hD hS dX8_again_9
