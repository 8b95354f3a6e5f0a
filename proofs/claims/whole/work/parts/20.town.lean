abbrev rmX6_setFirstLaws : Room := { frames := 0, cells := 0, slots := 0, locals := 0 }
theorem hdX6_setFirstLaws : yX6_setFirstLaws.cls = RX6 ∧ yX6_setFirstLaws.cls ≠ "java/lang/invoke/MethodHandle" ∧ yX6_setFirstLaws.cls ≠ "java/lang/invoke/VarHandle" ∧ (parseMethodDescriptor yX6_setFirstLaws.desc).map (fun d => d.parameters.length) = some 0 := by decide +kernel
def fX6_setFirstLaws (RT : TownV) : Option AI := ht_gd (ht_ix (0 : Int32) 4) (ht_nm (upd RT.laws (0 : Int32).toNatClampNeg (2 : Int32)) (fun vT_laws_2 => ht_gd (ht_ix (1 : Int32) 4) (ht_nm (upd vT_laws_2 (1 : Int32).toNatClampNeg (1 : Int32)) (fun vT_laws_4 => ht_gd (ht_ix (2 : Int32) 4) (ht_nm (upd vT_laws_4 (2 : Int32).toNatClampNeg (3 : Int32)) (fun vT_laws_6 => ht_gd (ht_ix (3 : Int32) 4) (ht_nm (upd vT_laws_6 (3 : Int32).toNatClampNeg (20 : Int32)) (fun vT_laws_8 => some vT_laws_8))))))))
set_option maxHeartbeats 1000000 in
set_option maxRecDepth 100000 in
theorem ctX6_setFirstLaws (l : Launch) (D : va_G) (K : Nat → ClassId) (jT : Nat) (aT : Nat → Nat) (RT : TownV) (o : AI) (hf : fX6_setFirstLaws RT = some o) (sz : Nat) : Met l yX6_setFirstLaws wsX6_setFirstLaws rmX6_setFirstLaws (ht_Pre D K [.ref jT] (wTw K jT aT RT.laws RT.kind RT.need RT.saved RT.voice RT.partner RT.speaks RT.count RT.day RT.heard RT.geese RT.z) sz) (ht_Qv D K (wTw K jT aT o RT.kind RT.need RT.saved RT.voice RT.partner RT.speaks RT.count RT.day RT.heard RT.geese RT.z) (va_A (wTw K jT aT RT.laws RT.kind RT.need RT.saved RT.voice RT.partner RT.speaks RT.count RT.day RT.heard RT.geese RT.z) sz)) 0 0 (va_A (wTw K jT aT RT.laws RT.kind RT.need RT.saved RT.voice RT.partner RT.speaks RT.count RT.day RT.heard RT.geese RT.z) sz) := by
  refine ht_enter (Qf := ht_Qv D K (wTw K jT aT o RT.kind RT.need RT.saved RT.voice RT.partner RT.speaks RT.count RT.day RT.heard RT.geese RT.z)) (cc := cX6_setFirstLaws) (maxL := 1) (rt := none) (by decide) rfl (Nat.le_of_ble_eq_true rfl) ?_ sz
  intro p e s m below meth c A Q H locs ls hQ hx hb hr hlk hmn hml hown hts hA hK hP hD hS hl
  have hown : s.vm.findClass RX6 = some m.cls := hown
  have hF : CallFix p m c cX6_setFirstLaws 1 s ([.ref jT] : List Value).toArray wsX6_setFirstLaws RX6 := ⟨hx, hb, hml, hown, hts⟩
  have hl : lv_has ls 1 [(0, .ref jT)] := hl
  have iw6 : ∀ w ∈ u_ws RX6 TX6 12, w ∈ wsX6_setFirstLaws := by decide +kernel
  have kw1 := hts (.fieldLink RX6 9 "HeldTongues$Town" "laws" "[I") (by decide +kernel)
  delta fX6_setFirstLaws at hf
  refine lv_aload_n hx hb dX6_setFirstLaws_0 rfl (lv_at hl 0 rfl) ?_
  refine va_get (D := D) (ci := 6) (v := .ref (aT 0)) (C := RX6) (T := TX6) (N := 12) hx hb hts iw6 hown hK hP 0 rfl rfl 0 (by decide) kw1 (fun _ h9 => h9) rfl dX6_setFirstLaws_1 ?_
  refine lv_iconst (v := 0) hx hb dX6_setFirstLaws_4 (by decide) ?_
  refine lv_iconst (v := 2) hx hb dX6_setFirstLaws_5 (by decide) ?_
  obtain ⟨g_1, hf⟩ := ht_gd_ob hf
  obtain ⟨vT_laws_2, evT_laws_2, hf⟩ := ht_nm_ob hf
  refine ht_iast (w2 := (wTw K jT aT vT_laws_2 RT.kind RT.need RT.saved RT.voice RT.partner RT.speaks RT.count RT.day RT.heard RT.geese RT.z)) hx hb hK hP hD hS 1 1 rfl rfl g_1 dX6_setFirstLaws_6 evT_laws_2 rfl (fun H locs hP hD hS => ?_)
  refine lv_aload_n hx hb dX6_setFirstLaws_7 rfl (lv_at hl 0 rfl) ?_
  refine va_get (D := D) (ci := 6) (v := .ref (aT 0)) (C := RX6) (T := TX6) (N := 12) hx hb hts iw6 hown hK hP 0 rfl rfl 0 (by decide) kw1 (fun _ h9 => h9) rfl dX6_setFirstLaws_8 ?_
  refine lv_iconst (v := 1) hx hb dX6_setFirstLaws_11 (by decide) ?_
  refine lv_iconst (v := 1) hx hb dX6_setFirstLaws_12 (by decide) ?_
  obtain ⟨g_3, hf⟩ := ht_gd_ob hf
  obtain ⟨vT_laws_4, evT_laws_4, hf⟩ := ht_nm_ob hf
  refine ht_iast (w2 := (wTw K jT aT vT_laws_4 RT.kind RT.need RT.saved RT.voice RT.partner RT.speaks RT.count RT.day RT.heard RT.geese RT.z)) hx hb hK hP hD hS 1 1 rfl rfl g_3 dX6_setFirstLaws_13 evT_laws_4 rfl (fun H locs hP hD hS => ?_)
  refine lv_aload_n hx hb dX6_setFirstLaws_14 rfl (lv_at hl 0 rfl) ?_
  refine va_get (D := D) (ci := 6) (v := .ref (aT 0)) (C := RX6) (T := TX6) (N := 12) hx hb hts iw6 hown hK hP 0 rfl rfl 0 (by decide) kw1 (fun _ h9 => h9) rfl dX6_setFirstLaws_15 ?_
  refine lv_iconst (v := 2) hx hb dX6_setFirstLaws_18 (by decide) ?_
  refine lv_iconst (v := 3) hx hb dX6_setFirstLaws_19 (by decide) ?_
  obtain ⟨g_5, hf⟩ := ht_gd_ob hf
  obtain ⟨vT_laws_6, evT_laws_6, hf⟩ := ht_nm_ob hf
  refine ht_iast (w2 := (wTw K jT aT vT_laws_6 RT.kind RT.need RT.saved RT.voice RT.partner RT.speaks RT.count RT.day RT.heard RT.geese RT.z)) hx hb hK hP hD hS 1 1 rfl rfl g_5 dX6_setFirstLaws_20 evT_laws_6 rfl (fun H locs hP hD hS => ?_)
  refine lv_aload_n hx hb dX6_setFirstLaws_21 rfl (lv_at hl 0 rfl) ?_
  refine va_get (D := D) (ci := 6) (v := .ref (aT 0)) (C := RX6) (T := TX6) (N := 12) hx hb hts iw6 hown hK hP 0 rfl rfl 0 (by decide) kw1 (fun _ h9 => h9) rfl dX6_setFirstLaws_22 ?_
  refine lv_iconst (v := 3) hx hb dX6_setFirstLaws_25 (by decide) ?_
  refine lv_bipush (v := 20) hx hb dX6_setFirstLaws_26 (by decide) ?_
  obtain ⟨g_7, hf⟩ := ht_gd_ob hf
  obtain ⟨vT_laws_8, evT_laws_8, hf⟩ := ht_nm_ob hf
  refine ht_iast (w2 := (wTw K jT aT vT_laws_8 RT.kind RT.need RT.saved RT.voice RT.partner RT.speaks RT.count RT.day RT.heard RT.geese RT.z)) hx hb hK hP hD hS 1 1 rfl rfl g_7 dX6_setFirstLaws_28 evT_laws_8 rfl (fun H locs hP hD hS => ?_)
  have ho := Option.some.inj hf
  subst ho; subst hQ
  exact ht_vret hx hb hr hlk hK hP hD hS dX6_setFirstLaws_29
abbrev rmX6_beginAnew : Room := { frames := 1, cells := 0, slots := 0, locals := 20 }
theorem hdX6_beginAnew : yX6_beginAnew.cls = RX6 ∧ yX6_beginAnew.cls ≠ "java/lang/invoke/MethodHandle" ∧ yX6_beginAnew.cls ≠ "java/lang/invoke/VarHandle" ∧ (parseMethodDescriptor yX6_beginAnew.desc).map (fun d => d.parameters.length) = some 0 := by decide +kernel
def fX6_beginAnew (RT : TownV) : Option (AI × Int32 × Int32 × Int32 × Int32) := ht_bn (fX6_setFirstLaws RT) (fun o_1 => some (o_1, (0 : Int32), (0 : Int32), (0 : Int32), (0 : Int32)))
set_option maxHeartbeats 1000000 in
set_option maxRecDepth 100000 in
theorem ctX6_beginAnew (l : Launch) (D : va_G) (K : Nat → ClassId) (jT : Nat) (aT : Nat → Nat) (RT : TownV) (o : (AI × Int32 × Int32 × Int32 × Int32)) (hf : fX6_beginAnew RT = some o) (sz : Nat) : Met l yX6_beginAnew wsX6_beginAnew rmX6_beginAnew (ht_Pre D K [.ref jT] (wTw K jT aT RT.laws RT.kind RT.need RT.saved RT.voice RT.partner RT.speaks RT.count RT.day RT.heard RT.geese RT.z) sz) (ht_Qv D K (wTw K jT aT o.1 RT.kind RT.need RT.saved RT.voice RT.partner RT.speaks o.2.1 o.2.2.1 o.2.2.2.1 o.2.2.2.2 RT.z) (va_A (wTw K jT aT RT.laws RT.kind RT.need RT.saved RT.voice RT.partner RT.speaks RT.count RT.day RT.heard RT.geese RT.z) sz)) 0 0 (va_A (wTw K jT aT RT.laws RT.kind RT.need RT.saved RT.voice RT.partner RT.speaks RT.count RT.day RT.heard RT.geese RT.z) sz) := by
  refine ht_enter (Qf := ht_Qv D K (wTw K jT aT o.1 RT.kind RT.need RT.saved RT.voice RT.partner RT.speaks o.2.1 o.2.2.1 o.2.2.2.1 o.2.2.2.2 RT.z)) (cc := cX6_beginAnew) (maxL := 1) (rt := none) (by decide) rfl (Nat.le_of_ble_eq_true rfl) ?_ sz
  intro p e s m below meth c A Q H locs ls hQ hx hb hr hlk hmn hml hown hts hA hK hP hD hS hl
  have hown : s.vm.findClass RX6 = some m.cls := hown
  have hF : CallFix p m c cX6_beginAnew 1 s ([.ref jT] : List Value).toArray wsX6_beginAnew RX6 := ⟨hx, hb, hml, hown, hts⟩
  have hl : lv_has ls 1 [(0, .ref jT)] := hl
  have iw6 : ∀ w ∈ u_ws RX6 TX6 12, w ∈ wsX6_beginAnew := by decide +kernel
  have kw1 := hts (.fieldLink RX6 41 "HeldTongues$Town" "count" "I") (by decide +kernel)
  have kw2 := hts (.fieldLink RX6 44 "HeldTongues$Town" "day" "I") (by decide +kernel)
  have kw3 := hts (.fieldLink RX6 47 "HeldTongues$Town" "heard" "I") (by decide +kernel)
  have kw4 := hts (.fieldLink RX6 50 "HeldTongues$Town" "geese" "I") (by decide +kernel)
  delta fX6_beginAnew at hf
  refine lv_aload_n hx hb dX6_beginAnew_0 rfl (lv_at hl 0 rfl) ?_
  obtain ⟨o_1, ho_1, hf⟩ := ht_bn_ob hf
  refine ht_callVv (rest := []) (As := []) (wc := (wTw K jT aT RT.laws RT.kind RT.need RT.saved RT.voice RT.partner RT.speaks RT.count RT.day RT.heard RT.geese RT.z)) (wr := []) (w1 := (wTw K jT aT o_1 RT.kind RT.need RT.saved RT.voice RT.partner RT.speaks RT.count RT.day RT.heard RT.geese RT.z)) (w2 := (wTw K jT aT o_1 RT.kind RT.need RT.saved RT.voice RT.partner RT.speaks RT.count RT.day RT.heard RT.geese RT.z)) hF (ctX6_setFirstLaws l D K jT aT RT o_1 ho_1 H.size) (cwV 0 hts gX6_beginAnew_X6_setFirstLaws rfl rfl rfl hdX6_setFirstLaws ⟨Nat.le_of_ble_eq_true rfl, Nat.le_of_ble_eq_true rfl⟩) hK hP hD hS hA [0, 1, 2, 3, 4, 5, 6, 7] [] rfl rfl (by decide) (by decide) (by decide) [0, 1, 2, 3, 4, 5, 6, 7] rfl (by decide) (va_recv hK hP (ci := 6) (q0 := 0) rfl rfl) rfl hl.1 rfl (Nat.le_of_ble_eq_true rfl) dX6_beginAnew_1 ⟨Nat.zero_le _, Nat.zero_le _⟩ (fun H locs hP hD hS => ?_)
  refine lv_aload_n hx hb dX6_beginAnew_4 rfl (lv_at hl 0 rfl) ?_
  refine lv_iconst (v := 0) hx hb dX6_beginAnew_5 (by decide) ?_
  refine ht_put (ci := 6) (v := .int (0 : Int32)) (ty := .int) (C := RX6) (T := TX6) (N := 12) (w2 := (wTw K jT aT o_1 RT.kind RT.need RT.saved RT.voice RT.partner RT.speaks (0 : Int32) RT.day RT.heard RT.geese RT.z)) hx hb hts iw6 tyX6 tyX6_ok nmX6 hown hK hP hD hS 0 rfl rfl 7 (by decide) kw1 (fun _ h9 => h9) rfl (by decide +kernel) rfl rfl (Nat.le_of_ble_eq_true rfl) dX6_beginAnew_6 rfl (fun H locs hP hD hS => ?_)
  refine lv_aload_n hx hb dX6_beginAnew_9 rfl (lv_at hl 0 rfl) ?_
  refine lv_iconst (v := 0) hx hb dX6_beginAnew_10 (by decide) ?_
  refine ht_put (ci := 6) (v := .int (0 : Int32)) (ty := .int) (C := RX6) (T := TX6) (N := 12) (w2 := (wTw K jT aT o_1 RT.kind RT.need RT.saved RT.voice RT.partner RT.speaks (0 : Int32) (0 : Int32) RT.heard RT.geese RT.z)) hx hb hts iw6 tyX6 tyX6_ok nmX6 hown hK hP hD hS 0 rfl rfl 8 (by decide) kw2 (fun _ h9 => h9) rfl (by decide +kernel) rfl rfl (Nat.le_of_ble_eq_true rfl) dX6_beginAnew_11 rfl (fun H locs hP hD hS => ?_)
  refine lv_aload_n hx hb dX6_beginAnew_14 rfl (lv_at hl 0 rfl) ?_
  refine lv_iconst (v := 0) hx hb dX6_beginAnew_15 (by decide) ?_
  refine ht_put (ci := 6) (v := .int (0 : Int32)) (ty := .int) (C := RX6) (T := TX6) (N := 12) (w2 := (wTw K jT aT o_1 RT.kind RT.need RT.saved RT.voice RT.partner RT.speaks (0 : Int32) (0 : Int32) (0 : Int32) RT.geese RT.z)) hx hb hts iw6 tyX6 tyX6_ok nmX6 hown hK hP hD hS 0 rfl rfl 9 (by decide) kw3 (fun _ h9 => h9) rfl (by decide +kernel) rfl rfl (Nat.le_of_ble_eq_true rfl) dX6_beginAnew_16 rfl (fun H locs hP hD hS => ?_)
  refine lv_aload_n hx hb dX6_beginAnew_19 rfl (lv_at hl 0 rfl) ?_
  refine lv_iconst (v := 0) hx hb dX6_beginAnew_20 (by decide) ?_
  refine ht_put (ci := 6) (v := .int (0 : Int32)) (ty := .int) (C := RX6) (T := TX6) (N := 12) (w2 := (wTw K jT aT o_1 RT.kind RT.need RT.saved RT.voice RT.partner RT.speaks (0 : Int32) (0 : Int32) (0 : Int32) (0 : Int32) RT.z)) hx hb hts iw6 tyX6 tyX6_ok nmX6 hown hK hP hD hS 0 rfl rfl 10 (by decide) kw4 (fun _ h9 => h9) rfl (by decide +kernel) rfl rfl (Nat.le_of_ble_eq_true rfl) dX6_beginAnew_21 rfl (fun H locs hP hD hS => ?_)
  have ho := Option.some.inj hf
  subst ho; subst hQ
  exact ht_vret hx hb hr hlk hK hP hD hS dX6_beginAnew_24
abbrev rmX6_copyLawsAndDay : Room := { frames := 0, cells := 0, slots := 0, locals := 0 }
theorem hdX6_copyLawsAndDay : yX6_copyLawsAndDay.cls = RX6 ∧ yX6_copyLawsAndDay.cls ≠ "java/lang/invoke/MethodHandle" ∧ yX6_copyLawsAndDay.cls ≠ "java/lang/invoke/VarHandle" ∧ (parseMethodDescriptor yX6_copyLawsAndDay.desc).map (fun d => d.parameters.length) = some 1 := by decide +kernel
def fX6_copyLawsAndDay_b25 (RT : TownV) (RU : TownV) (vT_laws : AI) (vT_day : Int32) : Option (AI × Int32) := ht_nm RU.day (fun vT_day_1 => some (vT_laws, vT_day_1))
def fX6_copyLawsAndDay_b2 (RT : TownV) (RU : TownV) (k2 : Int32 → AI → Int32 → Option (AI × Int32)) (x2 : Int32) (vT_laws : AI) (vT_day : Int32) : Option (AI × Int32) := if (4 : Int32) ≤ x2 then (fX6_copyLawsAndDay_b25 RT RU vT_laws vT_day) else (ht_gd (ht_ix x2 4) (ht_gd (ht_ix x2 4) (ht_nm (upd vT_laws x2.toNatClampNeg (RU.laws x2.toNatClampNeg)) (fun vT_laws_5 => ht_nm (x2 + (1 : Int32)) (fun x2_6 => k2 x2_6 vT_laws_5 vT_day)))))
def fX6_copyLawsAndDay (RT : TownV) (RU : TownV) : Option (AI × Int32) := ht_lp3 (fX6_copyLawsAndDay_b2 RT RU) FU (0 : Int32) RT.laws RT.day
set_option maxHeartbeats 1000000 in
set_option maxRecDepth 100000 in
theorem ctX6_copyLawsAndDay (l : Launch) (D : va_G) (K : Nat → ClassId) (jT : Nat) (aT : Nat → Nat) (jU : Nat) (aU : Nat → Nat) (RT : TownV) (RU : TownV) (o : (AI × Int32)) (hf : fX6_copyLawsAndDay RT RU = some o) (sz : Nat) : Met l yX6_copyLawsAndDay wsX6_copyLawsAndDay rmX6_copyLawsAndDay (ht_Pre D K [.ref jT, .ref jU] (wTw K jT aT RT.laws RT.kind RT.need RT.saved RT.voice RT.partner RT.speaks RT.count RT.day RT.heard RT.geese RT.z ++ (wTw K jU aU RU.laws RU.kind RU.need RU.saved RU.voice RU.partner RU.speaks RU.count RU.day RU.heard RU.geese RU.z)) sz) (ht_Qv D K (wTw K jT aT o.1 RT.kind RT.need RT.saved RT.voice RT.partner RT.speaks RT.count o.2 RT.heard RT.geese RT.z ++ (wTw K jU aU RU.laws RU.kind RU.need RU.saved RU.voice RU.partner RU.speaks RU.count RU.day RU.heard RU.geese RU.z)) (va_A (wTw K jT aT RT.laws RT.kind RT.need RT.saved RT.voice RT.partner RT.speaks RT.count RT.day RT.heard RT.geese RT.z ++ (wTw K jU aU RU.laws RU.kind RU.need RU.saved RU.voice RU.partner RU.speaks RU.count RU.day RU.heard RU.geese RU.z)) sz)) 0 0 (va_A (wTw K jT aT RT.laws RT.kind RT.need RT.saved RT.voice RT.partner RT.speaks RT.count RT.day RT.heard RT.geese RT.z ++ (wTw K jU aU RU.laws RU.kind RU.need RU.saved RU.voice RU.partner RU.speaks RU.count RU.day RU.heard RU.geese RU.z)) sz) := by
  refine ht_enter (Qf := ht_Qv D K (wTw K jT aT o.1 RT.kind RT.need RT.saved RT.voice RT.partner RT.speaks RT.count o.2 RT.heard RT.geese RT.z ++ (wTw K jU aU RU.laws RU.kind RU.need RU.saved RU.voice RU.partner RU.speaks RU.count RU.day RU.heard RU.geese RU.z))) (cc := cX6_copyLawsAndDay) (maxL := 3) (rt := none) (by decide) rfl (Nat.le_of_ble_eq_true rfl) ?_ sz
  intro p e s m below meth c A Q H locs ls hQ hx hb hr hlk hmn hml hown hts hA hK hP hD hS hl
  have hown : s.vm.findClass RX6 = some m.cls := hown
  have hF : CallFix p m c cX6_copyLawsAndDay 3 s ([.ref jT, .ref jU] : List Value).toArray wsX6_copyLawsAndDay RX6 := ⟨hx, hb, hml, hown, hts⟩
  have hl : lv_has ls 3 [(0, .ref jT), (1, .ref jU)] := hl
  have iw6 : ∀ w ∈ u_ws RX6 TX6 12, w ∈ wsX6_copyLawsAndDay := by decide +kernel
  have kw1 := hts (.fieldLink RX6 44 "HeldTongues$Town" "day" "I") (by decide +kernel)
  have kw2 := hts (.fieldLink RX6 9 "HeldTongues$Town" "laws" "[I") (by decide +kernel)
  have b25 : ∀ (vT_laws : AI) (vT_day : Int32) (H : Heap) (locs : List Loc) (ls : Array Slot), fX6_copyLawsAndDay_b25 RT RU vT_laws vT_day = some o → va_P D vwCl (wTw K jT aT vT_laws RT.kind RT.need RT.saved RT.voice RT.partner RT.speaks RT.count vT_day RT.heard RT.geese RT.z ++ (wTw K jU aU RU.laws RU.kind RU.need RU.saved RU.voice RU.partner RU.speaks RU.count RU.day RU.heard RU.geese RU.z)) H → va_D A (wTw K jT aT vT_laws RT.kind RT.need RT.saved RT.voice RT.partner RT.speaks RT.count vT_day RT.heard RT.geese RT.z ++ (wTw K jU aU RU.laws RU.kind RU.need RU.saved RU.voice RU.partner RU.speaks RU.count RU.day RU.heard RU.geese RU.z)) → va_S A s.heap H locs → lv_has ls 3 [(0, .ref jT), (1, .ref jU)] → W p l e (headSpec wsX6_copyLawsAndDay rmX6_copyLawsAndDay).room s m ([.ref jT, .ref jU] : List Value).toArray below meth c H locs 0 0 Q (F0 m 25 ls []) := by
    intro vT_laws vT_day H locs ls hf hP hD hS hl
    delta fX6_copyLawsAndDay_b25 at hf
    refine lv_aload_n hx hb dX6_copyLawsAndDay_25 rfl (lv_at hl 0 rfl) ?_
    refine lv_aload_n hx hb dX6_copyLawsAndDay_26 rfl (lv_at hl 1 rfl) ?_
    refine va_get (D := D) (ci := 6) (v := .int RU.day) (C := RX6) (T := TX6) (N := 12) hx hb hts iw6 hown hK hP 8 rfl rfl 8 (by decide) kw1 (fun _ h9 => h9) rfl dX6_copyLawsAndDay_27 ?_
    obtain ⟨vT_day_1, evT_day_1, hf⟩ := ht_nm_ob hf
    rw [← evT_day_1]
    refine ht_put (ci := 6) (v := .int vT_day_1) (ty := .int) (C := RX6) (T := TX6) (N := 12) (w2 := (wTw K jT aT vT_laws RT.kind RT.need RT.saved RT.voice RT.partner RT.speaks RT.count vT_day_1 RT.heard RT.geese RT.z ++ (wTw K jU aU RU.laws RU.kind RU.need RU.saved RU.voice RU.partner RU.speaks RU.count RU.day RU.heard RU.geese RU.z))) hx hb hts iw6 tyX6 tyX6_ok nmX6 hown hK hP hD hS 0 rfl rfl 8 (by decide) kw1 (fun _ h9 => h9) rfl (by decide +kernel) rfl rfl (Nat.le_of_ble_eq_true rfl) dX6_copyLawsAndDay_30 rfl (fun H locs hP hD hS => ?_)
    have ho := Option.some.inj hf
    subst ho; subst hQ
    exact ht_vret hx hb hr hlk hK hP hD hS dX6_copyLawsAndDay_33
  have b2 : ∀ (n : Nat) (x2 : Int32) (vT_laws : AI) (vT_day : Int32) (H : Heap) (locs : List Loc) (ls : Array Slot), ht_lp3 (fX6_copyLawsAndDay_b2 RT RU) n x2 vT_laws vT_day = some o → va_P D vwCl (wTw K jT aT vT_laws RT.kind RT.need RT.saved RT.voice RT.partner RT.speaks RT.count vT_day RT.heard RT.geese RT.z ++ (wTw K jU aU RU.laws RU.kind RU.need RU.saved RU.voice RU.partner RU.speaks RU.count RU.day RU.heard RU.geese RU.z)) H → va_D A (wTw K jT aT vT_laws RT.kind RT.need RT.saved RT.voice RT.partner RT.speaks RT.count vT_day RT.heard RT.geese RT.z ++ (wTw K jU aU RU.laws RU.kind RU.need RU.saved RU.voice RU.partner RU.speaks RU.count RU.day RU.heard RU.geese RU.z)) → va_S A s.heap H locs → lv_has ls 3 [(0, .ref jT), (1, .ref jU), (2, .int x2)] → W p l e (headSpec wsX6_copyLawsAndDay rmX6_copyLawsAndDay).room s m ([.ref jT, .ref jU] : List Value).toArray below meth c H locs 0 0 Q (F0 m 2 ls []) := by
    intro n
    induction n with
    | zero =>
      intro x2 vT_laws vT_day H locs ls hf hP hD hS hl
      cases (show (none : Option (AI × Int32)) = some o from hf)
    | succ n hk2 =>
      intro x2 vT_laws vT_day H locs ls hf hP hD hS hl
      replace hf : fX6_copyLawsAndDay_b2 RT RU (ht_lp3 (fX6_copyLawsAndDay_b2 RT RU) n) x2 vT_laws vT_day = some o := hf
      delta fX6_copyLawsAndDay_b2 at hf
      refine lv_iload_n hx hb dX6_copyLawsAndDay_2 rfl (lv_at hl 2 rfl) ?_
      refine lv_iconst (v := 4) hx hb dX6_copyLawsAndDay_3 (by decide) ?_
      refine lv_icmp_ge (tgt := 25) hx hb dX6_copyLawsAndDay_4 (by decide) (fun c_2 => ?_) (fun c_2 => ?_)
      · replace hf := ht_t c_2 hf
        exact b25  vT_laws vT_day _ _ _ hf hP hD hS (lv_sub hl [0, 1] rfl)
      · replace hf := ht_f c_2 hf
        refine lv_aload_n hx hb dX6_copyLawsAndDay_7 rfl (lv_at hl 0 rfl) ?_
        refine va_get (D := D) (ci := 6) (v := .ref (aT 0)) (C := RX6) (T := TX6) (N := 12) hx hb hts iw6 hown hK hP 0 rfl rfl 0 (by decide) kw2 (fun _ h9 => h9) rfl dX6_copyLawsAndDay_8 ?_
        refine lv_iload_n hx hb dX6_copyLawsAndDay_11 rfl (lv_at hl 2 rfl) ?_
        refine lv_aload_n hx hb dX6_copyLawsAndDay_12 rfl (lv_at hl 1 rfl) ?_
        refine va_get (D := D) (ci := 6) (v := .ref (aU 0)) (C := RX6) (T := TX6) (N := 12) hx hb hts iw6 hown hK hP 8 rfl rfl 0 (by decide) kw2 (fun _ h9 => h9) rfl dX6_copyLawsAndDay_13 ?_
        refine lv_iload_n hx hb dX6_copyLawsAndDay_16 rfl (lv_at hl 2 rfl) ?_
        obtain ⟨g_3, hf⟩ := ht_gd_ob hf
        refine va_iald hx hb hK hP 9 1 rfl rfl (ht_ix_in g_3) dX6_copyLawsAndDay_17 ?_
        obtain ⟨g_4, hf⟩ := ht_gd_ob hf
        obtain ⟨vT_laws_5, evT_laws_5, hf⟩ := ht_nm_ob hf
        refine ht_iast (w2 := (wTw K jT aT vT_laws_5 RT.kind RT.need RT.saved RT.voice RT.partner RT.speaks RT.count vT_day RT.heard RT.geese RT.z ++ (wTw K jU aU RU.laws RU.kind RU.need RU.saved RU.voice RU.partner RU.speaks RU.count RU.day RU.heard RU.geese RU.z))) hx hb hK hP hD hS 1 1 rfl rfl g_4 dX6_copyLawsAndDay_18 evT_laws_5 rfl (fun H locs hP hD hS => ?_)
        obtain ⟨x2_6, ex2_6, hf⟩ := ht_nm_ob hf
        refine lv_iinc (v := x2_6) (lv' := [(2, .int x2_6), (0, .ref jT), (1, .ref jU)]) hx hb dX6_copyLawsAndDay_19 hl (k := 2) rfl (by rw [ex2_6]; rfl) (by decide) rfl (fun ls hl => ?_)
        refine lv_goto (tgt := 2) hx hb dX6_copyLawsAndDay_22 (by decide) ?_
        exact hk2 x2_6 vT_laws_5 vT_day _ _ _ hf hP hD hS (lv_sub hl [1, 2, 0] rfl)
  delta fX6_copyLawsAndDay at hf
  refine lv_iconst (v := 0) hx hb dX6_copyLawsAndDay_0 (by decide) ?_
  refine lv_istore_n (lv' := [(2, .int (0 : Int32)), (0, .ref jT), (1, .ref jU)]) hx hb dX6_copyLawsAndDay_1 rfl hl (by decide) rfl (fun ls hl => ?_)
  exact b2  FU (0 : Int32) RT.laws RT.day _ _ _ hf hP hD hS (lv_sub hl [1, 2, 0] rfl)
abbrev rmX6_copyFrom : Room := { frames := 1, cells := 0, slots := 0, locals := 22 }
theorem hdX6_copyFrom : yX6_copyFrom.cls = RX6 ∧ yX6_copyFrom.cls ≠ "java/lang/invoke/MethodHandle" ∧ yX6_copyFrom.cls ≠ "java/lang/invoke/VarHandle" ∧ (parseMethodDescriptor yX6_copyFrom.desc).map (fun d => d.parameters.length) = some 1 := by decide +kernel
def fX6_copyFrom_b39 (RT : TownV) (RU : TownV) (k39 : Int32 → AI → AI → AI → AI → AI → AI → AI → Int32 → Int32 → Int32 → Int32 → Int32 → Option (AI × AI × AI × AI × AI × AI × AI × Int32 × Int32 × Int32 × Int32 × Int32)) (x2 : Int32) (vT_laws : AI) (vT_kind : AI) (vT_need : AI) (vT_saved : AI) (vT_voice : AI) (vT_partner : AI) (vT_speaks : AI) (vT_count : Int32) (vT_day : Int32) (vT_heard : Int32) (vT_geese : Int32) (vT_z : Int32) : Option (AI × AI × AI × AI × AI × AI × AI × Int32 × Int32 × Int32 × Int32 × Int32) := if vT_count ≤ x2 then (some (vT_laws, vT_kind, vT_need, vT_saved, vT_voice, vT_partner, vT_speaks, vT_count, vT_day, vT_heard, vT_geese, vT_z)) else (ht_gd (ht_ix x2 8) (ht_gd (ht_ix x2 8) (ht_nm (upd vT_kind x2.toNatClampNeg (RU.kind x2.toNatClampNeg)) (fun vT_kind_4 => ht_gd (ht_ix x2 8) (ht_gd (ht_ix x2 8) (ht_nm (upd vT_need x2.toNatClampNeg (RU.need x2.toNatClampNeg)) (fun vT_need_7 => ht_gd (ht_ix x2 8) (ht_gd (ht_ix x2 8) (ht_nm (upd vT_saved x2.toNatClampNeg (RU.saved x2.toNatClampNeg)) (fun vT_saved_10 => ht_gd (ht_ix x2 8) (ht_gd (ht_ix x2 8) (ht_nm (upd vT_voice x2.toNatClampNeg (RU.voice x2.toNatClampNeg)) (fun vT_voice_13 => ht_gd (ht_ix x2 8) (ht_gd (ht_ix x2 8) (ht_nm (upd vT_partner x2.toNatClampNeg (RU.partner x2.toNatClampNeg)) (fun vT_partner_16 => ht_gd (ht_ix x2 8) (ht_gd (ht_ix x2 8) (ht_nm (upd vT_speaks x2.toNatClampNeg (vp_nar .boolean (RU.speaks x2.toNatClampNeg))) (fun vT_speaks_19 => ht_nm (x2 + (1 : Int32)) (fun x2_20 => k39 x2_20 vT_laws vT_kind_4 vT_need_7 vT_saved_10 vT_voice_13 vT_partner_16 vT_speaks_19 vT_count vT_day vT_heard vT_geese vT_z))))))))))))))))))))
def fX6_copyFrom (RT : TownV) (RU : TownV) : Option (AI × AI × AI × AI × AI × AI × AI × Int32 × Int32 × Int32 × Int32 × Int32) := ht_bn (fX6_copyLawsAndDay RT RU) (fun o_21 => ht_nm RU.heard (fun vT_heard_22 => ht_nm RU.geese (fun vT_geese_23 => ht_nm RU.z (fun vT_z_24 => ht_nm RU.count (fun vT_count_25 => ht_lp13 (fX6_copyFrom_b39 RT RU) FU (0 : Int32) o_21.1 RT.kind RT.need RT.saved RT.voice RT.partner RT.speaks vT_count_25 o_21.2 vT_heard_22 vT_geese_23 vT_z_24)))))
set_option maxHeartbeats 1000000 in
set_option maxRecDepth 100000 in
theorem ctX6_copyFrom (l : Launch) (D : va_G) (K : Nat → ClassId) (jT : Nat) (aT : Nat → Nat) (jU : Nat) (aU : Nat → Nat) (RT : TownV) (RU : TownV) (o : (AI × AI × AI × AI × AI × AI × AI × Int32 × Int32 × Int32 × Int32 × Int32)) (hf : fX6_copyFrom RT RU = some o) (sz : Nat) : Met l yX6_copyFrom wsX6_copyFrom rmX6_copyFrom (ht_Pre D K [.ref jT, .ref jU] (wTw K jT aT RT.laws RT.kind RT.need RT.saved RT.voice RT.partner RT.speaks RT.count RT.day RT.heard RT.geese RT.z ++ (wTw K jU aU RU.laws RU.kind RU.need RU.saved RU.voice RU.partner RU.speaks RU.count RU.day RU.heard RU.geese RU.z)) sz) (ht_Qv D K (wTw K jT aT o.1 o.2.1 o.2.2.1 o.2.2.2.1 o.2.2.2.2.1 o.2.2.2.2.2.1 o.2.2.2.2.2.2.1 o.2.2.2.2.2.2.2.1 o.2.2.2.2.2.2.2.2.1 o.2.2.2.2.2.2.2.2.2.1 o.2.2.2.2.2.2.2.2.2.2.1 o.2.2.2.2.2.2.2.2.2.2.2 ++ (wTw K jU aU RU.laws RU.kind RU.need RU.saved RU.voice RU.partner RU.speaks RU.count RU.day RU.heard RU.geese RU.z)) (va_A (wTw K jT aT RT.laws RT.kind RT.need RT.saved RT.voice RT.partner RT.speaks RT.count RT.day RT.heard RT.geese RT.z ++ (wTw K jU aU RU.laws RU.kind RU.need RU.saved RU.voice RU.partner RU.speaks RU.count RU.day RU.heard RU.geese RU.z)) sz)) 0 0 (va_A (wTw K jT aT RT.laws RT.kind RT.need RT.saved RT.voice RT.partner RT.speaks RT.count RT.day RT.heard RT.geese RT.z ++ (wTw K jU aU RU.laws RU.kind RU.need RU.saved RU.voice RU.partner RU.speaks RU.count RU.day RU.heard RU.geese RU.z)) sz) := by
  refine ht_enter (Qf := ht_Qv D K (wTw K jT aT o.1 o.2.1 o.2.2.1 o.2.2.2.1 o.2.2.2.2.1 o.2.2.2.2.2.1 o.2.2.2.2.2.2.1 o.2.2.2.2.2.2.2.1 o.2.2.2.2.2.2.2.2.1 o.2.2.2.2.2.2.2.2.2.1 o.2.2.2.2.2.2.2.2.2.2.1 o.2.2.2.2.2.2.2.2.2.2.2 ++ (wTw K jU aU RU.laws RU.kind RU.need RU.saved RU.voice RU.partner RU.speaks RU.count RU.day RU.heard RU.geese RU.z))) (cc := cX6_copyFrom) (maxL := 3) (rt := none) (by decide) rfl (Nat.le_of_ble_eq_true rfl) ?_ sz
  intro p e s m below meth c A Q H locs ls hQ hx hb hr hlk hmn hml hown hts hA hK hP hD hS hl
  have hown : s.vm.findClass RX6 = some m.cls := hown
  have hF : CallFix p m c cX6_copyFrom 3 s ([.ref jT, .ref jU] : List Value).toArray wsX6_copyFrom RX6 := ⟨hx, hb, hml, hown, hts⟩
  have hl : lv_has ls 3 [(0, .ref jT), (1, .ref jU)] := hl
  have iw6 : ∀ w ∈ u_ws RX6 TX6 12, w ∈ wsX6_copyFrom := by decide +kernel
  have kw1 := hts (.fieldLink RX6 41 "HeldTongues$Town" "count" "I") (by decide +kernel)
  have kw2 := hts (.fieldLink RX6 15 "HeldTongues$Town" "kind" "[I") (by decide +kernel)
  have kw3 := hts (.fieldLink RX6 18 "HeldTongues$Town" "need" "[I") (by decide +kernel)
  have kw4 := hts (.fieldLink RX6 21 "HeldTongues$Town" "saved" "[I") (by decide +kernel)
  have kw5 := hts (.fieldLink RX6 24 "HeldTongues$Town" "voice" "[I") (by decide +kernel)
  have kw6 := hts (.fieldLink RX6 27 "HeldTongues$Town" "partner" "[I") (by decide +kernel)
  have kw7 := hts (.fieldLink RX6 30 "HeldTongues$Town" "speaks" "[Z") (by decide +kernel)
  have kw8 := hts (.fieldLink RX6 47 "HeldTongues$Town" "heard" "I") (by decide +kernel)
  have kw9 := hts (.fieldLink RX6 50 "HeldTongues$Town" "geese" "I") (by decide +kernel)
  have kw10 := hts (.fieldLink RX6 37 "HeldTongues$Town" "z" "I") (by decide +kernel)
  have b39 : ∀ (n : Nat) (x2 : Int32) (vT_laws : AI) (vT_kind : AI) (vT_need : AI) (vT_saved : AI) (vT_voice : AI) (vT_partner : AI) (vT_speaks : AI) (vT_count : Int32) (vT_day : Int32) (vT_heard : Int32) (vT_geese : Int32) (vT_z : Int32) (H : Heap) (locs : List Loc) (ls : Array Slot), ht_lp13 (fX6_copyFrom_b39 RT RU) n x2 vT_laws vT_kind vT_need vT_saved vT_voice vT_partner vT_speaks vT_count vT_day vT_heard vT_geese vT_z = some o → va_P D vwCl (wTw K jT aT vT_laws vT_kind vT_need vT_saved vT_voice vT_partner vT_speaks vT_count vT_day vT_heard vT_geese vT_z ++ (wTw K jU aU RU.laws RU.kind RU.need RU.saved RU.voice RU.partner RU.speaks RU.count RU.day RU.heard RU.geese RU.z)) H → va_D A (wTw K jT aT vT_laws vT_kind vT_need vT_saved vT_voice vT_partner vT_speaks vT_count vT_day vT_heard vT_geese vT_z ++ (wTw K jU aU RU.laws RU.kind RU.need RU.saved RU.voice RU.partner RU.speaks RU.count RU.day RU.heard RU.geese RU.z)) → va_S A s.heap H locs → lv_has ls 3 [(0, .ref jT), (1, .ref jU), (2, .int x2)] → W p l e (headSpec wsX6_copyFrom rmX6_copyFrom).room s m ([.ref jT, .ref jU] : List Value).toArray below meth c H locs 0 0 Q (F0 m 39 ls []) := by
    intro n
    induction n with
    | zero =>
      intro x2 vT_laws vT_kind vT_need vT_saved vT_voice vT_partner vT_speaks vT_count vT_day vT_heard vT_geese vT_z H locs ls hf hP hD hS hl
      cases (show (none : Option (AI × AI × AI × AI × AI × AI × AI × Int32 × Int32 × Int32 × Int32 × Int32)) = some o from hf)
    | succ n hk39 =>
      intro x2 vT_laws vT_kind vT_need vT_saved vT_voice vT_partner vT_speaks vT_count vT_day vT_heard vT_geese vT_z H locs ls hf hP hD hS hl
      replace hf : fX6_copyFrom_b39 RT RU (ht_lp13 (fX6_copyFrom_b39 RT RU) n) x2 vT_laws vT_kind vT_need vT_saved vT_voice vT_partner vT_speaks vT_count vT_day vT_heard vT_geese vT_z = some o := hf
      delta fX6_copyFrom_b39 at hf
      refine lv_iload_n hx hb dX6_copyFrom_39 rfl (lv_at hl 2 rfl) ?_
      refine lv_aload_n hx hb dX6_copyFrom_40 rfl (lv_at hl 0 rfl) ?_
      refine va_get (D := D) (ci := 6) (v := .int vT_count) (C := RX6) (T := TX6) (N := 12) hx hb hts iw6 hown hK hP 0 rfl rfl 7 (by decide) kw1 (fun _ h9 => h9) rfl dX6_copyFrom_41 ?_
      refine lv_icmp_ge (tgt := 125) hx hb dX6_copyFrom_44 (by decide) (fun c_1 => ?_) (fun c_1 => ?_)
      · replace hf := ht_t c_1 hf
        have ho := Option.some.inj hf
        subst ho; subst hQ
        exact ht_vret hx hb hr hlk hK hP hD hS dX6_copyFrom_125
      · replace hf := ht_f c_1 hf
        refine lv_aload_n hx hb dX6_copyFrom_47 rfl (lv_at hl 0 rfl) ?_
        refine va_get (D := D) (ci := 6) (v := .ref (aT 1)) (C := RX6) (T := TX6) (N := 12) hx hb hts iw6 hown hK hP 0 rfl rfl 1 (by decide) kw2 (fun _ h9 => h9) rfl dX6_copyFrom_48 ?_
        refine lv_iload_n hx hb dX6_copyFrom_51 rfl (lv_at hl 2 rfl) ?_
        refine lv_aload_n hx hb dX6_copyFrom_52 rfl (lv_at hl 1 rfl) ?_
        refine va_get (D := D) (ci := 6) (v := .ref (aU 1)) (C := RX6) (T := TX6) (N := 12) hx hb hts iw6 hown hK hP 8 rfl rfl 1 (by decide) kw2 (fun _ h9 => h9) rfl dX6_copyFrom_53 ?_
        refine lv_iload_n hx hb dX6_copyFrom_56 rfl (lv_at hl 2 rfl) ?_
        obtain ⟨g_2, hf⟩ := ht_gd_ob hf
        refine va_iald hx hb hK hP 10 1 rfl rfl (ht_ix_in g_2) dX6_copyFrom_57 ?_
        obtain ⟨g_3, hf⟩ := ht_gd_ob hf
        obtain ⟨vT_kind_4, evT_kind_4, hf⟩ := ht_nm_ob hf
        refine ht_iast (w2 := (wTw K jT aT vT_laws vT_kind_4 vT_need vT_saved vT_voice vT_partner vT_speaks vT_count vT_day vT_heard vT_geese vT_z ++ (wTw K jU aU RU.laws RU.kind RU.need RU.saved RU.voice RU.partner RU.speaks RU.count RU.day RU.heard RU.geese RU.z))) hx hb hK hP hD hS 2 1 rfl rfl g_3 dX6_copyFrom_58 evT_kind_4 rfl (fun H locs hP hD hS => ?_)
        refine lv_aload_n hx hb dX6_copyFrom_59 rfl (lv_at hl 0 rfl) ?_
        refine va_get (D := D) (ci := 6) (v := .ref (aT 2)) (C := RX6) (T := TX6) (N := 12) hx hb hts iw6 hown hK hP 0 rfl rfl 2 (by decide) kw3 (fun _ h9 => h9) rfl dX6_copyFrom_60 ?_
        refine lv_iload_n hx hb dX6_copyFrom_63 rfl (lv_at hl 2 rfl) ?_
        refine lv_aload_n hx hb dX6_copyFrom_64 rfl (lv_at hl 1 rfl) ?_
        refine va_get (D := D) (ci := 6) (v := .ref (aU 2)) (C := RX6) (T := TX6) (N := 12) hx hb hts iw6 hown hK hP 8 rfl rfl 2 (by decide) kw3 (fun _ h9 => h9) rfl dX6_copyFrom_65 ?_
        refine lv_iload_n hx hb dX6_copyFrom_68 rfl (lv_at hl 2 rfl) ?_
        obtain ⟨g_5, hf⟩ := ht_gd_ob hf
        refine va_iald hx hb hK hP 11 1 rfl rfl (ht_ix_in g_5) dX6_copyFrom_69 ?_
        obtain ⟨g_6, hf⟩ := ht_gd_ob hf
        obtain ⟨vT_need_7, evT_need_7, hf⟩ := ht_nm_ob hf
        refine ht_iast (w2 := (wTw K jT aT vT_laws vT_kind_4 vT_need_7 vT_saved vT_voice vT_partner vT_speaks vT_count vT_day vT_heard vT_geese vT_z ++ (wTw K jU aU RU.laws RU.kind RU.need RU.saved RU.voice RU.partner RU.speaks RU.count RU.day RU.heard RU.geese RU.z))) hx hb hK hP hD hS 3 1 rfl rfl g_6 dX6_copyFrom_70 evT_need_7 rfl (fun H locs hP hD hS => ?_)
        refine lv_aload_n hx hb dX6_copyFrom_71 rfl (lv_at hl 0 rfl) ?_
        refine va_get (D := D) (ci := 6) (v := .ref (aT 3)) (C := RX6) (T := TX6) (N := 12) hx hb hts iw6 hown hK hP 0 rfl rfl 3 (by decide) kw4 (fun _ h9 => h9) rfl dX6_copyFrom_72 ?_
        refine lv_iload_n hx hb dX6_copyFrom_75 rfl (lv_at hl 2 rfl) ?_
        refine lv_aload_n hx hb dX6_copyFrom_76 rfl (lv_at hl 1 rfl) ?_
        refine va_get (D := D) (ci := 6) (v := .ref (aU 3)) (C := RX6) (T := TX6) (N := 12) hx hb hts iw6 hown hK hP 8 rfl rfl 3 (by decide) kw4 (fun _ h9 => h9) rfl dX6_copyFrom_77 ?_
        refine lv_iload_n hx hb dX6_copyFrom_80 rfl (lv_at hl 2 rfl) ?_
        obtain ⟨g_8, hf⟩ := ht_gd_ob hf
        refine va_iald hx hb hK hP 12 1 rfl rfl (ht_ix_in g_8) dX6_copyFrom_81 ?_
        obtain ⟨g_9, hf⟩ := ht_gd_ob hf
        obtain ⟨vT_saved_10, evT_saved_10, hf⟩ := ht_nm_ob hf
        refine ht_iast (w2 := (wTw K jT aT vT_laws vT_kind_4 vT_need_7 vT_saved_10 vT_voice vT_partner vT_speaks vT_count vT_day vT_heard vT_geese vT_z ++ (wTw K jU aU RU.laws RU.kind RU.need RU.saved RU.voice RU.partner RU.speaks RU.count RU.day RU.heard RU.geese RU.z))) hx hb hK hP hD hS 4 1 rfl rfl g_9 dX6_copyFrom_82 evT_saved_10 rfl (fun H locs hP hD hS => ?_)
        refine lv_aload_n hx hb dX6_copyFrom_83 rfl (lv_at hl 0 rfl) ?_
        refine va_get (D := D) (ci := 6) (v := .ref (aT 4)) (C := RX6) (T := TX6) (N := 12) hx hb hts iw6 hown hK hP 0 rfl rfl 4 (by decide) kw5 (fun _ h9 => h9) rfl dX6_copyFrom_84 ?_
        refine lv_iload_n hx hb dX6_copyFrom_87 rfl (lv_at hl 2 rfl) ?_
        refine lv_aload_n hx hb dX6_copyFrom_88 rfl (lv_at hl 1 rfl) ?_
        refine va_get (D := D) (ci := 6) (v := .ref (aU 4)) (C := RX6) (T := TX6) (N := 12) hx hb hts iw6 hown hK hP 8 rfl rfl 4 (by decide) kw5 (fun _ h9 => h9) rfl dX6_copyFrom_89 ?_
        refine lv_iload_n hx hb dX6_copyFrom_92 rfl (lv_at hl 2 rfl) ?_
        obtain ⟨g_11, hf⟩ := ht_gd_ob hf
        refine va_iald hx hb hK hP 13 1 rfl rfl (ht_ix_in g_11) dX6_copyFrom_93 ?_
        obtain ⟨g_12, hf⟩ := ht_gd_ob hf
        obtain ⟨vT_voice_13, evT_voice_13, hf⟩ := ht_nm_ob hf
        refine ht_iast (w2 := (wTw K jT aT vT_laws vT_kind_4 vT_need_7 vT_saved_10 vT_voice_13 vT_partner vT_speaks vT_count vT_day vT_heard vT_geese vT_z ++ (wTw K jU aU RU.laws RU.kind RU.need RU.saved RU.voice RU.partner RU.speaks RU.count RU.day RU.heard RU.geese RU.z))) hx hb hK hP hD hS 5 1 rfl rfl g_12 dX6_copyFrom_94 evT_voice_13 rfl (fun H locs hP hD hS => ?_)
        refine lv_aload_n hx hb dX6_copyFrom_95 rfl (lv_at hl 0 rfl) ?_
        refine va_get (D := D) (ci := 6) (v := .ref (aT 5)) (C := RX6) (T := TX6) (N := 12) hx hb hts iw6 hown hK hP 0 rfl rfl 5 (by decide) kw6 (fun _ h9 => h9) rfl dX6_copyFrom_96 ?_
        refine lv_iload_n hx hb dX6_copyFrom_99 rfl (lv_at hl 2 rfl) ?_
        refine lv_aload_n hx hb dX6_copyFrom_100 rfl (lv_at hl 1 rfl) ?_
        refine va_get (D := D) (ci := 6) (v := .ref (aU 5)) (C := RX6) (T := TX6) (N := 12) hx hb hts iw6 hown hK hP 8 rfl rfl 5 (by decide) kw6 (fun _ h9 => h9) rfl dX6_copyFrom_101 ?_
        refine lv_iload_n hx hb dX6_copyFrom_104 rfl (lv_at hl 2 rfl) ?_
        obtain ⟨g_14, hf⟩ := ht_gd_ob hf
        refine va_iald hx hb hK hP 14 1 rfl rfl (ht_ix_in g_14) dX6_copyFrom_105 ?_
        obtain ⟨g_15, hf⟩ := ht_gd_ob hf
        obtain ⟨vT_partner_16, evT_partner_16, hf⟩ := ht_nm_ob hf
        refine ht_iast (w2 := (wTw K jT aT vT_laws vT_kind_4 vT_need_7 vT_saved_10 vT_voice_13 vT_partner_16 vT_speaks vT_count vT_day vT_heard vT_geese vT_z ++ (wTw K jU aU RU.laws RU.kind RU.need RU.saved RU.voice RU.partner RU.speaks RU.count RU.day RU.heard RU.geese RU.z))) hx hb hK hP hD hS 6 1 rfl rfl g_15 dX6_copyFrom_106 evT_partner_16 rfl (fun H locs hP hD hS => ?_)
        refine lv_aload_n hx hb dX6_copyFrom_107 rfl (lv_at hl 0 rfl) ?_
        refine va_get (D := D) (ci := 6) (v := .ref (aT 6)) (C := RX6) (T := TX6) (N := 12) hx hb hts iw6 hown hK hP 0 rfl rfl 6 (by decide) kw7 (fun _ h9 => h9) rfl dX6_copyFrom_108 ?_
        refine lv_iload_n hx hb dX6_copyFrom_111 rfl (lv_at hl 2 rfl) ?_
        refine lv_aload_n hx hb dX6_copyFrom_112 rfl (lv_at hl 1 rfl) ?_
        refine va_get (D := D) (ci := 6) (v := .ref (aU 6)) (C := RX6) (T := TX6) (N := 12) hx hb hts iw6 hown hK hP 8 rfl rfl 6 (by decide) kw7 (fun _ h9 => h9) rfl dX6_copyFrom_113 ?_
        refine lv_iload_n hx hb dX6_copyFrom_116 rfl (lv_at hl 2 rfl) ?_
        obtain ⟨g_17, hf⟩ := ht_gd_ob hf
        refine va_zald hx hb hK hP 15 3 rfl rfl (ht_ix_in g_17) dX6_copyFrom_117 ?_
        obtain ⟨g_18, hf⟩ := ht_gd_ob hf
        obtain ⟨vT_speaks_19, evT_speaks_19, hf⟩ := ht_nm_ob hf
        refine ht_zast (w2 := (wTw K jT aT vT_laws vT_kind_4 vT_need_7 vT_saved_10 vT_voice_13 vT_partner_16 vT_speaks_19 vT_count vT_day vT_heard vT_geese vT_z ++ (wTw K jU aU RU.laws RU.kind RU.need RU.saved RU.voice RU.partner RU.speaks RU.count RU.day RU.heard RU.geese RU.z))) hx hb hK hP hD hS 7 3 rfl rfl g_18 dX6_copyFrom_118 evT_speaks_19 rfl (fun H locs hP hD hS => ?_)
        obtain ⟨x2_20, ex2_20, hf⟩ := ht_nm_ob hf
        refine lv_iinc (v := x2_20) (lv' := [(2, .int x2_20), (0, .ref jT), (1, .ref jU)]) hx hb dX6_copyFrom_119 hl (k := 2) rfl (by rw [ex2_20]; rfl) (by decide) rfl (fun ls hl => ?_)
        refine lv_goto (tgt := 39) hx hb dX6_copyFrom_122 (by decide) ?_
        exact hk39 x2_20 vT_laws vT_kind_4 vT_need_7 vT_saved_10 vT_voice_13 vT_partner_16 vT_speaks_19 vT_count vT_day vT_heard vT_geese vT_z _ _ _ hf hP hD hS (lv_sub hl [1, 2, 0] rfl)
  delta fX6_copyFrom at hf
  refine lv_aload_n hx hb dX6_copyFrom_0 rfl (lv_at hl 0 rfl) ?_
  refine lv_aload_n hx hb dX6_copyFrom_1 rfl (lv_at hl 1 rfl) ?_
  obtain ⟨o_21, ho_21, hf⟩ := ht_bn_ob hf
  refine ht_callVv (rest := []) (As := [.ref jU]) (wc := (wTw K jT aT RT.laws RT.kind RT.need RT.saved RT.voice RT.partner RT.speaks RT.count RT.day RT.heard RT.geese RT.z ++ (wTw K jU aU RU.laws RU.kind RU.need RU.saved RU.voice RU.partner RU.speaks RU.count RU.day RU.heard RU.geese RU.z))) (wr := []) (w1 := (wTw K jT aT o_21.1 RT.kind RT.need RT.saved RT.voice RT.partner RT.speaks RT.count o_21.2 RT.heard RT.geese RT.z ++ (wTw K jU aU RU.laws RU.kind RU.need RU.saved RU.voice RU.partner RU.speaks RU.count RU.day RU.heard RU.geese RU.z))) (w2 := (wTw K jT aT o_21.1 RT.kind RT.need RT.saved RT.voice RT.partner RT.speaks RT.count o_21.2 RT.heard RT.geese RT.z ++ (wTw K jU aU RU.laws RU.kind RU.need RU.saved RU.voice RU.partner RU.speaks RU.count RU.day RU.heard RU.geese RU.z))) hF (ctX6_copyLawsAndDay l D K jT aT jU aU RT RU o_21 ho_21 H.size) (cwV 1 hts gX6_copyFrom_X6_copyLawsAndDay rfl rfl rfl hdX6_copyLawsAndDay ⟨Nat.le_of_ble_eq_true rfl, Nat.le_of_ble_eq_true rfl⟩) hK hP hD hS hA [0, 1, 2, 3, 4, 5, 6, 7, 8, 9, 10, 11, 12, 13, 14, 15] [] rfl rfl (by decide) (by decide) (by decide) [0, 1, 2, 3, 4, 5, 6, 7, 8, 9, 10, 11, 12, 13, 14, 15] rfl (by decide) (va_recv hK hP (ci := 6) (q0 := 0) rfl rfl) rfl hl.1 rfl (Nat.le_of_ble_eq_true rfl) dX6_copyFrom_2 ⟨Nat.zero_le _, Nat.zero_le _⟩ (fun H locs hP hD hS => ?_)
  refine lv_aload_n hx hb dX6_copyFrom_5 rfl (lv_at hl 0 rfl) ?_
  refine lv_aload_n hx hb dX6_copyFrom_6 rfl (lv_at hl 1 rfl) ?_
  refine va_get (D := D) (ci := 6) (v := .int RU.heard) (C := RX6) (T := TX6) (N := 12) hx hb hts iw6 hown hK hP 8 rfl rfl 9 (by decide) kw8 (fun _ h9 => h9) rfl dX6_copyFrom_7 ?_
  obtain ⟨vT_heard_22, evT_heard_22, hf⟩ := ht_nm_ob hf
  rw [← evT_heard_22]
  refine ht_put (ci := 6) (v := .int vT_heard_22) (ty := .int) (C := RX6) (T := TX6) (N := 12) (w2 := (wTw K jT aT o_21.1 RT.kind RT.need RT.saved RT.voice RT.partner RT.speaks RT.count o_21.2 vT_heard_22 RT.geese RT.z ++ (wTw K jU aU RU.laws RU.kind RU.need RU.saved RU.voice RU.partner RU.speaks RU.count RU.day RU.heard RU.geese RU.z))) hx hb hts iw6 tyX6 tyX6_ok nmX6 hown hK hP hD hS 0 rfl rfl 9 (by decide) kw8 (fun _ h9 => h9) rfl (by decide +kernel) rfl rfl (Nat.le_of_ble_eq_true rfl) dX6_copyFrom_10 rfl (fun H locs hP hD hS => ?_)
  refine lv_aload_n hx hb dX6_copyFrom_13 rfl (lv_at hl 0 rfl) ?_
  refine lv_aload_n hx hb dX6_copyFrom_14 rfl (lv_at hl 1 rfl) ?_
  refine va_get (D := D) (ci := 6) (v := .int RU.geese) (C := RX6) (T := TX6) (N := 12) hx hb hts iw6 hown hK hP 8 rfl rfl 10 (by decide) kw9 (fun _ h9 => h9) rfl dX6_copyFrom_15 ?_
  obtain ⟨vT_geese_23, evT_geese_23, hf⟩ := ht_nm_ob hf
  rw [← evT_geese_23]
  refine ht_put (ci := 6) (v := .int vT_geese_23) (ty := .int) (C := RX6) (T := TX6) (N := 12) (w2 := (wTw K jT aT o_21.1 RT.kind RT.need RT.saved RT.voice RT.partner RT.speaks RT.count o_21.2 vT_heard_22 vT_geese_23 RT.z ++ (wTw K jU aU RU.laws RU.kind RU.need RU.saved RU.voice RU.partner RU.speaks RU.count RU.day RU.heard RU.geese RU.z))) hx hb hts iw6 tyX6 tyX6_ok nmX6 hown hK hP hD hS 0 rfl rfl 10 (by decide) kw9 (fun _ h9 => h9) rfl (by decide +kernel) rfl rfl (Nat.le_of_ble_eq_true rfl) dX6_copyFrom_18 rfl (fun H locs hP hD hS => ?_)
  refine lv_aload_n hx hb dX6_copyFrom_21 rfl (lv_at hl 0 rfl) ?_
  refine lv_aload_n hx hb dX6_copyFrom_22 rfl (lv_at hl 1 rfl) ?_
  refine va_get (D := D) (ci := 6) (v := .int RU.z) (C := RX6) (T := TX6) (N := 12) hx hb hts iw6 hown hK hP 8 rfl rfl 11 (by decide) kw10 (fun _ h9 => h9) rfl dX6_copyFrom_23 ?_
  obtain ⟨vT_z_24, evT_z_24, hf⟩ := ht_nm_ob hf
  rw [← evT_z_24]
  refine ht_put (ci := 6) (v := .int vT_z_24) (ty := .int) (C := RX6) (T := TX6) (N := 12) (w2 := (wTw K jT aT o_21.1 RT.kind RT.need RT.saved RT.voice RT.partner RT.speaks RT.count o_21.2 vT_heard_22 vT_geese_23 vT_z_24 ++ (wTw K jU aU RU.laws RU.kind RU.need RU.saved RU.voice RU.partner RU.speaks RU.count RU.day RU.heard RU.geese RU.z))) hx hb hts iw6 tyX6 tyX6_ok nmX6 hown hK hP hD hS 0 rfl rfl 11 (by decide) kw10 (fun _ h9 => h9) rfl (by decide +kernel) rfl rfl (Nat.le_of_ble_eq_true rfl) dX6_copyFrom_26 rfl (fun H locs hP hD hS => ?_)
  refine lv_aload_n hx hb dX6_copyFrom_29 rfl (lv_at hl 0 rfl) ?_
  refine lv_aload_n hx hb dX6_copyFrom_30 rfl (lv_at hl 1 rfl) ?_
  refine va_get (D := D) (ci := 6) (v := .int RU.count) (C := RX6) (T := TX6) (N := 12) hx hb hts iw6 hown hK hP 8 rfl rfl 7 (by decide) kw1 (fun _ h9 => h9) rfl dX6_copyFrom_31 ?_
  obtain ⟨vT_count_25, evT_count_25, hf⟩ := ht_nm_ob hf
  rw [← evT_count_25]
  refine ht_put (ci := 6) (v := .int vT_count_25) (ty := .int) (C := RX6) (T := TX6) (N := 12) (w2 := (wTw K jT aT o_21.1 RT.kind RT.need RT.saved RT.voice RT.partner RT.speaks vT_count_25 o_21.2 vT_heard_22 vT_geese_23 vT_z_24 ++ (wTw K jU aU RU.laws RU.kind RU.need RU.saved RU.voice RU.partner RU.speaks RU.count RU.day RU.heard RU.geese RU.z))) hx hb hts iw6 tyX6 tyX6_ok nmX6 hown hK hP hD hS 0 rfl rfl 7 (by decide) kw1 (fun _ h9 => h9) rfl (by decide +kernel) rfl rfl (Nat.le_of_ble_eq_true rfl) dX6_copyFrom_34 rfl (fun H locs hP hD hS => ?_)
  refine lv_iconst (v := 0) hx hb dX6_copyFrom_37 (by decide) ?_
  refine lv_istore_n (lv' := [(2, .int (0 : Int32)), (0, .ref jT), (1, .ref jU)]) hx hb dX6_copyFrom_38 rfl hl (by decide) rfl (fun ls hl => ?_)
  exact b39  FU (0 : Int32) o_21.1 RT.kind RT.need RT.saved RT.voice RT.partner RT.speaks vT_count_25 o_21.2 vT_heard_22 vT_geese_23 vT_z_24 _ _ _ hf hP hD hS (lv_sub hl [1, 2, 0] rfl)
abbrev rmX6_has : Room := { frames := 0, cells := 0, slots := 0, locals := 0 }
theorem hdX6_has : yX6_has.cls = RX6 ∧ yX6_has.cls ≠ "java/lang/invoke/MethodHandle" ∧ yX6_has.cls ≠ "java/lang/invoke/VarHandle" ∧ (parseMethodDescriptor yX6_has.desc).map (fun d => d.parameters.length) = some 1 := by decide +kernel
def fX6_has (RT : TownV) (p0 : Int32) : Option Int32 := if p0 < 0 then (some (0 : Int32)) else (if RT.count ≤ p0 then (some (0 : Int32)) else (some (1 : Int32)))
set_option maxHeartbeats 1000000 in
set_option maxRecDepth 100000 in
theorem ctX6_has (l : Launch) (D : va_G) (K : Nat → ClassId) (jT : Nat) (aT : Nat → Nat) (RT : TownV) (p0 : Int32) (o : Int32) (hf : fX6_has RT p0 = some o) (sz : Nat) : Met l yX6_has wsX6_has rmX6_has (ht_Pre D K [.ref jT, .int p0] (wTw K jT aT RT.laws RT.kind RT.need RT.saved RT.voice RT.partner RT.speaks RT.count RT.day RT.heard RT.geese RT.z) sz) (ht_Qi D K (wTw K jT aT RT.laws RT.kind RT.need RT.saved RT.voice RT.partner RT.speaks RT.count RT.day RT.heard RT.geese RT.z) o (va_A (wTw K jT aT RT.laws RT.kind RT.need RT.saved RT.voice RT.partner RT.speaks RT.count RT.day RT.heard RT.geese RT.z) sz)) 0 0 (va_A (wTw K jT aT RT.laws RT.kind RT.need RT.saved RT.voice RT.partner RT.speaks RT.count RT.day RT.heard RT.geese RT.z) sz) := by
  refine ht_enter (Qf := ht_Qi D K (wTw K jT aT RT.laws RT.kind RT.need RT.saved RT.voice RT.partner RT.speaks RT.count RT.day RT.heard RT.geese RT.z) o) (cc := cX6_has) (maxL := 2) (rt := (some .boolean)) (by decide) rfl (Nat.le_of_ble_eq_true rfl) ?_ sz
  intro p e s m below meth c A Q H locs ls hQ hx hb hr hlk hmn hml hown hts hA hK hP hD hS hl
  have hown : s.vm.findClass RX6 = some m.cls := hown
  have hF : CallFix p m c cX6_has 2 s ([.ref jT, .int p0] : List Value).toArray wsX6_has RX6 := ⟨hx, hb, hml, hown, hts⟩
  have hl : lv_has ls 2 [(0, .ref jT), (1, .int p0)] := hl
  have iw6 : ∀ w ∈ u_ws RX6 TX6 12, w ∈ wsX6_has := by decide +kernel
  have kw1 := hts (.fieldLink RX6 41 "HeldTongues$Town" "count" "I") (by decide +kernel)
  delta fX6_has at hf
  refine lv_iload_n hx hb dX6_has_0 rfl (lv_at hl 1 rfl) ?_
  refine lv_if_lt (tgt := 16) hx hb dX6_has_1 (by decide) (fun c_1 => ?_) (fun c_1 => ?_)
  · replace hf := ht_t c_1 hf
    refine lv_iconst (v := 0) hx hb dX6_has_16 (by decide) ?_
    have ho := Option.some.inj hf
    subst ho; subst hQ
    exact ht_iret hx hb hr hlk (show narrow .boolean (.int (0 : Int32)) = .int (0 : Int32) from rfl) hK hP hD hS dX6_has_17
  · replace hf := ht_f c_1 hf
    refine lv_iload_n hx hb dX6_has_4 rfl (lv_at hl 1 rfl) ?_
    refine lv_aload_n hx hb dX6_has_5 rfl (lv_at hl 0 rfl) ?_
    refine va_get (D := D) (ci := 6) (v := .int RT.count) (C := RX6) (T := TX6) (N := 12) hx hb hts iw6 hown hK hP 0 rfl rfl 7 (by decide) kw1 (fun _ h9 => h9) rfl dX6_has_6 ?_
    refine lv_icmp_ge (tgt := 16) hx hb dX6_has_9 (by decide) (fun c_2 => ?_) (fun c_2 => ?_)
    · replace hf := ht_t c_2 hf
      refine lv_iconst (v := 0) hx hb dX6_has_16 (by decide) ?_
      have ho := Option.some.inj hf
      subst ho; subst hQ
      exact ht_iret hx hb hr hlk (show narrow .boolean (.int (0 : Int32)) = .int (0 : Int32) from rfl) hK hP hD hS dX6_has_17
    · replace hf := ht_f c_2 hf
      refine lv_iconst (v := 1) hx hb dX6_has_12 (by decide) ?_
      refine lv_goto (tgt := 17) hx hb dX6_has_13 (by decide) ?_
      have ho := Option.some.inj hf
      subst ho; subst hQ
      exact ht_iret hx hb hr hlk (show narrow .boolean (.int (1 : Int32)) = .int (1 : Int32) from rfl) hK hP hD hS dX6_has_17
abbrev rmX6_setAlone : Room := { frames := 0, cells := 0, slots := 0, locals := 0 }
theorem hdX6_setAlone : yX6_setAlone.cls = RX6 ∧ yX6_setAlone.cls ≠ "java/lang/invoke/MethodHandle" ∧ yX6_setAlone.cls ≠ "java/lang/invoke/VarHandle" ∧ (parseMethodDescriptor yX6_setAlone.desc).map (fun d => d.parameters.length) = some 1 := by decide +kernel
def fX6_setAlone (RT : TownV) (p0 : Int32) : Option (AI × AI) := ht_gd (ht_ix p0 8) (ht_nm (upd RT.partner p0.toNatClampNeg (-1 : Int32)) (fun vT_partner_2 => ht_gd (ht_ix p0 8) (ht_nm (upd RT.speaks p0.toNatClampNeg (vp_nar .boolean (1 : Int32))) (fun vT_speaks_4 => some (vT_partner_2, vT_speaks_4)))))
set_option maxHeartbeats 1000000 in
set_option maxRecDepth 100000 in
theorem ctX6_setAlone (l : Launch) (D : va_G) (K : Nat → ClassId) (jT : Nat) (aT : Nat → Nat) (RT : TownV) (p0 : Int32) (o : (AI × AI)) (hf : fX6_setAlone RT p0 = some o) (sz : Nat) : Met l yX6_setAlone wsX6_setAlone rmX6_setAlone (ht_Pre D K [.ref jT, .int p0] (wTw K jT aT RT.laws RT.kind RT.need RT.saved RT.voice RT.partner RT.speaks RT.count RT.day RT.heard RT.geese RT.z) sz) (ht_Qv D K (wTw K jT aT RT.laws RT.kind RT.need RT.saved RT.voice o.1 o.2 RT.count RT.day RT.heard RT.geese RT.z) (va_A (wTw K jT aT RT.laws RT.kind RT.need RT.saved RT.voice RT.partner RT.speaks RT.count RT.day RT.heard RT.geese RT.z) sz)) 0 0 (va_A (wTw K jT aT RT.laws RT.kind RT.need RT.saved RT.voice RT.partner RT.speaks RT.count RT.day RT.heard RT.geese RT.z) sz) := by
  refine ht_enter (Qf := ht_Qv D K (wTw K jT aT RT.laws RT.kind RT.need RT.saved RT.voice o.1 o.2 RT.count RT.day RT.heard RT.geese RT.z)) (cc := cX6_setAlone) (maxL := 2) (rt := none) (by decide) rfl (Nat.le_of_ble_eq_true rfl) ?_ sz
  intro p e s m below meth c A Q H locs ls hQ hx hb hr hlk hmn hml hown hts hA hK hP hD hS hl
  have hown : s.vm.findClass RX6 = some m.cls := hown
  have hF : CallFix p m c cX6_setAlone 2 s ([.ref jT, .int p0] : List Value).toArray wsX6_setAlone RX6 := ⟨hx, hb, hml, hown, hts⟩
  have hl : lv_has ls 2 [(0, .ref jT), (1, .int p0)] := hl
  have iw6 : ∀ w ∈ u_ws RX6 TX6 12, w ∈ wsX6_setAlone := by decide +kernel
  have kw1 := hts (.fieldLink RX6 27 "HeldTongues$Town" "partner" "[I") (by decide +kernel)
  have kw2 := hts (.fieldLink RX6 30 "HeldTongues$Town" "speaks" "[Z") (by decide +kernel)
  delta fX6_setAlone at hf
  refine lv_aload_n hx hb dX6_setAlone_0 rfl (lv_at hl 0 rfl) ?_
  refine va_get (D := D) (ci := 6) (v := .ref (aT 5)) (C := RX6) (T := TX6) (N := 12) hx hb hts iw6 hown hK hP 0 rfl rfl 5 (by decide) kw1 (fun _ h9 => h9) rfl dX6_setAlone_1 ?_
  refine lv_iload_n hx hb dX6_setAlone_4 rfl (lv_at hl 1 rfl) ?_
  refine lv_iconst (v := -1) hx hb dX6_setAlone_5 (by decide) ?_
  obtain ⟨g_1, hf⟩ := ht_gd_ob hf
  obtain ⟨vT_partner_2, evT_partner_2, hf⟩ := ht_nm_ob hf
  refine ht_iast (w2 := (wTw K jT aT RT.laws RT.kind RT.need RT.saved RT.voice vT_partner_2 RT.speaks RT.count RT.day RT.heard RT.geese RT.z)) hx hb hK hP hD hS 6 1 rfl rfl g_1 dX6_setAlone_6 evT_partner_2 rfl (fun H locs hP hD hS => ?_)
  refine lv_aload_n hx hb dX6_setAlone_7 rfl (lv_at hl 0 rfl) ?_
  refine va_get (D := D) (ci := 6) (v := .ref (aT 6)) (C := RX6) (T := TX6) (N := 12) hx hb hts iw6 hown hK hP 0 rfl rfl 6 (by decide) kw2 (fun _ h9 => h9) rfl dX6_setAlone_8 ?_
  refine lv_iload_n hx hb dX6_setAlone_11 rfl (lv_at hl 1 rfl) ?_
  refine lv_iconst (v := 1) hx hb dX6_setAlone_12 (by decide) ?_
  obtain ⟨g_3, hf⟩ := ht_gd_ob hf
  obtain ⟨vT_speaks_4, evT_speaks_4, hf⟩ := ht_nm_ob hf
  refine ht_zast (w2 := (wTw K jT aT RT.laws RT.kind RT.need RT.saved RT.voice vT_partner_2 vT_speaks_4 RT.count RT.day RT.heard RT.geese RT.z)) hx hb hK hP hD hS 7 3 rfl rfl g_3 dX6_setAlone_13 evT_speaks_4 rfl (fun H locs hP hD hS => ?_)
  have ho := Option.some.inj hf
  subst ho; subst hQ
  exact ht_vret hx hb hr hlk hK hP hD hS dX6_setAlone_14
abbrev rmX6_add : Room := { frames := 1, cells := 0, slots := 0, locals := 21 }
theorem hdX6_add : yX6_add.cls = RX6 ∧ yX6_add.cls ≠ "java/lang/invoke/MethodHandle" ∧ yX6_add.cls ≠ "java/lang/invoke/VarHandle" ∧ (parseMethodDescriptor yX6_add.desc).map (fun d => d.parameters.length) = some 4 := by decide +kernel
def fX6_add (RT : TownV) (p0 : Int32) (p1 : Int32) (p2 : Int32) (p3 : Int32) : Option (AI × AI × AI × AI × AI × AI × Int32) := if RT.count < (8 : Int32) then (ht_gd (ht_ix RT.count 8) (ht_nm (upd RT.kind RT.count.toNatClampNeg p0) (fun vT_kind_3 => ht_gd (ht_ix RT.count 8) (ht_nm (upd RT.need RT.count.toNatClampNeg p1) (fun vT_need_5 => ht_gd (ht_ix RT.count 8) (ht_nm (upd RT.saved RT.count.toNatClampNeg p2) (fun vT_saved_7 => ht_gd (ht_ix RT.count 8) (ht_nm (upd RT.voice RT.count.toNatClampNeg p3) (fun vT_voice_9 => ht_bn (fX6_setAlone (RT.laws, vT_kind_3, vT_need_5, vT_saved_7, vT_voice_9, RT.partner, RT.speaks, RT.count, RT.day, RT.heard, RT.geese, RT.z) RT.count) (fun o_10 => ht_nm (RT.count + (1 : Int32)) (fun vT_count_11 => some (vT_kind_3, vT_need_5, vT_saved_7, vT_voice_9, o_10.1, o_10.2, vT_count_11)))))))))))) else (some (RT.kind, RT.need, RT.saved, RT.voice, RT.partner, RT.speaks, RT.count))
set_option maxHeartbeats 1000000 in
set_option maxRecDepth 100000 in
theorem ctX6_add (l : Launch) (D : va_G) (K : Nat → ClassId) (jT : Nat) (aT : Nat → Nat) (RT : TownV) (p0 : Int32) (p1 : Int32) (p2 : Int32) (p3 : Int32) (o : (AI × AI × AI × AI × AI × AI × Int32)) (hf : fX6_add RT p0 p1 p2 p3 = some o) (sz : Nat) : Met l yX6_add wsX6_add rmX6_add (ht_Pre D K [.ref jT, .int p0, .int p1, .int p2, .int p3] (wTw K jT aT RT.laws RT.kind RT.need RT.saved RT.voice RT.partner RT.speaks RT.count RT.day RT.heard RT.geese RT.z) sz) (ht_Qv D K (wTw K jT aT RT.laws o.1 o.2.1 o.2.2.1 o.2.2.2.1 o.2.2.2.2.1 o.2.2.2.2.2.1 o.2.2.2.2.2.2 RT.day RT.heard RT.geese RT.z) (va_A (wTw K jT aT RT.laws RT.kind RT.need RT.saved RT.voice RT.partner RT.speaks RT.count RT.day RT.heard RT.geese RT.z) sz)) 0 0 (va_A (wTw K jT aT RT.laws RT.kind RT.need RT.saved RT.voice RT.partner RT.speaks RT.count RT.day RT.heard RT.geese RT.z) sz) := by
  refine ht_enter (Qf := ht_Qv D K (wTw K jT aT RT.laws o.1 o.2.1 o.2.2.1 o.2.2.2.1 o.2.2.2.2.1 o.2.2.2.2.2.1 o.2.2.2.2.2.2 RT.day RT.heard RT.geese RT.z)) (cc := cX6_add) (maxL := 5) (rt := none) (by decide) rfl (Nat.le_of_ble_eq_true rfl) ?_ sz
  intro p e s m below meth c A Q H locs ls hQ hx hb hr hlk hmn hml hown hts hA hK hP hD hS hl
  have hown : s.vm.findClass RX6 = some m.cls := hown
  have hF : CallFix p m c cX6_add 5 s ([.ref jT, .int p0, .int p1, .int p2, .int p3] : List Value).toArray wsX6_add RX6 := ⟨hx, hb, hml, hown, hts⟩
  have hl : lv_has ls 5 [(0, .ref jT), (1, .int p0), (2, .int p1), (3, .int p2), (4, .int p3)] := hl
  have iw6 : ∀ w ∈ u_ws RX6 TX6 12, w ∈ wsX6_add := by decide +kernel
  have kw1 := hts (.fieldLink RX6 41 "HeldTongues$Town" "count" "I") (by decide +kernel)
  have kw2 := hts (.fieldLink RX6 15 "HeldTongues$Town" "kind" "[I") (by decide +kernel)
  have kw3 := hts (.fieldLink RX6 18 "HeldTongues$Town" "need" "[I") (by decide +kernel)
  have kw4 := hts (.fieldLink RX6 21 "HeldTongues$Town" "saved" "[I") (by decide +kernel)
  have kw5 := hts (.fieldLink RX6 24 "HeldTongues$Town" "voice" "[I") (by decide +kernel)
  delta fX6_add at hf
  refine lv_aload_n hx hb dX6_add_0 rfl (lv_at hl 0 rfl) ?_
  refine va_get (D := D) (ci := 6) (v := .int RT.count) (C := RX6) (T := TX6) (N := 12) hx hb hts iw6 hown hK hP 0 rfl rfl 7 (by decide) kw1 (fun _ h9 => h9) rfl dX6_add_1 ?_
  refine lv_bipush (v := 8) hx hb dX6_add_4 (by decide) ?_
  refine lv_icmp_lt (tgt := 10) hx hb dX6_add_6 (by decide) (fun c_1 => ?_) (fun c_1 => ?_)
  · replace hf := ht_t c_1 hf
    refine lv_aload_n hx hb dX6_add_10 rfl (lv_at hl 0 rfl) ?_
    refine va_get (D := D) (ci := 6) (v := .ref (aT 1)) (C := RX6) (T := TX6) (N := 12) hx hb hts iw6 hown hK hP 0 rfl rfl 1 (by decide) kw2 (fun _ h9 => h9) rfl dX6_add_11 ?_
    refine lv_aload_n hx hb dX6_add_14 rfl (lv_at hl 0 rfl) ?_
    refine va_get (D := D) (ci := 6) (v := .int RT.count) (C := RX6) (T := TX6) (N := 12) hx hb hts iw6 hown hK hP 0 rfl rfl 7 (by decide) kw1 (fun _ h9 => h9) rfl dX6_add_15 ?_
    refine lv_iload_n hx hb dX6_add_18 rfl (lv_at hl 1 rfl) ?_
    obtain ⟨g_2, hf⟩ := ht_gd_ob hf
    obtain ⟨vT_kind_3, evT_kind_3, hf⟩ := ht_nm_ob hf
    refine ht_iast (w2 := (wTw K jT aT RT.laws vT_kind_3 RT.need RT.saved RT.voice RT.partner RT.speaks RT.count RT.day RT.heard RT.geese RT.z)) hx hb hK hP hD hS 2 1 rfl rfl g_2 dX6_add_19 evT_kind_3 rfl (fun H locs hP hD hS => ?_)
    refine lv_aload_n hx hb dX6_add_20 rfl (lv_at hl 0 rfl) ?_
    refine va_get (D := D) (ci := 6) (v := .ref (aT 2)) (C := RX6) (T := TX6) (N := 12) hx hb hts iw6 hown hK hP 0 rfl rfl 2 (by decide) kw3 (fun _ h9 => h9) rfl dX6_add_21 ?_
    refine lv_aload_n hx hb dX6_add_24 rfl (lv_at hl 0 rfl) ?_
    refine va_get (D := D) (ci := 6) (v := .int RT.count) (C := RX6) (T := TX6) (N := 12) hx hb hts iw6 hown hK hP 0 rfl rfl 7 (by decide) kw1 (fun _ h9 => h9) rfl dX6_add_25 ?_
    refine lv_iload_n hx hb dX6_add_28 rfl (lv_at hl 2 rfl) ?_
    obtain ⟨g_4, hf⟩ := ht_gd_ob hf
    obtain ⟨vT_need_5, evT_need_5, hf⟩ := ht_nm_ob hf
    refine ht_iast (w2 := (wTw K jT aT RT.laws vT_kind_3 vT_need_5 RT.saved RT.voice RT.partner RT.speaks RT.count RT.day RT.heard RT.geese RT.z)) hx hb hK hP hD hS 3 1 rfl rfl g_4 dX6_add_29 evT_need_5 rfl (fun H locs hP hD hS => ?_)
    refine lv_aload_n hx hb dX6_add_30 rfl (lv_at hl 0 rfl) ?_
    refine va_get (D := D) (ci := 6) (v := .ref (aT 3)) (C := RX6) (T := TX6) (N := 12) hx hb hts iw6 hown hK hP 0 rfl rfl 3 (by decide) kw4 (fun _ h9 => h9) rfl dX6_add_31 ?_
    refine lv_aload_n hx hb dX6_add_34 rfl (lv_at hl 0 rfl) ?_
    refine va_get (D := D) (ci := 6) (v := .int RT.count) (C := RX6) (T := TX6) (N := 12) hx hb hts iw6 hown hK hP 0 rfl rfl 7 (by decide) kw1 (fun _ h9 => h9) rfl dX6_add_35 ?_
    refine lv_iload_n hx hb dX6_add_38 rfl (lv_at hl 3 rfl) ?_
    obtain ⟨g_6, hf⟩ := ht_gd_ob hf
    obtain ⟨vT_saved_7, evT_saved_7, hf⟩ := ht_nm_ob hf
    refine ht_iast (w2 := (wTw K jT aT RT.laws vT_kind_3 vT_need_5 vT_saved_7 RT.voice RT.partner RT.speaks RT.count RT.day RT.heard RT.geese RT.z)) hx hb hK hP hD hS 4 1 rfl rfl g_6 dX6_add_39 evT_saved_7 rfl (fun H locs hP hD hS => ?_)
    refine lv_aload_n hx hb dX6_add_40 rfl (lv_at hl 0 rfl) ?_
    refine va_get (D := D) (ci := 6) (v := .ref (aT 4)) (C := RX6) (T := TX6) (N := 12) hx hb hts iw6 hown hK hP 0 rfl rfl 4 (by decide) kw5 (fun _ h9 => h9) rfl dX6_add_41 ?_
    refine lv_aload_n hx hb dX6_add_44 rfl (lv_at hl 0 rfl) ?_
    refine va_get (D := D) (ci := 6) (v := .int RT.count) (C := RX6) (T := TX6) (N := 12) hx hb hts iw6 hown hK hP 0 rfl rfl 7 (by decide) kw1 (fun _ h9 => h9) rfl dX6_add_45 ?_
    refine lv_iload hx hb dX6_add_48 (lv_at hl 4 rfl) ?_
    obtain ⟨g_8, hf⟩ := ht_gd_ob hf
    obtain ⟨vT_voice_9, evT_voice_9, hf⟩ := ht_nm_ob hf
    refine ht_iast (w2 := (wTw K jT aT RT.laws vT_kind_3 vT_need_5 vT_saved_7 vT_voice_9 RT.partner RT.speaks RT.count RT.day RT.heard RT.geese RT.z)) hx hb hK hP hD hS 5 1 rfl rfl g_8 dX6_add_50 evT_voice_9 rfl (fun H locs hP hD hS => ?_)
    refine lv_aload_n hx hb dX6_add_51 rfl (lv_at hl 0 rfl) ?_
    refine lv_aload_n hx hb dX6_add_52 rfl (lv_at hl 0 rfl) ?_
    refine va_get (D := D) (ci := 6) (v := .int RT.count) (C := RX6) (T := TX6) (N := 12) hx hb hts iw6 hown hK hP 0 rfl rfl 7 (by decide) kw1 (fun _ h9 => h9) rfl dX6_add_53 ?_
    obtain ⟨o_10, ho_10, hf⟩ := ht_bn_ob hf
    refine ht_callVv (rest := []) (As := [.int RT.count]) (wc := (wTw K jT aT RT.laws vT_kind_3 vT_need_5 vT_saved_7 vT_voice_9 RT.partner RT.speaks RT.count RT.day RT.heard RT.geese RT.z)) (wr := []) (w1 := (wTw K jT aT RT.laws vT_kind_3 vT_need_5 vT_saved_7 vT_voice_9 o_10.1 o_10.2 RT.count RT.day RT.heard RT.geese RT.z)) (w2 := (wTw K jT aT RT.laws vT_kind_3 vT_need_5 vT_saved_7 vT_voice_9 o_10.1 o_10.2 RT.count RT.day RT.heard RT.geese RT.z)) hF (ctX6_setAlone l D K jT aT (RT.laws, vT_kind_3, vT_need_5, vT_saved_7, vT_voice_9, RT.partner, RT.speaks, RT.count, RT.day, RT.heard, RT.geese, RT.z) RT.count o_10 ho_10 H.size) (cwV 1 hts gX6_add_X6_setAlone rfl rfl rfl hdX6_setAlone ⟨Nat.le_of_ble_eq_true rfl, Nat.le_of_ble_eq_true rfl⟩) hK hP hD hS hA [0, 1, 2, 3, 4, 5, 6, 7] [] rfl rfl (by decide) (by decide) (by decide) [0, 1, 2, 3, 4, 5, 6, 7] rfl (by decide) (va_recv hK hP (ci := 6) (q0 := 0) rfl rfl) rfl hl.1 rfl (Nat.le_of_ble_eq_true rfl) dX6_add_56 ⟨Nat.zero_le _, Nat.zero_le _⟩ (fun H locs hP hD hS => ?_)
    refine lv_aload_n hx hb dX6_add_59 rfl (lv_at hl 0 rfl) ?_
    refine lv_dup hx hb dX6_add_60 rfl ?_
    refine va_get (D := D) (ci := 6) (v := .int RT.count) (C := RX6) (T := TX6) (N := 12) hx hb hts iw6 hown hK hP 0 rfl rfl 7 (by decide) kw1 (fun _ h9 => h9) rfl dX6_add_61 ?_
    refine lv_iconst (v := 1) hx hb dX6_add_64 (by decide) ?_
    refine lv_iadd hx hb dX6_add_65 ?_
    obtain ⟨vT_count_11, evT_count_11, hf⟩ := ht_nm_ob hf
    rw [← evT_count_11]
    refine ht_put (ci := 6) (v := .int vT_count_11) (ty := .int) (C := RX6) (T := TX6) (N := 12) (w2 := (wTw K jT aT RT.laws vT_kind_3 vT_need_5 vT_saved_7 vT_voice_9 o_10.1 o_10.2 vT_count_11 RT.day RT.heard RT.geese RT.z)) hx hb hts iw6 tyX6 tyX6_ok nmX6 hown hK hP hD hS 0 rfl rfl 7 (by decide) kw1 (fun _ h9 => h9) rfl (by decide +kernel) rfl rfl (Nat.le_of_ble_eq_true rfl) dX6_add_66 rfl (fun H locs hP hD hS => ?_)
    have ho := Option.some.inj hf
    subst ho; subst hQ
    exact ht_vret hx hb hr hlk hK hP hD hS dX6_add_69
  · replace hf := ht_f c_1 hf
    have ho := Option.some.inj hf
    subst ho; subst hQ
    exact ht_vret hx hb hr hlk hK hP hD hS dX6_add_9
abbrev rmX6_unjoin : Room := { frames := 1, cells := 0, slots := 0, locals := 21 }
theorem hdX6_unjoin : yX6_unjoin.cls = RX6 ∧ yX6_unjoin.cls ≠ "java/lang/invoke/MethodHandle" ∧ yX6_unjoin.cls ≠ "java/lang/invoke/VarHandle" ∧ (parseMethodDescriptor yX6_unjoin.desc).map (fun d => d.parameters.length) = some 1 := by decide +kernel
def fX6_unjoin (RT : TownV) (p0 : Int32) : Option (AI × AI) := ht_gd (ht_ix p0 8) (ht_nm (RT.partner p0.toNatClampNeg) (fun x2_2 => ht_bn (fX6_setAlone RT p0) (fun o_3 => ht_bn (fX6_has (RT.laws, RT.kind, RT.need, RT.saved, RT.voice, o_3.1, o_3.2, RT.count, RT.day, RT.heard, RT.geese, RT.z) x2_2) (fun o_4 => if o_4 = 0 then (some (o_3.1, o_3.2)) else (ht_bn (fX6_setAlone (RT.laws, RT.kind, RT.need, RT.saved, RT.voice, o_3.1, o_3.2, RT.count, RT.day, RT.heard, RT.geese, RT.z) x2_2) (fun o_6 => some (o_6.1, o_6.2)))))))
set_option maxHeartbeats 1000000 in
set_option maxRecDepth 100000 in
theorem ctX6_unjoin (l : Launch) (D : va_G) (K : Nat → ClassId) (jT : Nat) (aT : Nat → Nat) (RT : TownV) (p0 : Int32) (o : (AI × AI)) (hf : fX6_unjoin RT p0 = some o) (sz : Nat) : Met l yX6_unjoin wsX6_unjoin rmX6_unjoin (ht_Pre D K [.ref jT, .int p0] (wTw K jT aT RT.laws RT.kind RT.need RT.saved RT.voice RT.partner RT.speaks RT.count RT.day RT.heard RT.geese RT.z) sz) (ht_Qv D K (wTw K jT aT RT.laws RT.kind RT.need RT.saved RT.voice o.1 o.2 RT.count RT.day RT.heard RT.geese RT.z) (va_A (wTw K jT aT RT.laws RT.kind RT.need RT.saved RT.voice RT.partner RT.speaks RT.count RT.day RT.heard RT.geese RT.z) sz)) 0 0 (va_A (wTw K jT aT RT.laws RT.kind RT.need RT.saved RT.voice RT.partner RT.speaks RT.count RT.day RT.heard RT.geese RT.z) sz) := by
  refine ht_enter (Qf := ht_Qv D K (wTw K jT aT RT.laws RT.kind RT.need RT.saved RT.voice o.1 o.2 RT.count RT.day RT.heard RT.geese RT.z)) (cc := cX6_unjoin) (maxL := 3) (rt := none) (by decide) rfl (Nat.le_of_ble_eq_true rfl) ?_ sz
  intro p e s m below meth c A Q H locs ls hQ hx hb hr hlk hmn hml hown hts hA hK hP hD hS hl
  have hown : s.vm.findClass RX6 = some m.cls := hown
  have hF : CallFix p m c cX6_unjoin 3 s ([.ref jT, .int p0] : List Value).toArray wsX6_unjoin RX6 := ⟨hx, hb, hml, hown, hts⟩
  have hl : lv_has ls 3 [(0, .ref jT), (1, .int p0)] := hl
  have iw6 : ∀ w ∈ u_ws RX6 TX6 12, w ∈ wsX6_unjoin := by decide +kernel
  have kw1 := hts (.fieldLink RX6 27 "HeldTongues$Town" "partner" "[I") (by decide +kernel)
  delta fX6_unjoin at hf
  refine lv_aload_n hx hb dX6_unjoin_0 rfl (lv_at hl 0 rfl) ?_
  refine va_get (D := D) (ci := 6) (v := .ref (aT 5)) (C := RX6) (T := TX6) (N := 12) hx hb hts iw6 hown hK hP 0 rfl rfl 5 (by decide) kw1 (fun _ h9 => h9) rfl dX6_unjoin_1 ?_
  refine lv_iload_n hx hb dX6_unjoin_4 rfl (lv_at hl 1 rfl) ?_
  obtain ⟨g_1, hf⟩ := ht_gd_ob hf
  refine va_iald hx hb hK hP 6 1 rfl rfl (ht_ix_in g_1) dX6_unjoin_5 ?_
  obtain ⟨x2_2, ex2_2, hf⟩ := ht_nm_ob hf
  rw [← ex2_2]
  refine lv_istore_n (lv' := [(2, .int x2_2), (0, .ref jT), (1, .int p0)]) hx hb dX6_unjoin_6 rfl hl (by decide) rfl (fun ls hl => ?_)
  refine lv_aload_n hx hb dX6_unjoin_7 rfl (lv_at hl 1 rfl) ?_
  refine lv_iload_n hx hb dX6_unjoin_8 rfl (lv_at hl 2 rfl) ?_
  obtain ⟨o_3, ho_3, hf⟩ := ht_bn_ob hf
  refine ht_callVv (rest := []) (As := [.int p0]) (wc := (wTw K jT aT RT.laws RT.kind RT.need RT.saved RT.voice RT.partner RT.speaks RT.count RT.day RT.heard RT.geese RT.z)) (wr := []) (w1 := (wTw K jT aT RT.laws RT.kind RT.need RT.saved RT.voice o_3.1 o_3.2 RT.count RT.day RT.heard RT.geese RT.z)) (w2 := (wTw K jT aT RT.laws RT.kind RT.need RT.saved RT.voice o_3.1 o_3.2 RT.count RT.day RT.heard RT.geese RT.z)) hF (ctX6_setAlone l D K jT aT RT p0 o_3 ho_3 H.size) (cwV 1 hts gX6_unjoin_X6_setAlone rfl rfl rfl hdX6_setAlone ⟨Nat.le_of_ble_eq_true rfl, Nat.le_of_ble_eq_true rfl⟩) hK hP hD hS hA [0, 1, 2, 3, 4, 5, 6, 7] [] rfl rfl (by decide) (by decide) (by decide) [0, 1, 2, 3, 4, 5, 6, 7] rfl (by decide) (va_recv hK hP (ci := 6) (q0 := 0) rfl rfl) rfl hl.1 rfl (Nat.le_of_ble_eq_true rfl) dX6_unjoin_9 ⟨Nat.zero_le _, Nat.zero_le _⟩ (fun H locs hP hD hS => ?_)
  refine lv_aload_n hx hb dX6_unjoin_12 rfl (lv_at hl 1 rfl) ?_
  refine lv_iload_n hx hb dX6_unjoin_13 rfl (lv_at hl 0 rfl) ?_
  obtain ⟨o_4, ho_4, hf⟩ := ht_bn_ob hf
  refine ht_callVi (r := o_4) (rest := []) (As := [.int x2_2]) (wc := (wTw K jT aT RT.laws RT.kind RT.need RT.saved RT.voice o_3.1 o_3.2 RT.count RT.day RT.heard RT.geese RT.z)) (wr := []) (w1 := (wTw K jT aT RT.laws RT.kind RT.need RT.saved RT.voice o_3.1 o_3.2 RT.count RT.day RT.heard RT.geese RT.z)) (w2 := (wTw K jT aT RT.laws RT.kind RT.need RT.saved RT.voice o_3.1 o_3.2 RT.count RT.day RT.heard RT.geese RT.z)) hF (ctX6_has l D K jT aT (RT.laws, RT.kind, RT.need, RT.saved, RT.voice, o_3.1, o_3.2, RT.count, RT.day, RT.heard, RT.geese, RT.z) x2_2 o_4 ho_4 H.size) (cwV 1 hts gX6_unjoin_X6_has rfl rfl rfl hdX6_has ⟨Nat.le_of_ble_eq_true rfl, Nat.le_of_ble_eq_true rfl⟩) hK hP hD hS hA [0, 1, 2, 3, 4, 5, 6, 7] [] rfl rfl (by decide) (by decide) (by decide) [0, 1, 2, 3, 4, 5, 6, 7] rfl (by decide) (va_recv hK hP (ci := 6) (q0 := 0) rfl rfl) rfl hl.1 rfl (Nat.le_of_ble_eq_true rfl) dX6_unjoin_14 ⟨Nat.zero_le _, Nat.zero_le _⟩ (fun H locs hP hD hS => ?_)
  refine lv_if_eq (tgt := 25) hx hb dX6_unjoin_17 (by decide) (fun c_5 => ?_) (fun c_5 => ?_)
  · replace hf := ht_t c_5 hf
    have ho := Option.some.inj hf
    subst ho; subst hQ
    exact ht_vret hx hb hr hlk hK hP hD hS dX6_unjoin_25
  · replace hf := ht_f c_5 hf
    refine lv_aload_n hx hb dX6_unjoin_20 rfl (lv_at hl 1 rfl) ?_
    refine lv_iload_n hx hb dX6_unjoin_21 rfl (lv_at hl 0 rfl) ?_
    obtain ⟨o_6, ho_6, hf⟩ := ht_bn_ob hf
    refine ht_callVv (rest := []) (As := [.int x2_2]) (wc := (wTw K jT aT RT.laws RT.kind RT.need RT.saved RT.voice o_3.1 o_3.2 RT.count RT.day RT.heard RT.geese RT.z)) (wr := []) (w1 := (wTw K jT aT RT.laws RT.kind RT.need RT.saved RT.voice o_6.1 o_6.2 RT.count RT.day RT.heard RT.geese RT.z)) (w2 := (wTw K jT aT RT.laws RT.kind RT.need RT.saved RT.voice o_6.1 o_6.2 RT.count RT.day RT.heard RT.geese RT.z)) hF (ctX6_setAlone l D K jT aT (RT.laws, RT.kind, RT.need, RT.saved, RT.voice, o_3.1, o_3.2, RT.count, RT.day, RT.heard, RT.geese, RT.z) x2_2 o_6 ho_6 H.size) (cwV 1 hts gX6_unjoin_X6_setAlone rfl rfl rfl hdX6_setAlone ⟨Nat.le_of_ble_eq_true rfl, Nat.le_of_ble_eq_true rfl⟩) hK hP hD hS hA [0, 1, 2, 3, 4, 5, 6, 7] [] rfl rfl (by decide) (by decide) (by decide) [0, 1, 2, 3, 4, 5, 6, 7] rfl (by decide) (va_recv hK hP (ci := 6) (q0 := 0) rfl rfl) rfl hl.1 rfl (Nat.le_of_ble_eq_true rfl) dX6_unjoin_22 ⟨Nat.zero_le _, Nat.zero_le _⟩ (fun H locs hP hD hS => ?_)
    have ho := Option.some.inj hf
    subst ho; subst hQ
    exact ht_vret hx hb hr hlk hK hP hD hS dX6_unjoin_25
abbrev rmX6_join : Room := { frames := 2, cells := 0, slots := 0, locals := 43 }
theorem hdX6_join : yX6_join.cls = RX6 ∧ yX6_join.cls ≠ "java/lang/invoke/MethodHandle" ∧ yX6_join.cls ≠ "java/lang/invoke/VarHandle" ∧ (parseMethodDescriptor yX6_join.desc).map (fun d => d.parameters.length) = some 2 := by decide +kernel
def fX6_join (RT : TownV) (p0 : Int32) (p1 : Int32) : Option (AI × AI) := ht_bn (fX6_unjoin RT p0) (fun o_1 => ht_bn (fX6_unjoin (RT.laws, RT.kind, RT.need, RT.saved, RT.voice, o_1.1, o_1.2, RT.count, RT.day, RT.heard, RT.geese, RT.z) p1) (fun o_2 => ht_gd (ht_ix p0 8) (ht_nm (upd o_2.1 p0.toNatClampNeg p1) (fun vT_partner_4 => ht_gd (ht_ix p1 8) (ht_nm (upd vT_partner_4 p1.toNatClampNeg p0) (fun vT_partner_6 => ht_gd (ht_ix p1 8) (ht_nm (upd o_2.2 p1.toNatClampNeg (vp_nar .boolean (0 : Int32))) (fun vT_speaks_8 => some (vT_partner_6, vT_speaks_8)))))))))
set_option maxHeartbeats 1000000 in
set_option maxRecDepth 100000 in
theorem ctX6_join (l : Launch) (D : va_G) (K : Nat → ClassId) (jT : Nat) (aT : Nat → Nat) (RT : TownV) (p0 : Int32) (p1 : Int32) (o : (AI × AI)) (hf : fX6_join RT p0 p1 = some o) (sz : Nat) : Met l yX6_join wsX6_join rmX6_join (ht_Pre D K [.ref jT, .int p0, .int p1] (wTw K jT aT RT.laws RT.kind RT.need RT.saved RT.voice RT.partner RT.speaks RT.count RT.day RT.heard RT.geese RT.z) sz) (ht_Qv D K (wTw K jT aT RT.laws RT.kind RT.need RT.saved RT.voice o.1 o.2 RT.count RT.day RT.heard RT.geese RT.z) (va_A (wTw K jT aT RT.laws RT.kind RT.need RT.saved RT.voice RT.partner RT.speaks RT.count RT.day RT.heard RT.geese RT.z) sz)) 0 0 (va_A (wTw K jT aT RT.laws RT.kind RT.need RT.saved RT.voice RT.partner RT.speaks RT.count RT.day RT.heard RT.geese RT.z) sz) := by
  refine ht_enter (Qf := ht_Qv D K (wTw K jT aT RT.laws RT.kind RT.need RT.saved RT.voice o.1 o.2 RT.count RT.day RT.heard RT.geese RT.z)) (cc := cX6_join) (maxL := 3) (rt := none) (by decide) rfl (Nat.le_of_ble_eq_true rfl) ?_ sz
  intro p e s m below meth c A Q H locs ls hQ hx hb hr hlk hmn hml hown hts hA hK hP hD hS hl
  have hown : s.vm.findClass RX6 = some m.cls := hown
  have hF : CallFix p m c cX6_join 3 s ([.ref jT, .int p0, .int p1] : List Value).toArray wsX6_join RX6 := ⟨hx, hb, hml, hown, hts⟩
  have hl : lv_has ls 3 [(0, .ref jT), (1, .int p0), (2, .int p1)] := hl
  have iw6 : ∀ w ∈ u_ws RX6 TX6 12, w ∈ wsX6_join := by decide +kernel
  have kw1 := hts (.fieldLink RX6 27 "HeldTongues$Town" "partner" "[I") (by decide +kernel)
  have kw2 := hts (.fieldLink RX6 30 "HeldTongues$Town" "speaks" "[Z") (by decide +kernel)
  delta fX6_join at hf
  refine lv_aload_n hx hb dX6_join_0 rfl (lv_at hl 0 rfl) ?_
  refine lv_iload_n hx hb dX6_join_1 rfl (lv_at hl 1 rfl) ?_
  obtain ⟨o_1, ho_1, hf⟩ := ht_bn_ob hf
  refine ht_callVv (rest := []) (As := [.int p0]) (wc := (wTw K jT aT RT.laws RT.kind RT.need RT.saved RT.voice RT.partner RT.speaks RT.count RT.day RT.heard RT.geese RT.z)) (wr := []) (w1 := (wTw K jT aT RT.laws RT.kind RT.need RT.saved RT.voice o_1.1 o_1.2 RT.count RT.day RT.heard RT.geese RT.z)) (w2 := (wTw K jT aT RT.laws RT.kind RT.need RT.saved RT.voice o_1.1 o_1.2 RT.count RT.day RT.heard RT.geese RT.z)) hF (ctX6_unjoin l D K jT aT RT p0 o_1 ho_1 H.size) (cwV 1 hts gX6_join_X6_unjoin rfl rfl rfl hdX6_unjoin ⟨Nat.le_of_ble_eq_true rfl, Nat.le_of_ble_eq_true rfl⟩) hK hP hD hS hA [0, 1, 2, 3, 4, 5, 6, 7] [] rfl rfl (by decide) (by decide) (by decide) [0, 1, 2, 3, 4, 5, 6, 7] rfl (by decide) (va_recv hK hP (ci := 6) (q0 := 0) rfl rfl) rfl hl.1 rfl (Nat.le_of_ble_eq_true rfl) dX6_join_2 ⟨Nat.zero_le _, Nat.zero_le _⟩ (fun H locs hP hD hS => ?_)
  refine lv_aload_n hx hb dX6_join_5 rfl (lv_at hl 0 rfl) ?_
  refine lv_iload_n hx hb dX6_join_6 rfl (lv_at hl 2 rfl) ?_
  obtain ⟨o_2, ho_2, hf⟩ := ht_bn_ob hf
  refine ht_callVv (rest := []) (As := [.int p1]) (wc := (wTw K jT aT RT.laws RT.kind RT.need RT.saved RT.voice o_1.1 o_1.2 RT.count RT.day RT.heard RT.geese RT.z)) (wr := []) (w1 := (wTw K jT aT RT.laws RT.kind RT.need RT.saved RT.voice o_2.1 o_2.2 RT.count RT.day RT.heard RT.geese RT.z)) (w2 := (wTw K jT aT RT.laws RT.kind RT.need RT.saved RT.voice o_2.1 o_2.2 RT.count RT.day RT.heard RT.geese RT.z)) hF (ctX6_unjoin l D K jT aT (RT.laws, RT.kind, RT.need, RT.saved, RT.voice, o_1.1, o_1.2, RT.count, RT.day, RT.heard, RT.geese, RT.z) p1 o_2 ho_2 H.size) (cwV 1 hts gX6_join_X6_unjoin rfl rfl rfl hdX6_unjoin ⟨Nat.le_of_ble_eq_true rfl, Nat.le_of_ble_eq_true rfl⟩) hK hP hD hS hA [0, 1, 2, 3, 4, 5, 6, 7] [] rfl rfl (by decide) (by decide) (by decide) [0, 1, 2, 3, 4, 5, 6, 7] rfl (by decide) (va_recv hK hP (ci := 6) (q0 := 0) rfl rfl) rfl hl.1 rfl (Nat.le_of_ble_eq_true rfl) dX6_join_7 ⟨Nat.zero_le _, Nat.zero_le _⟩ (fun H locs hP hD hS => ?_)
  refine lv_aload_n hx hb dX6_join_10 rfl (lv_at hl 0 rfl) ?_
  refine va_get (D := D) (ci := 6) (v := .ref (aT 5)) (C := RX6) (T := TX6) (N := 12) hx hb hts iw6 hown hK hP 0 rfl rfl 5 (by decide) kw1 (fun _ h9 => h9) rfl dX6_join_11 ?_
  refine lv_iload_n hx hb dX6_join_14 rfl (lv_at hl 1 rfl) ?_
  refine lv_iload_n hx hb dX6_join_15 rfl (lv_at hl 2 rfl) ?_
  obtain ⟨g_3, hf⟩ := ht_gd_ob hf
  obtain ⟨vT_partner_4, evT_partner_4, hf⟩ := ht_nm_ob hf
  refine ht_iast (w2 := (wTw K jT aT RT.laws RT.kind RT.need RT.saved RT.voice vT_partner_4 o_2.2 RT.count RT.day RT.heard RT.geese RT.z)) hx hb hK hP hD hS 6 1 rfl rfl g_3 dX6_join_16 evT_partner_4 rfl (fun H locs hP hD hS => ?_)
  refine lv_aload_n hx hb dX6_join_17 rfl (lv_at hl 0 rfl) ?_
  refine va_get (D := D) (ci := 6) (v := .ref (aT 5)) (C := RX6) (T := TX6) (N := 12) hx hb hts iw6 hown hK hP 0 rfl rfl 5 (by decide) kw1 (fun _ h9 => h9) rfl dX6_join_18 ?_
  refine lv_iload_n hx hb dX6_join_21 rfl (lv_at hl 2 rfl) ?_
  refine lv_iload_n hx hb dX6_join_22 rfl (lv_at hl 1 rfl) ?_
  obtain ⟨g_5, hf⟩ := ht_gd_ob hf
  obtain ⟨vT_partner_6, evT_partner_6, hf⟩ := ht_nm_ob hf
  refine ht_iast (w2 := (wTw K jT aT RT.laws RT.kind RT.need RT.saved RT.voice vT_partner_6 o_2.2 RT.count RT.day RT.heard RT.geese RT.z)) hx hb hK hP hD hS 6 1 rfl rfl g_5 dX6_join_23 evT_partner_6 rfl (fun H locs hP hD hS => ?_)
  refine lv_aload_n hx hb dX6_join_24 rfl (lv_at hl 0 rfl) ?_
  refine va_get (D := D) (ci := 6) (v := .ref (aT 6)) (C := RX6) (T := TX6) (N := 12) hx hb hts iw6 hown hK hP 0 rfl rfl 6 (by decide) kw2 (fun _ h9 => h9) rfl dX6_join_25 ?_
  refine lv_iload_n hx hb dX6_join_28 rfl (lv_at hl 2 rfl) ?_
  refine lv_iconst (v := 0) hx hb dX6_join_29 (by decide) ?_
  obtain ⟨g_7, hf⟩ := ht_gd_ob hf
  obtain ⟨vT_speaks_8, evT_speaks_8, hf⟩ := ht_nm_ob hf
  refine ht_zast (w2 := (wTw K jT aT RT.laws RT.kind RT.need RT.saved RT.voice vT_partner_6 vT_speaks_8 RT.count RT.day RT.heard RT.geese RT.z)) hx hb hK hP hD hS 7 3 rfl rfl g_7 dX6_join_30 evT_speaks_8 rfl (fun H locs hP hD hS => ?_)
  have ho := Option.some.inj hf
  subst ho; subst hQ
  exact ht_vret hx hb hr hlk hK hP hD hS dX6_join_31
abbrev rmX6_saysOf : Room := { frames := 1, cells := 0, slots := 0, locals := 21 }
theorem hdX6_saysOf : yX6_saysOf.cls = RX6 ∧ yX6_saysOf.cls ≠ "java/lang/invoke/MethodHandle" ∧ yX6_saysOf.cls ≠ "java/lang/invoke/VarHandle" ∧ (parseMethodDescriptor yX6_saysOf.desc).map (fun d => d.parameters.length) = some 1 := by decide +kernel
def fX6_saysOf (RT : TownV) (p0 : Int32) : Option Int32 := ht_gd (ht_ix p0 8) (ht_nm (RT.kind p0.toNatClampNeg) (fun sw_2 => if sw_2 = 1 then (ht_gd (ht_ix p0 8) (ht_gd (ht_ix (0 : Int32) 4) (some ((RT.voice p0.toNatClampNeg) + (RT.laws (0 : Int32).toNatClampNeg))))) else if sw_2 = 2 then (ht_gd (ht_ix p0 8) (ht_gd (ht_ix (1 : Int32) 4) (some (if (0 : Int32) < ((RT.voice p0.toNatClampNeg) - (RT.laws (1 : Int32).toNatClampNeg)) then ((RT.voice p0.toNatClampNeg) - (RT.laws (1 : Int32).toNatClampNeg)) else (0 : Int32))))) else if sw_2 = 3 then (ht_gd (ht_ix p0 8) (ht_gd (ht_ix (0 : Int32) 4) (some ((2 : Int32) * ((RT.voice p0.toNatClampNeg) + (RT.laws (0 : Int32).toNatClampNeg)))))) else if sw_2 = 4 then (ht_gd (ht_ix p0 8) (ht_gd (ht_ix (1 : Int32) 4) (ht_gd (ht_ix p0 8) (some ((if (0 : Int32) < ((RT.voice p0.toNatClampNeg) - (RT.laws (1 : Int32).toNatClampNeg)) then ((RT.voice p0.toNatClampNeg) - (RT.laws (1 : Int32).toNatClampNeg)) else (0 : Int32)) + ((RT.saved p0.toNatClampNeg) / (10 : Int32))))))) else if sw_2 = 5 then (if (RT.day - RT.day / (2 : Int32) * (2 : Int32)) = 0 then (ht_gd (ht_ix p0 8) (some (RT.voice p0.toNatClampNeg))) else (some (1 : Int32))) else (ht_gd (ht_ix p0 8) (some (RT.voice p0.toNatClampNeg)))))
set_option maxHeartbeats 1000000 in
set_option maxRecDepth 100000 in
theorem ctX6_saysOf (l : Launch) (D : va_G) (K : Nat → ClassId) (jT : Nat) (aT : Nat → Nat) (RT : TownV) (p0 : Int32) (o : Int32) (hf : fX6_saysOf RT p0 = some o) (sz : Nat) : Met l yX6_saysOf wsX6_saysOf rmX6_saysOf (ht_Pre D K [.ref jT, .int p0] (wTw K jT aT RT.laws RT.kind RT.need RT.saved RT.voice RT.partner RT.speaks RT.count RT.day RT.heard RT.geese RT.z) sz) (ht_Qi D K (wTw K jT aT RT.laws RT.kind RT.need RT.saved RT.voice RT.partner RT.speaks RT.count RT.day RT.heard RT.geese RT.z) o (va_A (wTw K jT aT RT.laws RT.kind RT.need RT.saved RT.voice RT.partner RT.speaks RT.count RT.day RT.heard RT.geese RT.z) sz)) 0 0 (va_A (wTw K jT aT RT.laws RT.kind RT.need RT.saved RT.voice RT.partner RT.speaks RT.count RT.day RT.heard RT.geese RT.z) sz) := by
  refine ht_enter (Qf := ht_Qi D K (wTw K jT aT RT.laws RT.kind RT.need RT.saved RT.voice RT.partner RT.speaks RT.count RT.day RT.heard RT.geese RT.z) o) (cc := cX6_saysOf) (maxL := 2) (rt := (some .int)) (by decide) rfl (Nat.le_of_ble_eq_true rfl) ?_ sz
  intro p e s m below meth c A Q H locs ls hQ hx hb hr hlk hmn hml hown hts hA hK hP hD hS hl
  have hown : s.vm.findClass RX6 = some m.cls := hown
  have hF : CallFix p m c cX6_saysOf 2 s ([.ref jT, .int p0] : List Value).toArray wsX6_saysOf RX6 := ⟨hx, hb, hml, hown, hts⟩
  have hl : lv_has ls 2 [(0, .ref jT), (1, .int p0)] := hl
  have iw6 : ∀ w ∈ u_ws RX6 TX6 12, w ∈ wsX6_saysOf := by decide +kernel
  have kw1 := hts (.fieldLink RX6 15 "HeldTongues$Town" "kind" "[I") (by decide +kernel)
  have kw2 := hts (.fieldLink RX6 24 "HeldTongues$Town" "voice" "[I") (by decide +kernel)
  have kw3 := hts (.fieldLink RX6 9 "HeldTongues$Town" "laws" "[I") (by decide +kernel)
  have kw4 := hts (.methodLink RX6 68 Lib.Math.max.name) (by decide +kernel)
  have kw5 := hts (.static Lib.Math.max.name) (by decide +kernel)
  have kw6 := hts (.initialized "java/lang/Math") (by decide +kernel)
  have kw7 := hts (.code Lib.Math.max.name Lib.Math.max.code 2 (some .int)) (by decide +kernel)
  have kw8 := hts (.fieldLink RX6 21 "HeldTongues$Town" "saved" "[I") (by decide +kernel)
  have kw9 := hts (.fieldLink RX6 44 "HeldTongues$Town" "day" "I") (by decide +kernel)
  delta fX6_saysOf at hf
  refine lv_aload_n hx hb dX6_saysOf_0 rfl (lv_at hl 0 rfl) ?_
  refine va_get (D := D) (ci := 6) (v := .ref (aT 1)) (C := RX6) (T := TX6) (N := 12) hx hb hts iw6 hown hK hP 0 rfl rfl 1 (by decide) kw1 (fun _ h9 => h9) rfl dX6_saysOf_1 ?_
  refine lv_iload_n hx hb dX6_saysOf_4 rfl (lv_at hl 1 rfl) ?_
  obtain ⟨g_1, hf⟩ := ht_gd_ob hf
  refine va_iald hx hb hK hP 2 1 rfl rfl (ht_ix_in g_1) dX6_saysOf_5 ?_
  obtain ⟨sw_2, esw_2, hf⟩ := ht_nm_ob hf
  rw [← esw_2]
  by_cases c_3 : sw_2 = 1
  · replace hf := ht_t c_3 hf
    refine lv_tableIn (tgt := 40) hx hb dX6_saysOf_6 (by rw [c_3]; decide) (by rw [c_3]; decide) (by rw [c_3]; rfl) (by decide) ?_
    refine lv_aload_n hx hb dX6_saysOf_40 rfl (lv_at hl 0 rfl) ?_
    refine va_get (D := D) (ci := 6) (v := .ref (aT 4)) (C := RX6) (T := TX6) (N := 12) hx hb hts iw6 hown hK hP 0 rfl rfl 4 (by decide) kw2 (fun _ h9 => h9) rfl dX6_saysOf_41 ?_
    refine lv_iload_n hx hb dX6_saysOf_44 rfl (lv_at hl 1 rfl) ?_
    obtain ⟨g_4, hf⟩ := ht_gd_ob hf
    refine va_iald hx hb hK hP 5 1 rfl rfl (ht_ix_in g_4) dX6_saysOf_45 ?_
    refine lv_aload_n hx hb dX6_saysOf_46 rfl (lv_at hl 0 rfl) ?_
    refine va_get (D := D) (ci := 6) (v := .ref (aT 0)) (C := RX6) (T := TX6) (N := 12) hx hb hts iw6 hown hK hP 0 rfl rfl 0 (by decide) kw3 (fun _ h9 => h9) rfl dX6_saysOf_47 ?_
    refine lv_iconst (v := 0) hx hb dX6_saysOf_50 (by decide) ?_
    obtain ⟨g_5, hf⟩ := ht_gd_ob hf
    refine va_iald hx hb hK hP 1 1 rfl rfl (ht_ix_in g_5) dX6_saysOf_51 ?_
    refine lv_iadd hx hb dX6_saysOf_52 ?_
    have ho := Option.some.inj hf
    subst ho; subst hQ
    exact ht_iret hx hb hr hlk rfl hK hP hD hS dX6_saysOf_53
  replace hf := ht_f c_3 hf
  by_cases c_6 : sw_2 = 2
  · replace hf := ht_t c_6 hf
    refine lv_tableIn (tgt := 70) hx hb dX6_saysOf_6 (by rw [c_6]; decide) (by rw [c_6]; decide) (by rw [c_6]; rfl) (by decide) ?_
    refine lv_iconst (v := 0) hx hb dX6_saysOf_70 (by decide) ?_
    refine lv_aload_n hx hb dX6_saysOf_71 rfl (lv_at hl 0 rfl) ?_
    refine va_get (D := D) (ci := 6) (v := .ref (aT 4)) (C := RX6) (T := TX6) (N := 12) hx hb hts iw6 hown hK hP 0 rfl rfl 4 (by decide) kw2 (fun _ h9 => h9) rfl dX6_saysOf_72 ?_
    refine lv_iload_n hx hb dX6_saysOf_75 rfl (lv_at hl 1 rfl) ?_
    obtain ⟨g_7, hf⟩ := ht_gd_ob hf
    refine va_iald hx hb hK hP 5 1 rfl rfl (ht_ix_in g_7) dX6_saysOf_76 ?_
    refine lv_aload_n hx hb dX6_saysOf_77 rfl (lv_at hl 0 rfl) ?_
    refine va_get (D := D) (ci := 6) (v := .ref (aT 0)) (C := RX6) (T := TX6) (N := 12) hx hb hts iw6 hown hK hP 0 rfl rfl 0 (by decide) kw3 (fun _ h9 => h9) rfl dX6_saysOf_78 ?_
    refine lv_iconst (v := 1) hx hb dX6_saysOf_81 (by decide) ?_
    obtain ⟨g_8, hf⟩ := ht_gd_ob hf
    refine va_iald hx hb hK hP 1 1 rfl rfl (ht_ix_in g_8) dX6_saysOf_82 ?_
    refine lv_isub hx hb dX6_saysOf_83 ?_
    refine va_mmax hx hb (by rw [hml]; exact hl.1.symm) hown kw4 kw5 kw6 kw7 (Nat.le_of_ble_eq_true rfl) (Nat.le_of_ble_eq_true rfl) (Nat.zero_le _) (Nat.zero_le _) dX6_saysOf_84 ?_
    have ho := Option.some.inj hf
    subst ho; subst hQ
    exact ht_iret hx hb hr hlk rfl hK hP hD hS dX6_saysOf_87
  replace hf := ht_f c_6 hf
  by_cases c_9 : sw_2 = 3
  · replace hf := ht_t c_9 hf
    refine lv_tableIn (tgt := 54) hx hb dX6_saysOf_6 (by rw [c_9]; decide) (by rw [c_9]; decide) (by rw [c_9]; rfl) (by decide) ?_
    refine lv_iconst (v := 2) hx hb dX6_saysOf_54 (by decide) ?_
    refine lv_aload_n hx hb dX6_saysOf_55 rfl (lv_at hl 0 rfl) ?_
    refine va_get (D := D) (ci := 6) (v := .ref (aT 4)) (C := RX6) (T := TX6) (N := 12) hx hb hts iw6 hown hK hP 0 rfl rfl 4 (by decide) kw2 (fun _ h9 => h9) rfl dX6_saysOf_56 ?_
    refine lv_iload_n hx hb dX6_saysOf_59 rfl (lv_at hl 1 rfl) ?_
    obtain ⟨g_10, hf⟩ := ht_gd_ob hf
    refine va_iald hx hb hK hP 5 1 rfl rfl (ht_ix_in g_10) dX6_saysOf_60 ?_
    refine lv_aload_n hx hb dX6_saysOf_61 rfl (lv_at hl 0 rfl) ?_
    refine va_get (D := D) (ci := 6) (v := .ref (aT 0)) (C := RX6) (T := TX6) (N := 12) hx hb hts iw6 hown hK hP 0 rfl rfl 0 (by decide) kw3 (fun _ h9 => h9) rfl dX6_saysOf_62 ?_
    refine lv_iconst (v := 0) hx hb dX6_saysOf_65 (by decide) ?_
    obtain ⟨g_11, hf⟩ := ht_gd_ob hf
    refine va_iald hx hb hK hP 1 1 rfl rfl (ht_ix_in g_11) dX6_saysOf_66 ?_
    refine lv_iadd hx hb dX6_saysOf_67 ?_
    refine lv_imul hx hb dX6_saysOf_68 ?_
    have ho := Option.some.inj hf
    subst ho; subst hQ
    exact ht_iret hx hb hr hlk rfl hK hP hD hS dX6_saysOf_69
  replace hf := ht_f c_9 hf
  by_cases c_12 : sw_2 = 4
  · replace hf := ht_t c_12 hf
    refine lv_tableIn (tgt := 88) hx hb dX6_saysOf_6 (by rw [c_12]; decide) (by rw [c_12]; decide) (by rw [c_12]; rfl) (by decide) ?_
    refine lv_iconst (v := 0) hx hb dX6_saysOf_88 (by decide) ?_
    refine lv_aload_n hx hb dX6_saysOf_89 rfl (lv_at hl 0 rfl) ?_
    refine va_get (D := D) (ci := 6) (v := .ref (aT 4)) (C := RX6) (T := TX6) (N := 12) hx hb hts iw6 hown hK hP 0 rfl rfl 4 (by decide) kw2 (fun _ h9 => h9) rfl dX6_saysOf_90 ?_
    refine lv_iload_n hx hb dX6_saysOf_93 rfl (lv_at hl 1 rfl) ?_
    obtain ⟨g_13, hf⟩ := ht_gd_ob hf
    refine va_iald hx hb hK hP 5 1 rfl rfl (ht_ix_in g_13) dX6_saysOf_94 ?_
    refine lv_aload_n hx hb dX6_saysOf_95 rfl (lv_at hl 0 rfl) ?_
    refine va_get (D := D) (ci := 6) (v := .ref (aT 0)) (C := RX6) (T := TX6) (N := 12) hx hb hts iw6 hown hK hP 0 rfl rfl 0 (by decide) kw3 (fun _ h9 => h9) rfl dX6_saysOf_96 ?_
    refine lv_iconst (v := 1) hx hb dX6_saysOf_99 (by decide) ?_
    obtain ⟨g_14, hf⟩ := ht_gd_ob hf
    refine va_iald hx hb hK hP 1 1 rfl rfl (ht_ix_in g_14) dX6_saysOf_100 ?_
    refine lv_isub hx hb dX6_saysOf_101 ?_
    refine va_mmax hx hb (by rw [hml]; exact hl.1.symm) hown kw4 kw5 kw6 kw7 (Nat.le_of_ble_eq_true rfl) (Nat.le_of_ble_eq_true rfl) (Nat.zero_le _) (Nat.zero_le _) dX6_saysOf_102 ?_
    refine lv_aload_n hx hb dX6_saysOf_105 rfl (lv_at hl 0 rfl) ?_
    refine va_get (D := D) (ci := 6) (v := .ref (aT 3)) (C := RX6) (T := TX6) (N := 12) hx hb hts iw6 hown hK hP 0 rfl rfl 3 (by decide) kw8 (fun _ h9 => h9) rfl dX6_saysOf_106 ?_
    refine lv_iload_n hx hb dX6_saysOf_109 rfl (lv_at hl 1 rfl) ?_
    obtain ⟨g_15, hf⟩ := ht_gd_ob hf
    refine va_iald hx hb hK hP 4 1 rfl rfl (ht_ix_in g_15) dX6_saysOf_110 ?_
    refine lv_bipush (v := 10) hx hb dX6_saysOf_111 (by decide) ?_
    refine lv_idiv hx hb dX6_saysOf_113 (by decide) ?_
    refine lv_iadd hx hb dX6_saysOf_114 ?_
    have ho := Option.some.inj hf
    subst ho; subst hQ
    exact ht_iret hx hb hr hlk rfl hK hP hD hS dX6_saysOf_115
  replace hf := ht_f c_12 hf
  by_cases c_16 : sw_2 = 5
  · replace hf := ht_t c_16 hf
    refine lv_tableIn (tgt := 116) hx hb dX6_saysOf_6 (by rw [c_16]; decide) (by rw [c_16]; decide) (by rw [c_16]; rfl) (by decide) ?_
    refine lv_aload_n hx hb dX6_saysOf_116 rfl (lv_at hl 0 rfl) ?_
    refine va_get (D := D) (ci := 6) (v := .int RT.day) (C := RX6) (T := TX6) (N := 12) hx hb hts iw6 hown hK hP 0 rfl rfl 8 (by decide) kw9 (fun _ h9 => h9) rfl dX6_saysOf_117 ?_
    refine lv_iconst (v := 2) hx hb dX6_saysOf_120 (by decide) ?_
    refine lv_irem hx hb dX6_saysOf_121 (by decide) ?_
    refine lv_if_ne (tgt := 134) hx hb dX6_saysOf_122 (by decide) (fun c_17 => ?_) (fun c_17 => ?_)
    · replace hf := ht_f c_17 hf
      refine lv_iconst (v := 1) hx hb dX6_saysOf_134 (by decide) ?_
      have ho := Option.some.inj hf
      subst ho; subst hQ
      exact ht_iret hx hb hr hlk rfl hK hP hD hS dX6_saysOf_135
    · replace hf := ht_t c_17 hf
      refine lv_aload_n hx hb dX6_saysOf_125 rfl (lv_at hl 0 rfl) ?_
      refine va_get (D := D) (ci := 6) (v := .ref (aT 4)) (C := RX6) (T := TX6) (N := 12) hx hb hts iw6 hown hK hP 0 rfl rfl 4 (by decide) kw2 (fun _ h9 => h9) rfl dX6_saysOf_126 ?_
      refine lv_iload_n hx hb dX6_saysOf_129 rfl (lv_at hl 1 rfl) ?_
      obtain ⟨g_18, hf⟩ := ht_gd_ob hf
      refine va_iald hx hb hK hP 5 1 rfl rfl (ht_ix_in g_18) dX6_saysOf_130 ?_
      refine lv_goto (tgt := 135) hx hb dX6_saysOf_131 (by decide) ?_
      have ho := Option.some.inj hf
      subst ho; subst hQ
      exact ht_iret hx hb hr hlk rfl hK hP hD hS dX6_saysOf_135
  replace hf := ht_f c_16 hf
  refine lv_tableOut (tgt := 136) hx hb dX6_saysOf_6 (by have := lv_neT c_3 (a := 1) rfl; have := lv_neT c_6 (a := 2) rfl; have := lv_neT c_9 (a := 3) rfl; have := lv_neT c_12 (a := 4) rfl; have := lv_neT c_16 (a := 5) rfl; omega) (by decide) ?_
  refine lv_aload_n hx hb dX6_saysOf_136 rfl (lv_at hl 0 rfl) ?_
  refine va_get (D := D) (ci := 6) (v := .ref (aT 4)) (C := RX6) (T := TX6) (N := 12) hx hb hts iw6 hown hK hP 0 rfl rfl 4 (by decide) kw2 (fun _ h9 => h9) rfl dX6_saysOf_137 ?_
  refine lv_iload_n hx hb dX6_saysOf_140 rfl (lv_at hl 1 rfl) ?_
  obtain ⟨g_19, hf⟩ := ht_gd_ob hf
  refine va_iald hx hb hK hP 5 1 rfl rfl (ht_ix_in g_19) dX6_saysOf_141 ?_
  have ho := Option.some.inj hf
  subst ho; subst hQ
  exact ht_iret hx hb hr hlk rfl hK hP hD hS dX6_saysOf_142
abbrev rmX6_growsOf : Room := { frames := 0, cells := 0, slots := 0, locals := 0 }
theorem hdX6_growsOf : yX6_growsOf.cls = RX6 ∧ yX6_growsOf.cls ≠ "java/lang/invoke/MethodHandle" ∧ yX6_growsOf.cls ≠ "java/lang/invoke/VarHandle" ∧ (parseMethodDescriptor yX6_growsOf.desc).map (fun d => d.parameters.length) = some 1 := by decide +kernel
def fX6_growsOf (RT : TownV) (p0 : Int32) : Option Int32 := ht_gd (ht_ix (2 : Int32) 4) (ht_nm (RT.laws (2 : Int32).toNatClampNeg) (fun x2_2 => ht_gd (ht_ix p0 8) (ht_nm (RT.kind p0.toNatClampNeg) (fun sw_4 => if sw_4 = 1 then (some (x2_2 + (1 : Int32))) else if sw_4 = 2 then (some (x2_2 / (2 : Int32))) else if sw_4 = 3 then (ht_gd (ht_ix (0 : Int32) 4) (some ((x2_2 + (1 : Int32)) + (RT.laws (0 : Int32).toNatClampNeg)))) else if sw_4 = 4 then (some ((x2_2 / (2 : Int32)) - (2 : Int32))) else if sw_4 = 5 then (ht_gd (ht_ix p0 8) (some (x2_2 + (RT.voice p0.toNatClampNeg)))) else (some x2_2)))))
set_option maxHeartbeats 1000000 in
set_option maxRecDepth 100000 in
theorem ctX6_growsOf (l : Launch) (D : va_G) (K : Nat → ClassId) (jT : Nat) (aT : Nat → Nat) (RT : TownV) (p0 : Int32) (o : Int32) (hf : fX6_growsOf RT p0 = some o) (sz : Nat) : Met l yX6_growsOf wsX6_growsOf rmX6_growsOf (ht_Pre D K [.ref jT, .int p0] (wTw K jT aT RT.laws RT.kind RT.need RT.saved RT.voice RT.partner RT.speaks RT.count RT.day RT.heard RT.geese RT.z) sz) (ht_Qi D K (wTw K jT aT RT.laws RT.kind RT.need RT.saved RT.voice RT.partner RT.speaks RT.count RT.day RT.heard RT.geese RT.z) o (va_A (wTw K jT aT RT.laws RT.kind RT.need RT.saved RT.voice RT.partner RT.speaks RT.count RT.day RT.heard RT.geese RT.z) sz)) 0 0 (va_A (wTw K jT aT RT.laws RT.kind RT.need RT.saved RT.voice RT.partner RT.speaks RT.count RT.day RT.heard RT.geese RT.z) sz) := by
  refine ht_enter (Qf := ht_Qi D K (wTw K jT aT RT.laws RT.kind RT.need RT.saved RT.voice RT.partner RT.speaks RT.count RT.day RT.heard RT.geese RT.z) o) (cc := cX6_growsOf) (maxL := 3) (rt := (some .int)) (by decide) rfl (Nat.le_of_ble_eq_true rfl) ?_ sz
  intro p e s m below meth c A Q H locs ls hQ hx hb hr hlk hmn hml hown hts hA hK hP hD hS hl
  have hown : s.vm.findClass RX6 = some m.cls := hown
  have hF : CallFix p m c cX6_growsOf 3 s ([.ref jT, .int p0] : List Value).toArray wsX6_growsOf RX6 := ⟨hx, hb, hml, hown, hts⟩
  have hl : lv_has ls 3 [(0, .ref jT), (1, .int p0)] := hl
  have iw6 : ∀ w ∈ u_ws RX6 TX6 12, w ∈ wsX6_growsOf := by decide +kernel
  have kw1 := hts (.fieldLink RX6 9 "HeldTongues$Town" "laws" "[I") (by decide +kernel)
  have kw2 := hts (.fieldLink RX6 15 "HeldTongues$Town" "kind" "[I") (by decide +kernel)
  have kw3 := hts (.fieldLink RX6 24 "HeldTongues$Town" "voice" "[I") (by decide +kernel)
  delta fX6_growsOf at hf
  refine lv_aload_n hx hb dX6_growsOf_0 rfl (lv_at hl 0 rfl) ?_
  refine va_get (D := D) (ci := 6) (v := .ref (aT 0)) (C := RX6) (T := TX6) (N := 12) hx hb hts iw6 hown hK hP 0 rfl rfl 0 (by decide) kw1 (fun _ h9 => h9) rfl dX6_growsOf_1 ?_
  refine lv_iconst (v := 2) hx hb dX6_growsOf_4 (by decide) ?_
  obtain ⟨g_1, hf⟩ := ht_gd_ob hf
  refine va_iald hx hb hK hP 1 1 rfl rfl (ht_ix_in g_1) dX6_growsOf_5 ?_
  obtain ⟨x2_2, ex2_2, hf⟩ := ht_nm_ob hf
  rw [← ex2_2]
  refine lv_istore_n (lv' := [(2, .int x2_2), (0, .ref jT), (1, .int p0)]) hx hb dX6_growsOf_6 rfl hl (by decide) rfl (fun ls hl => ?_)
  refine lv_aload_n hx hb dX6_growsOf_7 rfl (lv_at hl 1 rfl) ?_
  refine va_get (D := D) (ci := 6) (v := .ref (aT 1)) (C := RX6) (T := TX6) (N := 12) hx hb hts iw6 hown hK hP 0 rfl rfl 1 (by decide) kw2 (fun _ h9 => h9) rfl dX6_growsOf_8 ?_
  refine lv_iload_n hx hb dX6_growsOf_11 rfl (lv_at hl 2 rfl) ?_
  obtain ⟨g_3, hf⟩ := ht_gd_ob hf
  refine va_iald hx hb hK hP 2 1 rfl rfl (ht_ix_in g_3) dX6_growsOf_12 ?_
  obtain ⟨sw_4, esw_4, hf⟩ := ht_nm_ob hf
  rw [← esw_4]
  by_cases c_5 : sw_4 = 1
  · replace hf := ht_t c_5 hf
    refine lv_tableIn (tgt := 48) hx hb dX6_growsOf_13 (by rw [c_5]; decide) (by rw [c_5]; decide) (by rw [c_5]; rfl) (by decide) ?_
    refine lv_iload_n hx hb dX6_growsOf_48 rfl (lv_at hl 0 rfl) ?_
    refine lv_iconst (v := 1) hx hb dX6_growsOf_49 (by decide) ?_
    refine lv_iadd hx hb dX6_growsOf_50 ?_
    have ho := Option.some.inj hf
    subst ho; subst hQ
    exact ht_iret hx hb hr hlk rfl hK hP hD hS dX6_growsOf_51
  replace hf := ht_f c_5 hf
  by_cases c_6 : sw_4 = 2
  · replace hf := ht_t c_6 hf
    refine lv_tableIn (tgt := 63) hx hb dX6_growsOf_13 (by rw [c_6]; decide) (by rw [c_6]; decide) (by rw [c_6]; rfl) (by decide) ?_
    refine lv_iload_n hx hb dX6_growsOf_63 rfl (lv_at hl 0 rfl) ?_
    refine lv_iconst (v := 2) hx hb dX6_growsOf_64 (by decide) ?_
    refine lv_idiv hx hb dX6_growsOf_65 (by decide) ?_
    have ho := Option.some.inj hf
    subst ho; subst hQ
    exact ht_iret hx hb hr hlk rfl hK hP hD hS dX6_growsOf_66
  replace hf := ht_f c_6 hf
  by_cases c_7 : sw_4 = 3
  · replace hf := ht_t c_7 hf
    refine lv_tableIn (tgt := 52) hx hb dX6_growsOf_13 (by rw [c_7]; decide) (by rw [c_7]; decide) (by rw [c_7]; rfl) (by decide) ?_
    refine lv_iload_n hx hb dX6_growsOf_52 rfl (lv_at hl 0 rfl) ?_
    refine lv_iconst (v := 1) hx hb dX6_growsOf_53 (by decide) ?_
    refine lv_iadd hx hb dX6_growsOf_54 ?_
    refine lv_aload_n hx hb dX6_growsOf_55 rfl (lv_at hl 1 rfl) ?_
    refine va_get (D := D) (ci := 6) (v := .ref (aT 0)) (C := RX6) (T := TX6) (N := 12) hx hb hts iw6 hown hK hP 0 rfl rfl 0 (by decide) kw1 (fun _ h9 => h9) rfl dX6_growsOf_56 ?_
    refine lv_iconst (v := 0) hx hb dX6_growsOf_59 (by decide) ?_
    obtain ⟨g_8, hf⟩ := ht_gd_ob hf
    refine va_iald hx hb hK hP 1 1 rfl rfl (ht_ix_in g_8) dX6_growsOf_60 ?_
    refine lv_iadd hx hb dX6_growsOf_61 ?_
    have ho := Option.some.inj hf
    subst ho; subst hQ
    exact ht_iret hx hb hr hlk rfl hK hP hD hS dX6_growsOf_62
  replace hf := ht_f c_7 hf
  by_cases c_9 : sw_4 = 4
  · replace hf := ht_t c_9 hf
    refine lv_tableIn (tgt := 67) hx hb dX6_growsOf_13 (by rw [c_9]; decide) (by rw [c_9]; decide) (by rw [c_9]; rfl) (by decide) ?_
    refine lv_iload_n hx hb dX6_growsOf_67 rfl (lv_at hl 0 rfl) ?_
    refine lv_iconst (v := 2) hx hb dX6_growsOf_68 (by decide) ?_
    refine lv_idiv hx hb dX6_growsOf_69 (by decide) ?_
    refine lv_iconst (v := 2) hx hb dX6_growsOf_70 (by decide) ?_
    refine lv_isub hx hb dX6_growsOf_71 ?_
    have ho := Option.some.inj hf
    subst ho; subst hQ
    exact ht_iret hx hb hr hlk rfl hK hP hD hS dX6_growsOf_72
  replace hf := ht_f c_9 hf
  by_cases c_10 : sw_4 = 5
  · replace hf := ht_t c_10 hf
    refine lv_tableIn (tgt := 73) hx hb dX6_growsOf_13 (by rw [c_10]; decide) (by rw [c_10]; decide) (by rw [c_10]; rfl) (by decide) ?_
    refine lv_iload_n hx hb dX6_growsOf_73 rfl (lv_at hl 0 rfl) ?_
    refine lv_aload_n hx hb dX6_growsOf_74 rfl (lv_at hl 1 rfl) ?_
    refine va_get (D := D) (ci := 6) (v := .ref (aT 4)) (C := RX6) (T := TX6) (N := 12) hx hb hts iw6 hown hK hP 0 rfl rfl 4 (by decide) kw3 (fun _ h9 => h9) rfl dX6_growsOf_75 ?_
    refine lv_iload_n hx hb dX6_growsOf_78 rfl (lv_at hl 2 rfl) ?_
    obtain ⟨g_11, hf⟩ := ht_gd_ob hf
    refine va_iald hx hb hK hP 5 1 rfl rfl (ht_ix_in g_11) dX6_growsOf_79 ?_
    refine lv_iadd hx hb dX6_growsOf_80 ?_
    have ho := Option.some.inj hf
    subst ho; subst hQ
    exact ht_iret hx hb hr hlk rfl hK hP hD hS dX6_growsOf_81
  replace hf := ht_f c_10 hf
  refine lv_tableOut (tgt := 82) hx hb dX6_growsOf_13 (by have := lv_neT c_5 (a := 1) rfl; have := lv_neT c_6 (a := 2) rfl; have := lv_neT c_7 (a := 3) rfl; have := lv_neT c_9 (a := 4) rfl; have := lv_neT c_10 (a := 5) rfl; omega) (by decide) ?_
  refine lv_iload_n hx hb dX6_growsOf_82 rfl (lv_at hl 0 rfl) ?_
  have ho := Option.some.inj hf
  subst ho; subst hQ
  exact ht_iret hx hb hr hlk rfl hK hP hD hS dX6_growsOf_83
abbrev rmX6_savesOf : Room := { frames := 0, cells := 0, slots := 0, locals := 0 }
theorem hdX6_savesOf : yX6_savesOf.cls = RX6 ∧ yX6_savesOf.cls ≠ "java/lang/invoke/MethodHandle" ∧ yX6_savesOf.cls ≠ "java/lang/invoke/VarHandle" ∧ (parseMethodDescriptor yX6_savesOf.desc).map (fun d => d.parameters.length) = some 1 := by decide +kernel
def fX6_savesOf (RT : TownV) (p0 : Int32) : Option Int32 := ht_gd (ht_ix p0 8) (ht_nm (RT.kind p0.toNatClampNeg) (fun sw_2 => if sw_2 = 1 then (some (0 : Int32)) else if sw_2 = 2 then (ht_gd (ht_ix (1 : Int32) 4) (some ((1 : Int32) + (RT.laws (1 : Int32).toNatClampNeg)))) else if sw_2 = 3 then (some (0 : Int32)) else if sw_2 = 4 then (ht_gd (ht_ix (1 : Int32) 4) (some ((3 : Int32) * ((1 : Int32) + (RT.laws (1 : Int32).toNatClampNeg))))) else if sw_2 = 5 then (if (RT.day - RT.day / (7 : Int32) * (7 : Int32)) = 0 then (some (1 : Int32)) else (some (0 : Int32))) else (some (1 : Int32))))
set_option maxHeartbeats 1000000 in
set_option maxRecDepth 100000 in
theorem ctX6_savesOf (l : Launch) (D : va_G) (K : Nat → ClassId) (jT : Nat) (aT : Nat → Nat) (RT : TownV) (p0 : Int32) (o : Int32) (hf : fX6_savesOf RT p0 = some o) (sz : Nat) : Met l yX6_savesOf wsX6_savesOf rmX6_savesOf (ht_Pre D K [.ref jT, .int p0] (wTw K jT aT RT.laws RT.kind RT.need RT.saved RT.voice RT.partner RT.speaks RT.count RT.day RT.heard RT.geese RT.z) sz) (ht_Qi D K (wTw K jT aT RT.laws RT.kind RT.need RT.saved RT.voice RT.partner RT.speaks RT.count RT.day RT.heard RT.geese RT.z) o (va_A (wTw K jT aT RT.laws RT.kind RT.need RT.saved RT.voice RT.partner RT.speaks RT.count RT.day RT.heard RT.geese RT.z) sz)) 0 0 (va_A (wTw K jT aT RT.laws RT.kind RT.need RT.saved RT.voice RT.partner RT.speaks RT.count RT.day RT.heard RT.geese RT.z) sz) := by
  refine ht_enter (Qf := ht_Qi D K (wTw K jT aT RT.laws RT.kind RT.need RT.saved RT.voice RT.partner RT.speaks RT.count RT.day RT.heard RT.geese RT.z) o) (cc := cX6_savesOf) (maxL := 2) (rt := (some .int)) (by decide) rfl (Nat.le_of_ble_eq_true rfl) ?_ sz
  intro p e s m below meth c A Q H locs ls hQ hx hb hr hlk hmn hml hown hts hA hK hP hD hS hl
  have hown : s.vm.findClass RX6 = some m.cls := hown
  have hF : CallFix p m c cX6_savesOf 2 s ([.ref jT, .int p0] : List Value).toArray wsX6_savesOf RX6 := ⟨hx, hb, hml, hown, hts⟩
  have hl : lv_has ls 2 [(0, .ref jT), (1, .int p0)] := hl
  have iw6 : ∀ w ∈ u_ws RX6 TX6 12, w ∈ wsX6_savesOf := by decide +kernel
  have kw1 := hts (.fieldLink RX6 15 "HeldTongues$Town" "kind" "[I") (by decide +kernel)
  have kw2 := hts (.fieldLink RX6 9 "HeldTongues$Town" "laws" "[I") (by decide +kernel)
  have kw3 := hts (.fieldLink RX6 44 "HeldTongues$Town" "day" "I") (by decide +kernel)
  delta fX6_savesOf at hf
  refine lv_aload_n hx hb dX6_savesOf_0 rfl (lv_at hl 0 rfl) ?_
  refine va_get (D := D) (ci := 6) (v := .ref (aT 1)) (C := RX6) (T := TX6) (N := 12) hx hb hts iw6 hown hK hP 0 rfl rfl 1 (by decide) kw1 (fun _ h9 => h9) rfl dX6_savesOf_1 ?_
  refine lv_iload_n hx hb dX6_savesOf_4 rfl (lv_at hl 1 rfl) ?_
  obtain ⟨g_1, hf⟩ := ht_gd_ob hf
  refine va_iald hx hb hK hP 2 1 rfl rfl (ht_ix_in g_1) dX6_savesOf_5 ?_
  obtain ⟨sw_2, esw_2, hf⟩ := ht_nm_ob hf
  rw [← esw_2]
  by_cases c_3 : sw_2 = 1
  · replace hf := ht_t c_3 hf
    refine lv_tableIn (tgt := 40) hx hb dX6_savesOf_6 (by rw [c_3]; decide) (by rw [c_3]; decide) (by rw [c_3]; rfl) (by decide) ?_
    refine lv_iconst (v := 0) hx hb dX6_savesOf_40 (by decide) ?_
    have ho := Option.some.inj hf
    subst ho; subst hQ
    exact ht_iret hx hb hr hlk rfl hK hP hD hS dX6_savesOf_41
  replace hf := ht_f c_3 hf
  by_cases c_4 : sw_2 = 2
  · replace hf := ht_t c_4 hf
    refine lv_tableIn (tgt := 44) hx hb dX6_savesOf_6 (by rw [c_4]; decide) (by rw [c_4]; decide) (by rw [c_4]; rfl) (by decide) ?_
    refine lv_iconst (v := 1) hx hb dX6_savesOf_44 (by decide) ?_
    refine lv_aload_n hx hb dX6_savesOf_45 rfl (lv_at hl 0 rfl) ?_
    refine va_get (D := D) (ci := 6) (v := .ref (aT 0)) (C := RX6) (T := TX6) (N := 12) hx hb hts iw6 hown hK hP 0 rfl rfl 0 (by decide) kw2 (fun _ h9 => h9) rfl dX6_savesOf_46 ?_
    refine lv_iconst (v := 1) hx hb dX6_savesOf_49 (by decide) ?_
    obtain ⟨g_5, hf⟩ := ht_gd_ob hf
    refine va_iald hx hb hK hP 1 1 rfl rfl (ht_ix_in g_5) dX6_savesOf_50 ?_
    refine lv_iadd hx hb dX6_savesOf_51 ?_
    have ho := Option.some.inj hf
    subst ho; subst hQ
    exact ht_iret hx hb hr hlk rfl hK hP hD hS dX6_savesOf_52
  replace hf := ht_f c_4 hf
  by_cases c_6 : sw_2 = 3
  · replace hf := ht_t c_6 hf
    refine lv_tableIn (tgt := 42) hx hb dX6_savesOf_6 (by rw [c_6]; decide) (by rw [c_6]; decide) (by rw [c_6]; rfl) (by decide) ?_
    refine lv_iconst (v := 0) hx hb dX6_savesOf_42 (by decide) ?_
    have ho := Option.some.inj hf
    subst ho; subst hQ
    exact ht_iret hx hb hr hlk rfl hK hP hD hS dX6_savesOf_43
  replace hf := ht_f c_6 hf
  by_cases c_7 : sw_2 = 4
  · replace hf := ht_t c_7 hf
    refine lv_tableIn (tgt := 53) hx hb dX6_savesOf_6 (by rw [c_7]; decide) (by rw [c_7]; decide) (by rw [c_7]; rfl) (by decide) ?_
    refine lv_iconst (v := 3) hx hb dX6_savesOf_53 (by decide) ?_
    refine lv_iconst (v := 1) hx hb dX6_savesOf_54 (by decide) ?_
    refine lv_aload_n hx hb dX6_savesOf_55 rfl (lv_at hl 0 rfl) ?_
    refine va_get (D := D) (ci := 6) (v := .ref (aT 0)) (C := RX6) (T := TX6) (N := 12) hx hb hts iw6 hown hK hP 0 rfl rfl 0 (by decide) kw2 (fun _ h9 => h9) rfl dX6_savesOf_56 ?_
    refine lv_iconst (v := 1) hx hb dX6_savesOf_59 (by decide) ?_
    obtain ⟨g_8, hf⟩ := ht_gd_ob hf
    refine va_iald hx hb hK hP 1 1 rfl rfl (ht_ix_in g_8) dX6_savesOf_60 ?_
    refine lv_iadd hx hb dX6_savesOf_61 ?_
    refine lv_imul hx hb dX6_savesOf_62 ?_
    have ho := Option.some.inj hf
    subst ho; subst hQ
    exact ht_iret hx hb hr hlk rfl hK hP hD hS dX6_savesOf_63
  replace hf := ht_f c_7 hf
  by_cases c_9 : sw_2 = 5
  · replace hf := ht_t c_9 hf
    refine lv_tableIn (tgt := 64) hx hb dX6_savesOf_6 (by rw [c_9]; decide) (by rw [c_9]; decide) (by rw [c_9]; rfl) (by decide) ?_
    refine lv_aload_n hx hb dX6_savesOf_64 rfl (lv_at hl 0 rfl) ?_
    refine va_get (D := D) (ci := 6) (v := .int RT.day) (C := RX6) (T := TX6) (N := 12) hx hb hts iw6 hown hK hP 0 rfl rfl 8 (by decide) kw3 (fun _ h9 => h9) rfl dX6_savesOf_65 ?_
    refine lv_bipush (v := 7) hx hb dX6_savesOf_68 (by decide) ?_
    refine lv_irem hx hb dX6_savesOf_70 (by decide) ?_
    refine lv_if_ne (tgt := 78) hx hb dX6_savesOf_71 (by decide) (fun c_10 => ?_) (fun c_10 => ?_)
    · replace hf := ht_f c_10 hf
      refine lv_iconst (v := 0) hx hb dX6_savesOf_78 (by decide) ?_
      have ho := Option.some.inj hf
      subst ho; subst hQ
      exact ht_iret hx hb hr hlk rfl hK hP hD hS dX6_savesOf_79
    · replace hf := ht_t c_10 hf
      refine lv_iconst (v := 1) hx hb dX6_savesOf_74 (by decide) ?_
      refine lv_goto (tgt := 79) hx hb dX6_savesOf_75 (by decide) ?_
      have ho := Option.some.inj hf
      subst ho; subst hQ
      exact ht_iret hx hb hr hlk rfl hK hP hD hS dX6_savesOf_79
  replace hf := ht_f c_9 hf
  refine lv_tableOut (tgt := 80) hx hb dX6_savesOf_6 (by have := lv_neT c_3 (a := 1) rfl; have := lv_neT c_4 (a := 2) rfl; have := lv_neT c_6 (a := 3) rfl; have := lv_neT c_7 (a := 4) rfl; have := lv_neT c_9 (a := 5) rfl; omega) (by decide) ?_
  refine lv_iconst (v := 1) hx hb dX6_savesOf_80 (by decide) ?_
  have ho := Option.some.inj hf
  subst ho; subst hQ
  exact ht_iret hx hb hr hlk rfl hK hP hD hS dX6_savesOf_81
abbrev rmX6_growAll : Room := { frames := 1, cells := 0, slots := 0, locals := 22 }
theorem hdX6_growAll : yX6_growAll.cls = RX6 ∧ yX6_growAll.cls ≠ "java/lang/invoke/MethodHandle" ∧ yX6_growAll.cls ≠ "java/lang/invoke/VarHandle" ∧ (parseMethodDescriptor yX6_growAll.desc).map (fun d => d.parameters.length) = some 0 := by decide +kernel
def fX6_growAll_b2 (RT : TownV) (k2 : Int32 → AI → Int32 → Option (AI × Int32)) (x1 : Int32) (vT_need : AI) (vT_geese : Int32) : Option (AI × Int32) := if RT.count ≤ x1 then (some (vT_need, vT_geese)) else (ht_gd (ht_ix x1 8) (ht_bn (fX6_growsOf (RT.laws, RT.kind, vT_need, RT.saved, RT.voice, RT.partner, RT.speaks, RT.count, RT.day, RT.heard, vT_geese, RT.z) x1) (fun o_3 => ht_nm (if (0 : Int32) < ((vT_need x1.toNatClampNeg) + o_3) then ((vT_need x1.toNatClampNeg) + o_3) else (0 : Int32)) (fun x2_4 => ht_nm (if (0 : Int32) < (x2_4 - (99 : Int32)) then (x2_4 - (99 : Int32)) else (0 : Int32)) (fun x3_5 => ht_gd (ht_ix x1 8) (ht_nm (upd vT_need x1.toNatClampNeg (x2_4 - x3_5)) (fun vT_need_7 => ht_nm (if (vT_geese + x3_5) < (99999 : Int32) then (vT_geese + x3_5) else (99999 : Int32)) (fun vT_geese_8 => ht_nm (x1 + (1 : Int32)) (fun x1_9 => k2 x1_9 vT_need_7 vT_geese_8)))))))))
def fX6_growAll (RT : TownV) : Option (AI × Int32) := ht_lp3 (fX6_growAll_b2 RT) FU (0 : Int32) RT.need RT.geese
set_option maxHeartbeats 1000000 in
set_option maxRecDepth 100000 in
theorem ctX6_growAll (l : Launch) (D : va_G) (K : Nat → ClassId) (jT : Nat) (aT : Nat → Nat) (RT : TownV) (o : (AI × Int32)) (hf : fX6_growAll RT = some o) (sz : Nat) : Met l yX6_growAll wsX6_growAll rmX6_growAll (ht_Pre D K [.ref jT] (wTw K jT aT RT.laws RT.kind RT.need RT.saved RT.voice RT.partner RT.speaks RT.count RT.day RT.heard RT.geese RT.z) sz) (ht_Qv D K (wTw K jT aT RT.laws RT.kind o.1 RT.saved RT.voice RT.partner RT.speaks RT.count RT.day RT.heard o.2 RT.z) (va_A (wTw K jT aT RT.laws RT.kind RT.need RT.saved RT.voice RT.partner RT.speaks RT.count RT.day RT.heard RT.geese RT.z) sz)) 0 0 (va_A (wTw K jT aT RT.laws RT.kind RT.need RT.saved RT.voice RT.partner RT.speaks RT.count RT.day RT.heard RT.geese RT.z) sz) := by
  refine ht_enter (Qf := ht_Qv D K (wTw K jT aT RT.laws RT.kind o.1 RT.saved RT.voice RT.partner RT.speaks RT.count RT.day RT.heard o.2 RT.z)) (cc := cX6_growAll) (maxL := 4) (rt := none) (by decide) rfl (Nat.le_of_ble_eq_true rfl) ?_ sz
  intro p e s m below meth c A Q H locs ls hQ hx hb hr hlk hmn hml hown hts hA hK hP hD hS hl
  have hown : s.vm.findClass RX6 = some m.cls := hown
  have hF : CallFix p m c cX6_growAll 4 s ([.ref jT] : List Value).toArray wsX6_growAll RX6 := ⟨hx, hb, hml, hown, hts⟩
  have hl : lv_has ls 4 [(0, .ref jT)] := hl
  have iw6 : ∀ w ∈ u_ws RX6 TX6 12, w ∈ wsX6_growAll := by decide +kernel
  have kw1 := hts (.fieldLink RX6 41 "HeldTongues$Town" "count" "I") (by decide +kernel)
  have kw2 := hts (.fieldLink RX6 18 "HeldTongues$Town" "need" "[I") (by decide +kernel)
  have kw3 := hts (.methodLink RX6 68 Lib.Math.max.name) (by decide +kernel)
  have kw4 := hts (.static Lib.Math.max.name) (by decide +kernel)
  have kw5 := hts (.initialized "java/lang/Math") (by decide +kernel)
  have kw6 := hts (.code Lib.Math.max.name Lib.Math.max.code 2 (some .int)) (by decide +kernel)
  have kw7 := hts (.constant RX6 90 (99999)) (by decide +kernel)
  have kw8 := hts (.fieldLink RX6 50 "HeldTongues$Town" "geese" "I") (by decide +kernel)
  have kw9 := hts (.methodLink RX6 91 Lib.Math.min.name) (by decide +kernel)
  have kw10 := hts (.static Lib.Math.min.name) (by decide +kernel)
  have kw11 := hts (.code Lib.Math.min.name Lib.Math.min.code 2 (some .int)) (by decide +kernel)
  have b2 : ∀ (n : Nat) (x1 : Int32) (vT_need : AI) (vT_geese : Int32) (H : Heap) (locs : List Loc) (ls : Array Slot), ht_lp3 (fX6_growAll_b2 RT) n x1 vT_need vT_geese = some o → va_P D vwCl (wTw K jT aT RT.laws RT.kind vT_need RT.saved RT.voice RT.partner RT.speaks RT.count RT.day RT.heard vT_geese RT.z) H → va_D A (wTw K jT aT RT.laws RT.kind vT_need RT.saved RT.voice RT.partner RT.speaks RT.count RT.day RT.heard vT_geese RT.z) → va_S A s.heap H locs → lv_has ls 4 [(0, .ref jT), (1, .int x1)] → W p l e (headSpec wsX6_growAll rmX6_growAll).room s m ([.ref jT] : List Value).toArray below meth c H locs 0 0 Q (F0 m 2 ls []) := by
    intro n
    induction n with
    | zero =>
      intro x1 vT_need vT_geese H locs ls hf hP hD hS hl
      cases (show (none : Option (AI × Int32)) = some o from hf)
    | succ n hk2 =>
      intro x1 vT_need vT_geese H locs ls hf hP hD hS hl
      replace hf : fX6_growAll_b2 RT (ht_lp3 (fX6_growAll_b2 RT) n) x1 vT_need vT_geese = some o := hf
      delta fX6_growAll_b2 at hf
      refine lv_iload_n hx hb dX6_growAll_2 rfl (lv_at hl 1 rfl) ?_
      refine lv_aload_n hx hb dX6_growAll_3 rfl (lv_at hl 0 rfl) ?_
      refine va_get (D := D) (ci := 6) (v := .int RT.count) (C := RX6) (T := TX6) (N := 12) hx hb hts iw6 hown hK hP 0 rfl rfl 7 (by decide) kw1 (fun _ h9 => h9) rfl dX6_growAll_4 ?_
      refine lv_icmp_ge (tgt := 66) hx hb dX6_growAll_7 (by decide) (fun c_1 => ?_) (fun c_1 => ?_)
      · replace hf := ht_t c_1 hf
        have ho := Option.some.inj hf
        subst ho; subst hQ
        exact ht_vret hx hb hr hlk hK hP hD hS dX6_growAll_66
      · replace hf := ht_f c_1 hf
        refine lv_iconst (v := 0) hx hb dX6_growAll_10 (by decide) ?_
        refine lv_aload_n hx hb dX6_growAll_11 rfl (lv_at hl 0 rfl) ?_
        refine va_get (D := D) (ci := 6) (v := .ref (aT 2)) (C := RX6) (T := TX6) (N := 12) hx hb hts iw6 hown hK hP 0 rfl rfl 2 (by decide) kw2 (fun _ h9 => h9) rfl dX6_growAll_12 ?_
        refine lv_iload_n hx hb dX6_growAll_15 rfl (lv_at hl 1 rfl) ?_
        obtain ⟨g_2, hf⟩ := ht_gd_ob hf
        refine va_iald hx hb hK hP 3 1 rfl rfl (ht_ix_in g_2) dX6_growAll_16 ?_
        refine lv_aload_n hx hb dX6_growAll_17 rfl (lv_at hl 0 rfl) ?_
        refine lv_iload_n hx hb dX6_growAll_18 rfl (lv_at hl 1 rfl) ?_
        obtain ⟨o_3, ho_3, hf⟩ := ht_bn_ob hf
        refine ht_callVi (r := o_3) (rest := [.int (vT_need x1.toNatClampNeg), .int (0 : Int32)]) (As := [.int x1]) (wc := (wTw K jT aT RT.laws RT.kind vT_need RT.saved RT.voice RT.partner RT.speaks RT.count RT.day RT.heard vT_geese RT.z)) (wr := []) (w1 := (wTw K jT aT RT.laws RT.kind vT_need RT.saved RT.voice RT.partner RT.speaks RT.count RT.day RT.heard vT_geese RT.z)) (w2 := (wTw K jT aT RT.laws RT.kind vT_need RT.saved RT.voice RT.partner RT.speaks RT.count RT.day RT.heard vT_geese RT.z)) hF (ctX6_growsOf l D K jT aT (RT.laws, RT.kind, vT_need, RT.saved, RT.voice, RT.partner, RT.speaks, RT.count, RT.day, RT.heard, vT_geese, RT.z) x1 o_3 ho_3 H.size) (cwV 1 hts gX6_growAll_X6_growsOf rfl rfl rfl hdX6_growsOf ⟨Nat.le_of_ble_eq_true rfl, Nat.le_of_ble_eq_true rfl⟩) hK hP hD hS hA [0, 1, 2, 3, 4, 5, 6, 7] [] rfl rfl (by decide) (by decide) (by decide) [0, 1, 2, 3, 4, 5, 6, 7] rfl (by decide) (va_recv hK hP (ci := 6) (q0 := 0) rfl rfl) rfl hl.1 rfl (Nat.le_of_ble_eq_true rfl) dX6_growAll_19 ⟨Nat.zero_le _, Nat.zero_le _⟩ (fun H locs hP hD hS => ?_)
        refine lv_iadd hx hb dX6_growAll_22 ?_
        refine va_mmax hx hb (by rw [hml]; exact hl.1.symm) hown kw3 kw4 kw5 kw6 (Nat.le_of_ble_eq_true rfl) (Nat.le_of_ble_eq_true rfl) (Nat.zero_le _) (Nat.zero_le _) dX6_growAll_23 ?_
        obtain ⟨x2_4, ex2_4, hf⟩ := ht_nm_ob hf
        rw [← ex2_4]
        refine lv_istore_n (lv' := [(2, .int x2_4), (0, .ref jT), (1, .int x1)]) hx hb dX6_growAll_26 rfl hl (by decide) rfl (fun ls hl => ?_)
        refine lv_iconst (v := 0) hx hb dX6_growAll_27 (by decide) ?_
        refine lv_iload_n hx hb dX6_growAll_28 rfl (lv_at hl 0 rfl) ?_
        refine lv_bipush (v := 99) hx hb dX6_growAll_29 (by decide) ?_
        refine lv_isub hx hb dX6_growAll_31 ?_
        refine va_mmax hx hb (by rw [hml]; exact hl.1.symm) hown kw3 kw4 kw5 kw6 (Nat.le_of_ble_eq_true rfl) (Nat.le_of_ble_eq_true rfl) (Nat.zero_le _) (Nat.zero_le _) dX6_growAll_32 ?_
        obtain ⟨x3_5, ex3_5, hf⟩ := ht_nm_ob hf
        rw [← ex3_5]
        refine lv_istore_n (lv' := [(3, .int x3_5), (2, .int x2_4), (0, .ref jT), (1, .int x1)]) hx hb dX6_growAll_35 rfl hl (by decide) rfl (fun ls hl => ?_)
        refine lv_aload_n hx hb dX6_growAll_36 rfl (lv_at hl 2 rfl) ?_
        refine va_get (D := D) (ci := 6) (v := .ref (aT 2)) (C := RX6) (T := TX6) (N := 12) hx hb hts iw6 hown hK hP 0 rfl rfl 2 (by decide) kw2 (fun _ h9 => h9) rfl dX6_growAll_37 ?_
        refine lv_iload_n hx hb dX6_growAll_40 rfl (lv_at hl 3 rfl) ?_
        refine lv_iload_n hx hb dX6_growAll_41 rfl (lv_at hl 1 rfl) ?_
        refine lv_iload_n hx hb dX6_growAll_42 rfl (lv_at hl 0 rfl) ?_
        refine lv_isub hx hb dX6_growAll_43 ?_
        obtain ⟨g_6, hf⟩ := ht_gd_ob hf
        obtain ⟨vT_need_7, evT_need_7, hf⟩ := ht_nm_ob hf
        refine ht_iast (w2 := (wTw K jT aT RT.laws RT.kind vT_need_7 RT.saved RT.voice RT.partner RT.speaks RT.count RT.day RT.heard vT_geese RT.z)) hx hb hK hP hD hS 3 1 rfl rfl g_6 dX6_growAll_44 evT_need_7 rfl (fun H locs hP hD hS => ?_)
        refine lv_aload_n hx hb dX6_growAll_45 rfl (lv_at hl 2 rfl) ?_
        refine lv_ldc hx hb hown kw7 dX6_growAll_46 ?_
        refine lv_aload_n hx hb dX6_growAll_48 rfl (lv_at hl 2 rfl) ?_
        refine va_get (D := D) (ci := 6) (v := .int vT_geese) (C := RX6) (T := TX6) (N := 12) hx hb hts iw6 hown hK hP 0 rfl rfl 10 (by decide) kw8 (fun _ h9 => h9) rfl dX6_growAll_49 ?_
        refine lv_iload_n hx hb dX6_growAll_52 rfl (lv_at hl 0 rfl) ?_
        refine lv_iadd hx hb dX6_growAll_53 ?_
        refine va_mmin hx hb (by rw [hml]; exact hl.1.symm) hown kw9 kw10 kw5 kw11 (Nat.le_of_ble_eq_true rfl) (Nat.le_of_ble_eq_true rfl) (Nat.zero_le _) (Nat.zero_le _) dX6_growAll_54 ?_
        obtain ⟨vT_geese_8, evT_geese_8, hf⟩ := ht_nm_ob hf
        rw [← evT_geese_8]
        refine ht_put (ci := 6) (v := .int vT_geese_8) (ty := .int) (C := RX6) (T := TX6) (N := 12) (w2 := (wTw K jT aT RT.laws RT.kind vT_need_7 RT.saved RT.voice RT.partner RT.speaks RT.count RT.day RT.heard vT_geese_8 RT.z)) hx hb hts iw6 tyX6 tyX6_ok nmX6 hown hK hP hD hS 0 rfl rfl 10 (by decide) kw8 (fun _ h9 => h9) rfl (by decide +kernel) rfl rfl (Nat.le_of_ble_eq_true rfl) dX6_growAll_57 rfl (fun H locs hP hD hS => ?_)
        obtain ⟨x1_9, ex1_9, hf⟩ := ht_nm_ob hf
        refine lv_iinc (v := x1_9) (lv' := [(1, .int x1_9), (3, .int x3_5), (2, .int x2_4), (0, .ref jT)]) hx hb dX6_growAll_60 hl (k := 3) rfl (by rw [ex1_9]; rfl) (by decide) rfl (fun ls hl => ?_)
        refine lv_goto (tgt := 2) hx hb dX6_growAll_63 (by decide) ?_
        exact hk2 x1_9 vT_need_7 vT_geese_8 _ _ _ hf hP hD hS (lv_sub hl [3, 0] rfl)
  delta fX6_growAll at hf
  refine lv_iconst (v := 0) hx hb dX6_growAll_0 (by decide) ?_
  refine lv_istore_n (lv' := [(1, .int (0 : Int32)), (0, .ref jT)]) hx hb dX6_growAll_1 rfl hl (by decide) rfl (fun ls hl => ?_)
  exact b2  FU (0 : Int32) RT.need RT.geese _ _ _ hf hP hD hS (lv_sub hl [1, 0] rfl)
abbrev rmX6_sayAll : Room := { frames := 2, cells := 0, slots := 0, locals := 42 }
theorem hdX6_sayAll : yX6_sayAll.cls = RX6 ∧ yX6_sayAll.cls ≠ "java/lang/invoke/MethodHandle" ∧ yX6_sayAll.cls ≠ "java/lang/invoke/VarHandle" ∧ (parseMethodDescriptor yX6_sayAll.desc).map (fun d => d.parameters.length) = some 0 := by decide +kernel
def fX6_sayAll_b122 (RT : TownV) (k4 : Int32 → Int32 → AI → Option (Int32 × AI)) (x1 : Int32) (x2 : Int32) (vT_need : AI) : Option (Int32 × AI) := ht_nm (x2 + (1 : Int32)) (fun x2_1 => k4 x1 x2_1 vT_need)
def fX6_sayAll_b51 (RT : TownV) (k4 : Int32 → Int32 → AI → Option (Int32 × AI)) (x1 : Int32) (x2 : Int32) (x3 : Int32) (t0 : Int32) (vT_need : AI) : Option (Int32 × AI) := ht_gd (ht_ix x2 8) (ht_nm (if (vT_need x2.toNatClampNeg) < t0 then (vT_need x2.toNatClampNeg) else t0) (fun x5_3 => ht_gd (ht_ix x2 8) (ht_gd (ht_ix x2 8) (ht_nm (upd vT_need x2.toNatClampNeg ((vT_need x2.toNatClampNeg) - x5_3)) (fun vT_need_6 => ht_nm (x1 + x5_3) (fun x1_7 => ht_bn (fX6_has (RT.laws, RT.kind, vT_need_6, RT.saved, RT.voice, RT.partner, RT.speaks, RT.count, RT.day, RT.heard, RT.geese, RT.z) x3) (fun o_8 => if o_8 = 0 then (fX6_sayAll_b122 RT k4 x1_7 x2 vT_need_6) else (ht_gd (ht_ix x3 8) (ht_nm (if (vT_need_6 x3.toNatClampNeg) < (t0 - x5_3) then (vT_need_6 x3.toNatClampNeg) else (t0 - x5_3)) (fun x6_11 => ht_gd (ht_ix x3 8) (ht_gd (ht_ix x3 8) (ht_nm (upd vT_need_6 x3.toNatClampNeg ((vT_need_6 x3.toNatClampNeg) - x6_11)) (fun vT_need_14 => ht_nm (x1_7 + x6_11) (fun x1_15 => fX6_sayAll_b122 RT k4 x1_15 x2 vT_need_14))))))))))))))
def fX6_sayAll_b4 (RT : TownV) (k4 : Int32 → Int32 → AI → Option (Int32 × AI)) (x1 : Int32) (x2 : Int32) (vT_need : AI) : Option (Int32 × AI) := if RT.count ≤ x2 then (some (x1, vT_need)) else (ht_gd (ht_ix x2 8) (if (RT.speaks x2.toNatClampNeg) = 0 then (fX6_sayAll_b122 RT k4 x1 x2 vT_need) else (ht_gd (ht_ix x2 8) (ht_nm (RT.partner x2.toNatClampNeg) (fun x3_20 => ht_bn (fX6_has (RT.laws, RT.kind, vT_need, RT.saved, RT.voice, RT.partner, RT.speaks, RT.count, RT.day, RT.heard, RT.geese, RT.z) x3_20) (fun o_21 => if o_21 = 0 then (ht_bn (fX6_saysOf (RT.laws, RT.kind, vT_need, RT.saved, RT.voice, RT.partner, RT.speaks, RT.count, RT.day, RT.heard, RT.geese, RT.z) x2) (fun o_23 => fX6_sayAll_b51 RT k4 x1 x2 x3_20 o_23 vT_need)) else (ht_bn (fX6_saysOf (RT.laws, RT.kind, vT_need, RT.saved, RT.voice, RT.partner, RT.speaks, RT.count, RT.day, RT.heard, RT.geese, RT.z) x2) (fun o_24 => fX6_sayAll_b51 RT k4 x1 x2 x3_20 ((2 : Int32) * o_24) vT_need))))))))
def fX6_sayAll (RT : TownV) : Option (Int32 × AI) := ht_lp3 (fX6_sayAll_b4 RT) FU (0 : Int32) (0 : Int32) RT.need
set_option maxHeartbeats 1000000 in
set_option maxRecDepth 100000 in
theorem ctX6_sayAll (l : Launch) (D : va_G) (K : Nat → ClassId) (jT : Nat) (aT : Nat → Nat) (RT : TownV) (o : (Int32 × AI)) (hf : fX6_sayAll RT = some o) (sz : Nat) : Met l yX6_sayAll wsX6_sayAll rmX6_sayAll (ht_Pre D K [.ref jT] (wTw K jT aT RT.laws RT.kind RT.need RT.saved RT.voice RT.partner RT.speaks RT.count RT.day RT.heard RT.geese RT.z) sz) (ht_Qi D K (wTw K jT aT RT.laws RT.kind o.2 RT.saved RT.voice RT.partner RT.speaks RT.count RT.day RT.heard RT.geese RT.z) o.1 (va_A (wTw K jT aT RT.laws RT.kind RT.need RT.saved RT.voice RT.partner RT.speaks RT.count RT.day RT.heard RT.geese RT.z) sz)) 0 0 (va_A (wTw K jT aT RT.laws RT.kind RT.need RT.saved RT.voice RT.partner RT.speaks RT.count RT.day RT.heard RT.geese RT.z) sz) := by
  refine ht_enter (Qf := ht_Qi D K (wTw K jT aT RT.laws RT.kind o.2 RT.saved RT.voice RT.partner RT.speaks RT.count RT.day RT.heard RT.geese RT.z) o.1) (cc := cX6_sayAll) (maxL := 7) (rt := (some .int)) (by decide) rfl (Nat.le_of_ble_eq_true rfl) ?_ sz
  intro p e s m below meth c A Q H locs ls hQ hx hb hr hlk hmn hml hown hts hA hK hP hD hS hl
  have hown : s.vm.findClass RX6 = some m.cls := hown
  have hF : CallFix p m c cX6_sayAll 7 s ([.ref jT] : List Value).toArray wsX6_sayAll RX6 := ⟨hx, hb, hml, hown, hts⟩
  have hl : lv_has ls 7 [(0, .ref jT)] := hl
  have iw6 : ∀ w ∈ u_ws RX6 TX6 12, w ∈ wsX6_sayAll := by decide +kernel
  have kw1 := hts (.fieldLink RX6 18 "HeldTongues$Town" "need" "[I") (by decide +kernel)
  have kw2 := hts (.methodLink RX6 91 Lib.Math.min.name) (by decide +kernel)
  have kw3 := hts (.static Lib.Math.min.name) (by decide +kernel)
  have kw4 := hts (.initialized "java/lang/Math") (by decide +kernel)
  have kw5 := hts (.code Lib.Math.min.name Lib.Math.min.code 2 (some .int)) (by decide +kernel)
  have kw6 := hts (.fieldLink RX6 41 "HeldTongues$Town" "count" "I") (by decide +kernel)
  have kw7 := hts (.fieldLink RX6 30 "HeldTongues$Town" "speaks" "[Z") (by decide +kernel)
  have kw8 := hts (.fieldLink RX6 27 "HeldTongues$Town" "partner" "[I") (by decide +kernel)
  have b122 : ∀ (k4 : Int32 → Int32 → AI → Option (Int32 × AI)) (hk4 : ∀ (x1 : Int32) (x2 : Int32) (vT_need : AI) (H : Heap) (locs : List Loc) (ls : Array Slot), k4 x1 x2 vT_need = some o → va_P D vwCl (wTw K jT aT RT.laws RT.kind vT_need RT.saved RT.voice RT.partner RT.speaks RT.count RT.day RT.heard RT.geese RT.z) H → va_D A (wTw K jT aT RT.laws RT.kind vT_need RT.saved RT.voice RT.partner RT.speaks RT.count RT.day RT.heard RT.geese RT.z) → va_S A s.heap H locs → lv_has ls 7 [(0, .ref jT), (1, .int x1), (2, .int x2)] → W p l e (headSpec wsX6_sayAll rmX6_sayAll).room s m ([.ref jT] : List Value).toArray below meth c H locs 0 0 Q (F0 m 4 ls [])) (x1 : Int32) (x2 : Int32) (vT_need : AI) (H : Heap) (locs : List Loc) (ls : Array Slot), fX6_sayAll_b122 RT k4 x1 x2 vT_need = some o → va_P D vwCl (wTw K jT aT RT.laws RT.kind vT_need RT.saved RT.voice RT.partner RT.speaks RT.count RT.day RT.heard RT.geese RT.z) H → va_D A (wTw K jT aT RT.laws RT.kind vT_need RT.saved RT.voice RT.partner RT.speaks RT.count RT.day RT.heard RT.geese RT.z) → va_S A s.heap H locs → lv_has ls 7 [(0, .ref jT), (1, .int x1), (2, .int x2)] → W p l e (headSpec wsX6_sayAll rmX6_sayAll).room s m ([.ref jT] : List Value).toArray below meth c H locs 0 0 Q (F0 m 122 ls []) := by
    intro k4 hk4 x1 x2 vT_need H locs ls hf hP hD hS hl
    delta fX6_sayAll_b122 at hf
    obtain ⟨x2_1, ex2_1, hf⟩ := ht_nm_ob hf
    refine lv_iinc (v := x2_1) (lv' := [(2, .int x2_1), (0, .ref jT), (1, .int x1)]) hx hb dX6_sayAll_122 hl (k := 2) rfl (by rw [ex2_1]; rfl) (by decide) rfl (fun ls hl => ?_)
    refine lv_goto (tgt := 4) hx hb dX6_sayAll_125 (by decide) ?_
    exact hk4 x1 x2_1 vT_need _ _ _ hf hP hD hS (lv_sub hl [1, 2, 0] rfl)
  have b51 : ∀ (k4 : Int32 → Int32 → AI → Option (Int32 × AI)) (hk4 : ∀ (x1 : Int32) (x2 : Int32) (vT_need : AI) (H : Heap) (locs : List Loc) (ls : Array Slot), k4 x1 x2 vT_need = some o → va_P D vwCl (wTw K jT aT RT.laws RT.kind vT_need RT.saved RT.voice RT.partner RT.speaks RT.count RT.day RT.heard RT.geese RT.z) H → va_D A (wTw K jT aT RT.laws RT.kind vT_need RT.saved RT.voice RT.partner RT.speaks RT.count RT.day RT.heard RT.geese RT.z) → va_S A s.heap H locs → lv_has ls 7 [(0, .ref jT), (1, .int x1), (2, .int x2)] → W p l e (headSpec wsX6_sayAll rmX6_sayAll).room s m ([.ref jT] : List Value).toArray below meth c H locs 0 0 Q (F0 m 4 ls [])) (x1 : Int32) (x2 : Int32) (x3 : Int32) (t0 : Int32) (vT_need : AI) (H : Heap) (locs : List Loc) (ls : Array Slot), fX6_sayAll_b51 RT k4 x1 x2 x3 t0 vT_need = some o → va_P D vwCl (wTw K jT aT RT.laws RT.kind vT_need RT.saved RT.voice RT.partner RT.speaks RT.count RT.day RT.heard RT.geese RT.z) H → va_D A (wTw K jT aT RT.laws RT.kind vT_need RT.saved RT.voice RT.partner RT.speaks RT.count RT.day RT.heard RT.geese RT.z) → va_S A s.heap H locs → lv_has ls 7 [(0, .ref jT), (1, .int x1), (2, .int x2), (3, .int x3)] → W p l e (headSpec wsX6_sayAll rmX6_sayAll).room s m ([.ref jT] : List Value).toArray below meth c H locs 0 0 Q (F0 m 51 ls [.int t0]) := by
    intro k4 hk4 x1 x2 x3 t0 vT_need H locs ls hf hP hD hS hl
    delta fX6_sayAll_b51 at hf
    refine lv_istore (lv' := [(4, .int t0), (0, .ref jT), (1, .int x1), (2, .int x2), (3, .int x3)]) hx hb dX6_sayAll_51 hl (by decide) rfl (fun ls hl => ?_)
    refine lv_iload hx hb dX6_sayAll_53 (lv_at hl 0 rfl) ?_
    refine lv_aload_n hx hb dX6_sayAll_55 rfl (lv_at hl 1 rfl) ?_
    refine va_get (D := D) (ci := 6) (v := .ref (aT 2)) (C := RX6) (T := TX6) (N := 12) hx hb hts iw6 hown hK hP 0 rfl rfl 2 (by decide) kw1 (fun _ h9 => h9) rfl dX6_sayAll_56 ?_
    refine lv_iload_n hx hb dX6_sayAll_59 rfl (lv_at hl 3 rfl) ?_
    obtain ⟨g_2, hf⟩ := ht_gd_ob hf
    refine va_iald hx hb hK hP 3 1 rfl rfl (ht_ix_in g_2) dX6_sayAll_60 ?_
    refine va_mmin hx hb (by rw [hml]; exact hl.1.symm) hown kw2 kw3 kw4 kw5 (Nat.le_of_ble_eq_true rfl) (Nat.le_of_ble_eq_true rfl) (Nat.zero_le _) (Nat.zero_le _) dX6_sayAll_61 ?_
    obtain ⟨x5_3, ex5_3, hf⟩ := ht_nm_ob hf
    rw [← ex5_3]
    refine lv_istore (lv' := [(5, .int x5_3), (4, .int t0), (0, .ref jT), (1, .int x1), (2, .int x2), (3, .int x3)]) hx hb dX6_sayAll_64 hl (by decide) rfl (fun ls hl => ?_)
    refine lv_aload_n hx hb dX6_sayAll_66 rfl (lv_at hl 2 rfl) ?_
    refine va_get (D := D) (ci := 6) (v := .ref (aT 2)) (C := RX6) (T := TX6) (N := 12) hx hb hts iw6 hown hK hP 0 rfl rfl 2 (by decide) kw1 (fun _ h9 => h9) rfl dX6_sayAll_67 ?_
    refine lv_iload_n hx hb dX6_sayAll_70 rfl (lv_at hl 4 rfl) ?_
    refine lv_dup2_11 hx hb dX6_sayAll_71 rfl rfl ?_
    obtain ⟨g_4, hf⟩ := ht_gd_ob hf
    refine va_iald hx hb hK hP 3 1 rfl rfl (ht_ix_in g_4) dX6_sayAll_72 ?_
    refine lv_iload hx hb dX6_sayAll_73 (lv_at hl 0 rfl) ?_
    refine lv_isub hx hb dX6_sayAll_75 ?_
    obtain ⟨g_5, hf⟩ := ht_gd_ob hf
    obtain ⟨vT_need_6, evT_need_6, hf⟩ := ht_nm_ob hf
    refine ht_iast (w2 := (wTw K jT aT RT.laws RT.kind vT_need_6 RT.saved RT.voice RT.partner RT.speaks RT.count RT.day RT.heard RT.geese RT.z)) hx hb hK hP hD hS 3 1 rfl rfl g_5 dX6_sayAll_76 evT_need_6 rfl (fun H locs hP hD hS => ?_)
    refine lv_iload_n hx hb dX6_sayAll_77 rfl (lv_at hl 3 rfl) ?_
    refine lv_iload hx hb dX6_sayAll_78 (lv_at hl 0 rfl) ?_
    refine lv_iadd hx hb dX6_sayAll_80 ?_
    obtain ⟨x1_7, ex1_7, hf⟩ := ht_nm_ob hf
    rw [← ex1_7]
    refine lv_istore_n (lv' := [(1, .int x1_7), (5, .int x5_3), (4, .int t0), (0, .ref jT), (2, .int x2), (3, .int x3)]) hx hb dX6_sayAll_81 rfl hl (by decide) rfl (fun ls hl => ?_)
    refine lv_aload_n hx hb dX6_sayAll_82 rfl (lv_at hl 3 rfl) ?_
    refine lv_iload_n hx hb dX6_sayAll_83 rfl (lv_at hl 5 rfl) ?_
    obtain ⟨o_8, ho_8, hf⟩ := ht_bn_ob hf
    refine ht_callVi (r := o_8) (rest := []) (As := [.int x3]) (wc := (wTw K jT aT RT.laws RT.kind vT_need_6 RT.saved RT.voice RT.partner RT.speaks RT.count RT.day RT.heard RT.geese RT.z)) (wr := []) (w1 := (wTw K jT aT RT.laws RT.kind vT_need_6 RT.saved RT.voice RT.partner RT.speaks RT.count RT.day RT.heard RT.geese RT.z)) (w2 := (wTw K jT aT RT.laws RT.kind vT_need_6 RT.saved RT.voice RT.partner RT.speaks RT.count RT.day RT.heard RT.geese RT.z)) hF (ctX6_has l D K jT aT (RT.laws, RT.kind, vT_need_6, RT.saved, RT.voice, RT.partner, RT.speaks, RT.count, RT.day, RT.heard, RT.geese, RT.z) x3 o_8 ho_8 H.size) (cwV 1 hts gX6_sayAll_X6_has rfl rfl rfl hdX6_has ⟨Nat.le_of_ble_eq_true rfl, Nat.le_of_ble_eq_true rfl⟩) hK hP hD hS hA [0, 1, 2, 3, 4, 5, 6, 7] [] rfl rfl (by decide) (by decide) (by decide) [0, 1, 2, 3, 4, 5, 6, 7] rfl (by decide) (va_recv hK hP (ci := 6) (q0 := 0) rfl rfl) rfl hl.1 rfl (Nat.le_of_ble_eq_true rfl) dX6_sayAll_84 ⟨Nat.zero_le _, Nat.zero_le _⟩ (fun H locs hP hD hS => ?_)
    refine lv_if_eq (tgt := 122) hx hb dX6_sayAll_87 (by decide) (fun c_9 => ?_) (fun c_9 => ?_)
    · replace hf := ht_t c_9 hf
      exact b122 _ hk4 x1_7 x2 vT_need_6 _ _ _ hf hP hD hS (lv_sub hl [3, 0, 4] rfl)
    · replace hf := ht_f c_9 hf
      refine lv_iload hx hb dX6_sayAll_90 (lv_at hl 2 rfl) ?_
      refine lv_iload hx hb dX6_sayAll_92 (lv_at hl 1 rfl) ?_
      refine lv_isub hx hb dX6_sayAll_94 ?_
      refine lv_aload_n hx hb dX6_sayAll_95 rfl (lv_at hl 3 rfl) ?_
      refine va_get (D := D) (ci := 6) (v := .ref (aT 2)) (C := RX6) (T := TX6) (N := 12) hx hb hts iw6 hown hK hP 0 rfl rfl 2 (by decide) kw1 (fun _ h9 => h9) rfl dX6_sayAll_96 ?_
      refine lv_iload_n hx hb dX6_sayAll_99 rfl (lv_at hl 5 rfl) ?_
      obtain ⟨g_10, hf⟩ := ht_gd_ob hf
      refine va_iald hx hb hK hP 3 1 rfl rfl (ht_ix_in g_10) dX6_sayAll_100 ?_
      refine va_mmin hx hb (by rw [hml]; exact hl.1.symm) hown kw2 kw3 kw4 kw5 (Nat.le_of_ble_eq_true rfl) (Nat.le_of_ble_eq_true rfl) (Nat.zero_le _) (Nat.zero_le _) dX6_sayAll_101 ?_
      obtain ⟨x6_11, ex6_11, hf⟩ := ht_nm_ob hf
      rw [← ex6_11]
      refine lv_istore (lv' := [(6, .int x6_11), (1, .int x1_7), (5, .int x5_3), (4, .int t0), (0, .ref jT), (2, .int x2), (3, .int x3)]) hx hb dX6_sayAll_104 hl (by decide) rfl (fun ls hl => ?_)
      refine lv_aload_n hx hb dX6_sayAll_106 rfl (lv_at hl 4 rfl) ?_
      refine va_get (D := D) (ci := 6) (v := .ref (aT 2)) (C := RX6) (T := TX6) (N := 12) hx hb hts iw6 hown hK hP 0 rfl rfl 2 (by decide) kw1 (fun _ h9 => h9) rfl dX6_sayAll_107 ?_
      refine lv_iload_n hx hb dX6_sayAll_110 rfl (lv_at hl 6 rfl) ?_
      refine lv_dup2_11 hx hb dX6_sayAll_111 rfl rfl ?_
      obtain ⟨g_12, hf⟩ := ht_gd_ob hf
      refine va_iald hx hb hK hP 3 1 rfl rfl (ht_ix_in g_12) dX6_sayAll_112 ?_
      refine lv_iload hx hb dX6_sayAll_113 (lv_at hl 0 rfl) ?_
      refine lv_isub hx hb dX6_sayAll_115 ?_
      obtain ⟨g_13, hf⟩ := ht_gd_ob hf
      obtain ⟨vT_need_14, evT_need_14, hf⟩ := ht_nm_ob hf
      refine ht_iast (w2 := (wTw K jT aT RT.laws RT.kind vT_need_14 RT.saved RT.voice RT.partner RT.speaks RT.count RT.day RT.heard RT.geese RT.z)) hx hb hK hP hD hS 3 1 rfl rfl g_13 dX6_sayAll_116 evT_need_14 rfl (fun H locs hP hD hS => ?_)
      refine lv_iload_n hx hb dX6_sayAll_117 rfl (lv_at hl 1 rfl) ?_
      refine lv_iload hx hb dX6_sayAll_118 (lv_at hl 0 rfl) ?_
      refine lv_iadd hx hb dX6_sayAll_120 ?_
      obtain ⟨x1_15, ex1_15, hf⟩ := ht_nm_ob hf
      rw [← ex1_15]
      refine lv_istore_n (lv' := [(1, .int x1_15), (6, .int x6_11), (5, .int x5_3), (4, .int t0), (0, .ref jT), (2, .int x2), (3, .int x3)]) hx hb dX6_sayAll_121 rfl hl (by decide) rfl (fun ls hl => ?_)
      exact b122 _ hk4 x1_15 x2 vT_need_14 _ _ _ hf hP hD hS (lv_sub hl [4, 0, 5] rfl)
  have b4 : ∀ (n : Nat) (x1 : Int32) (x2 : Int32) (vT_need : AI) (H : Heap) (locs : List Loc) (ls : Array Slot), ht_lp3 (fX6_sayAll_b4 RT) n x1 x2 vT_need = some o → va_P D vwCl (wTw K jT aT RT.laws RT.kind vT_need RT.saved RT.voice RT.partner RT.speaks RT.count RT.day RT.heard RT.geese RT.z) H → va_D A (wTw K jT aT RT.laws RT.kind vT_need RT.saved RT.voice RT.partner RT.speaks RT.count RT.day RT.heard RT.geese RT.z) → va_S A s.heap H locs → lv_has ls 7 [(0, .ref jT), (1, .int x1), (2, .int x2)] → W p l e (headSpec wsX6_sayAll rmX6_sayAll).room s m ([.ref jT] : List Value).toArray below meth c H locs 0 0 Q (F0 m 4 ls []) := by
    intro n
    induction n with
    | zero =>
      intro x1 x2 vT_need H locs ls hf hP hD hS hl
      cases (show (none : Option (Int32 × AI)) = some o from hf)
    | succ n hk4 =>
      intro x1 x2 vT_need H locs ls hf hP hD hS hl
      replace hf : fX6_sayAll_b4 RT (ht_lp3 (fX6_sayAll_b4 RT) n) x1 x2 vT_need = some o := hf
      delta fX6_sayAll_b4 at hf
      refine lv_iload_n hx hb dX6_sayAll_4 rfl (lv_at hl 2 rfl) ?_
      refine lv_aload_n hx hb dX6_sayAll_5 rfl (lv_at hl 0 rfl) ?_
      refine va_get (D := D) (ci := 6) (v := .int RT.count) (C := RX6) (T := TX6) (N := 12) hx hb hts iw6 hown hK hP 0 rfl rfl 7 (by decide) kw6 (fun _ h9 => h9) rfl dX6_sayAll_6 ?_
      refine lv_icmp_ge (tgt := 128) hx hb dX6_sayAll_9 (by decide) (fun c_16 => ?_) (fun c_16 => ?_)
      · replace hf := ht_t c_16 hf
        refine lv_iload_n hx hb dX6_sayAll_128 rfl (lv_at hl 1 rfl) ?_
        have ho := Option.some.inj hf
        subst ho; subst hQ
        exact ht_iret hx hb hr hlk rfl hK hP hD hS dX6_sayAll_129
      · replace hf := ht_f c_16 hf
        refine lv_aload_n hx hb dX6_sayAll_12 rfl (lv_at hl 0 rfl) ?_
        refine va_get (D := D) (ci := 6) (v := .ref (aT 6)) (C := RX6) (T := TX6) (N := 12) hx hb hts iw6 hown hK hP 0 rfl rfl 6 (by decide) kw7 (fun _ h9 => h9) rfl dX6_sayAll_13 ?_
        refine lv_iload_n hx hb dX6_sayAll_16 rfl (lv_at hl 2 rfl) ?_
        obtain ⟨g_17, hf⟩ := ht_gd_ob hf
        refine va_zald hx hb hK hP 7 3 rfl rfl (ht_ix_in g_17) dX6_sayAll_17 ?_
        refine lv_if_eq (tgt := 122) hx hb dX6_sayAll_18 (by decide) (fun c_18 => ?_) (fun c_18 => ?_)
        · replace hf := ht_t c_18 hf
          exact b122 _ hk4 x1 x2 vT_need _ _ _ hf hP hD hS hl
        · replace hf := ht_f c_18 hf
          refine lv_aload_n hx hb dX6_sayAll_21 rfl (lv_at hl 0 rfl) ?_
          refine va_get (D := D) (ci := 6) (v := .ref (aT 5)) (C := RX6) (T := TX6) (N := 12) hx hb hts iw6 hown hK hP 0 rfl rfl 5 (by decide) kw8 (fun _ h9 => h9) rfl dX6_sayAll_22 ?_
          refine lv_iload_n hx hb dX6_sayAll_25 rfl (lv_at hl 2 rfl) ?_
          obtain ⟨g_19, hf⟩ := ht_gd_ob hf
          refine va_iald hx hb hK hP 6 1 rfl rfl (ht_ix_in g_19) dX6_sayAll_26 ?_
          obtain ⟨x3_20, ex3_20, hf⟩ := ht_nm_ob hf
          rw [← ex3_20]
          refine lv_istore_n (lv' := [(3, .int x3_20), (0, .ref jT), (1, .int x1), (2, .int x2)]) hx hb dX6_sayAll_27 rfl hl (by decide) rfl (fun ls hl => ?_)
          refine lv_aload_n hx hb dX6_sayAll_28 rfl (lv_at hl 1 rfl) ?_
          refine lv_iload_n hx hb dX6_sayAll_29 rfl (lv_at hl 0 rfl) ?_
          obtain ⟨o_21, ho_21, hf⟩ := ht_bn_ob hf
          refine ht_callVi (r := o_21) (rest := []) (As := [.int x3_20]) (wc := (wTw K jT aT RT.laws RT.kind vT_need RT.saved RT.voice RT.partner RT.speaks RT.count RT.day RT.heard RT.geese RT.z)) (wr := []) (w1 := (wTw K jT aT RT.laws RT.kind vT_need RT.saved RT.voice RT.partner RT.speaks RT.count RT.day RT.heard RT.geese RT.z)) (w2 := (wTw K jT aT RT.laws RT.kind vT_need RT.saved RT.voice RT.partner RT.speaks RT.count RT.day RT.heard RT.geese RT.z)) hF (ctX6_has l D K jT aT (RT.laws, RT.kind, vT_need, RT.saved, RT.voice, RT.partner, RT.speaks, RT.count, RT.day, RT.heard, RT.geese, RT.z) x3_20 o_21 ho_21 H.size) (cwV 1 hts gX6_sayAll_X6_has rfl rfl rfl hdX6_has ⟨Nat.le_of_ble_eq_true rfl, Nat.le_of_ble_eq_true rfl⟩) hK hP hD hS hA [0, 1, 2, 3, 4, 5, 6, 7] [] rfl rfl (by decide) (by decide) (by decide) [0, 1, 2, 3, 4, 5, 6, 7] rfl (by decide) (va_recv hK hP (ci := 6) (q0 := 0) rfl rfl) rfl hl.1 rfl (Nat.le_of_ble_eq_true rfl) dX6_sayAll_30 ⟨Nat.zero_le _, Nat.zero_le _⟩ (fun H locs hP hD hS => ?_)
          refine lv_if_eq (tgt := 46) hx hb dX6_sayAll_33 (by decide) (fun c_22 => ?_) (fun c_22 => ?_)
          · replace hf := ht_t c_22 hf
            refine lv_aload_n hx hb dX6_sayAll_46 rfl (lv_at hl 1 rfl) ?_
            refine lv_iload_n hx hb dX6_sayAll_47 rfl (lv_at hl 3 rfl) ?_
            obtain ⟨o_23, ho_23, hf⟩ := ht_bn_ob hf
            refine ht_callVi (r := o_23) (rest := []) (As := [.int x2]) (wc := (wTw K jT aT RT.laws RT.kind vT_need RT.saved RT.voice RT.partner RT.speaks RT.count RT.day RT.heard RT.geese RT.z)) (wr := []) (w1 := (wTw K jT aT RT.laws RT.kind vT_need RT.saved RT.voice RT.partner RT.speaks RT.count RT.day RT.heard RT.geese RT.z)) (w2 := (wTw K jT aT RT.laws RT.kind vT_need RT.saved RT.voice RT.partner RT.speaks RT.count RT.day RT.heard RT.geese RT.z)) hF (ctX6_saysOf l D K jT aT (RT.laws, RT.kind, vT_need, RT.saved, RT.voice, RT.partner, RT.speaks, RT.count, RT.day, RT.heard, RT.geese, RT.z) x2 o_23 ho_23 H.size) (cwV 1 hts gX6_sayAll_X6_saysOf rfl rfl rfl hdX6_saysOf ⟨Nat.le_of_ble_eq_true rfl, Nat.le_of_ble_eq_true rfl⟩) hK hP hD hS hA [0, 1, 2, 3, 4, 5, 6, 7] [] rfl rfl (by decide) (by decide) (by decide) [0, 1, 2, 3, 4, 5, 6, 7] rfl (by decide) (va_recv hK hP (ci := 6) (q0 := 0) rfl rfl) rfl hl.1 rfl (Nat.le_of_ble_eq_true rfl) dX6_sayAll_48 ⟨Nat.zero_le _, Nat.zero_le _⟩ (fun H locs hP hD hS => ?_)
            exact b51 _ hk4 x1 x2 x3_20 o_23 vT_need _ _ _ hf hP hD hS (lv_sub hl [1, 2, 3, 0] rfl)
          · replace hf := ht_f c_22 hf
            refine lv_iconst (v := 2) hx hb dX6_sayAll_36 (by decide) ?_
            refine lv_aload_n hx hb dX6_sayAll_37 rfl (lv_at hl 1 rfl) ?_
            refine lv_iload_n hx hb dX6_sayAll_38 rfl (lv_at hl 3 rfl) ?_
            obtain ⟨o_24, ho_24, hf⟩ := ht_bn_ob hf
            refine ht_callVi (r := o_24) (rest := [.int (2 : Int32)]) (As := [.int x2]) (wc := (wTw K jT aT RT.laws RT.kind vT_need RT.saved RT.voice RT.partner RT.speaks RT.count RT.day RT.heard RT.geese RT.z)) (wr := []) (w1 := (wTw K jT aT RT.laws RT.kind vT_need RT.saved RT.voice RT.partner RT.speaks RT.count RT.day RT.heard RT.geese RT.z)) (w2 := (wTw K jT aT RT.laws RT.kind vT_need RT.saved RT.voice RT.partner RT.speaks RT.count RT.day RT.heard RT.geese RT.z)) hF (ctX6_saysOf l D K jT aT (RT.laws, RT.kind, vT_need, RT.saved, RT.voice, RT.partner, RT.speaks, RT.count, RT.day, RT.heard, RT.geese, RT.z) x2 o_24 ho_24 H.size) (cwV 1 hts gX6_sayAll_X6_saysOf rfl rfl rfl hdX6_saysOf ⟨Nat.le_of_ble_eq_true rfl, Nat.le_of_ble_eq_true rfl⟩) hK hP hD hS hA [0, 1, 2, 3, 4, 5, 6, 7] [] rfl rfl (by decide) (by decide) (by decide) [0, 1, 2, 3, 4, 5, 6, 7] rfl (by decide) (va_recv hK hP (ci := 6) (q0 := 0) rfl rfl) rfl hl.1 rfl (Nat.le_of_ble_eq_true rfl) dX6_sayAll_39 ⟨Nat.zero_le _, Nat.zero_le _⟩ (fun H locs hP hD hS => ?_)
            refine lv_imul hx hb dX6_sayAll_42 ?_
            refine lv_goto (tgt := 51) hx hb dX6_sayAll_43 (by decide) ?_
            exact b51 _ hk4 x1 x2 x3_20 ((2 : Int32) * o_24) vT_need _ _ _ hf hP hD hS (lv_sub hl [1, 2, 3, 0] rfl)
  delta fX6_sayAll at hf
  refine lv_iconst (v := 0) hx hb dX6_sayAll_0 (by decide) ?_
  refine lv_istore_n (lv' := [(1, .int (0 : Int32)), (0, .ref jT)]) hx hb dX6_sayAll_1 rfl hl (by decide) rfl (fun ls hl => ?_)
  refine lv_iconst (v := 0) hx hb dX6_sayAll_2 (by decide) ?_
  refine lv_istore_n (lv' := [(2, .int (0 : Int32)), (1, .int (0 : Int32)), (0, .ref jT)]) hx hb dX6_sayAll_3 rfl hl (by decide) rfl (fun ls hl => ?_)
  exact b4  FU (0 : Int32) (0 : Int32) RT.need _ _ _ hf hP hD hS (lv_sub hl [2, 1, 0] rfl)
abbrev rmX6_saveAll : Room := { frames := 1, cells := 0, slots := 0, locals := 21 }
theorem hdX6_saveAll : yX6_saveAll.cls = RX6 ∧ yX6_saveAll.cls ≠ "java/lang/invoke/MethodHandle" ∧ yX6_saveAll.cls ≠ "java/lang/invoke/VarHandle" ∧ (parseMethodDescriptor yX6_saveAll.desc).map (fun d => d.parameters.length) = some 0 := by decide +kernel
def fX6_saveAll_b68 (RT : TownV) (k2 : Int32 → AI → AI → Option (AI × AI)) (x1 : Int32) (vT_need : AI) (vT_saved : AI) : Option (AI × AI) := ht_nm (x1 + (1 : Int32)) (fun x1_1 => k2 x1_1 vT_need vT_saved)
def fX6_saveAll_b2 (RT : TownV) (k2 : Int32 → AI → AI → Option (AI × AI)) (x1 : Int32) (vT_need : AI) (vT_saved : AI) : Option (AI × AI) := if RT.count ≤ x1 then (some (vT_need, vT_saved)) else (ht_gd (ht_ix x1 8) (if (RT.speaks x1.toNatClampNeg) = 0 then (ht_gd (ht_ix x1 8) (ht_gd (ht_ix x1 8) (ht_nm (if ((99 : Int32) - (vT_saved x1.toNatClampNeg)) < (vT_need x1.toNatClampNeg) then ((99 : Int32) - (vT_saved x1.toNatClampNeg)) else (vT_need x1.toNatClampNeg)) (fun x2_7 => ht_bn (fX6_savesOf (RT.laws, RT.kind, vT_need, vT_saved, RT.voice, RT.partner, RT.speaks, RT.count, RT.day, RT.heard, RT.geese, RT.z) x1) (fun o_8 => ht_nm (if x2_7 < o_8 then x2_7 else o_8) (fun x3_9 => ht_gd (ht_ix x1 8) (ht_gd (ht_ix x1 8) (ht_nm (upd vT_need x1.toNatClampNeg ((vT_need x1.toNatClampNeg) - x3_9)) (fun vT_need_12 => ht_gd (ht_ix x1 8) (ht_gd (ht_ix x1 8) (ht_nm (upd vT_saved x1.toNatClampNeg ((vT_saved x1.toNatClampNeg) + x3_9)) (fun vT_saved_15 => fX6_saveAll_b68 RT k2 x1 vT_need_12 vT_saved_15)))))))))))) else (fX6_saveAll_b68 RT k2 x1 vT_need vT_saved)))
def fX6_saveAll (RT : TownV) : Option (AI × AI) := ht_lp3 (fX6_saveAll_b2 RT) FU (0 : Int32) RT.need RT.saved
set_option maxHeartbeats 1000000 in
set_option maxRecDepth 100000 in
theorem ctX6_saveAll (l : Launch) (D : va_G) (K : Nat → ClassId) (jT : Nat) (aT : Nat → Nat) (RT : TownV) (o : (AI × AI)) (hf : fX6_saveAll RT = some o) (sz : Nat) : Met l yX6_saveAll wsX6_saveAll rmX6_saveAll (ht_Pre D K [.ref jT] (wTw K jT aT RT.laws RT.kind RT.need RT.saved RT.voice RT.partner RT.speaks RT.count RT.day RT.heard RT.geese RT.z) sz) (ht_Qv D K (wTw K jT aT RT.laws RT.kind o.1 o.2 RT.voice RT.partner RT.speaks RT.count RT.day RT.heard RT.geese RT.z) (va_A (wTw K jT aT RT.laws RT.kind RT.need RT.saved RT.voice RT.partner RT.speaks RT.count RT.day RT.heard RT.geese RT.z) sz)) 0 0 (va_A (wTw K jT aT RT.laws RT.kind RT.need RT.saved RT.voice RT.partner RT.speaks RT.count RT.day RT.heard RT.geese RT.z) sz) := by
  refine ht_enter (Qf := ht_Qv D K (wTw K jT aT RT.laws RT.kind o.1 o.2 RT.voice RT.partner RT.speaks RT.count RT.day RT.heard RT.geese RT.z)) (cc := cX6_saveAll) (maxL := 4) (rt := none) (by decide) rfl (Nat.le_of_ble_eq_true rfl) ?_ sz
  intro p e s m below meth c A Q H locs ls hQ hx hb hr hlk hmn hml hown hts hA hK hP hD hS hl
  have hown : s.vm.findClass RX6 = some m.cls := hown
  have hF : CallFix p m c cX6_saveAll 4 s ([.ref jT] : List Value).toArray wsX6_saveAll RX6 := ⟨hx, hb, hml, hown, hts⟩
  have hl : lv_has ls 4 [(0, .ref jT)] := hl
  have iw6 : ∀ w ∈ u_ws RX6 TX6 12, w ∈ wsX6_saveAll := by decide +kernel
  have kw1 := hts (.fieldLink RX6 41 "HeldTongues$Town" "count" "I") (by decide +kernel)
  have kw2 := hts (.fieldLink RX6 30 "HeldTongues$Town" "speaks" "[Z") (by decide +kernel)
  have kw3 := hts (.fieldLink RX6 18 "HeldTongues$Town" "need" "[I") (by decide +kernel)
  have kw4 := hts (.fieldLink RX6 21 "HeldTongues$Town" "saved" "[I") (by decide +kernel)
  have kw5 := hts (.methodLink RX6 91 Lib.Math.min.name) (by decide +kernel)
  have kw6 := hts (.static Lib.Math.min.name) (by decide +kernel)
  have kw7 := hts (.initialized "java/lang/Math") (by decide +kernel)
  have kw8 := hts (.code Lib.Math.min.name Lib.Math.min.code 2 (some .int)) (by decide +kernel)
  have b68 : ∀ (k2 : Int32 → AI → AI → Option (AI × AI)) (hk2 : ∀ (x1 : Int32) (vT_need : AI) (vT_saved : AI) (H : Heap) (locs : List Loc) (ls : Array Slot), k2 x1 vT_need vT_saved = some o → va_P D vwCl (wTw K jT aT RT.laws RT.kind vT_need vT_saved RT.voice RT.partner RT.speaks RT.count RT.day RT.heard RT.geese RT.z) H → va_D A (wTw K jT aT RT.laws RT.kind vT_need vT_saved RT.voice RT.partner RT.speaks RT.count RT.day RT.heard RT.geese RT.z) → va_S A s.heap H locs → lv_has ls 4 [(0, .ref jT), (1, .int x1)] → W p l e (headSpec wsX6_saveAll rmX6_saveAll).room s m ([.ref jT] : List Value).toArray below meth c H locs 0 0 Q (F0 m 2 ls [])) (x1 : Int32) (vT_need : AI) (vT_saved : AI) (H : Heap) (locs : List Loc) (ls : Array Slot), fX6_saveAll_b68 RT k2 x1 vT_need vT_saved = some o → va_P D vwCl (wTw K jT aT RT.laws RT.kind vT_need vT_saved RT.voice RT.partner RT.speaks RT.count RT.day RT.heard RT.geese RT.z) H → va_D A (wTw K jT aT RT.laws RT.kind vT_need vT_saved RT.voice RT.partner RT.speaks RT.count RT.day RT.heard RT.geese RT.z) → va_S A s.heap H locs → lv_has ls 4 [(0, .ref jT), (1, .int x1)] → W p l e (headSpec wsX6_saveAll rmX6_saveAll).room s m ([.ref jT] : List Value).toArray below meth c H locs 0 0 Q (F0 m 68 ls []) := by
    intro k2 hk2 x1 vT_need vT_saved H locs ls hf hP hD hS hl
    delta fX6_saveAll_b68 at hf
    obtain ⟨x1_1, ex1_1, hf⟩ := ht_nm_ob hf
    refine lv_iinc (v := x1_1) (lv' := [(1, .int x1_1), (0, .ref jT)]) hx hb dX6_saveAll_68 hl (k := 1) rfl (by rw [ex1_1]; rfl) (by decide) rfl (fun ls hl => ?_)
    refine lv_goto (tgt := 2) hx hb dX6_saveAll_71 (by decide) ?_
    exact hk2 x1_1 vT_need vT_saved _ _ _ hf hP hD hS (lv_sub hl [1, 0] rfl)
  have b2 : ∀ (n : Nat) (x1 : Int32) (vT_need : AI) (vT_saved : AI) (H : Heap) (locs : List Loc) (ls : Array Slot), ht_lp3 (fX6_saveAll_b2 RT) n x1 vT_need vT_saved = some o → va_P D vwCl (wTw K jT aT RT.laws RT.kind vT_need vT_saved RT.voice RT.partner RT.speaks RT.count RT.day RT.heard RT.geese RT.z) H → va_D A (wTw K jT aT RT.laws RT.kind vT_need vT_saved RT.voice RT.partner RT.speaks RT.count RT.day RT.heard RT.geese RT.z) → va_S A s.heap H locs → lv_has ls 4 [(0, .ref jT), (1, .int x1)] → W p l e (headSpec wsX6_saveAll rmX6_saveAll).room s m ([.ref jT] : List Value).toArray below meth c H locs 0 0 Q (F0 m 2 ls []) := by
    intro n
    induction n with
    | zero =>
      intro x1 vT_need vT_saved H locs ls hf hP hD hS hl
      cases (show (none : Option (AI × AI)) = some o from hf)
    | succ n hk2 =>
      intro x1 vT_need vT_saved H locs ls hf hP hD hS hl
      replace hf : fX6_saveAll_b2 RT (ht_lp3 (fX6_saveAll_b2 RT) n) x1 vT_need vT_saved = some o := hf
      delta fX6_saveAll_b2 at hf
      refine lv_iload_n hx hb dX6_saveAll_2 rfl (lv_at hl 1 rfl) ?_
      refine lv_aload_n hx hb dX6_saveAll_3 rfl (lv_at hl 0 rfl) ?_
      refine va_get (D := D) (ci := 6) (v := .int RT.count) (C := RX6) (T := TX6) (N := 12) hx hb hts iw6 hown hK hP 0 rfl rfl 7 (by decide) kw1 (fun _ h9 => h9) rfl dX6_saveAll_4 ?_
      refine lv_icmp_ge (tgt := 74) hx hb dX6_saveAll_7 (by decide) (fun c_2 => ?_) (fun c_2 => ?_)
      · replace hf := ht_t c_2 hf
        have ho := Option.some.inj hf
        subst ho; subst hQ
        exact ht_vret hx hb hr hlk hK hP hD hS dX6_saveAll_74
      · replace hf := ht_f c_2 hf
        refine lv_aload_n hx hb dX6_saveAll_10 rfl (lv_at hl 0 rfl) ?_
        refine va_get (D := D) (ci := 6) (v := .ref (aT 6)) (C := RX6) (T := TX6) (N := 12) hx hb hts iw6 hown hK hP 0 rfl rfl 6 (by decide) kw2 (fun _ h9 => h9) rfl dX6_saveAll_11 ?_
        refine lv_iload_n hx hb dX6_saveAll_14 rfl (lv_at hl 1 rfl) ?_
        obtain ⟨g_3, hf⟩ := ht_gd_ob hf
        refine va_zald hx hb hK hP 7 3 rfl rfl (ht_ix_in g_3) dX6_saveAll_15 ?_
        refine lv_if_ne (tgt := 68) hx hb dX6_saveAll_16 (by decide) (fun c_4 => ?_) (fun c_4 => ?_)
        · replace hf := ht_f c_4 hf
          exact b68 _ hk2 x1 vT_need vT_saved _ _ _ hf hP hD hS hl
        · replace hf := ht_t c_4 hf
          refine lv_aload_n hx hb dX6_saveAll_19 rfl (lv_at hl 0 rfl) ?_
          refine va_get (D := D) (ci := 6) (v := .ref (aT 2)) (C := RX6) (T := TX6) (N := 12) hx hb hts iw6 hown hK hP 0 rfl rfl 2 (by decide) kw3 (fun _ h9 => h9) rfl dX6_saveAll_20 ?_
          refine lv_iload_n hx hb dX6_saveAll_23 rfl (lv_at hl 1 rfl) ?_
          obtain ⟨g_5, hf⟩ := ht_gd_ob hf
          refine va_iald hx hb hK hP 3 1 rfl rfl (ht_ix_in g_5) dX6_saveAll_24 ?_
          refine lv_bipush (v := 99) hx hb dX6_saveAll_25 (by decide) ?_
          refine lv_aload_n hx hb dX6_saveAll_27 rfl (lv_at hl 0 rfl) ?_
          refine va_get (D := D) (ci := 6) (v := .ref (aT 3)) (C := RX6) (T := TX6) (N := 12) hx hb hts iw6 hown hK hP 0 rfl rfl 3 (by decide) kw4 (fun _ h9 => h9) rfl dX6_saveAll_28 ?_
          refine lv_iload_n hx hb dX6_saveAll_31 rfl (lv_at hl 1 rfl) ?_
          obtain ⟨g_6, hf⟩ := ht_gd_ob hf
          refine va_iald hx hb hK hP 4 1 rfl rfl (ht_ix_in g_6) dX6_saveAll_32 ?_
          refine lv_isub hx hb dX6_saveAll_33 ?_
          refine va_mmin hx hb (by rw [hml]; exact hl.1.symm) hown kw5 kw6 kw7 kw8 (Nat.le_of_ble_eq_true rfl) (Nat.le_of_ble_eq_true rfl) (Nat.zero_le _) (Nat.zero_le _) dX6_saveAll_34 ?_
          obtain ⟨x2_7, ex2_7, hf⟩ := ht_nm_ob hf
          rw [← ex2_7]
          refine lv_istore_n (lv' := [(2, .int x2_7), (0, .ref jT), (1, .int x1)]) hx hb dX6_saveAll_37 rfl hl (by decide) rfl (fun ls hl => ?_)
          refine lv_aload_n hx hb dX6_saveAll_38 rfl (lv_at hl 1 rfl) ?_
          refine lv_iload_n hx hb dX6_saveAll_39 rfl (lv_at hl 2 rfl) ?_
          obtain ⟨o_8, ho_8, hf⟩ := ht_bn_ob hf
          refine ht_callVi (r := o_8) (rest := []) (As := [.int x1]) (wc := (wTw K jT aT RT.laws RT.kind vT_need vT_saved RT.voice RT.partner RT.speaks RT.count RT.day RT.heard RT.geese RT.z)) (wr := []) (w1 := (wTw K jT aT RT.laws RT.kind vT_need vT_saved RT.voice RT.partner RT.speaks RT.count RT.day RT.heard RT.geese RT.z)) (w2 := (wTw K jT aT RT.laws RT.kind vT_need vT_saved RT.voice RT.partner RT.speaks RT.count RT.day RT.heard RT.geese RT.z)) hF (ctX6_savesOf l D K jT aT (RT.laws, RT.kind, vT_need, vT_saved, RT.voice, RT.partner, RT.speaks, RT.count, RT.day, RT.heard, RT.geese, RT.z) x1 o_8 ho_8 H.size) (cwV 1 hts gX6_saveAll_X6_savesOf rfl rfl rfl hdX6_savesOf ⟨Nat.le_of_ble_eq_true rfl, Nat.le_of_ble_eq_true rfl⟩) hK hP hD hS hA [0, 1, 2, 3, 4, 5, 6, 7] [] rfl rfl (by decide) (by decide) (by decide) [0, 1, 2, 3, 4, 5, 6, 7] rfl (by decide) (va_recv hK hP (ci := 6) (q0 := 0) rfl rfl) rfl hl.1 rfl (Nat.le_of_ble_eq_true rfl) dX6_saveAll_40 ⟨Nat.zero_le _, Nat.zero_le _⟩ (fun H locs hP hD hS => ?_)
          refine lv_iload_n hx hb dX6_saveAll_43 rfl (lv_at hl 0 rfl) ?_
          refine va_mmin hx hb (by rw [hml]; exact hl.1.symm) hown kw5 kw6 kw7 kw8 (Nat.le_of_ble_eq_true rfl) (Nat.le_of_ble_eq_true rfl) (Nat.zero_le _) (Nat.zero_le _) dX6_saveAll_44 ?_
          obtain ⟨x3_9, ex3_9, hf⟩ := ht_nm_ob hf
          rw [← ex3_9]
          refine lv_istore_n (lv' := [(3, .int x3_9), (2, .int x2_7), (0, .ref jT), (1, .int x1)]) hx hb dX6_saveAll_47 rfl hl (by decide) rfl (fun ls hl => ?_)
          refine lv_aload_n hx hb dX6_saveAll_48 rfl (lv_at hl 2 rfl) ?_
          refine va_get (D := D) (ci := 6) (v := .ref (aT 2)) (C := RX6) (T := TX6) (N := 12) hx hb hts iw6 hown hK hP 0 rfl rfl 2 (by decide) kw3 (fun _ h9 => h9) rfl dX6_saveAll_49 ?_
          refine lv_iload_n hx hb dX6_saveAll_52 rfl (lv_at hl 3 rfl) ?_
          refine lv_dup2_11 hx hb dX6_saveAll_53 rfl rfl ?_
          obtain ⟨g_10, hf⟩ := ht_gd_ob hf
          refine va_iald hx hb hK hP 3 1 rfl rfl (ht_ix_in g_10) dX6_saveAll_54 ?_
          refine lv_iload_n hx hb dX6_saveAll_55 rfl (lv_at hl 0 rfl) ?_
          refine lv_isub hx hb dX6_saveAll_56 ?_
          obtain ⟨g_11, hf⟩ := ht_gd_ob hf
          obtain ⟨vT_need_12, evT_need_12, hf⟩ := ht_nm_ob hf
          refine ht_iast (w2 := (wTw K jT aT RT.laws RT.kind vT_need_12 vT_saved RT.voice RT.partner RT.speaks RT.count RT.day RT.heard RT.geese RT.z)) hx hb hK hP hD hS 3 1 rfl rfl g_11 dX6_saveAll_57 evT_need_12 rfl (fun H locs hP hD hS => ?_)
          refine lv_aload_n hx hb dX6_saveAll_58 rfl (lv_at hl 2 rfl) ?_
          refine va_get (D := D) (ci := 6) (v := .ref (aT 3)) (C := RX6) (T := TX6) (N := 12) hx hb hts iw6 hown hK hP 0 rfl rfl 3 (by decide) kw4 (fun _ h9 => h9) rfl dX6_saveAll_59 ?_
          refine lv_iload_n hx hb dX6_saveAll_62 rfl (lv_at hl 3 rfl) ?_
          refine lv_dup2_11 hx hb dX6_saveAll_63 rfl rfl ?_
          obtain ⟨g_13, hf⟩ := ht_gd_ob hf
          refine va_iald hx hb hK hP 4 1 rfl rfl (ht_ix_in g_13) dX6_saveAll_64 ?_
          refine lv_iload_n hx hb dX6_saveAll_65 rfl (lv_at hl 0 rfl) ?_
          refine lv_iadd hx hb dX6_saveAll_66 ?_
          obtain ⟨g_14, hf⟩ := ht_gd_ob hf
          obtain ⟨vT_saved_15, evT_saved_15, hf⟩ := ht_nm_ob hf
          refine ht_iast (w2 := (wTw K jT aT RT.laws RT.kind vT_need_12 vT_saved_15 RT.voice RT.partner RT.speaks RT.count RT.day RT.heard RT.geese RT.z)) hx hb hK hP hD hS 4 1 rfl rfl g_14 dX6_saveAll_67 evT_saved_15 rfl (fun H locs hP hD hS => ?_)
          exact b68 _ hk2 x1 vT_need_12 vT_saved_15 _ _ _ hf hP hD hS (lv_sub hl [2, 3] rfl)
  delta fX6_saveAll at hf
  refine lv_iconst (v := 0) hx hb dX6_saveAll_0 (by decide) ?_
  refine lv_istore_n (lv' := [(1, .int (0 : Int32)), (0, .ref jT)]) hx hb dX6_saveAll_1 rfl hl (by decide) rfl (fun ls hl => ?_)
  exact b2  FU (0 : Int32) RT.need RT.saved _ _ _ hf hP hD hS (lv_sub hl [1, 0] rfl)
abbrev rmX6_changeOver : Room := { frames := 0, cells := 0, slots := 0, locals := 0 }
theorem hdX6_changeOver : yX6_changeOver.cls = RX6 ∧ yX6_changeOver.cls ≠ "java/lang/invoke/MethodHandle" ∧ yX6_changeOver.cls ≠ "java/lang/invoke/VarHandle" ∧ (parseMethodDescriptor yX6_changeOver.desc).map (fun d => d.parameters.length) = some 0 := by decide +kernel
def fX6_changeOver_b40 (RT : TownV) (k2 : Int32 → AI → Option AI) (x1 : Int32) (vT_speaks : AI) : Option AI := ht_nm (x1 + (1 : Int32)) (fun x1_1 => k2 x1_1 vT_speaks)
def fX6_changeOver_b39 (RT : TownV) (k2 : Int32 → AI → Option AI) (x1 : Int32) (t1 : Int32) (t2 : Int32) (vT_speaks : AI) : Option AI := ht_gd (ht_ix t1 8) (ht_nm (upd vT_speaks t1.toNatClampNeg (vp_nar .boolean t2)) (fun vT_speaks_3 => fX6_changeOver_b40 RT k2 x1 vT_speaks_3))
def fX6_changeOver_b2 (RT : TownV) (k2 : Int32 → AI → Option AI) (x1 : Int32) (vT_speaks : AI) : Option AI := if RT.count ≤ x1 then (some vT_speaks) else (ht_gd (ht_ix x1 8) (if (RT.partner x1.toNatClampNeg) = (-1 : Int32) then (fX6_changeOver_b40 RT k2 x1 vT_speaks) else (ht_gd (ht_ix x1 8) (if (vT_speaks x1.toNatClampNeg) = 0 then (fX6_changeOver_b39 RT k2 x1 x1 (1 : Int32) vT_speaks) else (fX6_changeOver_b39 RT k2 x1 x1 (0 : Int32) vT_speaks)))))
def fX6_changeOver (RT : TownV) : Option AI := ht_lp2 (fX6_changeOver_b2 RT) FU (0 : Int32) RT.speaks
set_option maxHeartbeats 1000000 in
set_option maxRecDepth 100000 in
theorem ctX6_changeOver (l : Launch) (D : va_G) (K : Nat → ClassId) (jT : Nat) (aT : Nat → Nat) (RT : TownV) (o : AI) (hf : fX6_changeOver RT = some o) (sz : Nat) : Met l yX6_changeOver wsX6_changeOver rmX6_changeOver (ht_Pre D K [.ref jT] (wTw K jT aT RT.laws RT.kind RT.need RT.saved RT.voice RT.partner RT.speaks RT.count RT.day RT.heard RT.geese RT.z) sz) (ht_Qv D K (wTw K jT aT RT.laws RT.kind RT.need RT.saved RT.voice RT.partner o RT.count RT.day RT.heard RT.geese RT.z) (va_A (wTw K jT aT RT.laws RT.kind RT.need RT.saved RT.voice RT.partner RT.speaks RT.count RT.day RT.heard RT.geese RT.z) sz)) 0 0 (va_A (wTw K jT aT RT.laws RT.kind RT.need RT.saved RT.voice RT.partner RT.speaks RT.count RT.day RT.heard RT.geese RT.z) sz) := by
  refine ht_enter (Qf := ht_Qv D K (wTw K jT aT RT.laws RT.kind RT.need RT.saved RT.voice RT.partner o RT.count RT.day RT.heard RT.geese RT.z)) (cc := cX6_changeOver) (maxL := 2) (rt := none) (by decide) rfl (Nat.le_of_ble_eq_true rfl) ?_ sz
  intro p e s m below meth c A Q H locs ls hQ hx hb hr hlk hmn hml hown hts hA hK hP hD hS hl
  have hown : s.vm.findClass RX6 = some m.cls := hown
  have hF : CallFix p m c cX6_changeOver 2 s ([.ref jT] : List Value).toArray wsX6_changeOver RX6 := ⟨hx, hb, hml, hown, hts⟩
  have hl : lv_has ls 2 [(0, .ref jT)] := hl
  have iw6 : ∀ w ∈ u_ws RX6 TX6 12, w ∈ wsX6_changeOver := by decide +kernel
  have kw1 := hts (.fieldLink RX6 41 "HeldTongues$Town" "count" "I") (by decide +kernel)
  have kw2 := hts (.fieldLink RX6 27 "HeldTongues$Town" "partner" "[I") (by decide +kernel)
  have kw3 := hts (.fieldLink RX6 30 "HeldTongues$Town" "speaks" "[Z") (by decide +kernel)
  have b40 : ∀ (k2 : Int32 → AI → Option AI) (hk2 : ∀ (x1 : Int32) (vT_speaks : AI) (H : Heap) (locs : List Loc) (ls : Array Slot), k2 x1 vT_speaks = some o → va_P D vwCl (wTw K jT aT RT.laws RT.kind RT.need RT.saved RT.voice RT.partner vT_speaks RT.count RT.day RT.heard RT.geese RT.z) H → va_D A (wTw K jT aT RT.laws RT.kind RT.need RT.saved RT.voice RT.partner vT_speaks RT.count RT.day RT.heard RT.geese RT.z) → va_S A s.heap H locs → lv_has ls 2 [(0, .ref jT), (1, .int x1)] → W p l e (headSpec wsX6_changeOver rmX6_changeOver).room s m ([.ref jT] : List Value).toArray below meth c H locs 0 0 Q (F0 m 2 ls [])) (x1 : Int32) (vT_speaks : AI) (H : Heap) (locs : List Loc) (ls : Array Slot), fX6_changeOver_b40 RT k2 x1 vT_speaks = some o → va_P D vwCl (wTw K jT aT RT.laws RT.kind RT.need RT.saved RT.voice RT.partner vT_speaks RT.count RT.day RT.heard RT.geese RT.z) H → va_D A (wTw K jT aT RT.laws RT.kind RT.need RT.saved RT.voice RT.partner vT_speaks RT.count RT.day RT.heard RT.geese RT.z) → va_S A s.heap H locs → lv_has ls 2 [(0, .ref jT), (1, .int x1)] → W p l e (headSpec wsX6_changeOver rmX6_changeOver).room s m ([.ref jT] : List Value).toArray below meth c H locs 0 0 Q (F0 m 40 ls []) := by
    intro k2 hk2 x1 vT_speaks H locs ls hf hP hD hS hl
    delta fX6_changeOver_b40 at hf
    obtain ⟨x1_1, ex1_1, hf⟩ := ht_nm_ob hf
    refine lv_iinc (v := x1_1) (lv' := [(1, .int x1_1), (0, .ref jT)]) hx hb dX6_changeOver_40 hl (k := 1) rfl (by rw [ex1_1]; rfl) (by decide) rfl (fun ls hl => ?_)
    refine lv_goto (tgt := 2) hx hb dX6_changeOver_43 (by decide) ?_
    exact hk2 x1_1 vT_speaks _ _ _ hf hP hD hS (lv_sub hl [1, 0] rfl)
  have b39 : ∀ (k2 : Int32 → AI → Option AI) (hk2 : ∀ (x1 : Int32) (vT_speaks : AI) (H : Heap) (locs : List Loc) (ls : Array Slot), k2 x1 vT_speaks = some o → va_P D vwCl (wTw K jT aT RT.laws RT.kind RT.need RT.saved RT.voice RT.partner vT_speaks RT.count RT.day RT.heard RT.geese RT.z) H → va_D A (wTw K jT aT RT.laws RT.kind RT.need RT.saved RT.voice RT.partner vT_speaks RT.count RT.day RT.heard RT.geese RT.z) → va_S A s.heap H locs → lv_has ls 2 [(0, .ref jT), (1, .int x1)] → W p l e (headSpec wsX6_changeOver rmX6_changeOver).room s m ([.ref jT] : List Value).toArray below meth c H locs 0 0 Q (F0 m 2 ls [])) (x1 : Int32) (t1 : Int32) (t2 : Int32) (vT_speaks : AI) (H : Heap) (locs : List Loc) (ls : Array Slot), fX6_changeOver_b39 RT k2 x1 t1 t2 vT_speaks = some o → va_P D vwCl (wTw K jT aT RT.laws RT.kind RT.need RT.saved RT.voice RT.partner vT_speaks RT.count RT.day RT.heard RT.geese RT.z) H → va_D A (wTw K jT aT RT.laws RT.kind RT.need RT.saved RT.voice RT.partner vT_speaks RT.count RT.day RT.heard RT.geese RT.z) → va_S A s.heap H locs → lv_has ls 2 [(0, .ref jT), (1, .int x1)] → W p l e (headSpec wsX6_changeOver rmX6_changeOver).room s m ([.ref jT] : List Value).toArray below meth c H locs 0 0 Q (F0 m 39 ls [.int t2, .int t1, .ref (aT 6)]) := by
    intro k2 hk2 x1 t1 t2 vT_speaks H locs ls hf hP hD hS hl
    delta fX6_changeOver_b39 at hf
    obtain ⟨g_2, hf⟩ := ht_gd_ob hf
    obtain ⟨vT_speaks_3, evT_speaks_3, hf⟩ := ht_nm_ob hf
    refine ht_zast (w2 := (wTw K jT aT RT.laws RT.kind RT.need RT.saved RT.voice RT.partner vT_speaks_3 RT.count RT.day RT.heard RT.geese RT.z)) hx hb hK hP hD hS 7 3 rfl rfl g_2 dX6_changeOver_39 evT_speaks_3 rfl (fun H locs hP hD hS => ?_)
    exact b40 _ hk2 x1 vT_speaks_3 _ _ _ hf hP hD hS hl
  have b2 : ∀ (n : Nat) (x1 : Int32) (vT_speaks : AI) (H : Heap) (locs : List Loc) (ls : Array Slot), ht_lp2 (fX6_changeOver_b2 RT) n x1 vT_speaks = some o → va_P D vwCl (wTw K jT aT RT.laws RT.kind RT.need RT.saved RT.voice RT.partner vT_speaks RT.count RT.day RT.heard RT.geese RT.z) H → va_D A (wTw K jT aT RT.laws RT.kind RT.need RT.saved RT.voice RT.partner vT_speaks RT.count RT.day RT.heard RT.geese RT.z) → va_S A s.heap H locs → lv_has ls 2 [(0, .ref jT), (1, .int x1)] → W p l e (headSpec wsX6_changeOver rmX6_changeOver).room s m ([.ref jT] : List Value).toArray below meth c H locs 0 0 Q (F0 m 2 ls []) := by
    intro n
    induction n with
    | zero =>
      intro x1 vT_speaks H locs ls hf hP hD hS hl
      cases (show (none : Option AI) = some o from hf)
    | succ n hk2 =>
      intro x1 vT_speaks H locs ls hf hP hD hS hl
      replace hf : fX6_changeOver_b2 RT (ht_lp2 (fX6_changeOver_b2 RT) n) x1 vT_speaks = some o := hf
      delta fX6_changeOver_b2 at hf
      refine lv_iload_n hx hb dX6_changeOver_2 rfl (lv_at hl 1 rfl) ?_
      refine lv_aload_n hx hb dX6_changeOver_3 rfl (lv_at hl 0 rfl) ?_
      refine va_get (D := D) (ci := 6) (v := .int RT.count) (C := RX6) (T := TX6) (N := 12) hx hb hts iw6 hown hK hP 0 rfl rfl 7 (by decide) kw1 (fun _ h9 => h9) rfl dX6_changeOver_4 ?_
      refine lv_icmp_ge (tgt := 46) hx hb dX6_changeOver_7 (by decide) (fun c_4 => ?_) (fun c_4 => ?_)
      · replace hf := ht_t c_4 hf
        have ho := Option.some.inj hf
        subst ho; subst hQ
        exact ht_vret hx hb hr hlk hK hP hD hS dX6_changeOver_46
      · replace hf := ht_f c_4 hf
        refine lv_aload_n hx hb dX6_changeOver_10 rfl (lv_at hl 0 rfl) ?_
        refine va_get (D := D) (ci := 6) (v := .ref (aT 5)) (C := RX6) (T := TX6) (N := 12) hx hb hts iw6 hown hK hP 0 rfl rfl 5 (by decide) kw2 (fun _ h9 => h9) rfl dX6_changeOver_11 ?_
        refine lv_iload_n hx hb dX6_changeOver_14 rfl (lv_at hl 1 rfl) ?_
        obtain ⟨g_5, hf⟩ := ht_gd_ob hf
        refine va_iald hx hb hK hP 6 1 rfl rfl (ht_ix_in g_5) dX6_changeOver_15 ?_
        refine lv_iconst (v := -1) hx hb dX6_changeOver_16 (by decide) ?_
        refine lv_icmp_eq (tgt := 40) hx hb dX6_changeOver_17 (by decide) (fun c_6 => ?_) (fun c_6 => ?_)
        · replace hf := ht_t c_6 hf
          exact b40 _ hk2 x1 vT_speaks _ _ _ hf hP hD hS hl
        · replace hf := ht_f c_6 hf
          refine lv_aload_n hx hb dX6_changeOver_20 rfl (lv_at hl 0 rfl) ?_
          refine va_get (D := D) (ci := 6) (v := .ref (aT 6)) (C := RX6) (T := TX6) (N := 12) hx hb hts iw6 hown hK hP 0 rfl rfl 6 (by decide) kw3 (fun _ h9 => h9) rfl dX6_changeOver_21 ?_
          refine lv_iload_n hx hb dX6_changeOver_24 rfl (lv_at hl 1 rfl) ?_
          refine lv_aload_n hx hb dX6_changeOver_25 rfl (lv_at hl 0 rfl) ?_
          refine va_get (D := D) (ci := 6) (v := .ref (aT 6)) (C := RX6) (T := TX6) (N := 12) hx hb hts iw6 hown hK hP 0 rfl rfl 6 (by decide) kw3 (fun _ h9 => h9) rfl dX6_changeOver_26 ?_
          refine lv_iload_n hx hb dX6_changeOver_29 rfl (lv_at hl 1 rfl) ?_
          obtain ⟨g_7, hf⟩ := ht_gd_ob hf
          refine va_zald hx hb hK hP 7 3 rfl rfl (ht_ix_in g_7) dX6_changeOver_30 ?_
          refine lv_if_ne (tgt := 38) hx hb dX6_changeOver_31 (by decide) (fun c_8 => ?_) (fun c_8 => ?_)
          · replace hf := ht_f c_8 hf
            refine lv_iconst (v := 0) hx hb dX6_changeOver_38 (by decide) ?_
            exact b39 _ hk2 x1 x1 (0 : Int32) vT_speaks _ _ _ hf hP hD hS hl
          · replace hf := ht_t c_8 hf
            refine lv_iconst (v := 1) hx hb dX6_changeOver_34 (by decide) ?_
            refine lv_goto (tgt := 39) hx hb dX6_changeOver_35 (by decide) ?_
            exact b39 _ hk2 x1 x1 (1 : Int32) vT_speaks _ _ _ hf hP hD hS hl
  delta fX6_changeOver at hf
  refine lv_iconst (v := 0) hx hb dX6_changeOver_0 (by decide) ?_
  refine lv_istore_n (lv' := [(1, .int (0 : Int32)), (0, .ref jT)]) hx hb dX6_changeOver_1 rfl hl (by decide) rfl (fun ls hl => ?_)
  exact b2  FU (0 : Int32) RT.speaks _ _ _ hf hP hD hS (lv_sub hl [1, 0] rfl)
abbrev rmX6_passDay : Room := { frames := 3, cells := 0, slots := 0, locals := 68 }
theorem hdX6_passDay : yX6_passDay.cls = RX6 ∧ yX6_passDay.cls ≠ "java/lang/invoke/MethodHandle" ∧ yX6_passDay.cls ≠ "java/lang/invoke/VarHandle" ∧ (parseMethodDescriptor yX6_passDay.desc).map (fun d => d.parameters.length) = some 0 := by decide +kernel
def fX6_passDay (RT : TownV) : Option (Int32 × AI × AI × AI × Int32 × Int32 × Int32) := ht_bn (fX6_growAll RT) (fun o_1 => ht_bn (fX6_sayAll (RT.laws, RT.kind, o_1.1, RT.saved, RT.voice, RT.partner, RT.speaks, RT.count, RT.day, RT.heard, o_1.2, RT.z)) (fun o_2 => ht_nm o_2.1 (fun x1_3 => ht_bn (fX6_saveAll (RT.laws, RT.kind, o_2.2, RT.saved, RT.voice, RT.partner, RT.speaks, RT.count, RT.day, RT.heard, o_1.2, RT.z)) (fun o_4 => ht_bn (fX6_changeOver (RT.laws, RT.kind, o_4.1, o_4.2, RT.voice, RT.partner, RT.speaks, RT.count, RT.day, RT.heard, o_1.2, RT.z)) (fun o_5 => ht_nm (if (RT.heard + x1_3) < (99999 : Int32) then (RT.heard + x1_3) else (99999 : Int32)) (fun vT_heard_6 => ht_nm (RT.day + (1 : Int32)) (fun vT_day_7 => some (x1_3, o_4.1, o_4.2, o_5, vT_day_7, vT_heard_6, o_1.2))))))))
set_option maxHeartbeats 1000000 in
set_option maxRecDepth 100000 in
theorem ctX6_passDay (l : Launch) (D : va_G) (K : Nat → ClassId) (jT : Nat) (aT : Nat → Nat) (RT : TownV) (o : (Int32 × AI × AI × AI × Int32 × Int32 × Int32)) (hf : fX6_passDay RT = some o) (sz : Nat) : Met l yX6_passDay wsX6_passDay rmX6_passDay (ht_Pre D K [.ref jT] (wTw K jT aT RT.laws RT.kind RT.need RT.saved RT.voice RT.partner RT.speaks RT.count RT.day RT.heard RT.geese RT.z) sz) (ht_Qi D K (wTw K jT aT RT.laws RT.kind o.2.1 o.2.2.1 RT.voice RT.partner o.2.2.2.1 RT.count o.2.2.2.2.1 o.2.2.2.2.2.1 o.2.2.2.2.2.2 RT.z) o.1 (va_A (wTw K jT aT RT.laws RT.kind RT.need RT.saved RT.voice RT.partner RT.speaks RT.count RT.day RT.heard RT.geese RT.z) sz)) 0 0 (va_A (wTw K jT aT RT.laws RT.kind RT.need RT.saved RT.voice RT.partner RT.speaks RT.count RT.day RT.heard RT.geese RT.z) sz) := by
  refine ht_enter (Qf := ht_Qi D K (wTw K jT aT RT.laws RT.kind o.2.1 o.2.2.1 RT.voice RT.partner o.2.2.2.1 RT.count o.2.2.2.2.1 o.2.2.2.2.2.1 o.2.2.2.2.2.2 RT.z) o.1) (cc := cX6_passDay) (maxL := 2) (rt := (some .int)) (by decide) rfl (Nat.le_of_ble_eq_true rfl) ?_ sz
  intro p e s m below meth c A Q H locs ls hQ hx hb hr hlk hmn hml hown hts hA hK hP hD hS hl
  have hown : s.vm.findClass RX6 = some m.cls := hown
  have hF : CallFix p m c cX6_passDay 2 s ([.ref jT] : List Value).toArray wsX6_passDay RX6 := ⟨hx, hb, hml, hown, hts⟩
  have hl : lv_has ls 2 [(0, .ref jT)] := hl
  have kw0 := hts (.constant RX6 90 (99999)) (by decide +kernel)
  have iw6 : ∀ w ∈ u_ws RX6 TX6 12, w ∈ wsX6_passDay := by decide +kernel
  have kw2 := hts (.fieldLink RX6 47 "HeldTongues$Town" "heard" "I") (by decide +kernel)
  have kw3 := hts (.methodLink RX6 91 Lib.Math.min.name) (by decide +kernel)
  have kw4 := hts (.static Lib.Math.min.name) (by decide +kernel)
  have kw5 := hts (.initialized "java/lang/Math") (by decide +kernel)
  have kw6 := hts (.code Lib.Math.min.name Lib.Math.min.code 2 (some .int)) (by decide +kernel)
  have kw7 := hts (.fieldLink RX6 44 "HeldTongues$Town" "day" "I") (by decide +kernel)
  delta fX6_passDay at hf
  refine lv_aload_n hx hb dX6_passDay_0 rfl (lv_at hl 0 rfl) ?_
  obtain ⟨o_1, ho_1, hf⟩ := ht_bn_ob hf
  refine ht_callVv (rest := []) (As := []) (wc := (wTw K jT aT RT.laws RT.kind RT.need RT.saved RT.voice RT.partner RT.speaks RT.count RT.day RT.heard RT.geese RT.z)) (wr := []) (w1 := (wTw K jT aT RT.laws RT.kind o_1.1 RT.saved RT.voice RT.partner RT.speaks RT.count RT.day RT.heard o_1.2 RT.z)) (w2 := (wTw K jT aT RT.laws RT.kind o_1.1 RT.saved RT.voice RT.partner RT.speaks RT.count RT.day RT.heard o_1.2 RT.z)) hF (ctX6_growAll l D K jT aT RT o_1 ho_1 H.size) (cwV 0 hts gX6_passDay_X6_growAll rfl rfl rfl hdX6_growAll ⟨Nat.le_of_ble_eq_true rfl, Nat.le_of_ble_eq_true rfl⟩) hK hP hD hS hA [0, 1, 2, 3, 4, 5, 6, 7] [] rfl rfl (by decide) (by decide) (by decide) [0, 1, 2, 3, 4, 5, 6, 7] rfl (by decide) (va_recv hK hP (ci := 6) (q0 := 0) rfl rfl) rfl hl.1 rfl (Nat.le_of_ble_eq_true rfl) dX6_passDay_1 ⟨Nat.zero_le _, Nat.zero_le _⟩ (fun H locs hP hD hS => ?_)
  refine lv_aload_n hx hb dX6_passDay_4 rfl (lv_at hl 0 rfl) ?_
  obtain ⟨o_2, ho_2, hf⟩ := ht_bn_ob hf
  refine ht_callVi (r := o_2.1) (rest := []) (As := []) (wc := (wTw K jT aT RT.laws RT.kind o_1.1 RT.saved RT.voice RT.partner RT.speaks RT.count RT.day RT.heard o_1.2 RT.z)) (wr := []) (w1 := (wTw K jT aT RT.laws RT.kind o_2.2 RT.saved RT.voice RT.partner RT.speaks RT.count RT.day RT.heard o_1.2 RT.z)) (w2 := (wTw K jT aT RT.laws RT.kind o_2.2 RT.saved RT.voice RT.partner RT.speaks RT.count RT.day RT.heard o_1.2 RT.z)) hF (ctX6_sayAll l D K jT aT (RT.laws, RT.kind, o_1.1, RT.saved, RT.voice, RT.partner, RT.speaks, RT.count, RT.day, RT.heard, o_1.2, RT.z) o_2 ho_2 H.size) (cwV 0 hts gX6_passDay_X6_sayAll rfl rfl rfl hdX6_sayAll ⟨Nat.le_of_ble_eq_true rfl, Nat.le_of_ble_eq_true rfl⟩) hK hP hD hS hA [0, 1, 2, 3, 4, 5, 6, 7] [] rfl rfl (by decide) (by decide) (by decide) [0, 1, 2, 3, 4, 5, 6, 7] rfl (by decide) (va_recv hK hP (ci := 6) (q0 := 0) rfl rfl) rfl hl.1 rfl (Nat.le_of_ble_eq_true rfl) dX6_passDay_5 ⟨Nat.zero_le _, Nat.zero_le _⟩ (fun H locs hP hD hS => ?_)
  obtain ⟨x1_3, ex1_3, hf⟩ := ht_nm_ob hf
  rw [← ex1_3]
  refine lv_istore_n (lv' := [(1, .int x1_3), (0, .ref jT)]) hx hb dX6_passDay_8 rfl hl (by decide) rfl (fun ls hl => ?_)
  refine lv_aload_n hx hb dX6_passDay_9 rfl (lv_at hl 1 rfl) ?_
  obtain ⟨o_4, ho_4, hf⟩ := ht_bn_ob hf
  refine ht_callVv (rest := []) (As := []) (wc := (wTw K jT aT RT.laws RT.kind o_2.2 RT.saved RT.voice RT.partner RT.speaks RT.count RT.day RT.heard o_1.2 RT.z)) (wr := []) (w1 := (wTw K jT aT RT.laws RT.kind o_4.1 o_4.2 RT.voice RT.partner RT.speaks RT.count RT.day RT.heard o_1.2 RT.z)) (w2 := (wTw K jT aT RT.laws RT.kind o_4.1 o_4.2 RT.voice RT.partner RT.speaks RT.count RT.day RT.heard o_1.2 RT.z)) hF (ctX6_saveAll l D K jT aT (RT.laws, RT.kind, o_2.2, RT.saved, RT.voice, RT.partner, RT.speaks, RT.count, RT.day, RT.heard, o_1.2, RT.z) o_4 ho_4 H.size) (cwV 0 hts gX6_passDay_X6_saveAll rfl rfl rfl hdX6_saveAll ⟨Nat.le_of_ble_eq_true rfl, Nat.le_of_ble_eq_true rfl⟩) hK hP hD hS hA [0, 1, 2, 3, 4, 5, 6, 7] [] rfl rfl (by decide) (by decide) (by decide) [0, 1, 2, 3, 4, 5, 6, 7] rfl (by decide) (va_recv hK hP (ci := 6) (q0 := 0) rfl rfl) rfl hl.1 rfl (Nat.le_of_ble_eq_true rfl) dX6_passDay_10 ⟨Nat.zero_le _, Nat.zero_le _⟩ (fun H locs hP hD hS => ?_)
  refine lv_aload_n hx hb dX6_passDay_13 rfl (lv_at hl 1 rfl) ?_
  obtain ⟨o_5, ho_5, hf⟩ := ht_bn_ob hf
  refine ht_callVv (rest := []) (As := []) (wc := (wTw K jT aT RT.laws RT.kind o_4.1 o_4.2 RT.voice RT.partner RT.speaks RT.count RT.day RT.heard o_1.2 RT.z)) (wr := []) (w1 := (wTw K jT aT RT.laws RT.kind o_4.1 o_4.2 RT.voice RT.partner o_5 RT.count RT.day RT.heard o_1.2 RT.z)) (w2 := (wTw K jT aT RT.laws RT.kind o_4.1 o_4.2 RT.voice RT.partner o_5 RT.count RT.day RT.heard o_1.2 RT.z)) hF (ctX6_changeOver l D K jT aT (RT.laws, RT.kind, o_4.1, o_4.2, RT.voice, RT.partner, RT.speaks, RT.count, RT.day, RT.heard, o_1.2, RT.z) o_5 ho_5 H.size) (cwV 0 hts gX6_passDay_X6_changeOver rfl rfl rfl hdX6_changeOver ⟨Nat.le_of_ble_eq_true rfl, Nat.le_of_ble_eq_true rfl⟩) hK hP hD hS hA [0, 1, 2, 3, 4, 5, 6, 7] [] rfl rfl (by decide) (by decide) (by decide) [0, 1, 2, 3, 4, 5, 6, 7] rfl (by decide) (va_recv hK hP (ci := 6) (q0 := 0) rfl rfl) rfl hl.1 rfl (Nat.le_of_ble_eq_true rfl) dX6_passDay_14 ⟨Nat.zero_le _, Nat.zero_le _⟩ (fun H locs hP hD hS => ?_)
  refine lv_aload_n hx hb dX6_passDay_17 rfl (lv_at hl 1 rfl) ?_
  refine lv_ldc hx hb hown kw0 dX6_passDay_18 ?_
  refine lv_aload_n hx hb dX6_passDay_20 rfl (lv_at hl 1 rfl) ?_
  refine va_get (D := D) (ci := 6) (v := .int RT.heard) (C := RX6) (T := TX6) (N := 12) hx hb hts iw6 hown hK hP 0 rfl rfl 9 (by decide) kw2 (fun _ h9 => h9) rfl dX6_passDay_21 ?_
  refine lv_iload_n hx hb dX6_passDay_24 rfl (lv_at hl 0 rfl) ?_
  refine lv_iadd hx hb dX6_passDay_25 ?_
  refine va_mmin hx hb (by rw [hml]; exact hl.1.symm) hown kw3 kw4 kw5 kw6 (Nat.le_of_ble_eq_true rfl) (Nat.le_of_ble_eq_true rfl) (Nat.zero_le _) (Nat.zero_le _) dX6_passDay_26 ?_
  obtain ⟨vT_heard_6, evT_heard_6, hf⟩ := ht_nm_ob hf
  rw [← evT_heard_6]
  refine ht_put (ci := 6) (v := .int vT_heard_6) (ty := .int) (C := RX6) (T := TX6) (N := 12) (w2 := (wTw K jT aT RT.laws RT.kind o_4.1 o_4.2 RT.voice RT.partner o_5 RT.count RT.day vT_heard_6 o_1.2 RT.z)) hx hb hts iw6 tyX6 tyX6_ok nmX6 hown hK hP hD hS 0 rfl rfl 9 (by decide) kw2 (fun _ h9 => h9) rfl (by decide +kernel) rfl rfl (Nat.le_of_ble_eq_true rfl) dX6_passDay_29 rfl (fun H locs hP hD hS => ?_)
  refine lv_aload_n hx hb dX6_passDay_32 rfl (lv_at hl 1 rfl) ?_
  refine lv_dup hx hb dX6_passDay_33 rfl ?_
  refine va_get (D := D) (ci := 6) (v := .int RT.day) (C := RX6) (T := TX6) (N := 12) hx hb hts iw6 hown hK hP 0 rfl rfl 8 (by decide) kw7 (fun _ h9 => h9) rfl dX6_passDay_34 ?_
  refine lv_iconst (v := 1) hx hb dX6_passDay_37 (by decide) ?_
  refine lv_iadd hx hb dX6_passDay_38 ?_
  obtain ⟨vT_day_7, evT_day_7, hf⟩ := ht_nm_ob hf
  rw [← evT_day_7]
  refine ht_put (ci := 6) (v := .int vT_day_7) (ty := .int) (C := RX6) (T := TX6) (N := 12) (w2 := (wTw K jT aT RT.laws RT.kind o_4.1 o_4.2 RT.voice RT.partner o_5 RT.count vT_day_7 vT_heard_6 o_1.2 RT.z)) hx hb hts iw6 tyX6 tyX6_ok nmX6 hown hK hP hD hS 0 rfl rfl 8 (by decide) kw7 (fun _ h9 => h9) rfl (by decide +kernel) rfl rfl (Nat.le_of_ble_eq_true rfl) dX6_passDay_39 rfl (fun H locs hP hD hS => ?_)
  refine lv_iload_n hx hb dX6_passDay_42 rfl (lv_at hl 0 rfl) ?_
  have ho := Option.some.inj hf
  subst ho; subst hQ
  exact ht_iret hx hb hr hlk rfl hK hP hD hS dX6_passDay_43
abbrev rmX6_pass : Room := { frames := 4, cells := 0, slots := 0, locals := 89 }
theorem hdX6_pass : yX6_pass.cls = RX6 ∧ yX6_pass.cls ≠ "java/lang/invoke/MethodHandle" ∧ yX6_pass.cls ≠ "java/lang/invoke/VarHandle" ∧ (parseMethodDescriptor yX6_pass.desc).map (fun d => d.parameters.length) = some 1 := by decide +kernel
def fX6_pass_b4 (RT : TownV) (k4 : Int32 → Int32 → Int32 → AI → AI → AI → Int32 → Int32 → Int32 → Option (Int32 × AI × AI × AI × Int32 × Int32 × Int32)) (x1 : Int32) (x2 : Int32) (x3 : Int32) (vT_need : AI) (vT_saved : AI) (vT_speaks : AI) (vT_day : Int32) (vT_heard : Int32) (vT_geese : Int32) : Option (Int32 × AI × AI × AI × Int32 × Int32 × Int32) := if x1 ≤ x3 then (some (x2, vT_need, vT_saved, vT_speaks, vT_day, vT_heard, vT_geese)) else (ht_bn (fX6_passDay (RT.laws, RT.kind, vT_need, vT_saved, RT.voice, RT.partner, vT_speaks, RT.count, vT_day, vT_heard, vT_geese, RT.z)) (fun o_2 => ht_nm (x2 + o_2.1) (fun x2_3 => ht_nm (x3 + (1 : Int32)) (fun x3_4 => k4 x1 x2_3 x3_4 o_2.2.1 o_2.2.2.1 o_2.2.2.2.1 o_2.2.2.2.2.1 o_2.2.2.2.2.2.1 o_2.2.2.2.2.2.2))))
def fX6_pass (RT : TownV) (p0 : Int32) : Option (Int32 × AI × AI × AI × Int32 × Int32 × Int32) := ht_lp9 (fX6_pass_b4 RT) FU p0 (0 : Int32) (0 : Int32) RT.need RT.saved RT.speaks RT.day RT.heard RT.geese
set_option maxHeartbeats 1000000 in
set_option maxRecDepth 100000 in
theorem ctX6_pass (l : Launch) (D : va_G) (K : Nat → ClassId) (jT : Nat) (aT : Nat → Nat) (RT : TownV) (p0 : Int32) (o : (Int32 × AI × AI × AI × Int32 × Int32 × Int32)) (hf : fX6_pass RT p0 = some o) (sz : Nat) : Met l yX6_pass wsX6_pass rmX6_pass (ht_Pre D K [.ref jT, .int p0] (wTw K jT aT RT.laws RT.kind RT.need RT.saved RT.voice RT.partner RT.speaks RT.count RT.day RT.heard RT.geese RT.z) sz) (ht_Qi D K (wTw K jT aT RT.laws RT.kind o.2.1 o.2.2.1 RT.voice RT.partner o.2.2.2.1 RT.count o.2.2.2.2.1 o.2.2.2.2.2.1 o.2.2.2.2.2.2 RT.z) o.1 (va_A (wTw K jT aT RT.laws RT.kind RT.need RT.saved RT.voice RT.partner RT.speaks RT.count RT.day RT.heard RT.geese RT.z) sz)) 0 0 (va_A (wTw K jT aT RT.laws RT.kind RT.need RT.saved RT.voice RT.partner RT.speaks RT.count RT.day RT.heard RT.geese RT.z) sz) := by
  refine ht_enter (Qf := ht_Qi D K (wTw K jT aT RT.laws RT.kind o.2.1 o.2.2.1 RT.voice RT.partner o.2.2.2.1 RT.count o.2.2.2.2.1 o.2.2.2.2.2.1 o.2.2.2.2.2.2 RT.z) o.1) (cc := cX6_pass) (maxL := 4) (rt := (some .int)) (by decide) rfl (Nat.le_of_ble_eq_true rfl) ?_ sz
  intro p e s m below meth c A Q H locs ls hQ hx hb hr hlk hmn hml hown hts hA hK hP hD hS hl
  have hown : s.vm.findClass RX6 = some m.cls := hown
  have hF : CallFix p m c cX6_pass 4 s ([.ref jT, .int p0] : List Value).toArray wsX6_pass RX6 := ⟨hx, hb, hml, hown, hts⟩
  have hl : lv_has ls 4 [(0, .ref jT), (1, .int p0)] := hl
  have b4 : ∀ (n : Nat) (x1 : Int32) (x2 : Int32) (x3 : Int32) (vT_need : AI) (vT_saved : AI) (vT_speaks : AI) (vT_day : Int32) (vT_heard : Int32) (vT_geese : Int32) (H : Heap) (locs : List Loc) (ls : Array Slot), ht_lp9 (fX6_pass_b4 RT) n x1 x2 x3 vT_need vT_saved vT_speaks vT_day vT_heard vT_geese = some o → va_P D vwCl (wTw K jT aT RT.laws RT.kind vT_need vT_saved RT.voice RT.partner vT_speaks RT.count vT_day vT_heard vT_geese RT.z) H → va_D A (wTw K jT aT RT.laws RT.kind vT_need vT_saved RT.voice RT.partner vT_speaks RT.count vT_day vT_heard vT_geese RT.z) → va_S A s.heap H locs → lv_has ls 4 [(0, .ref jT), (1, .int x1), (2, .int x2), (3, .int x3)] → W p l e (headSpec wsX6_pass rmX6_pass).room s m ([.ref jT, .int p0] : List Value).toArray below meth c H locs 0 0 Q (F0 m 4 ls []) := by
    intro n
    induction n with
    | zero =>
      intro x1 x2 x3 vT_need vT_saved vT_speaks vT_day vT_heard vT_geese H locs ls hf hP hD hS hl
      cases (show (none : Option (Int32 × AI × AI × AI × Int32 × Int32 × Int32)) = some o from hf)
    | succ n hk4 =>
      intro x1 x2 x3 vT_need vT_saved vT_speaks vT_day vT_heard vT_geese H locs ls hf hP hD hS hl
      replace hf : fX6_pass_b4 RT (ht_lp9 (fX6_pass_b4 RT) n) x1 x2 x3 vT_need vT_saved vT_speaks vT_day vT_heard vT_geese = some o := hf
      delta fX6_pass_b4 at hf
      refine lv_iload_n hx hb dX6_pass_4 rfl (lv_at hl 3 rfl) ?_
      refine lv_iload_n hx hb dX6_pass_5 rfl (lv_at hl 1 rfl) ?_
      refine lv_icmp_ge (tgt := 22) hx hb dX6_pass_6 (by decide) (fun c_1 => ?_) (fun c_1 => ?_)
      · replace hf := ht_t c_1 hf
        refine lv_iload_n hx hb dX6_pass_22 rfl (lv_at hl 2 rfl) ?_
        have ho := Option.some.inj hf
        subst ho; subst hQ
        exact ht_iret hx hb hr hlk rfl hK hP hD hS dX6_pass_23
      · replace hf := ht_f c_1 hf
        refine lv_iload_n hx hb dX6_pass_9 rfl (lv_at hl 2 rfl) ?_
        refine lv_aload_n hx hb dX6_pass_10 rfl (lv_at hl 0 rfl) ?_
        obtain ⟨o_2, ho_2, hf⟩ := ht_bn_ob hf
        refine ht_callVi (r := o_2.1) (rest := [.int x2]) (As := []) (wc := (wTw K jT aT RT.laws RT.kind vT_need vT_saved RT.voice RT.partner vT_speaks RT.count vT_day vT_heard vT_geese RT.z)) (wr := []) (w1 := (wTw K jT aT RT.laws RT.kind o_2.2.1 o_2.2.2.1 RT.voice RT.partner o_2.2.2.2.1 RT.count o_2.2.2.2.2.1 o_2.2.2.2.2.2.1 o_2.2.2.2.2.2.2 RT.z)) (w2 := (wTw K jT aT RT.laws RT.kind o_2.2.1 o_2.2.2.1 RT.voice RT.partner o_2.2.2.2.1 RT.count o_2.2.2.2.2.1 o_2.2.2.2.2.2.1 o_2.2.2.2.2.2.2 RT.z)) hF (ctX6_passDay l D K jT aT (RT.laws, RT.kind, vT_need, vT_saved, RT.voice, RT.partner, vT_speaks, RT.count, vT_day, vT_heard, vT_geese, RT.z) o_2 ho_2 H.size) (cwV 0 hts gX6_pass_X6_passDay rfl rfl rfl hdX6_passDay ⟨Nat.le_of_ble_eq_true rfl, Nat.le_of_ble_eq_true rfl⟩) hK hP hD hS hA [0, 1, 2, 3, 4, 5, 6, 7] [] rfl rfl (by decide) (by decide) (by decide) [0, 1, 2, 3, 4, 5, 6, 7] rfl (by decide) (va_recv hK hP (ci := 6) (q0 := 0) rfl rfl) rfl hl.1 rfl (Nat.le_of_ble_eq_true rfl) dX6_pass_11 ⟨Nat.zero_le _, Nat.zero_le _⟩ (fun H locs hP hD hS => ?_)
        refine lv_iadd hx hb dX6_pass_14 ?_
        obtain ⟨x2_3, ex2_3, hf⟩ := ht_nm_ob hf
        rw [← ex2_3]
        refine lv_istore_n (lv' := [(2, .int x2_3), (0, .ref jT), (1, .int x1), (3, .int x3)]) hx hb dX6_pass_15 rfl hl (by decide) rfl (fun ls hl => ?_)
        obtain ⟨x3_4, ex3_4, hf⟩ := ht_nm_ob hf
        refine lv_iinc (v := x3_4) (lv' := [(3, .int x3_4), (2, .int x2_3), (0, .ref jT), (1, .int x1)]) hx hb dX6_pass_16 hl (k := 3) rfl (by rw [ex3_4]; rfl) (by decide) rfl (fun ls hl => ?_)
        refine lv_goto (tgt := 4) hx hb dX6_pass_19 (by decide) ?_
        exact hk4 x1 x2_3 x3_4 o_2.2.1 o_2.2.2.1 o_2.2.2.2.1 o_2.2.2.2.2.1 o_2.2.2.2.2.2.1 o_2.2.2.2.2.2.2 _ _ _ hf hP hD hS (lv_sub hl [2, 3, 1, 0] rfl)
  delta fX6_pass at hf
  refine lv_iconst (v := 0) hx hb dX6_pass_0 (by decide) ?_
  refine lv_istore_n (lv' := [(2, .int (0 : Int32)), (0, .ref jT), (1, .int p0)]) hx hb dX6_pass_1 rfl hl (by decide) rfl (fun ls hl => ?_)
  refine lv_iconst (v := 0) hx hb dX6_pass_2 (by decide) ?_
  refine lv_istore_n (lv' := [(3, .int (0 : Int32)), (2, .int (0 : Int32)), (0, .ref jT), (1, .int p0)]) hx hb dX6_pass_3 rfl hl (by decide) rfl (fun ls hl => ?_)
  exact b4  FU p0 (0 : Int32) (0 : Int32) RT.need RT.saved RT.speaks RT.day RT.heard RT.geese _ _ _ hf hP hD hS (lv_sub hl [2, 3, 1, 0] rfl)
abbrev rmX6_draw : Room := { frames := 0, cells := 0, slots := 0, locals := 0 }
theorem hdX6_draw : yX6_draw.cls = RX6 ∧ yX6_draw.cls ≠ "java/lang/invoke/MethodHandle" ∧ yX6_draw.cls ≠ "java/lang/invoke/VarHandle" ∧ (parseMethodDescriptor yX6_draw.desc).map (fun d => d.parameters.length) = some 0 := by decide +kernel
def fX6_draw (RT : TownV) : Option (Int32 × Int32) := ht_nm ((RT.z * (1103515245 : Int32)) + (12345 : Int32)) (fun vT_z_1 => some ((vT_z_1.toUInt32 >>> ((16 : Int32).toUInt32 &&& Int32.toUInt32 31)).toInt32, vT_z_1))
set_option maxHeartbeats 1000000 in
set_option maxRecDepth 100000 in
theorem ctX6_draw (l : Launch) (D : va_G) (K : Nat → ClassId) (jT : Nat) (aT : Nat → Nat) (RT : TownV) (o : (Int32 × Int32)) (hf : fX6_draw RT = some o) (sz : Nat) : Met l yX6_draw wsX6_draw rmX6_draw (ht_Pre D K [.ref jT] (wTw K jT aT RT.laws RT.kind RT.need RT.saved RT.voice RT.partner RT.speaks RT.count RT.day RT.heard RT.geese RT.z) sz) (ht_Qi D K (wTw K jT aT RT.laws RT.kind RT.need RT.saved RT.voice RT.partner RT.speaks RT.count RT.day RT.heard RT.geese o.2) o.1 (va_A (wTw K jT aT RT.laws RT.kind RT.need RT.saved RT.voice RT.partner RT.speaks RT.count RT.day RT.heard RT.geese RT.z) sz)) 0 0 (va_A (wTw K jT aT RT.laws RT.kind RT.need RT.saved RT.voice RT.partner RT.speaks RT.count RT.day RT.heard RT.geese RT.z) sz) := by
  refine ht_enter (Qf := ht_Qi D K (wTw K jT aT RT.laws RT.kind RT.need RT.saved RT.voice RT.partner RT.speaks RT.count RT.day RT.heard RT.geese o.2) o.1) (cc := cX6_draw) (maxL := 1) (rt := (some .int)) (by decide) rfl (Nat.le_of_ble_eq_true rfl) ?_ sz
  intro p e s m below meth c A Q H locs ls hQ hx hb hr hlk hmn hml hown hts hA hK hP hD hS hl
  have hown : s.vm.findClass RX6 = some m.cls := hown
  have hF : CallFix p m c cX6_draw 1 s ([.ref jT] : List Value).toArray wsX6_draw RX6 := ⟨hx, hb, hml, hown, hts⟩
  have hl : lv_has ls 1 [(0, .ref jT)] := hl
  have iw6 : ∀ w ∈ u_ws RX6 TX6 12, w ∈ wsX6_draw := by decide +kernel
  have kw1 := hts (.fieldLink RX6 37 "HeldTongues$Town" "z" "I") (by decide +kernel)
  have kw2 := hts (.constant RX6 114 (1103515245)) (by decide +kernel)
  delta fX6_draw at hf
  refine lv_aload_n hx hb dX6_draw_0 rfl (lv_at hl 0 rfl) ?_
  refine lv_aload_n hx hb dX6_draw_1 rfl (lv_at hl 0 rfl) ?_
  refine va_get (D := D) (ci := 6) (v := .int RT.z) (C := RX6) (T := TX6) (N := 12) hx hb hts iw6 hown hK hP 0 rfl rfl 11 (by decide) kw1 (fun _ h9 => h9) rfl dX6_draw_2 ?_
  refine lv_ldc hx hb hown kw2 dX6_draw_5 ?_
  refine lv_imul hx hb dX6_draw_7 ?_
  refine lv_sipush (v := 12345) hx hb dX6_draw_8 (by decide) ?_
  refine lv_iadd hx hb dX6_draw_11 ?_
  obtain ⟨vT_z_1, evT_z_1, hf⟩ := ht_nm_ob hf
  rw [← evT_z_1]
  refine ht_put (ci := 6) (v := .int vT_z_1) (ty := .int) (C := RX6) (T := TX6) (N := 12) (w2 := (wTw K jT aT RT.laws RT.kind RT.need RT.saved RT.voice RT.partner RT.speaks RT.count RT.day RT.heard RT.geese vT_z_1)) hx hb hts iw6 tyX6 tyX6_ok nmX6 hown hK hP hD hS 0 rfl rfl 11 (by decide) kw1 (fun _ h9 => h9) rfl (by decide +kernel) rfl rfl (Nat.le_of_ble_eq_true rfl) dX6_draw_12 rfl (fun H locs hP hD hS => ?_)
  refine lv_aload_n hx hb dX6_draw_15 rfl (lv_at hl 0 rfl) ?_
  refine va_get (D := D) (ci := 6) (v := .int vT_z_1) (C := RX6) (T := TX6) (N := 12) hx hb hts iw6 hown hK hP 0 rfl rfl 11 (by decide) kw1 (fun _ h9 => h9) rfl dX6_draw_16 ?_
  refine lv_bipush (v := 16) hx hb dX6_draw_19 (by decide) ?_
  refine lv_iushr hx hb dX6_draw_21 rfl ?_
  have ho := Option.some.inj hf
  subst ho; subst hQ
  exact ht_iret hx hb hr hlk rfl hK hP hD hS dX6_draw_22
abbrev rmX6_joinByLot : Room := { frames := 3, cells := 0, slots := 0, locals := 65 }
theorem hdX6_joinByLot : yX6_joinByLot.cls = RX6 ∧ yX6_joinByLot.cls ≠ "java/lang/invoke/MethodHandle" ∧ yX6_joinByLot.cls ≠ "java/lang/invoke/VarHandle" ∧ (parseMethodDescriptor yX6_joinByLot.desc).map (fun d => d.parameters.length) = some 2 := by decide +kernel
def fX6_joinByLot (RT : TownV) (p0 : Int32) (p1 : Int32) : Option (AI × AI) := if p0 = p1 then (ht_bn (fX6_unjoin RT p0) (fun o_3 => some (o_3.1, o_3.2))) else (ht_bn (fX6_join RT p0 p1) (fun o_2 => some (o_2.1, o_2.2)))
set_option maxHeartbeats 1000000 in
set_option maxRecDepth 100000 in
theorem ctX6_joinByLot (l : Launch) (D : va_G) (K : Nat → ClassId) (jT : Nat) (aT : Nat → Nat) (RT : TownV) (p0 : Int32) (p1 : Int32) (o : (AI × AI)) (hf : fX6_joinByLot RT p0 p1 = some o) (sz : Nat) : Met l yX6_joinByLot wsX6_joinByLot rmX6_joinByLot (ht_Pre D K [.ref jT, .int p0, .int p1] (wTw K jT aT RT.laws RT.kind RT.need RT.saved RT.voice RT.partner RT.speaks RT.count RT.day RT.heard RT.geese RT.z) sz) (ht_Qv D K (wTw K jT aT RT.laws RT.kind RT.need RT.saved RT.voice o.1 o.2 RT.count RT.day RT.heard RT.geese RT.z) (va_A (wTw K jT aT RT.laws RT.kind RT.need RT.saved RT.voice RT.partner RT.speaks RT.count RT.day RT.heard RT.geese RT.z) sz)) 0 0 (va_A (wTw K jT aT RT.laws RT.kind RT.need RT.saved RT.voice RT.partner RT.speaks RT.count RT.day RT.heard RT.geese RT.z) sz) := by
  refine ht_enter (Qf := ht_Qv D K (wTw K jT aT RT.laws RT.kind RT.need RT.saved RT.voice o.1 o.2 RT.count RT.day RT.heard RT.geese RT.z)) (cc := cX6_joinByLot) (maxL := 3) (rt := none) (by decide) rfl (Nat.le_of_ble_eq_true rfl) ?_ sz
  intro p e s m below meth c A Q H locs ls hQ hx hb hr hlk hmn hml hown hts hA hK hP hD hS hl
  have hown : s.vm.findClass RX6 = some m.cls := hown
  have hF : CallFix p m c cX6_joinByLot 3 s ([.ref jT, .int p0, .int p1] : List Value).toArray wsX6_joinByLot RX6 := ⟨hx, hb, hml, hown, hts⟩
  have hl : lv_has ls 3 [(0, .ref jT), (1, .int p0), (2, .int p1)] := hl
  delta fX6_joinByLot at hf
  refine lv_iload_n hx hb dX6_joinByLot_0 rfl (lv_at hl 1 rfl) ?_
  refine lv_iload_n hx hb dX6_joinByLot_1 rfl (lv_at hl 2 rfl) ?_
  refine lv_icmp_ne (tgt := 13) hx hb dX6_joinByLot_2 (by decide) (fun c_1 => ?_) (fun c_1 => ?_)
  · replace hf := ht_f c_1 hf
    refine lv_aload_n hx hb dX6_joinByLot_13 rfl (lv_at hl 0 rfl) ?_
    refine lv_iload_n hx hb dX6_joinByLot_14 rfl (lv_at hl 1 rfl) ?_
    refine lv_iload_n hx hb dX6_joinByLot_15 rfl (lv_at hl 2 rfl) ?_
    obtain ⟨o_2, ho_2, hf⟩ := ht_bn_ob hf
    refine ht_callVv (rest := []) (As := [.int p0, .int p1]) (wc := (wTw K jT aT RT.laws RT.kind RT.need RT.saved RT.voice RT.partner RT.speaks RT.count RT.day RT.heard RT.geese RT.z)) (wr := []) (w1 := (wTw K jT aT RT.laws RT.kind RT.need RT.saved RT.voice o_2.1 o_2.2 RT.count RT.day RT.heard RT.geese RT.z)) (w2 := (wTw K jT aT RT.laws RT.kind RT.need RT.saved RT.voice o_2.1 o_2.2 RT.count RT.day RT.heard RT.geese RT.z)) hF (ctX6_join l D K jT aT RT p0 p1 o_2 ho_2 H.size) (cwV 2 hts gX6_joinByLot_X6_join rfl rfl rfl hdX6_join ⟨Nat.le_of_ble_eq_true rfl, Nat.le_of_ble_eq_true rfl⟩) hK hP hD hS hA [0, 1, 2, 3, 4, 5, 6, 7] [] rfl rfl (by decide) (by decide) (by decide) [0, 1, 2, 3, 4, 5, 6, 7] rfl (by decide) (va_recv hK hP (ci := 6) (q0 := 0) rfl rfl) rfl hl.1 rfl (Nat.le_of_ble_eq_true rfl) dX6_joinByLot_16 ⟨Nat.zero_le _, Nat.zero_le _⟩ (fun H locs hP hD hS => ?_)
    have ho := Option.some.inj hf
    subst ho; subst hQ
    exact ht_vret hx hb hr hlk hK hP hD hS dX6_joinByLot_19
  · replace hf := ht_t c_1 hf
    refine lv_aload_n hx hb dX6_joinByLot_5 rfl (lv_at hl 0 rfl) ?_
    refine lv_iload_n hx hb dX6_joinByLot_6 rfl (lv_at hl 1 rfl) ?_
    obtain ⟨o_3, ho_3, hf⟩ := ht_bn_ob hf
    refine ht_callVv (rest := []) (As := [.int p0]) (wc := (wTw K jT aT RT.laws RT.kind RT.need RT.saved RT.voice RT.partner RT.speaks RT.count RT.day RT.heard RT.geese RT.z)) (wr := []) (w1 := (wTw K jT aT RT.laws RT.kind RT.need RT.saved RT.voice o_3.1 o_3.2 RT.count RT.day RT.heard RT.geese RT.z)) (w2 := (wTw K jT aT RT.laws RT.kind RT.need RT.saved RT.voice o_3.1 o_3.2 RT.count RT.day RT.heard RT.geese RT.z)) hF (ctX6_unjoin l D K jT aT RT p0 o_3 ho_3 H.size) (cwV 1 hts gX6_joinByLot_X6_unjoin rfl rfl rfl hdX6_unjoin ⟨Nat.le_of_ble_eq_true rfl, Nat.le_of_ble_eq_true rfl⟩) hK hP hD hS hA [0, 1, 2, 3, 4, 5, 6, 7] [] rfl rfl (by decide) (by decide) (by decide) [0, 1, 2, 3, 4, 5, 6, 7] rfl (by decide) (va_recv hK hP (ci := 6) (q0 := 0) rfl rfl) rfl hl.1 rfl (Nat.le_of_ble_eq_true rfl) dX6_joinByLot_7 ⟨Nat.zero_le _, Nat.zero_le _⟩ (fun H locs hP hD hS => ?_)
    refine lv_goto (tgt := 19) hx hb dX6_joinByLot_10 (by decide) ?_
    have ho := Option.some.inj hf
    subst ho; subst hQ
    exact ht_vret hx hb hr hlk hK hP hD hS dX6_joinByLot_19
abbrev rmX6_passDayByDraws : Room := { frames := 4, cells := 0, slots := 0, locals := 89 }
theorem hdX6_passDayByDraws : yX6_passDayByDraws.cls = RX6 ∧ yX6_passDayByDraws.cls ≠ "java/lang/invoke/MethodHandle" ∧ yX6_passDayByDraws.cls ≠ "java/lang/invoke/VarHandle" ∧ (parseMethodDescriptor yX6_passDayByDraws.desc).map (fun d => d.parameters.length) = some 0 := by decide +kernel
def fX6_passDayByDraws_b47 (RT : TownV) (vT_need : AI) (vT_saved : AI) (vT_partner : AI) (vT_speaks : AI) (vT_day : Int32) (vT_heard : Int32) (vT_geese : Int32) (vT_z : Int32) : Option (Int32 × AI × AI × AI × AI × Int32 × Int32 × Int32 × Int32) := ht_bn (fX6_passDay (RT.laws, RT.kind, vT_need, vT_saved, RT.voice, vT_partner, vT_speaks, RT.count, vT_day, vT_heard, vT_geese, vT_z)) (fun o_1 => some (o_1.1, o_1.2.1, o_1.2.2.1, vT_partner, o_1.2.2.2.1, o_1.2.2.2.2.1, o_1.2.2.2.2.2.1, o_1.2.2.2.2.2.2, vT_z))
def fX6_passDayByDraws (RT : TownV) : Option (Int32 × AI × AI × AI × AI × Int32 × Int32 × Int32 × Int32) := if RT.count ≤ 0 then (fX6_passDayByDraws_b47 RT RT.need RT.saved RT.partner RT.speaks RT.day RT.heard RT.geese RT.z) else (ht_bn (fX6_draw RT) (fun o_3 => ht_gd (ht_nz RT.count) (ht_nm (o_3.1 - o_3.1 / RT.count * RT.count) (fun x1_5 => ht_bn (fX6_draw (RT.laws, RT.kind, RT.need, RT.saved, RT.voice, RT.partner, RT.speaks, RT.count, RT.day, RT.heard, RT.geese, o_3.2)) (fun o_6 => ht_gd (ht_ix (3 : Int32) 4) (if (RT.laws (3 : Int32).toNatClampNeg) ≤ (o_6.1 - o_6.1 / (100 : Int32) * (100 : Int32)) then (fX6_passDayByDraws_b47 RT RT.need RT.saved RT.partner RT.speaks RT.day RT.heard RT.geese o_6.2) else (ht_bn (fX6_draw (RT.laws, RT.kind, RT.need, RT.saved, RT.voice, RT.partner, RT.speaks, RT.count, RT.day, RT.heard, RT.geese, o_6.2)) (fun o_9 => ht_gd (ht_nz RT.count) (ht_bn (fX6_joinByLot (RT.laws, RT.kind, RT.need, RT.saved, RT.voice, RT.partner, RT.speaks, RT.count, RT.day, RT.heard, RT.geese, o_9.2) x1_5 (o_9.1 - o_9.1 / RT.count * RT.count)) (fun o_11 => fX6_passDayByDraws_b47 RT RT.need RT.saved o_11.1 o_11.2 RT.day RT.heard RT.geese o_9.2))))))))))
set_option maxHeartbeats 1000000 in
set_option maxRecDepth 100000 in
theorem ctX6_passDayByDraws (l : Launch) (D : va_G) (K : Nat → ClassId) (jT : Nat) (aT : Nat → Nat) (RT : TownV) (o : (Int32 × AI × AI × AI × AI × Int32 × Int32 × Int32 × Int32)) (hf : fX6_passDayByDraws RT = some o) (sz : Nat) : Met l yX6_passDayByDraws wsX6_passDayByDraws rmX6_passDayByDraws (ht_Pre D K [.ref jT] (wTw K jT aT RT.laws RT.kind RT.need RT.saved RT.voice RT.partner RT.speaks RT.count RT.day RT.heard RT.geese RT.z) sz) (ht_Qi D K (wTw K jT aT RT.laws RT.kind o.2.1 o.2.2.1 RT.voice o.2.2.2.1 o.2.2.2.2.1 RT.count o.2.2.2.2.2.1 o.2.2.2.2.2.2.1 o.2.2.2.2.2.2.2.1 o.2.2.2.2.2.2.2.2) o.1 (va_A (wTw K jT aT RT.laws RT.kind RT.need RT.saved RT.voice RT.partner RT.speaks RT.count RT.day RT.heard RT.geese RT.z) sz)) 0 0 (va_A (wTw K jT aT RT.laws RT.kind RT.need RT.saved RT.voice RT.partner RT.speaks RT.count RT.day RT.heard RT.geese RT.z) sz) := by
  refine ht_enter (Qf := ht_Qi D K (wTw K jT aT RT.laws RT.kind o.2.1 o.2.2.1 RT.voice o.2.2.2.1 o.2.2.2.2.1 RT.count o.2.2.2.2.2.1 o.2.2.2.2.2.2.1 o.2.2.2.2.2.2.2.1 o.2.2.2.2.2.2.2.2) o.1) (cc := cX6_passDayByDraws) (maxL := 2) (rt := (some .int)) (by decide) rfl (Nat.le_of_ble_eq_true rfl) ?_ sz
  intro p e s m below meth c A Q H locs ls hQ hx hb hr hlk hmn hml hown hts hA hK hP hD hS hl
  have hown : s.vm.findClass RX6 = some m.cls := hown
  have hF : CallFix p m c cX6_passDayByDraws 2 s ([.ref jT] : List Value).toArray wsX6_passDayByDraws RX6 := ⟨hx, hb, hml, hown, hts⟩
  have hl : lv_has ls 2 [(0, .ref jT)] := hl
  have iw6 : ∀ w ∈ u_ws RX6 TX6 12, w ∈ wsX6_passDayByDraws := by decide +kernel
  have kw1 := hts (.fieldLink RX6 41 "HeldTongues$Town" "count" "I") (by decide +kernel)
  have kw2 := hts (.fieldLink RX6 9 "HeldTongues$Town" "laws" "[I") (by decide +kernel)
  have b47 : ∀ (vT_need : AI) (vT_saved : AI) (vT_partner : AI) (vT_speaks : AI) (vT_day : Int32) (vT_heard : Int32) (vT_geese : Int32) (vT_z : Int32) (H : Heap) (locs : List Loc) (ls : Array Slot), fX6_passDayByDraws_b47 RT vT_need vT_saved vT_partner vT_speaks vT_day vT_heard vT_geese vT_z = some o → va_P D vwCl (wTw K jT aT RT.laws RT.kind vT_need vT_saved RT.voice vT_partner vT_speaks RT.count vT_day vT_heard vT_geese vT_z) H → va_D A (wTw K jT aT RT.laws RT.kind vT_need vT_saved RT.voice vT_partner vT_speaks RT.count vT_day vT_heard vT_geese vT_z) → va_S A s.heap H locs → lv_has ls 2 [(0, .ref jT)] → W p l e (headSpec wsX6_passDayByDraws rmX6_passDayByDraws).room s m ([.ref jT] : List Value).toArray below meth c H locs 0 0 Q (F0 m 47 ls []) := by
    intro vT_need vT_saved vT_partner vT_speaks vT_day vT_heard vT_geese vT_z H locs ls hf hP hD hS hl
    delta fX6_passDayByDraws_b47 at hf
    refine lv_aload_n hx hb dX6_passDayByDraws_47 rfl (lv_at hl 0 rfl) ?_
    obtain ⟨o_1, ho_1, hf⟩ := ht_bn_ob hf
    refine ht_callVi (r := o_1.1) (rest := []) (As := []) (wc := (wTw K jT aT RT.laws RT.kind vT_need vT_saved RT.voice vT_partner vT_speaks RT.count vT_day vT_heard vT_geese vT_z)) (wr := []) (w1 := (wTw K jT aT RT.laws RT.kind o_1.2.1 o_1.2.2.1 RT.voice vT_partner o_1.2.2.2.1 RT.count o_1.2.2.2.2.1 o_1.2.2.2.2.2.1 o_1.2.2.2.2.2.2 vT_z)) (w2 := (wTw K jT aT RT.laws RT.kind o_1.2.1 o_1.2.2.1 RT.voice vT_partner o_1.2.2.2.1 RT.count o_1.2.2.2.2.1 o_1.2.2.2.2.2.1 o_1.2.2.2.2.2.2 vT_z)) hF (ctX6_passDay l D K jT aT (RT.laws, RT.kind, vT_need, vT_saved, RT.voice, vT_partner, vT_speaks, RT.count, vT_day, vT_heard, vT_geese, vT_z) o_1 ho_1 H.size) (cwV 0 hts gX6_passDayByDraws_X6_passDay rfl rfl rfl hdX6_passDay ⟨Nat.le_of_ble_eq_true rfl, Nat.le_of_ble_eq_true rfl⟩) hK hP hD hS hA [0, 1, 2, 3, 4, 5, 6, 7] [] rfl rfl (by decide) (by decide) (by decide) [0, 1, 2, 3, 4, 5, 6, 7] rfl (by decide) (va_recv hK hP (ci := 6) (q0 := 0) rfl rfl) rfl hl.1 rfl (Nat.le_of_ble_eq_true rfl) dX6_passDayByDraws_48 ⟨Nat.zero_le _, Nat.zero_le _⟩ (fun H locs hP hD hS => ?_)
    have ho := Option.some.inj hf
    subst ho; subst hQ
    exact ht_iret hx hb hr hlk rfl hK hP hD hS dX6_passDayByDraws_51
  delta fX6_passDayByDraws at hf
  refine lv_aload_n hx hb dX6_passDayByDraws_0 rfl (lv_at hl 0 rfl) ?_
  refine va_get (D := D) (ci := 6) (v := .int RT.count) (C := RX6) (T := TX6) (N := 12) hx hb hts iw6 hown hK hP 0 rfl rfl 7 (by decide) kw1 (fun _ h9 => h9) rfl dX6_passDayByDraws_1 ?_
  refine lv_if_le (tgt := 47) hx hb dX6_passDayByDraws_4 (by decide) (fun c_2 => ?_) (fun c_2 => ?_)
  · replace hf := ht_t c_2 hf
    exact b47  RT.need RT.saved RT.partner RT.speaks RT.day RT.heard RT.geese RT.z _ _ _ hf hP hD hS hl
  · replace hf := ht_f c_2 hf
    refine lv_aload_n hx hb dX6_passDayByDraws_7 rfl (lv_at hl 0 rfl) ?_
    obtain ⟨o_3, ho_3, hf⟩ := ht_bn_ob hf
    refine ht_callVi (r := o_3.1) (rest := []) (As := []) (wc := (wTw K jT aT RT.laws RT.kind RT.need RT.saved RT.voice RT.partner RT.speaks RT.count RT.day RT.heard RT.geese RT.z)) (wr := []) (w1 := (wTw K jT aT RT.laws RT.kind RT.need RT.saved RT.voice RT.partner RT.speaks RT.count RT.day RT.heard RT.geese o_3.2)) (w2 := (wTw K jT aT RT.laws RT.kind RT.need RT.saved RT.voice RT.partner RT.speaks RT.count RT.day RT.heard RT.geese o_3.2)) hF (ctX6_draw l D K jT aT RT o_3 ho_3 H.size) (cwV 0 hts gX6_passDayByDraws_X6_draw rfl rfl rfl hdX6_draw ⟨Nat.le_of_ble_eq_true rfl, Nat.le_of_ble_eq_true rfl⟩) hK hP hD hS hA [0, 1, 2, 3, 4, 5, 6, 7] [] rfl rfl (by decide) (by decide) (by decide) [0, 1, 2, 3, 4, 5, 6, 7] rfl (by decide) (va_recv hK hP (ci := 6) (q0 := 0) rfl rfl) rfl hl.1 rfl (Nat.le_of_ble_eq_true rfl) dX6_passDayByDraws_8 ⟨Nat.zero_le _, Nat.zero_le _⟩ (fun H locs hP hD hS => ?_)
    refine lv_aload_n hx hb dX6_passDayByDraws_11 rfl (lv_at hl 0 rfl) ?_
    refine va_get (D := D) (ci := 6) (v := .int RT.count) (C := RX6) (T := TX6) (N := 12) hx hb hts iw6 hown hK hP 0 rfl rfl 7 (by decide) kw1 (fun _ h9 => h9) rfl dX6_passDayByDraws_12 ?_
    obtain ⟨g_4, hf⟩ := ht_gd_ob hf
    refine lv_irem hx hb dX6_passDayByDraws_15 (ht_nz_ne g_4) ?_
    obtain ⟨x1_5, ex1_5, hf⟩ := ht_nm_ob hf
    rw [← ex1_5]
    refine lv_istore_n (lv' := [(1, .int x1_5), (0, .ref jT)]) hx hb dX6_passDayByDraws_16 rfl hl (by decide) rfl (fun ls hl => ?_)
    refine lv_aload_n hx hb dX6_passDayByDraws_17 rfl (lv_at hl 1 rfl) ?_
    obtain ⟨o_6, ho_6, hf⟩ := ht_bn_ob hf
    refine ht_callVi (r := o_6.1) (rest := []) (As := []) (wc := (wTw K jT aT RT.laws RT.kind RT.need RT.saved RT.voice RT.partner RT.speaks RT.count RT.day RT.heard RT.geese o_3.2)) (wr := []) (w1 := (wTw K jT aT RT.laws RT.kind RT.need RT.saved RT.voice RT.partner RT.speaks RT.count RT.day RT.heard RT.geese o_6.2)) (w2 := (wTw K jT aT RT.laws RT.kind RT.need RT.saved RT.voice RT.partner RT.speaks RT.count RT.day RT.heard RT.geese o_6.2)) hF (ctX6_draw l D K jT aT (RT.laws, RT.kind, RT.need, RT.saved, RT.voice, RT.partner, RT.speaks, RT.count, RT.day, RT.heard, RT.geese, o_3.2) o_6 ho_6 H.size) (cwV 0 hts gX6_passDayByDraws_X6_draw rfl rfl rfl hdX6_draw ⟨Nat.le_of_ble_eq_true rfl, Nat.le_of_ble_eq_true rfl⟩) hK hP hD hS hA [0, 1, 2, 3, 4, 5, 6, 7] [] rfl rfl (by decide) (by decide) (by decide) [0, 1, 2, 3, 4, 5, 6, 7] rfl (by decide) (va_recv hK hP (ci := 6) (q0 := 0) rfl rfl) rfl hl.1 rfl (Nat.le_of_ble_eq_true rfl) dX6_passDayByDraws_18 ⟨Nat.zero_le _, Nat.zero_le _⟩ (fun H locs hP hD hS => ?_)
    refine lv_bipush (v := 100) hx hb dX6_passDayByDraws_21 (by decide) ?_
    refine lv_irem hx hb dX6_passDayByDraws_23 (by decide) ?_
    refine lv_aload_n hx hb dX6_passDayByDraws_24 rfl (lv_at hl 1 rfl) ?_
    refine va_get (D := D) (ci := 6) (v := .ref (aT 0)) (C := RX6) (T := TX6) (N := 12) hx hb hts iw6 hown hK hP 0 rfl rfl 0 (by decide) kw2 (fun _ h9 => h9) rfl dX6_passDayByDraws_25 ?_
    refine lv_iconst (v := 3) hx hb dX6_passDayByDraws_28 (by decide) ?_
    obtain ⟨g_7, hf⟩ := ht_gd_ob hf
    refine va_iald hx hb hK hP 1 1 rfl rfl (ht_ix_in g_7) dX6_passDayByDraws_29 ?_
    refine lv_icmp_ge (tgt := 47) hx hb dX6_passDayByDraws_30 (by decide) (fun c_8 => ?_) (fun c_8 => ?_)
    · replace hf := ht_t c_8 hf
      exact b47  RT.need RT.saved RT.partner RT.speaks RT.day RT.heard RT.geese o_6.2 _ _ _ hf hP hD hS (lv_sub hl [1] rfl)
    · replace hf := ht_f c_8 hf
      refine lv_aload_n hx hb dX6_passDayByDraws_33 rfl (lv_at hl 1 rfl) ?_
      refine lv_iload_n hx hb dX6_passDayByDraws_34 rfl (lv_at hl 0 rfl) ?_
      refine lv_aload_n hx hb dX6_passDayByDraws_35 rfl (lv_at hl 1 rfl) ?_
      obtain ⟨o_9, ho_9, hf⟩ := ht_bn_ob hf
      refine ht_callVi (r := o_9.1) (rest := [.int x1_5, .ref jT]) (As := []) (wc := (wTw K jT aT RT.laws RT.kind RT.need RT.saved RT.voice RT.partner RT.speaks RT.count RT.day RT.heard RT.geese o_6.2)) (wr := []) (w1 := (wTw K jT aT RT.laws RT.kind RT.need RT.saved RT.voice RT.partner RT.speaks RT.count RT.day RT.heard RT.geese o_9.2)) (w2 := (wTw K jT aT RT.laws RT.kind RT.need RT.saved RT.voice RT.partner RT.speaks RT.count RT.day RT.heard RT.geese o_9.2)) hF (ctX6_draw l D K jT aT (RT.laws, RT.kind, RT.need, RT.saved, RT.voice, RT.partner, RT.speaks, RT.count, RT.day, RT.heard, RT.geese, o_6.2) o_9 ho_9 H.size) (cwV 0 hts gX6_passDayByDraws_X6_draw rfl rfl rfl hdX6_draw ⟨Nat.le_of_ble_eq_true rfl, Nat.le_of_ble_eq_true rfl⟩) hK hP hD hS hA [0, 1, 2, 3, 4, 5, 6, 7] [] rfl rfl (by decide) (by decide) (by decide) [0, 1, 2, 3, 4, 5, 6, 7] rfl (by decide) (va_recv hK hP (ci := 6) (q0 := 0) rfl rfl) rfl hl.1 rfl (Nat.le_of_ble_eq_true rfl) dX6_passDayByDraws_36 ⟨Nat.zero_le _, Nat.zero_le _⟩ (fun H locs hP hD hS => ?_)
      refine lv_aload_n hx hb dX6_passDayByDraws_39 rfl (lv_at hl 1 rfl) ?_
      refine va_get (D := D) (ci := 6) (v := .int RT.count) (C := RX6) (T := TX6) (N := 12) hx hb hts iw6 hown hK hP 0 rfl rfl 7 (by decide) kw1 (fun _ h9 => h9) rfl dX6_passDayByDraws_40 ?_
      obtain ⟨g_10, hf⟩ := ht_gd_ob hf
      refine lv_irem hx hb dX6_passDayByDraws_43 (ht_nz_ne g_10) ?_
      obtain ⟨o_11, ho_11, hf⟩ := ht_bn_ob hf
      refine ht_callVv (rest := []) (As := [.int x1_5, .int (o_9.1 - o_9.1 / RT.count * RT.count)]) (wc := (wTw K jT aT RT.laws RT.kind RT.need RT.saved RT.voice RT.partner RT.speaks RT.count RT.day RT.heard RT.geese o_9.2)) (wr := []) (w1 := (wTw K jT aT RT.laws RT.kind RT.need RT.saved RT.voice o_11.1 o_11.2 RT.count RT.day RT.heard RT.geese o_9.2)) (w2 := (wTw K jT aT RT.laws RT.kind RT.need RT.saved RT.voice o_11.1 o_11.2 RT.count RT.day RT.heard RT.geese o_9.2)) hF (ctX6_joinByLot l D K jT aT (RT.laws, RT.kind, RT.need, RT.saved, RT.voice, RT.partner, RT.speaks, RT.count, RT.day, RT.heard, RT.geese, o_9.2) x1_5 (o_9.1 - o_9.1 / RT.count * RT.count) o_11 ho_11 H.size) (cwV 2 hts gX6_passDayByDraws_X6_joinByLot rfl rfl rfl hdX6_joinByLot ⟨Nat.le_of_ble_eq_true rfl, Nat.le_of_ble_eq_true rfl⟩) hK hP hD hS hA [0, 1, 2, 3, 4, 5, 6, 7] [] rfl rfl (by decide) (by decide) (by decide) [0, 1, 2, 3, 4, 5, 6, 7] rfl (by decide) (va_recv hK hP (ci := 6) (q0 := 0) rfl rfl) rfl hl.1 rfl (Nat.le_of_ble_eq_true rfl) dX6_passDayByDraws_44 ⟨Nat.zero_le _, Nat.zero_le _⟩ (fun H locs hP hD hS => ?_)
      exact b47  RT.need RT.saved o_11.1 o_11.2 RT.day RT.heard RT.geese o_9.2 _ _ _ hf hP hD hS (lv_sub hl [1] rfl)
abbrev rmX6_allNeed : Room := { frames := 0, cells := 0, slots := 0, locals := 0 }
theorem hdX6_allNeed : yX6_allNeed.cls = RX6 ∧ yX6_allNeed.cls ≠ "java/lang/invoke/MethodHandle" ∧ yX6_allNeed.cls ≠ "java/lang/invoke/VarHandle" ∧ (parseMethodDescriptor yX6_allNeed.desc).map (fun d => d.parameters.length) = some 0 := by decide +kernel
def fX6_allNeed_b4 (RT : TownV) (k4 : Int32 → Int32 → Option Int32) (x1 : Int32) (x2 : Int32) : Option Int32 := if RT.count ≤ x2 then (some x1) else (ht_gd (ht_ix x2 8) (ht_nm (x1 + (RT.need x2.toNatClampNeg)) (fun x1_3 => ht_nm (x2 + (1 : Int32)) (fun x2_4 => k4 x1_3 x2_4))))
def fX6_allNeed (RT : TownV) : Option Int32 := ht_lp2 (fX6_allNeed_b4 RT) FU (0 : Int32) (0 : Int32)
set_option maxHeartbeats 1000000 in
set_option maxRecDepth 100000 in
theorem ctX6_allNeed (l : Launch) (D : va_G) (K : Nat → ClassId) (jT : Nat) (aT : Nat → Nat) (RT : TownV) (o : Int32) (hf : fX6_allNeed RT = some o) (sz : Nat) : Met l yX6_allNeed wsX6_allNeed rmX6_allNeed (ht_Pre D K [.ref jT] (wTw K jT aT RT.laws RT.kind RT.need RT.saved RT.voice RT.partner RT.speaks RT.count RT.day RT.heard RT.geese RT.z) sz) (ht_Qi D K (wTw K jT aT RT.laws RT.kind RT.need RT.saved RT.voice RT.partner RT.speaks RT.count RT.day RT.heard RT.geese RT.z) o (va_A (wTw K jT aT RT.laws RT.kind RT.need RT.saved RT.voice RT.partner RT.speaks RT.count RT.day RT.heard RT.geese RT.z) sz)) 0 0 (va_A (wTw K jT aT RT.laws RT.kind RT.need RT.saved RT.voice RT.partner RT.speaks RT.count RT.day RT.heard RT.geese RT.z) sz) := by
  refine ht_enter (Qf := ht_Qi D K (wTw K jT aT RT.laws RT.kind RT.need RT.saved RT.voice RT.partner RT.speaks RT.count RT.day RT.heard RT.geese RT.z) o) (cc := cX6_allNeed) (maxL := 3) (rt := (some .int)) (by decide) rfl (Nat.le_of_ble_eq_true rfl) ?_ sz
  intro p e s m below meth c A Q H locs ls hQ hx hb hr hlk hmn hml hown hts hA hK hP hD hS hl
  have hown : s.vm.findClass RX6 = some m.cls := hown
  have hF : CallFix p m c cX6_allNeed 3 s ([.ref jT] : List Value).toArray wsX6_allNeed RX6 := ⟨hx, hb, hml, hown, hts⟩
  have hl : lv_has ls 3 [(0, .ref jT)] := hl
  have iw6 : ∀ w ∈ u_ws RX6 TX6 12, w ∈ wsX6_allNeed := by decide +kernel
  have kw1 := hts (.fieldLink RX6 41 "HeldTongues$Town" "count" "I") (by decide +kernel)
  have kw2 := hts (.fieldLink RX6 18 "HeldTongues$Town" "need" "[I") (by decide +kernel)
  have b4 : ∀ (n : Nat) (x1 : Int32) (x2 : Int32) (H : Heap) (locs : List Loc) (ls : Array Slot), ht_lp2 (fX6_allNeed_b4 RT) n x1 x2 = some o → va_P D vwCl (wTw K jT aT RT.laws RT.kind RT.need RT.saved RT.voice RT.partner RT.speaks RT.count RT.day RT.heard RT.geese RT.z) H → va_D A (wTw K jT aT RT.laws RT.kind RT.need RT.saved RT.voice RT.partner RT.speaks RT.count RT.day RT.heard RT.geese RT.z) → va_S A s.heap H locs → lv_has ls 3 [(0, .ref jT), (1, .int x1), (2, .int x2)] → W p l e (headSpec wsX6_allNeed rmX6_allNeed).room s m ([.ref jT] : List Value).toArray below meth c H locs 0 0 Q (F0 m 4 ls []) := by
    intro n
    induction n with
    | zero =>
      intro x1 x2 H locs ls hf hP hD hS hl
      cases (show (none : Option Int32) = some o from hf)
    | succ n hk4 =>
      intro x1 x2 H locs ls hf hP hD hS hl
      replace hf : fX6_allNeed_b4 RT (ht_lp2 (fX6_allNeed_b4 RT) n) x1 x2 = some o := hf
      delta fX6_allNeed_b4 at hf
      refine lv_iload_n hx hb dX6_allNeed_4 rfl (lv_at hl 2 rfl) ?_
      refine lv_aload_n hx hb dX6_allNeed_5 rfl (lv_at hl 0 rfl) ?_
      refine va_get (D := D) (ci := 6) (v := .int RT.count) (C := RX6) (T := TX6) (N := 12) hx hb hts iw6 hown hK hP 0 rfl rfl 7 (by decide) kw1 (fun _ h9 => h9) rfl dX6_allNeed_6 ?_
      refine lv_icmp_ge (tgt := 27) hx hb dX6_allNeed_9 (by decide) (fun c_1 => ?_) (fun c_1 => ?_)
      · replace hf := ht_t c_1 hf
        refine lv_iload_n hx hb dX6_allNeed_27 rfl (lv_at hl 1 rfl) ?_
        have ho := Option.some.inj hf
        subst ho; subst hQ
        exact ht_iret hx hb hr hlk rfl hK hP hD hS dX6_allNeed_28
      · replace hf := ht_f c_1 hf
        refine lv_iload_n hx hb dX6_allNeed_12 rfl (lv_at hl 1 rfl) ?_
        refine lv_aload_n hx hb dX6_allNeed_13 rfl (lv_at hl 0 rfl) ?_
        refine va_get (D := D) (ci := 6) (v := .ref (aT 2)) (C := RX6) (T := TX6) (N := 12) hx hb hts iw6 hown hK hP 0 rfl rfl 2 (by decide) kw2 (fun _ h9 => h9) rfl dX6_allNeed_14 ?_
        refine lv_iload_n hx hb dX6_allNeed_17 rfl (lv_at hl 2 rfl) ?_
        obtain ⟨g_2, hf⟩ := ht_gd_ob hf
        refine va_iald hx hb hK hP 3 1 rfl rfl (ht_ix_in g_2) dX6_allNeed_18 ?_
        refine lv_iadd hx hb dX6_allNeed_19 ?_
        obtain ⟨x1_3, ex1_3, hf⟩ := ht_nm_ob hf
        rw [← ex1_3]
        refine lv_istore_n (lv' := [(1, .int x1_3), (0, .ref jT), (2, .int x2)]) hx hb dX6_allNeed_20 rfl hl (by decide) rfl (fun ls hl => ?_)
        obtain ⟨x2_4, ex2_4, hf⟩ := ht_nm_ob hf
        refine lv_iinc (v := x2_4) (lv' := [(2, .int x2_4), (1, .int x1_3), (0, .ref jT)]) hx hb dX6_allNeed_21 hl (k := 2) rfl (by rw [ex2_4]; rfl) (by decide) rfl (fun ls hl => ?_)
        refine lv_goto (tgt := 4) hx hb dX6_allNeed_24 (by decide) ?_
        exact hk4 x1_3 x2_4 _ _ _ hf hP hD hS (lv_sub hl [2, 1, 0] rfl)
  delta fX6_allNeed at hf
  refine lv_iconst (v := 0) hx hb dX6_allNeed_0 (by decide) ?_
  refine lv_istore_n (lv' := [(1, .int (0 : Int32)), (0, .ref jT)]) hx hb dX6_allNeed_1 rfl hl (by decide) rfl (fun ls hl => ?_)
  refine lv_iconst (v := 0) hx hb dX6_allNeed_2 (by decide) ?_
  refine lv_istore_n (lv' := [(2, .int (0 : Int32)), (1, .int (0 : Int32)), (0, .ref jT)]) hx hb dX6_allNeed_3 rfl hl (by decide) rfl (fun ls hl => ?_)
  exact b4  FU (0 : Int32) (0 : Int32) _ _ _ hf hP hD hS (lv_sub hl [2, 1, 0] rfl)
abbrev rmX6_allSaved : Room := { frames := 0, cells := 0, slots := 0, locals := 0 }
theorem hdX6_allSaved : yX6_allSaved.cls = RX6 ∧ yX6_allSaved.cls ≠ "java/lang/invoke/MethodHandle" ∧ yX6_allSaved.cls ≠ "java/lang/invoke/VarHandle" ∧ (parseMethodDescriptor yX6_allSaved.desc).map (fun d => d.parameters.length) = some 0 := by decide +kernel
def fX6_allSaved_b4 (RT : TownV) (k4 : Int32 → Int32 → Option Int32) (x1 : Int32) (x2 : Int32) : Option Int32 := if RT.count ≤ x2 then (some x1) else (ht_gd (ht_ix x2 8) (ht_nm (x1 + (RT.saved x2.toNatClampNeg)) (fun x1_3 => ht_nm (x2 + (1 : Int32)) (fun x2_4 => k4 x1_3 x2_4))))
def fX6_allSaved (RT : TownV) : Option Int32 := ht_lp2 (fX6_allSaved_b4 RT) FU (0 : Int32) (0 : Int32)
set_option maxHeartbeats 1000000 in
set_option maxRecDepth 100000 in
theorem ctX6_allSaved (l : Launch) (D : va_G) (K : Nat → ClassId) (jT : Nat) (aT : Nat → Nat) (RT : TownV) (o : Int32) (hf : fX6_allSaved RT = some o) (sz : Nat) : Met l yX6_allSaved wsX6_allSaved rmX6_allSaved (ht_Pre D K [.ref jT] (wTw K jT aT RT.laws RT.kind RT.need RT.saved RT.voice RT.partner RT.speaks RT.count RT.day RT.heard RT.geese RT.z) sz) (ht_Qi D K (wTw K jT aT RT.laws RT.kind RT.need RT.saved RT.voice RT.partner RT.speaks RT.count RT.day RT.heard RT.geese RT.z) o (va_A (wTw K jT aT RT.laws RT.kind RT.need RT.saved RT.voice RT.partner RT.speaks RT.count RT.day RT.heard RT.geese RT.z) sz)) 0 0 (va_A (wTw K jT aT RT.laws RT.kind RT.need RT.saved RT.voice RT.partner RT.speaks RT.count RT.day RT.heard RT.geese RT.z) sz) := by
  refine ht_enter (Qf := ht_Qi D K (wTw K jT aT RT.laws RT.kind RT.need RT.saved RT.voice RT.partner RT.speaks RT.count RT.day RT.heard RT.geese RT.z) o) (cc := cX6_allSaved) (maxL := 3) (rt := (some .int)) (by decide) rfl (Nat.le_of_ble_eq_true rfl) ?_ sz
  intro p e s m below meth c A Q H locs ls hQ hx hb hr hlk hmn hml hown hts hA hK hP hD hS hl
  have hown : s.vm.findClass RX6 = some m.cls := hown
  have hF : CallFix p m c cX6_allSaved 3 s ([.ref jT] : List Value).toArray wsX6_allSaved RX6 := ⟨hx, hb, hml, hown, hts⟩
  have hl : lv_has ls 3 [(0, .ref jT)] := hl
  have iw6 : ∀ w ∈ u_ws RX6 TX6 12, w ∈ wsX6_allSaved := by decide +kernel
  have kw1 := hts (.fieldLink RX6 41 "HeldTongues$Town" "count" "I") (by decide +kernel)
  have kw2 := hts (.fieldLink RX6 21 "HeldTongues$Town" "saved" "[I") (by decide +kernel)
  have b4 : ∀ (n : Nat) (x1 : Int32) (x2 : Int32) (H : Heap) (locs : List Loc) (ls : Array Slot), ht_lp2 (fX6_allSaved_b4 RT) n x1 x2 = some o → va_P D vwCl (wTw K jT aT RT.laws RT.kind RT.need RT.saved RT.voice RT.partner RT.speaks RT.count RT.day RT.heard RT.geese RT.z) H → va_D A (wTw K jT aT RT.laws RT.kind RT.need RT.saved RT.voice RT.partner RT.speaks RT.count RT.day RT.heard RT.geese RT.z) → va_S A s.heap H locs → lv_has ls 3 [(0, .ref jT), (1, .int x1), (2, .int x2)] → W p l e (headSpec wsX6_allSaved rmX6_allSaved).room s m ([.ref jT] : List Value).toArray below meth c H locs 0 0 Q (F0 m 4 ls []) := by
    intro n
    induction n with
    | zero =>
      intro x1 x2 H locs ls hf hP hD hS hl
      cases (show (none : Option Int32) = some o from hf)
    | succ n hk4 =>
      intro x1 x2 H locs ls hf hP hD hS hl
      replace hf : fX6_allSaved_b4 RT (ht_lp2 (fX6_allSaved_b4 RT) n) x1 x2 = some o := hf
      delta fX6_allSaved_b4 at hf
      refine lv_iload_n hx hb dX6_allSaved_4 rfl (lv_at hl 2 rfl) ?_
      refine lv_aload_n hx hb dX6_allSaved_5 rfl (lv_at hl 0 rfl) ?_
      refine va_get (D := D) (ci := 6) (v := .int RT.count) (C := RX6) (T := TX6) (N := 12) hx hb hts iw6 hown hK hP 0 rfl rfl 7 (by decide) kw1 (fun _ h9 => h9) rfl dX6_allSaved_6 ?_
      refine lv_icmp_ge (tgt := 27) hx hb dX6_allSaved_9 (by decide) (fun c_1 => ?_) (fun c_1 => ?_)
      · replace hf := ht_t c_1 hf
        refine lv_iload_n hx hb dX6_allSaved_27 rfl (lv_at hl 1 rfl) ?_
        have ho := Option.some.inj hf
        subst ho; subst hQ
        exact ht_iret hx hb hr hlk rfl hK hP hD hS dX6_allSaved_28
      · replace hf := ht_f c_1 hf
        refine lv_iload_n hx hb dX6_allSaved_12 rfl (lv_at hl 1 rfl) ?_
        refine lv_aload_n hx hb dX6_allSaved_13 rfl (lv_at hl 0 rfl) ?_
        refine va_get (D := D) (ci := 6) (v := .ref (aT 3)) (C := RX6) (T := TX6) (N := 12) hx hb hts iw6 hown hK hP 0 rfl rfl 3 (by decide) kw2 (fun _ h9 => h9) rfl dX6_allSaved_14 ?_
        refine lv_iload_n hx hb dX6_allSaved_17 rfl (lv_at hl 2 rfl) ?_
        obtain ⟨g_2, hf⟩ := ht_gd_ob hf
        refine va_iald hx hb hK hP 4 1 rfl rfl (ht_ix_in g_2) dX6_allSaved_18 ?_
        refine lv_iadd hx hb dX6_allSaved_19 ?_
        obtain ⟨x1_3, ex1_3, hf⟩ := ht_nm_ob hf
        rw [← ex1_3]
        refine lv_istore_n (lv' := [(1, .int x1_3), (0, .ref jT), (2, .int x2)]) hx hb dX6_allSaved_20 rfl hl (by decide) rfl (fun ls hl => ?_)
        obtain ⟨x2_4, ex2_4, hf⟩ := ht_nm_ob hf
        refine lv_iinc (v := x2_4) (lv' := [(2, .int x2_4), (1, .int x1_3), (0, .ref jT)]) hx hb dX6_allSaved_21 hl (k := 2) rfl (by rw [ex2_4]; rfl) (by decide) rfl (fun ls hl => ?_)
        refine lv_goto (tgt := 4) hx hb dX6_allSaved_24 (by decide) ?_
        exact hk4 x1_3 x2_4 _ _ _ hf hP hD hS (lv_sub hl [2, 1, 0] rfl)
  delta fX6_allSaved at hf
  refine lv_iconst (v := 0) hx hb dX6_allSaved_0 (by decide) ?_
  refine lv_istore_n (lv' := [(1, .int (0 : Int32)), (0, .ref jT)]) hx hb dX6_allSaved_1 rfl hl (by decide) rfl (fun ls hl => ?_)
  refine lv_iconst (v := 0) hx hb dX6_allSaved_2 (by decide) ?_
  refine lv_istore_n (lv' := [(2, .int (0 : Int32)), (1, .int (0 : Int32)), (0, .ref jT)]) hx hb dX6_allSaved_3 rfl hl (by decide) rfl (fun ls hl => ?_)
  exact b4  FU (0 : Int32) (0 : Int32) _ _ _ hf hP hD hS (lv_sub hl [2, 1, 0] rfl)
abbrev rmX6_speakers : Room := { frames := 0, cells := 0, slots := 0, locals := 0 }
theorem hdX6_speakers : yX6_speakers.cls = RX6 ∧ yX6_speakers.cls ≠ "java/lang/invoke/MethodHandle" ∧ yX6_speakers.cls ≠ "java/lang/invoke/VarHandle" ∧ (parseMethodDescriptor yX6_speakers.desc).map (fun d => d.parameters.length) = some 0 := by decide +kernel
def fX6_speakers_b27 (RT : TownV) (k4 : Int32 → Int32 → Option Int32) (x1 : Int32) (x2 : Int32) : Option Int32 := ht_nm (x2 + (1 : Int32)) (fun x2_1 => k4 x1 x2_1)
def fX6_speakers_b4 (RT : TownV) (k4 : Int32 → Int32 → Option Int32) (x1 : Int32) (x2 : Int32) : Option Int32 := if RT.count ≤ x2 then (some x1) else (ht_gd (ht_ix x2 8) (if (RT.speaks x2.toNatClampNeg) = 0 then (fX6_speakers_b27 RT k4 x1 x2) else (ht_nm (x1 ||| ((1 : Int32) <<< (x2 &&& 31))) (fun x1_5 => fX6_speakers_b27 RT k4 x1_5 x2))))
def fX6_speakers (RT : TownV) : Option Int32 := ht_lp2 (fX6_speakers_b4 RT) FU (0 : Int32) (0 : Int32)
set_option maxHeartbeats 1000000 in
set_option maxRecDepth 100000 in
theorem ctX6_speakers (l : Launch) (D : va_G) (K : Nat → ClassId) (jT : Nat) (aT : Nat → Nat) (RT : TownV) (o : Int32) (hf : fX6_speakers RT = some o) (sz : Nat) : Met l yX6_speakers wsX6_speakers rmX6_speakers (ht_Pre D K [.ref jT] (wTw K jT aT RT.laws RT.kind RT.need RT.saved RT.voice RT.partner RT.speaks RT.count RT.day RT.heard RT.geese RT.z) sz) (ht_Qi D K (wTw K jT aT RT.laws RT.kind RT.need RT.saved RT.voice RT.partner RT.speaks RT.count RT.day RT.heard RT.geese RT.z) o (va_A (wTw K jT aT RT.laws RT.kind RT.need RT.saved RT.voice RT.partner RT.speaks RT.count RT.day RT.heard RT.geese RT.z) sz)) 0 0 (va_A (wTw K jT aT RT.laws RT.kind RT.need RT.saved RT.voice RT.partner RT.speaks RT.count RT.day RT.heard RT.geese RT.z) sz) := by
  refine ht_enter (Qf := ht_Qi D K (wTw K jT aT RT.laws RT.kind RT.need RT.saved RT.voice RT.partner RT.speaks RT.count RT.day RT.heard RT.geese RT.z) o) (cc := cX6_speakers) (maxL := 3) (rt := (some .int)) (by decide) rfl (Nat.le_of_ble_eq_true rfl) ?_ sz
  intro p e s m below meth c A Q H locs ls hQ hx hb hr hlk hmn hml hown hts hA hK hP hD hS hl
  have hown : s.vm.findClass RX6 = some m.cls := hown
  have hF : CallFix p m c cX6_speakers 3 s ([.ref jT] : List Value).toArray wsX6_speakers RX6 := ⟨hx, hb, hml, hown, hts⟩
  have hl : lv_has ls 3 [(0, .ref jT)] := hl
  have iw6 : ∀ w ∈ u_ws RX6 TX6 12, w ∈ wsX6_speakers := by decide +kernel
  have kw1 := hts (.fieldLink RX6 41 "HeldTongues$Town" "count" "I") (by decide +kernel)
  have kw2 := hts (.fieldLink RX6 30 "HeldTongues$Town" "speaks" "[Z") (by decide +kernel)
  have b27 : ∀ (k4 : Int32 → Int32 → Option Int32) (hk4 : ∀ (x1 : Int32) (x2 : Int32) (H : Heap) (locs : List Loc) (ls : Array Slot), k4 x1 x2 = some o → va_P D vwCl (wTw K jT aT RT.laws RT.kind RT.need RT.saved RT.voice RT.partner RT.speaks RT.count RT.day RT.heard RT.geese RT.z) H → va_D A (wTw K jT aT RT.laws RT.kind RT.need RT.saved RT.voice RT.partner RT.speaks RT.count RT.day RT.heard RT.geese RT.z) → va_S A s.heap H locs → lv_has ls 3 [(0, .ref jT), (1, .int x1), (2, .int x2)] → W p l e (headSpec wsX6_speakers rmX6_speakers).room s m ([.ref jT] : List Value).toArray below meth c H locs 0 0 Q (F0 m 4 ls [])) (x1 : Int32) (x2 : Int32) (H : Heap) (locs : List Loc) (ls : Array Slot), fX6_speakers_b27 RT k4 x1 x2 = some o → va_P D vwCl (wTw K jT aT RT.laws RT.kind RT.need RT.saved RT.voice RT.partner RT.speaks RT.count RT.day RT.heard RT.geese RT.z) H → va_D A (wTw K jT aT RT.laws RT.kind RT.need RT.saved RT.voice RT.partner RT.speaks RT.count RT.day RT.heard RT.geese RT.z) → va_S A s.heap H locs → lv_has ls 3 [(0, .ref jT), (1, .int x1), (2, .int x2)] → W p l e (headSpec wsX6_speakers rmX6_speakers).room s m ([.ref jT] : List Value).toArray below meth c H locs 0 0 Q (F0 m 27 ls []) := by
    intro k4 hk4 x1 x2 H locs ls hf hP hD hS hl
    delta fX6_speakers_b27 at hf
    obtain ⟨x2_1, ex2_1, hf⟩ := ht_nm_ob hf
    refine lv_iinc (v := x2_1) (lv' := [(2, .int x2_1), (0, .ref jT), (1, .int x1)]) hx hb dX6_speakers_27 hl (k := 2) rfl (by rw [ex2_1]; rfl) (by decide) rfl (fun ls hl => ?_)
    refine lv_goto (tgt := 4) hx hb dX6_speakers_30 (by decide) ?_
    exact hk4 x1 x2_1 _ _ _ hf hP hD hS (lv_sub hl [1, 2, 0] rfl)
  have b4 : ∀ (n : Nat) (x1 : Int32) (x2 : Int32) (H : Heap) (locs : List Loc) (ls : Array Slot), ht_lp2 (fX6_speakers_b4 RT) n x1 x2 = some o → va_P D vwCl (wTw K jT aT RT.laws RT.kind RT.need RT.saved RT.voice RT.partner RT.speaks RT.count RT.day RT.heard RT.geese RT.z) H → va_D A (wTw K jT aT RT.laws RT.kind RT.need RT.saved RT.voice RT.partner RT.speaks RT.count RT.day RT.heard RT.geese RT.z) → va_S A s.heap H locs → lv_has ls 3 [(0, .ref jT), (1, .int x1), (2, .int x2)] → W p l e (headSpec wsX6_speakers rmX6_speakers).room s m ([.ref jT] : List Value).toArray below meth c H locs 0 0 Q (F0 m 4 ls []) := by
    intro n
    induction n with
    | zero =>
      intro x1 x2 H locs ls hf hP hD hS hl
      cases (show (none : Option Int32) = some o from hf)
    | succ n hk4 =>
      intro x1 x2 H locs ls hf hP hD hS hl
      replace hf : fX6_speakers_b4 RT (ht_lp2 (fX6_speakers_b4 RT) n) x1 x2 = some o := hf
      delta fX6_speakers_b4 at hf
      refine lv_iload_n hx hb dX6_speakers_4 rfl (lv_at hl 2 rfl) ?_
      refine lv_aload_n hx hb dX6_speakers_5 rfl (lv_at hl 0 rfl) ?_
      refine va_get (D := D) (ci := 6) (v := .int RT.count) (C := RX6) (T := TX6) (N := 12) hx hb hts iw6 hown hK hP 0 rfl rfl 7 (by decide) kw1 (fun _ h9 => h9) rfl dX6_speakers_6 ?_
      refine lv_icmp_ge (tgt := 33) hx hb dX6_speakers_9 (by decide) (fun c_2 => ?_) (fun c_2 => ?_)
      · replace hf := ht_t c_2 hf
        refine lv_iload_n hx hb dX6_speakers_33 rfl (lv_at hl 1 rfl) ?_
        have ho := Option.some.inj hf
        subst ho; subst hQ
        exact ht_iret hx hb hr hlk rfl hK hP hD hS dX6_speakers_34
      · replace hf := ht_f c_2 hf
        refine lv_aload_n hx hb dX6_speakers_12 rfl (lv_at hl 0 rfl) ?_
        refine va_get (D := D) (ci := 6) (v := .ref (aT 6)) (C := RX6) (T := TX6) (N := 12) hx hb hts iw6 hown hK hP 0 rfl rfl 6 (by decide) kw2 (fun _ h9 => h9) rfl dX6_speakers_13 ?_
        refine lv_iload_n hx hb dX6_speakers_16 rfl (lv_at hl 2 rfl) ?_
        obtain ⟨g_3, hf⟩ := ht_gd_ob hf
        refine va_zald hx hb hK hP 7 3 rfl rfl (ht_ix_in g_3) dX6_speakers_17 ?_
        refine lv_if_eq (tgt := 27) hx hb dX6_speakers_18 (by decide) (fun c_4 => ?_) (fun c_4 => ?_)
        · replace hf := ht_t c_4 hf
          exact b27 _ hk4 x1 x2 _ _ _ hf hP hD hS hl
        · replace hf := ht_f c_4 hf
          refine lv_iload_n hx hb dX6_speakers_21 rfl (lv_at hl 1 rfl) ?_
          refine lv_iconst (v := 1) hx hb dX6_speakers_22 (by decide) ?_
          refine lv_iload_n hx hb dX6_speakers_23 rfl (lv_at hl 2 rfl) ?_
          refine lv_ishl hx hb dX6_speakers_24 ?_
          refine lv_ior hx hb dX6_speakers_25 ?_
          obtain ⟨x1_5, ex1_5, hf⟩ := ht_nm_ob hf
          rw [← ex1_5]
          refine lv_istore_n (lv' := [(1, .int x1_5), (0, .ref jT), (2, .int x2)]) hx hb dX6_speakers_26 rfl hl (by decide) rfl (fun ls hl => ?_)
          exact b27 _ hk4 x1_5 x2 _ _ _ hf hP hD hS (lv_sub hl [1, 0, 2] rfl)
  delta fX6_speakers at hf
  refine lv_iconst (v := 0) hx hb dX6_speakers_0 (by decide) ?_
  refine lv_istore_n (lv' := [(1, .int (0 : Int32)), (0, .ref jT)]) hx hb dX6_speakers_1 rfl hl (by decide) rfl (fun ls hl => ?_)
  refine lv_iconst (v := 0) hx hb dX6_speakers_2 (by decide) ?_
  refine lv_istore_n (lv' := [(2, .int (0 : Int32)), (1, .int (0 : Int32)), (0, .ref jT)]) hx hb dX6_speakers_3 rfl hl (by decide) rfl (fun ls hl => ?_)
  exact b4  FU (0 : Int32) (0 : Int32) _ _ _ hf hP hD hS (lv_sub hl [2, 1, 0] rfl)
abbrev rmX6_pairs : Room := { frames := 0, cells := 0, slots := 0, locals := 0 }
theorem hdX6_pairs : yX6_pairs.cls = RX6 ∧ yX6_pairs.cls ≠ "java/lang/invoke/MethodHandle" ∧ yX6_pairs.cls ≠ "java/lang/invoke/VarHandle" ∧ (parseMethodDescriptor yX6_pairs.desc).map (fun d => d.parameters.length) = some 0 := by decide +kernel
def fX6_pairs_b25 (RT : TownV) (k4 : Int32 → Int32 → Option Int32) (x1 : Int32) (x2 : Int32) : Option Int32 := ht_nm (x2 + (1 : Int32)) (fun x2_1 => k4 x1 x2_1)
def fX6_pairs_b4 (RT : TownV) (k4 : Int32 → Int32 → Option Int32) (x1 : Int32) (x2 : Int32) : Option Int32 := if RT.count ≤ x2 then (some x1) else (ht_gd (ht_ix x2 8) (if (RT.partner x2.toNatClampNeg) ≤ x2 then (fX6_pairs_b25 RT k4 x1 x2) else (ht_nm (x1 + (1 : Int32)) (fun x1_5 => fX6_pairs_b25 RT k4 x1_5 x2))))
def fX6_pairs (RT : TownV) : Option Int32 := ht_lp2 (fX6_pairs_b4 RT) FU (0 : Int32) (0 : Int32)
set_option maxHeartbeats 1000000 in
set_option maxRecDepth 100000 in
theorem ctX6_pairs (l : Launch) (D : va_G) (K : Nat → ClassId) (jT : Nat) (aT : Nat → Nat) (RT : TownV) (o : Int32) (hf : fX6_pairs RT = some o) (sz : Nat) : Met l yX6_pairs wsX6_pairs rmX6_pairs (ht_Pre D K [.ref jT] (wTw K jT aT RT.laws RT.kind RT.need RT.saved RT.voice RT.partner RT.speaks RT.count RT.day RT.heard RT.geese RT.z) sz) (ht_Qi D K (wTw K jT aT RT.laws RT.kind RT.need RT.saved RT.voice RT.partner RT.speaks RT.count RT.day RT.heard RT.geese RT.z) o (va_A (wTw K jT aT RT.laws RT.kind RT.need RT.saved RT.voice RT.partner RT.speaks RT.count RT.day RT.heard RT.geese RT.z) sz)) 0 0 (va_A (wTw K jT aT RT.laws RT.kind RT.need RT.saved RT.voice RT.partner RT.speaks RT.count RT.day RT.heard RT.geese RT.z) sz) := by
  refine ht_enter (Qf := ht_Qi D K (wTw K jT aT RT.laws RT.kind RT.need RT.saved RT.voice RT.partner RT.speaks RT.count RT.day RT.heard RT.geese RT.z) o) (cc := cX6_pairs) (maxL := 3) (rt := (some .int)) (by decide) rfl (Nat.le_of_ble_eq_true rfl) ?_ sz
  intro p e s m below meth c A Q H locs ls hQ hx hb hr hlk hmn hml hown hts hA hK hP hD hS hl
  have hown : s.vm.findClass RX6 = some m.cls := hown
  have hF : CallFix p m c cX6_pairs 3 s ([.ref jT] : List Value).toArray wsX6_pairs RX6 := ⟨hx, hb, hml, hown, hts⟩
  have hl : lv_has ls 3 [(0, .ref jT)] := hl
  have iw6 : ∀ w ∈ u_ws RX6 TX6 12, w ∈ wsX6_pairs := by decide +kernel
  have kw1 := hts (.fieldLink RX6 41 "HeldTongues$Town" "count" "I") (by decide +kernel)
  have kw2 := hts (.fieldLink RX6 27 "HeldTongues$Town" "partner" "[I") (by decide +kernel)
  have b25 : ∀ (k4 : Int32 → Int32 → Option Int32) (hk4 : ∀ (x1 : Int32) (x2 : Int32) (H : Heap) (locs : List Loc) (ls : Array Slot), k4 x1 x2 = some o → va_P D vwCl (wTw K jT aT RT.laws RT.kind RT.need RT.saved RT.voice RT.partner RT.speaks RT.count RT.day RT.heard RT.geese RT.z) H → va_D A (wTw K jT aT RT.laws RT.kind RT.need RT.saved RT.voice RT.partner RT.speaks RT.count RT.day RT.heard RT.geese RT.z) → va_S A s.heap H locs → lv_has ls 3 [(0, .ref jT), (1, .int x1), (2, .int x2)] → W p l e (headSpec wsX6_pairs rmX6_pairs).room s m ([.ref jT] : List Value).toArray below meth c H locs 0 0 Q (F0 m 4 ls [])) (x1 : Int32) (x2 : Int32) (H : Heap) (locs : List Loc) (ls : Array Slot), fX6_pairs_b25 RT k4 x1 x2 = some o → va_P D vwCl (wTw K jT aT RT.laws RT.kind RT.need RT.saved RT.voice RT.partner RT.speaks RT.count RT.day RT.heard RT.geese RT.z) H → va_D A (wTw K jT aT RT.laws RT.kind RT.need RT.saved RT.voice RT.partner RT.speaks RT.count RT.day RT.heard RT.geese RT.z) → va_S A s.heap H locs → lv_has ls 3 [(0, .ref jT), (1, .int x1), (2, .int x2)] → W p l e (headSpec wsX6_pairs rmX6_pairs).room s m ([.ref jT] : List Value).toArray below meth c H locs 0 0 Q (F0 m 25 ls []) := by
    intro k4 hk4 x1 x2 H locs ls hf hP hD hS hl
    delta fX6_pairs_b25 at hf
    obtain ⟨x2_1, ex2_1, hf⟩ := ht_nm_ob hf
    refine lv_iinc (v := x2_1) (lv' := [(2, .int x2_1), (0, .ref jT), (1, .int x1)]) hx hb dX6_pairs_25 hl (k := 2) rfl (by rw [ex2_1]; rfl) (by decide) rfl (fun ls hl => ?_)
    refine lv_goto (tgt := 4) hx hb dX6_pairs_28 (by decide) ?_
    exact hk4 x1 x2_1 _ _ _ hf hP hD hS (lv_sub hl [1, 2, 0] rfl)
  have b4 : ∀ (n : Nat) (x1 : Int32) (x2 : Int32) (H : Heap) (locs : List Loc) (ls : Array Slot), ht_lp2 (fX6_pairs_b4 RT) n x1 x2 = some o → va_P D vwCl (wTw K jT aT RT.laws RT.kind RT.need RT.saved RT.voice RT.partner RT.speaks RT.count RT.day RT.heard RT.geese RT.z) H → va_D A (wTw K jT aT RT.laws RT.kind RT.need RT.saved RT.voice RT.partner RT.speaks RT.count RT.day RT.heard RT.geese RT.z) → va_S A s.heap H locs → lv_has ls 3 [(0, .ref jT), (1, .int x1), (2, .int x2)] → W p l e (headSpec wsX6_pairs rmX6_pairs).room s m ([.ref jT] : List Value).toArray below meth c H locs 0 0 Q (F0 m 4 ls []) := by
    intro n
    induction n with
    | zero =>
      intro x1 x2 H locs ls hf hP hD hS hl
      cases (show (none : Option Int32) = some o from hf)
    | succ n hk4 =>
      intro x1 x2 H locs ls hf hP hD hS hl
      replace hf : fX6_pairs_b4 RT (ht_lp2 (fX6_pairs_b4 RT) n) x1 x2 = some o := hf
      delta fX6_pairs_b4 at hf
      refine lv_iload_n hx hb dX6_pairs_4 rfl (lv_at hl 2 rfl) ?_
      refine lv_aload_n hx hb dX6_pairs_5 rfl (lv_at hl 0 rfl) ?_
      refine va_get (D := D) (ci := 6) (v := .int RT.count) (C := RX6) (T := TX6) (N := 12) hx hb hts iw6 hown hK hP 0 rfl rfl 7 (by decide) kw1 (fun _ h9 => h9) rfl dX6_pairs_6 ?_
      refine lv_icmp_ge (tgt := 31) hx hb dX6_pairs_9 (by decide) (fun c_2 => ?_) (fun c_2 => ?_)
      · replace hf := ht_t c_2 hf
        refine lv_iload_n hx hb dX6_pairs_31 rfl (lv_at hl 1 rfl) ?_
        have ho := Option.some.inj hf
        subst ho; subst hQ
        exact ht_iret hx hb hr hlk rfl hK hP hD hS dX6_pairs_32
      · replace hf := ht_f c_2 hf
        refine lv_aload_n hx hb dX6_pairs_12 rfl (lv_at hl 0 rfl) ?_
        refine va_get (D := D) (ci := 6) (v := .ref (aT 5)) (C := RX6) (T := TX6) (N := 12) hx hb hts iw6 hown hK hP 0 rfl rfl 5 (by decide) kw2 (fun _ h9 => h9) rfl dX6_pairs_13 ?_
        refine lv_iload_n hx hb dX6_pairs_16 rfl (lv_at hl 2 rfl) ?_
        obtain ⟨g_3, hf⟩ := ht_gd_ob hf
        refine va_iald hx hb hK hP 6 1 rfl rfl (ht_ix_in g_3) dX6_pairs_17 ?_
        refine lv_iload_n hx hb dX6_pairs_18 rfl (lv_at hl 2 rfl) ?_
        refine lv_icmp_le (tgt := 25) hx hb dX6_pairs_19 (by decide) (fun c_4 => ?_) (fun c_4 => ?_)
        · replace hf := ht_t c_4 hf
          exact b25 _ hk4 x1 x2 _ _ _ hf hP hD hS hl
        · replace hf := ht_f c_4 hf
          obtain ⟨x1_5, ex1_5, hf⟩ := ht_nm_ob hf
          refine lv_iinc (v := x1_5) (lv' := [(1, .int x1_5), (0, .ref jT), (2, .int x2)]) hx hb dX6_pairs_22 hl (k := 1) rfl (by rw [ex1_5]; rfl) (by decide) rfl (fun ls hl => ?_)
          exact b25 _ hk4 x1_5 x2 _ _ _ hf hP hD hS (lv_sub hl [1, 0, 2] rfl)
  delta fX6_pairs at hf
  refine lv_iconst (v := 0) hx hb dX6_pairs_0 (by decide) ?_
  refine lv_istore_n (lv' := [(1, .int (0 : Int32)), (0, .ref jT)]) hx hb dX6_pairs_1 rfl hl (by decide) rfl (fun ls hl => ?_)
  refine lv_iconst (v := 0) hx hb dX6_pairs_2 (by decide) ?_
  refine lv_istore_n (lv' := [(2, .int (0 : Int32)), (1, .int (0 : Int32)), (0, .ref jT)]) hx hb dX6_pairs_3 rfl hl (by decide) rfl (fun ls hl => ?_)
  exact b4  FU (0 : Int32) (0 : Int32) _ _ _ hf hP hD hS (lv_sub hl [2, 1, 0] rfl)
abbrev rmX6_fullOnes : Room := { frames := 0, cells := 0, slots := 0, locals := 0 }
theorem hdX6_fullOnes : yX6_fullOnes.cls = RX6 ∧ yX6_fullOnes.cls ≠ "java/lang/invoke/MethodHandle" ∧ yX6_fullOnes.cls ≠ "java/lang/invoke/VarHandle" ∧ (parseMethodDescriptor yX6_fullOnes.desc).map (fun d => d.parameters.length) = some 0 := by decide +kernel
def fX6_fullOnes_b26 (RT : TownV) (k4 : Int32 → Int32 → Option Int32) (x1 : Int32) (x2 : Int32) : Option Int32 := ht_nm (x2 + (1 : Int32)) (fun x2_1 => k4 x1 x2_1)
def fX6_fullOnes_b4 (RT : TownV) (k4 : Int32 → Int32 → Option Int32) (x1 : Int32) (x2 : Int32) : Option Int32 := if RT.count ≤ x2 then (some x1) else (ht_gd (ht_ix x2 8) (if (RT.need x2.toNatClampNeg) = (99 : Int32) then (ht_nm (x1 + (1 : Int32)) (fun x1_5 => fX6_fullOnes_b26 RT k4 x1_5 x2)) else (fX6_fullOnes_b26 RT k4 x1 x2)))
def fX6_fullOnes (RT : TownV) : Option Int32 := ht_lp2 (fX6_fullOnes_b4 RT) FU (0 : Int32) (0 : Int32)
set_option maxHeartbeats 1000000 in
set_option maxRecDepth 100000 in
theorem ctX6_fullOnes (l : Launch) (D : va_G) (K : Nat → ClassId) (jT : Nat) (aT : Nat → Nat) (RT : TownV) (o : Int32) (hf : fX6_fullOnes RT = some o) (sz : Nat) : Met l yX6_fullOnes wsX6_fullOnes rmX6_fullOnes (ht_Pre D K [.ref jT] (wTw K jT aT RT.laws RT.kind RT.need RT.saved RT.voice RT.partner RT.speaks RT.count RT.day RT.heard RT.geese RT.z) sz) (ht_Qi D K (wTw K jT aT RT.laws RT.kind RT.need RT.saved RT.voice RT.partner RT.speaks RT.count RT.day RT.heard RT.geese RT.z) o (va_A (wTw K jT aT RT.laws RT.kind RT.need RT.saved RT.voice RT.partner RT.speaks RT.count RT.day RT.heard RT.geese RT.z) sz)) 0 0 (va_A (wTw K jT aT RT.laws RT.kind RT.need RT.saved RT.voice RT.partner RT.speaks RT.count RT.day RT.heard RT.geese RT.z) sz) := by
  refine ht_enter (Qf := ht_Qi D K (wTw K jT aT RT.laws RT.kind RT.need RT.saved RT.voice RT.partner RT.speaks RT.count RT.day RT.heard RT.geese RT.z) o) (cc := cX6_fullOnes) (maxL := 3) (rt := (some .int)) (by decide) rfl (Nat.le_of_ble_eq_true rfl) ?_ sz
  intro p e s m below meth c A Q H locs ls hQ hx hb hr hlk hmn hml hown hts hA hK hP hD hS hl
  have hown : s.vm.findClass RX6 = some m.cls := hown
  have hF : CallFix p m c cX6_fullOnes 3 s ([.ref jT] : List Value).toArray wsX6_fullOnes RX6 := ⟨hx, hb, hml, hown, hts⟩
  have hl : lv_has ls 3 [(0, .ref jT)] := hl
  have iw6 : ∀ w ∈ u_ws RX6 TX6 12, w ∈ wsX6_fullOnes := by decide +kernel
  have kw1 := hts (.fieldLink RX6 41 "HeldTongues$Town" "count" "I") (by decide +kernel)
  have kw2 := hts (.fieldLink RX6 18 "HeldTongues$Town" "need" "[I") (by decide +kernel)
  have b26 : ∀ (k4 : Int32 → Int32 → Option Int32) (hk4 : ∀ (x1 : Int32) (x2 : Int32) (H : Heap) (locs : List Loc) (ls : Array Slot), k4 x1 x2 = some o → va_P D vwCl (wTw K jT aT RT.laws RT.kind RT.need RT.saved RT.voice RT.partner RT.speaks RT.count RT.day RT.heard RT.geese RT.z) H → va_D A (wTw K jT aT RT.laws RT.kind RT.need RT.saved RT.voice RT.partner RT.speaks RT.count RT.day RT.heard RT.geese RT.z) → va_S A s.heap H locs → lv_has ls 3 [(0, .ref jT), (1, .int x1), (2, .int x2)] → W p l e (headSpec wsX6_fullOnes rmX6_fullOnes).room s m ([.ref jT] : List Value).toArray below meth c H locs 0 0 Q (F0 m 4 ls [])) (x1 : Int32) (x2 : Int32) (H : Heap) (locs : List Loc) (ls : Array Slot), fX6_fullOnes_b26 RT k4 x1 x2 = some o → va_P D vwCl (wTw K jT aT RT.laws RT.kind RT.need RT.saved RT.voice RT.partner RT.speaks RT.count RT.day RT.heard RT.geese RT.z) H → va_D A (wTw K jT aT RT.laws RT.kind RT.need RT.saved RT.voice RT.partner RT.speaks RT.count RT.day RT.heard RT.geese RT.z) → va_S A s.heap H locs → lv_has ls 3 [(0, .ref jT), (1, .int x1), (2, .int x2)] → W p l e (headSpec wsX6_fullOnes rmX6_fullOnes).room s m ([.ref jT] : List Value).toArray below meth c H locs 0 0 Q (F0 m 26 ls []) := by
    intro k4 hk4 x1 x2 H locs ls hf hP hD hS hl
    delta fX6_fullOnes_b26 at hf
    obtain ⟨x2_1, ex2_1, hf⟩ := ht_nm_ob hf
    refine lv_iinc (v := x2_1) (lv' := [(2, .int x2_1), (0, .ref jT), (1, .int x1)]) hx hb dX6_fullOnes_26 hl (k := 2) rfl (by rw [ex2_1]; rfl) (by decide) rfl (fun ls hl => ?_)
    refine lv_goto (tgt := 4) hx hb dX6_fullOnes_29 (by decide) ?_
    exact hk4 x1 x2_1 _ _ _ hf hP hD hS (lv_sub hl [1, 2, 0] rfl)
  have b4 : ∀ (n : Nat) (x1 : Int32) (x2 : Int32) (H : Heap) (locs : List Loc) (ls : Array Slot), ht_lp2 (fX6_fullOnes_b4 RT) n x1 x2 = some o → va_P D vwCl (wTw K jT aT RT.laws RT.kind RT.need RT.saved RT.voice RT.partner RT.speaks RT.count RT.day RT.heard RT.geese RT.z) H → va_D A (wTw K jT aT RT.laws RT.kind RT.need RT.saved RT.voice RT.partner RT.speaks RT.count RT.day RT.heard RT.geese RT.z) → va_S A s.heap H locs → lv_has ls 3 [(0, .ref jT), (1, .int x1), (2, .int x2)] → W p l e (headSpec wsX6_fullOnes rmX6_fullOnes).room s m ([.ref jT] : List Value).toArray below meth c H locs 0 0 Q (F0 m 4 ls []) := by
    intro n
    induction n with
    | zero =>
      intro x1 x2 H locs ls hf hP hD hS hl
      cases (show (none : Option Int32) = some o from hf)
    | succ n hk4 =>
      intro x1 x2 H locs ls hf hP hD hS hl
      replace hf : fX6_fullOnes_b4 RT (ht_lp2 (fX6_fullOnes_b4 RT) n) x1 x2 = some o := hf
      delta fX6_fullOnes_b4 at hf
      refine lv_iload_n hx hb dX6_fullOnes_4 rfl (lv_at hl 2 rfl) ?_
      refine lv_aload_n hx hb dX6_fullOnes_5 rfl (lv_at hl 0 rfl) ?_
      refine va_get (D := D) (ci := 6) (v := .int RT.count) (C := RX6) (T := TX6) (N := 12) hx hb hts iw6 hown hK hP 0 rfl rfl 7 (by decide) kw1 (fun _ h9 => h9) rfl dX6_fullOnes_6 ?_
      refine lv_icmp_ge (tgt := 32) hx hb dX6_fullOnes_9 (by decide) (fun c_2 => ?_) (fun c_2 => ?_)
      · replace hf := ht_t c_2 hf
        refine lv_iload_n hx hb dX6_fullOnes_32 rfl (lv_at hl 1 rfl) ?_
        have ho := Option.some.inj hf
        subst ho; subst hQ
        exact ht_iret hx hb hr hlk rfl hK hP hD hS dX6_fullOnes_33
      · replace hf := ht_f c_2 hf
        refine lv_aload_n hx hb dX6_fullOnes_12 rfl (lv_at hl 0 rfl) ?_
        refine va_get (D := D) (ci := 6) (v := .ref (aT 2)) (C := RX6) (T := TX6) (N := 12) hx hb hts iw6 hown hK hP 0 rfl rfl 2 (by decide) kw2 (fun _ h9 => h9) rfl dX6_fullOnes_13 ?_
        refine lv_iload_n hx hb dX6_fullOnes_16 rfl (lv_at hl 2 rfl) ?_
        obtain ⟨g_3, hf⟩ := ht_gd_ob hf
        refine va_iald hx hb hK hP 3 1 rfl rfl (ht_ix_in g_3) dX6_fullOnes_17 ?_
        refine lv_bipush (v := 99) hx hb dX6_fullOnes_18 (by decide) ?_
        refine lv_icmp_ne (tgt := 26) hx hb dX6_fullOnes_20 (by decide) (fun c_4 => ?_) (fun c_4 => ?_)
        · replace hf := ht_f c_4 hf
          exact b26 _ hk4 x1 x2 _ _ _ hf hP hD hS hl
        · replace hf := ht_t c_4 hf
          obtain ⟨x1_5, ex1_5, hf⟩ := ht_nm_ob hf
          refine lv_iinc (v := x1_5) (lv' := [(1, .int x1_5), (0, .ref jT), (2, .int x2)]) hx hb dX6_fullOnes_23 hl (k := 1) rfl (by rw [ex1_5]; rfl) (by decide) rfl (fun ls hl => ?_)
          exact b26 _ hk4 x1_5 x2 _ _ _ hf hP hD hS (lv_sub hl [1, 0, 2] rfl)
  delta fX6_fullOnes at hf
  refine lv_iconst (v := 0) hx hb dX6_fullOnes_0 (by decide) ?_
  refine lv_istore_n (lv' := [(1, .int (0 : Int32)), (0, .ref jT)]) hx hb dX6_fullOnes_1 rfl hl (by decide) rfl (fun ls hl => ?_)
  refine lv_iconst (v := 0) hx hb dX6_fullOnes_2 (by decide) ?_
  refine lv_istore_n (lv' := [(2, .int (0 : Int32)), (1, .int (0 : Int32)), (0, .ref jT)]) hx hb dX6_fullOnes_3 rfl hl (by decide) rfl (fun ls hl => ?_)
  exact b4  FU (0 : Int32) (0 : Int32) _ _ _ hf hP hD hS (lv_sub hl [2, 1, 0] rfl)
